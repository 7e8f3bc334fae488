section
-- ===== PART A: goes FIRST, ahead of the names: the tables' words, and 'selects' of the private methods out of them =====
/-- a private method of a class that the tables say can be made, by its rows of tables_1 -/
def lw_okq (q : MethodName × Nat) : Prop := (q.1.cls ≠ "java/lang/invoke/MethodHandle" ∧ q.1.cls ≠ "java/lang/invoke/VarHandle") ∧ Cond.instantiable q.1.cls q.2 ∈ tables_1 ∧ Cond.privateMethod q.1 ∈ tables_1 ∧ Cond.instanceMethod q.1 ∈ tables_1
theorem lw_p0 : lw_okq (⟨"HighWater$Tape", "readToken", "()V"⟩, 10) := ⟨⟨by decide +kernel, by decide +kernel⟩, List.mem_of_getElem? (i := 65) (by decide +kernel), List.mem_of_getElem? (i := 225) (by decide +kernel), List.mem_of_getElem? (i := 226) (by decide +kernel)⟩
theorem lw_p1 : lw_okq (⟨"HighWater$Tape", "readWord", "()V"⟩, 10) := ⟨⟨by decide +kernel, by decide +kernel⟩, List.mem_of_getElem? (i := 65) (by decide +kernel), List.mem_of_getElem? (i := 232) (by decide +kernel), List.mem_of_getElem? (i := 233) (by decide +kernel)⟩
theorem lw_p2 : lw_okq (⟨"HighWater$Tape", "isSpelledFrom", "(I)Z"⟩, 10) := ⟨⟨by decide +kernel, by decide +kernel⟩, List.mem_of_getElem? (i := 65) (by decide +kernel), List.mem_of_getElem? (i := 239) (by decide +kernel), List.mem_of_getElem? (i := 240) (by decide +kernel)⟩
theorem lw_p3 : lw_okq (⟨"HighWater$Tape", "readNumber", "()V"⟩, 10) := ⟨⟨by decide +kernel, by decide +kernel⟩, List.mem_of_getElem? (i := 65) (by decide +kernel), List.mem_of_getElem? (i := 246) (by decide +kernel), List.mem_of_getElem? (i := 247) (by decide +kernel)⟩
theorem lw_p4 : lw_okq (⟨"HighWater$Tape", "pass", "(I)V"⟩, 10) := ⟨⟨by decide +kernel, by decide +kernel⟩, List.mem_of_getElem? (i := 65) (by decide +kernel), List.mem_of_getElem? (i := 253) (by decide +kernel), List.mem_of_getElem? (i := 254) (by decide +kernel)⟩
theorem lw_p5 : lw_okq (⟨"HighWater$Tape", "refuse", "()V"⟩, 10) := ⟨⟨by decide +kernel, by decide +kernel⟩, List.mem_of_getElem? (i := 65) (by decide +kernel), List.mem_of_getElem? (i := 257) (by decide +kernel), List.mem_of_getElem? (i := 258) (by decide +kernel)⟩
theorem lw_p6 : lw_okq (⟨"HighWater$Tape", "readOr", "()V"⟩, 10) := ⟨⟨by decide +kernel, by decide +kernel⟩, List.mem_of_getElem? (i := 65) (by decide +kernel), List.mem_of_getElem? (i := 261) (by decide +kernel), List.mem_of_getElem? (i := 262) (by decide +kernel)⟩
theorem lw_p7 : lw_okq (⟨"HighWater$Tape", "readAnd", "()V"⟩, 10) := ⟨⟨by decide +kernel, by decide +kernel⟩, List.mem_of_getElem? (i := 65) (by decide +kernel), List.mem_of_getElem? (i := 265) (by decide +kernel), List.mem_of_getElem? (i := 266) (by decide +kernel)⟩
theorem lw_p8 : lw_okq (⟨"HighWater$Tape", "readNot", "()V"⟩, 10) := ⟨⟨by decide +kernel, by decide +kernel⟩, List.mem_of_getElem? (i := 65) (by decide +kernel), List.mem_of_getElem? (i := 269) (by decide +kernel), List.mem_of_getElem? (i := 270) (by decide +kernel)⟩
theorem lw_p9 : lw_okq (⟨"HighWater$Tape", "opens", "()Z"⟩, 10) := ⟨⟨by decide +kernel, by decide +kernel⟩, List.mem_of_getElem? (i := 65) (by decide +kernel), List.mem_of_getElem? (i := 273) (by decide +kernel), List.mem_of_getElem? (i := 274) (by decide +kernel)⟩
theorem lw_p10 : lw_okq (⟨"HighWater$Tape", "emit", "(I)V"⟩, 10) := ⟨⟨by decide +kernel, by decide +kernel⟩, List.mem_of_getElem? (i := 65) (by decide +kernel), List.mem_of_getElem? (i := 277) (by decide +kernel), List.mem_of_getElem? (i := 278) (by decide +kernel)⟩
theorem lw_p11 : lw_okq (⟨"HighWater$Tape", "readSum", "()V"⟩, 10) := ⟨⟨by decide +kernel, by decide +kernel⟩, List.mem_of_getElem? (i := 65) (by decide +kernel), List.mem_of_getElem? (i := 281) (by decide +kernel), List.mem_of_getElem? (i := 282) (by decide +kernel)⟩
theorem lw_p12 : lw_okq (⟨"HighWater$Tape", "readTerm", "()V"⟩, 10) := ⟨⟨by decide +kernel, by decide +kernel⟩, List.mem_of_getElem? (i := 65) (by decide +kernel), List.mem_of_getElem? (i := 285) (by decide +kernel), List.mem_of_getElem? (i := 286) (by decide +kernel)⟩
theorem lw_p13 : lw_okq (⟨"HighWater$Tape", "readOne", "()V"⟩, 10) := ⟨⟨by decide +kernel, by decide +kernel⟩, List.mem_of_getElem? (i := 65) (by decide +kernel), List.mem_of_getElem? (i := 289) (by decide +kernel), List.mem_of_getElem? (i := 290) (by decide +kernel)⟩
theorem lw_p14 : lw_okq (⟨"HighWater", "isOne", "(I)Z"⟩, 13) := ⟨⟨by decide +kernel, by decide +kernel⟩, List.mem_of_getElem? (i := 23) (by decide +kernel), List.mem_of_getElem? (i := 392) (by decide +kernel), List.mem_of_getElem? (i := 393) (by decide +kernel)⟩
theorem lw_p15 : lw_okq (⟨"HighWater", "isIsland", "(I)Z"⟩, 13) := ⟨⟨by decide +kernel, by decide +kernel⟩, List.mem_of_getElem? (i := 23) (by decide +kernel), List.mem_of_getElem? (i := 396) (by decide +kernel), List.mem_of_getElem? (i := 397) (by decide +kernel)⟩
def lw_privs_1 : List (MethodName × Nat) := [(⟨"HighWater$Tape", "readToken", "()V"⟩, 10), (⟨"HighWater$Tape", "readWord", "()V"⟩, 10), (⟨"HighWater$Tape", "isSpelledFrom", "(I)Z"⟩, 10), (⟨"HighWater$Tape", "readNumber", "()V"⟩, 10), (⟨"HighWater$Tape", "pass", "(I)V"⟩, 10), (⟨"HighWater$Tape", "refuse", "()V"⟩, 10), (⟨"HighWater$Tape", "readOr", "()V"⟩, 10), (⟨"HighWater$Tape", "readAnd", "()V"⟩, 10), (⟨"HighWater$Tape", "readNot", "()V"⟩, 10), (⟨"HighWater$Tape", "opens", "()Z"⟩, 10), (⟨"HighWater$Tape", "emit", "(I)V"⟩, 10), (⟨"HighWater$Tape", "readSum", "()V"⟩, 10), (⟨"HighWater$Tape", "readTerm", "()V"⟩, 10), (⟨"HighWater$Tape", "readOne", "()V"⟩, 10), (⟨"HighWater", "isOne", "(I)Z"⟩, 13), (⟨"HighWater", "isIsland", "(I)Z"⟩, 13)]
theorem lw_r1 : ∀ q ∈ lw_privs_1, lw_okq q := List.forall_mem_cons.mpr ⟨lw_p0, List.forall_mem_cons.mpr ⟨lw_p1, List.forall_mem_cons.mpr ⟨lw_p2, List.forall_mem_cons.mpr ⟨lw_p3, List.forall_mem_cons.mpr ⟨lw_p4, List.forall_mem_cons.mpr ⟨lw_p5, List.forall_mem_cons.mpr ⟨lw_p6, List.forall_mem_cons.mpr ⟨lw_p7, List.forall_mem_cons.mpr ⟨lw_p8, List.forall_mem_cons.mpr ⟨lw_p9, List.forall_mem_cons.mpr ⟨lw_p10, List.forall_mem_cons.mpr ⟨lw_p11, List.forall_mem_cons.mpr ⟨lw_p12, List.forall_mem_cons.mpr ⟨lw_p13, List.forall_mem_cons.mpr ⟨lw_p14, List.forall_mem_cons.mpr ⟨lw_p15, fun _ h => absurd h List.not_mem_nil⟩⟩⟩⟩⟩⟩⟩⟩⟩⟩⟩⟩⟩⟩⟩⟩
theorem lw_p16 : lw_okq (⟨"HighWater", "textAt", "(I)LHighWater$Text;"⟩, 13) := ⟨⟨by decide +kernel, by decide +kernel⟩, List.mem_of_getElem? (i := 23) (by decide +kernel), List.mem_of_getElem? (i := 423) (by decide +kernel), List.mem_of_getElem? (i := 424) (by decide +kernel)⟩
theorem lw_p17 : lw_okq (⟨"HighWater", "name", "(IIIIII)V"⟩, 13) := ⟨⟨by decide +kernel, by decide +kernel⟩, List.mem_of_getElem? (i := 23) (by decide +kernel), List.mem_of_getElem? (i := 431) (by decide +kernel), List.mem_of_getElem? (i := 432) (by decide +kernel)⟩
theorem lw_p18 : lw_okq (⟨"HighWater", "law", "()LHighWater$Text;"⟩, 13) := ⟨⟨by decide +kernel, by decide +kernel⟩, List.mem_of_getElem? (i := 23) (by decide +kernel), List.mem_of_getElem? (i := 435) (by decide +kernel), List.mem_of_getElem? (i := 436) (by decide +kernel)⟩
theorem lw_p19 : lw_okq (⟨"HighWater", "saysOf", "(LHighWater$Text;I)I"⟩, 13) := ⟨⟨by decide +kernel, by decide +kernel⟩, List.mem_of_getElem? (i := 23) (by decide +kernel), List.mem_of_getElem? (i := 439) (by decide +kernel), List.mem_of_getElem? (i := 440) (by decide +kernel)⟩
theorem lw_p20 : lw_okq (⟨"HighWater", "islandAt", "(I)LHighWater$Island;"⟩, 13) := ⟨⟨by decide +kernel, by decide +kernel⟩, List.mem_of_getElem? (i := 23) (by decide +kernel), List.mem_of_getElem? (i := 552) (by decide +kernel), List.mem_of_getElem? (i := 553) (by decide +kernel)⟩
theorem lw_p21 : lw_okq (⟨"HighWater", "lookAt", "(ILHighWater$Text;)V"⟩, 13) := ⟨⟨by decide +kernel, by decide +kernel⟩, List.mem_of_getElem? (i := 23) (by decide +kernel), List.mem_of_getElem? (i := 560) (by decide +kernel), List.mem_of_getElem? (i := 561) (by decide +kernel)⟩
theorem lw_p22 : lw_okq (⟨"HighWater", "worthUnder", "(LHighWater$Text;II)I"⟩, 13) := ⟨⟨by decide +kernel, by decide +kernel⟩, List.mem_of_getElem? (i := 23) (by decide +kernel), List.mem_of_getElem? (i := 569) (by decide +kernel), List.mem_of_getElem? (i := 570) (by decide +kernel)⟩
theorem lw_p23 : lw_okq (⟨"HighWater$Top", "rootOf", "(I)I"⟩, 9) := ⟨⟨by decide +kernel, by decide +kernel⟩, List.mem_of_getElem? (i := 106) (by decide +kernel), List.mem_of_getElem? (i := 625) (by decide +kernel), List.mem_of_getElem? (i := 626) (by decide +kernel)⟩
theorem lw_p24 : lw_okq (⟨"HighWater$Top", "rootUnder", "(I)I"⟩, 9) := ⟨⟨by decide +kernel, by decide +kernel⟩, List.mem_of_getElem? (i := 106) (by decide +kernel), List.mem_of_getElem? (i := 638) (by decide +kernel), List.mem_of_getElem? (i := 639) (by decide +kernel)⟩
theorem lw_p25 : lw_okq (⟨"HighWater$Top", "gainAt", "(II)I"⟩, 9) := ⟨⟨by decide +kernel, by decide +kernel⟩, List.mem_of_getElem? (i := 106) (by decide +kernel), List.mem_of_getElem? (i := 662) (by decide +kernel), List.mem_of_getElem? (i := 663) (by decide +kernel)⟩
theorem lw_p26 : lw_okq (⟨"HighWater", "costOf", "(III)I"⟩, 13) := ⟨⟨by decide +kernel, by decide +kernel⟩, List.mem_of_getElem? (i := 23) (by decide +kernel), List.mem_of_getElem? (i := 670) (by decide +kernel), List.mem_of_getElem? (i := 671) (by decide +kernel)⟩
theorem lw_p27 : lw_okq (⟨"HighWater", "lookWithCosts", "(I)V"⟩, 13) := ⟨⟨by decide +kernel, by decide +kernel⟩, List.mem_of_getElem? (i := 23) (by decide +kernel), List.mem_of_getElem? (i := 685) (by decide +kernel), List.mem_of_getElem? (i := 686) (by decide +kernel)⟩
theorem lw_p28 : lw_okq (⟨"HighWater", "everybody", "()I"⟩, 13) := ⟨⟨by decide +kernel, by decide +kernel⟩, List.mem_of_getElem? (i := 23) (by decide +kernel), List.mem_of_getElem? (i := 715) (by decide +kernel), List.mem_of_getElem? (i := 716) (by decide +kernel)⟩
theorem lw_p29 : lw_okq (⟨"HighWater", "partIslands", "(IIZ)V"⟩, 13) := ⟨⟨by decide +kernel, by decide +kernel⟩, List.mem_of_getElem? (i := 23) (by decide +kernel), List.mem_of_getElem? (i := 757) (by decide +kernel), List.mem_of_getElem? (i := 758) (by decide +kernel)⟩
theorem lw_p30 : lw_okq (⟨"HighWater", "refusalOfOwners", "(I)I"⟩, 13) := ⟨⟨by decide +kernel, by decide +kernel⟩, List.mem_of_getElem? (i := 23) (by decide +kernel), List.mem_of_getElem? (i := 786) (by decide +kernel), List.mem_of_getElem? (i := 787) (by decide +kernel)⟩
theorem lw_p31 : lw_okq (⟨"HighWater", "refusalOfSheet", "(I)I"⟩, 13) := ⟨⟨by decide +kernel, by decide +kernel⟩, List.mem_of_getElem? (i := 23) (by decide +kernel), List.mem_of_getElem? (i := 790) (by decide +kernel), List.mem_of_getElem? (i := 791) (by decide +kernel)⟩
def lw_privs_2 : List (MethodName × Nat) := [(⟨"HighWater", "textAt", "(I)LHighWater$Text;"⟩, 13), (⟨"HighWater", "name", "(IIIIII)V"⟩, 13), (⟨"HighWater", "law", "()LHighWater$Text;"⟩, 13), (⟨"HighWater", "saysOf", "(LHighWater$Text;I)I"⟩, 13), (⟨"HighWater", "islandAt", "(I)LHighWater$Island;"⟩, 13), (⟨"HighWater", "lookAt", "(ILHighWater$Text;)V"⟩, 13), (⟨"HighWater", "worthUnder", "(LHighWater$Text;II)I"⟩, 13), (⟨"HighWater$Top", "rootOf", "(I)I"⟩, 9), (⟨"HighWater$Top", "rootUnder", "(I)I"⟩, 9), (⟨"HighWater$Top", "gainAt", "(II)I"⟩, 9), (⟨"HighWater", "costOf", "(III)I"⟩, 13), (⟨"HighWater", "lookWithCosts", "(I)V"⟩, 13), (⟨"HighWater", "everybody", "()I"⟩, 13), (⟨"HighWater", "partIslands", "(IIZ)V"⟩, 13), (⟨"HighWater", "refusalOfOwners", "(I)I"⟩, 13), (⟨"HighWater", "refusalOfSheet", "(I)I"⟩, 13)]
theorem lw_r2 : ∀ q ∈ lw_privs_2, lw_okq q := List.forall_mem_cons.mpr ⟨lw_p16, List.forall_mem_cons.mpr ⟨lw_p17, List.forall_mem_cons.mpr ⟨lw_p18, List.forall_mem_cons.mpr ⟨lw_p19, List.forall_mem_cons.mpr ⟨lw_p20, List.forall_mem_cons.mpr ⟨lw_p21, List.forall_mem_cons.mpr ⟨lw_p22, List.forall_mem_cons.mpr ⟨lw_p23, List.forall_mem_cons.mpr ⟨lw_p24, List.forall_mem_cons.mpr ⟨lw_p25, List.forall_mem_cons.mpr ⟨lw_p26, List.forall_mem_cons.mpr ⟨lw_p27, List.forall_mem_cons.mpr ⟨lw_p28, List.forall_mem_cons.mpr ⟨lw_p29, List.forall_mem_cons.mpr ⟨lw_p30, List.forall_mem_cons.mpr ⟨lw_p31, fun _ h => absurd h List.not_mem_nil⟩⟩⟩⟩⟩⟩⟩⟩⟩⟩⟩⟩⟩⟩⟩⟩
theorem lw_p32 : lw_okq (⟨"HighWater", "firstOtherwise", "(LHighWater$Sheet;)I"⟩, 13) := ⟨⟨by decide +kernel, by decide +kernel⟩, List.mem_of_getElem? (i := 23) (by decide +kernel), List.mem_of_getElem? (i := 797) (by decide +kernel), List.mem_of_getElem? (i := 798) (by decide +kernel)⟩
theorem lw_p33 : lw_okq (⟨"HighWater", "lookForStorms", "(I)V"⟩, 13) := ⟨⟨by decide +kernel, by decide +kernel⟩, List.mem_of_getElem? (i := 23) (by decide +kernel), List.mem_of_getElem? (i := 831) (by decide +kernel), List.mem_of_getElem? (i := 832) (by decide +kernel)⟩
theorem lw_p34 : lw_okq (⟨"HighWater", "stormOf", "(II)I"⟩, 13) := ⟨⟨by decide +kernel, by decide +kernel⟩, List.mem_of_getElem? (i := 23) (by decide +kernel), List.mem_of_getElem? (i := 835) (by decide +kernel), List.mem_of_getElem? (i := 836) (by decide +kernel)⟩
theorem lw_p35 : lw_okq (⟨"HighWater", "keptBy", "(I)I"⟩, 13) := ⟨⟨by decide +kernel, by decide +kernel⟩, List.mem_of_getElem? (i := 23) (by decide +kernel), List.mem_of_getElem? (i := 839) (by decide +kernel), List.mem_of_getElem? (i := 840) (by decide +kernel)⟩
theorem lw_p36 : lw_okq (⟨"HighWater", "gainBy", "(III)I"⟩, 13) := ⟨⟨by decide +kernel, by decide +kernel⟩, List.mem_of_getElem? (i := 23) (by decide +kernel), List.mem_of_getElem? (i := 846) (by decide +kernel), List.mem_of_getElem? (i := 847) (by decide +kernel)⟩
theorem lw_p37 : lw_okq (⟨"HighWaterModel", "next", "()V"⟩, 41) := ⟨⟨by decide +kernel, by decide +kernel⟩, List.mem_of_getElem? (i := 900) (by decide +kernel), List.mem_of_getElem? (i := 910) (by decide +kernel), List.mem_of_getElem? (i := 911) (by decide +kernel)⟩
theorem lw_p38 : lw_okq (⟨"HighWaterModel", "wordFrom", "(II)I"⟩, 41) := ⟨⟨by decide +kernel, by decide +kernel⟩, List.mem_of_getElem? (i := 900) (by decide +kernel), List.mem_of_getElem? (i := 917) (by decide +kernel), List.mem_of_getElem? (i := 918) (by decide +kernel)⟩
theorem lw_p39 : lw_okq (⟨"HighWaterModel", "eRead", "()Z"⟩, 41) := ⟨⟨by decide +kernel, by decide +kernel⟩, List.mem_of_getElem? (i := 900) (by decide +kernel), List.mem_of_getElem? (i := 921) (by decide +kernel), List.mem_of_getElem? (i := 922) (by decide +kernel)⟩
theorem lw_p40 : lw_okq (⟨"HighWaterModel", "puts", "(I)V"⟩, 41) := ⟨⟨by decide +kernel, by decide +kernel⟩, List.mem_of_getElem? (i := 900) (by decide +kernel), List.mem_of_getElem? (i := 926) (by decide +kernel), List.mem_of_getElem? (i := 927) (by decide +kernel)⟩
theorem lw_p41 : lw_okq (⟨"HighWaterModel", "unwinds", "(I)V"⟩, 41) := ⟨⟨by decide +kernel, by decide +kernel⟩, List.mem_of_getElem? (i := 900) (by decide +kernel), List.mem_of_getElem? (i := 930) (by decide +kernel), List.mem_of_getElem? (i := 931) (by decide +kernel)⟩
theorem lw_p42 : lw_okq (⟨"HighWaterModel", "opensOne", "(I)Z"⟩, 41) := ⟨⟨by decide +kernel, by decide +kernel⟩, List.mem_of_getElem? (i := 900) (by decide +kernel), List.mem_of_getElem? (i := 937) (by decide +kernel), List.mem_of_getElem? (i := 938) (by decide +kernel)⟩
theorem lw_p43 : lw_okq (⟨"HighWaterModel", "holds", "(I)V"⟩, 41) := ⟨⟨by decide +kernel, by decide +kernel⟩, List.mem_of_getElem? (i := 900) (by decide +kernel), List.mem_of_getElem? (i := 941) (by decide +kernel), List.mem_of_getElem? (i := 942) (by decide +kernel)⟩
theorem lw_p44 : lw_okq (⟨"HighWaterModel", "signOf", "()I"⟩, 41) := ⟨⟨by decide +kernel, by decide +kernel⟩, List.mem_of_getElem? (i := 900) (by decide +kernel), List.mem_of_getElem? (i := 945) (by decide +kernel), List.mem_of_getElem? (i := 946) (by decide +kernel)⟩
theorem lw_p45 : lw_okq (⟨"HighWaterModel", "between", "(I)Z"⟩, 41) := ⟨⟨by decide +kernel, by decide +kernel⟩, List.mem_of_getElem? (i := 900) (by decide +kernel), List.mem_of_getElem? (i := 949) (by decide +kernel), List.mem_of_getElem? (i := 950) (by decide +kernel)⟩
theorem lw_p46 : lw_okq (⟨"HighWaterModel", "isOne", "(I)Z"⟩, 41) := ⟨⟨by decide +kernel, by decide +kernel⟩, List.mem_of_getElem? (i := 900) (by decide +kernel), List.mem_of_getElem? (i := 1096) (by decide +kernel), List.mem_of_getElem? (i := 1097) (by decide +kernel)⟩
theorem lw_p47 : lw_okq (⟨"HighWaterModel", "isIsland", "(I)Z"⟩, 41) := ⟨⟨by decide +kernel, by decide +kernel⟩, List.mem_of_getElem? (i := 900) (by decide +kernel), List.mem_of_getElem? (i := 1100) (by decide +kernel), List.mem_of_getElem? (i := 1101) (by decide +kernel)⟩
def lw_privs_3 : List (MethodName × Nat) := [(⟨"HighWater", "firstOtherwise", "(LHighWater$Sheet;)I"⟩, 13), (⟨"HighWater", "lookForStorms", "(I)V"⟩, 13), (⟨"HighWater", "stormOf", "(II)I"⟩, 13), (⟨"HighWater", "keptBy", "(I)I"⟩, 13), (⟨"HighWater", "gainBy", "(III)I"⟩, 13), (⟨"HighWaterModel", "next", "()V"⟩, 41), (⟨"HighWaterModel", "wordFrom", "(II)I"⟩, 41), (⟨"HighWaterModel", "eRead", "()Z"⟩, 41), (⟨"HighWaterModel", "puts", "(I)V"⟩, 41), (⟨"HighWaterModel", "unwinds", "(I)V"⟩, 41), (⟨"HighWaterModel", "opensOne", "(I)Z"⟩, 41), (⟨"HighWaterModel", "holds", "(I)V"⟩, 41), (⟨"HighWaterModel", "signOf", "()I"⟩, 41), (⟨"HighWaterModel", "between", "(I)Z"⟩, 41), (⟨"HighWaterModel", "isOne", "(I)Z"⟩, 41), (⟨"HighWaterModel", "isIsland", "(I)Z"⟩, 41)]
theorem lw_r3 : ∀ q ∈ lw_privs_3, lw_okq q := List.forall_mem_cons.mpr ⟨lw_p32, List.forall_mem_cons.mpr ⟨lw_p33, List.forall_mem_cons.mpr ⟨lw_p34, List.forall_mem_cons.mpr ⟨lw_p35, List.forall_mem_cons.mpr ⟨lw_p36, List.forall_mem_cons.mpr ⟨lw_p37, List.forall_mem_cons.mpr ⟨lw_p38, List.forall_mem_cons.mpr ⟨lw_p39, List.forall_mem_cons.mpr ⟨lw_p40, List.forall_mem_cons.mpr ⟨lw_p41, List.forall_mem_cons.mpr ⟨lw_p42, List.forall_mem_cons.mpr ⟨lw_p43, List.forall_mem_cons.mpr ⟨lw_p44, List.forall_mem_cons.mpr ⟨lw_p45, List.forall_mem_cons.mpr ⟨lw_p46, List.forall_mem_cons.mpr ⟨lw_p47, fun _ h => absurd h List.not_mem_nil⟩⟩⟩⟩⟩⟩⟩⟩⟩⟩⟩⟩⟩⟩⟩⟩
theorem lw_p48 : lw_okq (⟨"HighWaterModel", "asksOf", "(IIIIIII)I"⟩, 41) := ⟨⟨by decide +kernel, by decide +kernel⟩, List.mem_of_getElem? (i := 900) (by decide +kernel), List.mem_of_getElem? (i := 1128) (by decide +kernel), List.mem_of_getElem? (i := 1129) (by decide +kernel)⟩
theorem lw_p49 : lw_okq (⟨"HighWaterModel", "says", "(I)I"⟩, 41) := ⟨⟨by decide +kernel, by decide +kernel⟩, List.mem_of_getElem? (i := 900) (by decide +kernel), List.mem_of_getElem? (i := 1132) (by decide +kernel), List.mem_of_getElem? (i := 1133) (by decide +kernel)⟩
theorem lw_p50 : lw_okq (⟨"HighWaterModel", "looksAt", "(I)V"⟩, 41) := ⟨⟨by decide +kernel, by decide +kernel⟩, List.mem_of_getElem? (i := 900) (by decide +kernel), List.mem_of_getElem? (i := 1154) (by decide +kernel), List.mem_of_getElem? (i := 1155) (by decide +kernel)⟩
theorem lw_p51 : lw_okq (⟨"HighWaterModel", "joinsOf", "(II)I"⟩, 41) := ⟨⟨by decide +kernel, by decide +kernel⟩, List.mem_of_getElem? (i := 900) (by decide +kernel), List.mem_of_getElem? (i := 1158) (by decide +kernel), List.mem_of_getElem? (i := 1159) (by decide +kernel)⟩
theorem lw_p52 : lw_okq (⟨"HighWaterModel", "stands", "(II)Z"⟩, 41) := ⟨⟨by decide +kernel, by decide +kernel⟩, List.mem_of_getElem? (i := 900) (by decide +kernel), List.mem_of_getElem? (i := 1162) (by decide +kernel), List.mem_of_getElem? (i := 1163) (by decide +kernel)⟩
theorem lw_p53 : lw_okq (⟨"HighWaterModel", "worthOf", "(II)I"⟩, 41) := ⟨⟨by decide +kernel, by decide +kernel⟩, List.mem_of_getElem? (i := 900) (by decide +kernel), List.mem_of_getElem? (i := 1166) (by decide +kernel), List.mem_of_getElem? (i := 1167) (by decide +kernel)⟩
theorem lw_p54 : lw_okq (⟨"HighWaterModel", "comesTo", "(I)V"⟩, 41) := ⟨⟨by decide +kernel, by decide +kernel⟩, List.mem_of_getElem? (i := 900) (by decide +kernel), List.mem_of_getElem? (i := 1178) (by decide +kernel), List.mem_of_getElem? (i := 1179) (by decide +kernel)⟩
theorem lw_p55 : lw_okq (⟨"HighWaterModel", "owner", "(I)I"⟩, 41) := ⟨⟨by decide +kernel, by decide +kernel⟩, List.mem_of_getElem? (i := 900) (by decide +kernel), List.mem_of_getElem? (i := 1182) (by decide +kernel), List.mem_of_getElem? (i := 1183) (by decide +kernel)⟩
theorem lw_p56 : lw_okq (⟨"HighWaterModel", "isThere", "(I)Z"⟩, 41) := ⟨⟨by decide +kernel, by decide +kernel⟩, List.mem_of_getElem? (i := 900) (by decide +kernel), List.mem_of_getElem? (i := 1186) (by decide +kernel), List.mem_of_getElem? (i := 1187) (by decide +kernel)⟩
theorem lw_p57 : lw_okq (⟨"HighWaterModel", "gainOf", "(I)I"⟩, 41) := ⟨⟨by decide +kernel, by decide +kernel⟩, List.mem_of_getElem? (i := 900) (by decide +kernel), List.mem_of_getElem? (i := 1194) (by decide +kernel), List.mem_of_getElem? (i := 1195) (by decide +kernel)⟩
theorem lw_p58 : lw_okq (⟨"HighWaterModel", "costTo", "(III)I"⟩, 41) := ⟨⟨by decide +kernel, by decide +kernel⟩, List.mem_of_getElem? (i := 900) (by decide +kernel), List.mem_of_getElem? (i := 1202) (by decide +kernel), List.mem_of_getElem? (i := 1203) (by decide +kernel)⟩
theorem lw_p59 : lw_okq (⟨"HighWaterModel", "bestPlace", "(II)I"⟩, 41) := ⟨⟨by decide +kernel, by decide +kernel⟩, List.mem_of_getElem? (i := 900) (by decide +kernel), List.mem_of_getElem? (i := 1214) (by decide +kernel), List.mem_of_getElem? (i := 1215) (by decide +kernel)⟩
theorem lw_p60 : lw_okq (⟨"HighWaterModel", "leftAt", "(III)I"⟩, 41) := ⟨⟨by decide +kernel, by decide +kernel⟩, List.mem_of_getElem? (i := 900) (by decide +kernel), List.mem_of_getElem? (i := 1218) (by decide +kernel), List.mem_of_getElem? (i := 1219) (by decide +kernel)⟩
theorem lw_p61 : lw_okq (⟨"HighWaterModel", "isRest", "(I)Z"⟩, 41) := ⟨⟨by decide +kernel, by decide +kernel⟩, List.mem_of_getElem? (i := 900) (by decide +kernel), List.mem_of_getElem? (i := 1230) (by decide +kernel), List.mem_of_getElem? (i := 1231) (by decide +kernel)⟩
theorem lw_p62 : lw_okq (⟨"HighWaterModel", "everybody", "()I"⟩, 41) := ⟨⟨by decide +kernel, by decide +kernel⟩, List.mem_of_getElem? (i := 900) (by decide +kernel), List.mem_of_getElem? (i := 1238) (by decide +kernel), List.mem_of_getElem? (i := 1239) (by decide +kernel)⟩
theorem lw_p63 : lw_okq (⟨"HighWaterModel", "begins", "(I)V"⟩, 41) := ⟨⟨by decide +kernel, by decide +kernel⟩, List.mem_of_getElem? (i := 900) (by decide +kernel), List.mem_of_getElem? (i := 1242) (by decide +kernel), List.mem_of_getElem? (i := 1243) (by decide +kernel)⟩
def lw_privs_4 : List (MethodName × Nat) := [(⟨"HighWaterModel", "asksOf", "(IIIIIII)I"⟩, 41), (⟨"HighWaterModel", "says", "(I)I"⟩, 41), (⟨"HighWaterModel", "looksAt", "(I)V"⟩, 41), (⟨"HighWaterModel", "joinsOf", "(II)I"⟩, 41), (⟨"HighWaterModel", "stands", "(II)Z"⟩, 41), (⟨"HighWaterModel", "worthOf", "(II)I"⟩, 41), (⟨"HighWaterModel", "comesTo", "(I)V"⟩, 41), (⟨"HighWaterModel", "owner", "(I)I"⟩, 41), (⟨"HighWaterModel", "isThere", "(I)Z"⟩, 41), (⟨"HighWaterModel", "gainOf", "(I)I"⟩, 41), (⟨"HighWaterModel", "costTo", "(III)I"⟩, 41), (⟨"HighWaterModel", "bestPlace", "(II)I"⟩, 41), (⟨"HighWaterModel", "leftAt", "(III)I"⟩, 41), (⟨"HighWaterModel", "isRest", "(I)Z"⟩, 41), (⟨"HighWaterModel", "everybody", "()I"⟩, 41), (⟨"HighWaterModel", "begins", "(I)V"⟩, 41)]
theorem lw_r4 : ∀ q ∈ lw_privs_4, lw_okq q := List.forall_mem_cons.mpr ⟨lw_p48, List.forall_mem_cons.mpr ⟨lw_p49, List.forall_mem_cons.mpr ⟨lw_p50, List.forall_mem_cons.mpr ⟨lw_p51, List.forall_mem_cons.mpr ⟨lw_p52, List.forall_mem_cons.mpr ⟨lw_p53, List.forall_mem_cons.mpr ⟨lw_p54, List.forall_mem_cons.mpr ⟨lw_p55, List.forall_mem_cons.mpr ⟨lw_p56, List.forall_mem_cons.mpr ⟨lw_p57, List.forall_mem_cons.mpr ⟨lw_p58, List.forall_mem_cons.mpr ⟨lw_p59, List.forall_mem_cons.mpr ⟨lw_p60, List.forall_mem_cons.mpr ⟨lw_p61, List.forall_mem_cons.mpr ⟨lw_p62, List.forall_mem_cons.mpr ⟨lw_p63, fun _ h => absurd h List.not_mem_nil⟩⟩⟩⟩⟩⟩⟩⟩⟩⟩⟩⟩⟩⟩⟩⟩
theorem lw_p64 : lw_okq (⟨"HighWaterModel", "digits", "(I)I"⟩, 41) := ⟨⟨by decide +kernel, by decide +kernel⟩, List.mem_of_getElem? (i := 900) (by decide +kernel), List.mem_of_getElem? (i := 1246) (by decide +kernel), List.mem_of_getElem? (i := 1247) (by decide +kernel)⟩
theorem lw_p65 : lw_okq (⟨"HighWaterModel", "next0", "(I)Z"⟩, 41) := ⟨⟨by decide +kernel, by decide +kernel⟩, List.mem_of_getElem? (i := 900) (by decide +kernel), List.mem_of_getElem? (i := 1250) (by decide +kernel), List.mem_of_getElem? (i := 1251) (by decide +kernel)⟩
theorem lw_p66 : lw_okq (⟨"HighWaterModel", "leftOf", "(II)I"⟩, 41) := ⟨⟨by decide +kernel, by decide +kernel⟩, List.mem_of_getElem? (i := 900) (by decide +kernel), List.mem_of_getElem? (i := 1259) (by decide +kernel), List.mem_of_getElem? (i := 1260) (by decide +kernel)⟩
theorem lw_p67 : lw_okq (⟨"HighWaterModel", "gainOfOthers", "(I)I"⟩, 41) := ⟨⟨by decide +kernel, by decide +kernel⟩, List.mem_of_getElem? (i := 900) (by decide +kernel), List.mem_of_getElem? (i := 1267) (by decide +kernel), List.mem_of_getElem? (i := 1268) (by decide +kernel)⟩
theorem lw_p68 : lw_okq (⟨"HighWaterModel", "parts", "(III)V"⟩, 41) := ⟨⟨by decide +kernel, by decide +kernel⟩, List.mem_of_getElem? (i := 900) (by decide +kernel), List.mem_of_getElem? (i := 1279) (by decide +kernel), List.mem_of_getElem? (i := 1280) (by decide +kernel)⟩
theorem lw_p69 : lw_okq (⟨"HighWaterModel", "dearest", "(I)I"⟩, 41) := ⟨⟨by decide +kernel, by decide +kernel⟩, List.mem_of_getElem? (i := 900) (by decide +kernel), List.mem_of_getElem? (i := 1283) (by decide +kernel), List.mem_of_getElem? (i := 1284) (by decide +kernel)⟩
theorem lw_p70 : lw_okq (⟨"HighWaterModel", "worthAt", "(IZ)I"⟩, 41) := ⟨⟨by decide +kernel, by decide +kernel⟩, List.mem_of_getElem? (i := 900) (by decide +kernel), List.mem_of_getElem? (i := 1295) (by decide +kernel), List.mem_of_getElem? (i := 1296) (by decide +kernel)⟩
theorem lw_p71 : lw_okq (⟨"HighWaterModel", "sheetWrong", "(I)I"⟩, 41) := ⟨⟨by decide +kernel, by decide +kernel⟩, List.mem_of_getElem? (i := 900) (by decide +kernel), List.mem_of_getElem? (i := 1307) (by decide +kernel), List.mem_of_getElem? (i := 1308) (by decide +kernel)⟩
theorem lw_p72 : lw_okq (⟨"HighWaterModel", "unlike", "(I)I"⟩, 41) := ⟨⟨by decide +kernel, by decide +kernel⟩, List.mem_of_getElem? (i := 900) (by decide +kernel), List.mem_of_getElem? (i := 1311) (by decide +kernel), List.mem_of_getElem? (i := 1312) (by decide +kernel)⟩
theorem lw_p73 : lw_okq (⟨"HighWaterModel", "storms", "(II)I"⟩, 41) := ⟨⟨by decide +kernel, by decide +kernel⟩, List.mem_of_getElem? (i := 900) (by decide +kernel), List.mem_of_getElem? (i := 1336) (by decide +kernel), List.mem_of_getElem? (i := 1337) (by decide +kernel)⟩
def lw_privs_5 : List (MethodName × Nat) := [(⟨"HighWaterModel", "digits", "(I)I"⟩, 41), (⟨"HighWaterModel", "next0", "(I)Z"⟩, 41), (⟨"HighWaterModel", "leftOf", "(II)I"⟩, 41), (⟨"HighWaterModel", "gainOfOthers", "(I)I"⟩, 41), (⟨"HighWaterModel", "parts", "(III)V"⟩, 41), (⟨"HighWaterModel", "dearest", "(I)I"⟩, 41), (⟨"HighWaterModel", "worthAt", "(IZ)I"⟩, 41), (⟨"HighWaterModel", "sheetWrong", "(I)I"⟩, 41), (⟨"HighWaterModel", "unlike", "(I)I"⟩, 41), (⟨"HighWaterModel", "storms", "(II)I"⟩, 41)]
theorem lw_r5 : ∀ q ∈ lw_privs_5, lw_okq q := List.forall_mem_cons.mpr ⟨lw_p64, List.forall_mem_cons.mpr ⟨lw_p65, List.forall_mem_cons.mpr ⟨lw_p66, List.forall_mem_cons.mpr ⟨lw_p67, List.forall_mem_cons.mpr ⟨lw_p68, List.forall_mem_cons.mpr ⟨lw_p69, List.forall_mem_cons.mpr ⟨lw_p70, List.forall_mem_cons.mpr ⟨lw_p71, List.forall_mem_cons.mpr ⟨lw_p72, List.forall_mem_cons.mpr ⟨lw_p73, fun _ h => absurd h List.not_mem_nil⟩⟩⟩⟩⟩⟩⟩⟩⟩⟩
def lw_privs : List (MethodName × Nat) := lw_privs_1 ++ (lw_privs_2 ++ (lw_privs_3 ++ (lw_privs_4 ++ (lw_privs_5))))
def lw_tbl : List Cond := k2_sels lw_privs ++ tables_1
theorem lw_privs_ok : ∀ q ∈ lw_privs, lw_okq q := by
  show ∀ q ∈ lw_privs_1 ++ (lw_privs_2 ++ (lw_privs_3 ++ (lw_privs_4 ++ (lw_privs_5)))), lw_okq q
  exact List.forall_mem_append.mpr ⟨lw_r1, List.forall_mem_append.mpr ⟨lw_r2, List.forall_mem_append.mpr ⟨lw_r3, List.forall_mem_append.mpr ⟨lw_r4, lw_r5⟩⟩⟩⟩
-- ===== end of PART A; then your names; then what follows =====
/-! ===== BEGIN words of one list among another's, by their places ===== -/
theorem goodIn_r {big : List Cond} (ws : List Cond) (ps : List Nat) (hp : ws = ps.filterMap (fun i => big[i]?)) (h : ws.all goodWord = true) : GoodIn big ws := by
  intro w hw
  have h1 := List.all_eq_true.mp h w hw
  rw [hp] at hw
  obtain ⟨i, -, hi⟩ := List.mem_filterMap.mp hw
  have hm : w ∈ big := by first | exact List.mem_of_getElem? hi | exact List.getElem?_mem hi
  exact ⟨hm, good_of_word h1⟩
theorem goodIn_app {big a b : List Cond} (ha : GoodIn big a) (hb : GoodIn big b) : GoodIn big (a ++ b) := fun w h => (List.mem_append.mp h).elim (ha w) (hb w)
theorem goodIn_ca {big a b : List Cond} {c : Cond} (ha : GoodIn big (c :: a)) (hb : GoodIn big b) : GoodIn big (c :: (a ++ b)) := fun w h => (List.mem_cons.mp h).elim (fun e => ha w (List.mem_cons.mpr (Or.inl e))) (fun h => (List.mem_append.mp h).elim (fun h => ha w (List.mem_cons.mpr (Or.inr h))) (hb w))
theorem goodIn_sub {big ws : List Cond} (hm : ∀ w ∈ ws, w ∈ big) (h : ws.all goodWord = true) : GoodIn big ws := fun w hw => ⟨hm w hw, good_of_word (List.all_eq_true.mp h w hw)⟩
/-! ===== END ===== -/

/-! ===== BEGIN new T[n][m]: the outer array a place, the inner ones among the pooled ===== -/
/-- f, but v at every address of l -/
def vr_up {α : Type} (f : Nat → α) (l : List Nat) (v : α) : Nat → α := fun a => if a ∈ l then v else f a
theorem vr_up_in {α : Type} {f : Nat → α} {l : List Nat} {v : α} {a : Nat} (h : a ∈ l) : vr_up f l v a = v := if_pos h
theorem vr_up_ne {α : Type} {f : Nat → α} {l : List Nat} {v : α} {a : Nat} (h : a ∉ l) : vr_up f l v a = f a := if_neg h
theorem vr_rows {L l : List Nat} {f : Nat → va_E} {e : va_E} (h : ∀ a, a ∈ l → a ∉ L) : va_pl L f ++ l.map (fun a => (a, e)) = va_pl (L ++ l) (vr_up f l e) := by
  unfold va_pl
  rw [List.map_append]
  congr 1
  · apply List.map_congr_left
    intro a ha
    rw [vr_up_ne (fun q => h a q ha)]
  · apply List.map_congr_left
    intro a ha
    rw [vr_up_in ha]
theorem vr_lay {X rows : va_W} {x : Nat × va_E} {pl : va_W} {D : va_G} {cl : List vw_C} {H : Heap} (hP : va_P D cl (((X ++ pl) ++ [x]) ++ rows) H) : va_P D cl ((X ++ [x]) ++ (pl ++ rows)) H := by
  rw [List.append_assoc (X ++ pl)] at hP
  have h := va_P.swap hP
  rw [← List.append_assoc X] at h
  have h2 := va_P.swap h
  rw [List.append_assoc (X ++ [x])] at h2
  exact h2
theorem vr_layD {X rows : va_W} {x : Nat × va_E} {pl : va_W} {A : Nat → Prop} (hD : va_D A (((X ++ pl) ++ [x]) ++ rows)) : va_D A ((X ++ [x]) ++ (pl ++ rows)) := by
  rw [List.append_assoc (X ++ pl)] at hD
  have h := va_D.swap hD
  rw [← List.append_assoc X] at h
  have h2 := va_D.swap h
  rw [List.append_assoc (X ++ [x])] at h2
  exact h2
theorem vr_outer (c : ClassId) (N h0 : Nat) : ∀ i : Nat, Jvm.Free.Multi.outerC c N h0 i = arrV c N (fun j => va_rf (if j < i then some (h0 + 1 + j) else none))
  | 0 => by
    show ({ cls := c, slots := Array.replicate N .null, vm := .none } : Cell) = _
    rw [arrV_new]
    refine congrArg (arrV c N) (funext fun j => ?_)
    simp [va_rf]
  | i + 1 => by
    show (Jvm.Free.Multi.outerC c N h0 i).setSlot i (.ref (h0 + 1 + i)) = _
    rw [vr_outer c N h0 i, arrV_store]
    refine congrArg (arrV c N) (funext fun j => ?_)
    by_cases e : j = i
    · subst e
      simp [updV, va_rf]
    · by_cases h : j < i
      · simp [updV, e, h, Nat.lt_succ_of_lt h]
      · simp [updV, e, h, show ¬ j < i + 1 by omega]
/-- not in this kit, though the printed names use it: an array class over arrays -/
def va_AOA (ty : FieldType) (U : State) : Prop := (Cond.arrayOver (.array ty)).before #[] U = true
theorem va_AOA.use {ty : FieldType} {A : Array Value} {U : State} (h : va_AOA ty U) : (Cond.arrayOver (.array ty)).before A U = true := h
section VGM
variable {p : Program} {l : Launch} {e : Env} {R : Room} {s : State} {m : MethodId} {args : Array Value} {below : List Frame} {meth : Method} {c : Code} {H : Heap} {locs : List Loc} {cells slots : Nat} {Q : State → Prop}
variable {cc : ByteArray} {pc : Nat} {ls : Array Slot} {rest : List Value} {D : va_G} {cl : List vw_C} {A : Nat → Prop} {a : Nat} {tys : List (ClassId × FieldType)} {ws : va_W} {H0 : Heap}
theorem va_mna {X : va_W} {L : List Nat} {f : Nat → va_E} {cc : ByteArray} (hexec : p.tables.exec = Jvm.exec) (hb : c.code = cc) {own : String} {index : Nat} {ty : FieldType} {cy : ClassId} (hown : s.vm.findClass own = some m.cls) (hclink : (Cond.classLink own index ("[" ++ (FieldType.array ty).toString)).before args s = true) (hover : va_AOA ty s) (harr : (Cond.arrayClass ty).before args s = true) (hcy : s.vm.findClass (FieldType.array ty).toString = some cy)
    (hK : va_K D cl tys s) (hP : va_P D cl (X ++ va_pl L f) H) (hD : va_D A (X ++ va_pl L f)) (hS : va_S A H0 H locs) (hA : ∀ q, H0.size ≤ q → A q) {n k : Int32} {N' K' : Nat} {z : vp_A} (hn : ¬ n < 0) (hk : ¬ k < 0) (hN : n.toNatClampNeg = N') (hM : k.toNatClampNeg = K')
    (hb1 : N' * 4 ≤ 536870912) (hb2 : K' * componentBytes ty ≤ 536870912) (hb3 : K' ≤ 536870912) (hdf : fits ty (defaultValue ty) = true) (hdd : (defaultValue ty).isDefault = true) (hcells : cells + (1 + N') ≤ R.cells) (hslots : slots + (N' + N' * K') ≤ R.slots) (hz : ∀ c : ClassId, Jvm.Free.Multi.innerC c K' (defaultValue ty) = vp_cell c z) (hdg : decode cc pc = .ok (.multianewarray index 2, 4))
    (kk : ∀ (q : Nat) (r : Nat → Nat) (cA : ClassId) (H1 : Heap), (∀ i j : Nat, i < N' → j < N' → r i = r j → i = j) → (∀ i : Nat, i < N' → r i ∉ L) → va_K D cl (tys ++ [(cA, .array ty)]) s →
      va_P D cl ((X ++ [(q, .inl (cA, N', .inr (.inr (.inr (.inr (fun i => if i < N' then some (r i) else none))))))]) ++ va_pl (L ++ (List.range N').map r) (vr_up f ((List.range N').map r) (.inl (cy, z)))) H1 → va_D A ((X ++ [(q, .inl (cA, N', .inr (.inr (.inr (.inr (fun i => if i < N' then some (r i) else none))))))]) ++ va_pl (L ++ (List.range N').map r) (vr_up f ((List.range N').map r) (.inl (cy, z)))) → va_S A H0 H1 locs →
      W p l e R s m args below meth c H1 locs (cells + 1 + N') (slots + N' + N' * K') Q (F0 m (pc + 4) ls (.ref q :: rest))) : W p l e R s m args below meth c H locs cells slots Q (F0 m pc ls (.int k :: .int n :: rest)) := by
  subst hN
  subst hM
  intro T hT Xs
  obtain ⟨vm₁, cA, comp, -, fA, fC, hO, -, X', step⟩ := Xs.multianewarray2F hexec hown hclink (va_AOA.use hover) harr (g := F0 m pc ls (.int k :: .int n :: rest)) rfl (by rw [hb]; exact hdg) rfl hn hk hb1 hb2 hb3 hdf hdd hcells hslots
  have ec : some cy = some comp := hcy.symm.trans fC
  cases ec
  generalize hF : Jvm.Free.Multi.fill (T.setVm vm₁) cA cy n.toNatClampNeg k.toNatClampNeg (defaultValue ty) n.toNatClampNeg = F at X' step
  have hTh : (T.setVm vm₁).heap = H := hT
  obtain ⟨f1, f2, -, -⟩ := Jvm.Free.Multi.fill_facts (T.setVm vm₁) cA cy n.toNatClampNeg k.toNatClampNeg (defaultValue ty) n.toNatClampNeg
  rw [hF, hTh] at f1 f2
  have hold : ∀ x : Nat, x < H.size → F.heap[x]? = H[x]? := fun x hx => by
    have := Jvm.Free.Multi.fill_old (T.setVm vm₁) cA cy n.toNatClampNeg k.toNatClampNeg (defaultValue ty) (a := x) (by rw [hTh]; exact hx) n.toNatClampNeg
    rw [hF, hTh] at this
    exact this
  have hrow : ∀ j : Nat, j < n.toNatClampNeg → F.heap[H.size + 1 + j]? = some (vp_cell cy z) := fun j hj => by
    have := Jvm.Free.Multi.fill_inner (T.setVm vm₁) cA cy n.toNatClampNeg k.toNatClampNeg (defaultValue ty) n.toNatClampNeg j hj
    rw [hF, hTh, hz] at this
    exact this
  have hout : Jvm.Free.Multi.outerC cA n.toNatClampNeg H.size n.toNatClampNeg = vp_cell cA (n.toNatClampNeg, .inr (.inr (.inr (.inr (fun i => if i < n.toNatClampNeg then some (H.size + 1 + i) else none))))) := by
    rw [vp_cell_q]
    exact vr_outer cA n.toNatClampNeg H.size n.toNatClampNeg
  rw [hout] at f2
  have hlt : ∀ a, a ∈ L → a < H.size := fun a ha => by
    obtain ⟨k9, hk9⟩ := va_pl_get (X := X) (f := f) ha
    exact (hP k9 _ hk9).lt
  have hnl : ∀ i : Nat, i < n.toNatClampNeg → H.size + 1 + i ∉ L := fun i _ h => by
    have := hlt _ h
    omega
  have hnm : ∀ a, a ∈ (List.range n.toNatClampNeg).map (fun i => H.size + 1 + i) → a ∉ L := fun a ha h => by
    obtain ⟨i, -, rfl⟩ := List.mem_map.mp ha
    have := hlt _ h
    omega
  have hP0 : va_P D cl (X ++ va_pl L f) F.heap := hP.kept (fun k9 x hx => hold x.1 ((hP k9 x hx).lt))
  have hP1 : va_P D cl ((X ++ va_pl L f) ++ [(H.size, .inl (cA, n.toNatClampNeg, .inr (.inr (.inr (.inr (fun i => if i < n.toNatClampNeg then some (H.size + 1 + i) else none))))))]) F.heap := hP0.app (fun k9 x hx => by
    have h0 : k9 < 1 := (List.getElem?_eq_some_iff.mp hx).1
    rw [show k9 = 0 by omega] at hx
    cases hx
    exact f2)
  have hP2 : va_P D cl (((X ++ va_pl L f) ++ [(H.size, .inl (cA, n.toNatClampNeg, .inr (.inr (.inr (.inr (fun i => if i < n.toNatClampNeg then some (H.size + 1 + i) else none))))))]) ++ ((List.range n.toNatClampNeg).map (fun i => H.size + 1 + i)).map (fun a => (a, .inl (cy, z)))) F.heap := hP1.app (fun k9 x hx => by
    obtain ⟨a, ha, rfl⟩ := List.mem_map.mp (List.mem_of_getElem? hx)
    obtain ⟨i, hi, rfl⟩ := List.mem_map.mp ha
    exact hrow i (List.mem_range.mp hi))
  have hD2 : va_D A (((X ++ va_pl L f) ++ [(H.size, .inl (cA, n.toNatClampNeg, .inr (.inr (.inr (.inr (fun i => if i < n.toNatClampNeg then some (H.size + 1 + i) else none))))))]) ++ ((List.range n.toNatClampNeg).map (fun i => H.size + 1 + i)).map (fun a => (a, .inl (cy, z)))) := by
    have hD1 := hD.push (e := .inl (cA, n.toNatClampNeg, .inr (.inr (.inr (.inr (fun i => if i < n.toNatClampNeg then some (H.size + 1 + i) else none)))))) hP rfl (hA _ hS.1)
    generalize hW1 : (X ++ va_pl L f) ++ [(H.size, .inl (cA, n.toNatClampNeg, .inr (.inr (.inr (.inr (fun i => if i < n.toNatClampNeg then some (H.size + 1 + i) else none))))))] = W1 at hD1 hP1 ⊢
    have hle : ∀ (k9 : Nat) (x : Nat × va_E), W1[k9]? = some x → x.1 ≤ H.size := fun k9 x hx => by
      rw [← hW1] at hx
      by_cases hl : k9 < (X ++ va_pl L f).length
      · rw [List.getElem?_append_left hl] at hx
        exact Nat.le_of_lt ((hP k9 x hx).lt)
      · rw [List.getElem?_append_right (by omega)] at hx
        have h0 : k9 - (X ++ va_pl L f).length < 1 := (List.getElem?_eq_some_iff.mp hx).1
        rw [show k9 - (X ++ va_pl L f).length = 0 by omega] at hx
        cases hx
        exact Nat.le_refl _
    have hr : ∀ (k9 : Nat) (x : Nat × va_E), (((List.range n.toNatClampNeg).map (fun i => H.size + 1 + i)).map (fun a => ((a, .inl (cy, z)) : Nat × va_E)))[k9]? = some x → x.1 = H.size + 1 + k9 := fun k9 x hx => by
      rw [List.getElem?_map, List.getElem?_map] at hx
      by_cases h9 : k9 < n.toNatClampNeg
      · rw [List.getElem?_range h9] at hx
        cases hx
        rfl
      · have hn0 : (List.range n.toNatClampNeg)[k9]? = none := List.getElem?_eq_none (by rw [List.length_range]; omega)
        rw [hn0] at hx
        cases hx
    refine ⟨fun i j x y hi hj hxy => ?_, fun k9 x hx => ?_⟩
    · by_cases h1 : i < W1.length <;> by_cases h2 : j < W1.length
      · rw [List.getElem?_append_left h1] at hi
        rw [List.getElem?_append_left h2] at hj
        exact hD1.1 i j x y hi hj hxy
      · rw [List.getElem?_append_left h1] at hi
        rw [List.getElem?_append_right (by omega)] at hj
        have := hle _ _ hi
        have := hr _ _ hj
        omega
      · rw [List.getElem?_append_right (by omega)] at hi
        rw [List.getElem?_append_left h2] at hj
        have := hle _ _ hj
        have := hr _ _ hi
        omega
      · rw [List.getElem?_append_right (by omega)] at hi hj
        have := hr _ _ hi
        have := hr _ _ hj
        omega
    · by_cases h1 : k9 < W1.length
      · rw [List.getElem?_append_left h1] at hx
        exact hD1.2 k9 x hx
      · rw [List.getElem?_append_right (by omega)] at hx
        have := hr _ _ hx
        exact hA _ (by have := hS.1; omega)
  have hAr : ArrOfT s cA (.array ty) := fun N9 z9 => by
    obtain ⟨-, k9, hk9, cm9, hkk9⟩ := (hO 0 0 0).1
    exact ⟨(fun q hq => by cases hq), k9, hk9, cm9, hkk9⟩
  have hK2 : va_K D cl (tys ++ [(cA, .array ty)]) s := ⟨hK.1, fun k9 x hx => by
    by_cases hl : k9 < tys.length
    · rw [List.getElem?_append_left hl] at hx
      exact hK.2 k9 x hx
    · rw [List.getElem?_append_right (by omega)] at hx
      have h0 : k9 - tys.length < 1 := (List.getElem?_eq_some_iff.mp hx).1
      rw [show k9 - tys.length = 0 by omega] at hx
      cases hx
      exact ⟨hAr, fA⟩⟩
  obtain ⟨t, a1, b1⟩ := kk H.size (fun i => H.size + 1 + i) cA F.heap (fun i j _ _ h => by have h9 : H.size + 1 + i = H.size + 1 + j := h; omega) hnl hK2 (by rw [← vr_rows hnm]; exact vr_lay hP2) (by rw [← vr_rows hnm]; exact vr_layD hD2) ⟨by rw [f1]; have := hS.1; omega, fun x h1 h2 => (hold x (Nat.lt_of_lt_of_le h1 hS.1)).trans (hS.2.1 x h1 h2), hS.2.2⟩ F rfl X'
  refine ⟨t, step t ?_, b1⟩
  have e : T.heap.size = H.size := by rw [hT]
  rw [e]
  exact a1
end VGM
/-! ===== END ===== -/
/-! ===== BEGIN printed: names, fields, word lists, decode rows ===== -/
def RX0 : String := "HighWater$Barred"
def TX0 : u_T := fun k => match k with
  | 0 => ("HighWater$Island", "kind", "I", true)
  | 1 => ("HighWater$Island", "told", "I", true)
  | 2 => ("HighWater$Island", "rises", "I", true)
  | _ => ("HighWater$Island", "more", "I", true)
def tyX0 : Nat → FieldType := fun k => match k with
  | 0 => .int
  | 1 => .int
  | 2 => .int
  | _ => .int
abbrev wsX00 : List Cond := u_ws RX0 TX0 4
theorem nmX0 : ∀ a, a < 4 → ∀ b, b < 4 → a ≠ b → (TX0 a).2.1 ≠ (TX0 b).2.1 := by decide +kernel
theorem tyX0_ok : ∀ k, k < 4 → parseFieldDescriptor (TX0 k).2.2.1 = some (tyX0 k) := by decide +kernel
abbrev cX0_init : ByteArray := prog_2_method_1_code
def yX0_init : MethodName := ⟨RX0, "<init>", "(IIII)V"⟩
abbrev cX0_joinsAt : ByteArray := prog_2_method_2_code
def yX0_joinsAt : MethodName := ⟨RX0, "joinsAt", "(I)I"⟩
def RX1 : String := "HighWater$Bay"
def TX1 : u_T := fun k => match k with
  | 0 => ("HighWater$Bay", "highs", "[I", true)
  | 1 => ("HighWater$Bay", "places", "[[I", true)
  | 2 => ("HighWater$Bay", "people", "I", false)
  | 3 => ("HighWater$Bay", "islands", "I", false)
  | _ => ("HighWater$Bay", "law", "I", false)
def tyX1 : Nat → FieldType := fun k => match k with
  | 0 => .array .int
  | 1 => .array (.array .int)
  | 2 => .int
  | 3 => .int
  | _ => .int
abbrev wsX10 : List Cond := u_ws RX1 TX1 5
theorem nmX1 : ∀ a, a < 5 → ∀ b, b < 5 → a ≠ b → (TX1 a).2.1 ≠ (TX1 b).2.1 := by decide +kernel
theorem tyX1_ok : ∀ k, k < 5 → parseFieldDescriptor (TX1 k).2.2.1 = some (tyX1 k) := by decide +kernel
abbrev cX1_init : ByteArray := prog_3_method_1_code
def yX1_init : MethodName := ⟨RX1, "<init>", "()V"⟩
abbrev cX1_become : ByteArray := prog_3_method_2_code
def yX1_become : MethodName := ⟨RX1, "become", "(LHighWater$Bay;)V"⟩
def RX2 : String := "HighWater$Hay"
def TX2 : u_T := fun k => match k with
  | 0 => ("HighWater$Island", "kind", "I", true)
  | 1 => ("HighWater$Island", "told", "I", true)
  | 2 => ("HighWater$Island", "rises", "I", true)
  | _ => ("HighWater$Island", "more", "I", true)
def tyX2 : Nat → FieldType := fun k => match k with
  | 0 => .int
  | 1 => .int
  | 2 => .int
  | _ => .int
abbrev wsX20 : List Cond := u_ws RX2 TX2 4
theorem nmX2 : ∀ a, a < 4 → ∀ b, b < 4 → a ≠ b → (TX2 a).2.1 ≠ (TX2 b).2.1 := by decide +kernel
theorem tyX2_ok : ∀ k, k < 4 → parseFieldDescriptor (TX2 k).2.2.1 = some (tyX2 k) := by decide +kernel
abbrev cX2_init : ByteArray := prog_4_method_1_code
def yX2_init : MethodName := ⟨RX2, "<init>", "(IIII)V"⟩
abbrev cX2_worthAt : ByteArray := prog_4_method_2_code
def yX2_worthAt : MethodName := ⟨RX2, "worthAt", "(II)I"⟩
def RX3 : String := "HighWater$Island"
def TX3 : u_T := fun k => match k with
  | 0 => ("HighWater$Island", "kind", "I", true)
  | 1 => ("HighWater$Island", "told", "I", true)
  | 2 => ("HighWater$Island", "rises", "I", true)
  | _ => ("HighWater$Island", "more", "I", true)
def tyX3 : Nat → FieldType := fun k => match k with
  | 0 => .int
  | 1 => .int
  | 2 => .int
  | _ => .int
abbrev wsX30 : List Cond := u_ws RX3 TX3 4
theorem nmX3 : ∀ a, a < 4 → ∀ b, b < 4 → a ≠ b → (TX3 a).2.1 ≠ (TX3 b).2.1 := by decide +kernel
theorem tyX3_ok : ∀ k, k < 4 → parseFieldDescriptor (TX3 k).2.2.1 = some (tyX3 k) := by decide +kernel
abbrev cX3_init : ByteArray := prog_5_method_1_code
def yX3_init : MethodName := ⟨RX3, "<init>", "(IIII)V"⟩
abbrev cX3_standsAt : ByteArray := prog_5_method_2_code
def yX3_standsAt : MethodName := ⟨RX3, "standsAt", "(I)Z"⟩
abbrev cX3_worthAt : ByteArray := prog_5_method_3_code
def yX3_worthAt : MethodName := ⟨RX3, "worthAt", "(II)I"⟩
abbrev cX3_joinsAt : ByteArray := prog_5_method_4_code
def yX3_joinsAt : MethodName := ⟨RX3, "joinsAt", "(I)I"⟩
def RX4 : String := "HighWater$Low"
def TX4 : u_T := fun k => match k with
  | 0 => ("HighWater$Island", "kind", "I", true)
  | 1 => ("HighWater$Island", "told", "I", true)
  | 2 => ("HighWater$Island", "rises", "I", true)
  | _ => ("HighWater$Island", "more", "I", true)
def tyX4 : Nat → FieldType := fun k => match k with
  | 0 => .int
  | 1 => .int
  | 2 => .int
  | _ => .int
abbrev wsX40 : List Cond := u_ws RX4 TX4 4
theorem nmX4 : ∀ a, a < 4 → ∀ b, b < 4 → a ≠ b → (TX4 a).2.1 ≠ (TX4 b).2.1 := by decide +kernel
theorem tyX4_ok : ∀ k, k < 4 → parseFieldDescriptor (TX4 k).2.2.1 = some (tyX4 k) := by decide +kernel
abbrev cX4_init : ByteArray := prog_6_method_1_code
def yX4_init : MethodName := ⟨RX4, "<init>", "(IIII)V"⟩
abbrev cX4_standsAt : ByteArray := prog_6_method_2_code
def yX4_standsAt : MethodName := ⟨RX4, "standsAt", "(I)Z"⟩
def RX5 : String := "HighWater$Rock"
def TX5 : u_T := fun k => match k with
  | 0 => ("HighWater$Island", "kind", "I", true)
  | 1 => ("HighWater$Island", "told", "I", true)
  | 2 => ("HighWater$Island", "rises", "I", true)
  | _ => ("HighWater$Island", "more", "I", true)
def tyX5 : Nat → FieldType := fun k => match k with
  | 0 => .int
  | 1 => .int
  | 2 => .int
  | _ => .int
abbrev wsX50 : List Cond := u_ws RX5 TX5 4
theorem nmX5 : ∀ a, a < 4 → ∀ b, b < 4 → a ≠ b → (TX5 a).2.1 ≠ (TX5 b).2.1 := by decide +kernel
theorem tyX5_ok : ∀ k, k < 4 → parseFieldDescriptor (TX5 k).2.2.1 = some (tyX5 k) := by decide +kernel
abbrev cX5_init : ByteArray := prog_7_method_1_code
def yX5_init : MethodName := ⟨RX5, "<init>", "(IIII)V"⟩
abbrev cX5_worthAt : ByteArray := prog_7_method_2_code
def yX5_worthAt : MethodName := ⟨RX5, "worthAt", "(II)I"⟩
def RX6 : String := "HighWater$Sheet"
def TX6 : u_T := fun k => match k with
  | 0 => ("HighWater$Sheet", "cells", "[I", true)
  | 1 => ("HighWater$Sheet", "sort", "I", false)
  | _ => ("HighWater$Sheet", "size", "I", false)
def tyX6 : Nat → FieldType := fun k => match k with
  | 0 => .array .int
  | 1 => .int
  | _ => .int
abbrev wsX60 : List Cond := u_ws RX6 TX6 3
theorem nmX6 : ∀ a, a < 3 → ∀ b, b < 3 → a ≠ b → (TX6 a).2.1 ≠ (TX6 b).2.1 := by decide +kernel
theorem tyX6_ok : ∀ k, k < 3 → parseFieldDescriptor (TX6 k).2.2.1 = some (tyX6 k) := by decide +kernel
abbrev cX6_init : ByteArray := prog_8_method_1_code
def yX6_init : MethodName := ⟨RX6, "<init>", "()V"⟩
abbrev cX6_become : ByteArray := prog_8_method_2_code
def yX6_become : MethodName := ⟨RX6, "become", "(II)V"⟩
abbrev cX6_put : ByteArray := prog_8_method_3_code
def yX6_put : MethodName := ⟨RX6, "put", "(II)V"⟩
abbrev cX6_hasRoom : ByteArray := prog_8_method_4_code
def yX6_hasRoom : MethodName := ⟨RX6, "hasRoom", "(II)Z"⟩
def RX7 : String := "HighWater$Tape"
def TX7 : u_T := fun k => match k with
  | 0 => ("HighWater$Tape", "bytes", "[I", true)
  | 1 => ("HighWater$Tape", "size", "I", false)
  | 2 => ("HighWater$Tape", "fault", "I", false)
  | 3 => ("HighWater$Tape", "code", "[I", true)
  | 4 => ("HighWater$Tape", "codeSize", "I", false)
  | 5 => ("HighWater$Tape", "token", "I", false)
  | 6 => ("HighWater$Tape", "tokenAt", "I", false)
  | 7 => ("HighWater$Tape", "number", "I", false)
  | 8 => ("HighWater$Tape", "next", "I", false)
  | _ => ("HighWater$Tape", "open", "I", false)
def tyX7 : Nat → FieldType := fun k => match k with
  | 0 => .array .int
  | 1 => .int
  | 2 => .int
  | 3 => .array .int
  | 4 => .int
  | 5 => .int
  | 6 => .int
  | 7 => .int
  | 8 => .int
  | _ => .int
abbrev wsX70 : List Cond := u_ws RX7 TX7 10
theorem nmX7 : ∀ a, a < 10 → ∀ b, b < 10 → a ≠ b → (TX7 a).2.1 ≠ (TX7 b).2.1 := by decide +kernel
theorem tyX7_ok : ∀ k, k < 10 → parseFieldDescriptor (TX7 k).2.2.1 = some (tyX7 k) := by decide +kernel
abbrev cX7_init : ByteArray := prog_9_method_1_code
def yX7_init : MethodName := ⟨RX7, "<init>", "()V"⟩
abbrev cX7_append : ByteArray := prog_9_method_2_code
def yX7_append : MethodName := ⟨RX7, "append", "(I)V"⟩
abbrev cX7_clear : ByteArray := prog_9_method_3_code
def yX7_clear : MethodName := ⟨RX7, "clear", "()V"⟩
abbrev cX7_readText : ByteArray := prog_9_method_4_code
def yX7_readText : MethodName := ⟨RX7, "readText", "()LHighWater$Text;"⟩
abbrev cX7_readToken : ByteArray := prog_9_method_5_code
def yX7_readToken : MethodName := ⟨RX7, "readToken", "()V"⟩
abbrev cX7_readWord : ByteArray := prog_9_method_6_code
def yX7_readWord : MethodName := ⟨RX7, "readWord", "()V"⟩
abbrev cX7_isSpelledFrom : ByteArray := prog_9_method_7_code
def yX7_isSpelledFrom : MethodName := ⟨RX7, "isSpelledFrom", "(I)Z"⟩
abbrev cX7_readNumber : ByteArray := prog_9_method_8_code
def yX7_readNumber : MethodName := ⟨RX7, "readNumber", "()V"⟩
abbrev cX7_isLetter : ByteArray := prog_9_method_9_code
def yX7_isLetter : MethodName := ⟨RX7, "isLetter", "(I)Z"⟩
abbrev cX7_isDigit : ByteArray := prog_9_method_10_code
def yX7_isDigit : MethodName := ⟨RX7, "isDigit", "(I)Z"⟩
abbrev cX7_isSign : ByteArray := prog_9_method_11_code
def yX7_isSign : MethodName := ⟨RX7, "isSign", "(I)Z"⟩
abbrev cX7_refuse : ByteArray := prog_9_method_12_code
def yX7_refuse : MethodName := ⟨RX7, "refuse", "()V"⟩
abbrev cX7_pass : ByteArray := prog_9_method_13_code
def yX7_pass : MethodName := ⟨RX7, "pass", "(I)V"⟩
abbrev cX7_emit : ByteArray := prog_9_method_14_code
def yX7_emit : MethodName := ⟨RX7, "emit", "(I)V"⟩
abbrev cX7_opens : ByteArray := prog_9_method_15_code
def yX7_opens : MethodName := ⟨RX7, "opens", "()Z"⟩
abbrev cX7_readOr : ByteArray := prog_9_method_16_code
def yX7_readOr : MethodName := ⟨RX7, "readOr", "()V"⟩
abbrev cX7_readAnd : ByteArray := prog_9_method_17_code
def yX7_readAnd : MethodName := ⟨RX7, "readAnd", "()V"⟩
abbrev cX7_readNot : ByteArray := prog_9_method_18_code
def yX7_readNot : MethodName := ⟨RX7, "readNot", "()V"⟩
abbrev cX7_readSum : ByteArray := prog_9_method_19_code
def yX7_readSum : MethodName := ⟨RX7, "readSum", "()V"⟩
abbrev cX7_readTerm : ByteArray := prog_9_method_20_code
def yX7_readTerm : MethodName := ⟨RX7, "readTerm", "()V"⟩
abbrev cX7_readOne : ByteArray := prog_9_method_21_code
def yX7_readOne : MethodName := ⟨RX7, "readOne", "()V"⟩
def RX8 : String := "HighWater$Text"
def TX8 : u_T := fun k => match k with
  | 0 => ("HighWater$Text", "code", "[I", true)
  | 1 => ("HighWater$Text", "costsFrom", "I", true)
  | _ => ("HighWater$Text", "stormFrom", "I", true)
def tyX8 : Nat → FieldType := fun k => match k with
  | 0 => .array .int
  | 1 => .int
  | _ => .int
abbrev wsX80 : List Cond := u_ws RX8 TX8 3
theorem nmX8 : ∀ a, a < 3 → ∀ b, b < 3 → a ≠ b → (TX8 a).2.1 ≠ (TX8 b).2.1 := by decide +kernel
theorem tyX8_ok : ∀ k, k < 3 → parseFieldDescriptor (TX8 k).2.2.1 = some (tyX8 k) := by decide +kernel
abbrev cX8_init : ByteArray := prog_10_method_1_code
def yX8_init : MethodName := ⟨RX8, "<init>", "([III)V"⟩
abbrev cX8_valueOf : ByteArray := prog_10_method_2_code
def yX8_valueOf : MethodName := ⟨RX8, "valueOf", "(I[I[I)I"⟩
abbrev cX8_join : ByteArray := prog_10_method_3_code
def yX8_join : MethodName := ⟨RX8, "join", "(III)I"⟩
def RX9 : String := "HighWater$Top"
def TX9 : u_T := fun k => match k with
  | 0 => ("HighWater$Top", "worths", "[I", true)
  | 1 => ("HighWater$Top", "stands", "[Z", true)
  | 2 => ("HighWater$Top", "ones", "[I", true)
  | 3 => ("HighWater$Top", "spots", "[I", true)
  | 4 => ("HighWater$Top", "fares", "[[I", true)
  | 5 => ("HighWater$Top", "wholes", "[I", true)
  | 6 => ("HighWater$Top", "crowds", "[I", true)
  | 7 => ("HighWater$Top", "islands", "I", false)
  | _ => ("HighWater$Top", "people", "I", false)
def tyX9 : Nat → FieldType := fun k => match k with
  | 0 => .array .int
  | 1 => .array .boolean
  | 2 => .array .int
  | 3 => .array .int
  | 4 => .array (.array .int)
  | 5 => .array .int
  | 6 => .array .int
  | 7 => .int
  | _ => .int
abbrev wsX90 : List Cond := u_ws RX9 TX9 9
theorem nmX9 : ∀ a, a < 9 → ∀ b, b < 9 → a ≠ b → (TX9 a).2.1 ≠ (TX9 b).2.1 := by decide +kernel
theorem tyX9_ok : ∀ k, k < 9 → parseFieldDescriptor (TX9 k).2.2.1 = some (tyX9 k) := by decide +kernel
abbrev cX9_init : ByteArray := prog_11_method_1_code
def yX9_init : MethodName := ⟨RX9, "<init>", "()V"⟩
abbrev cX9_clear : ByteArray := prog_11_method_2_code
def yX9_clear : MethodName := ⟨RX9, "clear", "(II)V"⟩
abbrev cX9_unite : ByteArray := prog_11_method_3_code
def yX9_unite : MethodName := ⟨RX9, "unite", "(II)V"⟩
abbrev cX9_sumWholes : ByteArray := prog_11_method_4_code
def yX9_sumWholes : MethodName := ⟨RX9, "sumWholes", "()V"⟩
abbrev cX9_rootOf : ByteArray := prog_11_method_5_code
def yX9_rootOf : MethodName := ⟨RX9, "rootOf", "(I)I"⟩
abbrev cX9_rootUnder : ByteArray := prog_11_method_6_code
def yX9_rootUnder : MethodName := ⟨RX9, "rootUnder", "(I)I"⟩
abbrev cX9_put : ByteArray := prog_11_method_7_code
def yX9_put : MethodName := ⟨RX9, "put", "(II)V"⟩
abbrev cX9_ownerOf : ByteArray := prog_11_method_8_code
def yX9_ownerOf : MethodName := ⟨RX9, "ownerOf", "(I)I"⟩
abbrev cX9_gainOf : ByteArray := prog_11_method_9_code
def yX9_gainOf : MethodName := ⟨RX9, "gainOf", "(I)I"⟩
abbrev cX9_gainAt : ByteArray := prog_11_method_10_code
def yX9_gainAt : MethodName := ⟨RX9, "gainAt", "(II)I"⟩
abbrev cX9_gainOfOthers : ByteArray := prog_11_method_11_code
def yX9_gainOfOthers : MethodName := ⟨RX9, "gainOfOthers", "(I)I"⟩
abbrev cX9_leftAt : ByteArray := prog_11_method_12_code
def yX9_leftAt : MethodName := ⟨RX9, "leftAt", "(II)I"⟩
abbrev cX9_leftOfAll : ByteArray := prog_11_method_13_code
def yX9_leftOfAll : MethodName := ⟨RX9, "leftOfAll", "(I)I"⟩
abbrev cX9_bestPlaceOf : ByteArray := prog_11_method_14_code
def yX9_bestPlaceOf : MethodName := ⟨RX9, "bestPlaceOf", "(I)I"⟩
abbrev cX9_isAtRest : ByteArray := prog_11_method_15_code
def yX9_isAtRest : MethodName := ⟨RX9, "isAtRest", "()Z"⟩
abbrev cX9_worthOfStanding : ByteArray := prog_11_method_16_code
def yX9_worthOfStanding : MethodName := ⟨RX9, "worthOfStanding", "(Z)I"⟩
abbrev cX9_dearestBut : ByteArray := prog_11_method_17_code
def yX9_dearestBut : MethodName := ⟨RX9, "dearestBut", "(I)I"⟩
abbrev cX9_firstWay : ByteArray := prog_11_method_18_code
def yX9_firstWay : MethodName := ⟨RX9, "firstWay", "(I)I"⟩
abbrev cX9_nextWay : ByteArray := prog_11_method_19_code
def yX9_nextWay : MethodName := ⟨RX9, "nextWay", "(I)V"⟩
abbrev cX9_digitsOf : ByteArray := prog_11_method_20_code
def yX9_digitsOf : MethodName := ⟨RX9, "digitsOf", "(I)I"⟩
def RX10 : String := "HighWater$Well"
def TX10 : u_T := fun k => match k with
  | 0 => ("HighWater$Island", "kind", "I", true)
  | 1 => ("HighWater$Island", "told", "I", true)
  | 2 => ("HighWater$Island", "rises", "I", true)
  | _ => ("HighWater$Island", "more", "I", true)
def tyX10 : Nat → FieldType := fun k => match k with
  | 0 => .int
  | 1 => .int
  | 2 => .int
  | _ => .int
abbrev wsX100 : List Cond := u_ws RX10 TX10 4
theorem nmX10 : ∀ a, a < 4 → ∀ b, b < 4 → a ≠ b → (TX10 a).2.1 ≠ (TX10 b).2.1 := by decide +kernel
theorem tyX10_ok : ∀ k, k < 4 → parseFieldDescriptor (TX10 k).2.2.1 = some (tyX10 k) := by decide +kernel
abbrev cX10_init : ByteArray := prog_12_method_1_code
def yX10_init : MethodName := ⟨RX10, "<init>", "(IIII)V"⟩
abbrev cX10_worthAt : ByteArray := prog_12_method_2_code
def yX10_worthAt : MethodName := ⟨RX10, "worthAt", "(II)I"⟩
def RX11 : String := "HighWater"
def TX11 : u_T := fun k => match k with
  | 0 => ("HighWater", "now", "LHighWater$Bay;", true)
  | 1 => ("HighWater", "kept", "LHighWater$Bay;", true)
  | 2 => ("HighWater", "isKept", "Z", false)
  | 3 => ("HighWater", "islands", "[LHighWater$Island;", true)
  | 4 => ("HighWater", "texts", "[LHighWater$Text;", true)
  | 5 => ("HighWater", "textCount", "I", false)
  | 6 => ("HighWater", "tape", "LHighWater$Tape;", true)
  | 7 => ("HighWater", "sheets", "[LHighWater$Sheet;", true)
  | 8 => ("HighWater", "top", "LHighWater$Top;", true)
  | 9 => ("HighWater", "names", "[I", true)
  | 10 => ("HighWater", "stack", "[I", true)
  | 11 => ("HighWater", "storms", "[I", true)
  | _ => ("HighWater", "shares", "[I", true)
def tyX11 : Nat → FieldType := fun k => match k with
  | 0 => .object "HighWater$Bay"
  | 1 => .object "HighWater$Bay"
  | 2 => .boolean
  | 3 => .array (.object "HighWater$Island")
  | 4 => .array (.object "HighWater$Text")
  | 5 => .int
  | 6 => .object "HighWater$Tape"
  | 7 => .array (.object "HighWater$Sheet")
  | 8 => .object "HighWater$Top"
  | 9 => .array .int
  | 10 => .array .int
  | 11 => .array .int
  | _ => .array .int
abbrev wsX110 : List Cond := u_ws RX11 TX11 13
theorem nmX11 : ∀ a, a < 13 → ∀ b, b < 13 → a ≠ b → (TX11 a).2.1 ≠ (TX11 b).2.1 := by decide +kernel
theorem tyX11_ok : ∀ k, k < 13 → parseFieldDescriptor (TX11 k).2.2.1 = some (tyX11 k) := by decide +kernel
abbrev cX11_init : ByteArray := prog_1_method_1_code
def yX11_init : MethodName := ⟨RX11, "<init>", "()V"⟩
abbrev cX11_tide : ByteArray := prog_1_method_2_code
def yX11_tide : MethodName := ⟨RX11, "tide", "(II)I"⟩
abbrev cX11_height : ByteArray := prog_1_method_3_code
def yX11_height : MethodName := ⟨RX11, "height", "(I)I"⟩
abbrev cX11_come : ByteArray := prog_1_method_4_code
def yX11_come : MethodName := ⟨RX11, "come", "()I"⟩
abbrev cX11_go : ByteArray := prog_1_method_5_code
def yX11_go : MethodName := ⟨RX11, "go", "(III)I"⟩
abbrev cX11_at : ByteArray := prog_1_method_6_code
def yX11_at : MethodName := ⟨RX11, "at", "(II)I"⟩
abbrev cX11_count : ByteArray := prog_1_method_7_code
def yX11_count : MethodName := ⟨RX11, "count", "(I)I"⟩
abbrev cX11_feed : ByteArray := prog_1_method_8_code
def yX11_feed : MethodName := ⟨RX11, "feed", "(IIIIII)I"⟩
abbrev cX11_text : ByteArray := prog_1_method_9_code
def yX11_text : MethodName := ⟨RX11, "text", "()I"⟩
abbrev cX11_force : ByteArray := prog_1_method_10_code
def yX11_force : MethodName := ⟨RX11, "force", "(I)I"⟩
abbrev cX11_asks : ByteArray := prog_1_method_11_code
def yX11_asks : MethodName := ⟨RX11, "asks", "(IIIII)I"⟩
abbrev cX11_island : ByteArray := prog_1_method_12_code
def yX11_island : MethodName := ⟨RX11, "island", "(IIII)I"⟩
abbrev cX11_told : ByteArray := prog_1_method_13_code
def yX11_told : MethodName := ⟨RX11, "told", "(II)I"⟩
abbrev cX11_then : ByteArray := prog_1_method_14_code
def yX11_then : MethodName := ⟨RX11, "then", "(III)I"⟩
abbrev cX11_joined : ByteArray := prog_1_method_15_code
def yX11_joined : MethodName := ⟨RX11, "joined", "(II)I"⟩
abbrev cX11_whose : ByteArray := prog_1_method_16_code
def yX11_whose : MethodName := ⟨RX11, "whose", "(II)I"⟩
abbrev cX11_gain : ByteArray := prog_1_method_17_code
def yX11_gain : MethodName := ⟨RX11, "gain", "(II)I"⟩
abbrev cX11_costs : ByteArray := prog_1_method_18_code
def yX11_costs : MethodName := ⟨RX11, "costs", "(II)I"⟩
abbrev cX11_year : ByteArray := prog_1_method_19_code
def yX11_year : MethodName := ⟨RX11, "year", "(II)I"⟩
abbrev cX11_best : ByteArray := prog_1_method_20_code
def yX11_best : MethodName := ⟨RX11, "best", "(III)I"⟩
abbrev cX11_wise : ByteArray := prog_1_method_21_code
def yX11_wise : MethodName := ⟨RX11, "wise", "(I)I"⟩
abbrev cX11_rest : ByteArray := prog_1_method_22_code
def yX11_rest : MethodName := ⟨RX11, "rest", "(I)I"⟩
abbrev cX11_ways : ByteArray := prog_1_method_23_code
def yX11_ways : MethodName := ⟨RX11, "ways", "(II)I"⟩
abbrev cX11_family : ByteArray := prog_1_method_24_code
def yX11_family : MethodName := ⟨RX11, "family", "(III)I"⟩
abbrev cX11_spoil : ByteArray := prog_1_method_25_code
def yX11_spoil : MethodName := ⟨RX11, "spoil", "(III)I"⟩
abbrev cX11_ransom : ByteArray := prog_1_method_26_code
def yX11_ransom : MethodName := ⟨RX11, "ransom", "(III)I"⟩
abbrev cX11_share : ByteArray := prog_1_method_27_code
def yX11_share : MethodName := ⟨RX11, "share", "(IIII)I"⟩
abbrev cX11_unfair : ByteArray := prog_1_method_28_code
def yX11_unfair : MethodName := ⟨RX11, "unfair", "(III)I"⟩
abbrev cX11_dear : ByteArray := prog_1_method_29_code
def yX11_dear : MethodName := ⟨RX11, "dear", "(I)I"⟩
abbrev cX11_holds : ByteArray := prog_1_method_30_code
def yX11_holds : MethodName := ⟨RX11, "holds", "(III)I"⟩
abbrev cX11_judge : ByteArray := prog_1_method_31_code
def yX11_judge : MethodName := ⟨RX11, "judge", "(II)I"⟩
abbrev cX11_when : ByteArray := prog_1_method_32_code
def yX11_when : MethodName := ⟨RX11, "when", "(I)I"⟩
abbrev cX11_were : ByteArray := prog_1_method_33_code
def yX11_were : MethodName := ⟨RX11, "were", "(IIII)I"⟩
abbrev cX11_film : ByteArray := prog_1_method_34_code
def yX11_film : MethodName := ⟨RX11, "film", "(II)I"⟩
abbrev cX11_laws : ByteArray := prog_1_method_35_code
def yX11_laws : MethodName := ⟨RX11, "laws", "(III)I"⟩
abbrev cX11_drawn : ByteArray := prog_1_method_36_code
def yX11_drawn : MethodName := ⟨RX11, "drawn", "(IIII)I"⟩
abbrev cX11_mean : ByteArray := prog_1_method_37_code
def yX11_mean : MethodName := ⟨RX11, "mean", "(IIIII)J"⟩
abbrev cX11_image : ByteArray := prog_1_method_38_code
def yX11_image : MethodName := ⟨RX11, "image", "()I"⟩
abbrev cX11_back : ByteArray := prog_1_method_39_code
def yX11_back : MethodName := ⟨RX11, "back", "()I"⟩
abbrev cX11_sheet : ByteArray := prog_1_method_40_code
def yX11_sheet : MethodName := ⟨RX11, "sheet", "(III)I"⟩
abbrev cX11_cell : ByteArray := prog_1_method_41_code
def yX11_cell : MethodName := ⟨RX11, "cell", "(III)I"⟩
abbrev cX11_copy : ByteArray := prog_1_method_42_code
def yX11_copy : MethodName := ⟨RX11, "copy", "(IIIII)I"⟩
abbrev cX11_islandsBy : ByteArray := prog_1_method_43_code
def yX11_islandsBy : MethodName := ⟨RX11, "islandsBy", "(IIII)I"⟩
abbrev cX11_taken : ByteArray := prog_1_method_44_code
def yX11_taken : MethodName := ⟨RX11, "taken", "(II)I"⟩
abbrev cX11_isWithin : ByteArray := prog_1_method_45_code
def yX11_isWithin : MethodName := ⟨RX11, "isWithin", "(II)Z"⟩
abbrev cX11_isByte : ByteArray := prog_1_method_46_code
def yX11_isByte : MethodName := ⟨RX11, "isByte", "(I)Z"⟩
abbrev cX11_isTide : ByteArray := prog_1_method_47_code
def yX11_isTide : MethodName := ⟨RX11, "isTide", "(I)Z"⟩
abbrev cX11_isSheet : ByteArray := prog_1_method_48_code
def yX11_isSheet : MethodName := ⟨RX11, "isSheet", "(I)Z"⟩
abbrev cX11_isOne : ByteArray := prog_1_method_49_code
def yX11_isOne : MethodName := ⟨RX11, "isOne", "(I)Z"⟩
abbrev cX11_isIsland : ByteArray := prog_1_method_50_code
def yX11_isIsland : MethodName := ⟨RX11, "isIsland", "(I)Z"⟩
abbrev cX11_everybody : ByteArray := prog_1_method_51_code
def yX11_everybody : MethodName := ⟨RX11, "everybody", "()I"⟩
abbrev cX11_islandAt : ByteArray := prog_1_method_52_code
def yX11_islandAt : MethodName := ⟨RX11, "islandAt", "(I)LHighWater$Island;"⟩
abbrev cX11_textAt : ByteArray := prog_1_method_53_code
def yX11_textAt : MethodName := ⟨RX11, "textAt", "(I)LHighWater$Text;"⟩
abbrev cX11_law : ByteArray := prog_1_method_54_code
def yX11_law : MethodName := ⟨RX11, "law", "()LHighWater$Text;"⟩
abbrev cX11_refusalOfSheet : ByteArray := prog_1_method_55_code
def yX11_refusalOfSheet : MethodName := ⟨RX11, "refusalOfSheet", "(I)I"⟩
abbrev cX11_refusalOfOwners : ByteArray := prog_1_method_56_code
def yX11_refusalOfOwners : MethodName := ⟨RX11, "refusalOfOwners", "(I)I"⟩
abbrev cX11_name : ByteArray := prog_1_method_57_code
def yX11_name : MethodName := ⟨RX11, "name", "(IIIIII)V"⟩
abbrev cX11_saysOf : ByteArray := prog_1_method_58_code
def yX11_saysOf : MethodName := ⟨RX11, "saysOf", "(LHighWater$Text;I)I"⟩
abbrev cX11_worthUnder : ByteArray := prog_1_method_59_code
def yX11_worthUnder : MethodName := ⟨RX11, "worthUnder", "(LHighWater$Text;II)I"⟩
abbrev cX11_costOf : ByteArray := prog_1_method_60_code
def yX11_costOf : MethodName := ⟨RX11, "costOf", "(III)I"⟩
abbrev cX11_stormOf : ByteArray := prog_1_method_61_code
def yX11_stormOf : MethodName := ⟨RX11, "stormOf", "(II)I"⟩
abbrev cX11_lookAt : ByteArray := prog_1_method_62_code
def yX11_lookAt : MethodName := ⟨RX11, "lookAt", "(ILHighWater$Text;)V"⟩
abbrev cX11_lookWithCosts : ByteArray := prog_1_method_63_code
def yX11_lookWithCosts : MethodName := ⟨RX11, "lookWithCosts", "(I)V"⟩
abbrev cX11_lookForStorms : ByteArray := prog_1_method_64_code
def yX11_lookForStorms : MethodName := ⟨RX11, "lookForStorms", "(I)V"⟩
abbrev cX11_keptBy : ByteArray := prog_1_method_65_code
def yX11_keptBy : MethodName := ⟨RX11, "keptBy", "(I)I"⟩
abbrev cX11_gainBy : ByteArray := prog_1_method_66_code
def yX11_gainBy : MethodName := ⟨RX11, "gainBy", "(III)I"⟩
abbrev cX11_greatestDivisor : ByteArray := prog_1_method_67_code
def yX11_greatestDivisor : MethodName := ⟨RX11, "greatestDivisor", "(JJ)J"⟩
abbrev cX11_partIslands : ByteArray := prog_1_method_68_code
def yX11_partIslands : MethodName := ⟨RX11, "partIslands", "(IIZ)V"⟩
abbrev cX11_firstOtherwise : ByteArray := prog_1_method_69_code
def yX11_firstOtherwise : MethodName := ⟨RX11, "firstOtherwise", "(LHighWater$Sheet;)I"⟩
abbrev cX11_newIsland : ByteArray := prog_1_method_70_code
def yX11_newIsland : MethodName := ⟨RX11, "newIsland", "(IIII)LHighWater$Island;"⟩
abbrev cX11_isOfKind : ByteArray := prog_1_method_71_code
def yX11_isOfKind : MethodName := ⟨RX11, "isOfKind", "(LHighWater$Island;I)Z"⟩
def RX12 : String := "HighWaterModel"
def TX12 : u_T := fun k => match k with
  | 0 => ("HighWaterModel", "heightOf", "[I", true)
  | 1 => ("HighWaterModel", "islands", "I", false)
  | 2 => ("HighWaterModel", "kind", "[I", true)
  | 3 => ("HighWaterModel", "toldOf", "[I", true)
  | 4 => ("HighWaterModel", "risesOf", "[I", true)
  | 5 => ("HighWaterModel", "moreOf", "[I", true)
  | 6 => ("HighWaterModel", "people", "I", false)
  | 7 => ("HighWaterModel", "whereOf", "[I", true)
  | 8 => ("HighWaterModel", "tape", "[I", true)
  | 9 => ("HighWaterModel", "taped", "I", false)
  | 10 => ("HighWaterModel", "codes", "[I", true)
  | 11 => ("HighWaterModel", "starts", "[I", true)
  | 12 => ("HighWaterModel", "texts", "I", false)
  | 13 => ("HighWaterModel", "rule", "I", false)
  | 14 => ("HighWaterModel", "hasImage", "Z", false)
  | 15 => ("HighWaterModel", "imagePeople", "I", false)
  | 16 => ("HighWaterModel", "imageIslands", "I", false)
  | 17 => ("HighWaterModel", "imageRule", "I", false)
  | 18 => ("HighWaterModel", "imageHeight", "[I", true)
  | 19 => ("HighWaterModel", "imageWhere", "[I", true)
  | 20 => ("HighWaterModel", "sheetSort", "[I", true)
  | 21 => ("HighWaterModel", "sheetSize", "[I", true)
  | 22 => ("HighWaterModel", "cells", "[I", true)
  | 23 => ("HighWaterModel", "law", "[I", true)
  | 24 => ("HighWaterModel", "at", "I", false)
  | 25 => ("HighWaterModel", "begun", "I", false)
  | 26 => ("HighWaterModel", "token", "I", false)
  | 27 => ("HighWaterModel", "value", "I", false)
  | 28 => ("HighWaterModel", "words", "[I", true)
  | 29 => ("HighWaterModel", "held", "[I", true)
  | 30 => ("HighWaterModel", "heldMany", "I", false)
  | 31 => ("HighWaterModel", "opens", "I", false)
  | 32 => ("HighWaterModel", "out", "I", false)
  | 33 => ("HighWaterModel", "stack", "[I", true)
  | 34 => ("HighWaterModel", "named", "[I", true)
  | 35 => ("HighWaterModel", "ones0", "[I", true)
  | 36 => ("HighWaterModel", "standing", "I", false)
  | 37 => ("HighWaterModel", "worths", "[I", true)
  | 38 => ("HighWaterModel", "place", "[I", true)
  | 39 => ("HighWaterModel", "ahead", "[I", true)
  | _ => ("HighWaterModel", "shares", "[I", true)
def tyX12 : Nat → FieldType := fun k => match k with
  | 0 => .array .int
  | 1 => .int
  | 2 => .array .int
  | 3 => .array .int
  | 4 => .array .int
  | 5 => .array .int
  | 6 => .int
  | 7 => .array .int
  | 8 => .array .int
  | 9 => .int
  | 10 => .array .int
  | 11 => .array .int
  | 12 => .int
  | 13 => .int
  | 14 => .boolean
  | 15 => .int
  | 16 => .int
  | 17 => .int
  | 18 => .array .int
  | 19 => .array .int
  | 20 => .array .int
  | 21 => .array .int
  | 22 => .array .int
  | 23 => .array .int
  | 24 => .int
  | 25 => .int
  | 26 => .int
  | 27 => .int
  | 28 => .array .int
  | 29 => .array .int
  | 30 => .int
  | 31 => .int
  | 32 => .int
  | 33 => .array .int
  | 34 => .array .int
  | 35 => .array .int
  | 36 => .int
  | 37 => .array .int
  | 38 => .array .int
  | 39 => .array .int
  | _ => .array .int
abbrev wsX120 : List Cond := u_ws RX12 TX12 41
theorem nmX12 : ∀ a, a < 41 → ∀ b, b < 41 → a ≠ b → (TX12 a).2.1 ≠ (TX12 b).2.1 := by decide +kernel
theorem tyX12_ok : ∀ k, k < 41 → parseFieldDescriptor (TX12 k).2.2.1 = some (tyX12 k) := by decide +kernel
abbrev cX12_init : ByteArray := prog_14_method_1_code
def yX12_init : MethodName := ⟨RX12, "<init>", "()V"⟩
abbrev cX12_in : ByteArray := prog_14_method_3_code
def yX12_in : MethodName := ⟨RX12, "in", "(III)Z"⟩
abbrev cX12_within : ByteArray := prog_14_method_4_code
def yX12_within : MethodName := ⟨RX12, "within", "(III)I"⟩
abbrev cX12_isTide : ByteArray := prog_14_method_5_code
def yX12_isTide : MethodName := ⟨RX12, "isTide", "(I)Z"⟩
abbrev cX12_isIsland : ByteArray := prog_14_method_6_code
def yX12_isIsland : MethodName := ⟨RX12, "isIsland", "(I)Z"⟩
abbrev cX12_isOne : ByteArray := prog_14_method_7_code
def yX12_isOne : MethodName := ⟨RX12, "isOne", "(I)Z"⟩
abbrev cX12_tide : ByteArray := prog_14_method_8_code
def yX12_tide : MethodName := ⟨RX12, "tide", "(II)I"⟩
abbrev cX12_height : ByteArray := prog_14_method_9_code
def yX12_height : MethodName := ⟨RX12, "height", "(I)I"⟩
abbrev cX12_come : ByteArray := prog_14_method_10_code
def yX12_come : MethodName := ⟨RX12, "come", "()I"⟩
abbrev cX12_go : ByteArray := prog_14_method_11_code
def yX12_go : MethodName := ⟨RX12, "go", "(III)I"⟩
abbrev cX12_at : ByteArray := prog_14_method_12_code
def yX12_at : MethodName := ⟨RX12, "at", "(II)I"⟩
abbrev cX12_count : ByteArray := prog_14_method_13_code
def yX12_count : MethodName := ⟨RX12, "count", "(I)I"⟩
abbrev cX12_isByte : ByteArray := prog_14_method_14_code
def yX12_isByte : MethodName := ⟨RX12, "isByte", "(I)Z"⟩
abbrev cX12_feed : ByteArray := prog_14_method_15_code
def yX12_feed : MethodName := ⟨RX12, "feed", "(IIIIII)I"⟩
abbrev cX12_wordFrom : ByteArray := prog_14_method_16_code
def yX12_wordFrom : MethodName := ⟨RX12, "wordFrom", "(II)I"⟩
abbrev cX12_next : ByteArray := prog_14_method_17_code
def yX12_next : MethodName := ⟨RX12, "next", "()V"⟩
abbrev cX12_rank : ByteArray := prog_14_method_18_code
def yX12_rank : MethodName := ⟨RX12, "rank", "(I)I"⟩
abbrev cX12_puts : ByteArray := prog_14_method_19_code
def yX12_puts : MethodName := ⟨RX12, "puts", "(I)V"⟩
abbrev cX12_unwinds : ByteArray := prog_14_method_20_code
def yX12_unwinds : MethodName := ⟨RX12, "unwinds", "(I)V"⟩
abbrev cX12_holds : ByteArray := prog_14_method_21_code
def yX12_holds : MethodName := ⟨RX12, "holds", "(I)V"⟩
abbrev cX12_opensOne : ByteArray := prog_14_method_22_code
def yX12_opensOne : MethodName := ⟨RX12, "opensOne", "(I)Z"⟩
abbrev cX12_between : ByteArray := prog_14_method_23_code
def yX12_between : MethodName := ⟨RX12, "between", "(I)Z"⟩
abbrev cX12_signOf : ByteArray := prog_14_method_24_code
def yX12_signOf : MethodName := ⟨RX12, "signOf", "()I"⟩
abbrev cX12_eRead : ByteArray := prog_14_method_25_code
def yX12_eRead : MethodName := ⟨RX12, "eRead", "()Z"⟩
abbrev cX12_text : ByteArray := prog_14_method_26_code
def yX12_text : MethodName := ⟨RX12, "text", "()I"⟩
abbrev cX12_two : ByteArray := prog_14_method_27_code
def yX12_two : MethodName := ⟨RX12, "two", "(III)I"⟩
abbrev cX12_says : ByteArray := prog_14_method_28_code
def yX12_says : MethodName := ⟨RX12, "says", "(I)I"⟩
abbrev cX12_force : ByteArray := prog_14_method_29_code
def yX12_force : MethodName := ⟨RX12, "force", "(I)I"⟩
abbrev cX12_asksOf : ByteArray := prog_14_method_30_code
def yX12_asksOf : MethodName := ⟨RX12, "asksOf", "(IIIIIII)I"⟩
abbrev cX12_asks : ByteArray := prog_14_method_31_code
def yX12_asks : MethodName := ⟨RX12, "asks", "(IIIII)I"⟩
abbrev cX12_island : ByteArray := prog_14_method_32_code
def yX12_island : MethodName := ⟨RX12, "island", "(IIII)I"⟩
abbrev cX12_told : ByteArray := prog_14_method_33_code
def yX12_told : MethodName := ⟨RX12, "told", "(II)I"⟩
abbrev cX12_stands : ByteArray := prog_14_method_34_code
def yX12_stands : MethodName := ⟨RX12, "stands", "(II)Z"⟩
abbrev cX12_worthOf : ByteArray := prog_14_method_35_code
def yX12_worthOf : MethodName := ⟨RX12, "worthOf", "(II)I"⟩
abbrev cX12_joinsOf : ByteArray := prog_14_method_36_code
def yX12_joinsOf : MethodName := ⟨RX12, "joinsOf", "(II)I"⟩
abbrev cX12_looksAt : ByteArray := prog_14_method_37_code
def yX12_looksAt : MethodName := ⟨RX12, "looksAt", "(I)V"⟩
abbrev cX12_then : ByteArray := prog_14_method_38_code
def yX12_then : MethodName := ⟨RX12, "then", "(III)I"⟩
abbrev cX12_joined : ByteArray := prog_14_method_39_code
def yX12_joined : MethodName := ⟨RX12, "joined", "(II)I"⟩
abbrev cX12_comesTo : ByteArray := prog_14_method_40_code
def yX12_comesTo : MethodName := ⟨RX12, "comesTo", "(I)V"⟩
abbrev cX12_isThere : ByteArray := prog_14_method_41_code
def yX12_isThere : MethodName := ⟨RX12, "isThere", "(I)Z"⟩
abbrev cX12_owner : ByteArray := prog_14_method_42_code
def yX12_owner : MethodName := ⟨RX12, "owner", "(I)I"⟩
abbrev cX12_gainOf : ByteArray := prog_14_method_43_code
def yX12_gainOf : MethodName := ⟨RX12, "gainOf", "(I)I"⟩
abbrev cX12_costTo : ByteArray := prog_14_method_44_code
def yX12_costTo : MethodName := ⟨RX12, "costTo", "(III)I"⟩
abbrev cX12_leftAt : ByteArray := prog_14_method_45_code
def yX12_leftAt : MethodName := ⟨RX12, "leftAt", "(III)I"⟩
abbrev cX12_whose : ByteArray := prog_14_method_46_code
def yX12_whose : MethodName := ⟨RX12, "whose", "(II)I"⟩
abbrev cX12_gain : ByteArray := prog_14_method_47_code
def yX12_gain : MethodName := ⟨RX12, "gain", "(II)I"⟩
abbrev cX12_costs : ByteArray := prog_14_method_48_code
def yX12_costs : MethodName := ⟨RX12, "costs", "(II)I"⟩
abbrev cX12_year : ByteArray := prog_14_method_49_code
def yX12_year : MethodName := ⟨RX12, "year", "(II)I"⟩
abbrev cX12_bestPlace : ByteArray := prog_14_method_50_code
def yX12_bestPlace : MethodName := ⟨RX12, "bestPlace", "(II)I"⟩
abbrev cX12_best : ByteArray := prog_14_method_51_code
def yX12_best : MethodName := ⟨RX12, "best", "(III)I"⟩
abbrev cX12_wise : ByteArray := prog_14_method_52_code
def yX12_wise : MethodName := ⟨RX12, "wise", "(I)I"⟩
abbrev cX12_isRest : ByteArray := prog_14_method_53_code
def yX12_isRest : MethodName := ⟨RX12, "isRest", "(I)Z"⟩
abbrev cX12_rest : ByteArray := prog_14_method_54_code
def yX12_rest : MethodName := ⟨RX12, "rest", "(I)I"⟩
abbrev cX12_next0 : ByteArray := prog_14_method_55_code
def yX12_next0 : MethodName := ⟨RX12, "next0", "(I)Z"⟩
abbrev cX12_begins : ByteArray := prog_14_method_56_code
def yX12_begins : MethodName := ⟨RX12, "begins", "(I)V"⟩
abbrev cX12_digits : ByteArray := prog_14_method_57_code
def yX12_digits : MethodName := ⟨RX12, "digits", "(I)I"⟩
abbrev cX12_everybody : ByteArray := prog_14_method_58_code
def yX12_everybody : MethodName := ⟨RX12, "everybody", "()I"⟩
abbrev cX12_ways : ByteArray := prog_14_method_59_code
def yX12_ways : MethodName := ⟨RX12, "ways", "(II)I"⟩
abbrev cX12_leftOf : ByteArray := prog_14_method_60_code
def yX12_leftOf : MethodName := ⟨RX12, "leftOf", "(II)I"⟩
abbrev cX12_family : ByteArray := prog_14_method_61_code
def yX12_family : MethodName := ⟨RX12, "family", "(III)I"⟩
abbrev cX12_gainOfOthers : ByteArray := prog_14_method_62_code
def yX12_gainOfOthers : MethodName := ⟨RX12, "gainOfOthers", "(I)I"⟩
abbrev cX12_spoil : ByteArray := prog_14_method_63_code
def yX12_spoil : MethodName := ⟨RX12, "spoil", "(III)I"⟩
abbrev cX12_ransom : ByteArray := prog_14_method_64_code
def yX12_ransom : MethodName := ⟨RX12, "ransom", "(III)I"⟩
abbrev cX12_dearest : ByteArray := prog_14_method_65_code
def yX12_dearest : MethodName := ⟨RX12, "dearest", "(I)I"⟩
abbrev cX12_parts : ByteArray := prog_14_method_66_code
def yX12_parts : MethodName := ⟨RX12, "parts", "(III)V"⟩
abbrev cX12_share : ByteArray := prog_14_method_67_code
def yX12_share : MethodName := ⟨RX12, "share", "(IIII)I"⟩
abbrev cX12_unfair : ByteArray := prog_14_method_68_code
def yX12_unfair : MethodName := ⟨RX12, "unfair", "(III)I"⟩
abbrev cX12_worthAt : ByteArray := prog_14_method_69_code
def yX12_worthAt : MethodName := ⟨RX12, "worthAt", "(IZ)I"⟩
abbrev cX12_dear : ByteArray := prog_14_method_70_code
def yX12_dear : MethodName := ⟨RX12, "dear", "(I)I"⟩
abbrev cX12_holds_ : ByteArray := prog_14_method_71_code
def yX12_holds_ : MethodName := ⟨RX12, "holds", "(III)I"⟩
abbrev cX12_sheetWrong : ByteArray := prog_14_method_72_code
def yX12_sheetWrong : MethodName := ⟨RX12, "sheetWrong", "(I)I"⟩
abbrev cX12_unlike : ByteArray := prog_14_method_73_code
def yX12_unlike : MethodName := ⟨RX12, "unlike", "(I)I"⟩
abbrev cX12_judge : ByteArray := prog_14_method_74_code
def yX12_judge : MethodName := ⟨RX12, "judge", "(II)I"⟩
abbrev cX12_when : ByteArray := prog_14_method_75_code
def yX12_when : MethodName := ⟨RX12, "when", "(I)I"⟩
abbrev cX12_were : ByteArray := prog_14_method_76_code
def yX12_were : MethodName := ⟨RX12, "were", "(IIII)I"⟩
abbrev cX12_film : ByteArray := prog_14_method_77_code
def yX12_film : MethodName := ⟨RX12, "film", "(II)I"⟩
abbrev cX12_laws : ByteArray := prog_14_method_78_code
def yX12_laws : MethodName := ⟨RX12, "laws", "(III)I"⟩
abbrev cX12_storms : ByteArray := prog_14_method_79_code
def yX12_storms : MethodName := ⟨RX12, "storms", "(II)I"⟩
abbrev cX12_drawn : ByteArray := prog_14_method_80_code
def yX12_drawn : MethodName := ⟨RX12, "drawn", "(IIII)I"⟩
abbrev cX12_lowest : ByteArray := prog_14_method_81_code
def yX12_lowest : MethodName := ⟨RX12, "lowest", "(JJI)J"⟩
abbrev cX12_mean : ByteArray := prog_14_method_82_code
def yX12_mean : MethodName := ⟨RX12, "mean", "(IIIII)J"⟩
abbrev cX12_image : ByteArray := prog_14_method_83_code
def yX12_image : MethodName := ⟨RX12, "image", "()I"⟩
abbrev cX12_back : ByteArray := prog_14_method_84_code
def yX12_back : MethodName := ⟨RX12, "back", "()I"⟩
abbrev cX12_sheet : ByteArray := prog_14_method_85_code
def yX12_sheet : MethodName := ⟨RX12, "sheet", "(III)I"⟩
abbrev cX12_cell : ByteArray := prog_14_method_86_code
def yX12_cell : MethodName := ⟨RX12, "cell", "(III)I"⟩
abbrev cX12_copy : ByteArray := prog_14_method_87_code
def yX12_copy : MethodName := ⟨RX12, "copy", "(IIIII)I"⟩
abbrev cX12_islandsBy : ByteArray := prog_14_method_88_code
def yX12_islandsBy : MethodName := ⟨RX12, "islandsBy", "(IIII)I"⟩
abbrev cX12_isUnder : ByteArray := prog_14_method_89_code
def yX12_isUnder : MethodName := ⟨RX12, "isUnder", "(II)Z"⟩
abbrev cX12_taken : ByteArray := prog_14_method_90_code
def yX12_taken : MethodName := ⟨RX12, "taken", "(II)I"⟩
def RJx145de : String := "java/io/Serializable"
def TJx145de : u_T := fun k => match k with
  | _ => ("", "", "", false)
def tyJx145de : Nat → FieldType := fun k => match k with
  | _ => .int
abbrev wsJx145de0 : List Cond := u_ws RJx145de TJx145de 0
theorem nmJx145de : ∀ a, a < 0 → ∀ b, b < 0 → a ≠ b → (TJx145de a).2.1 ≠ (TJx145de b).2.1 := by decide +kernel
theorem tyJx145de_ok : ∀ k, k < 0 → parseFieldDescriptor (TJx145de k).2.2.1 = some (tyJx145de k) := by decide +kernel
def RJx9f9b0 : String := "java/lang/CharSequence"
def TJx9f9b0 : u_T := fun k => match k with
  | _ => ("", "", "", false)
def tyJx9f9b0 : Nat → FieldType := fun k => match k with
  | _ => .int
abbrev wsJx9f9b00 : List Cond := u_ws RJx9f9b0 TJx9f9b0 0
theorem nmJx9f9b0 : ∀ a, a < 0 → ∀ b, b < 0 → a ≠ b → (TJx9f9b0 a).2.1 ≠ (TJx9f9b0 b).2.1 := by decide +kernel
theorem tyJx9f9b0_ok : ∀ k, k < 0 → parseFieldDescriptor (TJx9f9b0 k).2.2.1 = some (tyJx9f9b0 k) := by decide +kernel
def RJx8e188 : String := "java/lang/Cloneable"
def TJx8e188 : u_T := fun k => match k with
  | _ => ("", "", "", false)
def tyJx8e188 : Nat → FieldType := fun k => match k with
  | _ => .int
abbrev wsJx8e1880 : List Cond := u_ws RJx8e188 TJx8e188 0
theorem nmJx8e188 : ∀ a, a < 0 → ∀ b, b < 0 → a ≠ b → (TJx8e188 a).2.1 ≠ (TJx8e188 b).2.1 := by decide +kernel
theorem tyJx8e188_ok : ∀ k, k < 0 → parseFieldDescriptor (TJx8e188 k).2.2.1 = some (tyJx8e188 k) := by decide +kernel
def RJxb160c : String := "java/lang/Comparable"
def TJxb160c : u_T := fun k => match k with
  | _ => ("", "", "", false)
def tyJxb160c : Nat → FieldType := fun k => match k with
  | _ => .int
abbrev wsJxb160c0 : List Cond := u_ws RJxb160c TJxb160c 0
theorem nmJxb160c : ∀ a, a < 0 → ∀ b, b < 0 → a ≠ b → (TJxb160c a).2.1 ≠ (TJxb160c b).2.1 := by decide +kernel
theorem tyJxb160c_ok : ∀ k, k < 0 → parseFieldDescriptor (TJxb160c k).2.2.1 = some (tyJxb160c k) := by decide +kernel
def RJ6 : String := "java/lang/Integer"
def TJ6 : u_T := fun k => match k with
  | _ => ("", "", "", false)
def tyJ6 : Nat → FieldType := fun k => match k with
  | _ => .int
abbrev wsJ60 : List Cond := u_ws RJ6 TJ6 0
theorem nmJ6 : ∀ a, a < 0 → ∀ b, b < 0 → a ≠ b → (TJ6 a).2.1 ≠ (TJ6 b).2.1 := by decide +kernel
theorem tyJ6_ok : ∀ k, k < 0 → parseFieldDescriptor (TJ6 k).2.2.1 = some (tyJ6 k) := by decide +kernel
abbrev cJ6_numberOfTrailingZeros_0f7a4 : ByteArray := prog_16_method_48_code
def yJ6_numberOfTrailingZeros_0f7a4 : MethodName := ⟨RJ6, "numberOfTrailingZeros", "(I)I"⟩
def RJ9 : String := "java/lang/Math"
def TJ9 : u_T := fun k => match k with
  | _ => ("", "", "", false)
def tyJ9 : Nat → FieldType := fun k => match k with
  | _ => .int
abbrev wsJ90 : List Cond := u_ws RJ9 TJ9 0
theorem nmJ9 : ∀ a, a < 0 → ∀ b, b < 0 → a ≠ b → (TJ9 a).2.1 ≠ (TJ9 b).2.1 := by decide +kernel
theorem tyJ9_ok : ∀ k, k < 0 → parseFieldDescriptor (TJ9 k).2.2.1 = some (tyJ9 k) := by decide +kernel
abbrev cJ9_abs_0f7a4 : ByteArray := prog_17_method_59_code
def yJ9_abs_0f7a4 : MethodName := ⟨RJ9, "abs", "(I)I"⟩
abbrev cJ9_max_7cf53 : ByteArray := prog_17_method_65_code
def yJ9_max_7cf53 : MethodName := ⟨RJ9, "max", "(II)I"⟩
abbrev cJ9_min_7cf53 : ByteArray := prog_17_method_69_code
def yJ9_min_7cf53 : MethodName := ⟨RJ9, "min", "(II)I"⟩
def RJ0 : String := "java/lang/String"
def TJ0 : u_T := fun k => match k with
  | _ => ("", "", "", false)
def tyJ0 : Nat → FieldType := fun k => match k with
  | _ => .int
abbrev wsJ00 : List Cond := u_ws RJ0 TJ0 0
theorem nmJ0 : ∀ a, a < 0 → ∀ b, b < 0 → a ≠ b → (TJ0 a).2.1 ≠ (TJ0 b).2.1 := by decide +kernel
theorem tyJ0_ok : ∀ k, k < 0 → parseFieldDescriptor (TJ0 k).2.2.1 = some (tyJ0 k) := by decide +kernel
abbrev cJ0_length_8abf5 : ByteArray := prog_18_method_54_code
def yJ0_length_8abf5 : MethodName := ⟨RJ0, "length", "()I"⟩
abbrev cJ0_charAt_5068e : ByteArray := prog_18_method_56_code
def yJ0_charAt_5068e : MethodName := ⟨RJ0, "charAt", "(I)C"⟩
abbrev cJ0_coder_7d493 : ByteArray := prog_18_method_152_code
def yJ0_coder_7d493 : MethodName := ⟨RJ0, "coder", "()B"⟩
abbrev cJ0_isLatin1_aae02 : ByteArray := prog_18_method_154_code
def yJ0_isLatin1_aae02 : MethodName := ⟨RJ0, "isLatin1", "()Z"⟩
abbrev cJ0_checkIndex_df160 : ByteArray := prog_18_method_155_code
def yJ0_checkIndex_df160 : MethodName := ⟨RJ0, "checkIndex", "(II)V"⟩
def RJ1 : String := "java/lang/StringLatin1"
def TJ1 : u_T := fun k => match k with
  | _ => ("", "", "", false)
def tyJ1 : Nat → FieldType := fun k => match k with
  | _ => .int
abbrev wsJ10 : List Cond := u_ws RJ1 TJ1 0
theorem nmJ1 : ∀ a, a < 0 → ∀ b, b < 0 → a ≠ b → (TJ1 a).2.1 ≠ (TJ1 b).2.1 := by decide +kernel
theorem tyJ1_ok : ∀ k, k < 0 → parseFieldDescriptor (TJ1 k).2.2.1 = some (tyJ1 k) := by decide +kernel
abbrev cJ1_charAt_3b067 : ByteArray := prog_19_method_2_code
def yJ1_charAt_3b067 : MethodName := ⟨RJ1, "charAt", "([BI)C"⟩
def RJ2 : String := "java/lang/StringUTF16"
def TJ2 : u_T := fun k => match k with
  | _ => ("", "", "", false)
def tyJ2 : Nat → FieldType := fun k => match k with
  | _ => .int
abbrev wsJ20 : List Cond := u_ws RJ2 TJ2 0
theorem nmJ2 : ∀ a, a < 0 → ∀ b, b < 0 → a ≠ b → (TJ2 a).2.1 ≠ (TJ2 b).2.1 := by decide +kernel
theorem tyJ2_ok : ∀ k, k < 0 → parseFieldDescriptor (TJ2 k).2.2.1 = some (tyJ2 k) := by decide +kernel
abbrev cJ2_getChar_3b067 : ByteArray := prog_20_method_5_code
def yJ2_getChar_3b067 : MethodName := ⟨RJ2, "getChar", "([BI)C"⟩
abbrev cJ2_length_9d52b : ByteArray := prog_20_method_6_code
def yJ2_length_9d52b : MethodName := ⟨RJ2, "length", "([B)I"⟩
abbrev cJ2_charAt_3b067 : ByteArray := prog_20_method_83_code
def yJ2_charAt_3b067 : MethodName := ⟨RJ2, "charAt", "([BI)C"⟩
abbrev cJ2_checkIndex_2214a : ByteArray := prog_20_method_91_code
def yJ2_checkIndex_2214a : MethodName := ⟨RJ2, "checkIndex", "(I[B)V"⟩
def RJ10 : String := "java/lang/System"
def TJ10 : u_T := fun k => match k with
  | _ => ("", "", "", false)
def tyJ10 : Nat → FieldType := fun k => match k with
  | _ => .int
abbrev wsJ100 : List Cond := u_ws RJ10 TJ10 0
theorem nmJ10 : ∀ a, a < 0 → ∀ b, b < 0 → a ≠ b → (TJ10 a).2.1 ≠ (TJ10 b).2.1 := by decide +kernel
theorem tyJ10_ok : ∀ k, k < 0 → parseFieldDescriptor (TJ10 k).2.2.1 = some (tyJ10 k) := by decide +kernel
def RJxfd54e : String := "java/lang/constant/Constable"
def TJxfd54e : u_T := fun k => match k with
  | _ => ("", "", "", false)
def tyJxfd54e : Nat → FieldType := fun k => match k with
  | _ => .int
abbrev wsJxfd54e0 : List Cond := u_ws RJxfd54e TJxfd54e 0
theorem nmJxfd54e : ∀ a, a < 0 → ∀ b, b < 0 → a ≠ b → (TJxfd54e a).2.1 ≠ (TJxfd54e b).2.1 := by decide +kernel
theorem tyJxfd54e_ok : ∀ k, k < 0 → parseFieldDescriptor (TJxfd54e k).2.2.1 = some (tyJxfd54e k) := by decide +kernel
def RJx3cf43 : String := "java/lang/constant/ConstantDesc"
def TJx3cf43 : u_T := fun k => match k with
  | _ => ("", "", "", false)
def tyJx3cf43 : Nat → FieldType := fun k => match k with
  | _ => .int
abbrev wsJx3cf430 : List Cond := u_ws RJx3cf43 TJx3cf43 0
theorem nmJx3cf43 : ∀ a, a < 0 → ∀ b, b < 0 → a ≠ b → (TJx3cf43 a).2.1 ≠ (TJx3cf43 b).2.1 := by decide +kernel
theorem tyJx3cf43_ok : ∀ k, k < 0 → parseFieldDescriptor (TJx3cf43 k).2.2.1 = some (tyJx3cf43 k) := by decide +kernel
def RJ7 : String := "java/util/Arrays"
def TJ7 : u_T := fun k => match k with
  | _ => ("", "", "", false)
def tyJ7 : Nat → FieldType := fun k => match k with
  | _ => .int
abbrev wsJ70 : List Cond := u_ws RJ7 TJ7 0
theorem nmJ7 : ∀ a, a < 0 → ∀ b, b < 0 → a ≠ b → (TJ7 a).2.1 ≠ (TJ7 b).2.1 := by decide +kernel
theorem tyJ7_ok : ∀ k, k < 0 → parseFieldDescriptor (TJ7 k).2.2.1 = some (tyJ7 k) := by decide +kernel
abbrev cJ7_fill_53178 : ByteArray := prog_22_method_103_code
def yJ7_fill_53178 : MethodName := ⟨RJ7, "fill", "([II)V"⟩
abbrev cJ7_copyOf_59c91 : ByteArray := prog_22_method_123_code
def yJ7_copyOf_59c91 : MethodName := ⟨RJ7, "copyOf", "([II)[I"⟩
def RJ3 : String := "jdk/internal/util/Preconditions"
def TJ3 : u_T := fun k => match k with
  | _ => ("", "", "", false)
def tyJ3 : Nat → FieldType := fun k => match k with
  | _ => .int
abbrev wsJ30 : List Cond := u_ws RJ3 TJ3 0
theorem nmJ3 : ∀ a, a < 0 → ∀ b, b < 0 → a ≠ b → (TJ3 a).2.1 ≠ (TJ3 b).2.1 := by decide +kernel
theorem tyJ3_ok : ∀ k, k < 0 → parseFieldDescriptor (TJ3 k).2.2.1 = some (tyJ3 k) := by decide +kernel
abbrev cJ3_checkIndex_8e157 : ByteArray := prog_23_method_11_code
def yJ3_checkIndex_8e157 : MethodName := ⟨RJ3, "checkIndex", "(IILjava/util/function/BiFunction;)I"⟩
def RL : String := "HighWaterLaw"
abbrev cL_law : ByteArray := code
def yL_law : MethodName := ⟨RL, "law", "([I)Z"⟩
abbrev vwCl : List vw_C := [(RX0, TX0, 4), (RX1, TX1, 5), (RX2, TX2, 4), (RX3, TX3, 4), (RX4, TX4, 4), (RX5, TX5, 4), (RX6, TX6, 3), (RX7, TX7, 10), (RX8, TX8, 3), (RX9, TX9, 9), (RX10, TX10, 4), (RX11, TX11, 13), (RX12, TX12, 41)]
end
section
/-! AN ABSTRACT MACHINE for this claim's bytecode: memory is a list of shapes (a class or array tag, a length), int contents and references by place; a step is a predicate transformer. Soundness over the machine itself stands in a later part. -/
abbrev zI : Type := Nat → Nat → Int32
abbrev zR : Type := Nat → Nat → Option Nat
abbrev zM : Type := List (Nat × Nat) × zI × zR
abbrev zL : Type := List (Nat × Value)
/-- an entry of a method's code: its place, the instruction, two operands resolved, a constant, a list -/
abbrev zE : Type := Nat × Instr × Nat × Nat × Int32 × List Nat
def up2 {α : Type} (f : Nat → Nat → α) (k j : Nat) (v : α) : Nat → Nat → α := fun a b => if a = k then (if b = j then v else f a b) else f a b
def zero2 {α : Type} (f : Nat → Nat → α) (k n : Nat) (z : α) : Nat → Nat → α := fun a b => if k ≤ a ∧ a < k + n then z else f a b
def row2 {α : Type} (f : Nat → Nat → α) (k : Nat) (g : Nat → α) : Nat → Nat → α := fun a b => if a = k then g b else f a b
def zG (ls : zL) (k : Nat) : Option Value := (ls.find? (fun q => q.1 == k)).map (fun q => q.2)
/-- a local's new value, in its place -/
def zPut (ls : zL) (i : Nat) (v : Value) : zL := bif ls.any (fun q => q.1 == i) then ls.map (fun q => bif q.1 == i then (i, v) else q) else ls ++ [(i, v)]
/-- a long whose second half is written over goes -/
def zCut (ls : zL) (i : Nat) : zL := match i with
  | 0 => ls
  | j + 1 => match zG ls j with
    | some v => bif v.category == 2 then ls.filter (fun q => !(q.1 == j)) else ls
    | none => ls
def zS1 (ls : zL) (i : Nat) (v : Value) : zL := zPut (zCut ls i) i v
def zS2 (ls : zL) (i : Nat) (v : Value) : zL := zPut ((zCut ls i).filter (fun q => !(q.1 == i + 1))) i v
/-- which of the classes (by their numbers) another one is under -/
def zSub (ci y : Nat) : Bool := ci == y || (y == 3 && (ci == 0 || ci == 2 || ci == 4 || ci == 5 || ci == 10)) || (y == 2 && ci == 10) || (y == 4 && ci == 5)
def zLc (x y : Nat) : Int64 := if y = 1 then -(Int64.ofNat x) else Int64.ofNat x
/-- the bytes of the two String constants -/
def zStr : Nat → List Nat
  | 0 => [119, 111, 114, 116, 104, 32, 116, 111, 108, 100, 32, 59, 32, 99, 111, 115, 116, 115, 32, 102, 97, 114, 32, 59, 32, 115, 116, 111, 114, 109, 32, 104, 101, 105, 103, 104, 116, 32, 42, 32, 50, 32, 59]
  | _ => [119, 111, 114, 116, 104, 32, 99, 111, 115, 116, 115, 32, 115, 116, 111, 114, 109, 32, 111, 114, 32, 97, 110, 100, 32, 110, 111, 116, 32, 116, 111, 108, 100, 32, 104, 101, 105, 103, 104, 116, 32, 109, 111, 114, 101, 32, 102, 97, 114, 32, 116, 105, 100, 101, 32, 110, 117, 109, 98, 101, 114, 32]
/-- the chosen method of an island's class -/
def zSw {β : Type} (a : Int32) (K : β → Prop) (d : β) : Int32 → List β → Prop
  | _, [] => K d
  | c, t :: ts => (a = c → K t) ∧ (¬ a = c → zSw a K d (c + 1) ts)
abbrev zOr : Type := Nat → List Value → zM → Option Value → zM → Prop
def zCall (R : zOr) (x : Nat) (as : List Value) (μ : zM) (K : List Value → zM → Prop) : Prop := ∃ v μ', R x as μ v μ' ∧ K v.toList μ'
def zBin : Instr → Option (Int32 → Int32 → Int32)
  | .iadd => some (fun a b => a + b)
  | .isub => some (fun a b => a - b)
  | .imul => some (fun a b => a * b)
  | .iand => some (fun a b => a &&& b)
  | .ior => some (fun a b => a ||| b)
  | .ixor => some (fun a b => a ^^^ b)
  | .ishl => some (fun a b => a <<< (b &&& 31))
  | .ishr => some (fun a b => a >>> (b &&& 31))
  | .iushr => some (fun a b => (a.toUInt32 >>> (b.toUInt32 &&& Int32.toUInt32 31)).toInt32)
  | _ => none
def zStep (dyn : Nat → Nat → Nat) (R : zOr) (e : zE) (ip : Nat) (ls : zL) (st : List Value) (μ : zM) (K : Nat → zL → List Value → zM → Prop) (Z : Option Value → zM → Prop) : Prop :=
  match e with
  | (_, ins, x, y, w, t) =>
  match ins with
  | .aconst_null => K (ip + 1) ls (.null :: st) μ
  | .iconst _ => K (ip + 1) ls (.int w :: st) μ
  | .bipush _ => K (ip + 1) ls (.int w :: st) μ
  | .sipush _ => K (ip + 1) ls (.int w :: st) μ
  | .ldc _ => if y = 0 then K (ip + 1) ls (.int w :: st) μ else K (ip + 1) ls (.ref x :: st) μ
  | .ldc_w _ => K (ip + 1) ls (.int w :: st) μ
  | .lconst _ => K (ip + 1) ls (.long (zLc x y) :: st) μ
  | .ldc2_w _ => K (ip + 1) ls (.long (zLc x y) :: st) μ
  | .iload_n _ => match zG ls x with | some (.int a) => K (ip + 1) ls (.int a :: st) μ | _ => False
  | .iload _ => match zG ls x with | some (.int a) => K (ip + 1) ls (.int a :: st) μ | _ => False
  | .lload_n _ => match zG ls x with | some (.long a) => K (ip + 1) ls (.long a :: st) μ | _ => False
  | .lload _ => match zG ls x with | some (.long a) => K (ip + 1) ls (.long a :: st) μ | _ => False
  | .aload_n _ => match zG ls x with | some (.ref a) => K (ip + 1) ls (.ref a :: st) μ | some .null => K (ip + 1) ls (.null :: st) μ | _ => False
  | .aload _ => match zG ls x with | some (.ref a) => K (ip + 1) ls (.ref a :: st) μ | some .null => K (ip + 1) ls (.null :: st) μ | _ => False
  | .istore_n _ => match st with | .int a :: st => K (ip + 1) (zS1 ls x (.int a)) st μ | _ => False
  | .istore _ => match st with | .int a :: st => K (ip + 1) (zS1 ls x (.int a)) st μ | _ => False
  | .lstore_n _ => match st with | .long a :: st => K (ip + 1) (zS2 ls x (.long a)) st μ | _ => False
  | .lstore _ => match st with | .long a :: st => K (ip + 1) (zS2 ls x (.long a)) st μ | _ => False
  | .astore_n _ => match st with | .ref a :: st => K (ip + 1) (zS1 ls x (.ref a)) st μ | .null :: st => K (ip + 1) (zS1 ls x .null) st μ | _ => False
  | .astore _ => match st with | .ref a :: st => K (ip + 1) (zS1 ls x (.ref a)) st μ | .null :: st => K (ip + 1) (zS1 ls x .null) st μ | _ => False
  | .iinc _ _ => match zG ls x with | some (.int a) => K (ip + 1) (zS1 ls x (.int (a + w))) st μ | _ => False
  | .ineg => match st with | .int a :: st => K (ip + 1) ls (.int (-a) :: st) μ | _ => False
  | .idiv => match st with | .int b :: .int a :: st => ¬ b = 0 ∧ K (ip + 1) ls (.int (a / b) :: st) μ | _ => False
  | .irem => match st with | .int b :: .int a :: st => ¬ b = 0 ∧ K (ip + 1) ls (.int (a - a / b * b) :: st) μ | _ => False
  | .i2l => match st with | .int a :: st => K (ip + 1) ls (.long a.toInt64 :: st) μ | _ => False
  | .i2b => match st with | .int a :: st => K (ip + 1) ls (.int a.toInt8.toInt32 :: st) μ | _ => False
  | .i2s => match st with | .int a :: st => K (ip + 1) ls (.int a.toInt16.toInt32 :: st) μ | _ => False
  | .ladd => match st with | .long b :: .long a :: st => K (ip + 1) ls (.long (a + b) :: st) μ | _ => False
  | .lmul => match st with | .long b :: .long a :: st => K (ip + 1) ls (.long (a * b) :: st) μ | _ => False
  | .ldiv => match st with | .long b :: .long a :: st => ¬ b = 0 ∧ K (ip + 1) ls (.long (a / b) :: st) μ | _ => False
  | .lrem => match st with | .long b :: .long a :: st => ¬ b = 0 ∧ K (ip + 1) ls (.long (a - a / b * b) :: st) μ | _ => False
  | .lcmp => match st with | .long b :: .long a :: st => K (ip + 1) ls (.int (lg_cmp a b) :: st) μ | _ => False
  | .dup => match st with | .int a :: st => K (ip + 1) ls (.int a :: .int a :: st) μ | .ref a :: st => K (ip + 1) ls (.ref a :: .ref a :: st) μ | _ => False
  | .dup2 => match st with | .int b :: .ref a :: st => K (ip + 1) ls (.int b :: .ref a :: .int b :: .ref a :: st) μ | _ => False
  | .pop => match st with | .int _ :: st => K (ip + 1) ls st μ | .ref _ :: st => K (ip + 1) ls st μ | .null :: st => K (ip + 1) ls st μ | _ => False
  | .goto _ => K x ls st μ
  | .ifCond c _ => match st with
    | .int a :: st => (match c with
      | .eq => (a = 0 → K x ls st μ) ∧ (¬ a = 0 → K (ip + 1) ls st μ)
      | .ne => (¬ a = 0 → K x ls st μ) ∧ (a = 0 → K (ip + 1) ls st μ)
      | .lt => (a < 0 → K x ls st μ) ∧ (¬ a < 0 → K (ip + 1) ls st μ)
      | .ge => (0 ≤ a → K x ls st μ) ∧ (¬ 0 ≤ a → K (ip + 1) ls st μ)
      | .gt => (0 < a → K x ls st μ) ∧ (¬ 0 < a → K (ip + 1) ls st μ)
      | .le => (a ≤ 0 → K x ls st μ) ∧ (¬ a ≤ 0 → K (ip + 1) ls st μ))
    | _ => False
  | .if_icmp c _ => match st with
    | .int b :: .int a :: st => (match c with
      | .eq => (a = b → K x ls st μ) ∧ (¬ a = b → K (ip + 1) ls st μ)
      | .ne => (¬ a = b → K x ls st μ) ∧ (a = b → K (ip + 1) ls st μ)
      | .lt => (a < b → K x ls st μ) ∧ (¬ a < b → K (ip + 1) ls st μ)
      | .ge => (b ≤ a → K x ls st μ) ∧ (¬ b ≤ a → K (ip + 1) ls st μ)
      | .gt => (b < a → K x ls st μ) ∧ (¬ b < a → K (ip + 1) ls st μ)
      | .le => (a ≤ b → K x ls st μ) ∧ (¬ a ≤ b → K (ip + 1) ls st μ))
    | _ => False
  | .ifnull _ => match st with | .ref _ :: st => K (ip + 1) ls st μ | .null :: st => K x ls st μ | _ => False
  | .ifnonnull _ => match st with | .ref _ :: st => K x ls st μ | .null :: st => K (ip + 1) ls st μ | _ => False
  | .tableswitch _ _ _ _ => match st with | .int a :: st => zSw a (fun k => K k ls st μ) x w t | _ => False
  | .getfield _ => match st with
    | .ref r :: st => (μ.1[r]?).elim False fun s => bif zSub s.1 y then (match t with
        | [] => K (ip + 1) ls (.int (μ.2.1 r x) :: st) μ
        | _ => (μ.2.2 r x).elim (K (ip + 1) ls (.null :: st) μ) (fun q => K (ip + 1) ls (.ref q :: st) μ)) else False
    | _ => False
  | .putfield _ => match st with
    | .int a :: .ref r :: st => (μ.1[r]?).elim False fun s => bif zSub s.1 y then (match t with
        | [] => K (ip + 1) ls st (μ.1, up2 μ.2.1 r x a, μ.2.2)
        | [2] => (a = 0 ∨ a = 1) ∧ K (ip + 1) ls st (μ.1, up2 μ.2.1 r x a, μ.2.2)
        | _ => False) else False
    | .ref q :: .ref r :: st => (μ.1[q]?).elim False fun _ => (μ.1[r]?).elim False fun s => bif zSub s.1 y then (match t with
        | [0] => K (ip + 1) ls st (μ.1, μ.2.1, up2 μ.2.2 r x (some q))
        | _ => False) else False
    | _ => False
  | .iaload => match st with
    | .int i :: .ref a :: st => (μ.1[a]?).elim (if a = 2000000 then vp_in i (μ.2.1 2000001 0).toNatClampNeg ∧ K (ip + 1) ls (.int (μ.2.1 2000000 i.toNatClampNeg) :: st) μ else False)
        fun s => bif s.1 == 20 then vp_in i s.2 ∧ K (ip + 1) ls (.int (μ.2.1 a i.toNatClampNeg) :: st) μ else False
    | _ => False
  | .iastore => match st with
    | .int v :: .int i :: .ref a :: st => (μ.1[a]?).elim False fun s => bif s.1 == 20 then vp_in i s.2 ∧ K (ip + 1) ls st (μ.1, up2 μ.2.1 a i.toNatClampNeg v, μ.2.2) else False
    | _ => False
  | .baload => match st with
    | .int i :: .ref a :: st => (μ.1[a]?).elim False fun s => bif s.1 == 21 then vp_in i s.2 ∧ K (ip + 1) ls (.int (μ.2.1 a i.toNatClampNeg) :: st) μ else False
    | _ => False
  | .bastore => match st with
    | .int v :: .int i :: .ref a :: st => (μ.1[a]?).elim False fun s => bif s.1 == 21 then vp_in i s.2 ∧ (v = 0 ∨ v = 1) ∧ K (ip + 1) ls st (μ.1, up2 μ.2.1 a i.toNatClampNeg v, μ.2.2) else False
    | _ => False
  | .aaload => match st with
    | .int i :: .ref a :: st => (μ.1[a]?).elim False fun s => bif 22 ≤ s.1 && s.1 ≤ 25 then vp_in i s.2 ∧ (μ.2.2 a i.toNatClampNeg).elim (K (ip + 1) ls (.null :: st) μ) (fun q => K (ip + 1) ls (.ref q :: st) μ) else False
    | _ => False
  | .aastore => match st with
    | .ref q :: .int i :: .ref a :: st => (μ.1[a]?).elim False fun s => (μ.1[q]?).elim False fun z => bif s.1 == y && zSub z.1 x then vp_in i s.2 ∧ K (ip + 1) ls st (μ.1, μ.2.1, up2 μ.2.2 a i.toNatClampNeg (some q)) else False
    | _ => False
  | .arraylength => match st with
    | .ref a :: st => (μ.1[a]?).elim (if a = 2000000 then K (ip + 1) ls (.int (μ.2.1 2000001 0) :: st) μ else False) fun s => bif 20 ≤ s.1 && s.1 ≤ 25 then K (ip + 1) ls (.int (Int32.ofNat s.2) :: st) μ else False
    | _ => False
  | .newarray _ => match st with
    | .int n :: st => ¬ n < 0 ∧ n.toNatClampNeg ≤ 100000 ∧ μ.1.length < 900000 ∧ K (ip + 1) ls (.ref μ.1.length :: st) (μ.1 ++ [(x, n.toNatClampNeg)], zero2 μ.2.1 μ.1.length 1 0, zero2 μ.2.2 μ.1.length 1 none)
    | _ => False
  | .anewarray _ => match st with
    | .int n :: st => ¬ n < 0 ∧ n.toNatClampNeg ≤ 100000 ∧ μ.1.length < 900000 ∧ K (ip + 1) ls (.ref μ.1.length :: st) (μ.1 ++ [(x, n.toNatClampNeg)], zero2 μ.2.1 μ.1.length 1 0, zero2 μ.2.2 μ.1.length 1 none)
    | _ => False
  | .multianewarray _ _ => match st with
    | .int k :: .int n :: st => ¬ n < 0 ∧ ¬ k < 0 ∧ n.toNatClampNeg ≤ 1000 ∧ k.toNatClampNeg ≤ 1000 ∧ μ.1.length < 900000 ∧ K (ip + 1) ls (.ref μ.1.length :: st) (μ.1 ++ (22, n.toNatClampNeg) :: List.replicate n.toNatClampNeg (20, k.toNatClampNeg), zero2 μ.2.1 μ.1.length (n.toNatClampNeg + 1) 0, row2 (zero2 μ.2.2 μ.1.length (n.toNatClampNeg + 1) none) μ.1.length (fun j => if j < n.toNatClampNeg then some (μ.1.length + 1 + j) else none))
    | _ => False
  | .new _ => μ.1.length < 900000 ∧ K (ip + 1) ls (.ref μ.1.length :: st) (μ.1 ++ [(x, y)], zero2 μ.2.1 μ.1.length 1 0, zero2 μ.2.2 μ.1.length 1 none)
  | .instanceof _ => match st with
    | .ref r :: st => (μ.1[r]?).elim False fun s => bif zSub s.1 3 then K (ip + 1) ls (.int (bif zSub s.1 x then 1 else 0) :: st) μ else False
    | _ => False
  | .invokestatic _ => match t with
    | [] => bif Nat.ble y st.length && Nat.ble (st.drop y).length 4 then zCall R x (st.take y).reverse μ (fun v μ => K (ip + 1) ls (v ++ st.drop y) μ) else False
    | [1] => match st with | .int b :: .int a :: st => bif Nat.ble st.length 4 then K (ip + 1) ls (.int (if b < a then b else a) :: st) μ else False | _ => False
    | [2] => match st with | .int b :: .int a :: st => bif Nat.ble st.length 4 then K (ip + 1) ls (.int (if a < b then b else a) :: st) μ else False | _ => False
    | [3] => match st with | .int a :: st => bif Nat.ble st.length 4 then K (ip + 1) ls (.int (if 0 ≤ a then a else 0 - a) :: st) μ else False | _ => False
    | [4] => match st with
      | .int n :: .int dp :: .ref b :: .int sp :: .ref a :: st => (μ.1[a]?).elim False fun s => (μ.1[b]?).elim False fun z => bif s.1 == 20 && z.1 == 20 && Nat.ble st.length 4 then
          ¬ sp < 0 ∧ ¬ dp < 0 ∧ ¬ n < 0 ∧ sp.toNatClampNeg + n.toNatClampNeg ≤ s.2 ∧ dp.toNatClampNeg + n.toNatClampNeg ≤ z.2 ∧ K (ip + 1) ls st (μ.1, row2 μ.2.1 b (va_cpy (μ.2.1 a) (μ.2.1 b) sp.toNatClampNeg dp.toNatClampNeg n.toNatClampNeg), μ.2.2) else False
      | _ => False
    | _ => False
  | .invokespecial _ => match t with
    | [] => match st with | .ref _ :: st => bif Nat.ble st.length 4 then K (ip + 1) ls st μ else False | _ => False
    | _ => match st.drop y with
      | .ref r :: rest => (μ.1[r]?).elim False fun s => bif zSub s.1 (t.headD 0) && Nat.ble rest.length 4 then zCall R x (.ref r :: (st.take y).reverse) μ (fun v μ => K (ip + 1) ls (v ++ rest) μ) else False
      | _ => False
  | .invokevirtual _ => match t with
    | [] => match x, st with
      | 0, .ref a :: st => if (a = 1000000 ∨ a = 1000001) ∧ st.length ≤ 4 then K (ip + 1) ls (.int (Int32.ofNat (zStr (a - 1000000)).length) :: st) μ else False
      | 1, .int i :: .ref a :: st => if (a = 1000000 ∨ a = 1000001) ∧ st.length ≤ 4 then vp_in i (zStr (a - 1000000)).length ∧ K (ip + 1) ls (.int (Int32.ofNat ((zStr (a - 1000000)).getD i.toNatClampNeg 0)) :: st) μ else False
      | _, _ => False
    | [c] => match st.drop y with
      | .ref r :: rest => (μ.1[r]?).elim False fun s => bif s.1 == c && Nat.ble rest.length 4 then zCall R x (.ref r :: (st.take y).reverse) μ (fun v μ => K (ip + 1) ls (v ++ rest) μ) else False
      | _ => False
    | _ => match st.drop y with
      | .ref r :: rest => (μ.1[r]?).elim False fun s => bif zSub s.1 3 && Nat.ble rest.length 4 then zCall R (dyn x s.1) (.ref r :: (st.take y).reverse) μ (fun v μ => K (ip + 1) ls (v ++ rest) μ) else False
      | _ => False
  | .return_ => match st with | [] => Z none μ | _ => False
  | .ireturn => match st with | [.int a] => (match t with | [] => Z (some (.int a)) μ | _ => (a = 0 ∨ a = 1) ∧ Z (some (.int a)) μ) | _ => False
  | .lreturn => match st with | [.long a] => Z (some (.long a)) μ | _ => False
  | .areturn => match st with | [.ref a] => Z (some (.ref a)) μ | [.null] => Z (some .null) μ | _ => False
  | ins => match zBin ins, st with
    | some f, .int b :: .int a :: st => K (ip + 1) ls (.int (f a b) :: st) μ
    | _, _ => False
def zRun (dyn : Nat → Nat → Nat) (R : zOr) (cd : List zE) : Nat → Nat → zL → List Value → zM → (Option Value → zM → Prop) → Prop
  | 0, _, _, _, _, _ => False
  | n + 1, ip, ls, st, μ, Z => (cd[ip]?).elim False fun e => zStep dyn R e ip ls st μ (fun ip ls st μ => zRun dyn R cd n ip ls st μ Z) Z
end
section
/-! THE PROGRAM of the machine, written by a program out of the printed names: a list of entries a method, by keys -/
set_option maxRecDepth 100000 in
noncomputable def zc_X0_init : List zE := [(0, .aload_n 0, 0, 0, 0, []),
  (1, .iload_n 1, 1, 0, 0, []),
  (2, .iload_n 2, 2, 0, 0, []),
  (3, .iload_n 3, 3, 0, 0, []),
  (4, .iload 4, 4, 0, 0, []),
  (6, .invokespecial 3, 6, 4, 0, [3]),
  (9, .return_, 0, 0, 0, [])]
set_option maxRecDepth 100000 in
noncomputable def zc_X0_joinsAt : List zE := [(0, .iload_n 1, 1, 0, 0, []),
  (1, .aload_n 0, 0, 0, 0, []),
  (2, .getfield 9, 2, 0, 0, []),
  (5, .if_icmp .ge 13, 9, 0, 0, []),
  (8, .aload_n 0, 0, 0, 0, []),
  (9, .getfield 15, 3, 0, 0, []),
  (12, .bipush 6, 0, 0, 6, []),
  (14, .irem, 0, 0, 0, []),
  (15, .goto 4, 10, 0, 0, []),
  (18, .iconst (-1), 0, 0, (-1), []),
  (19, .ireturn, 0, 0, 0, [])]
set_option maxRecDepth 100000 in
noncomputable def zc_X1_init : List zE := [(0, .aload_n 0, 0, 0, 0, []),
  (1, .invokespecial 3, 0, 0, 0, []),
  (4, .aload_n 0, 0, 0, 0, []),
  (5, .bipush 12, 0, 0, 12, []),
  (7, .newarray .int, 20, 0, 0, []),
  (9, .putfield 9, 0, 1, 0, [0]),
  (12, .aload_n 0, 0, 0, 0, []),
  (13, .iconst 4, 0, 0, 4, []),
  (14, .bipush 12, 0, 0, 12, []),
  (16, .multianewarray 15 2, 0, 0, 0, []),
  (20, .putfield 17, 1, 1, 0, [0]),
  (23, .aload_n 0, 0, 0, 0, []),
  (24, .iconst 0, 0, 0, 0, []),
  (25, .putfield 20, 2, 1, 0, []),
  (28, .aload_n 0, 0, 0, 0, []),
  (29, .iconst 0, 0, 0, 0, []),
  (30, .putfield 24, 3, 1, 0, []),
  (33, .aload_n 0, 0, 0, 0, []),
  (34, .iconst 0, 0, 0, 0, []),
  (35, .putfield 27, 4, 1, 0, []),
  (38, .return_, 0, 0, 0, [])]
set_option maxRecDepth 100000 in
noncomputable def zc_X1_become : List zE := [(0, .aload_n 1, 1, 0, 0, []),
  (1, .getfield 9, 0, 1, 0, [0]),
  (4, .iconst 0, 0, 0, 0, []),
  (5, .aload_n 0, 0, 0, 0, []),
  (6, .getfield 9, 0, 1, 0, [0]),
  (9, .iconst 0, 0, 0, 0, []),
  (10, .bipush 12, 0, 0, 12, []),
  (12, .invokestatic 30, 0, 0, 0, [4]),
  (15, .iconst 0, 0, 0, 0, []),
  (16, .istore_n 2, 2, 0, 0, []),
  (17, .iload_n 2, 2, 0, 0, []),
  (18, .iconst 4, 0, 0, 4, []),
  (19, .if_icmp .ge 28, 27, 0, 0, []),
  (22, .aload_n 1, 1, 0, 0, []),
  (23, .getfield 17, 1, 1, 0, [0]),
  (26, .iload_n 2, 2, 0, 0, []),
  (27, .aaload, 0, 0, 0, []),
  (28, .iconst 0, 0, 0, 0, []),
  (29, .aload_n 0, 0, 0, 0, []),
  (30, .getfield 17, 1, 1, 0, [0]),
  (33, .iload_n 2, 2, 0, 0, []),
  (34, .aaload, 0, 0, 0, []),
  (35, .iconst 0, 0, 0, 0, []),
  (36, .bipush 12, 0, 0, 12, []),
  (38, .invokestatic 30, 0, 0, 0, [4]),
  (41, .iinc 2 1, 2, 0, 1, []),
  (44, .goto (-27), 10, 0, 0, []),
  (47, .aload_n 0, 0, 0, 0, []),
  (48, .aload_n 1, 1, 0, 0, []),
  (49, .getfield 20, 2, 1, 0, []),
  (52, .putfield 20, 2, 1, 0, []),
  (55, .aload_n 0, 0, 0, 0, []),
  (56, .aload_n 1, 1, 0, 0, []),
  (57, .getfield 24, 3, 1, 0, []),
  (60, .putfield 24, 3, 1, 0, []),
  (63, .aload_n 0, 0, 0, 0, []),
  (64, .aload_n 1, 1, 0, 0, []),
  (65, .getfield 27, 4, 1, 0, []),
  (68, .putfield 27, 4, 1, 0, []),
  (71, .return_, 0, 0, 0, [])]
set_option maxRecDepth 100000 in
noncomputable def zc_X2_init : List zE := [(0, .aload_n 0, 0, 0, 0, []),
  (1, .iload_n 1, 1, 0, 0, []),
  (2, .iload_n 2, 2, 0, 0, []),
  (3, .iload_n 3, 3, 0, 0, []),
  (4, .iload 4, 4, 0, 0, []),
  (6, .invokespecial 1, 6, 4, 0, [3]),
  (9, .return_, 0, 0, 0, [])]
set_option maxRecDepth 100000 in
noncomputable def zc_X2_worthAt : List zE := [(0, .iload_n 1, 1, 0, 0, []),
  (1, .aload_n 0, 0, 0, 0, []),
  (2, .getfield 7, 3, 2, 0, []),
  (5, .iload_n 2, 2, 0, 0, []),
  (6, .imul, 0, 0, 0, []),
  (7, .iadd, 0, 0, 0, []),
  (8, .ireturn, 0, 0, 0, [])]
set_option maxRecDepth 100000 in
noncomputable def zc_X3_init : List zE := [(0, .aload_n 0, 0, 0, 0, []),
  (1, .invokespecial 3, 0, 0, 0, []),
  (4, .aload_n 0, 0, 0, 0, []),
  (5, .iload_n 1, 1, 0, 0, []),
  (6, .putfield 9, 0, 3, 0, []),
  (9, .aload_n 0, 0, 0, 0, []),
  (10, .iload_n 2, 2, 0, 0, []),
  (11, .putfield 15, 1, 3, 0, []),
  (14, .aload_n 0, 0, 0, 0, []),
  (15, .iload_n 3, 3, 0, 0, []),
  (16, .putfield 18, 2, 3, 0, []),
  (19, .aload_n 0, 0, 0, 0, []),
  (20, .iload 4, 4, 0, 0, []),
  (22, .putfield 21, 3, 3, 0, []),
  (25, .return_, 0, 0, 0, [])]
set_option maxRecDepth 100000 in
noncomputable def zc_X3_standsAt : List zE := [(0, .iconst 1, 0, 0, 1, []),
  (1, .ireturn, 0, 0, 0, [2])]
set_option maxRecDepth 100000 in
noncomputable def zc_X3_worthAt : List zE := [(0, .iload_n 1, 1, 0, 0, []),
  (1, .ireturn, 0, 0, 0, [])]
set_option maxRecDepth 100000 in
noncomputable def zc_X3_joinsAt : List zE := [(0, .iconst (-1), 0, 0, (-1), []),
  (1, .ireturn, 0, 0, 0, [])]
set_option maxRecDepth 100000 in
noncomputable def zc_X4_init : List zE := [(0, .aload_n 0, 0, 0, 0, []),
  (1, .iload_n 1, 1, 0, 0, []),
  (2, .iload_n 2, 2, 0, 0, []),
  (3, .iload_n 3, 3, 0, 0, []),
  (4, .iload 4, 4, 0, 0, []),
  (6, .invokespecial 1, 6, 4, 0, [3]),
  (9, .return_, 0, 0, 0, [])]
set_option maxRecDepth 100000 in
noncomputable def zc_X4_standsAt : List zE := [(0, .iload_n 1, 1, 0, 0, []),
  (1, .aload_n 0, 0, 0, 0, []),
  (2, .getfield 7, 2, 4, 0, []),
  (5, .if_icmp .gt 7, 6, 0, 0, []),
  (8, .iconst 1, 0, 0, 1, []),
  (9, .goto 4, 7, 0, 0, []),
  (12, .iconst 0, 0, 0, 0, []),
  (13, .ireturn, 0, 0, 0, [2])]
set_option maxRecDepth 100000 in
noncomputable def zc_X5_init : List zE := [(0, .aload_n 0, 0, 0, 0, []),
  (1, .iload_n 1, 1, 0, 0, []),
  (2, .iload_n 2, 2, 0, 0, []),
  (3, .iload_n 3, 3, 0, 0, []),
  (4, .iload 4, 4, 0, 0, []),
  (6, .invokespecial 1, 10, 4, 0, [4]),
  (9, .return_, 0, 0, 0, [])]
set_option maxRecDepth 100000 in
noncomputable def zc_X5_worthAt : List zE := [(0, .iload_n 2, 2, 0, 0, []),
  (1, .aload_n 0, 0, 0, 0, []),
  (2, .getfield 7, 3, 5, 0, []),
  (5, .if_icmp .ge 14, 11, 0, 0, []),
  (8, .aload_n 0, 0, 0, 0, []),
  (9, .iload_n 1, 1, 0, 0, []),
  (10, .iload_n 2, 2, 0, 0, []),
  (11, .invokespecial 13, 8, 2, 0, [4]),
  (14, .iconst 5, 0, 0, 5, []),
  (15, .iadd, 0, 0, 0, []),
  (16, .goto 4, 12, 0, 0, []),
  (19, .iconst 0, 0, 0, 0, []),
  (20, .ireturn, 0, 0, 0, [])]
set_option maxRecDepth 100000 in
noncomputable def zc_X6_init : List zE := [(0, .aload_n 0, 0, 0, 0, []),
  (1, .invokespecial 3, 0, 0, 0, []),
  (4, .aload_n 0, 0, 0, 0, []),
  (5, .bipush 40, 0, 0, 40, []),
  (7, .newarray .int, 20, 0, 0, []),
  (9, .putfield 9, 0, 6, 0, [0]),
  (12, .aload_n 0, 0, 0, 0, []),
  (13, .iconst (-1), 0, 0, (-1), []),
  (14, .putfield 15, 1, 6, 0, []),
  (17, .aload_n 0, 0, 0, 0, []),
  (18, .iconst 0, 0, 0, 0, []),
  (19, .putfield 19, 2, 6, 0, []),
  (22, .return_, 0, 0, 0, [])]
set_option maxRecDepth 100000 in
noncomputable def zc_X6_become : List zE := [(0, .aload_n 0, 0, 0, 0, []),
  (1, .iload_n 1, 1, 0, 0, []),
  (2, .putfield 15, 1, 6, 0, []),
  (5, .aload_n 0, 0, 0, 0, []),
  (6, .iload_n 2, 2, 0, 0, []),
  (7, .putfield 19, 2, 6, 0, []),
  (10, .aload_n 0, 0, 0, 0, []),
  (11, .getfield 9, 0, 6, 0, [0]),
  (14, .iconst 0, 0, 0, 0, []),
  (15, .invokestatic 22, 224, 2, 0, []),
  (18, .return_, 0, 0, 0, [])]
set_option maxRecDepth 100000 in
noncomputable def zc_X6_put : List zE := [(0, .iload_n 1, 1, 0, 0, []),
  (1, .ifCond .lt 43, 24, 0, 0, []),
  (4, .iload_n 1, 1, 0, 0, []),
  (5, .aload_n 0, 0, 0, 0, []),
  (6, .getfield 19, 2, 6, 0, []),
  (9, .if_icmp .ge 35, 24, 0, 0, []),
  (12, .aload_n 0, 0, 0, 0, []),
  (13, .getfield 9, 0, 6, 0, [0]),
  (16, .iload_n 1, 1, 0, 0, []),
  (17, .aload_n 0, 0, 0, 0, []),
  (18, .getfield 15, 1, 6, 0, []),
  (21, .ifCond .ne 8, 15, 0, 0, []),
  (24, .iload_n 2, 2, 0, 0, []),
  (25, .i2b, 0, 0, 0, []),
  (26, .goto 17, 23, 0, 0, []),
  (29, .aload_n 0, 0, 0, 0, []),
  (30, .getfield 15, 1, 6, 0, []),
  (33, .iconst 1, 0, 0, 1, []),
  (34, .if_icmp .ne 8, 22, 0, 0, []),
  (37, .iload_n 2, 2, 0, 0, []),
  (38, .i2s, 0, 0, 0, []),
  (39, .goto 4, 23, 0, 0, []),
  (42, .iload_n 2, 2, 0, 0, []),
  (43, .iastore, 0, 0, 0, []),
  (44, .return_, 0, 0, 0, [])]
set_option maxRecDepth 100000 in
noncomputable def zc_X6_hasRoom : List zE := [(0, .iload_n 2, 2, 0, 0, []),
  (1, .ifCond .lt 29, 16, 0, 0, []),
  (4, .iload_n 1, 1, 0, 0, []),
  (5, .ifCond .lt 25, 16, 0, 0, []),
  (8, .iload_n 1, 1, 0, 0, []),
  (9, .aload_n 0, 0, 0, 0, []),
  (10, .getfield 19, 2, 6, 0, []),
  (13, .if_icmp .gt 17, 16, 0, 0, []),
  (16, .iload_n 2, 2, 0, 0, []),
  (17, .aload_n 0, 0, 0, 0, []),
  (18, .getfield 19, 2, 6, 0, []),
  (21, .iload_n 1, 1, 0, 0, []),
  (22, .isub, 0, 0, 0, []),
  (23, .if_icmp .gt 7, 16, 0, 0, []),
  (26, .iconst 1, 0, 0, 1, []),
  (27, .goto 4, 17, 0, 0, []),
  (30, .iconst 0, 0, 0, 0, []),
  (31, .ireturn, 0, 0, 0, [2])]
set_option maxRecDepth 100000 in
noncomputable def zc_X7_init : List zE := [(0, .aload_n 0, 0, 0, 0, []),
  (1, .invokespecial 3, 0, 0, 0, []),
  (4, .aload_n 0, 0, 0, 0, []),
  (5, .sipush 160, 0, 0, 160, []),
  (8, .newarray .int, 20, 0, 0, []),
  (10, .putfield 9, 0, 7, 0, [0]),
  (13, .aload_n 0, 0, 0, 0, []),
  (14, .iconst 0, 0, 0, 0, []),
  (15, .putfield 15, 1, 7, 0, []),
  (18, .aload_n 0, 0, 0, 0, []),
  (19, .iconst (-1), 0, 0, (-1), []),
  (20, .putfield 19, 2, 7, 0, []),
  (23, .aload_n 0, 0, 0, 0, []),
  (24, .sipush 160, 0, 0, 160, []),
  (27, .newarray .int, 20, 0, 0, []),
  (29, .putfield 22, 3, 7, 0, [0]),
  (32, .aload_n 0, 0, 0, 0, []),
  (33, .iconst 0, 0, 0, 0, []),
  (34, .putfield 25, 4, 7, 0, []),
  (37, .aload_n 0, 0, 0, 0, []),
  (38, .iconst (-1), 0, 0, (-1), []),
  (39, .putfield 28, 5, 7, 0, []),
  (42, .aload_n 0, 0, 0, 0, []),
  (43, .iconst 0, 0, 0, 0, []),
  (44, .putfield 31, 6, 7, 0, []),
  (47, .aload_n 0, 0, 0, 0, []),
  (48, .iconst 0, 0, 0, 0, []),
  (49, .putfield 34, 7, 7, 0, []),
  (52, .aload_n 0, 0, 0, 0, []),
  (53, .iconst 0, 0, 0, 0, []),
  (54, .putfield 37, 8, 7, 0, []),
  (57, .aload_n 0, 0, 0, 0, []),
  (58, .iconst 0, 0, 0, 0, []),
  (59, .putfield 40, 9, 7, 0, []),
  (62, .return_, 0, 0, 0, [])]
set_option maxRecDepth 100000 in
noncomputable def zc_X7_append : List zE := [(0, .aload_n 0, 0, 0, 0, []),
  (1, .getfield 15, 1, 7, 0, []),
  (4, .sipush 160, 0, 0, 160, []),
  (7, .if_icmp .ge 23, 16, 0, 0, []),
  (10, .aload_n 0, 0, 0, 0, []),
  (11, .getfield 9, 0, 7, 0, [0]),
  (14, .aload_n 0, 0, 0, 0, []),
  (15, .getfield 15, 1, 7, 0, []),
  (18, .iload_n 1, 1, 0, 0, []),
  (19, .iastore, 0, 0, 0, []),
  (20, .aload_n 0, 0, 0, 0, []),
  (21, .dup, 0, 0, 0, []),
  (22, .getfield 15, 1, 7, 0, []),
  (25, .iconst 1, 0, 0, 1, []),
  (26, .iadd, 0, 0, 0, []),
  (27, .putfield 15, 1, 7, 0, []),
  (30, .return_, 0, 0, 0, [])]
set_option maxRecDepth 100000 in
noncomputable def zc_X7_clear : List zE := [(0, .aload_n 0, 0, 0, 0, []),
  (1, .iconst 0, 0, 0, 0, []),
  (2, .putfield 15, 1, 7, 0, []),
  (5, .return_, 0, 0, 0, [])]
set_option maxRecDepth 100000 in
noncomputable def zc_X7_readText : List zE := [(0, .aload_n 0, 0, 0, 0, []),
  (1, .iconst (-1), 0, 0, (-1), []),
  (2, .putfield 19, 2, 7, 0, []),
  (5, .aload_n 0, 0, 0, 0, []),
  (6, .iconst 0, 0, 0, 0, []),
  (7, .putfield 25, 4, 7, 0, []),
  (10, .aload_n 0, 0, 0, 0, []),
  (11, .iconst 0, 0, 0, 0, []),
  (12, .putfield 37, 8, 7, 0, []),
  (15, .aload_n 0, 0, 0, 0, []),
  (16, .iconst 0, 0, 0, 0, []),
  (17, .putfield 40, 9, 7, 0, []),
  (20, .iconst 0, 0, 0, 0, []),
  (21, .istore_n 1, 1, 0, 0, []),
  (22, .iconst 0, 0, 0, 0, []),
  (23, .istore_n 2, 2, 0, 0, []),
  (24, .aload_n 0, 0, 0, 0, []),
  (25, .invokevirtual 43, 22, 0, 0, [7]),
  (28, .iconst 0, 0, 0, 0, []),
  (29, .istore_n 3, 3, 0, 0, []),
  (30, .iload_n 3, 3, 0, 0, []),
  (31, .iconst 3, 0, 0, 3, []),
  (32, .if_icmp .ge 56, 51, 0, 0, []),
  (35, .iload_n 3, 3, 0, 0, []),
  (36, .iconst 1, 0, 0, 1, []),
  (37, .if_icmp .ne 10, 29, 0, 0, []),
  (40, .aload_n 0, 0, 0, 0, []),
  (41, .getfield 25, 4, 7, 0, []),
  (44, .goto 4, 30, 0, 0, []),
  (47, .iload_n 1, 1, 0, 0, []),
  (48, .istore_n 1, 1, 0, 0, []),
  (49, .iload_n 3, 3, 0, 0, []),
  (50, .iconst 2, 0, 0, 2, []),
  (51, .if_icmp .ne 10, 37, 0, 0, []),
  (54, .aload_n 0, 0, 0, 0, []),
  (55, .getfield 25, 4, 7, 0, []),
  (58, .goto 4, 38, 0, 0, []),
  (61, .iload_n 2, 2, 0, 0, []),
  (62, .istore_n 2, 2, 0, 0, []),
  (63, .aload_n 0, 0, 0, 0, []),
  (64, .sipush 300, 0, 0, 300, []),
  (67, .iload_n 3, 3, 0, 0, []),
  (68, .iadd, 0, 0, 0, []),
  (69, .invokevirtual 46, 30, 1, 0, [7]),
  (72, .aload_n 0, 0, 0, 0, []),
  (73, .invokevirtual 50, 33, 0, 0, [7]),
  (76, .aload_n 0, 0, 0, 0, []),
  (77, .bipush 59, 0, 0, 59, []),
  (79, .invokevirtual 46, 30, 1, 0, [7]),
  (82, .iinc 3 1, 3, 0, 1, []),
  (85, .goto (-55), 20, 0, 0, []),
  (88, .aload_n 0, 0, 0, 0, []),
  (89, .iconst (-1), 0, 0, (-1), []),
  (90, .invokevirtual 46, 30, 1, 0, [7]),
  (93, .aload_n 0, 0, 0, 0, []),
  (94, .getfield 19, 2, 7, 0, []),
  (97, .iconst (-1), 0, 0, (-1), []),
  (98, .if_icmp .ne 26, 69, 0, 0, []),
  (101, .new 53, 8, 3, 0, []),
  (104, .dup, 0, 0, 0, []),
  (105, .aload_n 0, 0, 0, 0, []),
  (106, .getfield 22, 3, 7, 0, [0]),
  (109, .aload_n 0, 0, 0, 0, []),
  (110, .getfield 25, 4, 7, 0, []),
  (113, .invokestatic 55, 226, 2, 0, []),
  (116, .iload_n 1, 1, 0, 0, []),
  (117, .iload_n 2, 2, 0, 0, []),
  (118, .invokespecial 61, 39, 3, 0, [8]),
  (121, .goto 4, 70, 0, 0, []),
  (124, .aconst_null, 0, 0, 0, []),
  (125, .areturn, 0, 0, 0, [])]
set_option maxRecDepth 100000 in
noncomputable def zc_X7_readToken : List zE := [(0, .aload_n 0, 0, 0, 0, []),
  (1, .getfield 37, 8, 7, 0, []),
  (4, .aload_n 0, 0, 0, 0, []),
  (5, .getfield 15, 1, 7, 0, []),
  (8, .if_icmp .ge 44, 26, 0, 0, []),
  (11, .aload_n 0, 0, 0, 0, []),
  (12, .getfield 9, 0, 7, 0, [0]),
  (15, .aload_n 0, 0, 0, 0, []),
  (16, .getfield 37, 8, 7, 0, []),
  (19, .iaload, 0, 0, 0, []),
  (20, .bipush 32, 0, 0, 32, []),
  (22, .if_icmp .eq 17, 19, 0, 0, []),
  (25, .aload_n 0, 0, 0, 0, []),
  (26, .getfield 9, 0, 7, 0, [0]),
  (29, .aload_n 0, 0, 0, 0, []),
  (30, .getfield 37, 8, 7, 0, []),
  (33, .iaload, 0, 0, 0, []),
  (34, .bipush 10, 0, 0, 10, []),
  (36, .if_icmp .ne 16, 26, 0, 0, []),
  (39, .aload_n 0, 0, 0, 0, []),
  (40, .dup, 0, 0, 0, []),
  (41, .getfield 37, 8, 7, 0, []),
  (44, .iconst 1, 0, 0, 1, []),
  (45, .iadd, 0, 0, 0, []),
  (46, .putfield 37, 8, 7, 0, []),
  (49, .goto (-49), 0, 0, 0, []),
  (52, .aload_n 0, 0, 0, 0, []),
  (53, .aload_n 0, 0, 0, 0, []),
  (54, .getfield 37, 8, 7, 0, []),
  (57, .putfield 31, 6, 7, 0, []),
  (60, .aload_n 0, 0, 0, 0, []),
  (61, .getfield 37, 8, 7, 0, []),
  (64, .aload_n 0, 0, 0, 0, []),
  (65, .getfield 15, 1, 7, 0, []),
  (68, .if_icmp .lt 11, 39, 0, 0, []),
  (71, .aload_n 0, 0, 0, 0, []),
  (72, .iconst (-1), 0, 0, (-1), []),
  (73, .putfield 28, 5, 7, 0, []),
  (76, .goto 90, 81, 0, 0, []),
  (79, .aload_n 0, 0, 0, 0, []),
  (80, .getfield 9, 0, 7, 0, [0]),
  (83, .aload_n 0, 0, 0, 0, []),
  (84, .getfield 37, 8, 7, 0, []),
  (87, .iaload, 0, 0, 0, []),
  (88, .invokestatic 64, 26, 1, 0, []),
  (91, .ifCond .eq 10, 49, 0, 0, []),
  (94, .aload_n 0, 0, 0, 0, []),
  (95, .invokevirtual 68, 23, 0, 0, [7]),
  (98, .goto 68, 81, 0, 0, []),
  (101, .aload_n 0, 0, 0, 0, []),
  (102, .getfield 9, 0, 7, 0, [0]),
  (105, .aload_n 0, 0, 0, 0, []),
  (106, .getfield 37, 8, 7, 0, []),
  (109, .iaload, 0, 0, 0, []),
  (110, .invokestatic 71, 27, 1, 0, []),
  (113, .ifCond .eq 10, 59, 0, 0, []),
  (116, .aload_n 0, 0, 0, 0, []),
  (117, .invokevirtual 74, 25, 0, 0, [7]),
  (120, .goto 46, 81, 0, 0, []),
  (123, .aload_n 0, 0, 0, 0, []),
  (124, .aload_n 0, 0, 0, 0, []),
  (125, .getfield 9, 0, 7, 0, [0]),
  (128, .aload_n 0, 0, 0, 0, []),
  (129, .getfield 37, 8, 7, 0, []),
  (132, .iaload, 0, 0, 0, []),
  (133, .invokestatic 77, 28, 1, 0, []),
  (136, .ifCond .eq 15, 73, 0, 0, []),
  (139, .aload_n 0, 0, 0, 0, []),
  (140, .getfield 9, 0, 7, 0, [0]),
  (143, .aload_n 0, 0, 0, 0, []),
  (144, .getfield 37, 8, 7, 0, []),
  (147, .iaload, 0, 0, 0, []),
  (148, .goto 5, 74, 0, 0, []),
  (151, .bipush (-2), 0, 0, (-2), []),
  (153, .putfield 28, 5, 7, 0, []),
  (156, .aload_n 0, 0, 0, 0, []),
  (157, .dup, 0, 0, 0, []),
  (158, .getfield 37, 8, 7, 0, []),
  (161, .iconst 1, 0, 0, 1, []),
  (162, .iadd, 0, 0, 0, []),
  (163, .putfield 37, 8, 7, 0, []),
  (166, .return_, 0, 0, 0, [])]
set_option maxRecDepth 100000 in
noncomputable def zc_X7_readWord : List zE := [(0, .aload_n 0, 0, 0, 0, []),
  (1, .getfield 37, 8, 7, 0, []),
  (4, .aload_n 0, 0, 0, 0, []),
  (5, .getfield 15, 1, 7, 0, []),
  (8, .if_icmp .ge 31, 19, 0, 0, []),
  (11, .aload_n 0, 0, 0, 0, []),
  (12, .getfield 9, 0, 7, 0, [0]),
  (15, .aload_n 0, 0, 0, 0, []),
  (16, .getfield 37, 8, 7, 0, []),
  (19, .iaload, 0, 0, 0, []),
  (20, .invokestatic 64, 26, 1, 0, []),
  (23, .ifCond .eq 16, 19, 0, 0, []),
  (26, .aload_n 0, 0, 0, 0, []),
  (27, .dup, 0, 0, 0, []),
  (28, .getfield 37, 8, 7, 0, []),
  (31, .iconst 1, 0, 0, 1, []),
  (32, .iadd, 0, 0, 0, []),
  (33, .putfield 37, 8, 7, 0, []),
  (36, .goto (-36), 0, 0, 0, []),
  (39, .aload_n 0, 0, 0, 0, []),
  (40, .bipush (-2), 0, 0, (-2), []),
  (42, .putfield 28, 5, 7, 0, []),
  (45, .sipush 300, 0, 0, 300, []),
  (48, .istore_n 1, 1, 0, 0, []),
  (49, .iconst 0, 0, 0, 0, []),
  (50, .istore_n 2, 2, 0, 0, []),
  (51, .iconst 0, 0, 0, 0, []),
  (52, .istore_n 3, 3, 0, 0, []),
  (53, .iload_n 3, 3, 0, 0, []),
  (54, .ldc 80, 1000001, 1, 0, []),
  (56, .invokevirtual 82, 0, 0, 0, []),
  (59, .if_icmp .ge 55, 60, 0, 0, []),
  (62, .ldc 80, 1000001, 1, 0, []),
  (64, .iload_n 3, 3, 0, 0, []),
  (65, .invokevirtual 88, 1, 0, 0, []),
  (68, .bipush 32, 0, 0, 32, []),
  (70, .if_icmp .ne 38, 58, 0, 0, []),
  (73, .iload_n 3, 3, 0, 0, []),
  (74, .iload_n 2, 2, 0, 0, []),
  (75, .isub, 0, 0, 0, []),
  (76, .aload_n 0, 0, 0, 0, []),
  (77, .getfield 37, 8, 7, 0, []),
  (80, .aload_n 0, 0, 0, 0, []),
  (81, .getfield 31, 6, 7, 0, []),
  (84, .isub, 0, 0, 0, []),
  (85, .if_icmp .ne 16, 53, 0, 0, []),
  (88, .aload_n 0, 0, 0, 0, []),
  (89, .iload_n 2, 2, 0, 0, []),
  (90, .invokevirtual 92, 24, 1, 0, [7]),
  (93, .ifCond .eq 8, 53, 0, 0, []),
  (96, .aload_n 0, 0, 0, 0, []),
  (97, .iload_n 1, 1, 0, 0, []),
  (98, .putfield 28, 5, 7, 0, []),
  (101, .iinc 1 1, 1, 0, 1, []),
  (104, .iload_n 3, 3, 0, 0, []),
  (105, .iconst 1, 0, 0, 1, []),
  (106, .iadd, 0, 0, 0, []),
  (107, .istore_n 2, 2, 0, 0, []),
  (108, .iinc 3 1, 3, 0, 1, []),
  (111, .goto (-58), 28, 0, 0, []),
  (114, .return_, 0, 0, 0, [])]
set_option maxRecDepth 100000 in
noncomputable def zc_X7_isSpelledFrom : List zE := [(0, .aload_n 0, 0, 0, 0, []),
  (1, .getfield 31, 6, 7, 0, []),
  (4, .istore_n 2, 2, 0, 0, []),
  (5, .iload_n 2, 2, 0, 0, []),
  (6, .aload_n 0, 0, 0, 0, []),
  (7, .getfield 37, 8, 7, 0, []),
  (10, .if_icmp .ge 52, 34, 0, 0, []),
  (13, .iload_n 2, 2, 0, 0, []),
  (14, .aload_n 0, 0, 0, 0, []),
  (15, .getfield 15, 1, 7, 0, []),
  (18, .if_icmp .ge 44, 34, 0, 0, []),
  (21, .iload_n 1, 1, 0, 0, []),
  (22, .iload_n 2, 2, 0, 0, []),
  (23, .iadd, 0, 0, 0, []),
  (24, .aload_n 0, 0, 0, 0, []),
  (25, .getfield 31, 6, 7, 0, []),
  (28, .isub, 0, 0, 0, []),
  (29, .istore_n 3, 3, 0, 0, []),
  (30, .iload_n 3, 3, 0, 0, []),
  (31, .ldc 80, 1000001, 1, 0, []),
  (33, .invokevirtual 82, 0, 0, 0, []),
  (36, .if_icmp .ge 18, 30, 0, 0, []),
  (39, .ldc 80, 1000001, 1, 0, []),
  (41, .iload_n 3, 3, 0, 0, []),
  (42, .invokevirtual 88, 1, 0, 0, []),
  (45, .aload_n 0, 0, 0, 0, []),
  (46, .getfield 9, 0, 7, 0, [0]),
  (49, .iload_n 2, 2, 0, 0, []),
  (50, .iaload, 0, 0, 0, []),
  (51, .if_icmp .eq 5, 32, 0, 0, []),
  (54, .iconst 0, 0, 0, 0, []),
  (55, .ireturn, 0, 0, 0, [2]),
  (56, .iinc 2 1, 2, 0, 1, []),
  (59, .goto (-54), 3, 0, 0, []),
  (62, .iconst 1, 0, 0, 1, []),
  (63, .ireturn, 0, 0, 0, [2])]
set_option maxRecDepth 100000 in
noncomputable def zc_X7_readNumber : List zE := [(0, .aload_n 0, 0, 0, 0, []),
  (1, .iconst 0, 0, 0, 0, []),
  (2, .putfield 34, 7, 7, 0, []),
  (5, .aload_n 0, 0, 0, 0, []),
  (6, .getfield 37, 8, 7, 0, []),
  (9, .aload_n 0, 0, 0, 0, []),
  (10, .getfield 15, 1, 7, 0, []),
  (13, .if_icmp .ge 55, 36, 0, 0, []),
  (16, .aload_n 0, 0, 0, 0, []),
  (17, .getfield 9, 0, 7, 0, [0]),
  (20, .aload_n 0, 0, 0, 0, []),
  (21, .getfield 37, 8, 7, 0, []),
  (24, .iaload, 0, 0, 0, []),
  (25, .invokestatic 71, 27, 1, 0, []),
  (28, .ifCond .eq 40, 36, 0, 0, []),
  (31, .aload_n 0, 0, 0, 0, []),
  (32, .aload_n 0, 0, 0, 0, []),
  (33, .getfield 34, 7, 7, 0, []),
  (36, .bipush 10, 0, 0, 10, []),
  (38, .imul, 0, 0, 0, []),
  (39, .aload_n 0, 0, 0, 0, []),
  (40, .getfield 9, 0, 7, 0, [0]),
  (43, .aload_n 0, 0, 0, 0, []),
  (44, .getfield 37, 8, 7, 0, []),
  (47, .iaload, 0, 0, 0, []),
  (48, .iadd, 0, 0, 0, []),
  (49, .bipush 48, 0, 0, 48, []),
  (51, .isub, 0, 0, 0, []),
  (52, .putfield 34, 7, 7, 0, []),
  (55, .aload_n 0, 0, 0, 0, []),
  (56, .dup, 0, 0, 0, []),
  (57, .getfield 37, 8, 7, 0, []),
  (60, .iconst 1, 0, 0, 1, []),
  (61, .iadd, 0, 0, 0, []),
  (62, .putfield 37, 8, 7, 0, []),
  (65, .goto (-60), 3, 0, 0, []),
  (68, .aload_n 0, 0, 0, 0, []),
  (69, .aload_n 0, 0, 0, 0, []),
  (70, .getfield 37, 8, 7, 0, []),
  (73, .aload_n 0, 0, 0, 0, []),
  (74, .getfield 31, 6, 7, 0, []),
  (77, .isub, 0, 0, 0, []),
  (78, .iconst 4, 0, 0, 4, []),
  (79, .if_icmp .le 8, 46, 0, 0, []),
  (82, .bipush (-2), 0, 0, (-2), []),
  (84, .goto 6, 47, 0, 0, []),
  (87, .sipush 256, 0, 0, 256, []),
  (90, .putfield 28, 5, 7, 0, []),
  (93, .return_, 0, 0, 0, [])]
set_option maxRecDepth 100000 in
noncomputable def zc_X7_isLetter : List zE := [(0, .iload_n 0, 0, 0, 0, []),
  (1, .bipush 97, 0, 0, 97, []),
  (3, .if_icmp .lt 13, 8, 0, 0, []),
  (6, .iload_n 0, 0, 0, 0, []),
  (7, .bipush 122, 0, 0, 122, []),
  (9, .if_icmp .gt 7, 8, 0, 0, []),
  (12, .iconst 1, 0, 0, 1, []),
  (13, .goto 4, 9, 0, 0, []),
  (16, .iconst 0, 0, 0, 0, []),
  (17, .ireturn, 0, 0, 0, [2])]
set_option maxRecDepth 100000 in
noncomputable def zc_X7_isDigit : List zE := [(0, .iload_n 0, 0, 0, 0, []),
  (1, .bipush 48, 0, 0, 48, []),
  (3, .if_icmp .lt 13, 8, 0, 0, []),
  (6, .iload_n 0, 0, 0, 0, []),
  (7, .bipush 57, 0, 0, 57, []),
  (9, .if_icmp .gt 7, 8, 0, 0, []),
  (12, .iconst 1, 0, 0, 1, []),
  (13, .goto 4, 9, 0, 0, []),
  (16, .iconst 0, 0, 0, 0, []),
  (17, .ireturn, 0, 0, 0, [2])]
set_option maxRecDepth 100000 in
noncomputable def zc_X7_isSign : List zE := [(0, .iload_n 0, 0, 0, 0, []),
  (1, .bipush 40, 0, 0, 40, []),
  (3, .if_icmp .eq 45, 24, 0, 0, []),
  (6, .iload_n 0, 0, 0, 0, []),
  (7, .bipush 41, 0, 0, 41, []),
  (9, .if_icmp .eq 39, 24, 0, 0, []),
  (12, .iload_n 0, 0, 0, 0, []),
  (13, .bipush 59, 0, 0, 59, []),
  (15, .if_icmp .eq 33, 24, 0, 0, []),
  (18, .iload_n 0, 0, 0, 0, []),
  (19, .bipush 43, 0, 0, 43, []),
  (21, .if_icmp .eq 27, 24, 0, 0, []),
  (24, .iload_n 0, 0, 0, 0, []),
  (25, .bipush 45, 0, 0, 45, []),
  (27, .if_icmp .eq 21, 24, 0, 0, []),
  (30, .iload_n 0, 0, 0, 0, []),
  (31, .bipush 42, 0, 0, 42, []),
  (33, .if_icmp .eq 15, 24, 0, 0, []),
  (36, .iload_n 0, 0, 0, 0, []),
  (37, .bipush 60, 0, 0, 60, []),
  (39, .if_icmp .eq 9, 24, 0, 0, []),
  (42, .iload_n 0, 0, 0, 0, []),
  (43, .bipush 61, 0, 0, 61, []),
  (45, .if_icmp .ne 7, 26, 0, 0, []),
  (48, .iconst 1, 0, 0, 1, []),
  (49, .goto 4, 27, 0, 0, []),
  (52, .iconst 0, 0, 0, 0, []),
  (53, .ireturn, 0, 0, 0, [2])]
set_option maxRecDepth 100000 in
noncomputable def zc_X7_refuse : List zE := [(0, .aload_n 0, 0, 0, 0, []),
  (1, .getfield 19, 2, 7, 0, []),
  (4, .iconst (-1), 0, 0, (-1), []),
  (5, .if_icmp .ne 11, 8, 0, 0, []),
  (8, .aload_n 0, 0, 0, 0, []),
  (9, .aload_n 0, 0, 0, 0, []),
  (10, .getfield 31, 6, 7, 0, []),
  (13, .putfield 19, 2, 7, 0, []),
  (16, .aload_n 0, 0, 0, 0, []),
  (17, .bipush (-2), 0, 0, (-2), []),
  (19, .putfield 28, 5, 7, 0, []),
  (22, .return_, 0, 0, 0, [])]
set_option maxRecDepth 100000 in
noncomputable def zc_X7_pass : List zE := [(0, .aload_n 0, 0, 0, 0, []),
  (1, .getfield 28, 5, 7, 0, []),
  (4, .iload_n 1, 1, 0, 0, []),
  (5, .if_icmp .ne 18, 11, 0, 0, []),
  (8, .aload_n 0, 0, 0, 0, []),
  (9, .getfield 19, 2, 7, 0, []),
  (12, .iconst (-1), 0, 0, (-1), []),
  (13, .if_icmp .ne 10, 11, 0, 0, []),
  (16, .aload_n 0, 0, 0, 0, []),
  (17, .invokevirtual 43, 22, 0, 0, [7]),
  (20, .goto 7, 13, 0, 0, []),
  (23, .aload_n 0, 0, 0, 0, []),
  (24, .invokevirtual 95, 29, 0, 0, [7]),
  (27, .return_, 0, 0, 0, [])]
set_option maxRecDepth 100000 in
noncomputable def zc_X7_emit : List zE := [(0, .aload_n 0, 0, 0, 0, []),
  (1, .getfield 25, 4, 7, 0, []),
  (4, .sipush 160, 0, 0, 160, []),
  (7, .if_icmp .ge 23, 16, 0, 0, []),
  (10, .aload_n 0, 0, 0, 0, []),
  (11, .getfield 22, 3, 7, 0, [0]),
  (14, .aload_n 0, 0, 0, 0, []),
  (15, .getfield 25, 4, 7, 0, []),
  (18, .iload_n 1, 1, 0, 0, []),
  (19, .iastore, 0, 0, 0, []),
  (20, .aload_n 0, 0, 0, 0, []),
  (21, .dup, 0, 0, 0, []),
  (22, .getfield 25, 4, 7, 0, []),
  (25, .iconst 1, 0, 0, 1, []),
  (26, .iadd, 0, 0, 0, []),
  (27, .putfield 25, 4, 7, 0, []),
  (30, .return_, 0, 0, 0, [])]
set_option maxRecDepth 100000 in
noncomputable def zc_X7_opens : List zE := [(0, .aload_n 0, 0, 0, 0, []),
  (1, .getfield 40, 9, 7, 0, []),
  (4, .iconst 5, 0, 0, 5, []),
  (5, .if_icmp .lt 9, 8, 0, 0, []),
  (8, .aload_n 0, 0, 0, 0, []),
  (9, .invokevirtual 95, 29, 0, 0, [7]),
  (12, .iconst 0, 0, 0, 0, []),
  (13, .ireturn, 0, 0, 0, [2]),
  (14, .aload_n 0, 0, 0, 0, []),
  (15, .dup, 0, 0, 0, []),
  (16, .getfield 40, 9, 7, 0, []),
  (19, .iconst 1, 0, 0, 1, []),
  (20, .iadd, 0, 0, 0, []),
  (21, .putfield 40, 9, 7, 0, []),
  (24, .aload_n 0, 0, 0, 0, []),
  (25, .invokevirtual 43, 22, 0, 0, [7]),
  (28, .iconst 1, 0, 0, 1, []),
  (29, .ireturn, 0, 0, 0, [2])]
set_option maxRecDepth 100000 in
noncomputable def zc_X7_readOr : List zE := [(0, .aload_n 0, 0, 0, 0, []),
  (1, .invokevirtual 98, 34, 0, 0, [7]),
  (4, .iconst 0, 0, 0, 0, []),
  (5, .istore_n 1, 1, 0, 0, []),
  (6, .iload_n 1, 1, 0, 0, []),
  (7, .sipush 160, 0, 0, 160, []),
  (10, .if_icmp .ge 36, 21, 0, 0, []),
  (13, .aload_n 0, 0, 0, 0, []),
  (14, .getfield 28, 5, 7, 0, []),
  (17, .sipush 303, 0, 0, 303, []),
  (20, .if_icmp .ne 26, 21, 0, 0, []),
  (23, .aload_n 0, 0, 0, 0, []),
  (24, .sipush 303, 0, 0, 303, []),
  (27, .invokevirtual 46, 30, 1, 0, [7]),
  (30, .aload_n 0, 0, 0, 0, []),
  (31, .invokevirtual 98, 34, 0, 0, [7]),
  (34, .aload_n 0, 0, 0, 0, []),
  (35, .bipush (-21), 0, 0, (-21), []),
  (37, .invokevirtual 101, 31, 1, 0, [7]),
  (40, .iinc 1 1, 1, 0, 1, []),
  (43, .goto (-37), 4, 0, 0, []),
  (46, .return_, 0, 0, 0, [])]
set_option maxRecDepth 100000 in
noncomputable def zc_X7_readAnd : List zE := [(0, .aload_n 0, 0, 0, 0, []),
  (1, .invokevirtual 104, 35, 0, 0, [7]),
  (4, .iconst 0, 0, 0, 0, []),
  (5, .istore_n 1, 1, 0, 0, []),
  (6, .iload_n 1, 1, 0, 0, []),
  (7, .sipush 160, 0, 0, 160, []),
  (10, .if_icmp .ge 36, 21, 0, 0, []),
  (13, .aload_n 0, 0, 0, 0, []),
  (14, .getfield 28, 5, 7, 0, []),
  (17, .sipush 304, 0, 0, 304, []),
  (20, .if_icmp .ne 26, 21, 0, 0, []),
  (23, .aload_n 0, 0, 0, 0, []),
  (24, .sipush 304, 0, 0, 304, []),
  (27, .invokevirtual 46, 30, 1, 0, [7]),
  (30, .aload_n 0, 0, 0, 0, []),
  (31, .invokevirtual 104, 35, 0, 0, [7]),
  (34, .aload_n 0, 0, 0, 0, []),
  (35, .bipush (-22), 0, 0, (-22), []),
  (37, .invokevirtual 101, 31, 1, 0, [7]),
  (40, .iinc 1 1, 1, 0, 1, []),
  (43, .goto (-37), 4, 0, 0, []),
  (46, .return_, 0, 0, 0, [])]
set_option maxRecDepth 100000 in
noncomputable def zc_X7_readNot : List zE := [(0, .aload_n 0, 0, 0, 0, []),
  (1, .getfield 28, 5, 7, 0, []),
  (4, .sipush 305, 0, 0, 305, []),
  (7, .if_icmp .ne 31, 19, 0, 0, []),
  (10, .aload_n 0, 0, 0, 0, []),
  (11, .invokevirtual 107, 32, 0, 0, [7]),
  (14, .ifCond .eq 23, 18, 0, 0, []),
  (17, .aload_n 0, 0, 0, 0, []),
  (18, .invokevirtual 104, 35, 0, 0, [7]),
  (21, .aload_n 0, 0, 0, 0, []),
  (22, .bipush (-12), 0, 0, (-12), []),
  (24, .invokevirtual 101, 31, 1, 0, [7]),
  (27, .aload_n 0, 0, 0, 0, []),
  (28, .dup, 0, 0, 0, []),
  (29, .getfield 40, 9, 7, 0, []),
  (32, .iconst 1, 0, 0, 1, []),
  (33, .isub, 0, 0, 0, []),
  (34, .putfield 40, 9, 7, 0, []),
  (37, .return_, 0, 0, 0, []),
  (38, .aload_n 0, 0, 0, 0, []),
  (39, .invokevirtual 111, 36, 0, 0, [7]),
  (42, .aload_n 0, 0, 0, 0, []),
  (43, .getfield 28, 5, 7, 0, []),
  (46, .bipush 60, 0, 0, 60, []),
  (48, .if_icmp .eq 12, 29, 0, 0, []),
  (51, .aload_n 0, 0, 0, 0, []),
  (52, .getfield 28, 5, 7, 0, []),
  (55, .bipush 61, 0, 0, 61, []),
  (57, .if_icmp .ne 37, 46, 0, 0, []),
  (60, .aload_n 0, 0, 0, 0, []),
  (61, .getfield 28, 5, 7, 0, []),
  (64, .bipush 60, 0, 0, 60, []),
  (66, .if_icmp .ne 8, 35, 0, 0, []),
  (69, .bipush (-23), 0, 0, (-23), []),
  (71, .goto 5, 36, 0, 0, []),
  (74, .bipush (-24), 0, 0, (-24), []),
  (76, .istore_n 1, 1, 0, 0, []),
  (77, .aload_n 0, 0, 0, 0, []),
  (78, .aload_n 0, 0, 0, 0, []),
  (79, .getfield 28, 5, 7, 0, []),
  (82, .invokevirtual 46, 30, 1, 0, [7]),
  (85, .aload_n 0, 0, 0, 0, []),
  (86, .invokevirtual 111, 36, 0, 0, [7]),
  (89, .aload_n 0, 0, 0, 0, []),
  (90, .iload_n 1, 1, 0, 0, []),
  (91, .invokevirtual 101, 31, 1, 0, [7]),
  (94, .return_, 0, 0, 0, [])]
set_option maxRecDepth 100000 in
noncomputable def zc_X7_readSum : List zE := [(0, .aload_n 0, 0, 0, 0, []),
  (1, .invokevirtual 114, 37, 0, 0, [7]),
  (4, .iconst 0, 0, 0, 0, []),
  (5, .istore_n 1, 1, 0, 0, []),
  (6, .iload_n 1, 1, 0, 0, []),
  (7, .sipush 160, 0, 0, 160, []),
  (10, .if_icmp .ge 61, 34, 0, 0, []),
  (13, .aload_n 0, 0, 0, 0, []),
  (14, .getfield 28, 5, 7, 0, []),
  (17, .bipush 43, 0, 0, 43, []),
  (19, .if_icmp .eq 12, 15, 0, 0, []),
  (22, .aload_n 0, 0, 0, 0, []),
  (23, .getfield 28, 5, 7, 0, []),
  (26, .bipush 45, 0, 0, 45, []),
  (28, .if_icmp .ne 43, 34, 0, 0, []),
  (31, .aload_n 0, 0, 0, 0, []),
  (32, .getfield 28, 5, 7, 0, []),
  (35, .bipush 43, 0, 0, 43, []),
  (37, .if_icmp .ne 8, 21, 0, 0, []),
  (40, .bipush (-25), 0, 0, (-25), []),
  (42, .goto 5, 22, 0, 0, []),
  (45, .bipush (-26), 0, 0, (-26), []),
  (47, .istore_n 2, 2, 0, 0, []),
  (48, .aload_n 0, 0, 0, 0, []),
  (49, .aload_n 0, 0, 0, 0, []),
  (50, .getfield 28, 5, 7, 0, []),
  (53, .invokevirtual 46, 30, 1, 0, [7]),
  (56, .aload_n 0, 0, 0, 0, []),
  (57, .invokevirtual 114, 37, 0, 0, [7]),
  (60, .aload_n 0, 0, 0, 0, []),
  (61, .iload_n 2, 2, 0, 0, []),
  (62, .invokevirtual 101, 31, 1, 0, [7]),
  (65, .iinc 1 1, 1, 0, 1, []),
  (68, .goto (-62), 4, 0, 0, []),
  (71, .return_, 0, 0, 0, [])]
set_option maxRecDepth 100000 in
noncomputable def zc_X7_readTerm : List zE := [(0, .aload_n 0, 0, 0, 0, []),
  (1, .invokevirtual 117, 38, 0, 0, [7]),
  (4, .iconst 0, 0, 0, 0, []),
  (5, .istore_n 1, 1, 0, 0, []),
  (6, .iload_n 1, 1, 0, 0, []),
  (7, .sipush 160, 0, 0, 160, []),
  (10, .if_icmp .ge 34, 21, 0, 0, []),
  (13, .aload_n 0, 0, 0, 0, []),
  (14, .getfield 28, 5, 7, 0, []),
  (17, .bipush 42, 0, 0, 42, []),
  (19, .if_icmp .ne 25, 21, 0, 0, []),
  (22, .aload_n 0, 0, 0, 0, []),
  (23, .bipush 42, 0, 0, 42, []),
  (25, .invokevirtual 46, 30, 1, 0, [7]),
  (28, .aload_n 0, 0, 0, 0, []),
  (29, .invokevirtual 117, 38, 0, 0, [7]),
  (32, .aload_n 0, 0, 0, 0, []),
  (33, .bipush (-27), 0, 0, (-27), []),
  (35, .invokevirtual 101, 31, 1, 0, [7]),
  (38, .iinc 1 1, 1, 0, 1, []),
  (41, .goto (-35), 4, 0, 0, []),
  (44, .return_, 0, 0, 0, [])]
set_option maxRecDepth 100000 in
noncomputable def zc_X7_readOne : List zE := [(0, .aload_n 0, 0, 0, 0, []),
  (1, .getfield 28, 5, 7, 0, []),
  (4, .sipush 256, 0, 0, 256, []),
  (7, .if_icmp .ne 21, 12, 0, 0, []),
  (10, .aload_n 0, 0, 0, 0, []),
  (11, .aload_n 0, 0, 0, 0, []),
  (12, .getfield 34, 7, 7, 0, []),
  (15, .invokevirtual 101, 31, 1, 0, [7]),
  (18, .aload_n 0, 0, 0, 0, []),
  (19, .sipush 256, 0, 0, 256, []),
  (22, .invokevirtual 46, 30, 1, 0, [7]),
  (25, .goto 130, 73, 0, 0, []),
  (28, .aload_n 0, 0, 0, 0, []),
  (29, .getfield 28, 5, 7, 0, []),
  (32, .sipush 306, 0, 0, 306, []),
  (35, .if_icmp .lt 38, 33, 0, 0, []),
  (38, .aload_n 0, 0, 0, 0, []),
  (39, .getfield 28, 5, 7, 0, []),
  (42, .sipush 311, 0, 0, 311, []),
  (45, .if_icmp .gt 28, 33, 0, 0, []),
  (48, .aload_n 0, 0, 0, 0, []),
  (49, .iconst (-1), 0, 0, (-1), []),
  (50, .aload_n 0, 0, 0, 0, []),
  (51, .getfield 28, 5, 7, 0, []),
  (54, .sipush 306, 0, 0, 306, []),
  (57, .isub, 0, 0, 0, []),
  (58, .isub, 0, 0, 0, []),
  (59, .invokevirtual 101, 31, 1, 0, [7]),
  (62, .aload_n 0, 0, 0, 0, []),
  (63, .aload_n 0, 0, 0, 0, []),
  (64, .getfield 28, 5, 7, 0, []),
  (67, .invokevirtual 46, 30, 1, 0, [7]),
  (70, .goto 85, 73, 0, 0, []),
  (73, .aload_n 0, 0, 0, 0, []),
  (74, .getfield 28, 5, 7, 0, []),
  (77, .bipush 45, 0, 0, 45, []),
  (79, .if_icmp .ne 33, 52, 0, 0, []),
  (82, .aload_n 0, 0, 0, 0, []),
  (83, .invokevirtual 107, 32, 0, 0, [7]),
  (86, .ifCond .eq 69, 73, 0, 0, []),
  (89, .aload_n 0, 0, 0, 0, []),
  (90, .invokevirtual 117, 38, 0, 0, [7]),
  (93, .aload_n 0, 0, 0, 0, []),
  (94, .bipush (-11), 0, 0, (-11), []),
  (96, .invokevirtual 101, 31, 1, 0, [7]),
  (99, .aload_n 0, 0, 0, 0, []),
  (100, .dup, 0, 0, 0, []),
  (101, .getfield 40, 9, 7, 0, []),
  (104, .iconst 1, 0, 0, 1, []),
  (105, .isub, 0, 0, 0, []),
  (106, .putfield 40, 9, 7, 0, []),
  (109, .goto 46, 73, 0, 0, []),
  (112, .aload_n 0, 0, 0, 0, []),
  (113, .getfield 28, 5, 7, 0, []),
  (116, .bipush 40, 0, 0, 40, []),
  (118, .if_icmp .ne 33, 71, 0, 0, []),
  (121, .aload_n 0, 0, 0, 0, []),
  (122, .invokevirtual 107, 32, 0, 0, [7]),
  (125, .ifCond .eq 30, 73, 0, 0, []),
  (128, .aload_n 0, 0, 0, 0, []),
  (129, .invokevirtual 50, 33, 0, 0, [7]),
  (132, .aload_n 0, 0, 0, 0, []),
  (133, .bipush 41, 0, 0, 41, []),
  (135, .invokevirtual 46, 30, 1, 0, [7]),
  (138, .aload_n 0, 0, 0, 0, []),
  (139, .dup, 0, 0, 0, []),
  (140, .getfield 40, 9, 7, 0, []),
  (143, .iconst 1, 0, 0, 1, []),
  (144, .isub, 0, 0, 0, []),
  (145, .putfield 40, 9, 7, 0, []),
  (148, .goto 7, 73, 0, 0, []),
  (151, .aload_n 0, 0, 0, 0, []),
  (152, .invokevirtual 95, 29, 0, 0, [7]),
  (155, .return_, 0, 0, 0, [])]
set_option maxRecDepth 100000 in
noncomputable def zc_X8_init : List zE := [(0, .aload_n 0, 0, 0, 0, []),
  (1, .invokespecial 3, 0, 0, 0, []),
  (4, .aload_n 0, 0, 0, 0, []),
  (5, .aload_n 1, 1, 0, 0, []),
  (6, .putfield 9, 0, 8, 0, [0]),
  (9, .aload_n 0, 0, 0, 0, []),
  (10, .iload_n 2, 2, 0, 0, []),
  (11, .putfield 15, 1, 8, 0, []),
  (14, .aload_n 0, 0, 0, 0, []),
  (15, .iload_n 3, 3, 0, 0, []),
  (16, .putfield 19, 2, 8, 0, []),
  (19, .return_, 0, 0, 0, [])]
set_option maxRecDepth 100000 in
noncomputable def zc_X8_valueOf : List zE := [(0, .iload_n 1, 1, 0, 0, []),
  (1, .ifCond .ne 7, 4, 0, 0, []),
  (4, .iconst 0, 0, 0, 0, []),
  (5, .goto 19, 12, 0, 0, []),
  (8, .iload_n 1, 1, 0, 0, []),
  (9, .iconst 1, 0, 0, 1, []),
  (10, .if_icmp .ne 10, 10, 0, 0, []),
  (13, .aload_n 0, 0, 0, 0, []),
  (14, .getfield 15, 1, 8, 0, []),
  (17, .goto 7, 12, 0, 0, []),
  (20, .aload_n 0, 0, 0, 0, []),
  (21, .getfield 19, 2, 8, 0, []),
  (24, .istore 4, 4, 0, 0, []),
  (26, .iload_n 1, 1, 0, 0, []),
  (27, .ifCond .ne 10, 18, 0, 0, []),
  (30, .aload_n 0, 0, 0, 0, []),
  (31, .getfield 15, 1, 8, 0, []),
  (34, .goto 20, 27, 0, 0, []),
  (37, .iload_n 1, 1, 0, 0, []),
  (38, .iconst 1, 0, 0, 1, []),
  (39, .if_icmp .ne 10, 24, 0, 0, []),
  (42, .aload_n 0, 0, 0, 0, []),
  (43, .getfield 19, 2, 8, 0, []),
  (46, .goto 8, 27, 0, 0, []),
  (49, .aload_n 0, 0, 0, 0, []),
  (50, .getfield 9, 0, 8, 0, [0]),
  (53, .arraylength, 0, 0, 0, []),
  (54, .istore 5, 5, 0, 0, []),
  (56, .iconst 0, 0, 0, 0, []),
  (57, .istore 6, 6, 0, 0, []),
  (59, .iload 4, 4, 0, 0, []),
  (61, .istore 7, 7, 0, 0, []),
  (63, .iload 7, 7, 0, 0, []),
  (65, .ifCond .lt 176, 127, 0, 0, []),
  (68, .iload 7, 7, 0, 0, []),
  (70, .iload 5, 5, 0, 0, []),
  (72, .if_icmp .ge 169, 127, 0, 0, []),
  (75, .iload 7, 7, 0, 0, []),
  (77, .aload_n 0, 0, 0, 0, []),
  (78, .getfield 9, 0, 8, 0, [0]),
  (81, .arraylength, 0, 0, 0, []),
  (82, .if_icmp .ge 159, 127, 0, 0, []),
  (85, .aload_n 0, 0, 0, 0, []),
  (86, .getfield 9, 0, 8, 0, [0]),
  (89, .iload 7, 7, 0, 0, []),
  (91, .iaload, 0, 0, 0, []),
  (92, .istore 8, 8, 0, 0, []),
  (94, .iload 8, 8, 0, 0, []),
  (96, .bipush (-6), 0, 0, (-6), []),
  (98, .if_icmp .lt 7, 52, 0, 0, []),
  (101, .iconst 0, 0, 0, 0, []),
  (102, .goto 15, 58, 0, 0, []),
  (105, .iload 8, 8, 0, 0, []),
  (107, .bipush (-12), 0, 0, (-12), []),
  (109, .if_icmp .lt 7, 57, 0, 0, []),
  (112, .iconst 1, 0, 0, 1, []),
  (113, .goto 4, 58, 0, 0, []),
  (116, .iconst 2, 0, 0, 2, []),
  (117, .istore 9, 9, 0, 0, []),
  (119, .iload 6, 6, 0, 0, []),
  (121, .iload 9, 9, 0, 0, []),
  (123, .if_icmp .lt 13, 68, 0, 0, []),
  (126, .iload 6, 6, 0, 0, []),
  (128, .iload 9, 9, 0, 0, []),
  (130, .isub, 0, 0, 0, []),
  (131, .aload_n 3, 3, 0, 0, []),
  (132, .arraylength, 0, 0, 0, []),
  (133, .if_icmp .lt 5, 70, 0, 0, []),
  (136, .iconst 0, 0, 0, 0, []),
  (137, .ireturn, 0, 0, 0, []),
  (138, .iload 6, 6, 0, 0, []),
  (140, .iload 9, 9, 0, 0, []),
  (142, .isub, 0, 0, 0, []),
  (143, .istore 6, 6, 0, 0, []),
  (145, .iload 9, 9, 0, 0, []),
  (147, .ifCond .ne 26, 89, 0, 0, []),
  (150, .aload_n 3, 3, 0, 0, []),
  (151, .iload 6, 6, 0, 0, []),
  (153, .iload 8, 8, 0, 0, []),
  (155, .ifCond .lt 8, 82, 0, 0, []),
  (158, .iload 8, 8, 0, 0, []),
  (160, .goto 9, 87, 0, 0, []),
  (163, .aload_n 2, 2, 0, 0, []),
  (164, .iconst (-1), 0, 0, (-1), []),
  (165, .iload 8, 8, 0, 0, []),
  (167, .isub, 0, 0, 0, []),
  (168, .iaload, 0, 0, 0, []),
  (169, .iastore, 0, 0, 0, []),
  (170, .goto 62, 124, 0, 0, []),
  (173, .iload 9, 9, 0, 0, []),
  (175, .iconst 1, 0, 0, 1, []),
  (176, .if_icmp .ne 37, 111, 0, 0, []),
  (179, .aload_n 3, 3, 0, 0, []),
  (180, .iload 6, 6, 0, 0, []),
  (182, .iload 8, 8, 0, 0, []),
  (184, .bipush (-11), 0, 0, (-11), []),
  (186, .if_icmp .ne 11, 102, 0, 0, []),
  (189, .aload_n 3, 3, 0, 0, []),
  (190, .iload 6, 6, 0, 0, []),
  (192, .iaload, 0, 0, 0, []),
  (193, .ineg, 0, 0, 0, []),
  (194, .goto 15, 109, 0, 0, []),
  (197, .aload_n 3, 3, 0, 0, []),
  (198, .iload 6, 6, 0, 0, []),
  (200, .iaload, 0, 0, 0, []),
  (201, .ifCond .ne 7, 108, 0, 0, []),
  (204, .iconst 1, 0, 0, 1, []),
  (205, .goto 4, 109, 0, 0, []),
  (208, .iconst 0, 0, 0, 0, []),
  (209, .iastore, 0, 0, 0, []),
  (210, .goto 22, 124, 0, 0, []),
  (213, .aload_n 3, 3, 0, 0, []),
  (214, .iload 6, 6, 0, 0, []),
  (216, .iload 8, 8, 0, 0, []),
  (218, .aload_n 3, 3, 0, 0, []),
  (219, .iload 6, 6, 0, 0, []),
  (221, .iaload, 0, 0, 0, []),
  (222, .aload_n 3, 3, 0, 0, []),
  (223, .iload 6, 6, 0, 0, []),
  (225, .iconst 1, 0, 0, 1, []),
  (226, .iadd, 0, 0, 0, []),
  (227, .iaload, 0, 0, 0, []),
  (228, .invokestatic 22, 41, 3, 0, []),
  (231, .iastore, 0, 0, 0, []),
  (232, .iinc 6 1, 6, 0, 1, []),
  (235, .iinc 7 1, 7, 0, 1, []),
  (238, .goto (-175), 32, 0, 0, []),
  (241, .iload 6, 6, 0, 0, []),
  (243, .ifCond .le 9, 133, 0, 0, []),
  (246, .aload_n 3, 3, 0, 0, []),
  (247, .iconst 0, 0, 0, 0, []),
  (248, .iaload, 0, 0, 0, []),
  (249, .goto 4, 134, 0, 0, []),
  (252, .iconst 0, 0, 0, 0, []),
  (253, .ireturn, 0, 0, 0, [])]
set_option maxRecDepth 100000 in
noncomputable def zc_X8_join : List zE := [(0, .iload_n 0, 0, 0, 0, []),
  (1, .tableswitch 97 (-26) (-21) #[93, 89, 78, 67, 53, 39], 40, 39, (-26), [36, 32, 25, 18, 10, 2]),
  (40, .iload_n 1, 1, 0, 0, []),
  (41, .ifCond .ne 7, 6, 0, 0, []),
  (44, .iload_n 2, 2, 0, 0, []),
  (45, .ifCond .eq 7, 8, 0, 0, []),
  (48, .iconst 1, 0, 0, 1, []),
  (49, .goto 4, 9, 0, 0, []),
  (52, .iconst 0, 0, 0, 0, []),
  (53, .ireturn, 0, 0, 0, []),
  (54, .iload_n 1, 1, 0, 0, []),
  (55, .ifCond .eq 11, 16, 0, 0, []),
  (58, .iload_n 2, 2, 0, 0, []),
  (59, .ifCond .eq 7, 16, 0, 0, []),
  (62, .iconst 1, 0, 0, 1, []),
  (63, .goto 4, 17, 0, 0, []),
  (66, .iconst 0, 0, 0, 0, []),
  (67, .ireturn, 0, 0, 0, []),
  (68, .iload_n 1, 1, 0, 0, []),
  (69, .iload_n 2, 2, 0, 0, []),
  (70, .if_icmp .ge 7, 23, 0, 0, []),
  (73, .iconst 1, 0, 0, 1, []),
  (74, .goto 4, 24, 0, 0, []),
  (77, .iconst 0, 0, 0, 0, []),
  (78, .ireturn, 0, 0, 0, []),
  (79, .iload_n 1, 1, 0, 0, []),
  (80, .iload_n 2, 2, 0, 0, []),
  (81, .if_icmp .ne 7, 30, 0, 0, []),
  (84, .iconst 1, 0, 0, 1, []),
  (85, .goto 4, 31, 0, 0, []),
  (88, .iconst 0, 0, 0, 0, []),
  (89, .ireturn, 0, 0, 0, []),
  (90, .iload_n 1, 1, 0, 0, []),
  (91, .iload_n 2, 2, 0, 0, []),
  (92, .iadd, 0, 0, 0, []),
  (93, .ireturn, 0, 0, 0, []),
  (94, .iload_n 1, 1, 0, 0, []),
  (95, .iload_n 2, 2, 0, 0, []),
  (96, .isub, 0, 0, 0, []),
  (97, .ireturn, 0, 0, 0, []),
  (98, .iload_n 1, 1, 0, 0, []),
  (99, .iload_n 2, 2, 0, 0, []),
  (100, .imul, 0, 0, 0, []),
  (101, .ireturn, 0, 0, 0, [])]
set_option maxRecDepth 100000 in
noncomputable def zc_X9_init : List zE := [(0, .aload_n 0, 0, 0, 0, []),
  (1, .invokespecial 3, 0, 0, 0, []),
  (4, .aload_n 0, 0, 0, 0, []),
  (5, .bipush 6, 0, 0, 6, []),
  (7, .newarray .int, 20, 0, 0, []),
  (9, .putfield 9, 0, 9, 0, [0]),
  (12, .aload_n 0, 0, 0, 0, []),
  (13, .bipush 6, 0, 0, 6, []),
  (15, .newarray .boolean, 21, 0, 0, []),
  (17, .putfield 15, 1, 9, 0, [0]),
  (20, .aload_n 0, 0, 0, 0, []),
  (21, .bipush 6, 0, 0, 6, []),
  (23, .newarray .int, 20, 0, 0, []),
  (25, .putfield 19, 2, 9, 0, [0]),
  (28, .aload_n 0, 0, 0, 0, []),
  (29, .iconst 4, 0, 0, 4, []),
  (30, .newarray .int, 20, 0, 0, []),
  (32, .putfield 22, 3, 9, 0, [0]),
  (35, .aload_n 0, 0, 0, 0, []),
  (36, .iconst 4, 0, 0, 4, []),
  (37, .bipush 6, 0, 0, 6, []),
  (39, .multianewarray 25 2, 0, 0, 0, []),
  (43, .putfield 27, 4, 9, 0, [0]),
  (46, .aload_n 0, 0, 0, 0, []),
  (47, .bipush 6, 0, 0, 6, []),
  (49, .newarray .int, 20, 0, 0, []),
  (51, .putfield 30, 5, 9, 0, [0]),
  (54, .aload_n 0, 0, 0, 0, []),
  (55, .bipush 6, 0, 0, 6, []),
  (57, .newarray .int, 20, 0, 0, []),
  (59, .putfield 33, 6, 9, 0, [0]),
  (62, .aload_n 0, 0, 0, 0, []),
  (63, .iconst 0, 0, 0, 0, []),
  (64, .putfield 36, 7, 9, 0, []),
  (67, .aload_n 0, 0, 0, 0, []),
  (68, .iconst 0, 0, 0, 0, []),
  (69, .putfield 40, 8, 9, 0, []),
  (72, .return_, 0, 0, 0, [])]
set_option maxRecDepth 100000 in
noncomputable def zc_X9_clear : List zE := [(0, .aload_n 0, 0, 0, 0, []),
  (1, .iload_n 1, 1, 0, 0, []),
  (2, .putfield 36, 7, 9, 0, []),
  (5, .aload_n 0, 0, 0, 0, []),
  (6, .iload_n 2, 2, 0, 0, []),
  (7, .putfield 40, 8, 9, 0, []),
  (10, .iconst 0, 0, 0, 0, []),
  (11, .istore_n 3, 3, 0, 0, []),
  (12, .iload_n 3, 3, 0, 0, []),
  (13, .bipush 6, 0, 0, 6, []),
  (15, .if_icmp .ge 32, 30, 0, 0, []),
  (18, .aload_n 0, 0, 0, 0, []),
  (19, .getfield 19, 2, 9, 0, [0]),
  (22, .iload_n 3, 3, 0, 0, []),
  (23, .iconst 1, 0, 0, 1, []),
  (24, .iload_n 3, 3, 0, 0, []),
  (25, .ishl, 0, 0, 0, []),
  (26, .iastore, 0, 0, 0, []),
  (27, .aload_n 0, 0, 0, 0, []),
  (28, .getfield 30, 5, 9, 0, [0]),
  (31, .iload_n 3, 3, 0, 0, []),
  (32, .iconst 0, 0, 0, 0, []),
  (33, .iastore, 0, 0, 0, []),
  (34, .aload_n 0, 0, 0, 0, []),
  (35, .getfield 33, 6, 9, 0, [0]),
  (38, .iload_n 3, 3, 0, 0, []),
  (39, .iconst 0, 0, 0, 0, []),
  (40, .iastore, 0, 0, 0, []),
  (41, .iinc 3 1, 3, 0, 1, []),
  (44, .goto (-32), 8, 0, 0, []),
  (47, .aload_n 0, 0, 0, 0, []),
  (48, .getfield 22, 3, 9, 0, [0]),
  (51, .iconst (-1), 0, 0, (-1), []),
  (52, .invokestatic 43, 224, 2, 0, []),
  (55, .return_, 0, 0, 0, [])]
set_option maxRecDepth 100000 in
noncomputable def zc_X9_unite : List zE := [(0, .aload_n 0, 0, 0, 0, []),
  (1, .getfield 19, 2, 9, 0, [0]),
  (4, .iload_n 1, 1, 0, 0, []),
  (5, .iaload, 0, 0, 0, []),
  (6, .aload_n 0, 0, 0, 0, []),
  (7, .getfield 19, 2, 9, 0, [0]),
  (10, .iload_n 2, 2, 0, 0, []),
  (11, .iaload, 0, 0, 0, []),
  (12, .ior, 0, 0, 0, []),
  (13, .istore_n 3, 3, 0, 0, []),
  (14, .iconst 0, 0, 0, 0, []),
  (15, .istore 4, 4, 0, 0, []),
  (17, .iload 4, 4, 0, 0, []),
  (19, .bipush 6, 0, 0, 6, []),
  (21, .if_icmp .ge 27, 29, 0, 0, []),
  (24, .iload_n 3, 3, 0, 0, []),
  (25, .iload 4, 4, 0, 0, []),
  (27, .ishr, 0, 0, 0, []),
  (28, .iconst 1, 0, 0, 1, []),
  (29, .iand, 0, 0, 0, []),
  (30, .iconst 1, 0, 0, 1, []),
  (31, .if_icmp .ne 11, 27, 0, 0, []),
  (34, .aload_n 0, 0, 0, 0, []),
  (35, .getfield 19, 2, 9, 0, [0]),
  (38, .iload 4, 4, 0, 0, []),
  (40, .iload_n 3, 3, 0, 0, []),
  (41, .iastore, 0, 0, 0, []),
  (42, .iinc 4 1, 4, 0, 1, []),
  (45, .goto (-28), 12, 0, 0, []),
  (48, .return_, 0, 0, 0, [])]
set_option maxRecDepth 100000 in
noncomputable def zc_X9_sumWholes : List zE := [(0, .iconst 0, 0, 0, 0, []),
  (1, .istore_n 1, 1, 0, 0, []),
  (2, .iload_n 1, 1, 0, 0, []),
  (3, .aload_n 0, 0, 0, 0, []),
  (4, .getfield 36, 7, 9, 0, []),
  (7, .if_icmp .ge 37, 26, 0, 0, []),
  (10, .aload_n 0, 0, 0, 0, []),
  (11, .getfield 15, 1, 9, 0, [0]),
  (14, .iload_n 1, 1, 0, 0, []),
  (15, .baload, 0, 0, 0, []),
  (16, .ifCond .eq 22, 24, 0, 0, []),
  (19, .aload_n 0, 0, 0, 0, []),
  (20, .getfield 30, 5, 9, 0, [0]),
  (23, .aload_n 0, 0, 0, 0, []),
  (24, .iload_n 1, 1, 0, 0, []),
  (25, .invokevirtual 49, 46, 1, 0, [9]),
  (28, .dup2, 0, 0, 0, []),
  (29, .iaload, 0, 0, 0, []),
  (30, .aload_n 0, 0, 0, 0, []),
  (31, .getfield 9, 0, 9, 0, [0]),
  (34, .iload_n 1, 1, 0, 0, []),
  (35, .iaload, 0, 0, 0, []),
  (36, .iadd, 0, 0, 0, []),
  (37, .iastore, 0, 0, 0, []),
  (38, .iinc 1 1, 1, 0, 1, []),
  (41, .goto (-39), 2, 0, 0, []),
  (44, .return_, 0, 0, 0, [])]
set_option maxRecDepth 100000 in
noncomputable def zc_X9_rootOf : List zE := [(0, .iload_n 1, 1, 0, 0, []),
  (1, .aload_n 0, 0, 0, 0, []),
  (2, .getfield 19, 2, 9, 0, [0]),
  (5, .iload_n 1, 1, 0, 0, []),
  (6, .iaload, 0, 0, 0, []),
  (7, .invokestatic 53, 225, 1, 0, []),
  (10, .invokestatic 58, 0, 0, 0, [1]),
  (13, .ireturn, 0, 0, 0, [])]
set_option maxRecDepth 100000 in
noncomputable def zc_X9_rootUnder : List zE := [(0, .aload_n 0, 0, 0, 0, []),
  (1, .getfield 22, 3, 9, 0, [0]),
  (4, .iload_n 1, 1, 0, 0, []),
  (5, .iaload, 0, 0, 0, []),
  (6, .istore_n 2, 2, 0, 0, []),
  (7, .iload_n 2, 2, 0, 0, []),
  (8, .ifCond .lt 28, 20, 0, 0, []),
  (11, .iload_n 2, 2, 0, 0, []),
  (12, .aload_n 0, 0, 0, 0, []),
  (13, .getfield 36, 7, 9, 0, []),
  (16, .if_icmp .ge 20, 20, 0, 0, []),
  (19, .aload_n 0, 0, 0, 0, []),
  (20, .getfield 15, 1, 9, 0, [0]),
  (23, .iload_n 2, 2, 0, 0, []),
  (24, .baload, 0, 0, 0, []),
  (25, .ifCond .eq 11, 20, 0, 0, []),
  (28, .aload_n 0, 0, 0, 0, []),
  (29, .iload_n 2, 2, 0, 0, []),
  (30, .invokevirtual 49, 46, 1, 0, [9]),
  (33, .goto 4, 21, 0, 0, []),
  (36, .iconst (-1), 0, 0, (-1), []),
  (37, .ireturn, 0, 0, 0, [])]
set_option maxRecDepth 100000 in
noncomputable def zc_X9_put : List zE := [(0, .aload_n 0, 0, 0, 0, []),
  (1, .iload_n 1, 1, 0, 0, []),
  (2, .invokevirtual 64, 47, 1, 0, [9]),
  (5, .istore_n 3, 3, 0, 0, []),
  (6, .iload_n 3, 3, 0, 0, []),
  (7, .iconst (-1), 0, 0, (-1), []),
  (8, .if_icmp .eq 13, 15, 0, 0, []),
  (11, .aload_n 0, 0, 0, 0, []),
  (12, .getfield 33, 6, 9, 0, [0]),
  (15, .iload_n 3, 3, 0, 0, []),
  (16, .dup2, 0, 0, 0, []),
  (17, .iaload, 0, 0, 0, []),
  (18, .iconst 1, 0, 0, 1, []),
  (19, .isub, 0, 0, 0, []),
  (20, .iastore, 0, 0, 0, []),
  (21, .aload_n 0, 0, 0, 0, []),
  (22, .getfield 22, 3, 9, 0, [0]),
  (25, .iload_n 1, 1, 0, 0, []),
  (26, .iload_n 2, 2, 0, 0, []),
  (27, .iastore, 0, 0, 0, []),
  (28, .aload_n 0, 0, 0, 0, []),
  (29, .iload_n 1, 1, 0, 0, []),
  (30, .invokevirtual 64, 47, 1, 0, [9]),
  (33, .istore 4, 4, 0, 0, []),
  (35, .iload 4, 4, 0, 0, []),
  (37, .iconst (-1), 0, 0, (-1), []),
  (38, .if_icmp .eq 14, 35, 0, 0, []),
  (41, .aload_n 0, 0, 0, 0, []),
  (42, .getfield 33, 6, 9, 0, [0]),
  (45, .iload 4, 4, 0, 0, []),
  (47, .dup2, 0, 0, 0, []),
  (48, .iaload, 0, 0, 0, []),
  (49, .iconst 1, 0, 0, 1, []),
  (50, .iadd, 0, 0, 0, []),
  (51, .iastore, 0, 0, 0, []),
  (52, .return_, 0, 0, 0, [])]
set_option maxRecDepth 100000 in
noncomputable def zc_X9_ownerOf : List zE := [(0, .aload_n 0, 0, 0, 0, []),
  (1, .iload_n 1, 1, 0, 0, []),
  (2, .invokevirtual 49, 46, 1, 0, [9]),
  (5, .istore_n 2, 2, 0, 0, []),
  (6, .aload_n 0, 0, 0, 0, []),
  (7, .getfield 33, 6, 9, 0, [0]),
  (10, .iload_n 2, 2, 0, 0, []),
  (11, .iaload, 0, 0, 0, []),
  (12, .iconst 1, 0, 0, 1, []),
  (13, .if_icmp .eq 5, 12, 0, 0, []),
  (16, .iconst (-1), 0, 0, (-1), []),
  (17, .ireturn, 0, 0, 0, []),
  (18, .iconst 0, 0, 0, 0, []),
  (19, .istore_n 3, 3, 0, 0, []),
  (20, .iload_n 3, 3, 0, 0, []),
  (21, .aload_n 0, 0, 0, 0, []),
  (22, .getfield 40, 8, 9, 0, []),
  (25, .if_icmp .ge 20, 27, 0, 0, []),
  (28, .aload_n 0, 0, 0, 0, []),
  (29, .iload_n 3, 3, 0, 0, []),
  (30, .invokevirtual 64, 47, 1, 0, [9]),
  (33, .iload_n 2, 2, 0, 0, []),
  (34, .if_icmp .ne 5, 25, 0, 0, []),
  (37, .iload_n 3, 3, 0, 0, []),
  (38, .ireturn, 0, 0, 0, []),
  (39, .iinc 3 1, 3, 0, 1, []),
  (42, .goto (-22), 14, 0, 0, []),
  (45, .iconst (-1), 0, 0, (-1), []),
  (46, .ireturn, 0, 0, 0, [])]
set_option maxRecDepth 100000 in
noncomputable def zc_X9_gainOf : List zE := [(0, .aload_n 0, 0, 0, 0, []),
  (1, .iload_n 1, 1, 0, 0, []),
  (2, .aload_n 0, 0, 0, 0, []),
  (3, .getfield 22, 3, 9, 0, [0]),
  (6, .iload_n 1, 1, 0, 0, []),
  (7, .iaload, 0, 0, 0, []),
  (8, .invokevirtual 67, 51, 2, 0, [9]),
  (11, .ireturn, 0, 0, 0, [])]
set_option maxRecDepth 100000 in
noncomputable def zc_X9_gainAt : List zE := [(0, .iload_n 2, 2, 0, 0, []),
  (1, .ifCond .lt 20, 11, 0, 0, []),
  (4, .iload_n 2, 2, 0, 0, []),
  (5, .aload_n 0, 0, 0, 0, []),
  (6, .getfield 36, 7, 9, 0, []),
  (9, .if_icmp .ge 12, 11, 0, 0, []),
  (12, .aload_n 0, 0, 0, 0, []),
  (13, .getfield 15, 1, 9, 0, [0]),
  (16, .iload_n 2, 2, 0, 0, []),
  (17, .baload, 0, 0, 0, []),
  (18, .ifCond .ne 5, 13, 0, 0, []),
  (21, .iconst 0, 0, 0, 0, []),
  (22, .ireturn, 0, 0, 0, []),
  (23, .aload_n 0, 0, 0, 0, []),
  (24, .iload_n 2, 2, 0, 0, []),
  (25, .invokevirtual 49, 46, 1, 0, [9]),
  (28, .istore_n 3, 3, 0, 0, []),
  (29, .aload_n 0, 0, 0, 0, []),
  (30, .getfield 33, 6, 9, 0, [0]),
  (33, .iload_n 3, 3, 0, 0, []),
  (34, .iaload, 0, 0, 0, []),
  (35, .aload_n 0, 0, 0, 0, []),
  (36, .iload_n 1, 1, 0, 0, []),
  (37, .invokevirtual 64, 47, 1, 0, [9]),
  (40, .iload_n 3, 3, 0, 0, []),
  (41, .if_icmp .ne 7, 28, 0, 0, []),
  (44, .iconst 1, 0, 0, 1, []),
  (45, .goto 4, 29, 0, 0, []),
  (48, .iconst 0, 0, 0, 0, []),
  (49, .isub, 0, 0, 0, []),
  (50, .istore 4, 4, 0, 0, []),
  (52, .iload 4, 4, 0, 0, []),
  (54, .ifCond .ne 12, 38, 0, 0, []),
  (57, .aload_n 0, 0, 0, 0, []),
  (58, .getfield 30, 5, 9, 0, [0]),
  (61, .iload_n 3, 3, 0, 0, []),
  (62, .iaload, 0, 0, 0, []),
  (63, .goto 4, 39, 0, 0, []),
  (66, .iconst 0, 0, 0, 0, []),
  (67, .ireturn, 0, 0, 0, [])]
set_option maxRecDepth 100000 in
noncomputable def zc_X9_gainOfOthers : List zE := [(0, .iconst 0, 0, 0, 0, []),
  (1, .istore_n 2, 2, 0, 0, []),
  (2, .iconst 0, 0, 0, 0, []),
  (3, .istore_n 3, 3, 0, 0, []),
  (4, .iload_n 3, 3, 0, 0, []),
  (5, .aload_n 0, 0, 0, 0, []),
  (6, .getfield 40, 8, 9, 0, []),
  (9, .if_icmp .ge 22, 19, 0, 0, []),
  (12, .iload_n 3, 3, 0, 0, []),
  (13, .iload_n 1, 1, 0, 0, []),
  (14, .if_icmp .eq 11, 17, 0, 0, []),
  (17, .iload_n 2, 2, 0, 0, []),
  (18, .aload_n 0, 0, 0, 0, []),
  (19, .iload_n 3, 3, 0, 0, []),
  (20, .invokevirtual 70, 50, 1, 0, [9]),
  (23, .iadd, 0, 0, 0, []),
  (24, .istore_n 2, 2, 0, 0, []),
  (25, .iinc 3 1, 3, 0, 1, []),
  (28, .goto (-24), 4, 0, 0, []),
  (31, .iload_n 2, 2, 0, 0, []),
  (32, .ireturn, 0, 0, 0, [])]
set_option maxRecDepth 100000 in
noncomputable def zc_X9_leftAt : List zE := [(0, .iload_n 2, 2, 0, 0, []),
  (1, .ifCond .lt 11, 6, 0, 0, []),
  (4, .iload_n 2, 2, 0, 0, []),
  (5, .aload_n 0, 0, 0, 0, []),
  (6, .getfield 36, 7, 9, 0, []),
  (9, .if_icmp .lt 5, 8, 0, 0, []),
  (12, .iconst 0, 0, 0, 0, []),
  (13, .ireturn, 0, 0, 0, []),
  (14, .aload_n 0, 0, 0, 0, []),
  (15, .iload_n 1, 1, 0, 0, []),
  (16, .iload_n 2, 2, 0, 0, []),
  (17, .invokevirtual 67, 51, 2, 0, [9]),
  (20, .aload_n 0, 0, 0, 0, []),
  (21, .getfield 27, 4, 9, 0, [0]),
  (24, .iload_n 1, 1, 0, 0, []),
  (25, .aaload, 0, 0, 0, []),
  (26, .iload_n 2, 2, 0, 0, []),
  (27, .iaload, 0, 0, 0, []),
  (28, .isub, 0, 0, 0, []),
  (29, .ireturn, 0, 0, 0, [])]
set_option maxRecDepth 100000 in
noncomputable def zc_X9_leftOfAll : List zE := [(0, .iconst 0, 0, 0, 0, []),
  (1, .istore_n 2, 2, 0, 0, []),
  (2, .iconst 0, 0, 0, 0, []),
  (3, .istore_n 3, 3, 0, 0, []),
  (4, .iload_n 3, 3, 0, 0, []),
  (5, .aload_n 0, 0, 0, 0, []),
  (6, .getfield 40, 8, 9, 0, []),
  (9, .if_icmp .ge 32, 27, 0, 0, []),
  (12, .iload_n 1, 1, 0, 0, []),
  (13, .iload_n 3, 3, 0, 0, []),
  (14, .ishr, 0, 0, 0, []),
  (15, .iconst 1, 0, 0, 1, []),
  (16, .iand, 0, 0, 0, []),
  (17, .iconst 1, 0, 0, 1, []),
  (18, .if_icmp .ne 17, 25, 0, 0, []),
  (21, .iload_n 2, 2, 0, 0, []),
  (22, .aload_n 0, 0, 0, 0, []),
  (23, .iload_n 3, 3, 0, 0, []),
  (24, .aload_n 0, 0, 0, 0, []),
  (25, .getfield 22, 3, 9, 0, [0]),
  (28, .iload_n 3, 3, 0, 0, []),
  (29, .iaload, 0, 0, 0, []),
  (30, .invokevirtual 73, 53, 2, 0, [9]),
  (33, .iadd, 0, 0, 0, []),
  (34, .istore_n 2, 2, 0, 0, []),
  (35, .iinc 3 1, 3, 0, 1, []),
  (38, .goto (-34), 4, 0, 0, []),
  (41, .iload_n 2, 2, 0, 0, []),
  (42, .ireturn, 0, 0, 0, [])]
set_option maxRecDepth 100000 in
noncomputable def zc_X9_bestPlaceOf : List zE := [(0, .iconst (-1), 0, 0, (-1), []),
  (1, .istore_n 2, 2, 0, 0, []),
  (2, .iconst 0, 0, 0, 0, []),
  (3, .istore_n 3, 3, 0, 0, []),
  (4, .iconst 0, 0, 0, 0, []),
  (5, .istore 4, 4, 0, 0, []),
  (7, .iload 4, 4, 0, 0, []),
  (9, .aload_n 0, 0, 0, 0, []),
  (10, .getfield 36, 7, 9, 0, []),
  (13, .if_icmp .ge 30, 24, 0, 0, []),
  (16, .aload_n 0, 0, 0, 0, []),
  (17, .iload_n 1, 1, 0, 0, []),
  (18, .iload 4, 4, 0, 0, []),
  (20, .invokevirtual 73, 53, 2, 0, [9]),
  (23, .istore 5, 5, 0, 0, []),
  (25, .iload 5, 5, 0, 0, []),
  (27, .iload_n 3, 3, 0, 0, []),
  (28, .if_icmp .le 9, 22, 0, 0, []),
  (31, .iload 5, 5, 0, 0, []),
  (33, .istore_n 3, 3, 0, 0, []),
  (34, .iload 4, 4, 0, 0, []),
  (36, .istore_n 2, 2, 0, 0, []),
  (37, .iinc 4 1, 4, 0, 1, []),
  (40, .goto (-33), 6, 0, 0, []),
  (43, .iload_n 2, 2, 0, 0, []),
  (44, .ireturn, 0, 0, 0, [])]
set_option maxRecDepth 100000 in
noncomputable def zc_X9_isAtRest : List zE := [(0, .iconst 0, 0, 0, 0, []),
  (1, .istore_n 1, 1, 0, 0, []),
  (2, .iload_n 1, 1, 0, 0, []),
  (3, .aload_n 0, 0, 0, 0, []),
  (4, .getfield 40, 8, 9, 0, []),
  (7, .if_icmp .ge 35, 24, 0, 0, []),
  (10, .aload_n 0, 0, 0, 0, []),
  (11, .iload_n 1, 1, 0, 0, []),
  (12, .aload_n 0, 0, 0, 0, []),
  (13, .getfield 22, 3, 9, 0, [0]),
  (16, .iload_n 1, 1, 0, 0, []),
  (17, .iaload, 0, 0, 0, []),
  (18, .invokevirtual 73, 53, 2, 0, [9]),
  (21, .aload_n 0, 0, 0, 0, []),
  (22, .iload_n 1, 1, 0, 0, []),
  (23, .aload_n 0, 0, 0, 0, []),
  (24, .iload_n 1, 1, 0, 0, []),
  (25, .invokevirtual 76, 55, 1, 0, [9]),
  (28, .invokevirtual 73, 53, 2, 0, [9]),
  (31, .if_icmp .ge 5, 22, 0, 0, []),
  (34, .iconst 0, 0, 0, 0, []),
  (35, .ireturn, 0, 0, 0, [2]),
  (36, .iinc 1 1, 1, 0, 1, []),
  (39, .goto (-37), 2, 0, 0, []),
  (42, .iconst 1, 0, 0, 1, []),
  (43, .ireturn, 0, 0, 0, [2])]
set_option maxRecDepth 100000 in
noncomputable def zc_X9_worthOfStanding : List zE := [(0, .iconst 0, 0, 0, 0, []),
  (1, .istore_n 2, 2, 0, 0, []),
  (2, .iconst 0, 0, 0, 0, []),
  (3, .istore_n 3, 3, 0, 0, []),
  (4, .iload_n 3, 3, 0, 0, []),
  (5, .aload_n 0, 0, 0, 0, []),
  (6, .getfield 36, 7, 9, 0, []),
  (9, .if_icmp .ge 40, 29, 0, 0, []),
  (12, .aload_n 0, 0, 0, 0, []),
  (13, .getfield 15, 1, 9, 0, [0]),
  (16, .iload_n 3, 3, 0, 0, []),
  (17, .baload, 0, 0, 0, []),
  (18, .ifCond .eq 25, 27, 0, 0, []),
  (21, .iload_n 1, 1, 0, 0, []),
  (22, .ifCond .eq 12, 20, 0, 0, []),
  (25, .aload_n 0, 0, 0, 0, []),
  (26, .iload_n 3, 3, 0, 0, []),
  (27, .invokevirtual 79, 49, 1, 0, [9]),
  (30, .iconst (-1), 0, 0, (-1), []),
  (31, .if_icmp .ne 12, 27, 0, 0, []),
  (34, .iload_n 2, 2, 0, 0, []),
  (35, .aload_n 0, 0, 0, 0, []),
  (36, .getfield 9, 0, 9, 0, [0]),
  (39, .iload_n 3, 3, 0, 0, []),
  (40, .iaload, 0, 0, 0, []),
  (41, .iadd, 0, 0, 0, []),
  (42, .istore_n 2, 2, 0, 0, []),
  (43, .iinc 3 1, 3, 0, 1, []),
  (46, .goto (-42), 4, 0, 0, []),
  (49, .iload_n 2, 2, 0, 0, []),
  (50, .ireturn, 0, 0, 0, [])]
set_option maxRecDepth 100000 in
noncomputable def zc_X9_dearestBut : List zE := [(0, .iconst (-1), 0, 0, (-1), []),
  (1, .istore_n 2, 2, 0, 0, []),
  (2, .iconst 0, 0, 0, 0, []),
  (3, .istore_n 3, 3, 0, 0, []),
  (4, .iload_n 3, 3, 0, 0, []),
  (5, .aload_n 0, 0, 0, 0, []),
  (6, .getfield 36, 7, 9, 0, []),
  (9, .if_icmp .ge 48, 35, 0, 0, []),
  (12, .aload_n 0, 0, 0, 0, []),
  (13, .getfield 15, 1, 9, 0, [0]),
  (16, .iload_n 3, 3, 0, 0, []),
  (17, .baload, 0, 0, 0, []),
  (18, .ifCond .eq 33, 33, 0, 0, []),
  (21, .iload_n 1, 1, 0, 0, []),
  (22, .iload_n 3, 3, 0, 0, []),
  (23, .ishr, 0, 0, 0, []),
  (24, .iconst 1, 0, 0, 1, []),
  (25, .iand, 0, 0, 0, []),
  (26, .ifCond .ne 25, 33, 0, 0, []),
  (29, .iload_n 2, 2, 0, 0, []),
  (30, .iconst (-1), 0, 0, (-1), []),
  (31, .if_icmp .eq 18, 31, 0, 0, []),
  (34, .aload_n 0, 0, 0, 0, []),
  (35, .getfield 9, 0, 9, 0, [0]),
  (38, .iload_n 3, 3, 0, 0, []),
  (39, .iaload, 0, 0, 0, []),
  (40, .aload_n 0, 0, 0, 0, []),
  (41, .getfield 9, 0, 9, 0, [0]),
  (44, .iload_n 2, 2, 0, 0, []),
  (45, .iaload, 0, 0, 0, []),
  (46, .if_icmp .le 5, 33, 0, 0, []),
  (49, .iload_n 3, 3, 0, 0, []),
  (50, .istore_n 2, 2, 0, 0, []),
  (51, .iinc 3 1, 3, 0, 1, []),
  (54, .goto (-50), 4, 0, 0, []),
  (57, .iload_n 2, 2, 0, 0, []),
  (58, .ireturn, 0, 0, 0, [])]
set_option maxRecDepth 100000 in
noncomputable def zc_X9_firstWay : List zE := [(0, .iconst 1, 0, 0, 1, []),
  (1, .istore_n 2, 2, 0, 0, []),
  (2, .iconst 0, 0, 0, 0, []),
  (3, .istore_n 3, 3, 0, 0, []),
  (4, .iload_n 3, 3, 0, 0, []),
  (5, .aload_n 0, 0, 0, 0, []),
  (6, .getfield 40, 8, 9, 0, []),
  (9, .if_icmp .ge 33, 28, 0, 0, []),
  (12, .iload_n 1, 1, 0, 0, []),
  (13, .iload_n 3, 3, 0, 0, []),
  (14, .ishr, 0, 0, 0, []),
  (15, .iconst 1, 0, 0, 1, []),
  (16, .iand, 0, 0, 0, []),
  (17, .iconst 1, 0, 0, 1, []),
  (18, .if_icmp .ne 18, 26, 0, 0, []),
  (21, .aload_n 0, 0, 0, 0, []),
  (22, .iload_n 3, 3, 0, 0, []),
  (23, .iconst (-1), 0, 0, (-1), []),
  (24, .invokevirtual 82, 48, 2, 0, [9]),
  (27, .iload_n 2, 2, 0, 0, []),
  (28, .aload_n 0, 0, 0, 0, []),
  (29, .getfield 36, 7, 9, 0, []),
  (32, .iconst 1, 0, 0, 1, []),
  (33, .iadd, 0, 0, 0, []),
  (34, .imul, 0, 0, 0, []),
  (35, .istore_n 2, 2, 0, 0, []),
  (36, .iinc 3 1, 3, 0, 1, []),
  (39, .goto (-35), 4, 0, 0, []),
  (42, .iload_n 2, 2, 0, 0, []),
  (43, .ireturn, 0, 0, 0, [])]
set_option maxRecDepth 100000 in
noncomputable def zc_X9_nextWay : List zE := [(0, .aload_n 0, 0, 0, 0, []),
  (1, .getfield 40, 8, 9, 0, []),
  (4, .iconst 1, 0, 0, 1, []),
  (5, .isub, 0, 0, 0, []),
  (6, .istore_n 2, 2, 0, 0, []),
  (7, .iload_n 2, 2, 0, 0, []),
  (8, .ifCond .lt 55, 39, 0, 0, []),
  (11, .iload_n 1, 1, 0, 0, []),
  (12, .iload_n 2, 2, 0, 0, []),
  (13, .ishr, 0, 0, 0, []),
  (14, .iconst 1, 0, 0, 1, []),
  (15, .iand, 0, 0, 0, []),
  (16, .ifCond .ne 6, 14, 0, 0, []),
  (19, .goto 38, 37, 0, 0, []),
  (22, .aload_n 0, 0, 0, 0, []),
  (23, .getfield 22, 3, 9, 0, [0]),
  (26, .iload_n 2, 2, 0, 0, []),
  (27, .iaload, 0, 0, 0, []),
  (28, .iconst 1, 0, 0, 1, []),
  (29, .iadd, 0, 0, 0, []),
  (30, .aload_n 0, 0, 0, 0, []),
  (31, .getfield 36, 7, 9, 0, []),
  (34, .if_icmp .ge 17, 33, 0, 0, []),
  (37, .aload_n 0, 0, 0, 0, []),
  (38, .iload_n 2, 2, 0, 0, []),
  (39, .aload_n 0, 0, 0, 0, []),
  (40, .getfield 22, 3, 9, 0, [0]),
  (43, .iload_n 2, 2, 0, 0, []),
  (44, .iaload, 0, 0, 0, []),
  (45, .iconst 1, 0, 0, 1, []),
  (46, .iadd, 0, 0, 0, []),
  (47, .invokevirtual 82, 48, 2, 0, [9]),
  (50, .return_, 0, 0, 0, []),
  (51, .aload_n 0, 0, 0, 0, []),
  (52, .iload_n 2, 2, 0, 0, []),
  (53, .iconst (-1), 0, 0, (-1), []),
  (54, .invokevirtual 82, 48, 2, 0, [9]),
  (57, .iinc 2 (-1), 2, 0, (-1), []),
  (60, .goto (-53), 5, 0, 0, []),
  (63, .return_, 0, 0, 0, [])]
set_option maxRecDepth 100000 in
noncomputable def zc_X9_digitsOf : List zE := [(0, .iconst 0, 0, 0, 0, []),
  (1, .istore_n 2, 2, 0, 0, []),
  (2, .iconst 0, 0, 0, 0, []),
  (3, .istore_n 3, 3, 0, 0, []),
  (4, .iload_n 3, 3, 0, 0, []),
  (5, .aload_n 0, 0, 0, 0, []),
  (6, .getfield 40, 8, 9, 0, []),
  (9, .if_icmp .ge 32, 28, 0, 0, []),
  (12, .iload_n 1, 1, 0, 0, []),
  (13, .iload_n 3, 3, 0, 0, []),
  (14, .ishr, 0, 0, 0, []),
  (15, .iconst 1, 0, 0, 1, []),
  (16, .iand, 0, 0, 0, []),
  (17, .iconst 1, 0, 0, 1, []),
  (18, .if_icmp .ne 17, 26, 0, 0, []),
  (21, .iload_n 2, 2, 0, 0, []),
  (22, .bipush 10, 0, 0, 10, []),
  (24, .imul, 0, 0, 0, []),
  (25, .aload_n 0, 0, 0, 0, []),
  (26, .getfield 22, 3, 9, 0, [0]),
  (29, .iload_n 3, 3, 0, 0, []),
  (30, .iaload, 0, 0, 0, []),
  (31, .iadd, 0, 0, 0, []),
  (32, .iconst 1, 0, 0, 1, []),
  (33, .iadd, 0, 0, 0, []),
  (34, .istore_n 2, 2, 0, 0, []),
  (35, .iinc 3 1, 3, 0, 1, []),
  (38, .goto (-34), 4, 0, 0, []),
  (41, .iload_n 2, 2, 0, 0, []),
  (42, .ireturn, 0, 0, 0, [])]
set_option maxRecDepth 100000 in
noncomputable def zc_X10_init : List zE := [(0, .aload_n 0, 0, 0, 0, []),
  (1, .iload_n 1, 1, 0, 0, []),
  (2, .iload_n 2, 2, 0, 0, []),
  (3, .iload_n 3, 3, 0, 0, []),
  (4, .iload 4, 4, 0, 0, []),
  (6, .invokespecial 1, 4, 4, 0, [2]),
  (9, .return_, 0, 0, 0, [])]
set_option maxRecDepth 100000 in
noncomputable def zc_X10_worthAt : List zE := [(0, .iconst 2, 0, 0, 2, []),
  (1, .aload_n 0, 0, 0, 0, []),
  (2, .iload_n 1, 1, 0, 0, []),
  (3, .iload_n 2, 2, 0, 0, []),
  (4, .invokespecial 7, 5, 2, 0, [2]),
  (7, .imul, 0, 0, 0, []),
  (8, .iconst 1, 0, 0, 1, []),
  (9, .iadd, 0, 0, 0, []),
  (10, .ireturn, 0, 0, 0, [])]
set_option maxRecDepth 100000 in
noncomputable def zc_X11_init : List zE := [(0, .aload_n 0, 0, 0, 0, []),
  (1, .invokespecial 1, 0, 0, 0, []),
  (4, .aload_n 0, 0, 0, 0, []),
  (5, .new 7, 1, 5, 0, []),
  (8, .dup, 0, 0, 0, []),
  (9, .invokespecial 9, 2, 0, 0, [1]),
  (12, .putfield 10, 0, 11, 0, [0]),
  (15, .aload_n 0, 0, 0, 0, []),
  (16, .new 7, 1, 5, 0, []),
  (19, .dup, 0, 0, 0, []),
  (20, .invokespecial 9, 2, 0, 0, [1]),
  (23, .putfield 16, 1, 11, 0, [0]),
  (26, .aload_n 0, 0, 0, 0, []),
  (27, .iconst 0, 0, 0, 0, []),
  (28, .putfield 19, 2, 11, 0, [2]),
  (31, .aload_n 0, 0, 0, 0, []),
  (32, .bipush 6, 0, 0, 6, []),
  (34, .anewarray 23, 23, 0, 0, []),
  (37, .putfield 25, 3, 11, 0, [0]),
  (40, .aload_n 0, 0, 0, 0, []),
  (41, .bipush 6, 0, 0, 6, []),
  (43, .anewarray 29, 24, 0, 0, []),
  (46, .putfield 31, 4, 11, 0, [0]),
  (49, .aload_n 0, 0, 0, 0, []),
  (50, .iconst 0, 0, 0, 0, []),
  (51, .putfield 35, 5, 11, 0, []),
  (54, .aload_n 0, 0, 0, 0, []),
  (55, .new 39, 7, 10, 0, []),
  (58, .dup, 0, 0, 0, []),
  (59, .invokespecial 41, 18, 0, 0, [7]),
  (62, .putfield 42, 6, 11, 0, [0]),
  (65, .aload_n 0, 0, 0, 0, []),
  (66, .iconst 4, 0, 0, 4, []),
  (67, .anewarray 46, 25, 0, 0, []),
  (70, .putfield 48, 7, 11, 0, [0]),
  (73, .aload_n 0, 0, 0, 0, []),
  (74, .new 52, 9, 9, 0, []),
  (77, .dup, 0, 0, 0, []),
  (78, .invokespecial 54, 42, 0, 0, [9]),
  (81, .putfield 55, 8, 11, 0, [0]),
  (84, .aload_n 0, 0, 0, 0, []),
  (85, .bipush 6, 0, 0, 6, []),
  (87, .newarray .int, 20, 0, 0, []),
  (89, .putfield 59, 9, 11, 0, [0]),
  (92, .aload_n 0, 0, 0, 0, []),
  (93, .sipush 160, 0, 0, 160, []),
  (96, .newarray .int, 20, 0, 0, []),
  (98, .putfield 63, 10, 11, 0, [0]),
  (101, .aload_n 0, 0, 0, 0, []),
  (102, .iconst 4, 0, 0, 4, []),
  (103, .newarray .int, 20, 0, 0, []),
  (105, .putfield 66, 11, 11, 0, [0]),
  (108, .aload_n 0, 0, 0, 0, []),
  (109, .iconst 4, 0, 0, 4, []),
  (110, .newarray .int, 20, 0, 0, []),
  (112, .putfield 69, 12, 11, 0, [0]),
  (115, .aload_n 0, 0, 0, 0, []),
  (116, .getfield 10, 0, 11, 0, [0]),
  (119, .getfield 72, 0, 1, 0, [0]),
  (122, .iconst 5, 0, 0, 5, []),
  (123, .invokestatic 75, 224, 2, 0, []),
  (126, .iconst 0, 0, 0, 0, []),
  (127, .istore_n 1, 1, 0, 0, []),
  (128, .iload_n 1, 1, 0, 0, []),
  (129, .iconst 4, 0, 0, 4, []),
  (130, .if_icmp .ge 22, 75, 0, 0, []),
  (133, .aload_n 0, 0, 0, 0, []),
  (134, .getfield 48, 7, 11, 0, [0]),
  (137, .iload_n 1, 1, 0, 0, []),
  (138, .new 46, 6, 3, 0, []),
  (141, .dup, 0, 0, 0, []),
  (142, .invokespecial 81, 14, 0, 0, [6]),
  (145, .aastore, 6, 25, 0, []),
  (146, .iinc 1 1, 1, 0, 1, []),
  (149, .goto (-21), 63, 0, 0, []),
  (152, .iconst 0, 0, 0, 0, []),
  (153, .istore_n 1, 1, 0, 0, []),
  (154, .iload_n 1, 1, 0, 0, []),
  (155, .ldc 82, 1000000, 1, 0, []),
  (157, .invokevirtual 84, 0, 0, 0, []),
  (160, .if_icmp .ge 22, 89, 0, 0, []),
  (163, .aload_n 0, 0, 0, 0, []),
  (164, .getfield 42, 6, 11, 0, [0]),
  (167, .ldc 82, 1000000, 1, 0, []),
  (169, .iload_n 1, 1, 0, 0, []),
  (170, .invokevirtual 90, 1, 0, 0, []),
  (173, .invokevirtual 94, 19, 1, 0, [7]),
  (176, .iinc 1 1, 1, 0, 1, []),
  (179, .goto (-25), 77, 0, 0, []),
  (182, .aload_n 0, 0, 0, 0, []),
  (183, .getfield 31, 4, 11, 0, [0]),
  (186, .iconst 0, 0, 0, 0, []),
  (187, .aload_n 0, 0, 0, 0, []),
  (188, .getfield 42, 6, 11, 0, [0]),
  (191, .invokevirtual 98, 21, 0, 0, [7]),
  (194, .aastore, 8, 24, 0, []),
  (195, .aload_n 0, 0, 0, 0, []),
  (196, .iconst 1, 0, 0, 1, []),
  (197, .putfield 35, 5, 11, 0, []),
  (200, .aload_n 0, 0, 0, 0, []),
  (201, .getfield 42, 6, 11, 0, [0]),
  (204, .invokevirtual 102, 20, 0, 0, [7]),
  (207, .return_, 0, 0, 0, [])]
set_option maxRecDepth 100000 in
noncomputable def zc_X11_tide : List zE := [(0, .iload_n 1, 1, 0, 0, []),
  (1, .invokestatic 105, 110, 1, 0, []),
  (4, .ifCond .ne 6, 5, 0, 0, []),
  (7, .bipush (-5), 0, 0, (-5), []),
  (9, .ireturn, 0, 0, 0, []),
  (10, .iload_n 2, 2, 0, 0, []),
  (11, .bipush 9, 0, 0, 9, []),
  (13, .invokestatic 109, 108, 2, 0, []),
  (16, .ifCond .ne 6, 11, 0, 0, []),
  (19, .bipush (-7), 0, 0, (-7), []),
  (21, .ireturn, 0, 0, 0, []),
  (22, .aload_n 0, 0, 0, 0, []),
  (23, .getfield 10, 0, 11, 0, [0]),
  (26, .getfield 72, 0, 1, 0, [0]),
  (29, .iload_n 1, 1, 0, 0, []),
  (30, .iaload, 0, 0, 0, []),
  (31, .istore_n 3, 3, 0, 0, []),
  (32, .aload_n 0, 0, 0, 0, []),
  (33, .getfield 10, 0, 11, 0, [0]),
  (36, .getfield 72, 0, 1, 0, [0]),
  (39, .iload_n 1, 1, 0, 0, []),
  (40, .iload_n 2, 2, 0, 0, []),
  (41, .iastore, 0, 0, 0, []),
  (42, .iload_n 3, 3, 0, 0, []),
  (43, .ireturn, 0, 0, 0, [])]
set_option maxRecDepth 100000 in
noncomputable def zc_X11_height : List zE := [(0, .iload_n 1, 1, 0, 0, []),
  (1, .invokestatic 105, 110, 1, 0, []),
  (4, .ifCond .eq 15, 9, 0, 0, []),
  (7, .aload_n 0, 0, 0, 0, []),
  (8, .getfield 10, 0, 11, 0, [0]),
  (11, .getfield 72, 0, 1, 0, [0]),
  (14, .iload_n 1, 1, 0, 0, []),
  (15, .iaload, 0, 0, 0, []),
  (16, .goto 5, 10, 0, 0, []),
  (19, .bipush (-5), 0, 0, (-5), []),
  (21, .ireturn, 0, 0, 0, [])]
set_option maxRecDepth 100000 in
noncomputable def zc_X11_come : List zE := [(0, .aload_n 0, 0, 0, 0, []),
  (1, .getfield 10, 0, 11, 0, [0]),
  (4, .getfield 113, 2, 1, 0, []),
  (7, .iconst 4, 0, 0, 4, []),
  (8, .if_icmp .lt 6, 7, 0, 0, []),
  (11, .bipush (-4), 0, 0, (-4), []),
  (13, .ireturn, 0, 0, 0, []),
  (14, .aload_n 0, 0, 0, 0, []),
  (15, .getfield 10, 0, 11, 0, [0]),
  (18, .getfield 116, 1, 1, 0, [0]),
  (21, .aload_n 0, 0, 0, 0, []),
  (22, .getfield 10, 0, 11, 0, [0]),
  (25, .getfield 113, 2, 1, 0, []),
  (28, .aaload, 0, 0, 0, []),
  (29, .iconst (-1), 0, 0, (-1), []),
  (30, .invokestatic 75, 224, 2, 0, []),
  (33, .aload_n 0, 0, 0, 0, []),
  (34, .getfield 10, 0, 11, 0, [0]),
  (37, .dup, 0, 0, 0, []),
  (38, .getfield 113, 2, 1, 0, []),
  (41, .iconst 1, 0, 0, 1, []),
  (42, .iadd, 0, 0, 0, []),
  (43, .putfield 113, 2, 1, 0, []),
  (46, .aload_n 0, 0, 0, 0, []),
  (47, .getfield 10, 0, 11, 0, [0]),
  (50, .getfield 113, 2, 1, 0, []),
  (53, .iconst 1, 0, 0, 1, []),
  (54, .isub, 0, 0, 0, []),
  (55, .ireturn, 0, 0, 0, [])]
set_option maxRecDepth 100000 in
noncomputable def zc_X11_go : List zE := [(0, .aload_n 0, 0, 0, 0, []),
  (1, .iload_n 1, 1, 0, 0, []),
  (2, .invokevirtual 120, 112, 1, 0, [11]),
  (5, .ifCond .eq 10, 7, 0, 0, []),
  (8, .iload_n 2, 2, 0, 0, []),
  (9, .invokestatic 105, 110, 1, 0, []),
  (12, .ifCond .ne 6, 9, 0, 0, []),
  (15, .bipush (-5), 0, 0, (-5), []),
  (17, .ireturn, 0, 0, 0, []),
  (18, .iload_n 3, 3, 0, 0, []),
  (19, .iconst (-1), 0, 0, (-1), []),
  (20, .if_icmp .eq 14, 18, 0, 0, []),
  (23, .aload_n 0, 0, 0, 0, []),
  (24, .iload_n 3, 3, 0, 0, []),
  (25, .invokevirtual 123, 113, 1, 0, [11]),
  (28, .ifCond .ne 6, 18, 0, 0, []),
  (31, .bipush (-7), 0, 0, (-7), []),
  (33, .ireturn, 0, 0, 0, []),
  (34, .aload_n 0, 0, 0, 0, []),
  (35, .getfield 10, 0, 11, 0, [0]),
  (38, .getfield 116, 1, 1, 0, [0]),
  (41, .iload_n 1, 1, 0, 0, []),
  (42, .aaload, 0, 0, 0, []),
  (43, .iload_n 2, 2, 0, 0, []),
  (44, .iaload, 0, 0, 0, []),
  (45, .istore 4, 4, 0, 0, []),
  (47, .aload_n 0, 0, 0, 0, []),
  (48, .getfield 10, 0, 11, 0, [0]),
  (51, .getfield 116, 1, 1, 0, [0]),
  (54, .iload_n 1, 1, 0, 0, []),
  (55, .aaload, 0, 0, 0, []),
  (56, .iload_n 2, 2, 0, 0, []),
  (57, .iload_n 3, 3, 0, 0, []),
  (58, .iastore, 0, 0, 0, []),
  (59, .iload 4, 4, 0, 0, []),
  (61, .ireturn, 0, 0, 0, [])]
set_option maxRecDepth 100000 in
noncomputable def zc_X11_at : List zE := [(0, .aload_n 0, 0, 0, 0, []),
  (1, .iload_n 1, 1, 0, 0, []),
  (2, .invokevirtual 120, 112, 1, 0, [11]),
  (5, .ifCond .eq 24, 15, 0, 0, []),
  (8, .iload_n 2, 2, 0, 0, []),
  (9, .invokestatic 105, 110, 1, 0, []),
  (12, .ifCond .eq 17, 15, 0, 0, []),
  (15, .aload_n 0, 0, 0, 0, []),
  (16, .getfield 10, 0, 11, 0, [0]),
  (19, .getfield 116, 1, 1, 0, [0]),
  (22, .iload_n 1, 1, 0, 0, []),
  (23, .aaload, 0, 0, 0, []),
  (24, .iload_n 2, 2, 0, 0, []),
  (25, .iaload, 0, 0, 0, []),
  (26, .goto 5, 16, 0, 0, []),
  (29, .bipush (-5), 0, 0, (-5), []),
  (31, .ireturn, 0, 0, 0, [])]
set_option maxRecDepth 100000 in
noncomputable def zc_X11_count : List zE := [(0, .iload_n 1, 1, 0, 0, []),
  (1, .tableswitch 72 0 4 #[35, 43, 51, 56, 64], 21, 35, 0, [2, 6, 10, 13, 17]),
  (36, .aload_n 0, 0, 0, 0, []),
  (37, .getfield 10, 0, 11, 0, [0]),
  (40, .getfield 126, 3, 1, 0, []),
  (43, .ireturn, 0, 0, 0, []),
  (44, .aload_n 0, 0, 0, 0, []),
  (45, .getfield 10, 0, 11, 0, [0]),
  (48, .getfield 113, 2, 1, 0, []),
  (51, .ireturn, 0, 0, 0, []),
  (52, .aload_n 0, 0, 0, 0, []),
  (53, .getfield 35, 5, 11, 0, []),
  (56, .ireturn, 0, 0, 0, []),
  (57, .aload_n 0, 0, 0, 0, []),
  (58, .getfield 10, 0, 11, 0, [0]),
  (61, .getfield 128, 4, 1, 0, []),
  (64, .ireturn, 0, 0, 0, []),
  (65, .aload_n 0, 0, 0, 0, []),
  (66, .getfield 42, 6, 11, 0, [0]),
  (69, .getfield 131, 1, 7, 0, []),
  (72, .ireturn, 0, 0, 0, []),
  (73, .bipush (-2), 0, 0, (-2), []),
  (75, .ireturn, 0, 0, 0, [])]
set_option maxRecDepth 100000 in
noncomputable def zc_X11_feed : List zE := [(0, .iload_n 1, 1, 0, 0, []),
  (1, .iconst 1, 0, 0, 1, []),
  (2, .if_icmp .lt 46, 21, 0, 0, []),
  (5, .iload_n 1, 1, 0, 0, []),
  (6, .iconst 5, 0, 0, 5, []),
  (7, .if_icmp .gt 41, 21, 0, 0, []),
  (10, .iload_n 2, 2, 0, 0, []),
  (11, .invokestatic 134, 109, 1, 0, []),
  (14, .ifCond .eq 34, 21, 0, 0, []),
  (17, .iload_n 3, 3, 0, 0, []),
  (18, .invokestatic 134, 109, 1, 0, []),
  (21, .ifCond .eq 27, 21, 0, 0, []),
  (24, .iload 4, 4, 0, 0, []),
  (26, .invokestatic 134, 109, 1, 0, []),
  (29, .ifCond .eq 19, 21, 0, 0, []),
  (32, .iload 5, 5, 0, 0, []),
  (34, .invokestatic 134, 109, 1, 0, []),
  (37, .ifCond .eq 11, 21, 0, 0, []),
  (40, .iload 6, 6, 0, 0, []),
  (42, .invokestatic 134, 109, 1, 0, []),
  (45, .ifCond .ne 6, 23, 0, 0, []),
  (48, .bipush (-2), 0, 0, (-2), []),
  (50, .ireturn, 0, 0, 0, []),
  (51, .aload_n 0, 0, 0, 0, []),
  (52, .getfield 42, 6, 11, 0, [0]),
  (55, .getfield 131, 1, 7, 0, []),
  (58, .iload_n 1, 1, 0, 0, []),
  (59, .iadd, 0, 0, 0, []),
  (60, .sipush 160, 0, 0, 160, []),
  (63, .if_icmp .le 6, 32, 0, 0, []),
  (66, .bipush (-4), 0, 0, (-4), []),
  (68, .ireturn, 0, 0, 0, []),
  (69, .iconst 0, 0, 0, 0, []),
  (70, .istore 7, 7, 0, 0, []),
  (72, .iload 7, 7, 0, 0, []),
  (74, .iload_n 1, 1, 0, 0, []),
  (75, .if_icmp .ge 59, 62, 0, 0, []),
  (78, .aload_n 0, 0, 0, 0, []),
  (79, .getfield 42, 6, 11, 0, [0]),
  (82, .iload 7, 7, 0, 0, []),
  (84, .ifCond .ne 7, 43, 0, 0, []),
  (87, .iload_n 2, 2, 0, 0, []),
  (88, .goto 37, 59, 0, 0, []),
  (91, .iload 7, 7, 0, 0, []),
  (93, .iconst 1, 0, 0, 1, []),
  (94, .if_icmp .ne 7, 48, 0, 0, []),
  (97, .iload_n 3, 3, 0, 0, []),
  (98, .goto 27, 59, 0, 0, []),
  (101, .iload 7, 7, 0, 0, []),
  (103, .iconst 2, 0, 0, 2, []),
  (104, .if_icmp .ne 8, 53, 0, 0, []),
  (107, .iload 4, 4, 0, 0, []),
  (109, .goto 16, 59, 0, 0, []),
  (112, .iload 7, 7, 0, 0, []),
  (114, .iconst 3, 0, 0, 3, []),
  (115, .if_icmp .ne 8, 58, 0, 0, []),
  (118, .iload 5, 5, 0, 0, []),
  (120, .goto 5, 59, 0, 0, []),
  (123, .iload 6, 6, 0, 0, []),
  (125, .invokevirtual 94, 19, 1, 0, [7]),
  (128, .iinc 7 1, 7, 0, 1, []),
  (131, .goto (-59), 34, 0, 0, []),
  (134, .aload_n 0, 0, 0, 0, []),
  (135, .getfield 42, 6, 11, 0, [0]),
  (138, .getfield 131, 1, 7, 0, []),
  (141, .ireturn, 0, 0, 0, [])]
set_option maxRecDepth 100000 in
noncomputable def zc_X11_text : List zE := [(0, .aload_n 0, 0, 0, 0, []),
  (1, .getfield 35, 5, 11, 0, []),
  (4, .bipush 6, 0, 0, 6, []),
  (6, .if_icmp .lt 6, 6, 0, 0, []),
  (9, .bipush (-4), 0, 0, (-4), []),
  (11, .ireturn, 0, 0, 0, []),
  (12, .aload_n 0, 0, 0, 0, []),
  (13, .getfield 42, 6, 11, 0, [0]),
  (16, .invokevirtual 98, 21, 0, 0, [7]),
  (19, .astore_n 1, 1, 0, 0, []),
  (20, .aload_n 0, 0, 0, 0, []),
  (21, .getfield 42, 6, 11, 0, [0]),
  (24, .invokevirtual 102, 20, 0, 0, [7]),
  (27, .aload_n 1, 1, 0, 0, []),
  (28, .ifnonnull 14, 21, 0, 0, []),
  (31, .bipush (-100), 0, 0, (-100), []),
  (33, .aload_n 0, 0, 0, 0, []),
  (34, .getfield 42, 6, 11, 0, [0]),
  (37, .getfield 137, 2, 7, 0, []),
  (40, .isub, 0, 0, 0, []),
  (41, .ireturn, 0, 0, 0, []),
  (42, .aload_n 0, 0, 0, 0, []),
  (43, .getfield 31, 4, 11, 0, [0]),
  (46, .aload_n 0, 0, 0, 0, []),
  (47, .getfield 35, 5, 11, 0, []),
  (50, .aload_n 1, 1, 0, 0, []),
  (51, .aastore, 8, 24, 0, []),
  (52, .aload_n 0, 0, 0, 0, []),
  (53, .dup, 0, 0, 0, []),
  (54, .getfield 35, 5, 11, 0, []),
  (57, .iconst 1, 0, 0, 1, []),
  (58, .iadd, 0, 0, 0, []),
  (59, .putfield 35, 5, 11, 0, []),
  (62, .aload_n 0, 0, 0, 0, []),
  (63, .getfield 35, 5, 11, 0, []),
  (66, .iconst 1, 0, 0, 1, []),
  (67, .isub, 0, 0, 0, []),
  (68, .ireturn, 0, 0, 0, [])]
set_option maxRecDepth 100000 in
noncomputable def zc_X11_force : List zE := [(0, .aload_n 0, 0, 0, 0, []),
  (1, .iload_n 1, 1, 0, 0, []),
  (2, .invokevirtual 140, 116, 1, 0, [11]),
  (5, .ifnonnull 6, 6, 0, 0, []),
  (8, .bipush (-2), 0, 0, (-2), []),
  (10, .ireturn, 0, 0, 0, []),
  (11, .aload_n 0, 0, 0, 0, []),
  (12, .getfield 10, 0, 11, 0, [0]),
  (15, .getfield 128, 4, 1, 0, []),
  (18, .istore_n 2, 2, 0, 0, []),
  (19, .aload_n 0, 0, 0, 0, []),
  (20, .getfield 10, 0, 11, 0, [0]),
  (23, .iload_n 1, 1, 0, 0, []),
  (24, .putfield 128, 4, 1, 0, []),
  (27, .iload_n 2, 2, 0, 0, []),
  (28, .ireturn, 0, 0, 0, [])]
set_option maxRecDepth 100000 in
noncomputable def zc_X11_asks : List zE := [(0, .iload_n 1, 1, 0, 0, []),
  (1, .iconst 2, 0, 0, 2, []),
  (2, .invokestatic 109, 108, 2, 0, []),
  (5, .ifCond .eq 41, 20, 0, 0, []),
  (8, .iload_n 2, 2, 0, 0, []),
  (9, .bipush 99, 0, 0, 99, []),
  (11, .invokestatic 109, 108, 2, 0, []),
  (14, .ifCond .eq 32, 20, 0, 0, []),
  (17, .iload_n 3, 3, 0, 0, []),
  (18, .bipush 99, 0, 0, 99, []),
  (20, .invokestatic 109, 108, 2, 0, []),
  (23, .ifCond .eq 23, 20, 0, 0, []),
  (26, .iload 4, 4, 0, 0, []),
  (28, .bipush 9, 0, 0, 9, []),
  (30, .invokestatic 109, 108, 2, 0, []),
  (33, .ifCond .eq 13, 20, 0, 0, []),
  (36, .iload 5, 5, 0, 0, []),
  (38, .bipush 119, 0, 0, 119, []),
  (40, .invokestatic 109, 108, 2, 0, []),
  (43, .ifCond .ne 6, 22, 0, 0, []),
  (46, .bipush (-2), 0, 0, (-2), []),
  (48, .ireturn, 0, 0, 0, []),
  (49, .aload_n 0, 0, 0, 0, []),
  (50, .iload_n 2, 2, 0, 0, []),
  (51, .iload_n 3, 3, 0, 0, []),
  (52, .bipush 10, 0, 0, 10, []),
  (54, .idiv, 0, 0, 0, []),
  (55, .iload_n 3, 3, 0, 0, []),
  (56, .bipush 10, 0, 0, 10, []),
  (58, .irem, 0, 0, 0, []),
  (59, .iload 4, 4, 0, 0, []),
  (61, .iload 5, 5, 0, 0, []),
  (63, .bipush 10, 0, 0, 10, []),
  (65, .idiv, 0, 0, 0, []),
  (66, .iload 5, 5, 0, 0, []),
  (68, .bipush 10, 0, 0, 10, []),
  (70, .irem, 0, 0, 0, []),
  (71, .invokevirtual 144, 120, 6, 0, [11]),
  (74, .aload_n 0, 0, 0, 0, []),
  (75, .aload_n 0, 0, 0, 0, []),
  (76, .invokevirtual 148, 117, 0, 0, [11]),
  (79, .iload_n 1, 1, 0, 0, []),
  (80, .invokevirtual 150, 121, 2, 0, [11]),
  (83, .ireturn, 0, 0, 0, [])]
set_option maxRecDepth 100000 in
noncomputable def zc_X11_island : List zE := [(0, .iload_n 1, 1, 0, 0, []),
  (1, .iconst 5, 0, 0, 5, []),
  (2, .invokestatic 109, 108, 2, 0, []),
  (5, .ifCond .eq 31, 16, 0, 0, []),
  (8, .iload_n 2, 2, 0, 0, []),
  (9, .bipush 99, 0, 0, 99, []),
  (11, .invokestatic 109, 108, 2, 0, []),
  (14, .ifCond .eq 22, 16, 0, 0, []),
  (17, .iload_n 3, 3, 0, 0, []),
  (18, .bipush 9, 0, 0, 9, []),
  (20, .invokestatic 109, 108, 2, 0, []),
  (23, .ifCond .eq 13, 16, 0, 0, []),
  (26, .iload 4, 4, 0, 0, []),
  (28, .bipush 9, 0, 0, 9, []),
  (30, .invokestatic 109, 108, 2, 0, []),
  (33, .ifCond .ne 6, 18, 0, 0, []),
  (36, .bipush (-2), 0, 0, (-2), []),
  (38, .ireturn, 0, 0, 0, []),
  (39, .aload_n 0, 0, 0, 0, []),
  (40, .getfield 10, 0, 11, 0, [0]),
  (43, .getfield 126, 3, 1, 0, []),
  (46, .bipush 6, 0, 0, 6, []),
  (48, .if_icmp .lt 6, 25, 0, 0, []),
  (51, .bipush (-4), 0, 0, (-4), []),
  (53, .ireturn, 0, 0, 0, []),
  (54, .aload_n 0, 0, 0, 0, []),
  (55, .getfield 25, 3, 11, 0, [0]),
  (58, .aload_n 0, 0, 0, 0, []),
  (59, .getfield 10, 0, 11, 0, [0]),
  (62, .getfield 126, 3, 1, 0, []),
  (65, .iload_n 1, 1, 0, 0, []),
  (66, .iload_n 2, 2, 0, 0, []),
  (67, .iload_n 3, 3, 0, 0, []),
  (68, .iload 4, 4, 0, 0, []),
  (70, .invokestatic 154, 133, 4, 0, []),
  (73, .aastore, 3, 23, 0, []),
  (74, .aload_n 0, 0, 0, 0, []),
  (75, .getfield 10, 0, 11, 0, [0]),
  (78, .dup, 0, 0, 0, []),
  (79, .getfield 126, 3, 1, 0, []),
  (82, .iconst 1, 0, 0, 1, []),
  (83, .iadd, 0, 0, 0, []),
  (84, .putfield 126, 3, 1, 0, []),
  (87, .aload_n 0, 0, 0, 0, []),
  (88, .getfield 10, 0, 11, 0, [0]),
  (91, .getfield 126, 3, 1, 0, []),
  (94, .iconst 1, 0, 0, 1, []),
  (95, .isub, 0, 0, 0, []),
  (96, .ireturn, 0, 0, 0, [])]
set_option maxRecDepth 100000 in
noncomputable def zc_X11_told : List zE := [(0, .aload_n 0, 0, 0, 0, []),
  (1, .iload_n 1, 1, 0, 0, []),
  (2, .invokevirtual 158, 115, 1, 0, [11]),
  (5, .astore_n 3, 3, 0, 0, []),
  (6, .aload_n 3, 3, 0, 0, []),
  (7, .ifnonnull 6, 8, 0, 0, []),
  (10, .bipush (-5), 0, 0, (-5), []),
  (12, .ireturn, 0, 0, 0, []),
  (13, .iload_n 2, 2, 0, 0, []),
  (14, .tableswitch 50 0 3 #[30, 35, 40, 45], 22, 30, 0, [10, 13, 16, 19]),
  (44, .aload_n 3, 3, 0, 0, []),
  (45, .getfield 162, 0, 3, 0, []),
  (48, .ireturn, 0, 0, 0, []),
  (49, .aload_n 3, 3, 0, 0, []),
  (50, .getfield 165, 1, 3, 0, []),
  (53, .ireturn, 0, 0, 0, []),
  (54, .aload_n 3, 3, 0, 0, []),
  (55, .getfield 168, 2, 3, 0, []),
  (58, .ireturn, 0, 0, 0, []),
  (59, .aload_n 3, 3, 0, 0, []),
  (60, .getfield 171, 3, 3, 0, []),
  (63, .ireturn, 0, 0, 0, []),
  (64, .bipush (-7), 0, 0, (-7), []),
  (66, .ireturn, 0, 0, 0, [])]
set_option maxRecDepth 100000 in
noncomputable def zc_X11_then : List zE := [(0, .aload_n 0, 0, 0, 0, []),
  (1, .iload_n 1, 1, 0, 0, []),
  (2, .invokevirtual 123, 113, 1, 0, [11]),
  (5, .ifCond .eq 10, 7, 0, 0, []),
  (8, .iload_n 2, 2, 0, 0, []),
  (9, .invokestatic 105, 110, 1, 0, []),
  (12, .ifCond .ne 6, 9, 0, 0, []),
  (15, .bipush (-5), 0, 0, (-5), []),
  (17, .ireturn, 0, 0, 0, []),
  (18, .iload_n 3, 3, 0, 0, []),
  (19, .iconst 2, 0, 0, 2, []),
  (20, .invokestatic 109, 108, 2, 0, []),
  (23, .ifCond .ne 6, 15, 0, 0, []),
  (26, .bipush (-7), 0, 0, (-7), []),
  (28, .ireturn, 0, 0, 0, []),
  (29, .aload_n 0, 0, 0, 0, []),
  (30, .iload_n 2, 2, 0, 0, []),
  (31, .aload_n 0, 0, 0, 0, []),
  (32, .invokevirtual 148, 117, 0, 0, [11]),
  (35, .invokevirtual 174, 125, 2, 0, [11]),
  (38, .iload_n 3, 3, 0, 0, []),
  (39, .ifCond .ne 13, 28, 0, 0, []),
  (42, .aload_n 0, 0, 0, 0, []),
  (43, .getfield 55, 8, 11, 0, [0]),
  (46, .getfield 178, 0, 9, 0, [0]),
  (49, .iload_n 1, 1, 0, 0, []),
  (50, .iaload, 0, 0, 0, []),
  (51, .ireturn, 0, 0, 0, []),
  (52, .iload_n 3, 3, 0, 0, []),
  (53, .iconst 1, 0, 0, 1, []),
  (54, .if_icmp .ne 23, 41, 0, 0, []),
  (57, .aload_n 0, 0, 0, 0, []),
  (58, .getfield 55, 8, 11, 0, [0]),
  (61, .getfield 181, 1, 9, 0, [0]),
  (64, .iload_n 1, 1, 0, 0, []),
  (65, .baload, 0, 0, 0, []),
  (66, .ifCond .eq 7, 39, 0, 0, []),
  (69, .iconst 1, 0, 0, 1, []),
  (70, .goto 16, 46, 0, 0, []),
  (73, .iconst 0, 0, 0, 0, []),
  (74, .goto 12, 46, 0, 0, []),
  (77, .aload_n 0, 0, 0, 0, []),
  (78, .getfield 55, 8, 11, 0, [0]),
  (81, .getfield 185, 2, 9, 0, [0]),
  (84, .iload_n 1, 1, 0, 0, []),
  (85, .iaload, 0, 0, 0, []),
  (86, .ireturn, 0, 0, 0, [])]
set_option maxRecDepth 100000 in
noncomputable def zc_X11_joined : List zE := [(0, .aload_n 0, 0, 0, 0, []),
  (1, .iload_n 1, 1, 0, 0, []),
  (2, .invokevirtual 123, 113, 1, 0, [11]),
  (5, .ifCond .eq 11, 8, 0, 0, []),
  (8, .aload_n 0, 0, 0, 0, []),
  (9, .iload_n 2, 2, 0, 0, []),
  (10, .invokevirtual 123, 113, 1, 0, [11]),
  (13, .ifCond .ne 6, 10, 0, 0, []),
  (16, .bipush (-5), 0, 0, (-5), []),
  (18, .ireturn, 0, 0, 0, []),
  (19, .iconst 0, 0, 0, 0, []),
  (20, .istore_n 3, 3, 0, 0, []),
  (21, .iconst 0, 0, 0, 0, []),
  (22, .istore 4, 4, 0, 0, []),
  (24, .iload 4, 4, 0, 0, []),
  (26, .bipush 12, 0, 0, 12, []),
  (28, .if_icmp .ge 43, 41, 0, 0, []),
  (31, .aload_n 0, 0, 0, 0, []),
  (32, .iload 4, 4, 0, 0, []),
  (34, .aload_n 0, 0, 0, 0, []),
  (35, .invokevirtual 148, 117, 0, 0, [11]),
  (38, .invokevirtual 174, 125, 2, 0, [11]),
  (41, .aload_n 0, 0, 0, 0, []),
  (42, .getfield 55, 8, 11, 0, [0]),
  (45, .getfield 185, 2, 9, 0, [0]),
  (48, .iload_n 1, 1, 0, 0, []),
  (49, .iaload, 0, 0, 0, []),
  (50, .iload_n 2, 2, 0, 0, []),
  (51, .ishr, 0, 0, 0, []),
  (52, .iconst 1, 0, 0, 1, []),
  (53, .iand, 0, 0, 0, []),
  (54, .iconst 1, 0, 0, 1, []),
  (55, .if_icmp .ne 10, 39, 0, 0, []),
  (58, .iload_n 3, 3, 0, 0, []),
  (59, .iconst 1, 0, 0, 1, []),
  (60, .iload 4, 4, 0, 0, []),
  (62, .ishl, 0, 0, 0, []),
  (63, .ior, 0, 0, 0, []),
  (64, .istore_n 3, 3, 0, 0, []),
  (65, .iinc 4 1, 4, 0, 1, []),
  (68, .goto (-44), 14, 0, 0, []),
  (71, .iload_n 3, 3, 0, 0, []),
  (72, .ireturn, 0, 0, 0, [])]
set_option maxRecDepth 100000 in
noncomputable def zc_X11_whose : List zE := [(0, .aload_n 0, 0, 0, 0, []),
  (1, .iload_n 1, 1, 0, 0, []),
  (2, .invokevirtual 123, 113, 1, 0, [11]),
  (5, .ifCond .eq 10, 7, 0, 0, []),
  (8, .iload_n 2, 2, 0, 0, []),
  (9, .invokestatic 105, 110, 1, 0, []),
  (12, .ifCond .ne 6, 9, 0, 0, []),
  (15, .bipush (-5), 0, 0, (-5), []),
  (17, .ireturn, 0, 0, 0, []),
  (18, .aload_n 0, 0, 0, 0, []),
  (19, .iload_n 2, 2, 0, 0, []),
  (20, .aload_n 0, 0, 0, 0, []),
  (21, .invokevirtual 148, 117, 0, 0, [11]),
  (24, .invokevirtual 174, 125, 2, 0, [11]),
  (27, .aload_n 0, 0, 0, 0, []),
  (28, .getfield 55, 8, 11, 0, [0]),
  (31, .iload_n 1, 1, 0, 0, []),
  (32, .invokevirtual 188, 49, 1, 0, [9]),
  (35, .ireturn, 0, 0, 0, [])]
set_option maxRecDepth 100000 in
noncomputable def zc_X11_gain : List zE := [(0, .aload_n 0, 0, 0, 0, []),
  (1, .iload_n 1, 1, 0, 0, []),
  (2, .invokevirtual 120, 112, 1, 0, [11]),
  (5, .ifCond .eq 10, 7, 0, 0, []),
  (8, .iload_n 2, 2, 0, 0, []),
  (9, .invokestatic 105, 110, 1, 0, []),
  (12, .ifCond .ne 6, 9, 0, 0, []),
  (15, .bipush (-5), 0, 0, (-5), []),
  (17, .ireturn, 0, 0, 0, []),
  (18, .aload_n 0, 0, 0, 0, []),
  (19, .iload_n 2, 2, 0, 0, []),
  (20, .aload_n 0, 0, 0, 0, []),
  (21, .invokevirtual 148, 117, 0, 0, [11]),
  (24, .invokevirtual 174, 125, 2, 0, [11]),
  (27, .aload_n 0, 0, 0, 0, []),
  (28, .getfield 55, 8, 11, 0, [0]),
  (31, .iload_n 1, 1, 0, 0, []),
  (32, .invokevirtual 192, 50, 1, 0, [9]),
  (35, .ireturn, 0, 0, 0, [])]
set_option maxRecDepth 100000 in
noncomputable def zc_X11_costs : List zE := [(0, .aload_n 0, 0, 0, 0, []),
  (1, .iload_n 1, 1, 0, 0, []),
  (2, .invokevirtual 120, 112, 1, 0, [11]),
  (5, .ifCond .eq 30, 19, 0, 0, []),
  (8, .iload_n 2, 2, 0, 0, []),
  (9, .invokestatic 105, 110, 1, 0, []),
  (12, .ifCond .eq 23, 19, 0, 0, []),
  (15, .aload_n 0, 0, 0, 0, []),
  (16, .iload_n 1, 1, 0, 0, []),
  (17, .iload_n 2, 2, 0, 0, []),
  (18, .aload_n 0, 0, 0, 0, []),
  (19, .getfield 10, 0, 11, 0, [0]),
  (22, .getfield 116, 1, 1, 0, [0]),
  (25, .iload_n 1, 1, 0, 0, []),
  (26, .aaload, 0, 0, 0, []),
  (27, .iload_n 2, 2, 0, 0, []),
  (28, .iaload, 0, 0, 0, []),
  (29, .invokevirtual 195, 123, 3, 0, [11]),
  (32, .goto 5, 20, 0, 0, []),
  (35, .bipush (-5), 0, 0, (-5), []),
  (37, .ireturn, 0, 0, 0, [])]
set_option maxRecDepth 100000 in
noncomputable def zc_X11_year : List zE := [(0, .aload_n 0, 0, 0, 0, []),
  (1, .iload_n 1, 1, 0, 0, []),
  (2, .invokevirtual 120, 112, 1, 0, [11]),
  (5, .ifCond .ne 6, 6, 0, 0, []),
  (8, .bipush (-5), 0, 0, (-5), []),
  (10, .ireturn, 0, 0, 0, []),
  (11, .iload_n 2, 2, 0, 0, []),
  (12, .iconst 2, 0, 0, 2, []),
  (13, .invokestatic 109, 108, 2, 0, []),
  (16, .ifCond .ne 6, 12, 0, 0, []),
  (19, .bipush (-7), 0, 0, (-7), []),
  (21, .ireturn, 0, 0, 0, []),
  (22, .iconst 0, 0, 0, 0, []),
  (23, .istore_n 3, 3, 0, 0, []),
  (24, .iconst 0, 0, 0, 0, []),
  (25, .istore 4, 4, 0, 0, []),
  (27, .iload 4, 4, 0, 0, []),
  (29, .bipush 12, 0, 0, 12, []),
  (31, .if_icmp .ge 79, 59, 0, 0, []),
  (34, .aload_n 0, 0, 0, 0, []),
  (35, .iload 4, 4, 0, 0, []),
  (37, .aload_n 0, 0, 0, 0, []),
  (38, .invokevirtual 148, 117, 0, 0, [11]),
  (41, .invokevirtual 174, 125, 2, 0, [11]),
  (44, .aload_n 0, 0, 0, 0, []),
  (45, .getfield 55, 8, 11, 0, [0]),
  (48, .iload_n 1, 1, 0, 0, []),
  (49, .invokevirtual 192, 50, 1, 0, [9]),
  (52, .istore 5, 5, 0, 0, []),
  (54, .iload_n 2, 2, 0, 0, []),
  (55, .ifCond .ne 11, 36, 0, 0, []),
  (58, .iload_n 3, 3, 0, 0, []),
  (59, .iload 5, 5, 0, 0, []),
  (61, .iadd, 0, 0, 0, []),
  (62, .istore_n 3, 3, 0, 0, []),
  (63, .goto 41, 57, 0, 0, []),
  (66, .iload_n 2, 2, 0, 0, []),
  (67, .iconst 1, 0, 0, 1, []),
  (68, .if_icmp .ne 28, 54, 0, 0, []),
  (71, .iload_n 3, 3, 0, 0, []),
  (72, .aload_n 0, 0, 0, 0, []),
  (73, .iload_n 1, 1, 0, 0, []),
  (74, .iload 4, 4, 0, 0, []),
  (76, .aload_n 0, 0, 0, 0, []),
  (77, .getfield 10, 0, 11, 0, [0]),
  (80, .getfield 116, 1, 1, 0, [0]),
  (83, .iload_n 1, 1, 0, 0, []),
  (84, .aaload, 0, 0, 0, []),
  (85, .iload 4, 4, 0, 0, []),
  (87, .iaload, 0, 0, 0, []),
  (88, .invokevirtual 195, 123, 3, 0, [11]),
  (91, .iadd, 0, 0, 0, []),
  (92, .istore_n 3, 3, 0, 0, []),
  (93, .goto 11, 57, 0, 0, []),
  (96, .iload 5, 5, 0, 0, []),
  (98, .ifCond .le 6, 57, 0, 0, []),
  (101, .iinc 3 1, 3, 0, 1, []),
  (104, .iinc 4 1, 4, 0, 1, []),
  (107, .goto (-80), 16, 0, 0, []),
  (110, .iload_n 3, 3, 0, 0, []),
  (111, .ireturn, 0, 0, 0, [])]
set_option maxRecDepth 100000 in
noncomputable def zc_X11_best : List zE := [(0, .aload_n 0, 0, 0, 0, []),
  (1, .iload_n 1, 1, 0, 0, []),
  (2, .invokevirtual 120, 112, 1, 0, [11]),
  (5, .ifCond .eq 10, 7, 0, 0, []),
  (8, .iload_n 2, 2, 0, 0, []),
  (9, .invokestatic 105, 110, 1, 0, []),
  (12, .ifCond .ne 6, 9, 0, 0, []),
  (15, .bipush (-5), 0, 0, (-5), []),
  (17, .ireturn, 0, 0, 0, []),
  (18, .iload_n 3, 3, 0, 0, []),
  (19, .iconst 1, 0, 0, 1, []),
  (20, .invokestatic 109, 108, 2, 0, []),
  (23, .ifCond .ne 6, 15, 0, 0, []),
  (26, .bipush (-7), 0, 0, (-7), []),
  (28, .ireturn, 0, 0, 0, []),
  (29, .aload_n 0, 0, 0, 0, []),
  (30, .iload_n 2, 2, 0, 0, []),
  (31, .invokevirtual 199, 126, 1, 0, [11]),
  (34, .aload_n 0, 0, 0, 0, []),
  (35, .getfield 55, 8, 11, 0, [0]),
  (38, .iload_n 1, 1, 0, 0, []),
  (39, .invokevirtual 202, 55, 1, 0, [9]),
  (42, .istore 4, 4, 0, 0, []),
  (44, .iload_n 3, 3, 0, 0, []),
  (45, .ifCond .ne 8, 27, 0, 0, []),
  (48, .iload 4, 4, 0, 0, []),
  (50, .goto 13, 32, 0, 0, []),
  (53, .aload_n 0, 0, 0, 0, []),
  (54, .getfield 55, 8, 11, 0, [0]),
  (57, .iload_n 1, 1, 0, 0, []),
  (58, .iload 4, 4, 0, 0, []),
  (60, .invokevirtual 205, 53, 2, 0, [9]),
  (63, .ireturn, 0, 0, 0, [])]
set_option maxRecDepth 100000 in
noncomputable def zc_X11_wise : List zE := [(0, .aload_n 0, 0, 0, 0, []),
  (1, .iload_n 1, 1, 0, 0, []),
  (2, .invokevirtual 120, 112, 1, 0, [11]),
  (5, .ifCond .ne 6, 6, 0, 0, []),
  (8, .bipush (-5), 0, 0, (-5), []),
  (10, .ireturn, 0, 0, 0, []),
  (11, .iconst 0, 0, 0, 0, []),
  (12, .istore_n 2, 2, 0, 0, []),
  (13, .iconst 0, 0, 0, 0, []),
  (14, .istore_n 3, 3, 0, 0, []),
  (15, .iload_n 3, 3, 0, 0, []),
  (16, .bipush 12, 0, 0, 12, []),
  (18, .if_icmp .ge 50, 39, 0, 0, []),
  (21, .aload_n 0, 0, 0, 0, []),
  (22, .iload_n 3, 3, 0, 0, []),
  (23, .invokevirtual 199, 126, 1, 0, [11]),
  (26, .aload_n 0, 0, 0, 0, []),
  (27, .getfield 55, 8, 11, 0, [0]),
  (30, .iload_n 1, 1, 0, 0, []),
  (31, .invokevirtual 202, 55, 1, 0, [9]),
  (34, .istore 4, 4, 0, 0, []),
  (36, .iload_n 2, 2, 0, 0, []),
  (37, .aload_n 0, 0, 0, 0, []),
  (38, .getfield 55, 8, 11, 0, [0]),
  (41, .iload_n 1, 1, 0, 0, []),
  (42, .iload 4, 4, 0, 0, []),
  (44, .invokevirtual 205, 53, 2, 0, [9]),
  (47, .iadd, 0, 0, 0, []),
  (48, .istore_n 2, 2, 0, 0, []),
  (49, .aload_n 0, 0, 0, 0, []),
  (50, .getfield 10, 0, 11, 0, [0]),
  (53, .getfield 116, 1, 1, 0, [0]),
  (56, .iload_n 1, 1, 0, 0, []),
  (57, .aaload, 0, 0, 0, []),
  (58, .iload_n 3, 3, 0, 0, []),
  (59, .iload 4, 4, 0, 0, []),
  (61, .iastore, 0, 0, 0, []),
  (62, .iinc 3 1, 3, 0, 1, []),
  (65, .goto (-50), 10, 0, 0, []),
  (68, .iload_n 2, 2, 0, 0, []),
  (69, .ireturn, 0, 0, 0, [])]
set_option maxRecDepth 100000 in
noncomputable def zc_X11_rest : List zE := [(0, .iload_n 1, 1, 0, 0, []),
  (1, .invokestatic 105, 110, 1, 0, []),
  (4, .ifCond .ne 6, 5, 0, 0, []),
  (7, .bipush (-5), 0, 0, (-5), []),
  (9, .ireturn, 0, 0, 0, []),
  (10, .aload_n 0, 0, 0, 0, []),
  (11, .iload_n 1, 1, 0, 0, []),
  (12, .invokevirtual 199, 126, 1, 0, [11]),
  (15, .aload_n 0, 0, 0, 0, []),
  (16, .getfield 55, 8, 11, 0, [0]),
  (19, .invokevirtual 209, 56, 0, 0, [9]),
  (22, .ifCond .eq 7, 14, 0, 0, []),
  (25, .iconst 1, 0, 0, 1, []),
  (26, .goto 4, 15, 0, 0, []),
  (29, .iconst 0, 0, 0, 0, []),
  (30, .ireturn, 0, 0, 0, [])]
set_option maxRecDepth 100000 in
noncomputable def zc_X11_ways : List zE := [(0, .iload_n 1, 1, 0, 0, []),
  (1, .invokestatic 105, 110, 1, 0, []),
  (4, .ifCond .ne 6, 5, 0, 0, []),
  (7, .bipush (-5), 0, 0, (-5), []),
  (9, .ireturn, 0, 0, 0, []),
  (10, .iload_n 2, 2, 0, 0, []),
  (11, .iconst 1, 0, 0, 1, []),
  (12, .invokestatic 109, 108, 2, 0, []),
  (15, .ifCond .ne 6, 11, 0, 0, []),
  (18, .bipush (-7), 0, 0, (-7), []),
  (20, .ireturn, 0, 0, 0, []),
  (21, .aload_n 0, 0, 0, 0, []),
  (22, .iload_n 1, 1, 0, 0, []),
  (23, .invokevirtual 199, 126, 1, 0, [11]),
  (26, .aload_n 0, 0, 0, 0, []),
  (27, .invokevirtual 213, 114, 0, 0, [11]),
  (30, .istore_n 3, 3, 0, 0, []),
  (31, .iconst 0, 0, 0, 0, []),
  (32, .istore 4, 4, 0, 0, []),
  (34, .iconst (-1), 0, 0, (-1), []),
  (35, .istore 5, 5, 0, 0, []),
  (37, .aload_n 0, 0, 0, 0, []),
  (38, .getfield 55, 8, 11, 0, [0]),
  (41, .iload_n 3, 3, 0, 0, []),
  (42, .invokevirtual 216, 59, 1, 0, [9]),
  (45, .istore 6, 6, 0, 0, []),
  (47, .iconst 0, 0, 0, 0, []),
  (48, .istore 7, 7, 0, 0, []),
  (50, .iload 7, 7, 0, 0, []),
  (52, .iload 6, 6, 0, 0, []),
  (54, .if_icmp .ge 50, 51, 0, 0, []),
  (57, .aload_n 0, 0, 0, 0, []),
  (58, .getfield 55, 8, 11, 0, [0]),
  (61, .invokevirtual 209, 56, 0, 0, [9]),
  (64, .ifCond .eq 26, 45, 0, 0, []),
  (67, .iinc 4 1, 4, 0, 1, []),
  (70, .iload 5, 5, 0, 0, []),
  (72, .ifCond .ge 14, 43, 0, 0, []),
  (75, .aload_n 0, 0, 0, 0, []),
  (76, .getfield 55, 8, 11, 0, [0]),
  (79, .iload_n 3, 3, 0, 0, []),
  (80, .invokevirtual 219, 61, 1, 0, [9]),
  (83, .goto 5, 44, 0, 0, []),
  (86, .iload 5, 5, 0, 0, []),
  (88, .istore 5, 5, 0, 0, []),
  (90, .aload_n 0, 0, 0, 0, []),
  (91, .getfield 55, 8, 11, 0, [0]),
  (94, .iload_n 3, 3, 0, 0, []),
  (95, .invokevirtual 222, 60, 1, 0, [9]),
  (98, .iinc 7 1, 7, 0, 1, []),
  (101, .goto (-51), 28, 0, 0, []),
  (104, .iload_n 2, 2, 0, 0, []),
  (105, .ifCond .ne 8, 55, 0, 0, []),
  (108, .iload 4, 4, 0, 0, []),
  (110, .goto 5, 56, 0, 0, []),
  (113, .iload 5, 5, 0, 0, []),
  (115, .ireturn, 0, 0, 0, [])]
set_option maxRecDepth 100000 in
noncomputable def zc_X11_family : List zE := [(0, .iload_n 1, 1, 0, 0, []),
  (1, .ifCond .lt 18, 9, 0, 0, []),
  (4, .iload_n 1, 1, 0, 0, []),
  (5, .aload_n 0, 0, 0, 0, []),
  (6, .invokevirtual 213, 114, 0, 0, [11]),
  (9, .if_icmp .gt 10, 9, 0, 0, []),
  (12, .iload_n 2, 2, 0, 0, []),
  (13, .invokestatic 105, 110, 1, 0, []),
  (16, .ifCond .ne 6, 11, 0, 0, []),
  (19, .bipush (-5), 0, 0, (-5), []),
  (21, .ireturn, 0, 0, 0, []),
  (22, .iload_n 3, 3, 0, 0, []),
  (23, .iconst 1, 0, 0, 1, []),
  (24, .invokestatic 109, 108, 2, 0, []),
  (27, .ifCond .ne 6, 17, 0, 0, []),
  (30, .bipush (-7), 0, 0, (-7), []),
  (32, .ireturn, 0, 0, 0, []),
  (33, .aload_n 0, 0, 0, 0, []),
  (34, .iload_n 2, 2, 0, 0, []),
  (35, .invokevirtual 199, 126, 1, 0, [11]),
  (38, .aload_n 0, 0, 0, 0, []),
  (39, .getfield 55, 8, 11, 0, [0]),
  (42, .iload_n 1, 1, 0, 0, []),
  (43, .invokevirtual 216, 59, 1, 0, [9]),
  (46, .istore 4, 4, 0, 0, []),
  (48, .aload_n 0, 0, 0, 0, []),
  (49, .getfield 55, 8, 11, 0, [0]),
  (52, .iload_n 1, 1, 0, 0, []),
  (53, .invokevirtual 225, 54, 1, 0, [9]),
  (56, .istore 5, 5, 0, 0, []),
  (58, .aload_n 0, 0, 0, 0, []),
  (59, .getfield 55, 8, 11, 0, [0]),
  (62, .iload_n 1, 1, 0, 0, []),
  (63, .invokevirtual 219, 61, 1, 0, [9]),
  (66, .istore 6, 6, 0, 0, []),
  (68, .iconst 1, 0, 0, 1, []),
  (69, .istore 7, 7, 0, 0, []),
  (71, .iload 7, 7, 0, 0, []),
  (73, .iload 4, 4, 0, 0, []),
  (75, .if_icmp .ge 48, 61, 0, 0, []),
  (78, .aload_n 0, 0, 0, 0, []),
  (79, .getfield 55, 8, 11, 0, [0]),
  (82, .iload_n 1, 1, 0, 0, []),
  (83, .invokevirtual 222, 60, 1, 0, [9]),
  (86, .aload_n 0, 0, 0, 0, []),
  (87, .getfield 55, 8, 11, 0, [0]),
  (90, .iload_n 1, 1, 0, 0, []),
  (91, .invokevirtual 225, 54, 1, 0, [9]),
  (94, .istore 8, 8, 0, 0, []),
  (96, .iload 8, 8, 0, 0, []),
  (98, .iload 5, 5, 0, 0, []),
  (100, .if_icmp .le 17, 59, 0, 0, []),
  (103, .iload 8, 8, 0, 0, []),
  (105, .istore 5, 5, 0, 0, []),
  (107, .aload_n 0, 0, 0, 0, []),
  (108, .getfield 55, 8, 11, 0, [0]),
  (111, .iload_n 1, 1, 0, 0, []),
  (112, .invokevirtual 219, 61, 1, 0, [9]),
  (115, .istore 6, 6, 0, 0, []),
  (117, .iinc 7 1, 7, 0, 1, []),
  (120, .goto (-49), 37, 0, 0, []),
  (123, .iload_n 3, 3, 0, 0, []),
  (124, .ifCond .ne 8, 65, 0, 0, []),
  (127, .iload 5, 5, 0, 0, []),
  (129, .goto 5, 66, 0, 0, []),
  (132, .iload 6, 6, 0, 0, []),
  (134, .ireturn, 0, 0, 0, [])]
set_option maxRecDepth 100000 in
noncomputable def zc_X11_spoil : List zE := [(0, .aload_n 0, 0, 0, 0, []),
  (1, .iload_n 1, 1, 0, 0, []),
  (2, .invokevirtual 120, 112, 1, 0, [11]),
  (5, .ifCond .eq 10, 7, 0, 0, []),
  (8, .iload_n 2, 2, 0, 0, []),
  (9, .invokestatic 105, 110, 1, 0, []),
  (12, .ifCond .ne 6, 9, 0, 0, []),
  (15, .bipush (-5), 0, 0, (-5), []),
  (17, .ireturn, 0, 0, 0, []),
  (18, .iload_n 3, 3, 0, 0, []),
  (19, .iconst 1, 0, 0, 1, []),
  (20, .invokestatic 109, 108, 2, 0, []),
  (23, .ifCond .ne 6, 15, 0, 0, []),
  (26, .bipush (-7), 0, 0, (-7), []),
  (28, .ireturn, 0, 0, 0, []),
  (29, .aload_n 0, 0, 0, 0, []),
  (30, .iload_n 2, 2, 0, 0, []),
  (31, .aload_n 0, 0, 0, 0, []),
  (32, .invokevirtual 148, 117, 0, 0, [11]),
  (35, .invokevirtual 174, 125, 2, 0, [11]),
  (38, .aload_n 0, 0, 0, 0, []),
  (39, .getfield 55, 8, 11, 0, [0]),
  (42, .iload_n 1, 1, 0, 0, []),
  (43, .iconst (-1), 0, 0, (-1), []),
  (44, .invokevirtual 228, 48, 2, 0, [9]),
  (47, .iconst (-1), 0, 0, (-1), []),
  (48, .istore 4, 4, 0, 0, []),
  (50, .aload_n 0, 0, 0, 0, []),
  (51, .getfield 55, 8, 11, 0, [0]),
  (54, .iload_n 1, 1, 0, 0, []),
  (55, .invokevirtual 232, 52, 1, 0, [9]),
  (58, .istore 5, 5, 0, 0, []),
  (60, .iconst 0, 0, 0, 0, []),
  (61, .istore 6, 6, 0, 0, []),
  (63, .iload 6, 6, 0, 0, []),
  (65, .aload_n 0, 0, 0, 0, []),
  (66, .getfield 10, 0, 11, 0, [0]),
  (69, .getfield 126, 3, 1, 0, []),
  (72, .if_icmp .ge 44, 58, 0, 0, []),
  (75, .aload_n 0, 0, 0, 0, []),
  (76, .getfield 55, 8, 11, 0, [0]),
  (79, .iload_n 1, 1, 0, 0, []),
  (80, .iload 6, 6, 0, 0, []),
  (82, .invokevirtual 228, 48, 2, 0, [9]),
  (85, .aload_n 0, 0, 0, 0, []),
  (86, .getfield 55, 8, 11, 0, [0]),
  (89, .iload_n 1, 1, 0, 0, []),
  (90, .invokevirtual 232, 52, 1, 0, [9]),
  (93, .istore 7, 7, 0, 0, []),
  (95, .iload 7, 7, 0, 0, []),
  (97, .iload 5, 5, 0, 0, []),
  (99, .if_icmp .ge 11, 56, 0, 0, []),
  (102, .iload 7, 7, 0, 0, []),
  (104, .istore 5, 5, 0, 0, []),
  (106, .iload 6, 6, 0, 0, []),
  (108, .istore 4, 4, 0, 0, []),
  (110, .iinc 6 1, 6, 0, 1, []),
  (113, .goto (-50), 34, 0, 0, []),
  (116, .iload_n 3, 3, 0, 0, []),
  (117, .ifCond .ne 8, 62, 0, 0, []),
  (120, .iload 4, 4, 0, 0, []),
  (122, .goto 5, 63, 0, 0, []),
  (125, .iload 5, 5, 0, 0, []),
  (127, .ireturn, 0, 0, 0, [])]
set_option maxRecDepth 100000 in
noncomputable def zc_X11_ransom : List zE := [(0, .aload_n 0, 0, 0, 0, []),
  (1, .iload_n 1, 1, 0, 0, []),
  (2, .invokevirtual 120, 112, 1, 0, [11]),
  (5, .ifCond .eq 23, 14, 0, 0, []),
  (8, .aload_n 0, 0, 0, 0, []),
  (9, .iload_n 2, 2, 0, 0, []),
  (10, .invokevirtual 120, 112, 1, 0, [11]),
  (13, .ifCond .eq 15, 14, 0, 0, []),
  (16, .iload_n 1, 1, 0, 0, []),
  (17, .iload_n 2, 2, 0, 0, []),
  (18, .if_icmp .eq 10, 14, 0, 0, []),
  (21, .iload_n 3, 3, 0, 0, []),
  (22, .invokestatic 105, 110, 1, 0, []),
  (25, .ifCond .ne 6, 16, 0, 0, []),
  (28, .bipush (-5), 0, 0, (-5), []),
  (30, .ireturn, 0, 0, 0, []),
  (31, .aload_n 0, 0, 0, 0, []),
  (32, .iload_n 3, 3, 0, 0, []),
  (33, .aload_n 0, 0, 0, 0, []),
  (34, .invokevirtual 148, 117, 0, 0, [11]),
  (37, .invokevirtual 174, 125, 2, 0, [11]),
  (40, .aload_n 0, 0, 0, 0, []),
  (41, .getfield 55, 8, 11, 0, [0]),
  (44, .iload_n 1, 1, 0, 0, []),
  (45, .invokevirtual 192, 50, 1, 0, [9]),
  (48, .istore 4, 4, 0, 0, []),
  (50, .aload_n 0, 0, 0, 0, []),
  (51, .getfield 55, 8, 11, 0, [0]),
  (54, .iload_n 2, 2, 0, 0, []),
  (55, .iconst (-1), 0, 0, (-1), []),
  (56, .invokevirtual 228, 48, 2, 0, [9]),
  (59, .aload_n 0, 0, 0, 0, []),
  (60, .getfield 55, 8, 11, 0, [0]),
  (63, .iload_n 1, 1, 0, 0, []),
  (64, .invokevirtual 192, 50, 1, 0, [9]),
  (67, .iload 4, 4, 0, 0, []),
  (69, .isub, 0, 0, 0, []),
  (70, .ireturn, 0, 0, 0, [])]
set_option maxRecDepth 100000 in
noncomputable def zc_X11_share : List zE := [(0, .aload_n 0, 0, 0, 0, []),
  (1, .iload_n 1, 1, 0, 0, []),
  (2, .invokevirtual 120, 112, 1, 0, [11]),
  (5, .ifCond .eq 18, 11, 0, 0, []),
  (8, .aload_n 0, 0, 0, 0, []),
  (9, .iload_n 3, 3, 0, 0, []),
  (10, .invokevirtual 120, 112, 1, 0, [11]),
  (13, .ifCond .eq 10, 11, 0, 0, []),
  (16, .iload_n 2, 2, 0, 0, []),
  (17, .invokestatic 105, 110, 1, 0, []),
  (20, .ifCond .ne 6, 13, 0, 0, []),
  (23, .bipush (-5), 0, 0, (-5), []),
  (25, .ireturn, 0, 0, 0, []),
  (26, .iload 4, 4, 0, 0, []),
  (28, .iconst 1, 0, 0, 1, []),
  (29, .invokestatic 109, 108, 2, 0, []),
  (32, .ifCond .ne 6, 19, 0, 0, []),
  (35, .bipush (-7), 0, 0, (-7), []),
  (37, .ireturn, 0, 0, 0, []),
  (38, .aload_n 0, 0, 0, 0, []),
  (39, .iload_n 2, 2, 0, 0, []),
  (40, .iload_n 3, 3, 0, 0, []),
  (41, .iload 4, 4, 0, 0, []),
  (43, .iconst 1, 0, 0, 1, []),
  (44, .if_icmp .ne 7, 27, 0, 0, []),
  (47, .iconst 1, 0, 0, 1, []),
  (48, .goto 4, 28, 0, 0, []),
  (51, .iconst 0, 0, 0, 0, []),
  (52, .invokevirtual 235, 131, 3, 0, [11]),
  (55, .aload_n 0, 0, 0, 0, []),
  (56, .getfield 69, 12, 11, 0, [0]),
  (59, .iload_n 1, 1, 0, 0, []),
  (60, .iaload, 0, 0, 0, []),
  (61, .ireturn, 0, 0, 0, [])]
set_option maxRecDepth 100000 in
noncomputable def zc_X11_unfair : List zE := [(0, .aload_n 0, 0, 0, 0, []),
  (1, .iload_n 2, 2, 0, 0, []),
  (2, .invokevirtual 120, 112, 1, 0, [11]),
  (5, .ifCond .eq 10, 7, 0, 0, []),
  (8, .iload_n 1, 1, 0, 0, []),
  (9, .invokestatic 105, 110, 1, 0, []),
  (12, .ifCond .ne 6, 9, 0, 0, []),
  (15, .bipush (-5), 0, 0, (-5), []),
  (17, .ireturn, 0, 0, 0, []),
  (18, .iload_n 3, 3, 0, 0, []),
  (19, .iconst 1, 0, 0, 1, []),
  (20, .invokestatic 109, 108, 2, 0, []),
  (23, .ifCond .ne 6, 15, 0, 0, []),
  (26, .bipush (-7), 0, 0, (-7), []),
  (28, .ireturn, 0, 0, 0, []),
  (29, .aload_n 0, 0, 0, 0, []),
  (30, .iload_n 1, 1, 0, 0, []),
  (31, .iload_n 2, 2, 0, 0, []),
  (32, .iload_n 3, 3, 0, 0, []),
  (33, .iconst 1, 0, 0, 1, []),
  (34, .if_icmp .ne 7, 23, 0, 0, []),
  (37, .iconst 1, 0, 0, 1, []),
  (38, .goto 4, 24, 0, 0, []),
  (41, .iconst 0, 0, 0, 0, []),
  (42, .invokevirtual 235, 131, 3, 0, [11]),
  (45, .aload_n 0, 0, 0, 0, []),
  (46, .getfield 69, 12, 11, 0, [0]),
  (49, .iconst 0, 0, 0, 0, []),
  (50, .iaload, 0, 0, 0, []),
  (51, .istore 4, 4, 0, 0, []),
  (53, .aload_n 0, 0, 0, 0, []),
  (54, .getfield 69, 12, 11, 0, [0]),
  (57, .iconst 0, 0, 0, 0, []),
  (58, .iaload, 0, 0, 0, []),
  (59, .istore 5, 5, 0, 0, []),
  (61, .iconst 1, 0, 0, 1, []),
  (62, .istore 6, 6, 0, 0, []),
  (64, .iload 6, 6, 0, 0, []),
  (66, .aload_n 0, 0, 0, 0, []),
  (67, .getfield 10, 0, 11, 0, [0]),
  (70, .getfield 113, 2, 1, 0, []),
  (73, .if_icmp .ge 37, 58, 0, 0, []),
  (76, .iload 4, 4, 0, 0, []),
  (78, .aload_n 0, 0, 0, 0, []),
  (79, .getfield 69, 12, 11, 0, [0]),
  (82, .iload 6, 6, 0, 0, []),
  (84, .iaload, 0, 0, 0, []),
  (85, .invokestatic 239, 0, 0, 0, [1]),
  (88, .istore 4, 4, 0, 0, []),
  (90, .iload 5, 5, 0, 0, []),
  (92, .aload_n 0, 0, 0, 0, []),
  (93, .getfield 69, 12, 11, 0, [0]),
  (96, .iload 6, 6, 0, 0, []),
  (98, .iaload, 0, 0, 0, []),
  (99, .invokestatic 244, 0, 0, 0, [2]),
  (102, .istore 5, 5, 0, 0, []),
  (104, .iinc 6 1, 6, 0, 1, []),
  (107, .goto (-43), 37, 0, 0, []),
  (110, .iload 5, 5, 0, 0, []),
  (112, .iload 4, 4, 0, 0, []),
  (114, .isub, 0, 0, 0, []),
  (115, .ireturn, 0, 0, 0, [])]
set_option maxRecDepth 100000 in
noncomputable def zc_X11_dear : List zE := [(0, .iload_n 1, 1, 0, 0, []),
  (1, .iconst 3, 0, 0, 3, []),
  (2, .invokestatic 109, 108, 2, 0, []),
  (5, .ifCond .ne 6, 6, 0, 0, []),
  (8, .bipush (-2), 0, 0, (-2), []),
  (10, .ireturn, 0, 0, 0, []),
  (11, .iconst 0, 0, 0, 0, []),
  (12, .istore_n 2, 2, 0, 0, []),
  (13, .iconst (-1), 0, 0, (-1), []),
  (14, .istore_n 3, 3, 0, 0, []),
  (15, .iconst 0, 0, 0, 0, []),
  (16, .istore 4, 4, 0, 0, []),
  (18, .iload 4, 4, 0, 0, []),
  (20, .bipush 12, 0, 0, 12, []),
  (22, .if_icmp .ge 50, 39, 0, 0, []),
  (25, .aload_n 0, 0, 0, 0, []),
  (26, .iload 4, 4, 0, 0, []),
  (28, .aload_n 0, 0, 0, 0, []),
  (29, .invokevirtual 148, 117, 0, 0, [11]),
  (32, .invokevirtual 174, 125, 2, 0, [11]),
  (35, .aload_n 0, 0, 0, 0, []),
  (36, .getfield 55, 8, 11, 0, [0]),
  (39, .iload_n 1, 1, 0, 0, []),
  (40, .iconst 2, 0, 0, 2, []),
  (41, .if_icmp .lt 7, 27, 0, 0, []),
  (44, .iconst 1, 0, 0, 1, []),
  (45, .goto 4, 28, 0, 0, []),
  (48, .iconst 0, 0, 0, 0, []),
  (49, .invokevirtual 247, 57, 1, 0, [9]),
  (52, .istore 5, 5, 0, 0, []),
  (54, .iload 5, 5, 0, 0, []),
  (56, .iload_n 3, 3, 0, 0, []),
  (57, .if_icmp .le 9, 37, 0, 0, []),
  (60, .iload 5, 5, 0, 0, []),
  (62, .istore_n 3, 3, 0, 0, []),
  (63, .iload 4, 4, 0, 0, []),
  (65, .istore_n 2, 2, 0, 0, []),
  (66, .iinc 4 1, 4, 0, 1, []),
  (69, .goto (-51), 12, 0, 0, []),
  (72, .iload_n 1, 1, 0, 0, []),
  (73, .iconst 2, 0, 0, 2, []),
  (74, .irem, 0, 0, 0, []),
  (75, .ifCond .ne 7, 45, 0, 0, []),
  (78, .iload_n 2, 2, 0, 0, []),
  (79, .goto 4, 46, 0, 0, []),
  (82, .iload_n 3, 3, 0, 0, []),
  (83, .ireturn, 0, 0, 0, [])]
set_option maxRecDepth 100000 in
noncomputable def zc_X11_holds : List zE := [(0, .aload_n 0, 0, 0, 0, []),
  (1, .iload_n 1, 1, 0, 0, []),
  (2, .invokevirtual 120, 112, 1, 0, [11]),
  (5, .ifCond .eq 11, 8, 0, 0, []),
  (8, .aload_n 0, 0, 0, 0, []),
  (9, .iload_n 2, 2, 0, 0, []),
  (10, .invokevirtual 123, 113, 1, 0, [11]),
  (13, .ifCond .ne 6, 10, 0, 0, []),
  (16, .bipush (-5), 0, 0, (-5), []),
  (18, .ireturn, 0, 0, 0, []),
  (19, .iload_n 3, 3, 0, 0, []),
  (20, .iconst 1, 0, 0, 1, []),
  (21, .invokestatic 109, 108, 2, 0, []),
  (24, .ifCond .ne 6, 16, 0, 0, []),
  (27, .bipush (-7), 0, 0, (-7), []),
  (29, .ireturn, 0, 0, 0, []),
  (30, .iconst 0, 0, 0, 0, []),
  (31, .istore 4, 4, 0, 0, []),
  (33, .iconst 0, 0, 0, 0, []),
  (34, .istore 5, 5, 0, 0, []),
  (36, .iconst (-1), 0, 0, (-1), []),
  (37, .istore 6, 6, 0, 0, []),
  (39, .iconst 0, 0, 0, 0, []),
  (40, .istore 7, 7, 0, 0, []),
  (42, .iload 7, 7, 0, 0, []),
  (44, .bipush 12, 0, 0, 12, []),
  (46, .if_icmp .ge 61, 57, 0, 0, []),
  (49, .aload_n 0, 0, 0, 0, []),
  (50, .iload 7, 7, 0, 0, []),
  (52, .aload_n 0, 0, 0, 0, []),
  (53, .invokevirtual 148, 117, 0, 0, [11]),
  (56, .invokevirtual 174, 125, 2, 0, [11]),
  (59, .aload_n 0, 0, 0, 0, []),
  (60, .getfield 55, 8, 11, 0, [0]),
  (63, .iload_n 2, 2, 0, 0, []),
  (64, .invokevirtual 188, 49, 1, 0, [9]),
  (67, .iload_n 1, 1, 0, 0, []),
  (68, .if_icmp .ne 10, 42, 0, 0, []),
  (71, .iload 4, 4, 0, 0, []),
  (73, .iconst 1, 0, 0, 1, []),
  (74, .iadd, 0, 0, 0, []),
  (75, .goto 4, 43, 0, 0, []),
  (78, .iconst 0, 0, 0, 0, []),
  (79, .istore 4, 4, 0, 0, []),
  (81, .iload 4, 4, 0, 0, []),
  (83, .iload 5, 5, 0, 0, []),
  (85, .if_icmp .le 16, 55, 0, 0, []),
  (88, .iload 4, 4, 0, 0, []),
  (90, .istore 5, 5, 0, 0, []),
  (92, .iload 7, 7, 0, 0, []),
  (94, .iconst 1, 0, 0, 1, []),
  (95, .iadd, 0, 0, 0, []),
  (96, .iload 4, 4, 0, 0, []),
  (98, .isub, 0, 0, 0, []),
  (99, .istore 6, 6, 0, 0, []),
  (101, .iinc 7 1, 7, 0, 1, []),
  (104, .goto (-62), 24, 0, 0, []),
  (107, .iload_n 3, 3, 0, 0, []),
  (108, .ifCond .ne 8, 61, 0, 0, []),
  (111, .iload 5, 5, 0, 0, []),
  (113, .goto 5, 62, 0, 0, []),
  (116, .iload 6, 6, 0, 0, []),
  (118, .ireturn, 0, 0, 0, [])]
set_option maxRecDepth 100000 in
noncomputable def zc_X11_judge : List zE := [(0, .aload_n 0, 0, 0, 0, []),
  (1, .iload_n 1, 1, 0, 0, []),
  (2, .invokevirtual 251, 119, 1, 0, [11]),
  (5, .istore_n 3, 3, 0, 0, []),
  (6, .iload_n 3, 3, 0, 0, []),
  (7, .ifCond .eq 5, 8, 0, 0, []),
  (10, .iload_n 3, 3, 0, 0, []),
  (11, .ireturn, 0, 0, 0, []),
  (12, .iload_n 2, 2, 0, 0, []),
  (13, .invokestatic 105, 110, 1, 0, []),
  (16, .ifCond .ne 6, 13, 0, 0, []),
  (19, .bipush (-5), 0, 0, (-5), []),
  (21, .ireturn, 0, 0, 0, []),
  (22, .aload_n 0, 0, 0, 0, []),
  (23, .iload_n 2, 2, 0, 0, []),
  (24, .aload_n 0, 0, 0, 0, []),
  (25, .invokevirtual 148, 117, 0, 0, [11]),
  (28, .invokevirtual 174, 125, 2, 0, [11]),
  (31, .aload_n 0, 0, 0, 0, []),
  (32, .aload_n 0, 0, 0, 0, []),
  (33, .getfield 48, 7, 11, 0, [0]),
  (36, .iload_n 1, 1, 0, 0, []),
  (37, .aaload, 0, 0, 0, []),
  (38, .invokevirtual 254, 132, 1, 0, [11]),
  (41, .ireturn, 0, 0, 0, [])]
set_option maxRecDepth 100000 in
noncomputable def zc_X11_when : List zE := [(0, .aload_n 0, 0, 0, 0, []),
  (1, .iload_n 1, 1, 0, 0, []),
  (2, .invokevirtual 251, 119, 1, 0, [11]),
  (5, .istore_n 2, 2, 0, 0, []),
  (6, .iload_n 2, 2, 0, 0, []),
  (7, .ifCond .eq 5, 8, 0, 0, []),
  (10, .iload_n 2, 2, 0, 0, []),
  (11, .ireturn, 0, 0, 0, []),
  (12, .iconst 0, 0, 0, 0, []),
  (13, .istore_n 3, 3, 0, 0, []),
  (14, .iconst 0, 0, 0, 0, []),
  (15, .istore 4, 4, 0, 0, []),
  (17, .iload 4, 4, 0, 0, []),
  (19, .bipush 12, 0, 0, 12, []),
  (21, .if_icmp .ge 40, 36, 0, 0, []),
  (24, .aload_n 0, 0, 0, 0, []),
  (25, .iload 4, 4, 0, 0, []),
  (27, .aload_n 0, 0, 0, 0, []),
  (28, .invokevirtual 148, 117, 0, 0, [11]),
  (31, .invokevirtual 174, 125, 2, 0, [11]),
  (34, .aload_n 0, 0, 0, 0, []),
  (35, .aload_n 0, 0, 0, 0, []),
  (36, .getfield 48, 7, 11, 0, [0]),
  (39, .iload_n 1, 1, 0, 0, []),
  (40, .aaload, 0, 0, 0, []),
  (41, .invokevirtual 254, 132, 1, 0, [11]),
  (44, .iconst (-1), 0, 0, (-1), []),
  (45, .if_icmp .ne 10, 34, 0, 0, []),
  (48, .iload_n 3, 3, 0, 0, []),
  (49, .iconst 1, 0, 0, 1, []),
  (50, .iload 4, 4, 0, 0, []),
  (52, .ishl, 0, 0, 0, []),
  (53, .ior, 0, 0, 0, []),
  (54, .istore_n 3, 3, 0, 0, []),
  (55, .iinc 4 1, 4, 0, 1, []),
  (58, .goto (-41), 12, 0, 0, []),
  (61, .iload_n 3, 3, 0, 0, []),
  (62, .ireturn, 0, 0, 0, [])]
set_option maxRecDepth 100000 in
noncomputable def zc_X11_were : List zE := [(0, .aload_n 0, 0, 0, 0, []),
  (1, .iload_n 1, 1, 0, 0, []),
  (2, .invokevirtual 251, 119, 1, 0, [11]),
  (5, .istore 5, 5, 0, 0, []),
  (7, .iload 5, 5, 0, 0, []),
  (9, .ifCond .eq 6, 8, 0, 0, []),
  (12, .iload 5, 5, 0, 0, []),
  (14, .ireturn, 0, 0, 0, []),
  (15, .iload_n 2, 2, 0, 0, []),
  (16, .invokestatic 105, 110, 1, 0, []),
  (19, .ifCond .eq 11, 15, 0, 0, []),
  (22, .aload_n 0, 0, 0, 0, []),
  (23, .iload_n 3, 3, 0, 0, []),
  (24, .invokevirtual 120, 112, 1, 0, [11]),
  (27, .ifCond .ne 6, 17, 0, 0, []),
  (30, .bipush (-5), 0, 0, (-5), []),
  (32, .ireturn, 0, 0, 0, []),
  (33, .iload 4, 4, 0, 0, []),
  (35, .iconst 1, 0, 0, 1, []),
  (36, .invokestatic 109, 108, 2, 0, []),
  (39, .ifCond .ne 6, 23, 0, 0, []),
  (42, .bipush (-7), 0, 0, (-7), []),
  (44, .ireturn, 0, 0, 0, []),
  (45, .aload_n 0, 0, 0, 0, []),
  (46, .iload_n 2, 2, 0, 0, []),
  (47, .aload_n 0, 0, 0, 0, []),
  (48, .invokevirtual 148, 117, 0, 0, [11]),
  (51, .invokevirtual 174, 125, 2, 0, [11]),
  (54, .aload_n 0, 0, 0, 0, []),
  (55, .invokevirtual 213, 114, 0, 0, [11]),
  (58, .istore 6, 6, 0, 0, []),
  (60, .iconst 0, 0, 0, 0, []),
  (61, .istore 7, 7, 0, 0, []),
  (63, .iconst 0, 0, 0, 0, []),
  (64, .istore 8, 8, 0, 0, []),
  (66, .aload_n 0, 0, 0, 0, []),
  (67, .getfield 55, 8, 11, 0, [0]),
  (70, .iload 6, 6, 0, 0, []),
  (72, .invokevirtual 216, 59, 1, 0, [9]),
  (75, .istore 9, 9, 0, 0, []),
  (77, .iconst 0, 0, 0, 0, []),
  (78, .istore 10, 10, 0, 0, []),
  (80, .iload 10, 10, 0, 0, []),
  (82, .iload 9, 9, 0, 0, []),
  (84, .if_icmp .ge 53, 72, 0, 0, []),
  (87, .aload_n 0, 0, 0, 0, []),
  (88, .aload_n 0, 0, 0, 0, []),
  (89, .getfield 48, 7, 11, 0, [0]),
  (92, .iload_n 1, 1, 0, 0, []),
  (93, .aaload, 0, 0, 0, []),
  (94, .invokevirtual 254, 132, 1, 0, [11]),
  (97, .iconst (-1), 0, 0, (-1), []),
  (98, .if_icmp .ne 24, 66, 0, 0, []),
  (101, .iinc 7 1, 7, 0, 1, []),
  (104, .iload 8, 8, 0, 0, []),
  (106, .iconst 1, 0, 0, 1, []),
  (107, .aload_n 0, 0, 0, 0, []),
  (108, .getfield 55, 8, 11, 0, [0]),
  (111, .getfield 258, 3, 9, 0, [0]),
  (114, .iload_n 3, 3, 0, 0, []),
  (115, .iaload, 0, 0, 0, []),
  (116, .iconst 1, 0, 0, 1, []),
  (117, .iadd, 0, 0, 0, []),
  (118, .ishl, 0, 0, 0, []),
  (119, .ior, 0, 0, 0, []),
  (120, .istore 8, 8, 0, 0, []),
  (122, .aload_n 0, 0, 0, 0, []),
  (123, .getfield 55, 8, 11, 0, [0]),
  (126, .iload 6, 6, 0, 0, []),
  (128, .invokevirtual 222, 60, 1, 0, [9]),
  (131, .iinc 10 1, 10, 0, 1, []),
  (134, .goto (-54), 42, 0, 0, []),
  (137, .iload 4, 4, 0, 0, []),
  (139, .ifCond .ne 8, 76, 0, 0, []),
  (142, .iload 7, 7, 0, 0, []),
  (144, .goto 5, 77, 0, 0, []),
  (147, .iload 8, 8, 0, 0, []),
  (149, .ireturn, 0, 0, 0, [])]
set_option maxRecDepth 100000 in
noncomputable def zc_X11_film : List zE := [(0, .iload_n 1, 1, 0, 0, []),
  (1, .invokestatic 261, 111, 1, 0, []),
  (4, .ifCond .ne 6, 5, 0, 0, []),
  (7, .bipush (-2), 0, 0, (-2), []),
  (9, .ireturn, 0, 0, 0, []),
  (10, .iload_n 2, 2, 0, 0, []),
  (11, .invokestatic 105, 110, 1, 0, []),
  (14, .ifCond .ne 6, 10, 0, 0, []),
  (17, .bipush (-5), 0, 0, (-5), []),
  (19, .ireturn, 0, 0, 0, []),
  (20, .aload_n 0, 0, 0, 0, []),
  (21, .iload_n 2, 2, 0, 0, []),
  (22, .aload_n 0, 0, 0, 0, []),
  (23, .invokevirtual 148, 117, 0, 0, [11]),
  (26, .invokevirtual 174, 125, 2, 0, [11]),
  (29, .aload_n 0, 0, 0, 0, []),
  (30, .getfield 48, 7, 11, 0, [0]),
  (33, .iload_n 1, 1, 0, 0, []),
  (34, .aaload, 0, 0, 0, []),
  (35, .astore_n 3, 3, 0, 0, []),
  (36, .aload_n 3, 3, 0, 0, []),
  (37, .iconst 2, 0, 0, 2, []),
  (38, .aload_n 0, 0, 0, 0, []),
  (39, .getfield 10, 0, 11, 0, [0]),
  (42, .getfield 126, 3, 1, 0, []),
  (45, .invokevirtual 264, 15, 2, 0, [6]),
  (48, .iconst 0, 0, 0, 0, []),
  (49, .istore 4, 4, 0, 0, []),
  (51, .iload 4, 4, 0, 0, []),
  (53, .aload_n 0, 0, 0, 0, []),
  (54, .getfield 10, 0, 11, 0, [0]),
  (57, .getfield 126, 3, 1, 0, []),
  (60, .if_icmp .ge 24, 42, 0, 0, []),
  (63, .aload_n 3, 3, 0, 0, []),
  (64, .iload 4, 4, 0, 0, []),
  (66, .aload_n 0, 0, 0, 0, []),
  (67, .getfield 55, 8, 11, 0, [0]),
  (70, .iload 4, 4, 0, 0, []),
  (72, .invokevirtual 188, 49, 1, 0, [9]),
  (75, .invokevirtual 267, 16, 2, 0, [6]),
  (78, .iinc 4 1, 4, 0, 1, []),
  (81, .goto (-30), 28, 0, 0, []),
  (84, .aload_n 0, 0, 0, 0, []),
  (85, .getfield 10, 0, 11, 0, [0]),
  (88, .getfield 126, 3, 1, 0, []),
  (91, .ireturn, 0, 0, 0, [])]
set_option maxRecDepth 100000 in
noncomputable def zc_X11_laws : List zE := [(0, .aload_n 0, 0, 0, 0, []),
  (1, .iload_n 1, 1, 0, 0, []),
  (2, .invokevirtual 120, 112, 1, 0, [11]),
  (5, .ifCond .eq 10, 7, 0, 0, []),
  (8, .iload_n 2, 2, 0, 0, []),
  (9, .invokestatic 105, 110, 1, 0, []),
  (12, .ifCond .ne 6, 9, 0, 0, []),
  (15, .bipush (-5), 0, 0, (-5), []),
  (17, .ireturn, 0, 0, 0, []),
  (18, .iload_n 3, 3, 0, 0, []),
  (19, .ldc_w 268, 0, 0, 99999, []),
  (22, .invokestatic 109, 108, 2, 0, []),
  (25, .ifCond .ne 6, 15, 0, 0, []),
  (28, .bipush (-7), 0, 0, (-7), []),
  (30, .ireturn, 0, 0, 0, []),
  (31, .iconst 0, 0, 0, 0, []),
  (32, .istore 4, 4, 0, 0, []),
  (34, .iconst 0, 0, 0, 0, []),
  (35, .istore 5, 5, 0, 0, []),
  (37, .iload 5, 5, 0, 0, []),
  (39, .aload_n 0, 0, 0, 0, []),
  (40, .getfield 35, 5, 11, 0, []),
  (43, .if_icmp .ge 41, 43, 0, 0, []),
  (46, .aload_n 0, 0, 0, 0, []),
  (47, .iload_n 2, 2, 0, 0, []),
  (48, .aload_n 0, 0, 0, 0, []),
  (49, .iload 5, 5, 0, 0, []),
  (51, .invokevirtual 140, 116, 1, 0, [11]),
  (54, .invokevirtual 174, 125, 2, 0, [11]),
  (57, .aload_n 0, 0, 0, 0, []),
  (58, .getfield 55, 8, 11, 0, [0]),
  (61, .iload_n 1, 1, 0, 0, []),
  (62, .invokevirtual 192, 50, 1, 0, [9]),
  (65, .iload_n 3, 3, 0, 0, []),
  (66, .if_icmp .ne 12, 41, 0, 0, []),
  (69, .iload 4, 4, 0, 0, []),
  (71, .iconst 1, 0, 0, 1, []),
  (72, .iload 5, 5, 0, 0, []),
  (74, .ishl, 0, 0, 0, []),
  (75, .ior, 0, 0, 0, []),
  (76, .istore 4, 4, 0, 0, []),
  (78, .iinc 5 1, 5, 0, 1, []),
  (81, .goto (-44), 19, 0, 0, []),
  (84, .iload 4, 4, 0, 0, []),
  (86, .ireturn, 0, 0, 0, [])]
set_option maxRecDepth 100000 in
noncomputable def zc_X11_drawn : List zE := [(0, .aload_n 0, 0, 0, 0, []),
  (1, .iload_n 2, 2, 0, 0, []),
  (2, .invokevirtual 120, 112, 1, 0, [11]),
  (5, .ifCond .eq 10, 7, 0, 0, []),
  (8, .iload_n 3, 3, 0, 0, []),
  (9, .invokestatic 105, 110, 1, 0, []),
  (12, .ifCond .ne 6, 9, 0, 0, []),
  (15, .bipush (-5), 0, 0, (-5), []),
  (17, .ireturn, 0, 0, 0, []),
  (18, .iload_n 1, 1, 0, 0, []),
  (19, .ldc_w 268, 0, 0, 99999, []),
  (22, .invokestatic 109, 108, 2, 0, []),
  (25, .ifCond .eq 12, 17, 0, 0, []),
  (28, .iload 4, 4, 0, 0, []),
  (30, .iconst 1, 0, 0, 1, []),
  (31, .invokestatic 109, 108, 2, 0, []),
  (34, .ifCond .ne 6, 19, 0, 0, []),
  (37, .bipush (-7), 0, 0, (-7), []),
  (39, .ireturn, 0, 0, 0, []),
  (40, .aload_n 0, 0, 0, 0, []),
  (41, .iload_n 3, 3, 0, 0, []),
  (42, .invokevirtual 269, 127, 1, 0, [11]),
  (45, .iload 4, 4, 0, 0, []),
  (47, .ifCond .ne 11, 28, 0, 0, []),
  (50, .aload_n 0, 0, 0, 0, []),
  (51, .iload_n 1, 1, 0, 0, []),
  (52, .invokevirtual 272, 128, 1, 0, [11]),
  (55, .goto 10, 33, 0, 0, []),
  (58, .aload_n 0, 0, 0, 0, []),
  (59, .iload_n 1, 1, 0, 0, []),
  (60, .iload_n 2, 2, 0, 0, []),
  (61, .iload_n 3, 3, 0, 0, []),
  (62, .invokevirtual 275, 129, 3, 0, [11]),
  (65, .ireturn, 0, 0, 0, [])]
set_option maxRecDepth 100000 in
noncomputable def zc_X11_mean : List zE := [(0, .aload_n 0, 0, 0, 0, []),
  (1, .iload_n 1, 1, 0, 0, []),
  (2, .invokevirtual 120, 112, 1, 0, [11]),
  (5, .ifCond .eq 42, 21, 0, 0, []),
  (8, .iload_n 2, 2, 0, 0, []),
  (9, .invokestatic 105, 110, 1, 0, []),
  (12, .ifCond .eq 35, 21, 0, 0, []),
  (15, .iload_n 3, 3, 0, 0, []),
  (16, .ldc_w 268, 0, 0, 99999, []),
  (19, .invokestatic 109, 108, 2, 0, []),
  (22, .ifCond .eq 25, 21, 0, 0, []),
  (25, .iload 4, 4, 0, 0, []),
  (27, .iconst 1, 0, 0, 1, []),
  (28, .if_icmp .lt 19, 21, 0, 0, []),
  (31, .iload 4, 4, 0, 0, []),
  (33, .bipush 40, 0, 0, 40, []),
  (35, .if_icmp .gt 12, 21, 0, 0, []),
  (38, .iload 5, 5, 0, 0, []),
  (40, .iconst 1, 0, 0, 1, []),
  (41, .invokestatic 109, 108, 2, 0, []),
  (44, .ifCond .ne 7, 23, 0, 0, []),
  (47, .ldc2_w 278, 4611686018427387904, 1, 0, []),
  (50, .lreturn, 0, 0, 0, []),
  (51, .aload_n 0, 0, 0, 0, []),
  (52, .iload_n 2, 2, 0, 0, []),
  (53, .invokevirtual 269, 127, 1, 0, [11]),
  (56, .lconst 0, 0, 0, 0, []),
  (57, .lstore 6, 6, 0, 0, []),
  (59, .iconst 0, 0, 0, 0, []),
  (60, .istore 8, 8, 0, 0, []),
  (62, .iload 8, 8, 0, 0, []),
  (64, .iload 4, 4, 0, 0, []),
  (66, .if_icmp .ge 25, 46, 0, 0, []),
  (69, .lload 6, 6, 0, 0, []),
  (71, .aload_n 0, 0, 0, 0, []),
  (72, .iload_n 3, 3, 0, 0, []),
  (73, .iload 8, 8, 0, 0, []),
  (75, .iadd, 0, 0, 0, []),
  (76, .iload_n 1, 1, 0, 0, []),
  (77, .iload_n 2, 2, 0, 0, []),
  (78, .invokevirtual 275, 129, 3, 0, [11]),
  (81, .i2l, 0, 0, 0, []),
  (82, .ladd, 0, 0, 0, []),
  (83, .lstore 6, 6, 0, 0, []),
  (85, .iinc 8 1, 8, 0, 1, []),
  (88, .goto (-26), 30, 0, 0, []),
  (91, .lload 6, 6, 0, 0, []),
  (93, .iload 4, 4, 0, 0, []),
  (95, .i2l, 0, 0, 0, []),
  (96, .invokestatic 280, 130, 2, 0, []),
  (99, .lstore 8, 8, 0, 0, []),
  (101, .lload 8, 8, 0, 0, []),
  (103, .lconst 0, 0, 0, 0, []),
  (104, .lcmp, 0, 0, 0, []),
  (105, .ifCond .ne 7, 57, 0, 0, []),
  (108, .ldc2_w 278, 4611686018427387904, 1, 0, []),
  (111, .lreturn, 0, 0, 0, []),
  (112, .iload 5, 5, 0, 0, []),
  (114, .ifCond .ne 11, 63, 0, 0, []),
  (117, .lload 6, 6, 0, 0, []),
  (119, .lload 8, 8, 0, 0, []),
  (121, .ldiv, 0, 0, 0, []),
  (122, .goto 9, 67, 0, 0, []),
  (125, .iload 4, 4, 0, 0, []),
  (127, .i2l, 0, 0, 0, []),
  (128, .lload 8, 8, 0, 0, []),
  (130, .ldiv, 0, 0, 0, []),
  (131, .lreturn, 0, 0, 0, [])]
set_option maxRecDepth 100000 in
noncomputable def zc_X11_image : List zE := [(0, .aload_n 0, 0, 0, 0, []),
  (1, .getfield 16, 1, 11, 0, [0]),
  (4, .aload_n 0, 0, 0, 0, []),
  (5, .getfield 10, 0, 11, 0, [0]),
  (8, .invokevirtual 284, 3, 1, 0, [1]),
  (11, .aload_n 0, 0, 0, 0, []),
  (12, .iconst 1, 0, 0, 1, []),
  (13, .putfield 19, 2, 11, 0, [2]),
  (16, .aload_n 0, 0, 0, 0, []),
  (17, .getfield 10, 0, 11, 0, [0]),
  (20, .getfield 126, 3, 1, 0, []),
  (23, .ireturn, 0, 0, 0, [])]
set_option maxRecDepth 100000 in
noncomputable def zc_X11_back : List zE := [(0, .aload_n 0, 0, 0, 0, []),
  (1, .getfield 19, 2, 11, 0, []),
  (4, .ifCond .ne 6, 5, 0, 0, []),
  (7, .bipush (-3), 0, 0, (-3), []),
  (9, .ireturn, 0, 0, 0, []),
  (10, .aload_n 0, 0, 0, 0, []),
  (11, .getfield 10, 0, 11, 0, [0]),
  (14, .aload_n 0, 0, 0, 0, []),
  (15, .getfield 16, 1, 11, 0, [0]),
  (18, .invokevirtual 284, 3, 1, 0, [1]),
  (21, .aload_n 0, 0, 0, 0, []),
  (22, .getfield 10, 0, 11, 0, [0]),
  (25, .getfield 126, 3, 1, 0, []),
  (28, .ireturn, 0, 0, 0, [])]
set_option maxRecDepth 100000 in
noncomputable def zc_X11_sheet : List zE := [(0, .iload_n 1, 1, 0, 0, []),
  (1, .invokestatic 261, 111, 1, 0, []),
  (4, .ifCond .eq 24, 15, 0, 0, []),
  (7, .iload_n 2, 2, 0, 0, []),
  (8, .iconst (-1), 0, 0, (-1), []),
  (9, .if_icmp .lt 19, 15, 0, 0, []),
  (12, .iload_n 2, 2, 0, 0, []),
  (13, .iconst 2, 0, 0, 2, []),
  (14, .if_icmp .gt 14, 15, 0, 0, []),
  (17, .iload_n 2, 2, 0, 0, []),
  (18, .iconst (-1), 0, 0, (-1), []),
  (19, .if_icmp .eq 12, 17, 0, 0, []),
  (22, .iload_n 3, 3, 0, 0, []),
  (23, .bipush 40, 0, 0, 40, []),
  (25, .if_icmp .le 6, 17, 0, 0, []),
  (28, .bipush (-2), 0, 0, (-2), []),
  (30, .ireturn, 0, 0, 0, []),
  (31, .iload_n 2, 2, 0, 0, []),
  (32, .iconst (-1), 0, 0, (-1), []),
  (33, .if_icmp .eq 10, 24, 0, 0, []),
  (36, .iload_n 3, 3, 0, 0, []),
  (37, .ifCond .ge 6, 24, 0, 0, []),
  (40, .bipush (-14), 0, 0, (-14), []),
  (42, .ireturn, 0, 0, 0, []),
  (43, .aload_n 0, 0, 0, 0, []),
  (44, .getfield 48, 7, 11, 0, [0]),
  (47, .iload_n 1, 1, 0, 0, []),
  (48, .aaload, 0, 0, 0, []),
  (49, .iload_n 2, 2, 0, 0, []),
  (50, .iload_n 2, 2, 0, 0, []),
  (51, .iconst (-1), 0, 0, (-1), []),
  (52, .if_icmp .ne 7, 34, 0, 0, []),
  (55, .iconst 0, 0, 0, 0, []),
  (56, .goto 4, 35, 0, 0, []),
  (59, .iload_n 3, 3, 0, 0, []),
  (60, .invokevirtual 264, 15, 2, 0, [6]),
  (63, .iconst 1, 0, 0, 1, []),
  (64, .ireturn, 0, 0, 0, [])]
set_option maxRecDepth 100000 in
noncomputable def zc_X11_cell : List zE := [(0, .aload_n 0, 0, 0, 0, []),
  (1, .iload_n 1, 1, 0, 0, []),
  (2, .invokevirtual 287, 118, 1, 0, [11]),
  (5, .istore 4, 4, 0, 0, []),
  (7, .iload 4, 4, 0, 0, []),
  (9, .ifCond .eq 6, 8, 0, 0, []),
  (12, .iload 4, 4, 0, 0, []),
  (14, .ireturn, 0, 0, 0, []),
  (15, .iload_n 2, 2, 0, 0, []),
  (16, .ifCond .lt 16, 17, 0, 0, []),
  (19, .iload_n 2, 2, 0, 0, []),
  (20, .aload_n 0, 0, 0, 0, []),
  (21, .getfield 48, 7, 11, 0, [0]),
  (24, .iload_n 1, 1, 0, 0, []),
  (25, .aaload, 0, 0, 0, []),
  (26, .getfield 290, 2, 6, 0, []),
  (29, .if_icmp .lt 6, 19, 0, 0, []),
  (32, .bipush (-12), 0, 0, (-12), []),
  (34, .ireturn, 0, 0, 0, []),
  (35, .aload_n 0, 0, 0, 0, []),
  (36, .getfield 48, 7, 11, 0, [0]),
  (39, .iload_n 1, 1, 0, 0, []),
  (40, .aaload, 0, 0, 0, []),
  (41, .iload_n 2, 2, 0, 0, []),
  (42, .iload_n 3, 3, 0, 0, []),
  (43, .invokevirtual 267, 16, 2, 0, [6]),
  (46, .iconst 1, 0, 0, 1, []),
  (47, .ireturn, 0, 0, 0, [])]
set_option maxRecDepth 100000 in
noncomputable def zc_X11_copy : List zE := [(0, .iload_n 1, 1, 0, 0, []),
  (1, .invokestatic 261, 111, 1, 0, []),
  (4, .ifCond .eq 10, 6, 0, 0, []),
  (7, .iload_n 3, 3, 0, 0, []),
  (8, .invokestatic 261, 111, 1, 0, []),
  (11, .ifCond .ne 6, 8, 0, 0, []),
  (14, .bipush (-2), 0, 0, (-2), []),
  (16, .ireturn, 0, 0, 0, []),
  (17, .aload_n 0, 0, 0, 0, []),
  (18, .getfield 48, 7, 11, 0, [0]),
  (21, .iload_n 1, 1, 0, 0, []),
  (22, .aaload, 0, 0, 0, []),
  (23, .astore 6, 6, 0, 0, []),
  (25, .aload_n 0, 0, 0, 0, []),
  (26, .getfield 48, 7, 11, 0, [0]),
  (29, .iload_n 3, 3, 0, 0, []),
  (30, .aaload, 0, 0, 0, []),
  (31, .astore 7, 7, 0, 0, []),
  (33, .aload 6, 6, 0, 0, []),
  (35, .getfield 291, 1, 6, 0, []),
  (38, .iconst (-1), 0, 0, (-1), []),
  (39, .if_icmp .eq 12, 26, 0, 0, []),
  (42, .aload 7, 7, 0, 0, []),
  (44, .getfield 291, 1, 6, 0, []),
  (47, .iconst (-1), 0, 0, (-1), []),
  (48, .if_icmp .ne 6, 28, 0, 0, []),
  (51, .bipush (-11), 0, 0, (-11), []),
  (53, .ireturn, 0, 0, 0, []),
  (54, .aload 6, 6, 0, 0, []),
  (56, .getfield 291, 1, 6, 0, []),
  (59, .aload 7, 7, 0, 0, []),
  (61, .getfield 291, 1, 6, 0, []),
  (64, .if_icmp .eq 6, 35, 0, 0, []),
  (67, .bipush (-13), 0, 0, (-13), []),
  (69, .ireturn, 0, 0, 0, []),
  (70, .aload 6, 6, 0, 0, []),
  (72, .iload_n 2, 2, 0, 0, []),
  (73, .iload 5, 5, 0, 0, []),
  (75, .invokevirtual 294, 17, 2, 0, [6]),
  (78, .ifCond .eq 15, 45, 0, 0, []),
  (81, .aload 7, 7, 0, 0, []),
  (83, .iload 4, 4, 0, 0, []),
  (85, .iload 5, 5, 0, 0, []),
  (87, .invokevirtual 294, 17, 2, 0, [6]),
  (90, .ifCond .ne 6, 47, 0, 0, []),
  (93, .bipush (-12), 0, 0, (-12), []),
  (95, .ireturn, 0, 0, 0, []),
  (96, .aload 6, 6, 0, 0, []),
  (98, .getfield 297, 0, 6, 0, [0]),
  (101, .iload_n 2, 2, 0, 0, []),
  (102, .aload 7, 7, 0, 0, []),
  (104, .getfield 297, 0, 6, 0, [0]),
  (107, .iload 4, 4, 0, 0, []),
  (109, .iload 5, 5, 0, 0, []),
  (111, .invokestatic 300, 0, 0, 0, [4]),
  (114, .iload 5, 5, 0, 0, []),
  (116, .ireturn, 0, 0, 0, [])]
set_option maxRecDepth 100000 in
noncomputable def zc_X11_islandsBy : List zE := [(0, .iload_n 1, 1, 0, 0, []),
  (1, .invokestatic 261, 111, 1, 0, []),
  (4, .ifCond .eq 21, 11, 0, 0, []),
  (7, .iload_n 2, 2, 0, 0, []),
  (8, .iconst 2, 0, 0, 2, []),
  (9, .invokestatic 109, 108, 2, 0, []),
  (12, .ifCond .eq 13, 11, 0, 0, []),
  (15, .iload 4, 4, 0, 0, []),
  (17, .bipush 6, 0, 0, 6, []),
  (19, .invokestatic 109, 108, 2, 0, []),
  (22, .ifCond .ne 6, 13, 0, 0, []),
  (25, .bipush (-2), 0, 0, (-2), []),
  (27, .ireturn, 0, 0, 0, []),
  (28, .aload_n 0, 0, 0, 0, []),
  (29, .getfield 48, 7, 11, 0, [0]),
  (32, .iload_n 1, 1, 0, 0, []),
  (33, .aaload, 0, 0, 0, []),
  (34, .astore 5, 5, 0, 0, []),
  (36, .aload 5, 5, 0, 0, []),
  (38, .getfield 291, 1, 6, 0, []),
  (41, .iconst (-1), 0, 0, (-1), []),
  (42, .if_icmp .ne 6, 24, 0, 0, []),
  (45, .bipush (-11), 0, 0, (-11), []),
  (47, .ireturn, 0, 0, 0, []),
  (48, .aload 5, 5, 0, 0, []),
  (50, .getfield 291, 1, 6, 0, []),
  (53, .iload_n 2, 2, 0, 0, []),
  (54, .if_icmp .eq 6, 30, 0, 0, []),
  (57, .bipush (-13), 0, 0, (-13), []),
  (59, .ireturn, 0, 0, 0, []),
  (60, .iconst 0, 0, 0, 0, []),
  (61, .istore 6, 6, 0, 0, []),
  (63, .iconst 0, 0, 0, 0, []),
  (64, .istore 7, 7, 0, 0, []),
  (66, .iload 7, 7, 0, 0, []),
  (68, .iload 4, 4, 0, 0, []),
  (70, .if_icmp .ge 78, 79, 0, 0, []),
  (73, .iload_n 3, 3, 0, 0, []),
  (74, .iconst 4, 0, 0, 4, []),
  (75, .iload 7, 7, 0, 0, []),
  (77, .imul, 0, 0, 0, []),
  (78, .iadd, 0, 0, 0, []),
  (79, .istore 8, 8, 0, 0, []),
  (81, .iload_n 3, 3, 0, 0, []),
  (82, .ifCond .lt 14, 50, 0, 0, []),
  (85, .aload 5, 5, 0, 0, []),
  (87, .iload 8, 8, 0, 0, []),
  (89, .iconst 4, 0, 0, 4, []),
  (90, .invokevirtual 294, 17, 2, 0, [6]),
  (93, .ifCond .ne 6, 52, 0, 0, []),
  (96, .bipush (-12), 0, 0, (-12), []),
  (98, .ireturn, 0, 0, 0, []),
  (99, .aload 5, 5, 0, 0, []),
  (101, .getfield 297, 0, 6, 0, [0]),
  (104, .astore 9, 9, 0, 0, []),
  (106, .aload_n 0, 0, 0, 0, []),
  (107, .aload 9, 9, 0, 0, []),
  (109, .iload 8, 8, 0, 0, []),
  (111, .iaload, 0, 0, 0, []),
  (112, .aload 9, 9, 0, 0, []),
  (114, .iload 8, 8, 0, 0, []),
  (116, .iconst 1, 0, 0, 1, []),
  (117, .iadd, 0, 0, 0, []),
  (118, .iaload, 0, 0, 0, []),
  (119, .aload 9, 9, 0, 0, []),
  (121, .iload 8, 8, 0, 0, []),
  (123, .iconst 2, 0, 0, 2, []),
  (124, .iadd, 0, 0, 0, []),
  (125, .iaload, 0, 0, 0, []),
  (126, .aload 9, 9, 0, 0, []),
  (128, .iload 8, 8, 0, 0, []),
  (130, .iconst 3, 0, 0, 3, []),
  (131, .iadd, 0, 0, 0, []),
  (132, .iaload, 0, 0, 0, []),
  (133, .invokevirtual 306, 75, 4, 0, [11]),
  (136, .ifCond .lt 6, 77, 0, 0, []),
  (139, .iinc 6 1, 6, 0, 1, []),
  (142, .iinc 7 1, 7, 0, 1, []),
  (145, .goto (-79), 34, 0, 0, []),
  (148, .iload 6, 6, 0, 0, []),
  (150, .ireturn, 0, 0, 0, [])]
set_option maxRecDepth 100000 in
noncomputable def zc_X11_taken : List zE := [(0, .iload_n 2, 2, 0, 0, []),
  (1, .bipush 6, 0, 0, 6, []),
  (3, .invokestatic 109, 108, 2, 0, []),
  (6, .ifCond .ne 6, 6, 0, 0, []),
  (9, .bipush (-2), 0, 0, (-2), []),
  (11, .ireturn, 0, 0, 0, []),
  (12, .iload_n 1, 1, 0, 0, []),
  (13, .bipush 17, 0, 0, 17, []),
  (15, .invokestatic 109, 108, 2, 0, []),
  (18, .ifCond .ne 6, 12, 0, 0, []),
  (21, .bipush (-12), 0, 0, (-12), []),
  (23, .ireturn, 0, 0, 0, []),
  (24, .iload_n 1, 1, 0, 0, []),
  (25, .bipush 12, 0, 0, 12, []),
  (27, .if_icmp .ge 39, 34, 0, 0, []),
  (30, .aload_n 0, 0, 0, 0, []),
  (31, .getfield 10, 0, 11, 0, [0]),
  (34, .getfield 72, 0, 1, 0, [0]),
  (37, .iload_n 1, 1, 0, 0, []),
  (38, .iaload, 0, 0, 0, []),
  (39, .ifCond .ne 6, 23, 0, 0, []),
  (42, .bipush (-11), 0, 0, (-11), []),
  (44, .ireturn, 0, 0, 0, []),
  (45, .iload_n 2, 2, 0, 0, []),
  (46, .bipush 6, 0, 0, 6, []),
  (48, .if_icmp .ne 15, 32, 0, 0, []),
  (51, .aload_n 0, 0, 0, 0, []),
  (52, .getfield 10, 0, 11, 0, [0]),
  (55, .getfield 72, 0, 1, 0, [0]),
  (58, .iload_n 1, 1, 0, 0, []),
  (59, .iaload, 0, 0, 0, []),
  (60, .goto 5, 33, 0, 0, []),
  (63, .bipush (-13), 0, 0, (-13), []),
  (65, .ireturn, 0, 0, 0, []),
  (66, .aload_n 0, 0, 0, 0, []),
  (67, .iload_n 1, 1, 0, 0, []),
  (68, .bipush 12, 0, 0, 12, []),
  (70, .isub, 0, 0, 0, []),
  (71, .invokevirtual 158, 115, 1, 0, [11]),
  (74, .astore_n 3, 3, 0, 0, []),
  (75, .aload_n 3, 3, 0, 0, []),
  (76, .ifnonnull 6, 44, 0, 0, []),
  (79, .bipush (-11), 0, 0, (-11), []),
  (81, .ireturn, 0, 0, 0, []),
  (82, .aload_n 3, 3, 0, 0, []),
  (83, .iload_n 2, 2, 0, 0, []),
  (84, .invokestatic 310, 134, 2, 0, []),
  (87, .ifCond .eq 10, 52, 0, 0, []),
  (90, .iload_n 1, 1, 0, 0, []),
  (91, .bipush 12, 0, 0, 12, []),
  (93, .isub, 0, 0, 0, []),
  (94, .goto 5, 53, 0, 0, []),
  (97, .bipush (-13), 0, 0, (-13), []),
  (99, .ireturn, 0, 0, 0, [])]
set_option maxRecDepth 100000 in
noncomputable def zc_X11_isWithin : List zE := [(0, .iload_n 0, 0, 0, 0, []),
  (1, .ifCond .lt 12, 7, 0, 0, []),
  (4, .iload_n 0, 0, 0, 0, []),
  (5, .iload_n 1, 1, 0, 0, []),
  (6, .if_icmp .gt 7, 7, 0, 0, []),
  (9, .iconst 1, 0, 0, 1, []),
  (10, .goto 4, 8, 0, 0, []),
  (13, .iconst 0, 0, 0, 0, []),
  (14, .ireturn, 0, 0, 0, [2])]
set_option maxRecDepth 100000 in
noncomputable def zc_X11_isByte : List zE := [(0, .iload_n 0, 0, 0, 0, []),
  (1, .sipush 255, 0, 0, 255, []),
  (4, .invokestatic 109, 108, 2, 0, []),
  (7, .ireturn, 0, 0, 0, [2])]
set_option maxRecDepth 100000 in
noncomputable def zc_X11_isTide : List zE := [(0, .iload_n 0, 0, 0, 0, []),
  (1, .bipush 11, 0, 0, 11, []),
  (3, .invokestatic 109, 108, 2, 0, []),
  (6, .ireturn, 0, 0, 0, [2])]
set_option maxRecDepth 100000 in
noncomputable def zc_X11_isSheet : List zE := [(0, .iload_n 0, 0, 0, 0, []),
  (1, .iconst 3, 0, 0, 3, []),
  (2, .invokestatic 109, 108, 2, 0, []),
  (5, .ireturn, 0, 0, 0, [2])]
set_option maxRecDepth 100000 in
noncomputable def zc_X11_isOne : List zE := [(0, .iload_n 1, 1, 0, 0, []),
  (1, .ifCond .lt 18, 9, 0, 0, []),
  (4, .iload_n 1, 1, 0, 0, []),
  (5, .aload_n 0, 0, 0, 0, []),
  (6, .getfield 10, 0, 11, 0, [0]),
  (9, .getfield 113, 2, 1, 0, []),
  (12, .if_icmp .ge 7, 9, 0, 0, []),
  (15, .iconst 1, 0, 0, 1, []),
  (16, .goto 4, 10, 0, 0, []),
  (19, .iconst 0, 0, 0, 0, []),
  (20, .ireturn, 0, 0, 0, [2])]
set_option maxRecDepth 100000 in
noncomputable def zc_X11_isIsland : List zE := [(0, .iload_n 1, 1, 0, 0, []),
  (1, .ifCond .lt 18, 9, 0, 0, []),
  (4, .iload_n 1, 1, 0, 0, []),
  (5, .aload_n 0, 0, 0, 0, []),
  (6, .getfield 10, 0, 11, 0, [0]),
  (9, .getfield 126, 3, 1, 0, []),
  (12, .if_icmp .ge 7, 9, 0, 0, []),
  (15, .iconst 1, 0, 0, 1, []),
  (16, .goto 4, 10, 0, 0, []),
  (19, .iconst 0, 0, 0, 0, []),
  (20, .ireturn, 0, 0, 0, [2])]
set_option maxRecDepth 100000 in
noncomputable def zc_X11_everybody : List zE := [(0, .iconst 1, 0, 0, 1, []),
  (1, .aload_n 0, 0, 0, 0, []),
  (2, .getfield 10, 0, 11, 0, [0]),
  (5, .getfield 113, 2, 1, 0, []),
  (8, .ishl, 0, 0, 0, []),
  (9, .iconst 1, 0, 0, 1, []),
  (10, .isub, 0, 0, 0, []),
  (11, .ireturn, 0, 0, 0, [])]
set_option maxRecDepth 100000 in
noncomputable def zc_X11_islandAt : List zE := [(0, .aload_n 0, 0, 0, 0, []),
  (1, .iload_n 1, 1, 0, 0, []),
  (2, .invokevirtual 123, 113, 1, 0, [11]),
  (5, .ifCond .eq 12, 9, 0, 0, []),
  (8, .aload_n 0, 0, 0, 0, []),
  (9, .getfield 25, 3, 11, 0, [0]),
  (12, .iload_n 1, 1, 0, 0, []),
  (13, .aaload, 0, 0, 0, []),
  (14, .goto 4, 10, 0, 0, []),
  (17, .aconst_null, 0, 0, 0, []),
  (18, .areturn, 0, 0, 0, [])]
set_option maxRecDepth 100000 in
noncomputable def zc_X11_textAt : List zE := [(0, .iload_n 1, 1, 0, 0, []),
  (1, .ifCond .lt 20, 11, 0, 0, []),
  (4, .iload_n 1, 1, 0, 0, []),
  (5, .aload_n 0, 0, 0, 0, []),
  (6, .getfield 35, 5, 11, 0, []),
  (9, .if_icmp .ge 12, 11, 0, 0, []),
  (12, .aload_n 0, 0, 0, 0, []),
  (13, .getfield 31, 4, 11, 0, [0]),
  (16, .iload_n 1, 1, 0, 0, []),
  (17, .aaload, 0, 0, 0, []),
  (18, .goto 4, 12, 0, 0, []),
  (21, .aconst_null, 0, 0, 0, []),
  (22, .areturn, 0, 0, 0, [])]
set_option maxRecDepth 100000 in
noncomputable def zc_X11_law : List zE := [(0, .aload_n 0, 0, 0, 0, []),
  (1, .aload_n 0, 0, 0, 0, []),
  (2, .getfield 10, 0, 11, 0, [0]),
  (5, .getfield 128, 4, 1, 0, []),
  (8, .invokevirtual 140, 116, 1, 0, [11]),
  (11, .areturn, 0, 0, 0, [])]
set_option maxRecDepth 100000 in
noncomputable def zc_X11_refusalOfSheet : List zE := [(0, .iload_n 1, 1, 0, 0, []),
  (1, .invokestatic 261, 111, 1, 0, []),
  (4, .ifCond .ne 6, 5, 0, 0, []),
  (7, .bipush (-2), 0, 0, (-2), []),
  (9, .ireturn, 0, 0, 0, []),
  (10, .aload_n 0, 0, 0, 0, []),
  (11, .getfield 48, 7, 11, 0, [0]),
  (14, .iload_n 1, 1, 0, 0, []),
  (15, .aaload, 0, 0, 0, []),
  (16, .getfield 291, 1, 6, 0, []),
  (19, .iconst (-1), 0, 0, (-1), []),
  (20, .if_icmp .ne 8, 14, 0, 0, []),
  (23, .bipush (-11), 0, 0, (-11), []),
  (25, .goto 4, 15, 0, 0, []),
  (28, .iconst 0, 0, 0, 0, []),
  (29, .ireturn, 0, 0, 0, [])]
set_option maxRecDepth 100000 in
noncomputable def zc_X11_refusalOfOwners : List zE := [(0, .aload_n 0, 0, 0, 0, []),
  (1, .iload_n 1, 1, 0, 0, []),
  (2, .invokevirtual 287, 118, 1, 0, [11]),
  (5, .istore_n 2, 2, 0, 0, []),
  (6, .iload_n 2, 2, 0, 0, []),
  (7, .ifCond .eq 5, 8, 0, 0, []),
  (10, .iload_n 2, 2, 0, 0, []),
  (11, .ireturn, 0, 0, 0, []),
  (12, .aload_n 0, 0, 0, 0, []),
  (13, .getfield 48, 7, 11, 0, [0]),
  (16, .iload_n 1, 1, 0, 0, []),
  (17, .aaload, 0, 0, 0, []),
  (18, .getfield 290, 2, 6, 0, []),
  (21, .aload_n 0, 0, 0, 0, []),
  (22, .getfield 10, 0, 11, 0, [0]),
  (25, .getfield 126, 3, 1, 0, []),
  (28, .if_icmp .ne 7, 19, 0, 0, []),
  (31, .iconst 0, 0, 0, 0, []),
  (32, .goto 5, 20, 0, 0, []),
  (35, .bipush (-2), 0, 0, (-2), []),
  (37, .ireturn, 0, 0, 0, [])]
set_option maxRecDepth 100000 in
noncomputable def zc_X11_name : List zE := [(0, .aload_n 0, 0, 0, 0, []),
  (1, .getfield 59, 9, 11, 0, [0]),
  (4, .iconst 0, 0, 0, 0, []),
  (5, .iload_n 1, 1, 0, 0, []),
  (6, .iastore, 0, 0, 0, []),
  (7, .aload_n 0, 0, 0, 0, []),
  (8, .getfield 59, 9, 11, 0, [0]),
  (11, .iconst 1, 0, 0, 1, []),
  (12, .iload_n 2, 2, 0, 0, []),
  (13, .iastore, 0, 0, 0, []),
  (14, .aload_n 0, 0, 0, 0, []),
  (15, .getfield 59, 9, 11, 0, [0]),
  (18, .iconst 2, 0, 0, 2, []),
  (19, .iload_n 3, 3, 0, 0, []),
  (20, .iastore, 0, 0, 0, []),
  (21, .aload_n 0, 0, 0, 0, []),
  (22, .getfield 59, 9, 11, 0, [0]),
  (25, .iconst 3, 0, 0, 3, []),
  (26, .iload 4, 4, 0, 0, []),
  (28, .iastore, 0, 0, 0, []),
  (29, .aload_n 0, 0, 0, 0, []),
  (30, .getfield 59, 9, 11, 0, [0]),
  (33, .iconst 4, 0, 0, 4, []),
  (34, .iload 5, 5, 0, 0, []),
  (36, .iastore, 0, 0, 0, []),
  (37, .aload_n 0, 0, 0, 0, []),
  (38, .getfield 59, 9, 11, 0, [0]),
  (41, .iconst 5, 0, 0, 5, []),
  (42, .iload 6, 6, 0, 0, []),
  (44, .iastore, 0, 0, 0, []),
  (45, .return_, 0, 0, 0, [])]
set_option maxRecDepth 100000 in
noncomputable def zc_X11_saysOf : List zE := [(0, .aload_n 1, 1, 0, 0, []),
  (1, .ifnonnull 7, 4, 0, 0, []),
  (4, .iconst 0, 0, 0, 0, []),
  (5, .goto 16, 11, 0, 0, []),
  (8, .aload_n 1, 1, 0, 0, []),
  (9, .iload_n 2, 2, 0, 0, []),
  (10, .aload_n 0, 0, 0, 0, []),
  (11, .getfield 59, 9, 11, 0, [0]),
  (14, .aload_n 0, 0, 0, 0, []),
  (15, .getfield 63, 10, 11, 0, [0]),
  (18, .invokevirtual 314, 40, 3, 0, [8]),
  (21, .istore_n 3, 3, 0, 0, []),
  (22, .iconst 0, 0, 0, 0, []),
  (23, .iload_n 3, 3, 0, 0, []),
  (24, .iload_n 2, 2, 0, 0, []),
  (25, .iconst 2, 0, 0, 2, []),
  (26, .if_icmp .ne 8, 19, 0, 0, []),
  (29, .bipush 100, 0, 0, 100, []),
  (31, .goto 5, 20, 0, 0, []),
  (34, .bipush 99, 0, 0, 99, []),
  (36, .invokestatic 239, 0, 0, 0, [1]),
  (39, .invokestatic 244, 0, 0, 0, [2]),
  (42, .ireturn, 0, 0, 0, [])]
set_option maxRecDepth 100000 in
noncomputable def zc_X11_worthUnder : List zE := [(0, .aload_n 0, 0, 0, 0, []),
  (1, .iload_n 2, 2, 0, 0, []),
  (2, .invokevirtual 158, 115, 1, 0, [11]),
  (5, .astore 4, 4, 0, 0, []),
  (7, .aload 4, 4, 0, 0, []),
  (9, .ifnonnull 5, 8, 0, 0, []),
  (12, .iconst 0, 0, 0, 0, []),
  (13, .ireturn, 0, 0, 0, []),
  (14, .aload_n 0, 0, 0, 0, []),
  (15, .aload 4, 4, 0, 0, []),
  (17, .getfield 165, 1, 3, 0, []),
  (20, .aload_n 0, 0, 0, 0, []),
  (21, .getfield 10, 0, 11, 0, [0]),
  (24, .getfield 72, 0, 1, 0, [0]),
  (27, .iload_n 3, 3, 0, 0, []),
  (28, .iaload, 0, 0, 0, []),
  (29, .aload 4, 4, 0, 0, []),
  (31, .getfield 171, 3, 3, 0, []),
  (34, .iconst 0, 0, 0, 0, []),
  (35, .iload_n 3, 3, 0, 0, []),
  (36, .iload_n 2, 2, 0, 0, []),
  (37, .invokevirtual 144, 120, 6, 0, [11]),
  (40, .aload 4, 4, 0, 0, []),
  (42, .aload_n 0, 0, 0, 0, []),
  (43, .aload_n 1, 1, 0, 0, []),
  (44, .iconst 0, 0, 0, 0, []),
  (45, .invokevirtual 150, 121, 2, 0, [11]),
  (48, .iload_n 3, 3, 0, 0, []),
  (49, .invokevirtual 318, 8, 2, 0, [3, 1]),
  (52, .istore 5, 5, 0, 0, []),
  (54, .iconst 0, 0, 0, 0, []),
  (55, .iload 5, 5, 0, 0, []),
  (57, .sipush 9999, 0, 0, 9999, []),
  (60, .invokestatic 239, 0, 0, 0, [1]),
  (63, .invokestatic 244, 0, 0, 0, [2]),
  (66, .ireturn, 0, 0, 0, [])]
set_option maxRecDepth 100000 in
noncomputable def zc_X11_costOf : List zE := [(0, .iload_n 2, 2, 0, 0, []),
  (1, .ifCond .ne 7, 4, 0, 0, []),
  (4, .iconst (-1), 0, 0, (-1), []),
  (5, .goto 16, 13, 0, 0, []),
  (8, .aload_n 0, 0, 0, 0, []),
  (9, .getfield 10, 0, 11, 0, [0]),
  (12, .getfield 116, 1, 1, 0, [0]),
  (15, .iload_n 1, 1, 0, 0, []),
  (16, .aaload, 0, 0, 0, []),
  (17, .iload_n 2, 2, 0, 0, []),
  (18, .iconst 1, 0, 0, 1, []),
  (19, .isub, 0, 0, 0, []),
  (20, .iaload, 0, 0, 0, []),
  (21, .istore 4, 4, 0, 0, []),
  (23, .iload_n 3, 3, 0, 0, []),
  (24, .iconst (-1), 0, 0, (-1), []),
  (25, .if_icmp .eq 9, 20, 0, 0, []),
  (28, .iload_n 3, 3, 0, 0, []),
  (29, .iload 4, 4, 0, 0, []),
  (31, .if_icmp .ne 5, 22, 0, 0, []),
  (34, .iconst 0, 0, 0, 0, []),
  (35, .ireturn, 0, 0, 0, []),
  (36, .iload 4, 4, 0, 0, []),
  (38, .iconst (-1), 0, 0, (-1), []),
  (39, .if_icmp .ne 9, 29, 0, 0, []),
  (42, .iload_n 3, 3, 0, 0, []),
  (43, .iconst 1, 0, 0, 1, []),
  (44, .iadd, 0, 0, 0, []),
  (45, .goto 10, 33, 0, 0, []),
  (48, .iload_n 3, 3, 0, 0, []),
  (49, .iload 4, 4, 0, 0, []),
  (51, .isub, 0, 0, 0, []),
  (52, .invokestatic 321, 0, 0, 0, [3]),
  (55, .istore 5, 5, 0, 0, []),
  (57, .aload_n 0, 0, 0, 0, []),
  (58, .iconst 0, 0, 0, 0, []),
  (59, .aload_n 0, 0, 0, 0, []),
  (60, .getfield 10, 0, 11, 0, [0]),
  (63, .getfield 72, 0, 1, 0, [0]),
  (66, .iload_n 2, 2, 0, 0, []),
  (67, .iaload, 0, 0, 0, []),
  (68, .iconst 0, 0, 0, 0, []),
  (69, .iload 5, 5, 0, 0, []),
  (71, .iload_n 2, 2, 0, 0, []),
  (72, .iload_n 3, 3, 0, 0, []),
  (73, .invokevirtual 144, 120, 6, 0, [11]),
  (76, .aload_n 0, 0, 0, 0, []),
  (77, .aload_n 0, 0, 0, 0, []),
  (78, .invokevirtual 148, 117, 0, 0, [11]),
  (81, .iconst 1, 0, 0, 1, []),
  (82, .invokevirtual 150, 121, 2, 0, [11]),
  (85, .ireturn, 0, 0, 0, [])]
set_option maxRecDepth 100000 in
noncomputable def zc_X11_stormOf : List zE := [(0, .aload_n 0, 0, 0, 0, []),
  (1, .getfield 10, 0, 11, 0, [0]),
  (4, .getfield 116, 1, 1, 0, [0]),
  (7, .iload_n 1, 1, 0, 0, []),
  (8, .aaload, 0, 0, 0, []),
  (9, .iload_n 2, 2, 0, 0, []),
  (10, .iaload, 0, 0, 0, []),
  (11, .istore_n 3, 3, 0, 0, []),
  (12, .iload_n 3, 3, 0, 0, []),
  (13, .iconst (-1), 0, 0, (-1), []),
  (14, .if_icmp .ne 5, 13, 0, 0, []),
  (17, .iconst 0, 0, 0, 0, []),
  (18, .ireturn, 0, 0, 0, []),
  (19, .aload_n 0, 0, 0, 0, []),
  (20, .iconst 0, 0, 0, 0, []),
  (21, .aload_n 0, 0, 0, 0, []),
  (22, .getfield 10, 0, 11, 0, [0]),
  (25, .getfield 72, 0, 1, 0, [0]),
  (28, .iload_n 2, 2, 0, 0, []),
  (29, .iaload, 0, 0, 0, []),
  (30, .iconst 0, 0, 0, 0, []),
  (31, .iconst 0, 0, 0, 0, []),
  (32, .iload_n 2, 2, 0, 0, []),
  (33, .iload_n 3, 3, 0, 0, []),
  (34, .invokevirtual 144, 120, 6, 0, [11]),
  (37, .aload_n 0, 0, 0, 0, []),
  (38, .aload_n 0, 0, 0, 0, []),
  (39, .invokevirtual 148, 117, 0, 0, [11]),
  (42, .iconst 2, 0, 0, 2, []),
  (43, .invokevirtual 150, 121, 2, 0, [11]),
  (46, .ireturn, 0, 0, 0, [])]
set_option maxRecDepth 100000 in
noncomputable def zc_X11_lookAt : List zE := [(0, .aload_n 0, 0, 0, 0, []),
  (1, .getfield 55, 8, 11, 0, [0]),
  (4, .aload_n 0, 0, 0, 0, []),
  (5, .getfield 10, 0, 11, 0, [0]),
  (8, .getfield 126, 3, 1, 0, []),
  (11, .aload_n 0, 0, 0, 0, []),
  (12, .getfield 10, 0, 11, 0, [0]),
  (15, .getfield 113, 2, 1, 0, []),
  (18, .invokevirtual 324, 43, 2, 0, [9]),
  (21, .iconst 0, 0, 0, 0, []),
  (22, .istore_n 3, 3, 0, 0, []),
  (23, .iload_n 3, 3, 0, 0, []),
  (24, .aload_n 0, 0, 0, 0, []),
  (25, .getfield 10, 0, 11, 0, [0]),
  (28, .getfield 126, 3, 1, 0, []),
  (31, .if_icmp .ge 68, 50, 0, 0, []),
  (34, .aload_n 0, 0, 0, 0, []),
  (35, .iload_n 3, 3, 0, 0, []),
  (36, .invokevirtual 158, 115, 1, 0, [11]),
  (39, .astore 4, 4, 0, 0, []),
  (41, .aload_n 0, 0, 0, 0, []),
  (42, .getfield 55, 8, 11, 0, [0]),
  (45, .getfield 178, 0, 9, 0, [0]),
  (48, .iload_n 3, 3, 0, 0, []),
  (49, .aload_n 0, 0, 0, 0, []),
  (50, .aload_n 2, 2, 0, 0, []),
  (51, .iload_n 3, 3, 0, 0, []),
  (52, .iload_n 1, 1, 0, 0, []),
  (53, .invokevirtual 326, 122, 3, 0, [11]),
  (56, .iastore, 0, 0, 0, []),
  (57, .aload_n 0, 0, 0, 0, []),
  (58, .getfield 55, 8, 11, 0, [0]),
  (61, .getfield 181, 1, 9, 0, [0]),
  (64, .iload_n 3, 3, 0, 0, []),
  (65, .aload 4, 4, 0, 0, []),
  (67, .ifnull 24, 46, 0, 0, []),
  (70, .aload 4, 4, 0, 0, []),
  (72, .aload_n 0, 0, 0, 0, []),
  (73, .getfield 10, 0, 11, 0, [0]),
  (76, .getfield 72, 0, 1, 0, [0]),
  (79, .iload_n 1, 1, 0, 0, []),
  (80, .iaload, 0, 0, 0, []),
  (81, .invokevirtual 330, 7, 1, 0, [3, 1]),
  (84, .ifCond .eq 7, 46, 0, 0, []),
  (87, .iconst 1, 0, 0, 1, []),
  (88, .goto 4, 47, 0, 0, []),
  (91, .iconst 0, 0, 0, 0, []),
  (92, .bastore, 0, 0, 0, []),
  (93, .iinc 3 1, 3, 0, 1, []),
  (96, .goto (-73), 11, 0, 0, []),
  (99, .iconst 0, 0, 0, 0, []),
  (100, .istore_n 3, 3, 0, 0, []),
  (101, .iload_n 3, 3, 0, 0, []),
  (102, .aload_n 0, 0, 0, 0, []),
  (103, .getfield 10, 0, 11, 0, [0]),
  (106, .getfield 126, 3, 1, 0, []),
  (109, .if_icmp .ge 60, 84, 0, 0, []),
  (112, .aload_n 0, 0, 0, 0, []),
  (113, .iload_n 3, 3, 0, 0, []),
  (114, .invokevirtual 158, 115, 1, 0, [11]),
  (117, .astore 4, 4, 0, 0, []),
  (119, .aload 4, 4, 0, 0, []),
  (121, .ifnonnull 7, 65, 0, 0, []),
  (124, .iconst (-1), 0, 0, (-1), []),
  (125, .goto 17, 72, 0, 0, []),
  (128, .aload 4, 4, 0, 0, []),
  (130, .aload_n 0, 0, 0, 0, []),
  (131, .getfield 10, 0, 11, 0, [0]),
  (134, .getfield 72, 0, 1, 0, [0]),
  (137, .iload_n 1, 1, 0, 0, []),
  (138, .iaload, 0, 0, 0, []),
  (139, .invokevirtual 333, 9, 1, 0, [3, 1]),
  (142, .istore 5, 5, 0, 0, []),
  (144, .aload_n 0, 0, 0, 0, []),
  (145, .iload 5, 5, 0, 0, []),
  (147, .invokevirtual 123, 113, 1, 0, [11]),
  (150, .ifCond .eq 13, 82, 0, 0, []),
  (153, .aload_n 0, 0, 0, 0, []),
  (154, .getfield 55, 8, 11, 0, [0]),
  (157, .iload_n 3, 3, 0, 0, []),
  (158, .iload 5, 5, 0, 0, []),
  (160, .invokevirtual 336, 44, 2, 0, [9]),
  (163, .iinc 3 1, 3, 0, 1, []),
  (166, .goto (-65), 52, 0, 0, []),
  (169, .aload_n 0, 0, 0, 0, []),
  (170, .getfield 55, 8, 11, 0, [0]),
  (173, .invokevirtual 339, 45, 0, 0, [9]),
  (176, .iconst 0, 0, 0, 0, []),
  (177, .istore_n 3, 3, 0, 0, []),
  (178, .iload_n 3, 3, 0, 0, []),
  (179, .aload_n 0, 0, 0, 0, []),
  (180, .getfield 10, 0, 11, 0, [0]),
  (183, .getfield 113, 2, 1, 0, []),
  (186, .if_icmp .ge 28, 107, 0, 0, []),
  (189, .aload_n 0, 0, 0, 0, []),
  (190, .getfield 55, 8, 11, 0, [0]),
  (193, .iload_n 3, 3, 0, 0, []),
  (194, .aload_n 0, 0, 0, 0, []),
  (195, .getfield 10, 0, 11, 0, [0]),
  (198, .getfield 116, 1, 1, 0, [0]),
  (201, .iload_n 3, 3, 0, 0, []),
  (202, .aaload, 0, 0, 0, []),
  (203, .iload_n 1, 1, 0, 0, []),
  (204, .iaload, 0, 0, 0, []),
  (205, .invokevirtual 228, 48, 2, 0, [9]),
  (208, .iinc 3 1, 3, 0, 1, []),
  (211, .goto (-33), 89, 0, 0, []),
  (214, .return_, 0, 0, 0, [])]
set_option maxRecDepth 100000 in
noncomputable def zc_X11_lookWithCosts : List zE := [(0, .aload_n 0, 0, 0, 0, []),
  (1, .iload_n 1, 1, 0, 0, []),
  (2, .aload_n 0, 0, 0, 0, []),
  (3, .invokevirtual 148, 117, 0, 0, [11]),
  (6, .invokevirtual 174, 125, 2, 0, [11]),
  (9, .iconst 0, 0, 0, 0, []),
  (10, .istore_n 2, 2, 0, 0, []),
  (11, .iload_n 2, 2, 0, 0, []),
  (12, .aload_n 0, 0, 0, 0, []),
  (13, .getfield 10, 0, 11, 0, [0]),
  (16, .getfield 113, 2, 1, 0, []),
  (19, .if_icmp .ge 46, 35, 0, 0, []),
  (22, .iconst 0, 0, 0, 0, []),
  (23, .istore_n 3, 3, 0, 0, []),
  (24, .iload_n 3, 3, 0, 0, []),
  (25, .aload_n 0, 0, 0, 0, []),
  (26, .getfield 10, 0, 11, 0, [0]),
  (29, .getfield 126, 3, 1, 0, []),
  (32, .if_icmp .ge 27, 33, 0, 0, []),
  (35, .aload_n 0, 0, 0, 0, []),
  (36, .getfield 55, 8, 11, 0, [0]),
  (39, .getfield 342, 4, 9, 0, [0]),
  (42, .iload_n 2, 2, 0, 0, []),
  (43, .aaload, 0, 0, 0, []),
  (44, .iload_n 3, 3, 0, 0, []),
  (45, .aload_n 0, 0, 0, 0, []),
  (46, .iload_n 2, 2, 0, 0, []),
  (47, .iload_n 1, 1, 0, 0, []),
  (48, .iload_n 3, 3, 0, 0, []),
  (49, .invokevirtual 195, 123, 3, 0, [11]),
  (52, .iastore, 0, 0, 0, []),
  (53, .iinc 3 1, 3, 0, 1, []),
  (56, .goto (-32), 14, 0, 0, []),
  (59, .iinc 2 1, 2, 0, 1, []),
  (62, .goto (-51), 7, 0, 0, []),
  (65, .return_, 0, 0, 0, [])]
set_option maxRecDepth 100000 in
noncomputable def zc_X11_lookForStorms : List zE := [(0, .aload_n 0, 0, 0, 0, []),
  (1, .iload_n 1, 1, 0, 0, []),
  (2, .aload_n 0, 0, 0, 0, []),
  (3, .invokevirtual 148, 117, 0, 0, [11]),
  (6, .invokevirtual 174, 125, 2, 0, [11]),
  (9, .iconst 0, 0, 0, 0, []),
  (10, .istore_n 2, 2, 0, 0, []),
  (11, .iload_n 2, 2, 0, 0, []),
  (12, .aload_n 0, 0, 0, 0, []),
  (13, .getfield 10, 0, 11, 0, [0]),
  (16, .getfield 113, 2, 1, 0, []),
  (19, .if_icmp .ge 21, 22, 0, 0, []),
  (22, .aload_n 0, 0, 0, 0, []),
  (23, .getfield 66, 11, 11, 0, [0]),
  (26, .iload_n 2, 2, 0, 0, []),
  (27, .aload_n 0, 0, 0, 0, []),
  (28, .iload_n 2, 2, 0, 0, []),
  (29, .iload_n 1, 1, 0, 0, []),
  (30, .invokevirtual 345, 124, 2, 0, [11]),
  (33, .iastore, 0, 0, 0, []),
  (34, .iinc 2 1, 2, 0, 1, []),
  (37, .goto (-26), 7, 0, 0, []),
  (40, .return_, 0, 0, 0, [])]
set_option maxRecDepth 100000 in
noncomputable def zc_X11_keptBy : List zE := [(0, .iconst 0, 0, 0, 0, []),
  (1, .istore_n 2, 2, 0, 0, []),
  (2, .iload_n 1, 1, 0, 0, []),
  (3, .i2l, 0, 0, 0, []),
  (4, .lconst 1, 1, 0, 0, []),
  (5, .ladd, 0, 0, 0, []),
  (6, .lstore_n 3, 3, 0, 0, []),
  (7, .iconst 0, 0, 0, 0, []),
  (8, .istore 5, 5, 0, 0, []),
  (10, .iload 5, 5, 0, 0, []),
  (12, .aload_n 0, 0, 0, 0, []),
  (13, .getfield 10, 0, 11, 0, [0]),
  (16, .getfield 113, 2, 1, 0, []),
  (19, .if_icmp .ge 43, 38, 0, 0, []),
  (22, .lload_n 3, 3, 0, 0, []),
  (23, .ldc2_w 348, 48271, 0, 0, []),
  (26, .lmul, 0, 0, 0, []),
  (27, .ldc2_w 350, 2147483647, 0, 0, []),
  (30, .lrem, 0, 0, 0, []),
  (31, .lstore_n 3, 3, 0, 0, []),
  (32, .lload_n 3, 3, 0, 0, []),
  (33, .ldc2_w 352, 100, 0, 0, []),
  (36, .lrem, 0, 0, 0, []),
  (37, .aload_n 0, 0, 0, 0, []),
  (38, .getfield 66, 11, 11, 0, [0]),
  (41, .iload 5, 5, 0, 0, []),
  (43, .iaload, 0, 0, 0, []),
  (44, .i2l, 0, 0, 0, []),
  (45, .lcmp, 0, 0, 0, []),
  (46, .ifCond .ge 10, 36, 0, 0, []),
  (49, .iload_n 2, 2, 0, 0, []),
  (50, .iconst 1, 0, 0, 1, []),
  (51, .iload 5, 5, 0, 0, []),
  (53, .ishl, 0, 0, 0, []),
  (54, .ior, 0, 0, 0, []),
  (55, .istore_n 2, 2, 0, 0, []),
  (56, .iinc 5 1, 5, 0, 1, []),
  (59, .goto (-49), 9, 0, 0, []),
  (62, .iload_n 2, 2, 0, 0, []),
  (63, .ireturn, 0, 0, 0, [])]
set_option maxRecDepth 100000 in
noncomputable def zc_X11_gainBy : List zE := [(0, .aload_n 0, 0, 0, 0, []),
  (1, .iload_n 1, 1, 0, 0, []),
  (2, .invokevirtual 272, 128, 1, 0, [11]),
  (5, .istore 4, 4, 0, 0, []),
  (7, .iconst 0, 0, 0, 0, []),
  (8, .istore 5, 5, 0, 0, []),
  (10, .iload 5, 5, 0, 0, []),
  (12, .aload_n 0, 0, 0, 0, []),
  (13, .getfield 10, 0, 11, 0, [0]),
  (16, .getfield 113, 2, 1, 0, []),
  (19, .if_icmp .ge 45, 33, 0, 0, []),
  (22, .aload_n 0, 0, 0, 0, []),
  (23, .getfield 55, 8, 11, 0, [0]),
  (26, .iload 5, 5, 0, 0, []),
  (28, .iload 4, 4, 0, 0, []),
  (30, .iload 5, 5, 0, 0, []),
  (32, .ishr, 0, 0, 0, []),
  (33, .iconst 1, 0, 0, 1, []),
  (34, .iand, 0, 0, 0, []),
  (35, .iconst 1, 0, 0, 1, []),
  (36, .if_icmp .ne 7, 23, 0, 0, []),
  (39, .iconst (-1), 0, 0, (-1), []),
  (40, .goto 15, 30, 0, 0, []),
  (43, .aload_n 0, 0, 0, 0, []),
  (44, .getfield 10, 0, 11, 0, [0]),
  (47, .getfield 116, 1, 1, 0, [0]),
  (50, .iload 5, 5, 0, 0, []),
  (52, .aaload, 0, 0, 0, []),
  (53, .iload_n 3, 3, 0, 0, []),
  (54, .iaload, 0, 0, 0, []),
  (55, .invokevirtual 228, 48, 2, 0, [9]),
  (58, .iinc 5 1, 5, 0, 1, []),
  (61, .goto (-51), 6, 0, 0, []),
  (64, .aload_n 0, 0, 0, 0, []),
  (65, .getfield 55, 8, 11, 0, [0]),
  (68, .iload_n 2, 2, 0, 0, []),
  (69, .invokevirtual 192, 50, 1, 0, [9]),
  (72, .ireturn, 0, 0, 0, [])]
set_option maxRecDepth 100000 in
noncomputable def zc_X11_greatestDivisor : List zE := [(0, .iconst 0, 0, 0, 0, []),
  (1, .istore 4, 4, 0, 0, []),
  (3, .iload 4, 4, 0, 0, []),
  (5, .bipush 100, 0, 0, 100, []),
  (7, .if_icmp .ge 25, 19, 0, 0, []),
  (10, .lload_n 2, 2, 0, 0, []),
  (11, .lconst 0, 0, 0, 0, []),
  (12, .lcmp, 0, 0, 0, []),
  (13, .ifCond .eq 19, 19, 0, 0, []),
  (16, .lload_n 0, 0, 0, 0, []),
  (17, .lload_n 2, 2, 0, 0, []),
  (18, .lrem, 0, 0, 0, []),
  (19, .lstore 5, 5, 0, 0, []),
  (21, .lload_n 2, 2, 0, 0, []),
  (22, .lstore_n 0, 0, 0, 0, []),
  (23, .lload 5, 5, 0, 0, []),
  (25, .lstore_n 2, 2, 0, 0, []),
  (26, .iinc 4 1, 4, 0, 1, []),
  (29, .goto (-26), 2, 0, 0, []),
  (32, .lload_n 0, 0, 0, 0, []),
  (33, .lreturn, 0, 0, 0, [])]
set_option maxRecDepth 100000 in
noncomputable def zc_X11_partIslands : List zE := [(0, .aload_n 0, 0, 0, 0, []),
  (1, .iload_n 1, 1, 0, 0, []),
  (2, .aload_n 0, 0, 0, 0, []),
  (3, .invokevirtual 148, 117, 0, 0, [11]),
  (6, .invokevirtual 174, 125, 2, 0, [11]),
  (9, .aload_n 0, 0, 0, 0, []),
  (10, .getfield 69, 12, 11, 0, [0]),
  (13, .iconst 0, 0, 0, 0, []),
  (14, .invokestatic 75, 224, 2, 0, []),
  (17, .aload_n 0, 0, 0, 0, []),
  (18, .getfield 10, 0, 11, 0, [0]),
  (21, .getfield 113, 2, 1, 0, []),
  (24, .istore 4, 4, 0, 0, []),
  (26, .iconst 0, 0, 0, 0, []),
  (27, .istore 5, 5, 0, 0, []),
  (29, .iconst 0, 0, 0, 0, []),
  (30, .istore 6, 6, 0, 0, []),
  (32, .iload 6, 6, 0, 0, []),
  (34, .bipush 6, 0, 0, 6, []),
  (36, .if_icmp .ge 115, 82, 0, 0, []),
  (39, .iload 4, 4, 0, 0, []),
  (41, .ifCond .le 110, 82, 0, 0, []),
  (44, .aload_n 0, 0, 0, 0, []),
  (45, .getfield 55, 8, 11, 0, [0]),
  (48, .iload 5, 5, 0, 0, []),
  (50, .invokevirtual 354, 58, 1, 0, [9]),
  (53, .istore 7, 7, 0, 0, []),
  (55, .iload 7, 7, 0, 0, []),
  (57, .iconst (-1), 0, 0, (-1), []),
  (58, .if_icmp .ne 6, 31, 0, 0, []),
  (61, .goto 90, 82, 0, 0, []),
  (64, .iload_n 3, 3, 0, 0, []),
  (65, .ifCond .eq 18, 42, 0, 0, []),
  (68, .iload 6, 6, 0, 0, []),
  (70, .iload 4, 4, 0, 0, []),
  (72, .idiv, 0, 0, 0, []),
  (73, .iconst 2, 0, 0, 2, []),
  (74, .irem, 0, 0, 0, []),
  (75, .iconst 1, 0, 0, 1, []),
  (76, .if_icmp .ne 7, 42, 0, 0, []),
  (79, .iconst 1, 0, 0, 1, []),
  (80, .goto 4, 43, 0, 0, []),
  (83, .iconst 0, 0, 0, 0, []),
  (84, .istore 8, 8, 0, 0, []),
  (86, .iload 8, 8, 0, 0, []),
  (88, .ifCond .eq 16, 54, 0, 0, []),
  (91, .iload 4, 4, 0, 0, []),
  (93, .iconst 1, 0, 0, 1, []),
  (94, .isub, 0, 0, 0, []),
  (95, .iload 6, 6, 0, 0, []),
  (97, .iload 4, 4, 0, 0, []),
  (99, .irem, 0, 0, 0, []),
  (100, .isub, 0, 0, 0, []),
  (101, .goto 8, 57, 0, 0, []),
  (104, .iload 6, 6, 0, 0, []),
  (106, .iload 4, 4, 0, 0, []),
  (108, .irem, 0, 0, 0, []),
  (109, .istore 9, 9, 0, 0, []),
  (111, .aload_n 0, 0, 0, 0, []),
  (112, .getfield 69, 12, 11, 0, [0]),
  (115, .iload_n 2, 2, 0, 0, []),
  (116, .iload 9, 9, 0, 0, []),
  (118, .iadd, 0, 0, 0, []),
  (119, .iload 4, 4, 0, 0, []),
  (121, .irem, 0, 0, 0, []),
  (122, .dup2, 0, 0, 0, []),
  (123, .iaload, 0, 0, 0, []),
  (124, .aload_n 0, 0, 0, 0, []),
  (125, .getfield 55, 8, 11, 0, [0]),
  (128, .getfield 178, 0, 9, 0, [0]),
  (131, .iload 7, 7, 0, 0, []),
  (133, .iaload, 0, 0, 0, []),
  (134, .iadd, 0, 0, 0, []),
  (135, .iastore, 0, 0, 0, []),
  (136, .iload 5, 5, 0, 0, []),
  (138, .iconst 1, 0, 0, 1, []),
  (139, .iload 7, 7, 0, 0, []),
  (141, .ishl, 0, 0, 0, []),
  (142, .ior, 0, 0, 0, []),
  (143, .istore 5, 5, 0, 0, []),
  (145, .iinc 6 1, 6, 0, 1, []),
  (148, .goto (-116), 17, 0, 0, []),
  (151, .return_, 0, 0, 0, [])]
set_option maxRecDepth 100000 in
noncomputable def zc_X11_firstOtherwise : List zE := [(0, .iconst 0, 0, 0, 0, []),
  (1, .istore_n 2, 2, 0, 0, []),
  (2, .iload_n 2, 2, 0, 0, []),
  (3, .aload_n 0, 0, 0, 0, []),
  (4, .getfield 10, 0, 11, 0, [0]),
  (7, .getfield 126, 3, 1, 0, []),
  (10, .if_icmp .ge 28, 20, 0, 0, []),
  (13, .aload_n 1, 1, 0, 0, []),
  (14, .getfield 297, 0, 6, 0, [0]),
  (17, .iload_n 2, 2, 0, 0, []),
  (18, .iaload, 0, 0, 0, []),
  (19, .aload_n 0, 0, 0, 0, []),
  (20, .getfield 55, 8, 11, 0, [0]),
  (23, .iload_n 2, 2, 0, 0, []),
  (24, .invokevirtual 188, 49, 1, 0, [9]),
  (27, .if_icmp .eq 5, 18, 0, 0, []),
  (30, .iload_n 2, 2, 0, 0, []),
  (31, .ireturn, 0, 0, 0, []),
  (32, .iinc 2 1, 2, 0, 1, []),
  (35, .goto (-33), 2, 0, 0, []),
  (38, .iconst (-1), 0, 0, (-1), []),
  (39, .ireturn, 0, 0, 0, [])]
set_option maxRecDepth 100000 in
noncomputable def zc_X11_newIsland : List zE := [(0, .iload_n 0, 0, 0, 0, []),
  (1, .tableswitch 95 1 5 #[35, 47, 59, 71, 83], 42, 35, 1, [2, 10, 18, 26, 34]),
  (36, .new 357, 2, 4, 0, []),
  (39, .dup, 0, 0, 0, []),
  (40, .iload_n 0, 0, 0, 0, []),
  (41, .iload_n 1, 1, 0, 0, []),
  (42, .iload_n 2, 2, 0, 0, []),
  (43, .iload_n 3, 3, 0, 0, []),
  (44, .invokespecial 359, 4, 4, 0, [2]),
  (47, .areturn, 0, 0, 0, []),
  (48, .new 362, 4, 4, 0, []),
  (51, .dup, 0, 0, 0, []),
  (52, .iload_n 0, 0, 0, 0, []),
  (53, .iload_n 1, 1, 0, 0, []),
  (54, .iload_n 2, 2, 0, 0, []),
  (55, .iload_n 3, 3, 0, 0, []),
  (56, .invokespecial 364, 10, 4, 0, [4]),
  (59, .areturn, 0, 0, 0, []),
  (60, .new 365, 10, 4, 0, []),
  (63, .dup, 0, 0, 0, []),
  (64, .iload_n 0, 0, 0, 0, []),
  (65, .iload_n 1, 1, 0, 0, []),
  (66, .iload_n 2, 2, 0, 0, []),
  (67, .iload_n 3, 3, 0, 0, []),
  (68, .invokespecial 367, 62, 4, 0, [10]),
  (71, .areturn, 0, 0, 0, []),
  (72, .new 368, 5, 4, 0, []),
  (75, .dup, 0, 0, 0, []),
  (76, .iload_n 0, 0, 0, 0, []),
  (77, .iload_n 1, 1, 0, 0, []),
  (78, .iload_n 2, 2, 0, 0, []),
  (79, .iload_n 3, 3, 0, 0, []),
  (80, .invokespecial 370, 12, 4, 0, [5]),
  (83, .areturn, 0, 0, 0, []),
  (84, .new 371, 0, 4, 0, []),
  (87, .dup, 0, 0, 0, []),
  (88, .iload_n 0, 0, 0, 0, []),
  (89, .iload_n 1, 1, 0, 0, []),
  (90, .iload_n 2, 2, 0, 0, []),
  (91, .iload_n 3, 3, 0, 0, []),
  (92, .invokespecial 373, 0, 4, 0, [0]),
  (95, .areturn, 0, 0, 0, []),
  (96, .new 23, 3, 4, 0, []),
  (99, .dup, 0, 0, 0, []),
  (100, .iload_n 0, 0, 0, 0, []),
  (101, .iload_n 1, 1, 0, 0, []),
  (102, .iload_n 2, 2, 0, 0, []),
  (103, .iload_n 3, 3, 0, 0, []),
  (104, .invokespecial 374, 6, 4, 0, [3]),
  (107, .areturn, 0, 0, 0, [])]
set_option maxRecDepth 100000 in
noncomputable def zc_X11_isOfKind : List zE := [(0, .iload_n 1, 1, 0, 0, []),
  (1, .tableswitch 66 0 5 #[39, 41, 46, 51, 56, 61], 19, 39, 0, [2, 4, 7, 10, 13, 16]),
  (40, .iconst 1, 0, 0, 1, []),
  (41, .ireturn, 0, 0, 0, [2]),
  (42, .aload_n 0, 0, 0, 0, []),
  (43, .instanceof 357, 2, 0, 0, []),
  (46, .ireturn, 0, 0, 0, [2]),
  (47, .aload_n 0, 0, 0, 0, []),
  (48, .instanceof 362, 4, 0, 0, []),
  (51, .ireturn, 0, 0, 0, [2]),
  (52, .aload_n 0, 0, 0, 0, []),
  (53, .instanceof 365, 10, 0, 0, []),
  (56, .ireturn, 0, 0, 0, [2]),
  (57, .aload_n 0, 0, 0, 0, []),
  (58, .instanceof 368, 5, 0, 0, []),
  (61, .ireturn, 0, 0, 0, [2]),
  (62, .aload_n 0, 0, 0, 0, []),
  (63, .instanceof 371, 0, 0, 0, []),
  (66, .ireturn, 0, 0, 0, [2]),
  (67, .iconst 0, 0, 0, 0, []),
  (68, .ireturn, 0, 0, 0, [2])]
set_option maxRecDepth 100000 in
noncomputable def zc_X12_init : List zE := [(0, .aload_n 0, 0, 0, 0, []),
  (1, .invokespecial 1, 0, 0, 0, []),
  (4, .aload_n 0, 0, 0, 0, []),
  (5, .bipush 12, 0, 0, 12, []),
  (7, .newarray .int, 20, 0, 0, []),
  (9, .dup, 0, 0, 0, []),
  (10, .iconst 0, 0, 0, 0, []),
  (11, .iconst 5, 0, 0, 5, []),
  (12, .iastore, 0, 0, 0, []),
  (13, .dup, 0, 0, 0, []),
  (14, .iconst 1, 0, 0, 1, []),
  (15, .iconst 5, 0, 0, 5, []),
  (16, .iastore, 0, 0, 0, []),
  (17, .dup, 0, 0, 0, []),
  (18, .iconst 2, 0, 0, 2, []),
  (19, .iconst 5, 0, 0, 5, []),
  (20, .iastore, 0, 0, 0, []),
  (21, .dup, 0, 0, 0, []),
  (22, .iconst 3, 0, 0, 3, []),
  (23, .iconst 5, 0, 0, 5, []),
  (24, .iastore, 0, 0, 0, []),
  (25, .dup, 0, 0, 0, []),
  (26, .iconst 4, 0, 0, 4, []),
  (27, .iconst 5, 0, 0, 5, []),
  (28, .iastore, 0, 0, 0, []),
  (29, .dup, 0, 0, 0, []),
  (30, .iconst 5, 0, 0, 5, []),
  (31, .iconst 5, 0, 0, 5, []),
  (32, .iastore, 0, 0, 0, []),
  (33, .dup, 0, 0, 0, []),
  (34, .bipush 6, 0, 0, 6, []),
  (36, .iconst 5, 0, 0, 5, []),
  (37, .iastore, 0, 0, 0, []),
  (38, .dup, 0, 0, 0, []),
  (39, .bipush 7, 0, 0, 7, []),
  (41, .iconst 5, 0, 0, 5, []),
  (42, .iastore, 0, 0, 0, []),
  (43, .dup, 0, 0, 0, []),
  (44, .bipush 8, 0, 0, 8, []),
  (46, .iconst 5, 0, 0, 5, []),
  (47, .iastore, 0, 0, 0, []),
  (48, .dup, 0, 0, 0, []),
  (49, .bipush 9, 0, 0, 9, []),
  (51, .iconst 5, 0, 0, 5, []),
  (52, .iastore, 0, 0, 0, []),
  (53, .dup, 0, 0, 0, []),
  (54, .bipush 10, 0, 0, 10, []),
  (56, .iconst 5, 0, 0, 5, []),
  (57, .iastore, 0, 0, 0, []),
  (58, .dup, 0, 0, 0, []),
  (59, .bipush 11, 0, 0, 11, []),
  (61, .iconst 5, 0, 0, 5, []),
  (62, .iastore, 0, 0, 0, []),
  (63, .putfield 7, 0, 12, 0, [0]),
  (66, .aload_n 0, 0, 0, 0, []),
  (67, .bipush 6, 0, 0, 6, []),
  (69, .newarray .int, 20, 0, 0, []),
  (71, .putfield 13, 2, 12, 0, [0]),
  (74, .aload_n 0, 0, 0, 0, []),
  (75, .bipush 6, 0, 0, 6, []),
  (77, .newarray .int, 20, 0, 0, []),
  (79, .putfield 16, 3, 12, 0, [0]),
  (82, .aload_n 0, 0, 0, 0, []),
  (83, .bipush 6, 0, 0, 6, []),
  (85, .newarray .int, 20, 0, 0, []),
  (87, .putfield 19, 4, 12, 0, [0]),
  (90, .aload_n 0, 0, 0, 0, []),
  (91, .bipush 6, 0, 0, 6, []),
  (93, .newarray .int, 20, 0, 0, []),
  (95, .putfield 22, 5, 12, 0, [0]),
  (98, .aload_n 0, 0, 0, 0, []),
  (99, .bipush 48, 0, 0, 48, []),
  (101, .newarray .int, 20, 0, 0, []),
  (103, .putfield 25, 7, 12, 0, [0]),
  (106, .aload_n 0, 0, 0, 0, []),
  (107, .sipush 160, 0, 0, 160, []),
  (110, .newarray .int, 20, 0, 0, []),
  (112, .putfield 28, 8, 12, 0, [0]),
  (115, .aload_n 0, 0, 0, 0, []),
  (116, .sipush 1200, 0, 0, 1200, []),
  (119, .newarray .int, 20, 0, 0, []),
  (121, .putfield 31, 10, 12, 0, [0]),
  (124, .aload_n 0, 0, 0, 0, []),
  (125, .bipush 24, 0, 0, 24, []),
  (127, .newarray .int, 20, 0, 0, []),
  (129, .putfield 34, 11, 12, 0, [0]),
  (132, .aload_n 0, 0, 0, 0, []),
  (133, .bipush 12, 0, 0, 12, []),
  (135, .newarray .int, 20, 0, 0, []),
  (137, .putfield 37, 18, 12, 0, [0]),
  (140, .aload_n 0, 0, 0, 0, []),
  (141, .bipush 48, 0, 0, 48, []),
  (143, .newarray .int, 20, 0, 0, []),
  (145, .putfield 40, 19, 12, 0, [0]),
  (148, .aload_n 0, 0, 0, 0, []),
  (149, .iconst 4, 0, 0, 4, []),
  (150, .newarray .int, 20, 0, 0, []),
  (152, .dup, 0, 0, 0, []),
  (153, .iconst 0, 0, 0, 0, []),
  (154, .iconst (-1), 0, 0, (-1), []),
  (155, .iastore, 0, 0, 0, []),
  (156, .dup, 0, 0, 0, []),
  (157, .iconst 1, 0, 0, 1, []),
  (158, .iconst (-1), 0, 0, (-1), []),
  (159, .iastore, 0, 0, 0, []),
  (160, .dup, 0, 0, 0, []),
  (161, .iconst 2, 0, 0, 2, []),
  (162, .iconst (-1), 0, 0, (-1), []),
  (163, .iastore, 0, 0, 0, []),
  (164, .dup, 0, 0, 0, []),
  (165, .iconst 3, 0, 0, 3, []),
  (166, .iconst (-1), 0, 0, (-1), []),
  (167, .iastore, 0, 0, 0, []),
  (168, .putfield 43, 20, 12, 0, [0]),
  (171, .aload_n 0, 0, 0, 0, []),
  (172, .iconst 4, 0, 0, 4, []),
  (173, .newarray .int, 20, 0, 0, []),
  (175, .putfield 46, 21, 12, 0, [0]),
  (178, .aload_n 0, 0, 0, 0, []),
  (179, .sipush 160, 0, 0, 160, []),
  (182, .newarray .int, 20, 0, 0, []),
  (184, .putfield 49, 22, 12, 0, [0]),
  (187, .aload_n 0, 0, 0, 0, []),
  (188, .bipush 43, 0, 0, 43, []),
  (190, .newarray .int, 20, 0, 0, []),
  (192, .dup, 0, 0, 0, []),
  (193, .iconst 0, 0, 0, 0, []),
  (194, .bipush 119, 0, 0, 119, []),
  (196, .iastore, 0, 0, 0, []),
  (197, .dup, 0, 0, 0, []),
  (198, .iconst 1, 0, 0, 1, []),
  (199, .bipush 111, 0, 0, 111, []),
  (201, .iastore, 0, 0, 0, []),
  (202, .dup, 0, 0, 0, []),
  (203, .iconst 2, 0, 0, 2, []),
  (204, .bipush 114, 0, 0, 114, []),
  (206, .iastore, 0, 0, 0, []),
  (207, .dup, 0, 0, 0, []),
  (208, .iconst 3, 0, 0, 3, []),
  (209, .bipush 116, 0, 0, 116, []),
  (211, .iastore, 0, 0, 0, []),
  (212, .dup, 0, 0, 0, []),
  (213, .iconst 4, 0, 0, 4, []),
  (214, .bipush 104, 0, 0, 104, []),
  (216, .iastore, 0, 0, 0, []),
  (217, .dup, 0, 0, 0, []),
  (218, .iconst 5, 0, 0, 5, []),
  (219, .bipush 32, 0, 0, 32, []),
  (221, .iastore, 0, 0, 0, []),
  (222, .dup, 0, 0, 0, []),
  (223, .bipush 6, 0, 0, 6, []),
  (225, .bipush 116, 0, 0, 116, []),
  (227, .iastore, 0, 0, 0, []),
  (228, .dup, 0, 0, 0, []),
  (229, .bipush 7, 0, 0, 7, []),
  (231, .bipush 111, 0, 0, 111, []),
  (233, .iastore, 0, 0, 0, []),
  (234, .dup, 0, 0, 0, []),
  (235, .bipush 8, 0, 0, 8, []),
  (237, .bipush 108, 0, 0, 108, []),
  (239, .iastore, 0, 0, 0, []),
  (240, .dup, 0, 0, 0, []),
  (241, .bipush 9, 0, 0, 9, []),
  (243, .bipush 100, 0, 0, 100, []),
  (245, .iastore, 0, 0, 0, []),
  (246, .dup, 0, 0, 0, []),
  (247, .bipush 10, 0, 0, 10, []),
  (249, .bipush 32, 0, 0, 32, []),
  (251, .iastore, 0, 0, 0, []),
  (252, .dup, 0, 0, 0, []),
  (253, .bipush 11, 0, 0, 11, []),
  (255, .bipush 59, 0, 0, 59, []),
  (257, .iastore, 0, 0, 0, []),
  (258, .dup, 0, 0, 0, []),
  (259, .bipush 12, 0, 0, 12, []),
  (261, .bipush 32, 0, 0, 32, []),
  (263, .iastore, 0, 0, 0, []),
  (264, .dup, 0, 0, 0, []),
  (265, .bipush 13, 0, 0, 13, []),
  (267, .bipush 99, 0, 0, 99, []),
  (269, .iastore, 0, 0, 0, []),
  (270, .dup, 0, 0, 0, []),
  (271, .bipush 14, 0, 0, 14, []),
  (273, .bipush 111, 0, 0, 111, []),
  (275, .iastore, 0, 0, 0, []),
  (276, .dup, 0, 0, 0, []),
  (277, .bipush 15, 0, 0, 15, []),
  (279, .bipush 115, 0, 0, 115, []),
  (281, .iastore, 0, 0, 0, []),
  (282, .dup, 0, 0, 0, []),
  (283, .bipush 16, 0, 0, 16, []),
  (285, .bipush 116, 0, 0, 116, []),
  (287, .iastore, 0, 0, 0, []),
  (288, .dup, 0, 0, 0, []),
  (289, .bipush 17, 0, 0, 17, []),
  (291, .bipush 115, 0, 0, 115, []),
  (293, .iastore, 0, 0, 0, []),
  (294, .dup, 0, 0, 0, []),
  (295, .bipush 18, 0, 0, 18, []),
  (297, .bipush 32, 0, 0, 32, []),
  (299, .iastore, 0, 0, 0, []),
  (300, .dup, 0, 0, 0, []),
  (301, .bipush 19, 0, 0, 19, []),
  (303, .bipush 102, 0, 0, 102, []),
  (305, .iastore, 0, 0, 0, []),
  (306, .dup, 0, 0, 0, []),
  (307, .bipush 20, 0, 0, 20, []),
  (309, .bipush 97, 0, 0, 97, []),
  (311, .iastore, 0, 0, 0, []),
  (312, .dup, 0, 0, 0, []),
  (313, .bipush 21, 0, 0, 21, []),
  (315, .bipush 114, 0, 0, 114, []),
  (317, .iastore, 0, 0, 0, []),
  (318, .dup, 0, 0, 0, []),
  (319, .bipush 22, 0, 0, 22, []),
  (321, .bipush 32, 0, 0, 32, []),
  (323, .iastore, 0, 0, 0, []),
  (324, .dup, 0, 0, 0, []),
  (325, .bipush 23, 0, 0, 23, []),
  (327, .bipush 59, 0, 0, 59, []),
  (329, .iastore, 0, 0, 0, []),
  (330, .dup, 0, 0, 0, []),
  (331, .bipush 24, 0, 0, 24, []),
  (333, .bipush 32, 0, 0, 32, []),
  (335, .iastore, 0, 0, 0, []),
  (336, .dup, 0, 0, 0, []),
  (337, .bipush 25, 0, 0, 25, []),
  (339, .bipush 115, 0, 0, 115, []),
  (341, .iastore, 0, 0, 0, []),
  (342, .dup, 0, 0, 0, []),
  (343, .bipush 26, 0, 0, 26, []),
  (345, .bipush 116, 0, 0, 116, []),
  (347, .iastore, 0, 0, 0, []),
  (348, .dup, 0, 0, 0, []),
  (349, .bipush 27, 0, 0, 27, []),
  (351, .bipush 111, 0, 0, 111, []),
  (353, .iastore, 0, 0, 0, []),
  (354, .dup, 0, 0, 0, []),
  (355, .bipush 28, 0, 0, 28, []),
  (357, .bipush 114, 0, 0, 114, []),
  (359, .iastore, 0, 0, 0, []),
  (360, .dup, 0, 0, 0, []),
  (361, .bipush 29, 0, 0, 29, []),
  (363, .bipush 109, 0, 0, 109, []),
  (365, .iastore, 0, 0, 0, []),
  (366, .dup, 0, 0, 0, []),
  (367, .bipush 30, 0, 0, 30, []),
  (369, .bipush 32, 0, 0, 32, []),
  (371, .iastore, 0, 0, 0, []),
  (372, .dup, 0, 0, 0, []),
  (373, .bipush 31, 0, 0, 31, []),
  (375, .bipush 104, 0, 0, 104, []),
  (377, .iastore, 0, 0, 0, []),
  (378, .dup, 0, 0, 0, []),
  (379, .bipush 32, 0, 0, 32, []),
  (381, .bipush 101, 0, 0, 101, []),
  (383, .iastore, 0, 0, 0, []),
  (384, .dup, 0, 0, 0, []),
  (385, .bipush 33, 0, 0, 33, []),
  (387, .bipush 105, 0, 0, 105, []),
  (389, .iastore, 0, 0, 0, []),
  (390, .dup, 0, 0, 0, []),
  (391, .bipush 34, 0, 0, 34, []),
  (393, .bipush 103, 0, 0, 103, []),
  (395, .iastore, 0, 0, 0, []),
  (396, .dup, 0, 0, 0, []),
  (397, .bipush 35, 0, 0, 35, []),
  (399, .bipush 104, 0, 0, 104, []),
  (401, .iastore, 0, 0, 0, []),
  (402, .dup, 0, 0, 0, []),
  (403, .bipush 36, 0, 0, 36, []),
  (405, .bipush 116, 0, 0, 116, []),
  (407, .iastore, 0, 0, 0, []),
  (408, .dup, 0, 0, 0, []),
  (409, .bipush 37, 0, 0, 37, []),
  (411, .bipush 32, 0, 0, 32, []),
  (413, .iastore, 0, 0, 0, []),
  (414, .dup, 0, 0, 0, []),
  (415, .bipush 38, 0, 0, 38, []),
  (417, .bipush 42, 0, 0, 42, []),
  (419, .iastore, 0, 0, 0, []),
  (420, .dup, 0, 0, 0, []),
  (421, .bipush 39, 0, 0, 39, []),
  (423, .bipush 32, 0, 0, 32, []),
  (425, .iastore, 0, 0, 0, []),
  (426, .dup, 0, 0, 0, []),
  (427, .bipush 40, 0, 0, 40, []),
  (429, .bipush 50, 0, 0, 50, []),
  (431, .iastore, 0, 0, 0, []),
  (432, .dup, 0, 0, 0, []),
  (433, .bipush 41, 0, 0, 41, []),
  (435, .bipush 32, 0, 0, 32, []),
  (437, .iastore, 0, 0, 0, []),
  (438, .dup, 0, 0, 0, []),
  (439, .bipush 42, 0, 0, 42, []),
  (441, .bipush 59, 0, 0, 59, []),
  (443, .iastore, 0, 0, 0, []),
  (444, .putfield 52, 23, 12, 0, [0]),
  (447, .aload_n 0, 0, 0, 0, []),
  (448, .bipush 96, 0, 0, 96, []),
  (450, .newarray .int, 20, 0, 0, []),
  (452, .dup, 0, 0, 0, []),
  (453, .iconst 0, 0, 0, 0, []),
  (454, .bipush 119, 0, 0, 119, []),
  (456, .iastore, 0, 0, 0, []),
  (457, .dup, 0, 0, 0, []),
  (458, .iconst 1, 0, 0, 1, []),
  (459, .bipush 111, 0, 0, 111, []),
  (461, .iastore, 0, 0, 0, []),
  (462, .dup, 0, 0, 0, []),
  (463, .iconst 2, 0, 0, 2, []),
  (464, .bipush 114, 0, 0, 114, []),
  (466, .iastore, 0, 0, 0, []),
  (467, .dup, 0, 0, 0, []),
  (468, .iconst 3, 0, 0, 3, []),
  (469, .bipush 116, 0, 0, 116, []),
  (471, .iastore, 0, 0, 0, []),
  (472, .dup, 0, 0, 0, []),
  (473, .iconst 4, 0, 0, 4, []),
  (474, .bipush 104, 0, 0, 104, []),
  (476, .iastore, 0, 0, 0, []),
  (477, .dup, 0, 0, 0, []),
  (478, .iconst 5, 0, 0, 5, []),
  (479, .bipush 32, 0, 0, 32, []),
  (481, .iastore, 0, 0, 0, []),
  (482, .dup, 0, 0, 0, []),
  (483, .bipush 6, 0, 0, 6, []),
  (485, .bipush 32, 0, 0, 32, []),
  (487, .iastore, 0, 0, 0, []),
  (488, .dup, 0, 0, 0, []),
  (489, .bipush 7, 0, 0, 7, []),
  (491, .bipush 32, 0, 0, 32, []),
  (493, .iastore, 0, 0, 0, []),
  (494, .dup, 0, 0, 0, []),
  (495, .bipush 8, 0, 0, 8, []),
  (497, .bipush 99, 0, 0, 99, []),
  (499, .iastore, 0, 0, 0, []),
  (500, .dup, 0, 0, 0, []),
  (501, .bipush 9, 0, 0, 9, []),
  (503, .bipush 111, 0, 0, 111, []),
  (505, .iastore, 0, 0, 0, []),
  (506, .dup, 0, 0, 0, []),
  (507, .bipush 10, 0, 0, 10, []),
  (509, .bipush 115, 0, 0, 115, []),
  (511, .iastore, 0, 0, 0, []),
  (512, .dup, 0, 0, 0, []),
  (513, .bipush 11, 0, 0, 11, []),
  (515, .bipush 116, 0, 0, 116, []),
  (517, .iastore, 0, 0, 0, []),
  (518, .dup, 0, 0, 0, []),
  (519, .bipush 12, 0, 0, 12, []),
  (521, .bipush 115, 0, 0, 115, []),
  (523, .iastore, 0, 0, 0, []),
  (524, .dup, 0, 0, 0, []),
  (525, .bipush 13, 0, 0, 13, []),
  (527, .bipush 32, 0, 0, 32, []),
  (529, .iastore, 0, 0, 0, []),
  (530, .dup, 0, 0, 0, []),
  (531, .bipush 14, 0, 0, 14, []),
  (533, .bipush 32, 0, 0, 32, []),
  (535, .iastore, 0, 0, 0, []),
  (536, .dup, 0, 0, 0, []),
  (537, .bipush 15, 0, 0, 15, []),
  (539, .bipush 32, 0, 0, 32, []),
  (541, .iastore, 0, 0, 0, []),
  (542, .dup, 0, 0, 0, []),
  (543, .bipush 16, 0, 0, 16, []),
  (545, .bipush 115, 0, 0, 115, []),
  (547, .iastore, 0, 0, 0, []),
  (548, .dup, 0, 0, 0, []),
  (549, .bipush 17, 0, 0, 17, []),
  (551, .bipush 116, 0, 0, 116, []),
  (553, .iastore, 0, 0, 0, []),
  (554, .dup, 0, 0, 0, []),
  (555, .bipush 18, 0, 0, 18, []),
  (557, .bipush 111, 0, 0, 111, []),
  (559, .iastore, 0, 0, 0, []),
  (560, .dup, 0, 0, 0, []),
  (561, .bipush 19, 0, 0, 19, []),
  (563, .bipush 114, 0, 0, 114, []),
  (565, .iastore, 0, 0, 0, []),
  (566, .dup, 0, 0, 0, []),
  (567, .bipush 20, 0, 0, 20, []),
  (569, .bipush 109, 0, 0, 109, []),
  (571, .iastore, 0, 0, 0, []),
  (572, .dup, 0, 0, 0, []),
  (573, .bipush 21, 0, 0, 21, []),
  (575, .bipush 32, 0, 0, 32, []),
  (577, .iastore, 0, 0, 0, []),
  (578, .dup, 0, 0, 0, []),
  (579, .bipush 22, 0, 0, 22, []),
  (581, .bipush 32, 0, 0, 32, []),
  (583, .iastore, 0, 0, 0, []),
  (584, .dup, 0, 0, 0, []),
  (585, .bipush 23, 0, 0, 23, []),
  (587, .bipush 32, 0, 0, 32, []),
  (589, .iastore, 0, 0, 0, []),
  (590, .dup, 0, 0, 0, []),
  (591, .bipush 24, 0, 0, 24, []),
  (593, .bipush 116, 0, 0, 116, []),
  (595, .iastore, 0, 0, 0, []),
  (596, .dup, 0, 0, 0, []),
  (597, .bipush 25, 0, 0, 25, []),
  (599, .bipush 111, 0, 0, 111, []),
  (601, .iastore, 0, 0, 0, []),
  (602, .dup, 0, 0, 0, []),
  (603, .bipush 26, 0, 0, 26, []),
  (605, .bipush 108, 0, 0, 108, []),
  (607, .iastore, 0, 0, 0, []),
  (608, .dup, 0, 0, 0, []),
  (609, .bipush 27, 0, 0, 27, []),
  (611, .bipush 100, 0, 0, 100, []),
  (613, .iastore, 0, 0, 0, []),
  (614, .dup, 0, 0, 0, []),
  (615, .bipush 28, 0, 0, 28, []),
  (617, .bipush 32, 0, 0, 32, []),
  (619, .iastore, 0, 0, 0, []),
  (620, .dup, 0, 0, 0, []),
  (621, .bipush 29, 0, 0, 29, []),
  (623, .bipush 32, 0, 0, 32, []),
  (625, .iastore, 0, 0, 0, []),
  (626, .dup, 0, 0, 0, []),
  (627, .bipush 30, 0, 0, 30, []),
  (629, .bipush 32, 0, 0, 32, []),
  (631, .iastore, 0, 0, 0, []),
  (632, .dup, 0, 0, 0, []),
  (633, .bipush 31, 0, 0, 31, []),
  (635, .bipush 32, 0, 0, 32, []),
  (637, .iastore, 0, 0, 0, []),
  (638, .dup, 0, 0, 0, []),
  (639, .bipush 32, 0, 0, 32, []),
  (641, .bipush 104, 0, 0, 104, []),
  (643, .iastore, 0, 0, 0, []),
  (644, .dup, 0, 0, 0, []),
  (645, .bipush 33, 0, 0, 33, []),
  (647, .bipush 101, 0, 0, 101, []),
  (649, .iastore, 0, 0, 0, []),
  (650, .dup, 0, 0, 0, []),
  (651, .bipush 34, 0, 0, 34, []),
  (653, .bipush 105, 0, 0, 105, []),
  (655, .iastore, 0, 0, 0, []),
  (656, .dup, 0, 0, 0, []),
  (657, .bipush 35, 0, 0, 35, []),
  (659, .bipush 103, 0, 0, 103, []),
  (661, .iastore, 0, 0, 0, []),
  (662, .dup, 0, 0, 0, []),
  (663, .bipush 36, 0, 0, 36, []),
  (665, .bipush 104, 0, 0, 104, []),
  (667, .iastore, 0, 0, 0, []),
  (668, .dup, 0, 0, 0, []),
  (669, .bipush 37, 0, 0, 37, []),
  (671, .bipush 116, 0, 0, 116, []),
  (673, .iastore, 0, 0, 0, []),
  (674, .dup, 0, 0, 0, []),
  (675, .bipush 38, 0, 0, 38, []),
  (677, .bipush 32, 0, 0, 32, []),
  (679, .iastore, 0, 0, 0, []),
  (680, .dup, 0, 0, 0, []),
  (681, .bipush 39, 0, 0, 39, []),
  (683, .bipush 32, 0, 0, 32, []),
  (685, .iastore, 0, 0, 0, []),
  (686, .dup, 0, 0, 0, []),
  (687, .bipush 40, 0, 0, 40, []),
  (689, .bipush 109, 0, 0, 109, []),
  (691, .iastore, 0, 0, 0, []),
  (692, .dup, 0, 0, 0, []),
  (693, .bipush 41, 0, 0, 41, []),
  (695, .bipush 111, 0, 0, 111, []),
  (697, .iastore, 0, 0, 0, []),
  (698, .dup, 0, 0, 0, []),
  (699, .bipush 42, 0, 0, 42, []),
  (701, .bipush 114, 0, 0, 114, []),
  (703, .iastore, 0, 0, 0, []),
  (704, .dup, 0, 0, 0, []),
  (705, .bipush 43, 0, 0, 43, []),
  (707, .bipush 101, 0, 0, 101, []),
  (709, .iastore, 0, 0, 0, []),
  (710, .dup, 0, 0, 0, []),
  (711, .bipush 44, 0, 0, 44, []),
  (713, .bipush 32, 0, 0, 32, []),
  (715, .iastore, 0, 0, 0, []),
  (716, .dup, 0, 0, 0, []),
  (717, .bipush 45, 0, 0, 45, []),
  (719, .bipush 32, 0, 0, 32, []),
  (721, .iastore, 0, 0, 0, []),
  (722, .dup, 0, 0, 0, []),
  (723, .bipush 46, 0, 0, 46, []),
  (725, .bipush 32, 0, 0, 32, []),
  (727, .iastore, 0, 0, 0, []),
  (728, .dup, 0, 0, 0, []),
  (729, .bipush 47, 0, 0, 47, []),
  (731, .bipush 32, 0, 0, 32, []),
  (733, .iastore, 0, 0, 0, []),
  (734, .dup, 0, 0, 0, []),
  (735, .bipush 48, 0, 0, 48, []),
  (737, .bipush 102, 0, 0, 102, []),
  (739, .iastore, 0, 0, 0, []),
  (740, .dup, 0, 0, 0, []),
  (741, .bipush 49, 0, 0, 49, []),
  (743, .bipush 97, 0, 0, 97, []),
  (745, .iastore, 0, 0, 0, []),
  (746, .dup, 0, 0, 0, []),
  (747, .bipush 50, 0, 0, 50, []),
  (749, .bipush 114, 0, 0, 114, []),
  (751, .iastore, 0, 0, 0, []),
  (752, .dup, 0, 0, 0, []),
  (753, .bipush 51, 0, 0, 51, []),
  (755, .bipush 32, 0, 0, 32, []),
  (757, .iastore, 0, 0, 0, []),
  (758, .dup, 0, 0, 0, []),
  (759, .bipush 52, 0, 0, 52, []),
  (761, .bipush 32, 0, 0, 32, []),
  (763, .iastore, 0, 0, 0, []),
  (764, .dup, 0, 0, 0, []),
  (765, .bipush 53, 0, 0, 53, []),
  (767, .bipush 32, 0, 0, 32, []),
  (769, .iastore, 0, 0, 0, []),
  (770, .dup, 0, 0, 0, []),
  (771, .bipush 54, 0, 0, 54, []),
  (773, .bipush 32, 0, 0, 32, []),
  (775, .iastore, 0, 0, 0, []),
  (776, .dup, 0, 0, 0, []),
  (777, .bipush 55, 0, 0, 55, []),
  (779, .bipush 32, 0, 0, 32, []),
  (781, .iastore, 0, 0, 0, []),
  (782, .dup, 0, 0, 0, []),
  (783, .bipush 56, 0, 0, 56, []),
  (785, .bipush 116, 0, 0, 116, []),
  (787, .iastore, 0, 0, 0, []),
  (788, .dup, 0, 0, 0, []),
  (789, .bipush 57, 0, 0, 57, []),
  (791, .bipush 105, 0, 0, 105, []),
  (793, .iastore, 0, 0, 0, []),
  (794, .dup, 0, 0, 0, []),
  (795, .bipush 58, 0, 0, 58, []),
  (797, .bipush 100, 0, 0, 100, []),
  (799, .iastore, 0, 0, 0, []),
  (800, .dup, 0, 0, 0, []),
  (801, .bipush 59, 0, 0, 59, []),
  (803, .bipush 101, 0, 0, 101, []),
  (805, .iastore, 0, 0, 0, []),
  (806, .dup, 0, 0, 0, []),
  (807, .bipush 60, 0, 0, 60, []),
  (809, .bipush 32, 0, 0, 32, []),
  (811, .iastore, 0, 0, 0, []),
  (812, .dup, 0, 0, 0, []),
  (813, .bipush 61, 0, 0, 61, []),
  (815, .bipush 32, 0, 0, 32, []),
  (817, .iastore, 0, 0, 0, []),
  (818, .dup, 0, 0, 0, []),
  (819, .bipush 62, 0, 0, 62, []),
  (821, .bipush 32, 0, 0, 32, []),
  (823, .iastore, 0, 0, 0, []),
  (824, .dup, 0, 0, 0, []),
  (825, .bipush 63, 0, 0, 63, []),
  (827, .bipush 32, 0, 0, 32, []),
  (829, .iastore, 0, 0, 0, []),
  (830, .dup, 0, 0, 0, []),
  (831, .bipush 64, 0, 0, 64, []),
  (833, .bipush 110, 0, 0, 110, []),
  (835, .iastore, 0, 0, 0, []),
  (836, .dup, 0, 0, 0, []),
  (837, .bipush 65, 0, 0, 65, []),
  (839, .bipush 117, 0, 0, 117, []),
  (841, .iastore, 0, 0, 0, []),
  (842, .dup, 0, 0, 0, []),
  (843, .bipush 66, 0, 0, 66, []),
  (845, .bipush 109, 0, 0, 109, []),
  (847, .iastore, 0, 0, 0, []),
  (848, .dup, 0, 0, 0, []),
  (849, .bipush 67, 0, 0, 67, []),
  (851, .bipush 98, 0, 0, 98, []),
  (853, .iastore, 0, 0, 0, []),
  (854, .dup, 0, 0, 0, []),
  (855, .bipush 68, 0, 0, 68, []),
  (857, .bipush 101, 0, 0, 101, []),
  (859, .iastore, 0, 0, 0, []),
  (860, .dup, 0, 0, 0, []),
  (861, .bipush 69, 0, 0, 69, []),
  (863, .bipush 114, 0, 0, 114, []),
  (865, .iastore, 0, 0, 0, []),
  (866, .dup, 0, 0, 0, []),
  (867, .bipush 70, 0, 0, 70, []),
  (869, .bipush 32, 0, 0, 32, []),
  (871, .iastore, 0, 0, 0, []),
  (872, .dup, 0, 0, 0, []),
  (873, .bipush 71, 0, 0, 71, []),
  (875, .bipush 32, 0, 0, 32, []),
  (877, .iastore, 0, 0, 0, []),
  (878, .dup, 0, 0, 0, []),
  (879, .bipush 72, 0, 0, 72, []),
  (881, .bipush 111, 0, 0, 111, []),
  (883, .iastore, 0, 0, 0, []),
  (884, .dup, 0, 0, 0, []),
  (885, .bipush 73, 0, 0, 73, []),
  (887, .bipush 114, 0, 0, 114, []),
  (889, .iastore, 0, 0, 0, []),
  (890, .dup, 0, 0, 0, []),
  (891, .bipush 74, 0, 0, 74, []),
  (893, .bipush 32, 0, 0, 32, []),
  (895, .iastore, 0, 0, 0, []),
  (896, .dup, 0, 0, 0, []),
  (897, .bipush 75, 0, 0, 75, []),
  (899, .bipush 32, 0, 0, 32, []),
  (901, .iastore, 0, 0, 0, []),
  (902, .dup, 0, 0, 0, []),
  (903, .bipush 76, 0, 0, 76, []),
  (905, .bipush 32, 0, 0, 32, []),
  (907, .iastore, 0, 0, 0, []),
  (908, .dup, 0, 0, 0, []),
  (909, .bipush 77, 0, 0, 77, []),
  (911, .bipush 32, 0, 0, 32, []),
  (913, .iastore, 0, 0, 0, []),
  (914, .dup, 0, 0, 0, []),
  (915, .bipush 78, 0, 0, 78, []),
  (917, .bipush 32, 0, 0, 32, []),
  (919, .iastore, 0, 0, 0, []),
  (920, .dup, 0, 0, 0, []),
  (921, .bipush 79, 0, 0, 79, []),
  (923, .bipush 32, 0, 0, 32, []),
  (925, .iastore, 0, 0, 0, []),
  (926, .dup, 0, 0, 0, []),
  (927, .bipush 80, 0, 0, 80, []),
  (929, .bipush 97, 0, 0, 97, []),
  (931, .iastore, 0, 0, 0, []),
  (932, .dup, 0, 0, 0, []),
  (933, .bipush 81, 0, 0, 81, []),
  (935, .bipush 110, 0, 0, 110, []),
  (937, .iastore, 0, 0, 0, []),
  (938, .dup, 0, 0, 0, []),
  (939, .bipush 82, 0, 0, 82, []),
  (941, .bipush 100, 0, 0, 100, []),
  (943, .iastore, 0, 0, 0, []),
  (944, .dup, 0, 0, 0, []),
  (945, .bipush 83, 0, 0, 83, []),
  (947, .bipush 32, 0, 0, 32, []),
  (949, .iastore, 0, 0, 0, []),
  (950, .dup, 0, 0, 0, []),
  (951, .bipush 84, 0, 0, 84, []),
  (953, .bipush 32, 0, 0, 32, []),
  (955, .iastore, 0, 0, 0, []),
  (956, .dup, 0, 0, 0, []),
  (957, .bipush 85, 0, 0, 85, []),
  (959, .bipush 32, 0, 0, 32, []),
  (961, .iastore, 0, 0, 0, []),
  (962, .dup, 0, 0, 0, []),
  (963, .bipush 86, 0, 0, 86, []),
  (965, .bipush 32, 0, 0, 32, []),
  (967, .iastore, 0, 0, 0, []),
  (968, .dup, 0, 0, 0, []),
  (969, .bipush 87, 0, 0, 87, []),
  (971, .bipush 32, 0, 0, 32, []),
  (973, .iastore, 0, 0, 0, []),
  (974, .dup, 0, 0, 0, []),
  (975, .bipush 88, 0, 0, 88, []),
  (977, .bipush 110, 0, 0, 110, []),
  (979, .iastore, 0, 0, 0, []),
  (980, .dup, 0, 0, 0, []),
  (981, .bipush 89, 0, 0, 89, []),
  (983, .bipush 111, 0, 0, 111, []),
  (985, .iastore, 0, 0, 0, []),
  (986, .dup, 0, 0, 0, []),
  (987, .bipush 90, 0, 0, 90, []),
  (989, .bipush 116, 0, 0, 116, []),
  (991, .iastore, 0, 0, 0, []),
  (992, .dup, 0, 0, 0, []),
  (993, .bipush 91, 0, 0, 91, []),
  (995, .bipush 32, 0, 0, 32, []),
  (997, .iastore, 0, 0, 0, []),
  (998, .dup, 0, 0, 0, []),
  (999, .bipush 92, 0, 0, 92, []),
  (1001, .bipush 32, 0, 0, 32, []),
  (1003, .iastore, 0, 0, 0, []),
  (1004, .dup, 0, 0, 0, []),
  (1005, .bipush 93, 0, 0, 93, []),
  (1007, .bipush 32, 0, 0, 32, []),
  (1009, .iastore, 0, 0, 0, []),
  (1010, .dup, 0, 0, 0, []),
  (1011, .bipush 94, 0, 0, 94, []),
  (1013, .bipush 32, 0, 0, 32, []),
  (1015, .iastore, 0, 0, 0, []),
  (1016, .dup, 0, 0, 0, []),
  (1017, .bipush 95, 0, 0, 95, []),
  (1019, .bipush 32, 0, 0, 32, []),
  (1021, .iastore, 0, 0, 0, []),
  (1022, .putfield 55, 28, 12, 0, [0]),
  (1025, .aload_n 0, 0, 0, 0, []),
  (1026, .sipush 200, 0, 0, 200, []),
  (1029, .newarray .int, 20, 0, 0, []),
  (1031, .putfield 58, 29, 12, 0, [0]),
  (1034, .aload_n 0, 0, 0, 0, []),
  (1035, .sipush 200, 0, 0, 200, []),
  (1038, .newarray .int, 20, 0, 0, []),
  (1040, .putfield 61, 33, 12, 0, [0]),
  (1043, .aload_n 0, 0, 0, 0, []),
  (1044, .bipush 6, 0, 0, 6, []),
  (1046, .newarray .int, 20, 0, 0, []),
  (1048, .putfield 64, 34, 12, 0, [0]),
  (1051, .aload_n 0, 0, 0, 0, []),
  (1052, .bipush 6, 0, 0, 6, []),
  (1054, .newarray .int, 20, 0, 0, []),
  (1056, .putfield 67, 35, 12, 0, [0]),
  (1059, .aload_n 0, 0, 0, 0, []),
  (1060, .bipush 6, 0, 0, 6, []),
  (1062, .newarray .int, 20, 0, 0, []),
  (1064, .putfield 70, 37, 12, 0, [0]),
  (1067, .aload_n 0, 0, 0, 0, []),
  (1068, .iconst 4, 0, 0, 4, []),
  (1069, .newarray .int, 20, 0, 0, []),
  (1071, .putfield 73, 38, 12, 0, [0]),
  (1074, .aload_n 0, 0, 0, 0, []),
  (1075, .iconst 4, 0, 0, 4, []),
  (1076, .newarray .int, 20, 0, 0, []),
  (1078, .putfield 76, 39, 12, 0, [0]),
  (1081, .aload_n 0, 0, 0, 0, []),
  (1082, .iconst 4, 0, 0, 4, []),
  (1083, .newarray .int, 20, 0, 0, []),
  (1085, .putfield 79, 40, 12, 0, [0]),
  (1088, .iconst 0, 0, 0, 0, []),
  (1089, .istore_n 1, 1, 0, 0, []),
  (1090, .iload_n 1, 1, 0, 0, []),
  (1091, .bipush 43, 0, 0, 43, []),
  (1093, .if_icmp .ge 21, 733, 0, 0, []),
  (1096, .aload_n 0, 0, 0, 0, []),
  (1097, .getfield 28, 8, 12, 0, [0]),
  (1100, .iload_n 1, 1, 0, 0, []),
  (1101, .aload_n 0, 0, 0, 0, []),
  (1102, .getfield 52, 23, 12, 0, [0]),
  (1105, .iload_n 1, 1, 0, 0, []),
  (1106, .iaload, 0, 0, 0, []),
  (1107, .iastore, 0, 0, 0, []),
  (1108, .iinc 1 1, 1, 0, 1, []),
  (1111, .goto (-21), 720, 0, 0, []),
  (1114, .aload_n 0, 0, 0, 0, []),
  (1115, .bipush 43, 0, 0, 43, []),
  (1117, .putfield 82, 9, 12, 0, []),
  (1120, .aload_n 0, 0, 0, 0, []),
  (1121, .invokevirtual 86, 159, 0, 0, [12]),
  (1124, .pop, 0, 0, 0, []),
  (1125, .return_, 0, 0, 0, [])]
set_option maxRecDepth 100000 in
noncomputable def zc_X12_in : List zE := [(0, .iload_n 0, 0, 0, 0, []),
  (1, .iload_n 1, 1, 0, 0, []),
  (2, .if_icmp .lt 12, 8, 0, 0, []),
  (5, .iload_n 0, 0, 0, 0, []),
  (6, .iload_n 2, 2, 0, 0, []),
  (7, .if_icmp .gt 7, 8, 0, 0, []),
  (10, .iconst 1, 0, 0, 1, []),
  (11, .goto 4, 9, 0, 0, []),
  (14, .iconst 0, 0, 0, 0, []),
  (15, .ireturn, 0, 0, 0, [2])]
set_option maxRecDepth 100000 in
noncomputable def zc_X12_within : List zE := [(0, .iload_n 0, 0, 0, 0, []),
  (1, .iload_n 1, 1, 0, 0, []),
  (2, .if_icmp .ge 7, 5, 0, 0, []),
  (5, .iload_n 1, 1, 0, 0, []),
  (6, .goto 13, 11, 0, 0, []),
  (9, .iload_n 0, 0, 0, 0, []),
  (10, .iload_n 2, 2, 0, 0, []),
  (11, .if_icmp .le 7, 10, 0, 0, []),
  (14, .iload_n 2, 2, 0, 0, []),
  (15, .goto 4, 11, 0, 0, []),
  (18, .iload_n 0, 0, 0, 0, []),
  (19, .ireturn, 0, 0, 0, [])]
set_option maxRecDepth 100000 in
noncomputable def zc_X12_isTide : List zE := [(0, .iload_n 0, 0, 0, 0, []),
  (1, .iconst 0, 0, 0, 0, []),
  (2, .bipush 11, 0, 0, 11, []),
  (4, .invokestatic 90, 136, 3, 0, []),
  (7, .ireturn, 0, 0, 0, [2])]
set_option maxRecDepth 100000 in
noncomputable def zc_X12_isIsland : List zE := [(0, .iload_n 1, 1, 0, 0, []),
  (1, .iconst 0, 0, 0, 0, []),
  (2, .aload_n 0, 0, 0, 0, []),
  (3, .getfield 94, 1, 12, 0, []),
  (6, .iconst 1, 0, 0, 1, []),
  (7, .isub, 0, 0, 0, []),
  (8, .invokestatic 90, 136, 3, 0, []),
  (11, .ireturn, 0, 0, 0, [2])]
set_option maxRecDepth 100000 in
noncomputable def zc_X12_isOne : List zE := [(0, .iload_n 1, 1, 0, 0, []),
  (1, .iconst 0, 0, 0, 0, []),
  (2, .aload_n 0, 0, 0, 0, []),
  (3, .getfield 97, 6, 12, 0, []),
  (6, .iconst 1, 0, 0, 1, []),
  (7, .isub, 0, 0, 0, []),
  (8, .invokestatic 90, 136, 3, 0, []),
  (11, .ireturn, 0, 0, 0, [2])]
set_option maxRecDepth 100000 in
noncomputable def zc_X12_tide : List zE := [(0, .iload_n 1, 1, 0, 0, []),
  (1, .invokestatic 100, 138, 1, 0, []),
  (4, .ifCond .ne 6, 5, 0, 0, []),
  (7, .bipush (-5), 0, 0, (-5), []),
  (9, .ireturn, 0, 0, 0, []),
  (10, .iload_n 2, 2, 0, 0, []),
  (11, .iconst 0, 0, 0, 0, []),
  (12, .bipush 9, 0, 0, 9, []),
  (14, .invokestatic 90, 136, 3, 0, []),
  (17, .ifCond .ne 6, 12, 0, 0, []),
  (20, .bipush (-7), 0, 0, (-7), []),
  (22, .ireturn, 0, 0, 0, []),
  (23, .aload_n 0, 0, 0, 0, []),
  (24, .getfield 7, 0, 12, 0, [0]),
  (27, .iload_n 1, 1, 0, 0, []),
  (28, .iaload, 0, 0, 0, []),
  (29, .istore_n 3, 3, 0, 0, []),
  (30, .aload_n 0, 0, 0, 0, []),
  (31, .getfield 7, 0, 12, 0, [0]),
  (34, .iload_n 1, 1, 0, 0, []),
  (35, .iload_n 2, 2, 0, 0, []),
  (36, .iastore, 0, 0, 0, []),
  (37, .iload_n 3, 3, 0, 0, []),
  (38, .ireturn, 0, 0, 0, [])]
set_option maxRecDepth 100000 in
noncomputable def zc_X12_height : List zE := [(0, .iload_n 1, 1, 0, 0, []),
  (1, .invokestatic 100, 138, 1, 0, []),
  (4, .ifCond .eq 12, 8, 0, 0, []),
  (7, .aload_n 0, 0, 0, 0, []),
  (8, .getfield 7, 0, 12, 0, [0]),
  (11, .iload_n 1, 1, 0, 0, []),
  (12, .iaload, 0, 0, 0, []),
  (13, .goto 5, 9, 0, 0, []),
  (16, .bipush (-5), 0, 0, (-5), []),
  (18, .ireturn, 0, 0, 0, [])]
set_option maxRecDepth 100000 in
noncomputable def zc_X12_come : List zE := [(0, .aload_n 0, 0, 0, 0, []),
  (1, .getfield 97, 6, 12, 0, []),
  (4, .iconst 4, 0, 0, 4, []),
  (5, .if_icmp .ne 6, 6, 0, 0, []),
  (8, .bipush (-4), 0, 0, (-4), []),
  (10, .ireturn, 0, 0, 0, []),
  (11, .iconst 0, 0, 0, 0, []),
  (12, .istore_n 1, 1, 0, 0, []),
  (13, .iload_n 1, 1, 0, 0, []),
  (14, .bipush 12, 0, 0, 12, []),
  (16, .if_icmp .ge 24, 23, 0, 0, []),
  (19, .aload_n 0, 0, 0, 0, []),
  (20, .getfield 25, 7, 12, 0, [0]),
  (23, .bipush 12, 0, 0, 12, []),
  (25, .aload_n 0, 0, 0, 0, []),
  (26, .getfield 97, 6, 12, 0, []),
  (29, .imul, 0, 0, 0, []),
  (30, .iload_n 1, 1, 0, 0, []),
  (31, .iadd, 0, 0, 0, []),
  (32, .iconst (-1), 0, 0, (-1), []),
  (33, .iastore, 0, 0, 0, []),
  (34, .iinc 1 1, 1, 0, 1, []),
  (37, .goto (-24), 8, 0, 0, []),
  (40, .aload_n 0, 0, 0, 0, []),
  (41, .dup, 0, 0, 0, []),
  (42, .getfield 97, 6, 12, 0, []),
  (45, .iconst 1, 0, 0, 1, []),
  (46, .iadd, 0, 0, 0, []),
  (47, .putfield 97, 6, 12, 0, []),
  (50, .aload_n 0, 0, 0, 0, []),
  (51, .getfield 97, 6, 12, 0, []),
  (54, .iconst 1, 0, 0, 1, []),
  (55, .isub, 0, 0, 0, []),
  (56, .ireturn, 0, 0, 0, [])]
set_option maxRecDepth 100000 in
noncomputable def zc_X12_go : List zE := [(0, .aload_n 0, 0, 0, 0, []),
  (1, .iload_n 1, 1, 0, 0, []),
  (2, .invokevirtual 104, 140, 1, 0, [12]),
  (5, .ifCond .eq 10, 7, 0, 0, []),
  (8, .iload_n 2, 2, 0, 0, []),
  (9, .invokestatic 100, 138, 1, 0, []),
  (12, .ifCond .ne 6, 9, 0, 0, []),
  (15, .bipush (-5), 0, 0, (-5), []),
  (17, .ireturn, 0, 0, 0, []),
  (18, .iload_n 3, 3, 0, 0, []),
  (19, .iconst (-1), 0, 0, (-1), []),
  (20, .if_icmp .eq 14, 18, 0, 0, []),
  (23, .aload_n 0, 0, 0, 0, []),
  (24, .iload_n 3, 3, 0, 0, []),
  (25, .invokevirtual 107, 139, 1, 0, [12]),
  (28, .ifCond .ne 6, 18, 0, 0, []),
  (31, .bipush (-7), 0, 0, (-7), []),
  (33, .ireturn, 0, 0, 0, []),
  (34, .aload_n 0, 0, 0, 0, []),
  (35, .getfield 25, 7, 12, 0, [0]),
  (38, .bipush 12, 0, 0, 12, []),
  (40, .iload_n 1, 1, 0, 0, []),
  (41, .imul, 0, 0, 0, []),
  (42, .iload_n 2, 2, 0, 0, []),
  (43, .iadd, 0, 0, 0, []),
  (44, .iaload, 0, 0, 0, []),
  (45, .istore 4, 4, 0, 0, []),
  (47, .aload_n 0, 0, 0, 0, []),
  (48, .getfield 25, 7, 12, 0, [0]),
  (51, .bipush 12, 0, 0, 12, []),
  (53, .iload_n 1, 1, 0, 0, []),
  (54, .imul, 0, 0, 0, []),
  (55, .iload_n 2, 2, 0, 0, []),
  (56, .iadd, 0, 0, 0, []),
  (57, .iload_n 3, 3, 0, 0, []),
  (58, .iastore, 0, 0, 0, []),
  (59, .iload 4, 4, 0, 0, []),
  (61, .ireturn, 0, 0, 0, [])]
set_option maxRecDepth 100000 in
noncomputable def zc_X12_at : List zE := [(0, .aload_n 0, 0, 0, 0, []),
  (1, .iload_n 1, 1, 0, 0, []),
  (2, .invokevirtual 104, 140, 1, 0, [12]),
  (5, .ifCond .eq 24, 16, 0, 0, []),
  (8, .iload_n 2, 2, 0, 0, []),
  (9, .invokestatic 100, 138, 1, 0, []),
  (12, .ifCond .eq 17, 16, 0, 0, []),
  (15, .aload_n 0, 0, 0, 0, []),
  (16, .getfield 25, 7, 12, 0, [0]),
  (19, .bipush 12, 0, 0, 12, []),
  (21, .iload_n 1, 1, 0, 0, []),
  (22, .imul, 0, 0, 0, []),
  (23, .iload_n 2, 2, 0, 0, []),
  (24, .iadd, 0, 0, 0, []),
  (25, .iaload, 0, 0, 0, []),
  (26, .goto 5, 17, 0, 0, []),
  (29, .bipush (-5), 0, 0, (-5), []),
  (31, .ireturn, 0, 0, 0, [])]
set_option maxRecDepth 100000 in
noncomputable def zc_X12_count : List zE := [(0, .iload_n 1, 1, 0, 0, []),
  (1, .tableswitch 60 0 4 #[35, 40, 45, 50, 55], 17, 35, 0, [2, 5, 8, 11, 14]),
  (36, .aload_n 0, 0, 0, 0, []),
  (37, .getfield 94, 1, 12, 0, []),
  (40, .ireturn, 0, 0, 0, []),
  (41, .aload_n 0, 0, 0, 0, []),
  (42, .getfield 97, 6, 12, 0, []),
  (45, .ireturn, 0, 0, 0, []),
  (46, .aload_n 0, 0, 0, 0, []),
  (47, .getfield 110, 12, 12, 0, []),
  (50, .ireturn, 0, 0, 0, []),
  (51, .aload_n 0, 0, 0, 0, []),
  (52, .getfield 113, 13, 12, 0, []),
  (55, .ireturn, 0, 0, 0, []),
  (56, .aload_n 0, 0, 0, 0, []),
  (57, .getfield 82, 9, 12, 0, []),
  (60, .ireturn, 0, 0, 0, []),
  (61, .bipush (-2), 0, 0, (-2), []),
  (63, .ireturn, 0, 0, 0, [])]
set_option maxRecDepth 100000 in
noncomputable def zc_X12_isByte : List zE := [(0, .iload_n 0, 0, 0, 0, []),
  (1, .iconst 0, 0, 0, 0, []),
  (2, .sipush 255, 0, 0, 255, []),
  (5, .invokestatic 90, 136, 3, 0, []),
  (8, .ireturn, 0, 0, 0, [2])]
set_option maxRecDepth 100000 in
noncomputable def zc_X12_feed : List zE := [(0, .iload_n 1, 1, 0, 0, []),
  (1, .iconst 1, 0, 0, 1, []),
  (2, .iconst 5, 0, 0, 5, []),
  (3, .invokestatic 90, 136, 3, 0, []),
  (6, .ifCond .eq 41, 20, 0, 0, []),
  (9, .iload_n 2, 2, 0, 0, []),
  (10, .invokestatic 116, 147, 1, 0, []),
  (13, .ifCond .eq 34, 20, 0, 0, []),
  (16, .iload_n 3, 3, 0, 0, []),
  (17, .invokestatic 116, 147, 1, 0, []),
  (20, .ifCond .eq 27, 20, 0, 0, []),
  (23, .iload 4, 4, 0, 0, []),
  (25, .invokestatic 116, 147, 1, 0, []),
  (28, .ifCond .eq 19, 20, 0, 0, []),
  (31, .iload 5, 5, 0, 0, []),
  (33, .invokestatic 116, 147, 1, 0, []),
  (36, .ifCond .eq 11, 20, 0, 0, []),
  (39, .iload 6, 6, 0, 0, []),
  (41, .invokestatic 116, 147, 1, 0, []),
  (44, .ifCond .ne 6, 22, 0, 0, []),
  (47, .bipush (-2), 0, 0, (-2), []),
  (49, .ireturn, 0, 0, 0, []),
  (50, .aload_n 0, 0, 0, 0, []),
  (51, .getfield 82, 9, 12, 0, []),
  (54, .iload_n 1, 1, 0, 0, []),
  (55, .iadd, 0, 0, 0, []),
  (56, .sipush 160, 0, 0, 160, []),
  (59, .if_icmp .le 6, 30, 0, 0, []),
  (62, .bipush (-4), 0, 0, (-4), []),
  (64, .ireturn, 0, 0, 0, []),
  (65, .iconst 0, 0, 0, 0, []),
  (66, .istore 7, 7, 0, 0, []),
  (68, .iload 7, 7, 0, 0, []),
  (70, .iload_n 1, 1, 0, 0, []),
  (71, .if_icmp .ge 71, 68, 0, 0, []),
  (74, .aload_n 0, 0, 0, 0, []),
  (75, .getfield 28, 8, 12, 0, [0]),
  (78, .aload_n 0, 0, 0, 0, []),
  (79, .getfield 82, 9, 12, 0, []),
  (82, .iload 7, 7, 0, 0, []),
  (84, .ifCond .ne 7, 43, 0, 0, []),
  (87, .iload_n 2, 2, 0, 0, []),
  (88, .goto 37, 59, 0, 0, []),
  (91, .iload 7, 7, 0, 0, []),
  (93, .iconst 1, 0, 0, 1, []),
  (94, .if_icmp .ne 7, 48, 0, 0, []),
  (97, .iload_n 3, 3, 0, 0, []),
  (98, .goto 27, 59, 0, 0, []),
  (101, .iload 7, 7, 0, 0, []),
  (103, .iconst 2, 0, 0, 2, []),
  (104, .if_icmp .ne 8, 53, 0, 0, []),
  (107, .iload 4, 4, 0, 0, []),
  (109, .goto 16, 59, 0, 0, []),
  (112, .iload 7, 7, 0, 0, []),
  (114, .iconst 3, 0, 0, 3, []),
  (115, .if_icmp .ne 8, 58, 0, 0, []),
  (118, .iload 5, 5, 0, 0, []),
  (120, .goto 5, 59, 0, 0, []),
  (123, .iload 6, 6, 0, 0, []),
  (125, .iastore, 0, 0, 0, []),
  (126, .aload_n 0, 0, 0, 0, []),
  (127, .dup, 0, 0, 0, []),
  (128, .getfield 82, 9, 12, 0, []),
  (131, .iconst 1, 0, 0, 1, []),
  (132, .iadd, 0, 0, 0, []),
  (133, .putfield 82, 9, 12, 0, []),
  (136, .iinc 7 1, 7, 0, 1, []),
  (139, .goto (-71), 32, 0, 0, []),
  (142, .aload_n 0, 0, 0, 0, []),
  (143, .getfield 82, 9, 12, 0, []),
  (146, .ireturn, 0, 0, 0, [])]
set_option maxRecDepth 100000 in
noncomputable def zc_X12_wordFrom : List zE := [(0, .iconst 0, 0, 0, 0, []),
  (1, .istore_n 3, 3, 0, 0, []),
  (2, .iload_n 3, 3, 0, 0, []),
  (3, .bipush 12, 0, 0, 12, []),
  (5, .if_icmp .ge 96, 55, 0, 0, []),
  (8, .iload_n 2, 2, 0, 0, []),
  (9, .iload_n 1, 1, 0, 0, []),
  (10, .isub, 0, 0, 0, []),
  (11, .bipush 8, 0, 0, 8, []),
  (13, .if_icmp .gt 7, 12, 0, 0, []),
  (16, .iconst 1, 0, 0, 1, []),
  (17, .goto 4, 13, 0, 0, []),
  (20, .iconst 0, 0, 0, 0, []),
  (21, .istore 4, 4, 0, 0, []),
  (23, .iconst 0, 0, 0, 0, []),
  (24, .istore 5, 5, 0, 0, []),
  (26, .iload 5, 5, 0, 0, []),
  (28, .bipush 8, 0, 0, 8, []),
  (30, .if_icmp .ge 58, 49, 0, 0, []),
  (33, .iload 4, 4, 0, 0, []),
  (35, .ifCond .eq 53, 49, 0, 0, []),
  (38, .aload_n 0, 0, 0, 0, []),
  (39, .getfield 55, 28, 12, 0, [0]),
  (42, .bipush 8, 0, 0, 8, []),
  (44, .iload_n 3, 3, 0, 0, []),
  (45, .imul, 0, 0, 0, []),
  (46, .iload 5, 5, 0, 0, []),
  (48, .iadd, 0, 0, 0, []),
  (49, .iaload, 0, 0, 0, []),
  (50, .iload_n 1, 1, 0, 0, []),
  (51, .iload 5, 5, 0, 0, []),
  (53, .iadd, 0, 0, 0, []),
  (54, .iload_n 2, 2, 0, 0, []),
  (55, .if_icmp .ge 15, 41, 0, 0, []),
  (58, .aload_n 0, 0, 0, 0, []),
  (59, .getfield 28, 8, 12, 0, [0]),
  (62, .iload_n 1, 1, 0, 0, []),
  (63, .iload 5, 5, 0, 0, []),
  (65, .iadd, 0, 0, 0, []),
  (66, .iaload, 0, 0, 0, []),
  (67, .goto 5, 42, 0, 0, []),
  (70, .bipush 32, 0, 0, 32, []),
  (72, .if_icmp .ne 7, 45, 0, 0, []),
  (75, .iconst 1, 0, 0, 1, []),
  (76, .goto 4, 46, 0, 0, []),
  (79, .iconst 0, 0, 0, 0, []),
  (80, .istore 4, 4, 0, 0, []),
  (82, .iinc 5 1, 5, 0, 1, []),
  (85, .goto (-59), 16, 0, 0, []),
  (88, .iload 4, 4, 0, 0, []),
  (90, .ifCond .eq 5, 53, 0, 0, []),
  (93, .iload_n 3, 3, 0, 0, []),
  (94, .ireturn, 0, 0, 0, []),
  (95, .iinc 3 1, 3, 0, 1, []),
  (98, .goto (-96), 2, 0, 0, []),
  (101, .bipush 12, 0, 0, 12, []),
  (103, .ireturn, 0, 0, 0, [])]
set_option maxRecDepth 100000 in
noncomputable def zc_X12_next : List zE := [(0, .aload_n 0, 0, 0, 0, []),
  (1, .getfield 119, 24, 12, 0, []),
  (4, .aload_n 0, 0, 0, 0, []),
  (5, .getfield 82, 9, 12, 0, []),
  (8, .if_icmp .ge 44, 26, 0, 0, []),
  (11, .aload_n 0, 0, 0, 0, []),
  (12, .getfield 28, 8, 12, 0, [0]),
  (15, .aload_n 0, 0, 0, 0, []),
  (16, .getfield 119, 24, 12, 0, []),
  (19, .iaload, 0, 0, 0, []),
  (20, .bipush 32, 0, 0, 32, []),
  (22, .if_icmp .eq 17, 19, 0, 0, []),
  (25, .aload_n 0, 0, 0, 0, []),
  (26, .getfield 28, 8, 12, 0, [0]),
  (29, .aload_n 0, 0, 0, 0, []),
  (30, .getfield 119, 24, 12, 0, []),
  (33, .iaload, 0, 0, 0, []),
  (34, .bipush 10, 0, 0, 10, []),
  (36, .if_icmp .ne 16, 26, 0, 0, []),
  (39, .aload_n 0, 0, 0, 0, []),
  (40, .dup, 0, 0, 0, []),
  (41, .getfield 119, 24, 12, 0, []),
  (44, .iconst 1, 0, 0, 1, []),
  (45, .iadd, 0, 0, 0, []),
  (46, .putfield 119, 24, 12, 0, []),
  (49, .goto (-49), 0, 0, 0, []),
  (52, .aload_n 0, 0, 0, 0, []),
  (53, .aload_n 0, 0, 0, 0, []),
  (54, .getfield 119, 24, 12, 0, []),
  (57, .putfield 122, 25, 12, 0, []),
  (60, .aload_n 0, 0, 0, 0, []),
  (61, .iconst 0, 0, 0, 0, []),
  (62, .putfield 125, 26, 12, 0, []),
  (65, .aload_n 0, 0, 0, 0, []),
  (66, .iconst 0, 0, 0, 0, []),
  (67, .putfield 128, 27, 12, 0, []),
  (70, .aload_n 0, 0, 0, 0, []),
  (71, .getfield 119, 24, 12, 0, []),
  (74, .aload_n 0, 0, 0, 0, []),
  (75, .getfield 82, 9, 12, 0, []),
  (78, .if_icmp .ne 4, 42, 0, 0, []),
  (81, .return_, 0, 0, 0, []),
  (82, .aload_n 0, 0, 0, 0, []),
  (83, .getfield 28, 8, 12, 0, [0]),
  (86, .aload_n 0, 0, 0, 0, []),
  (87, .getfield 119, 24, 12, 0, []),
  (90, .iaload, 0, 0, 0, []),
  (91, .istore_n 1, 1, 0, 0, []),
  (92, .iload_n 1, 1, 0, 0, []),
  (93, .bipush 97, 0, 0, 97, []),
  (95, .bipush 122, 0, 0, 122, []),
  (97, .invokestatic 90, 136, 3, 0, []),
  (100, .ifCond .eq 117, 114, 0, 0, []),
  (103, .aload_n 0, 0, 0, 0, []),
  (104, .getfield 119, 24, 12, 0, []),
  (107, .aload_n 0, 0, 0, 0, []),
  (108, .getfield 82, 9, 12, 0, []),
  (111, .if_icmp .ge 35, 74, 0, 0, []),
  (114, .aload_n 0, 0, 0, 0, []),
  (115, .getfield 28, 8, 12, 0, [0]),
  (118, .aload_n 0, 0, 0, 0, []),
  (119, .getfield 119, 24, 12, 0, []),
  (122, .iaload, 0, 0, 0, []),
  (123, .bipush 97, 0, 0, 97, []),
  (125, .bipush 122, 0, 0, 122, []),
  (127, .invokestatic 90, 136, 3, 0, []),
  (130, .ifCond .eq 16, 74, 0, 0, []),
  (133, .aload_n 0, 0, 0, 0, []),
  (134, .dup, 0, 0, 0, []),
  (135, .getfield 119, 24, 12, 0, []),
  (138, .iconst 1, 0, 0, 1, []),
  (139, .iadd, 0, 0, 0, []),
  (140, .putfield 119, 24, 12, 0, []),
  (143, .goto (-40), 53, 0, 0, []),
  (146, .aload_n 0, 0, 0, 0, []),
  (147, .aload_n 0, 0, 0, 0, []),
  (148, .getfield 122, 25, 12, 0, []),
  (151, .aload_n 0, 0, 0, 0, []),
  (152, .getfield 119, 24, 12, 0, []),
  (155, .invokevirtual 131, 149, 2, 0, [12]),
  (158, .istore_n 2, 2, 0, 0, []),
  (159, .aload_n 0, 0, 0, 0, []),
  (160, .iload_n 2, 2, 0, 0, []),
  (161, .iconst 3, 0, 0, 3, []),
  (162, .if_icmp .ge 7, 87, 0, 0, []),
  (165, .iconst 3, 0, 0, 3, []),
  (166, .goto 29, 102, 0, 0, []),
  (169, .iload_n 2, 2, 0, 0, []),
  (170, .bipush 9, 0, 0, 9, []),
  (172, .if_icmp .ge 7, 92, 0, 0, []),
  (175, .iconst 2, 0, 0, 2, []),
  (176, .goto 19, 102, 0, 0, []),
  (179, .iload_n 2, 2, 0, 0, []),
  (180, .bipush 12, 0, 0, 12, []),
  (182, .if_icmp .ne 7, 97, 0, 0, []),
  (185, .iconst (-1), 0, 0, (-1), []),
  (186, .goto 9, 102, 0, 0, []),
  (189, .iconst 4, 0, 0, 4, []),
  (190, .iload_n 2, 2, 0, 0, []),
  (191, .iadd, 0, 0, 0, []),
  (192, .bipush 9, 0, 0, 9, []),
  (194, .isub, 0, 0, 0, []),
  (195, .putfield 125, 26, 12, 0, []),
  (198, .aload_n 0, 0, 0, 0, []),
  (199, .iload_n 2, 2, 0, 0, []),
  (200, .iconst 3, 0, 0, 3, []),
  (201, .if_icmp .ge 7, 109, 0, 0, []),
  (204, .iload_n 2, 2, 0, 0, []),
  (205, .goto 6, 112, 0, 0, []),
  (208, .iload_n 2, 2, 0, 0, []),
  (209, .iconst 3, 0, 0, 3, []),
  (210, .isub, 0, 0, 0, []),
  (211, .putfield 128, 27, 12, 0, []),
  (214, .goto 189, 212, 0, 0, []),
  (217, .iload_n 1, 1, 0, 0, []),
  (218, .bipush 48, 0, 0, 48, []),
  (220, .bipush 57, 0, 0, 57, []),
  (222, .invokestatic 90, 136, 3, 0, []),
  (225, .ifCond .eq 101, 171, 0, 0, []),
  (228, .iconst 0, 0, 0, 0, []),
  (229, .istore_n 2, 2, 0, 0, []),
  (230, .aload_n 0, 0, 0, 0, []),
  (231, .getfield 119, 24, 12, 0, []),
  (234, .aload_n 0, 0, 0, 0, []),
  (235, .getfield 82, 9, 12, 0, []),
  (238, .if_icmp .ge 71, 162, 0, 0, []),
  (241, .aload_n 0, 0, 0, 0, []),
  (242, .getfield 28, 8, 12, 0, [0]),
  (245, .aload_n 0, 0, 0, 0, []),
  (246, .getfield 119, 24, 12, 0, []),
  (249, .iaload, 0, 0, 0, []),
  (250, .bipush 48, 0, 0, 48, []),
  (252, .bipush 57, 0, 0, 57, []),
  (254, .invokestatic 90, 136, 3, 0, []),
  (257, .ifCond .eq 52, 162, 0, 0, []),
  (260, .aload_n 0, 0, 0, 0, []),
  (261, .iload_n 2, 2, 0, 0, []),
  (262, .iconst 4, 0, 0, 4, []),
  (263, .if_icmp .ge 26, 152, 0, 0, []),
  (266, .bipush 10, 0, 0, 10, []),
  (268, .aload_n 0, 0, 0, 0, []),
  (269, .getfield 128, 27, 12, 0, []),
  (272, .imul, 0, 0, 0, []),
  (273, .aload_n 0, 0, 0, 0, []),
  (274, .getfield 28, 8, 12, 0, [0]),
  (277, .aload_n 0, 0, 0, 0, []),
  (278, .getfield 119, 24, 12, 0, []),
  (281, .iaload, 0, 0, 0, []),
  (282, .iadd, 0, 0, 0, []),
  (283, .bipush 48, 0, 0, 48, []),
  (285, .isub, 0, 0, 0, []),
  (286, .goto 4, 153, 0, 0, []),
  (289, .iconst 0, 0, 0, 0, []),
  (290, .putfield 128, 27, 12, 0, []),
  (293, .iinc 2 1, 2, 0, 1, []),
  (296, .aload_n 0, 0, 0, 0, []),
  (297, .dup, 0, 0, 0, []),
  (298, .getfield 119, 24, 12, 0, []),
  (301, .iconst 1, 0, 0, 1, []),
  (302, .iadd, 0, 0, 0, []),
  (303, .putfield 119, 24, 12, 0, []),
  (306, .goto (-76), 121, 0, 0, []),
  (309, .aload_n 0, 0, 0, 0, []),
  (310, .iload_n 2, 2, 0, 0, []),
  (311, .iconst 4, 0, 0, 4, []),
  (312, .if_icmp .le 7, 168, 0, 0, []),
  (315, .iconst (-1), 0, 0, (-1), []),
  (316, .goto 4, 169, 0, 0, []),
  (319, .iconst 1, 0, 0, 1, []),
  (320, .putfield 125, 26, 12, 0, []),
  (323, .goto 80, 212, 0, 0, []),
  (326, .iload_n 1, 1, 0, 0, []),
  (327, .bipush 40, 0, 0, 40, []),
  (329, .if_icmp .eq 45, 195, 0, 0, []),
  (332, .iload_n 1, 1, 0, 0, []),
  (333, .bipush 41, 0, 0, 41, []),
  (335, .if_icmp .eq 39, 195, 0, 0, []),
  (338, .iload_n 1, 1, 0, 0, []),
  (339, .bipush 59, 0, 0, 59, []),
  (341, .if_icmp .eq 33, 195, 0, 0, []),
  (344, .iload_n 1, 1, 0, 0, []),
  (345, .bipush 43, 0, 0, 43, []),
  (347, .if_icmp .eq 27, 195, 0, 0, []),
  (350, .iload_n 1, 1, 0, 0, []),
  (351, .bipush 45, 0, 0, 45, []),
  (353, .if_icmp .eq 21, 195, 0, 0, []),
  (356, .iload_n 1, 1, 0, 0, []),
  (357, .bipush 42, 0, 0, 42, []),
  (359, .if_icmp .eq 15, 195, 0, 0, []),
  (362, .iload_n 1, 1, 0, 0, []),
  (363, .bipush 60, 0, 0, 60, []),
  (365, .if_icmp .eq 9, 195, 0, 0, []),
  (368, .iload_n 1, 1, 0, 0, []),
  (369, .bipush 61, 0, 0, 61, []),
  (371, .if_icmp .ne 7, 197, 0, 0, []),
  (374, .iconst 1, 0, 0, 1, []),
  (375, .goto 4, 198, 0, 0, []),
  (378, .iconst 0, 0, 0, 0, []),
  (379, .istore_n 2, 2, 0, 0, []),
  (380, .aload_n 0, 0, 0, 0, []),
  (381, .iload_n 2, 2, 0, 0, []),
  (382, .ifCond .eq 7, 204, 0, 0, []),
  (385, .iload_n 1, 1, 0, 0, []),
  (386, .goto 4, 205, 0, 0, []),
  (389, .iconst (-1), 0, 0, (-1), []),
  (390, .putfield 125, 26, 12, 0, []),
  (393, .aload_n 0, 0, 0, 0, []),
  (394, .dup, 0, 0, 0, []),
  (395, .getfield 119, 24, 12, 0, []),
  (398, .iconst 1, 0, 0, 1, []),
  (399, .iadd, 0, 0, 0, []),
  (400, .putfield 119, 24, 12, 0, []),
  (403, .return_, 0, 0, 0, [])]
set_option maxRecDepth 100000 in
noncomputable def zc_X12_rank : List zE := [(0, .iload_n 0, 0, 0, 0, []),
  (1, .ifCond .ne 7, 4, 0, 0, []),
  (4, .iconst 0, 0, 0, 0, []),
  (5, .goto 66, 35, 0, 0, []),
  (8, .iload_n 0, 0, 0, 0, []),
  (9, .bipush 11, 0, 0, 11, []),
  (11, .if_icmp .ne 7, 9, 0, 0, []),
  (14, .iconst 1, 0, 0, 1, []),
  (15, .goto 56, 35, 0, 0, []),
  (18, .iload_n 0, 0, 0, 0, []),
  (19, .bipush 12, 0, 0, 12, []),
  (21, .if_icmp .ne 7, 14, 0, 0, []),
  (24, .iconst 2, 0, 0, 2, []),
  (25, .goto 46, 35, 0, 0, []),
  (28, .iload_n 0, 0, 0, 0, []),
  (29, .bipush 13, 0, 0, 13, []),
  (31, .if_icmp .ne 7, 19, 0, 0, []),
  (34, .iconst 3, 0, 0, 3, []),
  (35, .goto 36, 35, 0, 0, []),
  (38, .iload_n 0, 0, 0, 0, []),
  (39, .bipush 15, 0, 0, 15, []),
  (41, .if_icmp .gt 7, 24, 0, 0, []),
  (44, .iconst 4, 0, 0, 4, []),
  (45, .goto 26, 35, 0, 0, []),
  (48, .iload_n 0, 0, 0, 0, []),
  (49, .bipush 17, 0, 0, 17, []),
  (51, .if_icmp .gt 7, 29, 0, 0, []),
  (54, .iconst 5, 0, 0, 5, []),
  (55, .goto 16, 35, 0, 0, []),
  (58, .iload_n 0, 0, 0, 0, []),
  (59, .bipush 18, 0, 0, 18, []),
  (61, .if_icmp .ne 8, 34, 0, 0, []),
  (64, .bipush 6, 0, 0, 6, []),
  (66, .goto 5, 35, 0, 0, []),
  (69, .bipush 7, 0, 0, 7, []),
  (71, .ireturn, 0, 0, 0, [])]
set_option maxRecDepth 100000 in
noncomputable def zc_X12_puts : List zE := [(0, .aload_n 0, 0, 0, 0, []),
  (1, .getfield 31, 10, 12, 0, [0]),
  (4, .sipush 200, 0, 0, 200, []),
  (7, .aload_n 0, 0, 0, 0, []),
  (8, .getfield 110, 12, 12, 0, []),
  (11, .imul, 0, 0, 0, []),
  (12, .aload_n 0, 0, 0, 0, []),
  (13, .getfield 135, 32, 12, 0, []),
  (16, .iadd, 0, 0, 0, []),
  (17, .iload_n 1, 1, 0, 0, []),
  (18, .iastore, 0, 0, 0, []),
  (19, .aload_n 0, 0, 0, 0, []),
  (20, .dup, 0, 0, 0, []),
  (21, .getfield 135, 32, 12, 0, []),
  (24, .iconst 1, 0, 0, 1, []),
  (25, .iadd, 0, 0, 0, []),
  (26, .putfield 135, 32, 12, 0, []),
  (29, .return_, 0, 0, 0, [])]
set_option maxRecDepth 100000 in
noncomputable def zc_X12_unwinds : List zE := [(0, .aload_n 0, 0, 0, 0, []),
  (1, .getfield 138, 30, 12, 0, []),
  (4, .ifCond .le 75, 43, 0, 0, []),
  (7, .aload_n 0, 0, 0, 0, []),
  (8, .getfield 58, 29, 12, 0, [0]),
  (11, .aload_n 0, 0, 0, 0, []),
  (12, .getfield 138, 30, 12, 0, []),
  (15, .iconst 1, 0, 0, 1, []),
  (16, .isub, 0, 0, 0, []),
  (17, .iaload, 0, 0, 0, []),
  (18, .invokestatic 141, 151, 1, 0, []),
  (21, .iload_n 1, 1, 0, 0, []),
  (22, .if_icmp .lt 57, 43, 0, 0, []),
  (25, .aload_n 0, 0, 0, 0, []),
  (26, .dup, 0, 0, 0, []),
  (27, .getfield 138, 30, 12, 0, []),
  (30, .iconst 1, 0, 0, 1, []),
  (31, .isub, 0, 0, 0, []),
  (32, .putfield 138, 30, 12, 0, []),
  (35, .aload_n 0, 0, 0, 0, []),
  (36, .getfield 58, 29, 12, 0, [0]),
  (39, .aload_n 0, 0, 0, 0, []),
  (40, .getfield 138, 30, 12, 0, []),
  (43, .iaload, 0, 0, 0, []),
  (44, .istore_n 2, 2, 0, 0, []),
  (45, .aload_n 0, 0, 0, 0, []),
  (46, .dup, 0, 0, 0, []),
  (47, .getfield 145, 31, 12, 0, []),
  (50, .iload_n 2, 2, 0, 0, []),
  (51, .bipush 13, 0, 0, 13, []),
  (53, .if_icmp .eq 9, 34, 0, 0, []),
  (56, .iload_n 2, 2, 0, 0, []),
  (57, .bipush 19, 0, 0, 19, []),
  (59, .if_icmp .ne 7, 36, 0, 0, []),
  (62, .iconst 1, 0, 0, 1, []),
  (63, .goto 4, 37, 0, 0, []),
  (66, .iconst 0, 0, 0, 0, []),
  (67, .isub, 0, 0, 0, []),
  (68, .putfield 145, 31, 12, 0, []),
  (71, .aload_n 0, 0, 0, 0, []),
  (72, .iload_n 2, 2, 0, 0, []),
  (73, .invokevirtual 148, 152, 1, 0, [12]),
  (76, .goto (-76), 0, 0, 0, []),
  (79, .return_, 0, 0, 0, [])]
set_option maxRecDepth 100000 in
noncomputable def zc_X12_holds : List zE := [(0, .aload_n 0, 0, 0, 0, []),
  (1, .getfield 58, 29, 12, 0, [0]),
  (4, .aload_n 0, 0, 0, 0, []),
  (5, .getfield 138, 30, 12, 0, []),
  (8, .iload_n 1, 1, 0, 0, []),
  (9, .iastore, 0, 0, 0, []),
  (10, .aload_n 0, 0, 0, 0, []),
  (11, .dup, 0, 0, 0, []),
  (12, .getfield 138, 30, 12, 0, []),
  (15, .iconst 1, 0, 0, 1, []),
  (16, .iadd, 0, 0, 0, []),
  (17, .putfield 138, 30, 12, 0, []),
  (20, .return_, 0, 0, 0, [])]
set_option maxRecDepth 100000 in
noncomputable def zc_X12_opensOne : List zE := [(0, .aload_n 0, 0, 0, 0, []),
  (1, .getfield 145, 31, 12, 0, []),
  (4, .iconst 5, 0, 0, 5, []),
  (5, .if_icmp .ne 5, 6, 0, 0, []),
  (8, .iconst 0, 0, 0, 0, []),
  (9, .ireturn, 0, 0, 0, [2]),
  (10, .aload_n 0, 0, 0, 0, []),
  (11, .dup, 0, 0, 0, []),
  (12, .getfield 145, 31, 12, 0, []),
  (15, .iconst 1, 0, 0, 1, []),
  (16, .iadd, 0, 0, 0, []),
  (17, .putfield 145, 31, 12, 0, []),
  (20, .aload_n 0, 0, 0, 0, []),
  (21, .iload_n 1, 1, 0, 0, []),
  (22, .invokevirtual 152, 154, 1, 0, [12]),
  (25, .iconst 1, 0, 0, 1, []),
  (26, .ireturn, 0, 0, 0, [2])]
set_option maxRecDepth 100000 in
noncomputable def zc_X12_between : List zE := [(0, .aload_n 0, 0, 0, 0, []),
  (1, .iload_n 1, 1, 0, 0, []),
  (2, .invokestatic 141, 151, 1, 0, []),
  (5, .iconst 4, 0, 0, 4, []),
  (6, .if_icmp .ne 7, 7, 0, 0, []),
  (9, .iconst 5, 0, 0, 5, []),
  (10, .goto 7, 9, 0, 0, []),
  (13, .iload_n 1, 1, 0, 0, []),
  (14, .invokestatic 141, 151, 1, 0, []),
  (17, .invokevirtual 155, 153, 1, 0, [12]),
  (20, .iload_n 1, 1, 0, 0, []),
  (21, .invokestatic 141, 151, 1, 0, []),
  (24, .iconst 4, 0, 0, 4, []),
  (25, .if_icmp .ne 30, 29, 0, 0, []),
  (28, .aload_n 0, 0, 0, 0, []),
  (29, .getfield 138, 30, 12, 0, []),
  (32, .ifCond .le 23, 29, 0, 0, []),
  (35, .aload_n 0, 0, 0, 0, []),
  (36, .getfield 58, 29, 12, 0, [0]),
  (39, .aload_n 0, 0, 0, 0, []),
  (40, .getfield 138, 30, 12, 0, []),
  (43, .iconst 1, 0, 0, 1, []),
  (44, .isub, 0, 0, 0, []),
  (45, .iaload, 0, 0, 0, []),
  (46, .invokestatic 141, 151, 1, 0, []),
  (49, .iconst 4, 0, 0, 4, []),
  (50, .if_icmp .ne 5, 29, 0, 0, []),
  (53, .iconst 0, 0, 0, 0, []),
  (54, .ireturn, 0, 0, 0, [2]),
  (55, .aload_n 0, 0, 0, 0, []),
  (56, .iload_n 1, 1, 0, 0, []),
  (57, .invokevirtual 152, 154, 1, 0, [12]),
  (60, .iconst 1, 0, 0, 1, []),
  (61, .ireturn, 0, 0, 0, [2])]
set_option maxRecDepth 100000 in
noncomputable def zc_X12_signOf : List zE := [(0, .aload_n 0, 0, 0, 0, []),
  (1, .getfield 125, 26, 12, 0, []),
  (4, .iconst 4, 0, 0, 4, []),
  (5, .if_icmp .ne 8, 6, 0, 0, []),
  (8, .bipush 11, 0, 0, 11, []),
  (10, .goto 87, 43, 0, 0, []),
  (13, .aload_n 0, 0, 0, 0, []),
  (14, .getfield 125, 26, 12, 0, []),
  (17, .iconst 5, 0, 0, 5, []),
  (18, .if_icmp .ne 8, 12, 0, 0, []),
  (21, .bipush 12, 0, 0, 12, []),
  (23, .goto 74, 43, 0, 0, []),
  (26, .aload_n 0, 0, 0, 0, []),
  (27, .getfield 125, 26, 12, 0, []),
  (30, .bipush 60, 0, 0, 60, []),
  (32, .if_icmp .ne 8, 18, 0, 0, []),
  (35, .bipush 14, 0, 0, 14, []),
  (37, .goto 60, 43, 0, 0, []),
  (40, .aload_n 0, 0, 0, 0, []),
  (41, .getfield 125, 26, 12, 0, []),
  (44, .bipush 61, 0, 0, 61, []),
  (46, .if_icmp .ne 8, 24, 0, 0, []),
  (49, .bipush 15, 0, 0, 15, []),
  (51, .goto 46, 43, 0, 0, []),
  (54, .aload_n 0, 0, 0, 0, []),
  (55, .getfield 125, 26, 12, 0, []),
  (58, .bipush 43, 0, 0, 43, []),
  (60, .if_icmp .ne 8, 30, 0, 0, []),
  (63, .bipush 16, 0, 0, 16, []),
  (65, .goto 32, 43, 0, 0, []),
  (68, .aload_n 0, 0, 0, 0, []),
  (69, .getfield 125, 26, 12, 0, []),
  (72, .bipush 45, 0, 0, 45, []),
  (74, .if_icmp .ne 8, 36, 0, 0, []),
  (77, .bipush 17, 0, 0, 17, []),
  (79, .goto 18, 43, 0, 0, []),
  (82, .aload_n 0, 0, 0, 0, []),
  (83, .getfield 125, 26, 12, 0, []),
  (86, .bipush 42, 0, 0, 42, []),
  (88, .if_icmp .ne 8, 42, 0, 0, []),
  (91, .bipush 18, 0, 0, 18, []),
  (93, .goto 4, 43, 0, 0, []),
  (96, .iconst (-1), 0, 0, (-1), []),
  (97, .ireturn, 0, 0, 0, [])]
set_option maxRecDepth 100000 in
noncomputable def zc_X12_eRead : List zE := [(0, .aload_n 0, 0, 0, 0, []),
  (1, .iconst 0, 0, 0, 0, []),
  (2, .putfield 138, 30, 12, 0, []),
  (5, .aload_n 0, 0, 0, 0, []),
  (6, .iconst 0, 0, 0, 0, []),
  (7, .putfield 145, 31, 12, 0, []),
  (10, .iconst 1, 0, 0, 1, []),
  (11, .istore_n 1, 1, 0, 0, []),
  (12, .iconst 1, 0, 0, 1, []),
  (13, .istore_n 2, 2, 0, 0, []),
  (14, .aload_n 0, 0, 0, 0, []),
  (15, .invokevirtual 158, 150, 0, 0, [12]),
  (18, .iload_n 1, 1, 0, 0, []),
  (19, .ifCond .eq 131, 81, 0, 0, []),
  (22, .aload_n 0, 0, 0, 0, []),
  (23, .getfield 125, 26, 12, 0, []),
  (26, .iconst 1, 0, 0, 1, []),
  (27, .if_icmp .eq 11, 22, 0, 0, []),
  (30, .aload_n 0, 0, 0, 0, []),
  (31, .getfield 125, 26, 12, 0, []),
  (34, .iconst 2, 0, 0, 2, []),
  (35, .if_icmp .ne 40, 41, 0, 0, []),
  (38, .aload_n 0, 0, 0, 0, []),
  (39, .aload_n 0, 0, 0, 0, []),
  (40, .getfield 125, 26, 12, 0, []),
  (43, .iconst 1, 0, 0, 1, []),
  (44, .if_icmp .ne 13, 32, 0, 0, []),
  (47, .ldc 161, 0, 0, 100000, []),
  (49, .aload_n 0, 0, 0, 0, []),
  (50, .getfield 128, 27, 12, 0, []),
  (53, .iadd, 0, 0, 0, []),
  (54, .goto 7, 34, 0, 0, []),
  (57, .aload_n 0, 0, 0, 0, []),
  (58, .getfield 128, 27, 12, 0, []),
  (61, .invokevirtual 148, 152, 1, 0, [12]),
  (64, .aload_n 0, 0, 0, 0, []),
  (65, .bipush 7, 0, 0, 7, []),
  (67, .invokevirtual 155, 153, 1, 0, [12]),
  (70, .iconst 0, 0, 0, 0, []),
  (71, .istore_n 1, 1, 0, 0, []),
  (72, .goto (-58), 10, 0, 0, []),
  (75, .aload_n 0, 0, 0, 0, []),
  (76, .getfield 125, 26, 12, 0, []),
  (79, .bipush 6, 0, 0, 6, []),
  (81, .if_icmp .ne 18, 53, 0, 0, []),
  (84, .iload_n 2, 2, 0, 0, []),
  (85, .ifCond .eq 14, 53, 0, 0, []),
  (88, .aload_n 0, 0, 0, 0, []),
  (89, .bipush 13, 0, 0, 13, []),
  (91, .invokevirtual 162, 155, 1, 0, [12]),
  (94, .ifCond .ne (-80), 10, 0, 0, []),
  (97, .iconst 0, 0, 0, 0, []),
  (98, .ireturn, 0, 0, 0, [2]),
  (99, .aload_n 0, 0, 0, 0, []),
  (100, .getfield 125, 26, 12, 0, []),
  (103, .bipush 45, 0, 0, 45, []),
  (105, .if_icmp .ne 19, 66, 0, 0, []),
  (108, .aload_n 0, 0, 0, 0, []),
  (109, .bipush 19, 0, 0, 19, []),
  (111, .invokevirtual 162, 155, 1, 0, [12]),
  (114, .ifCond .ne 5, 63, 0, 0, []),
  (117, .iconst 0, 0, 0, 0, []),
  (118, .ireturn, 0, 0, 0, [2]),
  (119, .iconst 0, 0, 0, 0, []),
  (120, .istore_n 2, 2, 0, 0, []),
  (121, .goto (-107), 10, 0, 0, []),
  (124, .aload_n 0, 0, 0, 0, []),
  (125, .getfield 125, 26, 12, 0, []),
  (128, .bipush 40, 0, 0, 40, []),
  (130, .if_icmp .ne 18, 79, 0, 0, []),
  (133, .aload_n 0, 0, 0, 0, []),
  (134, .iconst 0, 0, 0, 0, []),
  (135, .invokevirtual 162, 155, 1, 0, [12]),
  (138, .ifCond .ne 5, 76, 0, 0, []),
  (141, .iconst 0, 0, 0, 0, []),
  (142, .ireturn, 0, 0, 0, [2]),
  (143, .iconst 1, 0, 0, 1, []),
  (144, .istore_n 2, 2, 0, 0, []),
  (145, .goto (-131), 10, 0, 0, []),
  (148, .iconst 0, 0, 0, 0, []),
  (149, .ireturn, 0, 0, 0, [2]),
  (150, .aload_n 0, 0, 0, 0, []),
  (151, .getfield 125, 26, 12, 0, []),
  (154, .bipush 59, 0, 0, 59, []),
  (156, .if_icmp .ne 21, 95, 0, 0, []),
  (159, .aload_n 0, 0, 0, 0, []),
  (160, .iconst 1, 0, 0, 1, []),
  (161, .invokevirtual 155, 153, 1, 0, [12]),
  (164, .aload_n 0, 0, 0, 0, []),
  (165, .getfield 138, 30, 12, 0, []),
  (168, .ifCond .ne 7, 93, 0, 0, []),
  (171, .iconst 1, 0, 0, 1, []),
  (172, .goto 4, 94, 0, 0, []),
  (175, .iconst 0, 0, 0, 0, []),
  (176, .ireturn, 0, 0, 0, [2]),
  (177, .aload_n 0, 0, 0, 0, []),
  (178, .getfield 125, 26, 12, 0, []),
  (181, .bipush 41, 0, 0, 41, []),
  (183, .if_icmp .ne 46, 123, 0, 0, []),
  (186, .aload_n 0, 0, 0, 0, []),
  (187, .iconst 1, 0, 0, 1, []),
  (188, .invokevirtual 155, 153, 1, 0, [12]),
  (191, .aload_n 0, 0, 0, 0, []),
  (192, .getfield 138, 30, 12, 0, []),
  (195, .ifCond .ne 5, 107, 0, 0, []),
  (198, .iconst 0, 0, 0, 0, []),
  (199, .ireturn, 0, 0, 0, [2]),
  (200, .aload_n 0, 0, 0, 0, []),
  (201, .dup, 0, 0, 0, []),
  (202, .getfield 138, 30, 12, 0, []),
  (205, .iconst 1, 0, 0, 1, []),
  (206, .isub, 0, 0, 0, []),
  (207, .putfield 138, 30, 12, 0, []),
  (210, .aload_n 0, 0, 0, 0, []),
  (211, .dup, 0, 0, 0, []),
  (212, .getfield 145, 31, 12, 0, []),
  (215, .iconst 1, 0, 0, 1, []),
  (216, .isub, 0, 0, 0, []),
  (217, .putfield 145, 31, 12, 0, []),
  (220, .aload_n 0, 0, 0, 0, []),
  (221, .bipush 7, 0, 0, 7, []),
  (223, .invokevirtual 155, 153, 1, 0, [12]),
  (226, .goto (-212), 10, 0, 0, []),
  (229, .aload_n 0, 0, 0, 0, []),
  (230, .invokevirtual 165, 157, 0, 0, [12]),
  (233, .istore_n 3, 3, 0, 0, []),
  (234, .iload_n 3, 3, 0, 0, []),
  (235, .iconst (-1), 0, 0, (-1), []),
  (236, .if_icmp .eq 11, 133, 0, 0, []),
  (239, .aload_n 0, 0, 0, 0, []),
  (240, .iload_n 3, 3, 0, 0, []),
  (241, .invokevirtual 168, 156, 1, 0, [12]),
  (244, .ifCond .ne 5, 135, 0, 0, []),
  (247, .iconst 0, 0, 0, 0, []),
  (248, .ireturn, 0, 0, 0, [2]),
  (249, .iconst 1, 0, 0, 1, []),
  (250, .istore_n 1, 1, 0, 0, []),
  (251, .iload_n 3, 3, 0, 0, []),
  (252, .bipush 12, 0, 0, 12, []),
  (254, .if_icmp .gt 7, 142, 0, 0, []),
  (257, .iconst 1, 0, 0, 1, []),
  (258, .goto 4, 143, 0, 0, []),
  (261, .iconst 0, 0, 0, 0, []),
  (262, .istore_n 2, 2, 0, 0, []),
  (263, .goto (-249), 10, 0, 0, [])]
set_option maxRecDepth 100000 in
noncomputable def zc_X12_text : List zE := [(0, .aload_n 0, 0, 0, 0, []),
  (1, .getfield 110, 12, 12, 0, []),
  (4, .bipush 6, 0, 0, 6, []),
  (6, .if_icmp .ne 6, 6, 0, 0, []),
  (9, .bipush (-4), 0, 0, (-4), []),
  (11, .ireturn, 0, 0, 0, []),
  (12, .aload_n 0, 0, 0, 0, []),
  (13, .iconst 0, 0, 0, 0, []),
  (14, .putfield 119, 24, 12, 0, []),
  (17, .aload_n 0, 0, 0, 0, []),
  (18, .iconst 0, 0, 0, 0, []),
  (19, .putfield 135, 32, 12, 0, []),
  (22, .iconst 1, 0, 0, 1, []),
  (23, .istore_n 1, 1, 0, 0, []),
  (24, .iconst 0, 0, 0, 0, []),
  (25, .istore_n 2, 2, 0, 0, []),
  (26, .iload_n 2, 2, 0, 0, []),
  (27, .iconst 3, 0, 0, 3, []),
  (28, .if_icmp .ge 73, 57, 0, 0, []),
  (31, .iload_n 1, 1, 0, 0, []),
  (32, .ifCond .eq 69, 57, 0, 0, []),
  (35, .aload_n 0, 0, 0, 0, []),
  (36, .invokevirtual 158, 150, 0, 0, [12]),
  (39, .aload_n 0, 0, 0, 0, []),
  (40, .getfield 125, 26, 12, 0, []),
  (43, .iconst 3, 0, 0, 3, []),
  (44, .if_icmp .ne 15, 33, 0, 0, []),
  (47, .aload_n 0, 0, 0, 0, []),
  (48, .getfield 128, 27, 12, 0, []),
  (51, .iload_n 2, 2, 0, 0, []),
  (52, .if_icmp .ne 7, 33, 0, 0, []),
  (55, .iconst 1, 0, 0, 1, []),
  (56, .goto 4, 34, 0, 0, []),
  (59, .iconst 0, 0, 0, 0, []),
  (60, .istore_n 1, 1, 0, 0, []),
  (61, .aload_n 0, 0, 0, 0, []),
  (62, .getfield 34, 11, 12, 0, [0]),
  (65, .iconst 4, 0, 0, 4, []),
  (66, .aload_n 0, 0, 0, 0, []),
  (67, .getfield 110, 12, 12, 0, []),
  (70, .imul, 0, 0, 0, []),
  (71, .iload_n 2, 2, 0, 0, []),
  (72, .iadd, 0, 0, 0, []),
  (73, .aload_n 0, 0, 0, 0, []),
  (74, .getfield 135, 32, 12, 0, []),
  (77, .iastore, 0, 0, 0, []),
  (78, .iload_n 1, 1, 0, 0, []),
  (79, .ifCond .eq 14, 53, 0, 0, []),
  (82, .aload_n 0, 0, 0, 0, []),
  (83, .invokevirtual 171, 158, 0, 0, [12]),
  (86, .ifCond .eq 7, 53, 0, 0, []),
  (89, .iconst 1, 0, 0, 1, []),
  (90, .goto 4, 54, 0, 0, []),
  (93, .iconst 0, 0, 0, 0, []),
  (94, .istore_n 1, 1, 0, 0, []),
  (95, .iinc 2 1, 2, 0, 1, []),
  (98, .goto (-72), 16, 0, 0, []),
  (101, .iload_n 1, 1, 0, 0, []),
  (102, .ifCond .eq 20, 68, 0, 0, []),
  (105, .aload_n 0, 0, 0, 0, []),
  (106, .invokevirtual 158, 150, 0, 0, [12]),
  (109, .aload_n 0, 0, 0, 0, []),
  (110, .getfield 125, 26, 12, 0, []),
  (113, .ifCond .ne 7, 66, 0, 0, []),
  (116, .iconst 1, 0, 0, 1, []),
  (117, .goto 4, 67, 0, 0, []),
  (120, .iconst 0, 0, 0, 0, []),
  (121, .istore_n 1, 1, 0, 0, []),
  (122, .aload_n 0, 0, 0, 0, []),
  (123, .getfield 34, 11, 12, 0, [0]),
  (126, .iconst 4, 0, 0, 4, []),
  (127, .aload_n 0, 0, 0, 0, []),
  (128, .getfield 110, 12, 12, 0, []),
  (131, .imul, 0, 0, 0, []),
  (132, .iconst 3, 0, 0, 3, []),
  (133, .iadd, 0, 0, 0, []),
  (134, .aload_n 0, 0, 0, 0, []),
  (135, .getfield 135, 32, 12, 0, []),
  (138, .iastore, 0, 0, 0, []),
  (139, .aload_n 0, 0, 0, 0, []),
  (140, .iconst 0, 0, 0, 0, []),
  (141, .putfield 82, 9, 12, 0, []),
  (144, .iload_n 1, 1, 0, 0, []),
  (145, .ifCond .ne 11, 89, 0, 0, []),
  (148, .bipush (-100), 0, 0, (-100), []),
  (150, .aload_n 0, 0, 0, 0, []),
  (151, .getfield 122, 25, 12, 0, []),
  (154, .isub, 0, 0, 0, []),
  (155, .ireturn, 0, 0, 0, []),
  (156, .aload_n 0, 0, 0, 0, []),
  (157, .dup, 0, 0, 0, []),
  (158, .getfield 110, 12, 12, 0, []),
  (161, .iconst 1, 0, 0, 1, []),
  (162, .iadd, 0, 0, 0, []),
  (163, .putfield 110, 12, 12, 0, []),
  (166, .aload_n 0, 0, 0, 0, []),
  (167, .getfield 110, 12, 12, 0, []),
  (170, .iconst 1, 0, 0, 1, []),
  (171, .isub, 0, 0, 0, []),
  (172, .ireturn, 0, 0, 0, [])]
set_option maxRecDepth 100000 in
noncomputable def zc_X12_two : List zE := [(0, .iload_n 0, 0, 0, 0, []),
  (1, .tableswitch 101 11 17 #[43, 57, 101, 71, 82, 93, 97], 40, 43, 11, [2, 10, 40, 18, 25, 32, 36]),
  (44, .iload_n 1, 1, 0, 0, []),
  (45, .ifCond .ne 7, 6, 0, 0, []),
  (48, .iload_n 2, 2, 0, 0, []),
  (49, .ifCond .eq 7, 8, 0, 0, []),
  (52, .iconst 1, 0, 0, 1, []),
  (53, .goto 4, 9, 0, 0, []),
  (56, .iconst 0, 0, 0, 0, []),
  (57, .ireturn, 0, 0, 0, []),
  (58, .iload_n 1, 1, 0, 0, []),
  (59, .ifCond .eq 11, 16, 0, 0, []),
  (62, .iload_n 2, 2, 0, 0, []),
  (63, .ifCond .eq 7, 16, 0, 0, []),
  (66, .iconst 1, 0, 0, 1, []),
  (67, .goto 4, 17, 0, 0, []),
  (70, .iconst 0, 0, 0, 0, []),
  (71, .ireturn, 0, 0, 0, []),
  (72, .iload_n 1, 1, 0, 0, []),
  (73, .iload_n 2, 2, 0, 0, []),
  (74, .if_icmp .ge 7, 23, 0, 0, []),
  (77, .iconst 1, 0, 0, 1, []),
  (78, .goto 4, 24, 0, 0, []),
  (81, .iconst 0, 0, 0, 0, []),
  (82, .ireturn, 0, 0, 0, []),
  (83, .iload_n 1, 1, 0, 0, []),
  (84, .iload_n 2, 2, 0, 0, []),
  (85, .if_icmp .ne 7, 30, 0, 0, []),
  (88, .iconst 1, 0, 0, 1, []),
  (89, .goto 4, 31, 0, 0, []),
  (92, .iconst 0, 0, 0, 0, []),
  (93, .ireturn, 0, 0, 0, []),
  (94, .iload_n 1, 1, 0, 0, []),
  (95, .iload_n 2, 2, 0, 0, []),
  (96, .iadd, 0, 0, 0, []),
  (97, .ireturn, 0, 0, 0, []),
  (98, .iload_n 1, 1, 0, 0, []),
  (99, .iload_n 2, 2, 0, 0, []),
  (100, .isub, 0, 0, 0, []),
  (101, .ireturn, 0, 0, 0, []),
  (102, .iload_n 1, 1, 0, 0, []),
  (103, .iload_n 2, 2, 0, 0, []),
  (104, .imul, 0, 0, 0, []),
  (105, .ireturn, 0, 0, 0, [])]
set_option maxRecDepth 100000 in
noncomputable def zc_X12_says : List zE := [(0, .iconst 0, 0, 0, 0, []),
  (1, .istore_n 2, 2, 0, 0, []),
  (2, .aload_n 0, 0, 0, 0, []),
  (3, .getfield 34, 11, 12, 0, [0]),
  (6, .iconst 4, 0, 0, 4, []),
  (7, .aload_n 0, 0, 0, 0, []),
  (8, .getfield 113, 13, 12, 0, []),
  (11, .imul, 0, 0, 0, []),
  (12, .iload_n 1, 1, 0, 0, []),
  (13, .iadd, 0, 0, 0, []),
  (14, .iaload, 0, 0, 0, []),
  (15, .istore_n 3, 3, 0, 0, []),
  (16, .iload_n 3, 3, 0, 0, []),
  (17, .aload_n 0, 0, 0, 0, []),
  (18, .getfield 34, 11, 12, 0, [0]),
  (21, .iconst 4, 0, 0, 4, []),
  (22, .aload_n 0, 0, 0, 0, []),
  (23, .getfield 113, 13, 12, 0, []),
  (26, .imul, 0, 0, 0, []),
  (27, .iload_n 1, 1, 0, 0, []),
  (28, .iadd, 0, 0, 0, []),
  (29, .iconst 1, 0, 0, 1, []),
  (30, .iadd, 0, 0, 0, []),
  (31, .iaload, 0, 0, 0, []),
  (32, .if_icmp .ge 165, 116, 0, 0, []),
  (35, .aload_n 0, 0, 0, 0, []),
  (36, .getfield 31, 10, 12, 0, [0]),
  (39, .sipush 200, 0, 0, 200, []),
  (42, .aload_n 0, 0, 0, 0, []),
  (43, .getfield 113, 13, 12, 0, []),
  (46, .imul, 0, 0, 0, []),
  (47, .iload_n 3, 3, 0, 0, []),
  (48, .iadd, 0, 0, 0, []),
  (49, .iaload, 0, 0, 0, []),
  (50, .istore 4, 4, 0, 0, []),
  (52, .iload 4, 4, 0, 0, []),
  (54, .ldc 161, 0, 0, 100000, []),
  (56, .if_icmp .ge 10, 41, 0, 0, []),
  (59, .iload 4, 4, 0, 0, []),
  (61, .bipush 11, 0, 0, 11, []),
  (63, .if_icmp .ge 37, 58, 0, 0, []),
  (66, .aload_n 0, 0, 0, 0, []),
  (67, .getfield 61, 33, 12, 0, [0]),
  (70, .iload_n 2, 2, 0, 0, []),
  (71, .iload 4, 4, 0, 0, []),
  (73, .bipush 11, 0, 0, 11, []),
  (75, .if_icmp .ge 13, 52, 0, 0, []),
  (78, .aload_n 0, 0, 0, 0, []),
  (79, .getfield 64, 34, 12, 0, [0]),
  (82, .iload 4, 4, 0, 0, []),
  (84, .iaload, 0, 0, 0, []),
  (85, .goto 8, 55, 0, 0, []),
  (88, .iload 4, 4, 0, 0, []),
  (90, .ldc 161, 0, 0, 100000, []),
  (92, .isub, 0, 0, 0, []),
  (93, .iastore, 0, 0, 0, []),
  (94, .iinc 2 1, 2, 0, 1, []),
  (97, .goto 94, 114, 0, 0, []),
  (100, .iload 4, 4, 0, 0, []),
  (102, .bipush 13, 0, 0, 13, []),
  (104, .if_icmp .ne 30, 78, 0, 0, []),
  (107, .aload_n 0, 0, 0, 0, []),
  (108, .getfield 61, 33, 12, 0, [0]),
  (111, .iload_n 2, 2, 0, 0, []),
  (112, .iconst 1, 0, 0, 1, []),
  (113, .isub, 0, 0, 0, []),
  (114, .aload_n 0, 0, 0, 0, []),
  (115, .getfield 61, 33, 12, 0, [0]),
  (118, .iload_n 2, 2, 0, 0, []),
  (119, .iconst 1, 0, 0, 1, []),
  (120, .isub, 0, 0, 0, []),
  (121, .iaload, 0, 0, 0, []),
  (122, .ifCond .ne 7, 75, 0, 0, []),
  (125, .iconst 1, 0, 0, 1, []),
  (126, .goto 4, 76, 0, 0, []),
  (129, .iconst 0, 0, 0, 0, []),
  (130, .iastore, 0, 0, 0, []),
  (131, .goto 60, 114, 0, 0, []),
  (134, .iload 4, 4, 0, 0, []),
  (136, .bipush 19, 0, 0, 19, []),
  (138, .if_icmp .ne 23, 95, 0, 0, []),
  (141, .aload_n 0, 0, 0, 0, []),
  (142, .getfield 61, 33, 12, 0, [0]),
  (145, .iload_n 2, 2, 0, 0, []),
  (146, .iconst 1, 0, 0, 1, []),
  (147, .isub, 0, 0, 0, []),
  (148, .aload_n 0, 0, 0, 0, []),
  (149, .getfield 61, 33, 12, 0, [0]),
  (152, .iload_n 2, 2, 0, 0, []),
  (153, .iconst 1, 0, 0, 1, []),
  (154, .isub, 0, 0, 0, []),
  (155, .iaload, 0, 0, 0, []),
  (156, .ineg, 0, 0, 0, []),
  (157, .iastore, 0, 0, 0, []),
  (158, .goto 33, 114, 0, 0, []),
  (161, .iinc 2 (-1), 2, 0, (-1), []),
  (164, .aload_n 0, 0, 0, 0, []),
  (165, .getfield 61, 33, 12, 0, [0]),
  (168, .iload_n 2, 2, 0, 0, []),
  (169, .iconst 1, 0, 0, 1, []),
  (170, .isub, 0, 0, 0, []),
  (171, .iload 4, 4, 0, 0, []),
  (173, .aload_n 0, 0, 0, 0, []),
  (174, .getfield 61, 33, 12, 0, [0]),
  (177, .iload_n 2, 2, 0, 0, []),
  (178, .iconst 1, 0, 0, 1, []),
  (179, .isub, 0, 0, 0, []),
  (180, .iaload, 0, 0, 0, []),
  (181, .aload_n 0, 0, 0, 0, []),
  (182, .getfield 61, 33, 12, 0, [0]),
  (185, .iload_n 2, 2, 0, 0, []),
  (186, .iaload, 0, 0, 0, []),
  (187, .invokestatic 175, 160, 3, 0, []),
  (190, .iastore, 0, 0, 0, []),
  (191, .iinc 3 1, 3, 0, 1, []),
  (194, .goto (-178), 12, 0, 0, []),
  (197, .aload_n 0, 0, 0, 0, []),
  (198, .getfield 61, 33, 12, 0, [0]),
  (201, .iconst 0, 0, 0, 0, []),
  (202, .iaload, 0, 0, 0, []),
  (203, .ireturn, 0, 0, 0, [])]
set_option maxRecDepth 100000 in
noncomputable def zc_X12_force : List zE := [(0, .iload_n 1, 1, 0, 0, []),
  (1, .iconst 0, 0, 0, 0, []),
  (2, .aload_n 0, 0, 0, 0, []),
  (3, .getfield 110, 12, 12, 0, []),
  (6, .iconst 1, 0, 0, 1, []),
  (7, .isub, 0, 0, 0, []),
  (8, .invokestatic 90, 136, 3, 0, []),
  (11, .ifCond .ne 6, 10, 0, 0, []),
  (14, .bipush (-2), 0, 0, (-2), []),
  (16, .ireturn, 0, 0, 0, []),
  (17, .aload_n 0, 0, 0, 0, []),
  (18, .getfield 113, 13, 12, 0, []),
  (21, .istore_n 2, 2, 0, 0, []),
  (22, .aload_n 0, 0, 0, 0, []),
  (23, .iload_n 1, 1, 0, 0, []),
  (24, .putfield 113, 13, 12, 0, []),
  (27, .iload_n 2, 2, 0, 0, []),
  (28, .ireturn, 0, 0, 0, [])]
set_option maxRecDepth 100000 in
noncomputable def zc_X12_asksOf : List zE := [(0, .aload_n 0, 0, 0, 0, []),
  (1, .getfield 64, 34, 12, 0, [0]),
  (4, .iconst 0, 0, 0, 0, []),
  (5, .iload_n 2, 2, 0, 0, []),
  (6, .iastore, 0, 0, 0, []),
  (7, .aload_n 0, 0, 0, 0, []),
  (8, .getfield 64, 34, 12, 0, [0]),
  (11, .iconst 1, 0, 0, 1, []),
  (12, .iload_n 3, 3, 0, 0, []),
  (13, .iastore, 0, 0, 0, []),
  (14, .aload_n 0, 0, 0, 0, []),
  (15, .getfield 64, 34, 12, 0, [0]),
  (18, .iconst 2, 0, 0, 2, []),
  (19, .iload 4, 4, 0, 0, []),
  (21, .iastore, 0, 0, 0, []),
  (22, .aload_n 0, 0, 0, 0, []),
  (23, .getfield 64, 34, 12, 0, [0]),
  (26, .iconst 3, 0, 0, 3, []),
  (27, .iload 5, 5, 0, 0, []),
  (29, .iastore, 0, 0, 0, []),
  (30, .aload_n 0, 0, 0, 0, []),
  (31, .getfield 64, 34, 12, 0, [0]),
  (34, .iconst 4, 0, 0, 4, []),
  (35, .iload 6, 6, 0, 0, []),
  (37, .iastore, 0, 0, 0, []),
  (38, .aload_n 0, 0, 0, 0, []),
  (39, .getfield 64, 34, 12, 0, [0]),
  (42, .iconst 5, 0, 0, 5, []),
  (43, .iload 7, 7, 0, 0, []),
  (45, .iastore, 0, 0, 0, []),
  (46, .aload_n 0, 0, 0, 0, []),
  (47, .iload_n 1, 1, 0, 0, []),
  (48, .invokevirtual 179, 161, 1, 0, [12]),
  (51, .iconst 0, 0, 0, 0, []),
  (52, .iload_n 1, 1, 0, 0, []),
  (53, .iconst 2, 0, 0, 2, []),
  (54, .if_icmp .ne 8, 39, 0, 0, []),
  (57, .bipush 100, 0, 0, 100, []),
  (59, .goto 5, 40, 0, 0, []),
  (62, .bipush 99, 0, 0, 99, []),
  (64, .invokestatic 182, 137, 3, 0, []),
  (67, .ireturn, 0, 0, 0, [])]
set_option maxRecDepth 100000 in
noncomputable def zc_X12_asks : List zE := [(0, .iload_n 1, 1, 0, 0, []),
  (1, .iconst 0, 0, 0, 0, []),
  (2, .iconst 2, 0, 0, 2, []),
  (3, .invokestatic 90, 136, 3, 0, []),
  (6, .ifCond .eq 49, 27, 0, 0, []),
  (9, .iload_n 2, 2, 0, 0, []),
  (10, .iconst 0, 0, 0, 0, []),
  (11, .bipush 99, 0, 0, 99, []),
  (13, .invokestatic 90, 136, 3, 0, []),
  (16, .ifCond .eq 39, 27, 0, 0, []),
  (19, .iload_n 3, 3, 0, 0, []),
  (20, .iconst 0, 0, 0, 0, []),
  (21, .bipush 99, 0, 0, 99, []),
  (23, .invokestatic 90, 136, 3, 0, []),
  (26, .ifCond .eq 29, 27, 0, 0, []),
  (29, .iload 4, 4, 0, 0, []),
  (31, .iconst 0, 0, 0, 0, []),
  (32, .bipush 9, 0, 0, 9, []),
  (34, .invokestatic 90, 136, 3, 0, []),
  (37, .ifCond .eq 18, 27, 0, 0, []),
  (40, .iload 5, 5, 0, 0, []),
  (42, .iconst 0, 0, 0, 0, []),
  (43, .bipush 119, 0, 0, 119, []),
  (45, .invokestatic 90, 136, 3, 0, []),
  (48, .ifCond .eq 7, 27, 0, 0, []),
  (51, .iconst 1, 0, 0, 1, []),
  (52, .goto 4, 28, 0, 0, []),
  (55, .iconst 0, 0, 0, 0, []),
  (56, .istore 6, 6, 0, 0, []),
  (58, .iload 6, 6, 0, 0, []),
  (60, .ifCond .eq 32, 49, 0, 0, []),
  (63, .aload_n 0, 0, 0, 0, []),
  (64, .iload_n 1, 1, 0, 0, []),
  (65, .iload_n 2, 2, 0, 0, []),
  (66, .iload_n 3, 3, 0, 0, []),
  (67, .bipush 10, 0, 0, 10, []),
  (69, .idiv, 0, 0, 0, []),
  (70, .iload_n 3, 3, 0, 0, []),
  (71, .bipush 10, 0, 0, 10, []),
  (73, .irem, 0, 0, 0, []),
  (74, .iload 4, 4, 0, 0, []),
  (76, .iload 5, 5, 0, 0, []),
  (78, .bipush 10, 0, 0, 10, []),
  (80, .idiv, 0, 0, 0, []),
  (81, .iload 5, 5, 0, 0, []),
  (83, .bipush 10, 0, 0, 10, []),
  (85, .irem, 0, 0, 0, []),
  (86, .invokevirtual 185, 163, 7, 0, [12]),
  (89, .goto 5, 50, 0, 0, []),
  (92, .bipush (-2), 0, 0, (-2), []),
  (94, .ireturn, 0, 0, 0, [])]
set_option maxRecDepth 100000 in
noncomputable def zc_X12_island : List zE := [(0, .iload_n 1, 1, 0, 0, []),
  (1, .iconst 0, 0, 0, 0, []),
  (2, .iconst 5, 0, 0, 5, []),
  (3, .invokestatic 90, 136, 3, 0, []),
  (6, .ifCond .eq 34, 20, 0, 0, []),
  (9, .iload_n 2, 2, 0, 0, []),
  (10, .iconst 0, 0, 0, 0, []),
  (11, .bipush 99, 0, 0, 99, []),
  (13, .invokestatic 90, 136, 3, 0, []),
  (16, .ifCond .eq 24, 20, 0, 0, []),
  (19, .iload_n 3, 3, 0, 0, []),
  (20, .iconst 0, 0, 0, 0, []),
  (21, .bipush 9, 0, 0, 9, []),
  (23, .invokestatic 90, 136, 3, 0, []),
  (26, .ifCond .eq 14, 20, 0, 0, []),
  (29, .iload 4, 4, 0, 0, []),
  (31, .iconst 0, 0, 0, 0, []),
  (32, .bipush 9, 0, 0, 9, []),
  (34, .invokestatic 90, 136, 3, 0, []),
  (37, .ifCond .ne 6, 22, 0, 0, []),
  (40, .bipush (-2), 0, 0, (-2), []),
  (42, .ireturn, 0, 0, 0, []),
  (43, .aload_n 0, 0, 0, 0, []),
  (44, .getfield 94, 1, 12, 0, []),
  (47, .bipush 6, 0, 0, 6, []),
  (49, .if_icmp .ne 6, 28, 0, 0, []),
  (52, .bipush (-4), 0, 0, (-4), []),
  (54, .ireturn, 0, 0, 0, []),
  (55, .aload_n 0, 0, 0, 0, []),
  (56, .getfield 13, 2, 12, 0, [0]),
  (59, .aload_n 0, 0, 0, 0, []),
  (60, .getfield 94, 1, 12, 0, []),
  (63, .iload_n 1, 1, 0, 0, []),
  (64, .iastore, 0, 0, 0, []),
  (65, .aload_n 0, 0, 0, 0, []),
  (66, .getfield 16, 3, 12, 0, [0]),
  (69, .aload_n 0, 0, 0, 0, []),
  (70, .getfield 94, 1, 12, 0, []),
  (73, .iload_n 2, 2, 0, 0, []),
  (74, .iastore, 0, 0, 0, []),
  (75, .aload_n 0, 0, 0, 0, []),
  (76, .getfield 19, 4, 12, 0, [0]),
  (79, .aload_n 0, 0, 0, 0, []),
  (80, .getfield 94, 1, 12, 0, []),
  (83, .iload_n 3, 3, 0, 0, []),
  (84, .iastore, 0, 0, 0, []),
  (85, .aload_n 0, 0, 0, 0, []),
  (86, .getfield 22, 5, 12, 0, [0]),
  (89, .aload_n 0, 0, 0, 0, []),
  (90, .getfield 94, 1, 12, 0, []),
  (93, .iload 4, 4, 0, 0, []),
  (95, .iastore, 0, 0, 0, []),
  (96, .aload_n 0, 0, 0, 0, []),
  (97, .dup, 0, 0, 0, []),
  (98, .getfield 94, 1, 12, 0, []),
  (101, .iconst 1, 0, 0, 1, []),
  (102, .iadd, 0, 0, 0, []),
  (103, .putfield 94, 1, 12, 0, []),
  (106, .aload_n 0, 0, 0, 0, []),
  (107, .getfield 94, 1, 12, 0, []),
  (110, .iconst 1, 0, 0, 1, []),
  (111, .isub, 0, 0, 0, []),
  (112, .ireturn, 0, 0, 0, [])]
set_option maxRecDepth 100000 in
noncomputable def zc_X12_told : List zE := [(0, .aload_n 0, 0, 0, 0, []),
  (1, .iload_n 1, 1, 0, 0, []),
  (2, .invokevirtual 107, 139, 1, 0, [12]),
  (5, .ifCond .ne 6, 6, 0, 0, []),
  (8, .bipush (-5), 0, 0, (-5), []),
  (10, .ireturn, 0, 0, 0, []),
  (11, .iload_n 2, 2, 0, 0, []),
  (12, .tableswitch 60 0 3 #[32, 39, 46, 53], 28, 32, 0, [8, 13, 18, 23]),
  (44, .aload_n 0, 0, 0, 0, []),
  (45, .getfield 13, 2, 12, 0, [0]),
  (48, .iload_n 1, 1, 0, 0, []),
  (49, .iaload, 0, 0, 0, []),
  (50, .ireturn, 0, 0, 0, []),
  (51, .aload_n 0, 0, 0, 0, []),
  (52, .getfield 16, 3, 12, 0, [0]),
  (55, .iload_n 1, 1, 0, 0, []),
  (56, .iaload, 0, 0, 0, []),
  (57, .ireturn, 0, 0, 0, []),
  (58, .aload_n 0, 0, 0, 0, []),
  (59, .getfield 19, 4, 12, 0, [0]),
  (62, .iload_n 1, 1, 0, 0, []),
  (63, .iaload, 0, 0, 0, []),
  (64, .ireturn, 0, 0, 0, []),
  (65, .aload_n 0, 0, 0, 0, []),
  (66, .getfield 22, 5, 12, 0, [0]),
  (69, .iload_n 1, 1, 0, 0, []),
  (70, .iaload, 0, 0, 0, []),
  (71, .ireturn, 0, 0, 0, []),
  (72, .bipush (-7), 0, 0, (-7), []),
  (74, .ireturn, 0, 0, 0, [])]
set_option maxRecDepth 100000 in
noncomputable def zc_X12_stands : List zE := [(0, .aload_n 0, 0, 0, 0, []),
  (1, .getfield 13, 2, 12, 0, [0]),
  (4, .iload_n 1, 1, 0, 0, []),
  (5, .iaload, 0, 0, 0, []),
  (6, .iconst 2, 0, 0, 2, []),
  (7, .if_icmp .eq 13, 12, 0, 0, []),
  (10, .aload_n 0, 0, 0, 0, []),
  (11, .getfield 13, 2, 12, 0, [0]),
  (14, .iload_n 1, 1, 0, 0, []),
  (15, .iaload, 0, 0, 0, []),
  (16, .iconst 4, 0, 0, 4, []),
  (17, .if_icmp .ne 18, 21, 0, 0, []),
  (20, .aload_n 0, 0, 0, 0, []),
  (21, .getfield 7, 0, 12, 0, [0]),
  (24, .iload_n 2, 2, 0, 0, []),
  (25, .iaload, 0, 0, 0, []),
  (26, .aload_n 0, 0, 0, 0, []),
  (27, .getfield 19, 4, 12, 0, [0]),
  (30, .iload_n 1, 1, 0, 0, []),
  (31, .iaload, 0, 0, 0, []),
  (32, .if_icmp .gt 7, 23, 0, 0, []),
  (35, .iconst 1, 0, 0, 1, []),
  (36, .goto 4, 24, 0, 0, []),
  (39, .iconst 0, 0, 0, 0, []),
  (40, .ireturn, 0, 0, 0, [2])]
set_option maxRecDepth 100000 in
noncomputable def zc_X12_worthOf : List zE := [(0, .aload_n 0, 0, 0, 0, []),
  (1, .iconst 0, 0, 0, 0, []),
  (2, .aload_n 0, 0, 0, 0, []),
  (3, .getfield 16, 3, 12, 0, [0]),
  (6, .iload_n 1, 1, 0, 0, []),
  (7, .iaload, 0, 0, 0, []),
  (8, .aload_n 0, 0, 0, 0, []),
  (9, .getfield 7, 0, 12, 0, [0]),
  (12, .iload_n 2, 2, 0, 0, []),
  (13, .iaload, 0, 0, 0, []),
  (14, .aload_n 0, 0, 0, 0, []),
  (15, .getfield 22, 5, 12, 0, [0]),
  (18, .iload_n 1, 1, 0, 0, []),
  (19, .iaload, 0, 0, 0, []),
  (20, .iconst 0, 0, 0, 0, []),
  (21, .iload_n 2, 2, 0, 0, []),
  (22, .iload_n 1, 1, 0, 0, []),
  (23, .invokevirtual 185, 163, 7, 0, [12]),
  (26, .istore_n 3, 3, 0, 0, []),
  (27, .iload_n 3, 3, 0, 0, []),
  (28, .aload_n 0, 0, 0, 0, []),
  (29, .getfield 22, 5, 12, 0, [0]),
  (32, .iload_n 1, 1, 0, 0, []),
  (33, .iaload, 0, 0, 0, []),
  (34, .iload_n 2, 2, 0, 0, []),
  (35, .imul, 0, 0, 0, []),
  (36, .iadd, 0, 0, 0, []),
  (37, .istore 4, 4, 0, 0, []),
  (39, .aload_n 0, 0, 0, 0, []),
  (40, .getfield 13, 2, 12, 0, [0]),
  (43, .iload_n 1, 1, 0, 0, []),
  (44, .iaload, 0, 0, 0, []),
  (45, .istore 5, 5, 0, 0, []),
  (47, .iload 5, 5, 0, 0, []),
  (49, .iconst 1, 0, 0, 1, []),
  (50, .if_icmp .ne 8, 38, 0, 0, []),
  (53, .iload 4, 4, 0, 0, []),
  (55, .goto 45, 63, 0, 0, []),
  (58, .iload 5, 5, 0, 0, []),
  (60, .iconst 3, 0, 0, 3, []),
  (61, .if_icmp .ne 12, 47, 0, 0, []),
  (64, .iconst 2, 0, 0, 2, []),
  (65, .iload 4, 4, 0, 0, []),
  (67, .imul, 0, 0, 0, []),
  (68, .iconst 1, 0, 0, 1, []),
  (69, .iadd, 0, 0, 0, []),
  (70, .goto 30, 63, 0, 0, []),
  (73, .iload 5, 5, 0, 0, []),
  (75, .iconst 4, 0, 0, 4, []),
  (76, .if_icmp .ne 23, 62, 0, 0, []),
  (79, .iload_n 2, 2, 0, 0, []),
  (80, .aload_n 0, 0, 0, 0, []),
  (81, .getfield 22, 5, 12, 0, [0]),
  (84, .iload_n 1, 1, 0, 0, []),
  (85, .iaload, 0, 0, 0, []),
  (86, .if_icmp .ge 9, 60, 0, 0, []),
  (89, .iload_n 3, 3, 0, 0, []),
  (90, .iconst 5, 0, 0, 5, []),
  (91, .iadd, 0, 0, 0, []),
  (92, .goto 8, 63, 0, 0, []),
  (95, .iconst 0, 0, 0, 0, []),
  (96, .goto 4, 63, 0, 0, []),
  (99, .iload_n 3, 3, 0, 0, []),
  (100, .istore 6, 6, 0, 0, []),
  (102, .iload 6, 6, 0, 0, []),
  (104, .iconst 0, 0, 0, 0, []),
  (105, .sipush 9999, 0, 0, 9999, []),
  (108, .invokestatic 182, 137, 3, 0, []),
  (111, .ireturn, 0, 0, 0, [])]
set_option maxRecDepth 100000 in
noncomputable def zc_X12_joinsOf : List zE := [(0, .aload_n 0, 0, 0, 0, []),
  (1, .getfield 22, 5, 12, 0, [0]),
  (4, .iload_n 1, 1, 0, 0, []),
  (5, .iaload, 0, 0, 0, []),
  (6, .bipush 6, 0, 0, 6, []),
  (8, .irem, 0, 0, 0, []),
  (9, .istore_n 3, 3, 0, 0, []),
  (10, .aload_n 0, 0, 0, 0, []),
  (11, .getfield 13, 2, 12, 0, [0]),
  (14, .iload_n 1, 1, 0, 0, []),
  (15, .iaload, 0, 0, 0, []),
  (16, .iconst 5, 0, 0, 5, []),
  (17, .if_icmp .ne 30, 28, 0, 0, []),
  (20, .aload_n 0, 0, 0, 0, []),
  (21, .iload_n 3, 3, 0, 0, []),
  (22, .invokevirtual 107, 139, 1, 0, [12]),
  (25, .ifCond .eq 22, 28, 0, 0, []),
  (28, .aload_n 0, 0, 0, 0, []),
  (29, .getfield 7, 0, 12, 0, [0]),
  (32, .iload_n 2, 2, 0, 0, []),
  (33, .iaload, 0, 0, 0, []),
  (34, .aload_n 0, 0, 0, 0, []),
  (35, .getfield 19, 4, 12, 0, [0]),
  (38, .iload_n 1, 1, 0, 0, []),
  (39, .iaload, 0, 0, 0, []),
  (40, .if_icmp .ge 7, 28, 0, 0, []),
  (43, .iconst 1, 0, 0, 1, []),
  (44, .goto 4, 29, 0, 0, []),
  (47, .iconst 0, 0, 0, 0, []),
  (48, .istore 4, 4, 0, 0, []),
  (50, .iconst 1, 0, 0, 1, []),
  (51, .iload_n 1, 1, 0, 0, []),
  (52, .ishl, 0, 0, 0, []),
  (53, .iload 4, 4, 0, 0, []),
  (55, .ifCond .eq 9, 39, 0, 0, []),
  (58, .iconst 1, 0, 0, 1, []),
  (59, .iload_n 3, 3, 0, 0, []),
  (60, .ishl, 0, 0, 0, []),
  (61, .goto 4, 40, 0, 0, []),
  (64, .iconst 0, 0, 0, 0, []),
  (65, .ior, 0, 0, 0, []),
  (66, .ireturn, 0, 0, 0, [])]
set_option maxRecDepth 100000 in
noncomputable def zc_X12_looksAt : List zE := [(0, .aload_n 0, 0, 0, 0, []),
  (1, .iconst 0, 0, 0, 0, []),
  (2, .putfield 189, 36, 12, 0, []),
  (5, .iconst 0, 0, 0, 0, []),
  (6, .istore_n 2, 2, 0, 0, []),
  (7, .iload_n 2, 2, 0, 0, []),
  (8, .aload_n 0, 0, 0, 0, []),
  (9, .getfield 94, 1, 12, 0, []),
  (12, .if_icmp .ge 58, 42, 0, 0, []),
  (15, .aload_n 0, 0, 0, 0, []),
  (16, .getfield 67, 35, 12, 0, [0]),
  (19, .iload_n 2, 2, 0, 0, []),
  (20, .aload_n 0, 0, 0, 0, []),
  (21, .iload_n 2, 2, 0, 0, []),
  (22, .iload_n 1, 1, 0, 0, []),
  (23, .invokevirtual 192, 169, 2, 0, [12]),
  (26, .iastore, 0, 0, 0, []),
  (27, .aload_n 0, 0, 0, 0, []),
  (28, .dup, 0, 0, 0, []),
  (29, .getfield 189, 36, 12, 0, []),
  (32, .aload_n 0, 0, 0, 0, []),
  (33, .iload_n 2, 2, 0, 0, []),
  (34, .iload_n 1, 1, 0, 0, []),
  (35, .invokevirtual 195, 167, 2, 0, [12]),
  (38, .ifCond .eq 9, 29, 0, 0, []),
  (41, .iconst 1, 0, 0, 1, []),
  (42, .iload_n 2, 2, 0, 0, []),
  (43, .ishl, 0, 0, 0, []),
  (44, .goto 4, 30, 0, 0, []),
  (47, .iconst 0, 0, 0, 0, []),
  (48, .ior, 0, 0, 0, []),
  (49, .putfield 189, 36, 12, 0, []),
  (52, .aload_n 0, 0, 0, 0, []),
  (53, .getfield 70, 37, 12, 0, [0]),
  (56, .iload_n 2, 2, 0, 0, []),
  (57, .aload_n 0, 0, 0, 0, []),
  (58, .iload_n 2, 2, 0, 0, []),
  (59, .iload_n 1, 1, 0, 0, []),
  (60, .invokevirtual 199, 168, 2, 0, [12]),
  (63, .iastore, 0, 0, 0, []),
  (64, .iinc 2 1, 2, 0, 1, []),
  (67, .goto (-60), 5, 0, 0, []),
  (70, .iconst 0, 0, 0, 0, []),
  (71, .istore_n 2, 2, 0, 0, []),
  (72, .iload_n 2, 2, 0, 0, []),
  (73, .bipush 6, 0, 0, 6, []),
  (75, .if_icmp .ge 99, 100, 0, 0, []),
  (78, .iconst 0, 0, 0, 0, []),
  (79, .istore_n 3, 3, 0, 0, []),
  (80, .iload_n 3, 3, 0, 0, []),
  (81, .aload_n 0, 0, 0, 0, []),
  (82, .getfield 94, 1, 12, 0, []),
  (85, .aload_n 0, 0, 0, 0, []),
  (86, .getfield 94, 1, 12, 0, []),
  (89, .imul, 0, 0, 0, []),
  (90, .if_icmp .ge 78, 98, 0, 0, []),
  (93, .iload_n 3, 3, 0, 0, []),
  (94, .aload_n 0, 0, 0, 0, []),
  (95, .getfield 94, 1, 12, 0, []),
  (98, .idiv, 0, 0, 0, []),
  (99, .istore 4, 4, 0, 0, []),
  (101, .iload_n 3, 3, 0, 0, []),
  (102, .aload_n 0, 0, 0, 0, []),
  (103, .getfield 94, 1, 12, 0, []),
  (106, .irem, 0, 0, 0, []),
  (107, .istore 5, 5, 0, 0, []),
  (109, .aload_n 0, 0, 0, 0, []),
  (110, .getfield 67, 35, 12, 0, [0]),
  (113, .iload 4, 4, 0, 0, []),
  (115, .iaload, 0, 0, 0, []),
  (116, .aload_n 0, 0, 0, 0, []),
  (117, .getfield 67, 35, 12, 0, [0]),
  (120, .iload 5, 5, 0, 0, []),
  (122, .iaload, 0, 0, 0, []),
  (123, .iand, 0, 0, 0, []),
  (124, .ifCond .eq 38, 96, 0, 0, []),
  (127, .aload_n 0, 0, 0, 0, []),
  (128, .getfield 67, 35, 12, 0, [0]),
  (131, .iload 4, 4, 0, 0, []),
  (133, .iaload, 0, 0, 0, []),
  (134, .aload_n 0, 0, 0, 0, []),
  (135, .getfield 67, 35, 12, 0, [0]),
  (138, .iload 5, 5, 0, 0, []),
  (140, .iaload, 0, 0, 0, []),
  (141, .ior, 0, 0, 0, []),
  (142, .istore 6, 6, 0, 0, []),
  (144, .aload_n 0, 0, 0, 0, []),
  (145, .getfield 67, 35, 12, 0, [0]),
  (148, .iload 4, 4, 0, 0, []),
  (150, .iload 6, 6, 0, 0, []),
  (152, .iastore, 0, 0, 0, []),
  (153, .aload_n 0, 0, 0, 0, []),
  (154, .getfield 67, 35, 12, 0, [0]),
  (157, .iload 5, 5, 0, 0, []),
  (159, .iload 6, 6, 0, 0, []),
  (161, .iastore, 0, 0, 0, []),
  (162, .iinc 3 1, 3, 0, 1, []),
  (165, .goto (-85), 49, 0, 0, []),
  (168, .iinc 2 1, 2, 0, 1, []),
  (171, .goto (-99), 44, 0, 0, []),
  (174, .return_, 0, 0, 0, [])]
set_option maxRecDepth 100000 in
noncomputable def zc_X12_then : List zE := [(0, .aload_n 0, 0, 0, 0, []),
  (1, .iload_n 1, 1, 0, 0, []),
  (2, .invokevirtual 107, 139, 1, 0, [12]),
  (5, .ifCond .eq 10, 7, 0, 0, []),
  (8, .iload_n 2, 2, 0, 0, []),
  (9, .invokestatic 100, 138, 1, 0, []),
  (12, .ifCond .ne 6, 9, 0, 0, []),
  (15, .bipush (-5), 0, 0, (-5), []),
  (17, .ireturn, 0, 0, 0, []),
  (18, .iload_n 3, 3, 0, 0, []),
  (19, .iconst 0, 0, 0, 0, []),
  (20, .iconst 2, 0, 0, 2, []),
  (21, .invokestatic 90, 136, 3, 0, []),
  (24, .ifCond .ne 6, 16, 0, 0, []),
  (27, .bipush (-7), 0, 0, (-7), []),
  (29, .ireturn, 0, 0, 0, []),
  (30, .aload_n 0, 0, 0, 0, []),
  (31, .iload_n 2, 2, 0, 0, []),
  (32, .invokevirtual 202, 170, 1, 0, [12]),
  (35, .iload_n 3, 3, 0, 0, []),
  (36, .ifCond .ne 12, 26, 0, 0, []),
  (39, .aload_n 0, 0, 0, 0, []),
  (40, .getfield 70, 37, 12, 0, [0]),
  (43, .iload_n 1, 1, 0, 0, []),
  (44, .iaload, 0, 0, 0, []),
  (45, .goto 25, 40, 0, 0, []),
  (48, .iload_n 3, 3, 0, 0, []),
  (49, .iconst 1, 0, 0, 1, []),
  (50, .if_icmp .ne 14, 36, 0, 0, []),
  (53, .aload_n 0, 0, 0, 0, []),
  (54, .getfield 189, 36, 12, 0, []),
  (57, .iload_n 1, 1, 0, 0, []),
  (58, .ishr, 0, 0, 0, []),
  (59, .iconst 1, 0, 0, 1, []),
  (60, .iand, 0, 0, 0, []),
  (61, .goto 9, 40, 0, 0, []),
  (64, .aload_n 0, 0, 0, 0, []),
  (65, .getfield 67, 35, 12, 0, [0]),
  (68, .iload_n 1, 1, 0, 0, []),
  (69, .iaload, 0, 0, 0, []),
  (70, .ireturn, 0, 0, 0, [])]
set_option maxRecDepth 100000 in
noncomputable def zc_X12_joined : List zE := [(0, .aload_n 0, 0, 0, 0, []),
  (1, .iload_n 1, 1, 0, 0, []),
  (2, .invokevirtual 107, 139, 1, 0, [12]),
  (5, .ifCond .eq 11, 8, 0, 0, []),
  (8, .aload_n 0, 0, 0, 0, []),
  (9, .iload_n 2, 2, 0, 0, []),
  (10, .invokevirtual 107, 139, 1, 0, [12]),
  (13, .ifCond .ne 6, 10, 0, 0, []),
  (16, .bipush (-5), 0, 0, (-5), []),
  (18, .ireturn, 0, 0, 0, []),
  (19, .iconst 0, 0, 0, 0, []),
  (20, .istore_n 3, 3, 0, 0, []),
  (21, .iconst 0, 0, 0, 0, []),
  (22, .istore 4, 4, 0, 0, []),
  (24, .iload 4, 4, 0, 0, []),
  (26, .bipush 12, 0, 0, 12, []),
  (28, .if_icmp .ge 31, 35, 0, 0, []),
  (31, .aload_n 0, 0, 0, 0, []),
  (32, .iload 4, 4, 0, 0, []),
  (34, .invokevirtual 202, 170, 1, 0, [12]),
  (37, .iload_n 3, 3, 0, 0, []),
  (38, .aload_n 0, 0, 0, 0, []),
  (39, .getfield 67, 35, 12, 0, [0]),
  (42, .iload_n 1, 1, 0, 0, []),
  (43, .iaload, 0, 0, 0, []),
  (44, .iload_n 2, 2, 0, 0, []),
  (45, .ishr, 0, 0, 0, []),
  (46, .iconst 1, 0, 0, 1, []),
  (47, .iand, 0, 0, 0, []),
  (48, .iload 4, 4, 0, 0, []),
  (50, .ishl, 0, 0, 0, []),
  (51, .ior, 0, 0, 0, []),
  (52, .istore_n 3, 3, 0, 0, []),
  (53, .iinc 4 1, 4, 0, 1, []),
  (56, .goto (-32), 14, 0, 0, []),
  (59, .iload_n 3, 3, 0, 0, []),
  (60, .ireturn, 0, 0, 0, [])]
set_option maxRecDepth 100000 in
noncomputable def zc_X12_comesTo : List zE := [(0, .aload_n 0, 0, 0, 0, []),
  (1, .iload_n 1, 1, 0, 0, []),
  (2, .invokevirtual 202, 170, 1, 0, [12]),
  (5, .iconst 0, 0, 0, 0, []),
  (6, .istore_n 2, 2, 0, 0, []),
  (7, .iload_n 2, 2, 0, 0, []),
  (8, .aload_n 0, 0, 0, 0, []),
  (9, .getfield 97, 6, 12, 0, []),
  (12, .if_icmp .ge 53, 41, 0, 0, []),
  (15, .aload_n 0, 0, 0, 0, []),
  (16, .getfield 73, 38, 12, 0, [0]),
  (19, .iload_n 2, 2, 0, 0, []),
  (20, .aload_n 0, 0, 0, 0, []),
  (21, .getfield 25, 7, 12, 0, [0]),
  (24, .bipush 12, 0, 0, 12, []),
  (26, .iload_n 2, 2, 0, 0, []),
  (27, .imul, 0, 0, 0, []),
  (28, .iload_n 1, 1, 0, 0, []),
  (29, .iadd, 0, 0, 0, []),
  (30, .iaload, 0, 0, 0, []),
  (31, .iastore, 0, 0, 0, []),
  (32, .aload_n 0, 0, 0, 0, []),
  (33, .getfield 76, 39, 12, 0, [0]),
  (36, .iload_n 2, 2, 0, 0, []),
  (37, .iload_n 1, 1, 0, 0, []),
  (38, .ifCond .ne 7, 28, 0, 0, []),
  (41, .iconst (-1), 0, 0, (-1), []),
  (42, .goto 16, 38, 0, 0, []),
  (45, .aload_n 0, 0, 0, 0, []),
  (46, .getfield 25, 7, 12, 0, [0]),
  (49, .bipush 12, 0, 0, 12, []),
  (51, .iload_n 2, 2, 0, 0, []),
  (52, .imul, 0, 0, 0, []),
  (53, .iload_n 1, 1, 0, 0, []),
  (54, .iadd, 0, 0, 0, []),
  (55, .iconst 1, 0, 0, 1, []),
  (56, .isub, 0, 0, 0, []),
  (57, .iaload, 0, 0, 0, []),
  (58, .iastore, 0, 0, 0, []),
  (59, .iinc 2 1, 2, 0, 1, []),
  (62, .goto (-55), 5, 0, 0, []),
  (65, .return_, 0, 0, 0, [])]
set_option maxRecDepth 100000 in
noncomputable def zc_X12_isThere : List zE := [(0, .aload_n 0, 0, 0, 0, []),
  (1, .getfield 73, 38, 12, 0, [0]),
  (4, .iload_n 1, 1, 0, 0, []),
  (5, .iaload, 0, 0, 0, []),
  (6, .iconst (-1), 0, 0, (-1), []),
  (7, .if_icmp .eq 24, 19, 0, 0, []),
  (10, .aload_n 0, 0, 0, 0, []),
  (11, .getfield 189, 36, 12, 0, []),
  (14, .aload_n 0, 0, 0, 0, []),
  (15, .getfield 73, 38, 12, 0, [0]),
  (18, .iload_n 1, 1, 0, 0, []),
  (19, .iaload, 0, 0, 0, []),
  (20, .ishr, 0, 0, 0, []),
  (21, .iconst 1, 0, 0, 1, []),
  (22, .iand, 0, 0, 0, []),
  (23, .iconst 1, 0, 0, 1, []),
  (24, .if_icmp .ne 7, 19, 0, 0, []),
  (27, .iconst 1, 0, 0, 1, []),
  (28, .goto 4, 20, 0, 0, []),
  (31, .iconst 0, 0, 0, 0, []),
  (32, .ireturn, 0, 0, 0, [2])]
set_option maxRecDepth 100000 in
noncomputable def zc_X12_owner : List zE := [(0, .iconst (-1), 0, 0, (-1), []),
  (1, .istore_n 2, 2, 0, 0, []),
  (2, .iconst 0, 0, 0, 0, []),
  (3, .istore_n 3, 3, 0, 0, []),
  (4, .iconst 0, 0, 0, 0, []),
  (5, .istore 4, 4, 0, 0, []),
  (7, .iload 4, 4, 0, 0, []),
  (9, .aload_n 0, 0, 0, 0, []),
  (10, .getfield 97, 6, 12, 0, []),
  (13, .if_icmp .ge 70, 47, 0, 0, []),
  (16, .aload_n 0, 0, 0, 0, []),
  (17, .iload 4, 4, 0, 0, []),
  (19, .invokevirtual 205, 174, 1, 0, [12]),
  (22, .ifCond .eq 27, 29, 0, 0, []),
  (25, .aload_n 0, 0, 0, 0, []),
  (26, .getfield 67, 35, 12, 0, [0]),
  (29, .iload_n 1, 1, 0, 0, []),
  (30, .iaload, 0, 0, 0, []),
  (31, .aload_n 0, 0, 0, 0, []),
  (32, .getfield 73, 38, 12, 0, [0]),
  (35, .iload 4, 4, 0, 0, []),
  (37, .iaload, 0, 0, 0, []),
  (38, .ishr, 0, 0, 0, []),
  (39, .iconst 1, 0, 0, 1, []),
  (40, .iand, 0, 0, 0, []),
  (41, .iconst 1, 0, 0, 1, []),
  (42, .if_icmp .ne 7, 29, 0, 0, []),
  (45, .iconst 1, 0, 0, 1, []),
  (46, .goto 4, 30, 0, 0, []),
  (49, .iconst 0, 0, 0, 0, []),
  (50, .istore 5, 5, 0, 0, []),
  (52, .iload 5, 5, 0, 0, []),
  (54, .ifCond .eq 8, 35, 0, 0, []),
  (57, .iload 4, 4, 0, 0, []),
  (59, .goto 4, 36, 0, 0, []),
  (62, .iload_n 2, 2, 0, 0, []),
  (63, .istore_n 2, 2, 0, 0, []),
  (64, .iload_n 3, 3, 0, 0, []),
  (65, .iload 5, 5, 0, 0, []),
  (67, .ifCond .eq 7, 42, 0, 0, []),
  (70, .iconst 1, 0, 0, 1, []),
  (71, .goto 4, 43, 0, 0, []),
  (74, .iconst 0, 0, 0, 0, []),
  (75, .iadd, 0, 0, 0, []),
  (76, .istore_n 3, 3, 0, 0, []),
  (77, .iinc 4 1, 4, 0, 1, []),
  (80, .goto (-73), 6, 0, 0, []),
  (83, .iload_n 3, 3, 0, 0, []),
  (84, .iconst 1, 0, 0, 1, []),
  (85, .if_icmp .ne 7, 52, 0, 0, []),
  (88, .iload_n 2, 2, 0, 0, []),
  (89, .goto 4, 53, 0, 0, []),
  (92, .iconst (-1), 0, 0, (-1), []),
  (93, .ireturn, 0, 0, 0, [])]
set_option maxRecDepth 100000 in
noncomputable def zc_X12_gainOf : List zE := [(0, .iconst 0, 0, 0, 0, []),
  (1, .istore_n 2, 2, 0, 0, []),
  (2, .iconst 0, 0, 0, 0, []),
  (3, .istore_n 3, 3, 0, 0, []),
  (4, .iload_n 3, 3, 0, 0, []),
  (5, .aload_n 0, 0, 0, 0, []),
  (6, .getfield 94, 1, 12, 0, []),
  (9, .if_icmp .ge 43, 32, 0, 0, []),
  (12, .iload_n 2, 2, 0, 0, []),
  (13, .aload_n 0, 0, 0, 0, []),
  (14, .getfield 189, 36, 12, 0, []),
  (17, .iload_n 3, 3, 0, 0, []),
  (18, .ishr, 0, 0, 0, []),
  (19, .iconst 1, 0, 0, 1, []),
  (20, .iand, 0, 0, 0, []),
  (21, .iconst 1, 0, 0, 1, []),
  (22, .if_icmp .ne 21, 27, 0, 0, []),
  (25, .aload_n 0, 0, 0, 0, []),
  (26, .iload_n 3, 3, 0, 0, []),
  (27, .invokevirtual 208, 175, 1, 0, [12]),
  (30, .iload_n 1, 1, 0, 0, []),
  (31, .if_icmp .ne 12, 27, 0, 0, []),
  (34, .aload_n 0, 0, 0, 0, []),
  (35, .getfield 70, 37, 12, 0, [0]),
  (38, .iload_n 3, 3, 0, 0, []),
  (39, .iaload, 0, 0, 0, []),
  (40, .goto 4, 28, 0, 0, []),
  (43, .iconst 0, 0, 0, 0, []),
  (44, .iadd, 0, 0, 0, []),
  (45, .istore_n 2, 2, 0, 0, []),
  (46, .iinc 3 1, 3, 0, 1, []),
  (49, .goto (-45), 4, 0, 0, []),
  (52, .iload_n 2, 2, 0, 0, []),
  (53, .ireturn, 0, 0, 0, [])]
set_option maxRecDepth 100000 in
noncomputable def zc_X12_costTo : List zE := [(0, .aload_n 0, 0, 0, 0, []),
  (1, .getfield 76, 39, 12, 0, [0]),
  (4, .iload_n 1, 1, 0, 0, []),
  (5, .iaload, 0, 0, 0, []),
  (6, .istore 4, 4, 0, 0, []),
  (8, .iload_n 2, 2, 0, 0, []),
  (9, .iconst (-1), 0, 0, (-1), []),
  (10, .if_icmp .eq 9, 11, 0, 0, []),
  (13, .iload_n 2, 2, 0, 0, []),
  (14, .iload 4, 4, 0, 0, []),
  (16, .if_icmp .ne 5, 13, 0, 0, []),
  (19, .iconst 0, 0, 0, 0, []),
  (20, .ireturn, 0, 0, 0, []),
  (21, .iload 4, 4, 0, 0, []),
  (23, .iconst (-1), 0, 0, (-1), []),
  (24, .if_icmp .ne 9, 20, 0, 0, []),
  (27, .iconst 1, 0, 0, 1, []),
  (28, .iload_n 2, 2, 0, 0, []),
  (29, .iadd, 0, 0, 0, []),
  (30, .goto 20, 30, 0, 0, []),
  (33, .iload 4, 4, 0, 0, []),
  (35, .iload_n 2, 2, 0, 0, []),
  (36, .if_icmp .ge 10, 27, 0, 0, []),
  (39, .iload_n 2, 2, 0, 0, []),
  (40, .iload 4, 4, 0, 0, []),
  (42, .isub, 0, 0, 0, []),
  (43, .goto 7, 30, 0, 0, []),
  (46, .iload 4, 4, 0, 0, []),
  (48, .iload_n 2, 2, 0, 0, []),
  (49, .isub, 0, 0, 0, []),
  (50, .istore 5, 5, 0, 0, []),
  (52, .aload_n 0, 0, 0, 0, []),
  (53, .iconst 1, 0, 0, 1, []),
  (54, .iconst 0, 0, 0, 0, []),
  (55, .aload_n 0, 0, 0, 0, []),
  (56, .getfield 7, 0, 12, 0, [0]),
  (59, .iload_n 3, 3, 0, 0, []),
  (60, .iaload, 0, 0, 0, []),
  (61, .iconst 0, 0, 0, 0, []),
  (62, .iload 5, 5, 0, 0, []),
  (64, .iload_n 3, 3, 0, 0, []),
  (65, .iload_n 2, 2, 0, 0, []),
  (66, .invokevirtual 185, 163, 7, 0, [12]),
  (69, .ireturn, 0, 0, 0, [])]
set_option maxRecDepth 100000 in
noncomputable def zc_X12_leftAt : List zE := [(0, .iload_n 2, 2, 0, 0, []),
  (1, .iconst (-1), 0, 0, (-1), []),
  (2, .if_icmp .ne 5, 5, 0, 0, []),
  (5, .iconst 0, 0, 0, 0, []),
  (6, .ireturn, 0, 0, 0, []),
  (7, .aload_n 0, 0, 0, 0, []),
  (8, .getfield 73, 38, 12, 0, [0]),
  (11, .iload_n 1, 1, 0, 0, []),
  (12, .iaload, 0, 0, 0, []),
  (13, .istore 4, 4, 0, 0, []),
  (15, .aload_n 0, 0, 0, 0, []),
  (16, .getfield 73, 38, 12, 0, [0]),
  (19, .iload_n 1, 1, 0, 0, []),
  (20, .iload_n 2, 2, 0, 0, []),
  (21, .iastore, 0, 0, 0, []),
  (22, .aload_n 0, 0, 0, 0, []),
  (23, .iload_n 1, 1, 0, 0, []),
  (24, .invokevirtual 211, 176, 1, 0, [12]),
  (27, .aload_n 0, 0, 0, 0, []),
  (28, .iload_n 1, 1, 0, 0, []),
  (29, .iload_n 2, 2, 0, 0, []),
  (30, .iload_n 3, 3, 0, 0, []),
  (31, .invokevirtual 214, 177, 3, 0, [12]),
  (34, .isub, 0, 0, 0, []),
  (35, .istore 5, 5, 0, 0, []),
  (37, .aload_n 0, 0, 0, 0, []),
  (38, .getfield 73, 38, 12, 0, [0]),
  (41, .iload_n 1, 1, 0, 0, []),
  (42, .iload 4, 4, 0, 0, []),
  (44, .iastore, 0, 0, 0, []),
  (45, .iload 5, 5, 0, 0, []),
  (47, .ireturn, 0, 0, 0, [])]
set_option maxRecDepth 100000 in
noncomputable def zc_X12_whose : List zE := [(0, .aload_n 0, 0, 0, 0, []),
  (1, .iload_n 1, 1, 0, 0, []),
  (2, .invokevirtual 107, 139, 1, 0, [12]),
  (5, .ifCond .eq 10, 7, 0, 0, []),
  (8, .iload_n 2, 2, 0, 0, []),
  (9, .invokestatic 100, 138, 1, 0, []),
  (12, .ifCond .ne 6, 9, 0, 0, []),
  (15, .bipush (-5), 0, 0, (-5), []),
  (17, .ireturn, 0, 0, 0, []),
  (18, .aload_n 0, 0, 0, 0, []),
  (19, .iload_n 2, 2, 0, 0, []),
  (20, .invokevirtual 217, 173, 1, 0, [12]),
  (23, .aload_n 0, 0, 0, 0, []),
  (24, .iload_n 1, 1, 0, 0, []),
  (25, .invokevirtual 208, 175, 1, 0, [12]),
  (28, .ireturn, 0, 0, 0, [])]
set_option maxRecDepth 100000 in
noncomputable def zc_X12_gain : List zE := [(0, .aload_n 0, 0, 0, 0, []),
  (1, .iload_n 1, 1, 0, 0, []),
  (2, .invokevirtual 104, 140, 1, 0, [12]),
  (5, .ifCond .eq 10, 7, 0, 0, []),
  (8, .iload_n 2, 2, 0, 0, []),
  (9, .invokestatic 100, 138, 1, 0, []),
  (12, .ifCond .ne 6, 9, 0, 0, []),
  (15, .bipush (-5), 0, 0, (-5), []),
  (17, .ireturn, 0, 0, 0, []),
  (18, .aload_n 0, 0, 0, 0, []),
  (19, .iload_n 2, 2, 0, 0, []),
  (20, .invokevirtual 217, 173, 1, 0, [12]),
  (23, .aload_n 0, 0, 0, 0, []),
  (24, .iload_n 1, 1, 0, 0, []),
  (25, .invokevirtual 211, 176, 1, 0, [12]),
  (28, .ireturn, 0, 0, 0, [])]
set_option maxRecDepth 100000 in
noncomputable def zc_X12_costs : List zE := [(0, .aload_n 0, 0, 0, 0, []),
  (1, .iload_n 1, 1, 0, 0, []),
  (2, .invokevirtual 104, 140, 1, 0, [12]),
  (5, .ifCond .eq 10, 7, 0, 0, []),
  (8, .iload_n 2, 2, 0, 0, []),
  (9, .invokestatic 100, 138, 1, 0, []),
  (12, .ifCond .ne 6, 9, 0, 0, []),
  (15, .bipush (-5), 0, 0, (-5), []),
  (17, .ireturn, 0, 0, 0, []),
  (18, .aload_n 0, 0, 0, 0, []),
  (19, .iload_n 2, 2, 0, 0, []),
  (20, .invokevirtual 217, 173, 1, 0, [12]),
  (23, .aload_n 0, 0, 0, 0, []),
  (24, .iload_n 1, 1, 0, 0, []),
  (25, .aload_n 0, 0, 0, 0, []),
  (26, .getfield 73, 38, 12, 0, [0]),
  (29, .iload_n 1, 1, 0, 0, []),
  (30, .iaload, 0, 0, 0, []),
  (31, .iload_n 2, 2, 0, 0, []),
  (32, .invokevirtual 214, 177, 3, 0, [12]),
  (35, .ireturn, 0, 0, 0, [])]
set_option maxRecDepth 100000 in
noncomputable def zc_X12_year : List zE := [(0, .aload_n 0, 0, 0, 0, []),
  (1, .iload_n 1, 1, 0, 0, []),
  (2, .invokevirtual 104, 140, 1, 0, [12]),
  (5, .ifCond .ne 6, 6, 0, 0, []),
  (8, .bipush (-5), 0, 0, (-5), []),
  (10, .ireturn, 0, 0, 0, []),
  (11, .iload_n 2, 2, 0, 0, []),
  (12, .iconst 0, 0, 0, 0, []),
  (13, .iconst 2, 0, 0, 2, []),
  (14, .invokestatic 90, 136, 3, 0, []),
  (17, .ifCond .ne 6, 13, 0, 0, []),
  (20, .bipush (-7), 0, 0, (-7), []),
  (22, .ireturn, 0, 0, 0, []),
  (23, .iconst 0, 0, 0, 0, []),
  (24, .istore_n 3, 3, 0, 0, []),
  (25, .iconst 0, 0, 0, 0, []),
  (26, .istore 4, 4, 0, 0, []),
  (28, .iload 4, 4, 0, 0, []),
  (30, .bipush 12, 0, 0, 12, []),
  (32, .if_icmp .ge 65, 53, 0, 0, []),
  (35, .aload_n 0, 0, 0, 0, []),
  (36, .iload 4, 4, 0, 0, []),
  (38, .invokevirtual 217, 173, 1, 0, [12]),
  (41, .aload_n 0, 0, 0, 0, []),
  (42, .iload_n 1, 1, 0, 0, []),
  (43, .invokevirtual 211, 176, 1, 0, [12]),
  (46, .istore 5, 5, 0, 0, []),
  (48, .iload_n 3, 3, 0, 0, []),
  (49, .iload_n 2, 2, 0, 0, []),
  (50, .ifCond .ne 8, 32, 0, 0, []),
  (53, .iload 5, 5, 0, 0, []),
  (55, .goto 34, 49, 0, 0, []),
  (58, .iload_n 2, 2, 0, 0, []),
  (59, .iconst 1, 0, 0, 1, []),
  (60, .if_icmp .ne 19, 44, 0, 0, []),
  (63, .aload_n 0, 0, 0, 0, []),
  (64, .iload_n 1, 1, 0, 0, []),
  (65, .aload_n 0, 0, 0, 0, []),
  (66, .getfield 73, 38, 12, 0, [0]),
  (69, .iload_n 1, 1, 0, 0, []),
  (70, .iaload, 0, 0, 0, []),
  (71, .iload 4, 4, 0, 0, []),
  (73, .invokevirtual 214, 177, 3, 0, [12]),
  (76, .goto 13, 49, 0, 0, []),
  (79, .iload 5, 5, 0, 0, []),
  (81, .ifCond .le 7, 48, 0, 0, []),
  (84, .iconst 1, 0, 0, 1, []),
  (85, .goto 4, 49, 0, 0, []),
  (88, .iconst 0, 0, 0, 0, []),
  (89, .iadd, 0, 0, 0, []),
  (90, .istore_n 3, 3, 0, 0, []),
  (91, .iinc 4 1, 4, 0, 1, []),
  (94, .goto (-66), 17, 0, 0, []),
  (97, .iload_n 3, 3, 0, 0, []),
  (98, .ireturn, 0, 0, 0, [])]
set_option maxRecDepth 100000 in
noncomputable def zc_X12_bestPlace : List zE := [(0, .iconst (-1), 0, 0, (-1), []),
  (1, .istore_n 3, 3, 0, 0, []),
  (2, .iconst 0, 0, 0, 0, []),
  (3, .istore 4, 4, 0, 0, []),
  (5, .iload 4, 4, 0, 0, []),
  (7, .aload_n 0, 0, 0, 0, []),
  (8, .getfield 94, 1, 12, 0, []),
  (11, .if_icmp .ge 34, 25, 0, 0, []),
  (14, .aload_n 0, 0, 0, 0, []),
  (15, .iload_n 1, 1, 0, 0, []),
  (16, .iload 4, 4, 0, 0, []),
  (18, .iload_n 2, 2, 0, 0, []),
  (19, .invokevirtual 220, 178, 3, 0, [12]),
  (22, .aload_n 0, 0, 0, 0, []),
  (23, .iload_n 1, 1, 0, 0, []),
  (24, .iload_n 3, 3, 0, 0, []),
  (25, .iload_n 2, 2, 0, 0, []),
  (26, .invokevirtual 220, 178, 3, 0, [12]),
  (29, .if_icmp .le 8, 21, 0, 0, []),
  (32, .iload 4, 4, 0, 0, []),
  (34, .goto 4, 22, 0, 0, []),
  (37, .iload_n 3, 3, 0, 0, []),
  (38, .istore_n 3, 3, 0, 0, []),
  (39, .iinc 4 1, 4, 0, 1, []),
  (42, .goto (-37), 4, 0, 0, []),
  (45, .iload_n 3, 3, 0, 0, []),
  (46, .ireturn, 0, 0, 0, [])]
set_option maxRecDepth 100000 in
noncomputable def zc_X12_best : List zE := [(0, .aload_n 0, 0, 0, 0, []),
  (1, .iload_n 1, 1, 0, 0, []),
  (2, .invokevirtual 104, 140, 1, 0, [12]),
  (5, .ifCond .eq 10, 7, 0, 0, []),
  (8, .iload_n 2, 2, 0, 0, []),
  (9, .invokestatic 100, 138, 1, 0, []),
  (12, .ifCond .ne 6, 9, 0, 0, []),
  (15, .bipush (-5), 0, 0, (-5), []),
  (17, .ireturn, 0, 0, 0, []),
  (18, .iload_n 3, 3, 0, 0, []),
  (19, .iconst 0, 0, 0, 0, []),
  (20, .iconst 1, 0, 0, 1, []),
  (21, .invokestatic 90, 136, 3, 0, []),
  (24, .ifCond .ne 6, 16, 0, 0, []),
  (27, .bipush (-7), 0, 0, (-7), []),
  (29, .ireturn, 0, 0, 0, []),
  (30, .aload_n 0, 0, 0, 0, []),
  (31, .iload_n 2, 2, 0, 0, []),
  (32, .invokevirtual 217, 173, 1, 0, [12]),
  (35, .aload_n 0, 0, 0, 0, []),
  (36, .iload_n 1, 1, 0, 0, []),
  (37, .iload_n 2, 2, 0, 0, []),
  (38, .invokevirtual 223, 183, 2, 0, [12]),
  (41, .istore 4, 4, 0, 0, []),
  (43, .iload_n 3, 3, 0, 0, []),
  (44, .ifCond .ne 8, 28, 0, 0, []),
  (47, .iload 4, 4, 0, 0, []),
  (49, .goto 11, 33, 0, 0, []),
  (52, .aload_n 0, 0, 0, 0, []),
  (53, .iload_n 1, 1, 0, 0, []),
  (54, .iload 4, 4, 0, 0, []),
  (56, .iload_n 2, 2, 0, 0, []),
  (57, .invokevirtual 220, 178, 3, 0, [12]),
  (60, .ireturn, 0, 0, 0, [])]
set_option maxRecDepth 100000 in
noncomputable def zc_X12_wise : List zE := [(0, .aload_n 0, 0, 0, 0, []),
  (1, .iload_n 1, 1, 0, 0, []),
  (2, .invokevirtual 104, 140, 1, 0, [12]),
  (5, .ifCond .ne 6, 6, 0, 0, []),
  (8, .bipush (-5), 0, 0, (-5), []),
  (10, .ireturn, 0, 0, 0, []),
  (11, .iconst 0, 0, 0, 0, []),
  (12, .istore_n 2, 2, 0, 0, []),
  (13, .iconst 0, 0, 0, 0, []),
  (14, .istore_n 3, 3, 0, 0, []),
  (15, .iload_n 3, 3, 0, 0, []),
  (16, .bipush 12, 0, 0, 12, []),
  (18, .if_icmp .ge 46, 40, 0, 0, []),
  (21, .aload_n 0, 0, 0, 0, []),
  (22, .iload_n 3, 3, 0, 0, []),
  (23, .invokevirtual 217, 173, 1, 0, [12]),
  (26, .aload_n 0, 0, 0, 0, []),
  (27, .iload_n 1, 1, 0, 0, []),
  (28, .iload_n 3, 3, 0, 0, []),
  (29, .invokevirtual 223, 183, 2, 0, [12]),
  (32, .istore 4, 4, 0, 0, []),
  (34, .iload_n 2, 2, 0, 0, []),
  (35, .aload_n 0, 0, 0, 0, []),
  (36, .iload_n 1, 1, 0, 0, []),
  (37, .iload 4, 4, 0, 0, []),
  (39, .iload_n 3, 3, 0, 0, []),
  (40, .invokevirtual 220, 178, 3, 0, [12]),
  (43, .iadd, 0, 0, 0, []),
  (44, .istore_n 2, 2, 0, 0, []),
  (45, .aload_n 0, 0, 0, 0, []),
  (46, .getfield 25, 7, 12, 0, [0]),
  (49, .bipush 12, 0, 0, 12, []),
  (51, .iload_n 1, 1, 0, 0, []),
  (52, .imul, 0, 0, 0, []),
  (53, .iload_n 3, 3, 0, 0, []),
  (54, .iadd, 0, 0, 0, []),
  (55, .iload 4, 4, 0, 0, []),
  (57, .iastore, 0, 0, 0, []),
  (58, .iinc 3 1, 3, 0, 1, []),
  (61, .goto (-46), 10, 0, 0, []),
  (64, .iload_n 2, 2, 0, 0, []),
  (65, .ireturn, 0, 0, 0, [])]
set_option maxRecDepth 100000 in
noncomputable def zc_X12_isRest : List zE := [(0, .iconst 0, 0, 0, 0, []),
  (1, .istore_n 2, 2, 0, 0, []),
  (2, .iload_n 2, 2, 0, 0, []),
  (3, .aload_n 0, 0, 0, 0, []),
  (4, .getfield 97, 6, 12, 0, []),
  (7, .if_icmp .ge 38, 27, 0, 0, []),
  (10, .aload_n 0, 0, 0, 0, []),
  (11, .iload_n 2, 2, 0, 0, []),
  (12, .aload_n 0, 0, 0, 0, []),
  (13, .iload_n 2, 2, 0, 0, []),
  (14, .iload_n 1, 1, 0, 0, []),
  (15, .invokevirtual 223, 183, 2, 0, [12]),
  (18, .iload_n 1, 1, 0, 0, []),
  (19, .invokevirtual 220, 178, 3, 0, [12]),
  (22, .aload_n 0, 0, 0, 0, []),
  (23, .iload_n 2, 2, 0, 0, []),
  (24, .aload_n 0, 0, 0, 0, []),
  (25, .getfield 73, 38, 12, 0, [0]),
  (28, .iload_n 2, 2, 0, 0, []),
  (29, .iaload, 0, 0, 0, []),
  (30, .iload_n 1, 1, 0, 0, []),
  (31, .invokevirtual 220, 178, 3, 0, [12]),
  (34, .if_icmp .le 5, 25, 0, 0, []),
  (37, .iconst 0, 0, 0, 0, []),
  (38, .ireturn, 0, 0, 0, [2]),
  (39, .iinc 2 1, 2, 0, 1, []),
  (42, .goto (-40), 2, 0, 0, []),
  (45, .iconst 1, 0, 0, 1, []),
  (46, .ireturn, 0, 0, 0, [2])]
set_option maxRecDepth 100000 in
noncomputable def zc_X12_rest : List zE := [(0, .iload_n 1, 1, 0, 0, []),
  (1, .invokestatic 100, 138, 1, 0, []),
  (4, .ifCond .ne 6, 5, 0, 0, []),
  (7, .bipush (-5), 0, 0, (-5), []),
  (9, .ireturn, 0, 0, 0, []),
  (10, .aload_n 0, 0, 0, 0, []),
  (11, .iload_n 1, 1, 0, 0, []),
  (12, .invokevirtual 217, 173, 1, 0, [12]),
  (15, .aload_n 0, 0, 0, 0, []),
  (16, .iload_n 1, 1, 0, 0, []),
  (17, .invokevirtual 226, 186, 1, 0, [12]),
  (20, .ifCond .eq 7, 14, 0, 0, []),
  (23, .iconst 1, 0, 0, 1, []),
  (24, .goto 4, 15, 0, 0, []),
  (27, .iconst 0, 0, 0, 0, []),
  (28, .ireturn, 0, 0, 0, [])]
set_option maxRecDepth 100000 in
noncomputable def zc_X12_next0 : List zE := [(0, .aload_n 0, 0, 0, 0, []),
  (1, .getfield 97, 6, 12, 0, []),
  (4, .iconst 1, 0, 0, 1, []),
  (5, .isub, 0, 0, 0, []),
  (6, .istore_n 2, 2, 0, 0, []),
  (7, .iload_n 2, 2, 0, 0, []),
  (8, .ifCond .lt 50, 38, 0, 0, []),
  (11, .iload_n 1, 1, 0, 0, []),
  (12, .iload_n 2, 2, 0, 0, []),
  (13, .ishr, 0, 0, 0, []),
  (14, .iconst 1, 0, 0, 1, []),
  (15, .iand, 0, 0, 0, []),
  (16, .iconst 1, 0, 0, 1, []),
  (17, .if_icmp .ne 35, 36, 0, 0, []),
  (20, .aload_n 0, 0, 0, 0, []),
  (21, .getfield 73, 38, 12, 0, [0]),
  (24, .iload_n 2, 2, 0, 0, []),
  (25, .dup2, 0, 0, 0, []),
  (26, .iaload, 0, 0, 0, []),
  (27, .iconst 1, 0, 0, 1, []),
  (28, .iadd, 0, 0, 0, []),
  (29, .iastore, 0, 0, 0, []),
  (30, .aload_n 0, 0, 0, 0, []),
  (31, .getfield 73, 38, 12, 0, [0]),
  (34, .iload_n 2, 2, 0, 0, []),
  (35, .iaload, 0, 0, 0, []),
  (36, .aload_n 0, 0, 0, 0, []),
  (37, .getfield 94, 1, 12, 0, []),
  (40, .if_icmp .ge 5, 31, 0, 0, []),
  (43, .iconst 1, 0, 0, 1, []),
  (44, .ireturn, 0, 0, 0, [2]),
  (45, .aload_n 0, 0, 0, 0, []),
  (46, .getfield 73, 38, 12, 0, [0]),
  (49, .iload_n 2, 2, 0, 0, []),
  (50, .iconst (-1), 0, 0, (-1), []),
  (51, .iastore, 0, 0, 0, []),
  (52, .iinc 2 (-1), 2, 0, (-1), []),
  (55, .goto (-48), 5, 0, 0, []),
  (58, .iconst 0, 0, 0, 0, []),
  (59, .ireturn, 0, 0, 0, [2])]
set_option maxRecDepth 100000 in
noncomputable def zc_X12_begins : List zE := [(0, .iconst 0, 0, 0, 0, []),
  (1, .istore_n 2, 2, 0, 0, []),
  (2, .iload_n 2, 2, 0, 0, []),
  (3, .aload_n 0, 0, 0, 0, []),
  (4, .getfield 97, 6, 12, 0, []),
  (7, .if_icmp .ge 34, 25, 0, 0, []),
  (10, .aload_n 0, 0, 0, 0, []),
  (11, .getfield 73, 38, 12, 0, [0]),
  (14, .iload_n 2, 2, 0, 0, []),
  (15, .iload_n 1, 1, 0, 0, []),
  (16, .iload_n 2, 2, 0, 0, []),
  (17, .ishr, 0, 0, 0, []),
  (18, .iconst 1, 0, 0, 1, []),
  (19, .iand, 0, 0, 0, []),
  (20, .iconst 1, 0, 0, 1, []),
  (21, .if_icmp .ne 7, 18, 0, 0, []),
  (24, .iconst (-1), 0, 0, (-1), []),
  (25, .goto 9, 22, 0, 0, []),
  (28, .aload_n 0, 0, 0, 0, []),
  (29, .getfield 73, 38, 12, 0, [0]),
  (32, .iload_n 2, 2, 0, 0, []),
  (33, .iaload, 0, 0, 0, []),
  (34, .iastore, 0, 0, 0, []),
  (35, .iinc 2 1, 2, 0, 1, []),
  (38, .goto (-36), 2, 0, 0, []),
  (41, .return_, 0, 0, 0, [])]
set_option maxRecDepth 100000 in
noncomputable def zc_X12_digits : List zE := [(0, .iconst 0, 0, 0, 0, []),
  (1, .istore_n 2, 2, 0, 0, []),
  (2, .iconst 0, 0, 0, 0, []),
  (3, .istore_n 3, 3, 0, 0, []),
  (4, .iload_n 3, 3, 0, 0, []),
  (5, .aload_n 0, 0, 0, 0, []),
  (6, .getfield 97, 6, 12, 0, []),
  (9, .if_icmp .ge 36, 30, 0, 0, []),
  (12, .iload_n 1, 1, 0, 0, []),
  (13, .iload_n 3, 3, 0, 0, []),
  (14, .ishr, 0, 0, 0, []),
  (15, .iconst 1, 0, 0, 1, []),
  (16, .iand, 0, 0, 0, []),
  (17, .iconst 1, 0, 0, 1, []),
  (18, .if_icmp .ne 19, 26, 0, 0, []),
  (21, .bipush 10, 0, 0, 10, []),
  (23, .iload_n 2, 2, 0, 0, []),
  (24, .imul, 0, 0, 0, []),
  (25, .aload_n 0, 0, 0, 0, []),
  (26, .getfield 73, 38, 12, 0, [0]),
  (29, .iload_n 3, 3, 0, 0, []),
  (30, .iaload, 0, 0, 0, []),
  (31, .iadd, 0, 0, 0, []),
  (32, .iconst 1, 0, 0, 1, []),
  (33, .iadd, 0, 0, 0, []),
  (34, .goto 4, 27, 0, 0, []),
  (37, .iload_n 2, 2, 0, 0, []),
  (38, .istore_n 2, 2, 0, 0, []),
  (39, .iinc 3 1, 3, 0, 1, []),
  (42, .goto (-38), 4, 0, 0, []),
  (45, .iload_n 2, 2, 0, 0, []),
  (46, .ireturn, 0, 0, 0, [])]
set_option maxRecDepth 100000 in
noncomputable def zc_X12_everybody : List zE := [(0, .iconst 1, 0, 0, 1, []),
  (1, .aload_n 0, 0, 0, 0, []),
  (2, .getfield 97, 6, 12, 0, []),
  (5, .ishl, 0, 0, 0, []),
  (6, .iconst 1, 0, 0, 1, []),
  (7, .isub, 0, 0, 0, []),
  (8, .ireturn, 0, 0, 0, [])]
set_option maxRecDepth 100000 in
noncomputable def zc_X12_ways : List zE := [(0, .iload_n 1, 1, 0, 0, []),
  (1, .invokestatic 100, 138, 1, 0, []),
  (4, .ifCond .ne 6, 5, 0, 0, []),
  (7, .bipush (-5), 0, 0, (-5), []),
  (9, .ireturn, 0, 0, 0, []),
  (10, .iload_n 2, 2, 0, 0, []),
  (11, .iconst 0, 0, 0, 0, []),
  (12, .iconst 1, 0, 0, 1, []),
  (13, .invokestatic 90, 136, 3, 0, []),
  (16, .ifCond .ne 6, 12, 0, 0, []),
  (19, .bipush (-7), 0, 0, (-7), []),
  (21, .ireturn, 0, 0, 0, []),
  (22, .aload_n 0, 0, 0, 0, []),
  (23, .iload_n 1, 1, 0, 0, []),
  (24, .invokevirtual 217, 173, 1, 0, [12]),
  (27, .aload_n 0, 0, 0, 0, []),
  (28, .aload_n 0, 0, 0, 0, []),
  (29, .invokevirtual 229, 191, 0, 0, [12]),
  (32, .invokevirtual 232, 189, 1, 0, [12]),
  (35, .iconst 0, 0, 0, 0, []),
  (36, .istore_n 3, 3, 0, 0, []),
  (37, .iconst (-1), 0, 0, (-1), []),
  (38, .istore 4, 4, 0, 0, []),
  (40, .iconst 1, 0, 0, 1, []),
  (41, .istore 5, 5, 0, 0, []),
  (43, .iload 5, 5, 0, 0, []),
  (45, .ifCond .eq 48, 48, 0, 0, []),
  (48, .aload_n 0, 0, 0, 0, []),
  (49, .iload_n 1, 1, 0, 0, []),
  (50, .invokevirtual 226, 186, 1, 0, [12]),
  (53, .ifCond .eq 27, 42, 0, 0, []),
  (56, .iinc 3 1, 3, 0, 1, []),
  (59, .iload 4, 4, 0, 0, []),
  (61, .iconst (-1), 0, 0, (-1), []),
  (62, .if_icmp .ne 14, 40, 0, 0, []),
  (65, .aload_n 0, 0, 0, 0, []),
  (66, .aload_n 0, 0, 0, 0, []),
  (67, .invokevirtual 229, 191, 0, 0, [12]),
  (70, .invokevirtual 235, 190, 1, 0, [12]),
  (73, .goto 5, 41, 0, 0, []),
  (76, .iload 4, 4, 0, 0, []),
  (78, .istore 4, 4, 0, 0, []),
  (80, .aload_n 0, 0, 0, 0, []),
  (81, .aload_n 0, 0, 0, 0, []),
  (82, .invokevirtual 229, 191, 0, 0, [12]),
  (85, .invokevirtual 238, 188, 1, 0, [12]),
  (88, .istore 5, 5, 0, 0, []),
  (90, .goto (-47), 25, 0, 0, []),
  (93, .iload_n 2, 2, 0, 0, []),
  (94, .ifCond .ne 7, 52, 0, 0, []),
  (97, .iload_n 3, 3, 0, 0, []),
  (98, .goto 5, 53, 0, 0, []),
  (101, .iload 4, 4, 0, 0, []),
  (103, .ireturn, 0, 0, 0, [])]
set_option maxRecDepth 100000 in
noncomputable def zc_X12_leftOf : List zE := [(0, .iconst 0, 0, 0, 0, []),
  (1, .istore_n 3, 3, 0, 0, []),
  (2, .iconst 0, 0, 0, 0, []),
  (3, .istore 4, 4, 0, 0, []),
  (5, .iload 4, 4, 0, 0, []),
  (7, .aload_n 0, 0, 0, 0, []),
  (8, .getfield 97, 6, 12, 0, []),
  (11, .if_icmp .ge 40, 30, 0, 0, []),
  (14, .iload_n 3, 3, 0, 0, []),
  (15, .iload_n 1, 1, 0, 0, []),
  (16, .iload 4, 4, 0, 0, []),
  (18, .ishr, 0, 0, 0, []),
  (19, .iconst 1, 0, 0, 1, []),
  (20, .iand, 0, 0, 0, []),
  (21, .iconst 1, 0, 0, 1, []),
  (22, .if_icmp .ne 20, 25, 0, 0, []),
  (25, .aload_n 0, 0, 0, 0, []),
  (26, .iload 4, 4, 0, 0, []),
  (28, .aload_n 0, 0, 0, 0, []),
  (29, .getfield 73, 38, 12, 0, [0]),
  (32, .iload 4, 4, 0, 0, []),
  (34, .iaload, 0, 0, 0, []),
  (35, .iload_n 2, 2, 0, 0, []),
  (36, .invokevirtual 220, 178, 3, 0, [12]),
  (39, .goto 4, 26, 0, 0, []),
  (42, .iconst 0, 0, 0, 0, []),
  (43, .iadd, 0, 0, 0, []),
  (44, .istore_n 3, 3, 0, 0, []),
  (45, .iinc 4 1, 4, 0, 1, []),
  (48, .goto (-43), 4, 0, 0, []),
  (51, .iload_n 3, 3, 0, 0, []),
  (52, .ireturn, 0, 0, 0, [])]
set_option maxRecDepth 100000 in
noncomputable def zc_X12_family : List zE := [(0, .iload_n 1, 1, 0, 0, []),
  (1, .iconst 0, 0, 0, 0, []),
  (2, .aload_n 0, 0, 0, 0, []),
  (3, .invokevirtual 229, 191, 0, 0, [12]),
  (6, .invokestatic 90, 136, 3, 0, []),
  (9, .ifCond .eq 10, 9, 0, 0, []),
  (12, .iload_n 2, 2, 0, 0, []),
  (13, .invokestatic 100, 138, 1, 0, []),
  (16, .ifCond .ne 6, 11, 0, 0, []),
  (19, .bipush (-5), 0, 0, (-5), []),
  (21, .ireturn, 0, 0, 0, []),
  (22, .iload_n 3, 3, 0, 0, []),
  (23, .iconst 0, 0, 0, 0, []),
  (24, .iconst 1, 0, 0, 1, []),
  (25, .invokestatic 90, 136, 3, 0, []),
  (28, .ifCond .ne 6, 18, 0, 0, []),
  (31, .bipush (-7), 0, 0, (-7), []),
  (33, .ireturn, 0, 0, 0, []),
  (34, .aload_n 0, 0, 0, 0, []),
  (35, .iload_n 2, 2, 0, 0, []),
  (36, .invokevirtual 217, 173, 1, 0, [12]),
  (39, .aload_n 0, 0, 0, 0, []),
  (40, .iload_n 1, 1, 0, 0, []),
  (41, .invokevirtual 232, 189, 1, 0, [12]),
  (44, .ldc 241, 0, 0, (-1000000), []),
  (46, .istore 4, 4, 0, 0, []),
  (48, .iconst 0, 0, 0, 0, []),
  (49, .istore 5, 5, 0, 0, []),
  (51, .iconst 1, 0, 0, 1, []),
  (52, .istore 6, 6, 0, 0, []),
  (54, .iload 6, 6, 0, 0, []),
  (56, .ifCond .eq 56, 58, 0, 0, []),
  (59, .aload_n 0, 0, 0, 0, []),
  (60, .iload_n 1, 1, 0, 0, []),
  (61, .iload_n 2, 2, 0, 0, []),
  (62, .invokevirtual 242, 193, 2, 0, [12]),
  (65, .istore 7, 7, 0, 0, []),
  (67, .iload 7, 7, 0, 0, []),
  (69, .iload 4, 4, 0, 0, []),
  (71, .if_icmp .le 11, 44, 0, 0, []),
  (74, .aload_n 0, 0, 0, 0, []),
  (75, .iload_n 1, 1, 0, 0, []),
  (76, .invokevirtual 235, 190, 1, 0, [12]),
  (79, .goto 5, 45, 0, 0, []),
  (82, .iload 5, 5, 0, 0, []),
  (84, .istore 5, 5, 0, 0, []),
  (86, .iload 7, 7, 0, 0, []),
  (88, .iload 4, 4, 0, 0, []),
  (90, .if_icmp .le 8, 51, 0, 0, []),
  (93, .iload 7, 7, 0, 0, []),
  (95, .goto 5, 52, 0, 0, []),
  (98, .iload 4, 4, 0, 0, []),
  (100, .istore 4, 4, 0, 0, []),
  (102, .aload_n 0, 0, 0, 0, []),
  (103, .iload_n 1, 1, 0, 0, []),
  (104, .invokevirtual 238, 188, 1, 0, [12]),
  (107, .istore 6, 6, 0, 0, []),
  (109, .goto (-55), 30, 0, 0, []),
  (112, .iload_n 3, 3, 0, 0, []),
  (113, .ifCond .ne 8, 62, 0, 0, []),
  (116, .iload 4, 4, 0, 0, []),
  (118, .goto 5, 63, 0, 0, []),
  (121, .iload 5, 5, 0, 0, []),
  (123, .ireturn, 0, 0, 0, [])]
set_option maxRecDepth 100000 in
noncomputable def zc_X12_gainOfOthers : List zE := [(0, .iconst 0, 0, 0, 0, []),
  (1, .istore_n 2, 2, 0, 0, []),
  (2, .iconst 0, 0, 0, 0, []),
  (3, .istore_n 3, 3, 0, 0, []),
  (4, .iload_n 3, 3, 0, 0, []),
  (5, .aload_n 0, 0, 0, 0, []),
  (6, .getfield 97, 6, 12, 0, []),
  (9, .if_icmp .ge 26, 21, 0, 0, []),
  (12, .iload_n 2, 2, 0, 0, []),
  (13, .iload_n 3, 3, 0, 0, []),
  (14, .iload_n 1, 1, 0, 0, []),
  (15, .if_icmp .ne 7, 14, 0, 0, []),
  (18, .iconst 0, 0, 0, 0, []),
  (19, .goto 8, 17, 0, 0, []),
  (22, .aload_n 0, 0, 0, 0, []),
  (23, .iload_n 3, 3, 0, 0, []),
  (24, .invokevirtual 211, 176, 1, 0, [12]),
  (27, .iadd, 0, 0, 0, []),
  (28, .istore_n 2, 2, 0, 0, []),
  (29, .iinc 3 1, 3, 0, 1, []),
  (32, .goto (-28), 4, 0, 0, []),
  (35, .iload_n 2, 2, 0, 0, []),
  (36, .ireturn, 0, 0, 0, [])]
set_option maxRecDepth 100000 in
noncomputable def zc_X12_spoil : List zE := [(0, .aload_n 0, 0, 0, 0, []),
  (1, .iload_n 1, 1, 0, 0, []),
  (2, .invokevirtual 104, 140, 1, 0, [12]),
  (5, .ifCond .eq 10, 7, 0, 0, []),
  (8, .iload_n 2, 2, 0, 0, []),
  (9, .invokestatic 100, 138, 1, 0, []),
  (12, .ifCond .ne 6, 9, 0, 0, []),
  (15, .bipush (-5), 0, 0, (-5), []),
  (17, .ireturn, 0, 0, 0, []),
  (18, .iload_n 3, 3, 0, 0, []),
  (19, .iconst 0, 0, 0, 0, []),
  (20, .iconst 1, 0, 0, 1, []),
  (21, .invokestatic 90, 136, 3, 0, []),
  (24, .ifCond .ne 6, 16, 0, 0, []),
  (27, .bipush (-7), 0, 0, (-7), []),
  (29, .ireturn, 0, 0, 0, []),
  (30, .aload_n 0, 0, 0, 0, []),
  (31, .iload_n 2, 2, 0, 0, []),
  (32, .invokevirtual 217, 173, 1, 0, [12]),
  (35, .iconst (-1), 0, 0, (-1), []),
  (36, .istore 4, 4, 0, 0, []),
  (38, .iconst (-1), 0, 0, (-1), []),
  (39, .istore 5, 5, 0, 0, []),
  (41, .iconst (-1), 0, 0, (-1), []),
  (42, .istore 6, 6, 0, 0, []),
  (44, .iload 6, 6, 0, 0, []),
  (46, .aload_n 0, 0, 0, 0, []),
  (47, .getfield 94, 1, 12, 0, []),
  (50, .if_icmp .ge 66, 58, 0, 0, []),
  (53, .aload_n 0, 0, 0, 0, []),
  (54, .getfield 73, 38, 12, 0, [0]),
  (57, .iload_n 1, 1, 0, 0, []),
  (58, .iload 6, 6, 0, 0, []),
  (60, .iastore, 0, 0, 0, []),
  (61, .aload_n 0, 0, 0, 0, []),
  (62, .iload_n 1, 1, 0, 0, []),
  (63, .invokevirtual 245, 195, 1, 0, [12]),
  (66, .istore 7, 7, 0, 0, []),
  (68, .iload 5, 5, 0, 0, []),
  (70, .ifCond .lt 10, 43, 0, 0, []),
  (73, .iload 7, 7, 0, 0, []),
  (75, .iload 5, 5, 0, 0, []),
  (77, .if_icmp .ge 8, 45, 0, 0, []),
  (80, .iload 6, 6, 0, 0, []),
  (82, .goto 5, 46, 0, 0, []),
  (85, .iload 4, 4, 0, 0, []),
  (87, .istore 4, 4, 0, 0, []),
  (89, .iload 5, 5, 0, 0, []),
  (91, .ifCond .lt 10, 52, 0, 0, []),
  (94, .iload 7, 7, 0, 0, []),
  (96, .iload 5, 5, 0, 0, []),
  (98, .if_icmp .ge 8, 54, 0, 0, []),
  (101, .iload 7, 7, 0, 0, []),
  (103, .goto 5, 55, 0, 0, []),
  (106, .iload 5, 5, 0, 0, []),
  (108, .istore 5, 5, 0, 0, []),
  (110, .iinc 6 1, 6, 0, 1, []),
  (113, .goto (-69), 25, 0, 0, []),
  (116, .iload_n 3, 3, 0, 0, []),
  (117, .ifCond .ne 8, 62, 0, 0, []),
  (120, .iload 4, 4, 0, 0, []),
  (122, .goto 5, 63, 0, 0, []),
  (125, .iload 5, 5, 0, 0, []),
  (127, .ireturn, 0, 0, 0, [])]
set_option maxRecDepth 100000 in
noncomputable def zc_X12_ransom : List zE := [(0, .aload_n 0, 0, 0, 0, []),
  (1, .iload_n 1, 1, 0, 0, []),
  (2, .invokevirtual 104, 140, 1, 0, [12]),
  (5, .ifCond .eq 23, 14, 0, 0, []),
  (8, .aload_n 0, 0, 0, 0, []),
  (9, .iload_n 2, 2, 0, 0, []),
  (10, .invokevirtual 104, 140, 1, 0, [12]),
  (13, .ifCond .eq 15, 14, 0, 0, []),
  (16, .iload_n 1, 1, 0, 0, []),
  (17, .iload_n 2, 2, 0, 0, []),
  (18, .if_icmp .eq 10, 14, 0, 0, []),
  (21, .iload_n 3, 3, 0, 0, []),
  (22, .invokestatic 100, 138, 1, 0, []),
  (25, .ifCond .ne 6, 16, 0, 0, []),
  (28, .bipush (-5), 0, 0, (-5), []),
  (30, .ireturn, 0, 0, 0, []),
  (31, .aload_n 0, 0, 0, 0, []),
  (32, .iload_n 3, 3, 0, 0, []),
  (33, .invokevirtual 217, 173, 1, 0, [12]),
  (36, .aload_n 0, 0, 0, 0, []),
  (37, .iload_n 1, 1, 0, 0, []),
  (38, .invokevirtual 211, 176, 1, 0, [12]),
  (41, .istore 4, 4, 0, 0, []),
  (43, .aload_n 0, 0, 0, 0, []),
  (44, .getfield 73, 38, 12, 0, [0]),
  (47, .iload_n 2, 2, 0, 0, []),
  (48, .iconst (-1), 0, 0, (-1), []),
  (49, .iastore, 0, 0, 0, []),
  (50, .aload_n 0, 0, 0, 0, []),
  (51, .iload_n 1, 1, 0, 0, []),
  (52, .invokevirtual 211, 176, 1, 0, [12]),
  (55, .iload 4, 4, 0, 0, []),
  (57, .isub, 0, 0, 0, []),
  (58, .ireturn, 0, 0, 0, [])]
set_option maxRecDepth 100000 in
noncomputable def zc_X12_dearest : List zE := [(0, .iconst (-1), 0, 0, (-1), []),
  (1, .istore_n 2, 2, 0, 0, []),
  (2, .iconst 0, 0, 0, 0, []),
  (3, .istore_n 3, 3, 0, 0, []),
  (4, .iload_n 3, 3, 0, 0, []),
  (5, .aload_n 0, 0, 0, 0, []),
  (6, .getfield 94, 1, 12, 0, []),
  (9, .if_icmp .ge 44, 33, 0, 0, []),
  (12, .iload_n 1, 1, 0, 0, []),
  (13, .iload_n 3, 3, 0, 0, []),
  (14, .ishr, 0, 0, 0, []),
  (15, .iconst 1, 0, 0, 1, []),
  (16, .iand, 0, 0, 0, []),
  (17, .iconst 1, 0, 0, 1, []),
  (18, .if_icmp .ne 27, 29, 0, 0, []),
  (21, .iload_n 2, 2, 0, 0, []),
  (22, .iconst (-1), 0, 0, (-1), []),
  (23, .if_icmp .eq 18, 27, 0, 0, []),
  (26, .aload_n 0, 0, 0, 0, []),
  (27, .getfield 70, 37, 12, 0, [0]),
  (30, .iload_n 3, 3, 0, 0, []),
  (31, .iaload, 0, 0, 0, []),
  (32, .aload_n 0, 0, 0, 0, []),
  (33, .getfield 70, 37, 12, 0, [0]),
  (36, .iload_n 2, 2, 0, 0, []),
  (37, .iaload, 0, 0, 0, []),
  (38, .if_icmp .le 7, 29, 0, 0, []),
  (41, .iload_n 3, 3, 0, 0, []),
  (42, .goto 4, 30, 0, 0, []),
  (45, .iload_n 2, 2, 0, 0, []),
  (46, .istore_n 2, 2, 0, 0, []),
  (47, .iinc 3 1, 3, 0, 1, []),
  (50, .goto (-46), 4, 0, 0, []),
  (53, .iload_n 2, 2, 0, 0, []),
  (54, .ireturn, 0, 0, 0, [])]
set_option maxRecDepth 100000 in
noncomputable def zc_X12_parts : List zE := [(0, .aload_n 0, 0, 0, 0, []),
  (1, .iload_n 1, 1, 0, 0, []),
  (2, .invokevirtual 202, 170, 1, 0, [12]),
  (5, .iconst 0, 0, 0, 0, []),
  (6, .istore 4, 4, 0, 0, []),
  (8, .iload 4, 4, 0, 0, []),
  (10, .iconst 4, 0, 0, 4, []),
  (11, .if_icmp .ge 17, 15, 0, 0, []),
  (14, .aload_n 0, 0, 0, 0, []),
  (15, .getfield 79, 40, 12, 0, [0]),
  (18, .iload 4, 4, 0, 0, []),
  (20, .iconst 0, 0, 0, 0, []),
  (21, .iastore, 0, 0, 0, []),
  (22, .iinc 4 1, 4, 0, 1, []),
  (25, .goto (-17), 5, 0, 0, []),
  (28, .aload_n 0, 0, 0, 0, []),
  (29, .getfield 189, 36, 12, 0, []),
  (32, .istore 4, 4, 0, 0, []),
  (34, .iconst 0, 0, 0, 0, []),
  (35, .istore 5, 5, 0, 0, []),
  (37, .iload 4, 4, 0, 0, []),
  (39, .ifCond .eq 95, 77, 0, 0, []),
  (42, .iload 5, 5, 0, 0, []),
  (44, .aload_n 0, 0, 0, 0, []),
  (45, .getfield 97, 6, 12, 0, []),
  (48, .irem, 0, 0, 0, []),
  (49, .istore 6, 6, 0, 0, []),
  (51, .iload_n 3, 3, 0, 0, []),
  (52, .iconst 1, 0, 0, 1, []),
  (53, .if_icmp .ne 28, 45, 0, 0, []),
  (56, .iload 5, 5, 0, 0, []),
  (58, .aload_n 0, 0, 0, 0, []),
  (59, .getfield 97, 6, 12, 0, []),
  (62, .idiv, 0, 0, 0, []),
  (63, .iconst 2, 0, 0, 2, []),
  (64, .irem, 0, 0, 0, []),
  (65, .iconst 1, 0, 0, 1, []),
  (66, .if_icmp .ne 15, 45, 0, 0, []),
  (69, .aload_n 0, 0, 0, 0, []),
  (70, .getfield 97, 6, 12, 0, []),
  (73, .iconst 1, 0, 0, 1, []),
  (74, .isub, 0, 0, 0, []),
  (75, .iload 6, 6, 0, 0, []),
  (77, .isub, 0, 0, 0, []),
  (78, .goto 5, 46, 0, 0, []),
  (81, .iload 6, 6, 0, 0, []),
  (83, .istore 7, 7, 0, 0, []),
  (85, .aload_n 0, 0, 0, 0, []),
  (86, .iload 4, 4, 0, 0, []),
  (88, .invokevirtual 248, 198, 1, 0, [12]),
  (91, .istore 8, 8, 0, 0, []),
  (93, .aload_n 0, 0, 0, 0, []),
  (94, .getfield 79, 40, 12, 0, [0]),
  (97, .iload_n 2, 2, 0, 0, []),
  (98, .iload 7, 7, 0, 0, []),
  (100, .iadd, 0, 0, 0, []),
  (101, .aload_n 0, 0, 0, 0, []),
  (102, .getfield 97, 6, 12, 0, []),
  (105, .irem, 0, 0, 0, []),
  (106, .dup2, 0, 0, 0, []),
  (107, .iaload, 0, 0, 0, []),
  (108, .aload_n 0, 0, 0, 0, []),
  (109, .getfield 70, 37, 12, 0, [0]),
  (112, .iload 8, 8, 0, 0, []),
  (114, .iaload, 0, 0, 0, []),
  (115, .iadd, 0, 0, 0, []),
  (116, .iastore, 0, 0, 0, []),
  (117, .iload 4, 4, 0, 0, []),
  (119, .iconst 1, 0, 0, 1, []),
  (120, .iload 8, 8, 0, 0, []),
  (122, .ishl, 0, 0, 0, []),
  (123, .iconst (-1), 0, 0, (-1), []),
  (124, .ixor, 0, 0, 0, []),
  (125, .iand, 0, 0, 0, []),
  (126, .istore 4, 4, 0, 0, []),
  (128, .iinc 5 1, 5, 0, 1, []),
  (131, .goto (-94), 20, 0, 0, []),
  (134, .return_, 0, 0, 0, [])]
set_option maxRecDepth 100000 in
noncomputable def zc_X12_share : List zE := [(0, .aload_n 0, 0, 0, 0, []),
  (1, .iload_n 1, 1, 0, 0, []),
  (2, .invokevirtual 104, 140, 1, 0, [12]),
  (5, .ifCond .eq 18, 11, 0, 0, []),
  (8, .iload_n 2, 2, 0, 0, []),
  (9, .invokestatic 100, 138, 1, 0, []),
  (12, .ifCond .eq 11, 11, 0, 0, []),
  (15, .aload_n 0, 0, 0, 0, []),
  (16, .iload_n 3, 3, 0, 0, []),
  (17, .invokevirtual 104, 140, 1, 0, [12]),
  (20, .ifCond .ne 6, 13, 0, 0, []),
  (23, .bipush (-5), 0, 0, (-5), []),
  (25, .ireturn, 0, 0, 0, []),
  (26, .iload 4, 4, 0, 0, []),
  (28, .iconst 0, 0, 0, 0, []),
  (29, .iconst 1, 0, 0, 1, []),
  (30, .invokestatic 90, 136, 3, 0, []),
  (33, .ifCond .ne 6, 20, 0, 0, []),
  (36, .bipush (-7), 0, 0, (-7), []),
  (38, .ireturn, 0, 0, 0, []),
  (39, .aload_n 0, 0, 0, 0, []),
  (40, .iload_n 2, 2, 0, 0, []),
  (41, .iload_n 3, 3, 0, 0, []),
  (42, .iload 4, 4, 0, 0, []),
  (44, .invokevirtual 251, 199, 3, 0, [12]),
  (47, .aload_n 0, 0, 0, 0, []),
  (48, .getfield 79, 40, 12, 0, [0]),
  (51, .iload_n 1, 1, 0, 0, []),
  (52, .iaload, 0, 0, 0, []),
  (53, .ireturn, 0, 0, 0, [])]
set_option maxRecDepth 100000 in
noncomputable def zc_X12_unfair : List zE := [(0, .iload_n 1, 1, 0, 0, []),
  (1, .invokestatic 100, 138, 1, 0, []),
  (4, .ifCond .eq 11, 7, 0, 0, []),
  (7, .aload_n 0, 0, 0, 0, []),
  (8, .iload_n 2, 2, 0, 0, []),
  (9, .invokevirtual 104, 140, 1, 0, [12]),
  (12, .ifCond .ne 6, 9, 0, 0, []),
  (15, .bipush (-5), 0, 0, (-5), []),
  (17, .ireturn, 0, 0, 0, []),
  (18, .iload_n 3, 3, 0, 0, []),
  (19, .iconst 0, 0, 0, 0, []),
  (20, .iconst 1, 0, 0, 1, []),
  (21, .invokestatic 90, 136, 3, 0, []),
  (24, .ifCond .ne 6, 16, 0, 0, []),
  (27, .bipush (-7), 0, 0, (-7), []),
  (29, .ireturn, 0, 0, 0, []),
  (30, .aload_n 0, 0, 0, 0, []),
  (31, .iload_n 1, 1, 0, 0, []),
  (32, .iload_n 2, 2, 0, 0, []),
  (33, .iload_n 3, 3, 0, 0, []),
  (34, .invokevirtual 251, 199, 3, 0, [12]),
  (37, .aload_n 0, 0, 0, 0, []),
  (38, .getfield 79, 40, 12, 0, [0]),
  (41, .iconst 0, 0, 0, 0, []),
  (42, .iaload, 0, 0, 0, []),
  (43, .istore 4, 4, 0, 0, []),
  (45, .aload_n 0, 0, 0, 0, []),
  (46, .getfield 79, 40, 12, 0, [0]),
  (49, .iconst 0, 0, 0, 0, []),
  (50, .iaload, 0, 0, 0, []),
  (51, .istore 5, 5, 0, 0, []),
  (53, .iconst 1, 0, 0, 1, []),
  (54, .istore 6, 6, 0, 0, []),
  (56, .iload 6, 6, 0, 0, []),
  (58, .aload_n 0, 0, 0, 0, []),
  (59, .getfield 97, 6, 12, 0, []),
  (62, .if_icmp .ge 61, 65, 0, 0, []),
  (65, .aload_n 0, 0, 0, 0, []),
  (66, .getfield 79, 40, 12, 0, [0]),
  (69, .iload 6, 6, 0, 0, []),
  (71, .iaload, 0, 0, 0, []),
  (72, .iload 4, 4, 0, 0, []),
  (74, .if_icmp .ge 13, 48, 0, 0, []),
  (77, .aload_n 0, 0, 0, 0, []),
  (78, .getfield 79, 40, 12, 0, [0]),
  (81, .iload 6, 6, 0, 0, []),
  (83, .iaload, 0, 0, 0, []),
  (84, .goto 5, 49, 0, 0, []),
  (87, .iload 4, 4, 0, 0, []),
  (89, .istore 4, 4, 0, 0, []),
  (91, .aload_n 0, 0, 0, 0, []),
  (92, .getfield 79, 40, 12, 0, [0]),
  (95, .iload 6, 6, 0, 0, []),
  (97, .iaload, 0, 0, 0, []),
  (98, .iload 5, 5, 0, 0, []),
  (100, .if_icmp .le 13, 61, 0, 0, []),
  (103, .aload_n 0, 0, 0, 0, []),
  (104, .getfield 79, 40, 12, 0, [0]),
  (107, .iload 6, 6, 0, 0, []),
  (109, .iaload, 0, 0, 0, []),
  (110, .goto 5, 62, 0, 0, []),
  (113, .iload 5, 5, 0, 0, []),
  (115, .istore 5, 5, 0, 0, []),
  (117, .iinc 6 1, 6, 0, 1, []),
  (120, .goto (-64), 33, 0, 0, []),
  (123, .iload 5, 5, 0, 0, []),
  (125, .iload 4, 4, 0, 0, []),
  (127, .isub, 0, 0, 0, []),
  (128, .ireturn, 0, 0, 0, [])]
set_option maxRecDepth 100000 in
noncomputable def zc_X12_worthAt : List zE := [(0, .aload_n 0, 0, 0, 0, []),
  (1, .iload_n 1, 1, 0, 0, []),
  (2, .invokevirtual 217, 173, 1, 0, [12]),
  (5, .iconst 0, 0, 0, 0, []),
  (6, .istore_n 3, 3, 0, 0, []),
  (7, .iconst 0, 0, 0, 0, []),
  (8, .istore 4, 4, 0, 0, []),
  (10, .iload 4, 4, 0, 0, []),
  (12, .aload_n 0, 0, 0, 0, []),
  (13, .getfield 94, 1, 12, 0, []),
  (16, .if_icmp .ge 62, 43, 0, 0, []),
  (19, .aload_n 0, 0, 0, 0, []),
  (20, .getfield 189, 36, 12, 0, []),
  (23, .iload 4, 4, 0, 0, []),
  (25, .ishr, 0, 0, 0, []),
  (26, .iconst 1, 0, 0, 1, []),
  (27, .iand, 0, 0, 0, []),
  (28, .iconst 1, 0, 0, 1, []),
  (29, .if_icmp .ne 21, 28, 0, 0, []),
  (32, .iload_n 2, 2, 0, 0, []),
  (33, .ifCond .eq 13, 26, 0, 0, []),
  (36, .aload_n 0, 0, 0, 0, []),
  (37, .iload 4, 4, 0, 0, []),
  (39, .invokevirtual 208, 175, 1, 0, [12]),
  (42, .iconst (-1), 0, 0, (-1), []),
  (43, .if_icmp .ne 7, 28, 0, 0, []),
  (46, .iconst 1, 0, 0, 1, []),
  (47, .goto 4, 29, 0, 0, []),
  (50, .iconst 0, 0, 0, 0, []),
  (51, .istore 5, 5, 0, 0, []),
  (53, .iload_n 3, 3, 0, 0, []),
  (54, .iload 5, 5, 0, 0, []),
  (56, .ifCond .eq 13, 38, 0, 0, []),
  (59, .aload_n 0, 0, 0, 0, []),
  (60, .getfield 70, 37, 12, 0, [0]),
  (63, .iload 4, 4, 0, 0, []),
  (65, .iaload, 0, 0, 0, []),
  (66, .goto 4, 39, 0, 0, []),
  (69, .iconst 0, 0, 0, 0, []),
  (70, .iadd, 0, 0, 0, []),
  (71, .istore_n 3, 3, 0, 0, []),
  (72, .iinc 4 1, 4, 0, 1, []),
  (75, .goto (-65), 7, 0, 0, []),
  (78, .iload_n 3, 3, 0, 0, []),
  (79, .ireturn, 0, 0, 0, [])]
set_option maxRecDepth 100000 in
noncomputable def zc_X12_dear : List zE := [(0, .iload_n 1, 1, 0, 0, []),
  (1, .iconst 0, 0, 0, 0, []),
  (2, .iconst 3, 0, 0, 3, []),
  (3, .invokestatic 90, 136, 3, 0, []),
  (6, .ifCond .ne 6, 7, 0, 0, []),
  (9, .bipush (-2), 0, 0, (-2), []),
  (11, .ireturn, 0, 0, 0, []),
  (12, .iconst 0, 0, 0, 0, []),
  (13, .istore_n 2, 2, 0, 0, []),
  (14, .iconst (-1), 0, 0, (-1), []),
  (15, .istore_n 3, 3, 0, 0, []),
  (16, .iconst 0, 0, 0, 0, []),
  (17, .istore 4, 4, 0, 0, []),
  (19, .iload 4, 4, 0, 0, []),
  (21, .bipush 12, 0, 0, 12, []),
  (23, .if_icmp .ge 53, 42, 0, 0, []),
  (26, .aload_n 0, 0, 0, 0, []),
  (27, .iload 4, 4, 0, 0, []),
  (29, .iload_n 1, 1, 0, 0, []),
  (30, .iconst 1, 0, 0, 1, []),
  (31, .if_icmp .le 7, 23, 0, 0, []),
  (34, .iconst 1, 0, 0, 1, []),
  (35, .goto 4, 24, 0, 0, []),
  (38, .iconst 0, 0, 0, 0, []),
  (39, .invokevirtual 255, 202, 2, 0, [12]),
  (42, .istore 5, 5, 0, 0, []),
  (44, .iload 5, 5, 0, 0, []),
  (46, .iload_n 3, 3, 0, 0, []),
  (47, .if_icmp .le 8, 31, 0, 0, []),
  (50, .iload 4, 4, 0, 0, []),
  (52, .goto 4, 32, 0, 0, []),
  (55, .iload_n 2, 2, 0, 0, []),
  (56, .istore_n 2, 2, 0, 0, []),
  (57, .iload 5, 5, 0, 0, []),
  (59, .iload_n 3, 3, 0, 0, []),
  (60, .if_icmp .le 8, 38, 0, 0, []),
  (63, .iload 5, 5, 0, 0, []),
  (65, .goto 4, 39, 0, 0, []),
  (68, .iload_n 3, 3, 0, 0, []),
  (69, .istore_n 3, 3, 0, 0, []),
  (70, .iinc 4 1, 4, 0, 1, []),
  (73, .goto (-54), 13, 0, 0, []),
  (76, .iload_n 1, 1, 0, 0, []),
  (77, .iconst 2, 0, 0, 2, []),
  (78, .irem, 0, 0, 0, []),
  (79, .ifCond .ne 7, 48, 0, 0, []),
  (82, .iload_n 2, 2, 0, 0, []),
  (83, .goto 4, 49, 0, 0, []),
  (86, .iload_n 3, 3, 0, 0, []),
  (87, .ireturn, 0, 0, 0, [])]
set_option maxRecDepth 100000 in
noncomputable def zc_X12_holds_ : List zE := [(0, .aload_n 0, 0, 0, 0, []),
  (1, .iload_n 1, 1, 0, 0, []),
  (2, .invokevirtual 104, 140, 1, 0, [12]),
  (5, .ifCond .eq 11, 8, 0, 0, []),
  (8, .aload_n 0, 0, 0, 0, []),
  (9, .iload_n 2, 2, 0, 0, []),
  (10, .invokevirtual 107, 139, 1, 0, [12]),
  (13, .ifCond .ne 6, 10, 0, 0, []),
  (16, .bipush (-5), 0, 0, (-5), []),
  (18, .ireturn, 0, 0, 0, []),
  (19, .iload_n 3, 3, 0, 0, []),
  (20, .iconst 0, 0, 0, 0, []),
  (21, .iconst 1, 0, 0, 1, []),
  (22, .invokestatic 90, 136, 3, 0, []),
  (25, .ifCond .ne 6, 17, 0, 0, []),
  (28, .bipush (-7), 0, 0, (-7), []),
  (30, .ireturn, 0, 0, 0, []),
  (31, .iconst 0, 0, 0, 0, []),
  (32, .istore 4, 4, 0, 0, []),
  (34, .iconst (-1), 0, 0, (-1), []),
  (35, .istore 5, 5, 0, 0, []),
  (37, .iconst 0, 0, 0, 0, []),
  (38, .istore 6, 6, 0, 0, []),
  (40, .iconst 0, 0, 0, 0, []),
  (41, .istore 7, 7, 0, 0, []),
  (43, .iload 7, 7, 0, 0, []),
  (45, .bipush 12, 0, 0, 12, []),
  (47, .if_icmp .ge 71, 62, 0, 0, []),
  (50, .aload_n 0, 0, 0, 0, []),
  (51, .iload 7, 7, 0, 0, []),
  (53, .invokevirtual 217, 173, 1, 0, [12]),
  (56, .aload_n 0, 0, 0, 0, []),
  (57, .iload_n 2, 2, 0, 0, []),
  (58, .invokevirtual 208, 175, 1, 0, [12]),
  (61, .iload_n 1, 1, 0, 0, []),
  (62, .if_icmp .ne 10, 40, 0, 0, []),
  (65, .iload 6, 6, 0, 0, []),
  (67, .iconst 1, 0, 0, 1, []),
  (68, .iadd, 0, 0, 0, []),
  (69, .goto 4, 41, 0, 0, []),
  (72, .iconst 0, 0, 0, 0, []),
  (73, .istore 6, 6, 0, 0, []),
  (75, .iload 6, 6, 0, 0, []),
  (77, .iload 4, 4, 0, 0, []),
  (79, .if_icmp .le 13, 51, 0, 0, []),
  (82, .iload 7, 7, 0, 0, []),
  (84, .iload 6, 6, 0, 0, []),
  (86, .isub, 0, 0, 0, []),
  (87, .iconst 1, 0, 0, 1, []),
  (88, .iadd, 0, 0, 0, []),
  (89, .goto 5, 52, 0, 0, []),
  (92, .iload 5, 5, 0, 0, []),
  (94, .istore 5, 5, 0, 0, []),
  (96, .iload 6, 6, 0, 0, []),
  (98, .iload 4, 4, 0, 0, []),
  (100, .if_icmp .le 8, 58, 0, 0, []),
  (103, .iload 6, 6, 0, 0, []),
  (105, .goto 5, 59, 0, 0, []),
  (108, .iload 4, 4, 0, 0, []),
  (110, .istore 4, 4, 0, 0, []),
  (112, .iinc 7 1, 7, 0, 1, []),
  (115, .goto (-72), 25, 0, 0, []),
  (118, .iload_n 3, 3, 0, 0, []),
  (119, .ifCond .ne 8, 66, 0, 0, []),
  (122, .iload 4, 4, 0, 0, []),
  (124, .goto 5, 67, 0, 0, []),
  (127, .iload 5, 5, 0, 0, []),
  (129, .ireturn, 0, 0, 0, [])]
set_option maxRecDepth 100000 in
noncomputable def zc_X12_sheetWrong : List zE := [(0, .iload_n 1, 1, 0, 0, []),
  (1, .iconst 0, 0, 0, 0, []),
  (2, .iconst 3, 0, 0, 3, []),
  (3, .invokestatic 90, 136, 3, 0, []),
  (6, .ifCond .ne 6, 7, 0, 0, []),
  (9, .bipush (-2), 0, 0, (-2), []),
  (11, .ireturn, 0, 0, 0, []),
  (12, .aload_n 0, 0, 0, 0, []),
  (13, .getfield 43, 20, 12, 0, [0]),
  (16, .iload_n 1, 1, 0, 0, []),
  (17, .iaload, 0, 0, 0, []),
  (18, .iconst (-1), 0, 0, (-1), []),
  (19, .if_icmp .ne 6, 15, 0, 0, []),
  (22, .bipush (-11), 0, 0, (-11), []),
  (24, .ireturn, 0, 0, 0, []),
  (25, .aload_n 0, 0, 0, 0, []),
  (26, .getfield 46, 21, 12, 0, [0]),
  (29, .iload_n 1, 1, 0, 0, []),
  (30, .iaload, 0, 0, 0, []),
  (31, .aload_n 0, 0, 0, 0, []),
  (32, .getfield 94, 1, 12, 0, []),
  (35, .if_icmp .ne 7, 24, 0, 0, []),
  (38, .iconst 0, 0, 0, 0, []),
  (39, .goto 5, 25, 0, 0, []),
  (42, .bipush (-2), 0, 0, (-2), []),
  (44, .ireturn, 0, 0, 0, [])]
set_option maxRecDepth 100000 in
noncomputable def zc_X12_unlike : List zE := [(0, .iconst 0, 0, 0, 0, []),
  (1, .istore_n 2, 2, 0, 0, []),
  (2, .iload_n 2, 2, 0, 0, []),
  (3, .aload_n 0, 0, 0, 0, []),
  (4, .getfield 94, 1, 12, 0, []),
  (7, .if_icmp .ge 30, 22, 0, 0, []),
  (10, .aload_n 0, 0, 0, 0, []),
  (11, .getfield 49, 22, 12, 0, [0]),
  (14, .bipush 40, 0, 0, 40, []),
  (16, .iload_n 1, 1, 0, 0, []),
  (17, .imul, 0, 0, 0, []),
  (18, .iload_n 2, 2, 0, 0, []),
  (19, .iadd, 0, 0, 0, []),
  (20, .iaload, 0, 0, 0, []),
  (21, .aload_n 0, 0, 0, 0, []),
  (22, .iload_n 2, 2, 0, 0, []),
  (23, .invokevirtual 208, 175, 1, 0, [12]),
  (26, .if_icmp .eq 5, 20, 0, 0, []),
  (29, .iload_n 2, 2, 0, 0, []),
  (30, .ireturn, 0, 0, 0, []),
  (31, .iinc 2 1, 2, 0, 1, []),
  (34, .goto (-32), 2, 0, 0, []),
  (37, .iconst (-1), 0, 0, (-1), []),
  (38, .ireturn, 0, 0, 0, [])]
set_option maxRecDepth 100000 in
noncomputable def zc_X12_judge : List zE := [(0, .aload_n 0, 0, 0, 0, []),
  (1, .iload_n 1, 1, 0, 0, []),
  (2, .invokevirtual 259, 205, 1, 0, [12]),
  (5, .istore_n 3, 3, 0, 0, []),
  (6, .iload_n 3, 3, 0, 0, []),
  (7, .ifCond .ne 10, 9, 0, 0, []),
  (10, .iload_n 2, 2, 0, 0, []),
  (11, .invokestatic 100, 138, 1, 0, []),
  (14, .ifCond .ne 14, 15, 0, 0, []),
  (17, .iload_n 3, 3, 0, 0, []),
  (18, .ifCond .eq 7, 13, 0, 0, []),
  (21, .iload_n 3, 3, 0, 0, []),
  (22, .goto 5, 14, 0, 0, []),
  (25, .bipush (-5), 0, 0, (-5), []),
  (27, .ireturn, 0, 0, 0, []),
  (28, .aload_n 0, 0, 0, 0, []),
  (29, .iload_n 2, 2, 0, 0, []),
  (30, .invokevirtual 217, 173, 1, 0, [12]),
  (33, .aload_n 0, 0, 0, 0, []),
  (34, .iload_n 1, 1, 0, 0, []),
  (35, .invokevirtual 262, 206, 1, 0, [12]),
  (38, .ireturn, 0, 0, 0, [])]
set_option maxRecDepth 100000 in
noncomputable def zc_X12_when : List zE := [(0, .aload_n 0, 0, 0, 0, []),
  (1, .iload_n 1, 1, 0, 0, []),
  (2, .invokevirtual 259, 205, 1, 0, [12]),
  (5, .istore_n 2, 2, 0, 0, []),
  (6, .iload_n 2, 2, 0, 0, []),
  (7, .ifCond .eq 5, 8, 0, 0, []),
  (10, .iload_n 2, 2, 0, 0, []),
  (11, .ireturn, 0, 0, 0, []),
  (12, .iconst 0, 0, 0, 0, []),
  (13, .istore_n 3, 3, 0, 0, []),
  (14, .iconst 0, 0, 0, 0, []),
  (15, .istore 4, 4, 0, 0, []),
  (17, .iload 4, 4, 0, 0, []),
  (19, .bipush 12, 0, 0, 12, []),
  (21, .if_icmp .ge 35, 33, 0, 0, []),
  (24, .aload_n 0, 0, 0, 0, []),
  (25, .iload 4, 4, 0, 0, []),
  (27, .invokevirtual 217, 173, 1, 0, [12]),
  (30, .iload_n 3, 3, 0, 0, []),
  (31, .aload_n 0, 0, 0, 0, []),
  (32, .iload_n 1, 1, 0, 0, []),
  (33, .invokevirtual 262, 206, 1, 0, [12]),
  (36, .iconst (-1), 0, 0, (-1), []),
  (37, .if_icmp .ne 10, 28, 0, 0, []),
  (40, .iconst 1, 0, 0, 1, []),
  (41, .iload 4, 4, 0, 0, []),
  (43, .ishl, 0, 0, 0, []),
  (44, .goto 4, 29, 0, 0, []),
  (47, .iconst 0, 0, 0, 0, []),
  (48, .ior, 0, 0, 0, []),
  (49, .istore_n 3, 3, 0, 0, []),
  (50, .iinc 4 1, 4, 0, 1, []),
  (53, .goto (-36), 12, 0, 0, []),
  (56, .iload_n 3, 3, 0, 0, []),
  (57, .ireturn, 0, 0, 0, [])]
set_option maxRecDepth 100000 in
noncomputable def zc_X12_were : List zE := [(0, .aload_n 0, 0, 0, 0, []),
  (1, .iload_n 1, 1, 0, 0, []),
  (2, .invokevirtual 259, 205, 1, 0, [12]),
  (5, .istore 5, 5, 0, 0, []),
  (7, .iload 5, 5, 0, 0, []),
  (9, .ifCond .eq 6, 8, 0, 0, []),
  (12, .iload 5, 5, 0, 0, []),
  (14, .ireturn, 0, 0, 0, []),
  (15, .iload_n 2, 2, 0, 0, []),
  (16, .invokestatic 100, 138, 1, 0, []),
  (19, .ifCond .eq 11, 15, 0, 0, []),
  (22, .aload_n 0, 0, 0, 0, []),
  (23, .iload_n 3, 3, 0, 0, []),
  (24, .invokevirtual 104, 140, 1, 0, [12]),
  (27, .ifCond .ne 6, 17, 0, 0, []),
  (30, .bipush (-5), 0, 0, (-5), []),
  (32, .ireturn, 0, 0, 0, []),
  (33, .iload 4, 4, 0, 0, []),
  (35, .iconst 0, 0, 0, 0, []),
  (36, .iconst 1, 0, 0, 1, []),
  (37, .invokestatic 90, 136, 3, 0, []),
  (40, .ifCond .ne 6, 24, 0, 0, []),
  (43, .bipush (-7), 0, 0, (-7), []),
  (45, .ireturn, 0, 0, 0, []),
  (46, .aload_n 0, 0, 0, 0, []),
  (47, .iload_n 2, 2, 0, 0, []),
  (48, .invokevirtual 217, 173, 1, 0, [12]),
  (51, .aload_n 0, 0, 0, 0, []),
  (52, .aload_n 0, 0, 0, 0, []),
  (53, .invokevirtual 229, 191, 0, 0, [12]),
  (56, .invokevirtual 232, 189, 1, 0, [12]),
  (59, .iconst 0, 0, 0, 0, []),
  (60, .istore 6, 6, 0, 0, []),
  (62, .iconst 0, 0, 0, 0, []),
  (63, .istore 7, 7, 0, 0, []),
  (65, .iconst 1, 0, 0, 1, []),
  (66, .istore 8, 8, 0, 0, []),
  (68, .iload 8, 8, 0, 0, []),
  (70, .ifCond .eq 43, 62, 0, 0, []),
  (73, .aload_n 0, 0, 0, 0, []),
  (74, .iload_n 1, 1, 0, 0, []),
  (75, .invokevirtual 262, 206, 1, 0, [12]),
  (78, .iconst (-1), 0, 0, (-1), []),
  (79, .if_icmp .ne 21, 56, 0, 0, []),
  (82, .iinc 6 1, 6, 0, 1, []),
  (85, .iload 7, 7, 0, 0, []),
  (87, .iconst 1, 0, 0, 1, []),
  (88, .aload_n 0, 0, 0, 0, []),
  (89, .getfield 73, 38, 12, 0, [0]),
  (92, .iload_n 3, 3, 0, 0, []),
  (93, .iaload, 0, 0, 0, []),
  (94, .iconst 1, 0, 0, 1, []),
  (95, .iadd, 0, 0, 0, []),
  (96, .ishl, 0, 0, 0, []),
  (97, .ior, 0, 0, 0, []),
  (98, .istore 7, 7, 0, 0, []),
  (100, .aload_n 0, 0, 0, 0, []),
  (101, .aload_n 0, 0, 0, 0, []),
  (102, .invokevirtual 229, 191, 0, 0, [12]),
  (105, .invokevirtual 238, 188, 1, 0, [12]),
  (108, .istore 8, 8, 0, 0, []),
  (110, .goto (-42), 37, 0, 0, []),
  (113, .iload 4, 4, 0, 0, []),
  (115, .ifCond .ne 8, 66, 0, 0, []),
  (118, .iload 6, 6, 0, 0, []),
  (120, .goto 5, 67, 0, 0, []),
  (123, .iload 7, 7, 0, 0, []),
  (125, .ireturn, 0, 0, 0, [])]
set_option maxRecDepth 100000 in
noncomputable def zc_X12_film : List zE := [(0, .iload_n 1, 1, 0, 0, []),
  (1, .iconst 0, 0, 0, 0, []),
  (2, .iconst 3, 0, 0, 3, []),
  (3, .invokestatic 90, 136, 3, 0, []),
  (6, .ifCond .ne 6, 7, 0, 0, []),
  (9, .bipush (-2), 0, 0, (-2), []),
  (11, .ireturn, 0, 0, 0, []),
  (12, .iload_n 2, 2, 0, 0, []),
  (13, .invokestatic 100, 138, 1, 0, []),
  (16, .ifCond .ne 6, 12, 0, 0, []),
  (19, .bipush (-5), 0, 0, (-5), []),
  (21, .ireturn, 0, 0, 0, []),
  (22, .aload_n 0, 0, 0, 0, []),
  (23, .iload_n 2, 2, 0, 0, []),
  (24, .invokevirtual 217, 173, 1, 0, [12]),
  (27, .aload_n 0, 0, 0, 0, []),
  (28, .getfield 43, 20, 12, 0, [0]),
  (31, .iload_n 1, 1, 0, 0, []),
  (32, .iconst 2, 0, 0, 2, []),
  (33, .iastore, 0, 0, 0, []),
  (34, .aload_n 0, 0, 0, 0, []),
  (35, .getfield 46, 21, 12, 0, [0]),
  (38, .iload_n 1, 1, 0, 0, []),
  (39, .aload_n 0, 0, 0, 0, []),
  (40, .getfield 94, 1, 12, 0, []),
  (43, .iastore, 0, 0, 0, []),
  (44, .iconst 0, 0, 0, 0, []),
  (45, .istore_n 3, 3, 0, 0, []),
  (46, .iload_n 3, 3, 0, 0, []),
  (47, .bipush 40, 0, 0, 40, []),
  (49, .if_icmp .ge 37, 50, 0, 0, []),
  (52, .aload_n 0, 0, 0, 0, []),
  (53, .getfield 49, 22, 12, 0, [0]),
  (56, .bipush 40, 0, 0, 40, []),
  (58, .iload_n 1, 1, 0, 0, []),
  (59, .imul, 0, 0, 0, []),
  (60, .iload_n 3, 3, 0, 0, []),
  (61, .iadd, 0, 0, 0, []),
  (62, .iload_n 3, 3, 0, 0, []),
  (63, .aload_n 0, 0, 0, 0, []),
  (64, .getfield 94, 1, 12, 0, []),
  (67, .if_icmp .ge 11, 46, 0, 0, []),
  (70, .aload_n 0, 0, 0, 0, []),
  (71, .iload_n 3, 3, 0, 0, []),
  (72, .invokevirtual 208, 175, 1, 0, [12]),
  (75, .goto 4, 47, 0, 0, []),
  (78, .iconst 0, 0, 0, 0, []),
  (79, .iastore, 0, 0, 0, []),
  (80, .iinc 3 1, 3, 0, 1, []),
  (83, .goto (-37), 28, 0, 0, []),
  (86, .aload_n 0, 0, 0, 0, []),
  (87, .getfield 94, 1, 12, 0, []),
  (90, .ireturn, 0, 0, 0, [])]
set_option maxRecDepth 100000 in
noncomputable def zc_X12_laws : List zE := [(0, .aload_n 0, 0, 0, 0, []),
  (1, .iload_n 1, 1, 0, 0, []),
  (2, .invokevirtual 104, 140, 1, 0, [12]),
  (5, .ifCond .eq 10, 7, 0, 0, []),
  (8, .iload_n 2, 2, 0, 0, []),
  (9, .invokestatic 100, 138, 1, 0, []),
  (12, .ifCond .ne 6, 9, 0, 0, []),
  (15, .bipush (-5), 0, 0, (-5), []),
  (17, .ireturn, 0, 0, 0, []),
  (18, .iload_n 3, 3, 0, 0, []),
  (19, .iconst 0, 0, 0, 0, []),
  (20, .ldc_w 265, 0, 0, 99999, []),
  (23, .invokestatic 90, 136, 3, 0, []),
  (26, .ifCond .ne 6, 16, 0, 0, []),
  (29, .bipush (-7), 0, 0, (-7), []),
  (31, .ireturn, 0, 0, 0, []),
  (32, .aload_n 0, 0, 0, 0, []),
  (33, .getfield 113, 13, 12, 0, []),
  (36, .istore 4, 4, 0, 0, []),
  (38, .iconst 0, 0, 0, 0, []),
  (39, .istore 5, 5, 0, 0, []),
  (41, .iconst 0, 0, 0, 0, []),
  (42, .istore 6, 6, 0, 0, []),
  (44, .iload 6, 6, 0, 0, []),
  (46, .aload_n 0, 0, 0, 0, []),
  (47, .getfield 110, 12, 12, 0, []),
  (50, .if_icmp .ge 42, 48, 0, 0, []),
  (53, .aload_n 0, 0, 0, 0, []),
  (54, .iload 6, 6, 0, 0, []),
  (56, .putfield 113, 13, 12, 0, []),
  (59, .aload_n 0, 0, 0, 0, []),
  (60, .iload_n 2, 2, 0, 0, []),
  (61, .invokevirtual 217, 173, 1, 0, [12]),
  (64, .iload 5, 5, 0, 0, []),
  (66, .aload_n 0, 0, 0, 0, []),
  (67, .iload_n 1, 1, 0, 0, []),
  (68, .invokevirtual 211, 176, 1, 0, [12]),
  (71, .iload_n 3, 3, 0, 0, []),
  (72, .if_icmp .ne 10, 43, 0, 0, []),
  (75, .iconst 1, 0, 0, 1, []),
  (76, .iload 6, 6, 0, 0, []),
  (78, .ishl, 0, 0, 0, []),
  (79, .goto 4, 44, 0, 0, []),
  (82, .iconst 0, 0, 0, 0, []),
  (83, .ior, 0, 0, 0, []),
  (84, .istore 5, 5, 0, 0, []),
  (86, .iinc 6 1, 6, 0, 1, []),
  (89, .goto (-45), 23, 0, 0, []),
  (92, .aload_n 0, 0, 0, 0, []),
  (93, .iload 4, 4, 0, 0, []),
  (95, .putfield 113, 13, 12, 0, []),
  (98, .iload 5, 5, 0, 0, []),
  (100, .ireturn, 0, 0, 0, [])]
set_option maxRecDepth 100000 in
noncomputable def zc_X12_storms : List zE := [(0, .aload_n 0, 0, 0, 0, []),
  (1, .iload_n 2, 2, 0, 0, []),
  (2, .invokevirtual 217, 173, 1, 0, [12]),
  (5, .iload_n 1, 1, 0, 0, []),
  (6, .i2l, 0, 0, 0, []),
  (7, .lconst 1, 1, 0, 0, []),
  (8, .ladd, 0, 0, 0, []),
  (9, .lstore_n 3, 3, 0, 0, []),
  (10, .iconst 0, 0, 0, 0, []),
  (11, .istore 5, 5, 0, 0, []),
  (13, .iconst 0, 0, 0, 0, []),
  (14, .istore 6, 6, 0, 0, []),
  (16, .iload 6, 6, 0, 0, []),
  (18, .aload_n 0, 0, 0, 0, []),
  (19, .getfield 97, 6, 12, 0, []),
  (22, .if_icmp .ge 79, 62, 0, 0, []),
  (25, .lload_n 3, 3, 0, 0, []),
  (26, .ldc2_w 266, 48271, 0, 0, []),
  (29, .lmul, 0, 0, 0, []),
  (30, .ldc2_w 268, 2147483647, 0, 0, []),
  (33, .lrem, 0, 0, 0, []),
  (34, .lstore_n 3, 3, 0, 0, []),
  (35, .aload_n 0, 0, 0, 0, []),
  (36, .getfield 73, 38, 12, 0, [0]),
  (39, .iload 6, 6, 0, 0, []),
  (41, .iaload, 0, 0, 0, []),
  (42, .iconst (-1), 0, 0, (-1), []),
  (43, .if_icmp .eq 52, 60, 0, 0, []),
  (46, .lload_n 3, 3, 0, 0, []),
  (47, .ldc2_w 270, 100, 0, 0, []),
  (50, .lrem, 0, 0, 0, []),
  (51, .aload_n 0, 0, 0, 0, []),
  (52, .iconst 2, 0, 0, 2, []),
  (53, .iconst 0, 0, 0, 0, []),
  (54, .aload_n 0, 0, 0, 0, []),
  (55, .getfield 7, 0, 12, 0, [0]),
  (58, .iload_n 2, 2, 0, 0, []),
  (59, .iaload, 0, 0, 0, []),
  (60, .iconst 0, 0, 0, 0, []),
  (61, .iconst 0, 0, 0, 0, []),
  (62, .iload_n 2, 2, 0, 0, []),
  (63, .aload_n 0, 0, 0, 0, []),
  (64, .getfield 73, 38, 12, 0, [0]),
  (67, .iload 6, 6, 0, 0, []),
  (69, .iaload, 0, 0, 0, []),
  (70, .invokevirtual 185, 163, 7, 0, [12]),
  (73, .i2l, 0, 0, 0, []),
  (74, .lcmp, 0, 0, 0, []),
  (75, .ifCond .ge 20, 60, 0, 0, []),
  (78, .iload 5, 5, 0, 0, []),
  (80, .iconst 1, 0, 0, 1, []),
  (81, .iload 6, 6, 0, 0, []),
  (83, .ishl, 0, 0, 0, []),
  (84, .ior, 0, 0, 0, []),
  (85, .istore 5, 5, 0, 0, []),
  (87, .aload_n 0, 0, 0, 0, []),
  (88, .getfield 73, 38, 12, 0, [0]),
  (91, .iload 6, 6, 0, 0, []),
  (93, .iconst (-1), 0, 0, (-1), []),
  (94, .iastore, 0, 0, 0, []),
  (95, .iinc 6 1, 6, 0, 1, []),
  (98, .goto (-82), 12, 0, 0, []),
  (101, .iload 5, 5, 0, 0, []),
  (103, .ireturn, 0, 0, 0, [])]
set_option maxRecDepth 100000 in
noncomputable def zc_X12_drawn : List zE := [(0, .aload_n 0, 0, 0, 0, []),
  (1, .iload_n 2, 2, 0, 0, []),
  (2, .invokevirtual 104, 140, 1, 0, [12]),
  (5, .ifCond .eq 10, 7, 0, 0, []),
  (8, .iload_n 3, 3, 0, 0, []),
  (9, .invokestatic 100, 138, 1, 0, []),
  (12, .ifCond .ne 6, 9, 0, 0, []),
  (15, .bipush (-5), 0, 0, (-5), []),
  (17, .ireturn, 0, 0, 0, []),
  (18, .iload_n 1, 1, 0, 0, []),
  (19, .iconst 0, 0, 0, 0, []),
  (20, .ldc_w 265, 0, 0, 99999, []),
  (23, .invokestatic 90, 136, 3, 0, []),
  (26, .ifCond .eq 13, 19, 0, 0, []),
  (29, .iload 4, 4, 0, 0, []),
  (31, .iconst 0, 0, 0, 0, []),
  (32, .iconst 1, 0, 0, 1, []),
  (33, .invokestatic 90, 136, 3, 0, []),
  (36, .ifCond .ne 6, 21, 0, 0, []),
  (39, .bipush (-7), 0, 0, (-7), []),
  (41, .ireturn, 0, 0, 0, []),
  (42, .aload_n 0, 0, 0, 0, []),
  (43, .iload_n 1, 1, 0, 0, []),
  (44, .iload_n 3, 3, 0, 0, []),
  (45, .invokevirtual 272, 212, 2, 0, [12]),
  (48, .istore 5, 5, 0, 0, []),
  (50, .iload 4, 4, 0, 0, []),
  (52, .ifCond .ne 8, 30, 0, 0, []),
  (55, .iload 5, 5, 0, 0, []),
  (57, .goto 8, 33, 0, 0, []),
  (60, .aload_n 0, 0, 0, 0, []),
  (61, .iload_n 2, 2, 0, 0, []),
  (62, .invokevirtual 211, 176, 1, 0, [12]),
  (65, .ireturn, 0, 0, 0, [])]
set_option maxRecDepth 100000 in
noncomputable def zc_X12_lowest : List zE := [(0, .lload_n 0, 0, 0, 0, []),
  (1, .lconst 0, 0, 0, 0, []),
  (2, .lcmp, 0, 0, 0, []),
  (3, .ifCond .ne 7, 7, 0, 0, []),
  (6, .iload 4, 4, 0, 0, []),
  (8, .i2l, 0, 0, 0, []),
  (9, .lreturn, 0, 0, 0, []),
  (10, .lload_n 0, 0, 0, 0, []),
  (11, .lstore 5, 5, 0, 0, []),
  (13, .lload_n 2, 2, 0, 0, []),
  (14, .lstore 7, 7, 0, 0, []),
  (16, .lload 7, 7, 0, 0, []),
  (18, .lconst 0, 0, 0, 0, []),
  (19, .lcmp, 0, 0, 0, []),
  (20, .ifCond .eq 21, 24, 0, 0, []),
  (23, .lload 5, 5, 0, 0, []),
  (25, .lload 7, 7, 0, 0, []),
  (27, .lrem, 0, 0, 0, []),
  (28, .lstore 9, 9, 0, 0, []),
  (30, .lload 7, 7, 0, 0, []),
  (32, .lstore 5, 5, 0, 0, []),
  (34, .lload 9, 9, 0, 0, []),
  (36, .lstore 7, 7, 0, 0, []),
  (38, .goto (-22), 11, 0, 0, []),
  (41, .iload 4, 4, 0, 0, []),
  (43, .ifCond .ne 7, 28, 0, 0, []),
  (46, .lload_n 0, 0, 0, 0, []),
  (47, .goto 4, 29, 0, 0, []),
  (50, .lload_n 2, 2, 0, 0, []),
  (51, .lload 5, 5, 0, 0, []),
  (53, .ldiv, 0, 0, 0, []),
  (54, .lreturn, 0, 0, 0, [])]
set_option maxRecDepth 100000 in
noncomputable def zc_X12_mean : List zE := [(0, .aload_n 0, 0, 0, 0, []),
  (1, .iload_n 1, 1, 0, 0, []),
  (2, .invokevirtual 104, 140, 1, 0, [12]),
  (5, .ifCond .eq 42, 22, 0, 0, []),
  (8, .iload_n 2, 2, 0, 0, []),
  (9, .invokestatic 100, 138, 1, 0, []),
  (12, .ifCond .eq 35, 22, 0, 0, []),
  (15, .iload_n 3, 3, 0, 0, []),
  (16, .iconst 0, 0, 0, 0, []),
  (17, .ldc_w 265, 0, 0, 99999, []),
  (20, .invokestatic 90, 136, 3, 0, []),
  (23, .ifCond .eq 24, 22, 0, 0, []),
  (26, .iload 4, 4, 0, 0, []),
  (28, .iconst 1, 0, 0, 1, []),
  (29, .bipush 40, 0, 0, 40, []),
  (31, .invokestatic 90, 136, 3, 0, []),
  (34, .ifCond .eq 13, 22, 0, 0, []),
  (37, .iload 5, 5, 0, 0, []),
  (39, .iconst 0, 0, 0, 0, []),
  (40, .iconst 1, 0, 0, 1, []),
  (41, .invokestatic 90, 136, 3, 0, []),
  (44, .ifCond .ne 7, 24, 0, 0, []),
  (47, .ldc2_w 275, 4611686018427387904, 1, 0, []),
  (50, .lreturn, 0, 0, 0, []),
  (51, .lconst 0, 0, 0, 0, []),
  (52, .lstore 6, 6, 0, 0, []),
  (54, .iconst 0, 0, 0, 0, []),
  (55, .istore 8, 8, 0, 0, []),
  (57, .iload 8, 8, 0, 0, []),
  (59, .iload 4, 4, 0, 0, []),
  (61, .if_icmp .ge 30, 47, 0, 0, []),
  (64, .aload_n 0, 0, 0, 0, []),
  (65, .iload_n 3, 3, 0, 0, []),
  (66, .iload 8, 8, 0, 0, []),
  (68, .iadd, 0, 0, 0, []),
  (69, .iload_n 2, 2, 0, 0, []),
  (70, .invokevirtual 272, 212, 2, 0, [12]),
  (73, .pop, 0, 0, 0, []),
  (74, .lload 6, 6, 0, 0, []),
  (76, .aload_n 0, 0, 0, 0, []),
  (77, .iload_n 1, 1, 0, 0, []),
  (78, .invokevirtual 211, 176, 1, 0, [12]),
  (81, .i2l, 0, 0, 0, []),
  (82, .ladd, 0, 0, 0, []),
  (83, .lstore 6, 6, 0, 0, []),
  (85, .iinc 8 1, 8, 0, 1, []),
  (88, .goto (-31), 28, 0, 0, []),
  (91, .lload 6, 6, 0, 0, []),
  (93, .iload 4, 4, 0, 0, []),
  (95, .i2l, 0, 0, 0, []),
  (96, .iload 5, 5, 0, 0, []),
  (98, .invokestatic 277, 214, 3, 0, []),
  (101, .lreturn, 0, 0, 0, [])]
set_option maxRecDepth 100000 in
noncomputable def zc_X12_image : List zE := [(0, .aload_n 0, 0, 0, 0, []),
  (1, .iconst 1, 0, 0, 1, []),
  (2, .putfield 281, 14, 12, 0, [2]),
  (5, .aload_n 0, 0, 0, 0, []),
  (6, .aload_n 0, 0, 0, 0, []),
  (7, .getfield 97, 6, 12, 0, []),
  (10, .putfield 285, 15, 12, 0, []),
  (13, .aload_n 0, 0, 0, 0, []),
  (14, .aload_n 0, 0, 0, 0, []),
  (15, .getfield 94, 1, 12, 0, []),
  (18, .putfield 288, 16, 12, 0, []),
  (21, .aload_n 0, 0, 0, 0, []),
  (22, .aload_n 0, 0, 0, 0, []),
  (23, .getfield 113, 13, 12, 0, []),
  (26, .putfield 291, 17, 12, 0, []),
  (29, .iconst 0, 0, 0, 0, []),
  (30, .istore_n 1, 1, 0, 0, []),
  (31, .iload_n 1, 1, 0, 0, []),
  (32, .bipush 12, 0, 0, 12, []),
  (34, .if_icmp .ge 21, 30, 0, 0, []),
  (37, .aload_n 0, 0, 0, 0, []),
  (38, .getfield 37, 18, 12, 0, [0]),
  (41, .iload_n 1, 1, 0, 0, []),
  (42, .aload_n 0, 0, 0, 0, []),
  (43, .getfield 7, 0, 12, 0, [0]),
  (46, .iload_n 1, 1, 0, 0, []),
  (47, .iaload, 0, 0, 0, []),
  (48, .iastore, 0, 0, 0, []),
  (49, .iinc 1 1, 1, 0, 1, []),
  (52, .goto (-21), 17, 0, 0, []),
  (55, .iconst 0, 0, 0, 0, []),
  (56, .istore_n 1, 1, 0, 0, []),
  (57, .iload_n 1, 1, 0, 0, []),
  (58, .bipush 48, 0, 0, 48, []),
  (60, .if_icmp .ge 21, 45, 0, 0, []),
  (63, .aload_n 0, 0, 0, 0, []),
  (64, .getfield 40, 19, 12, 0, [0]),
  (67, .iload_n 1, 1, 0, 0, []),
  (68, .aload_n 0, 0, 0, 0, []),
  (69, .getfield 25, 7, 12, 0, [0]),
  (72, .iload_n 1, 1, 0, 0, []),
  (73, .iaload, 0, 0, 0, []),
  (74, .iastore, 0, 0, 0, []),
  (75, .iinc 1 1, 1, 0, 1, []),
  (78, .goto (-21), 32, 0, 0, []),
  (81, .aload_n 0, 0, 0, 0, []),
  (82, .getfield 94, 1, 12, 0, []),
  (85, .ireturn, 0, 0, 0, [])]
set_option maxRecDepth 100000 in
noncomputable def zc_X12_back : List zE := [(0, .aload_n 0, 0, 0, 0, []),
  (1, .getfield 281, 14, 12, 0, []),
  (4, .ifCond .ne 6, 5, 0, 0, []),
  (7, .bipush (-3), 0, 0, (-3), []),
  (9, .ireturn, 0, 0, 0, []),
  (10, .aload_n 0, 0, 0, 0, []),
  (11, .aload_n 0, 0, 0, 0, []),
  (12, .getfield 285, 15, 12, 0, []),
  (15, .putfield 97, 6, 12, 0, []),
  (18, .aload_n 0, 0, 0, 0, []),
  (19, .aload_n 0, 0, 0, 0, []),
  (20, .getfield 288, 16, 12, 0, []),
  (23, .putfield 94, 1, 12, 0, []),
  (26, .aload_n 0, 0, 0, 0, []),
  (27, .aload_n 0, 0, 0, 0, []),
  (28, .getfield 291, 17, 12, 0, []),
  (31, .putfield 113, 13, 12, 0, []),
  (34, .iconst 0, 0, 0, 0, []),
  (35, .istore_n 1, 1, 0, 0, []),
  (36, .iload_n 1, 1, 0, 0, []),
  (37, .bipush 12, 0, 0, 12, []),
  (39, .if_icmp .ge 21, 32, 0, 0, []),
  (42, .aload_n 0, 0, 0, 0, []),
  (43, .getfield 7, 0, 12, 0, [0]),
  (46, .iload_n 1, 1, 0, 0, []),
  (47, .aload_n 0, 0, 0, 0, []),
  (48, .getfield 37, 18, 12, 0, [0]),
  (51, .iload_n 1, 1, 0, 0, []),
  (52, .iaload, 0, 0, 0, []),
  (53, .iastore, 0, 0, 0, []),
  (54, .iinc 1 1, 1, 0, 1, []),
  (57, .goto (-21), 19, 0, 0, []),
  (60, .iconst 0, 0, 0, 0, []),
  (61, .istore_n 1, 1, 0, 0, []),
  (62, .iload_n 1, 1, 0, 0, []),
  (63, .bipush 48, 0, 0, 48, []),
  (65, .if_icmp .ge 21, 47, 0, 0, []),
  (68, .aload_n 0, 0, 0, 0, []),
  (69, .getfield 25, 7, 12, 0, [0]),
  (72, .iload_n 1, 1, 0, 0, []),
  (73, .aload_n 0, 0, 0, 0, []),
  (74, .getfield 40, 19, 12, 0, [0]),
  (77, .iload_n 1, 1, 0, 0, []),
  (78, .iaload, 0, 0, 0, []),
  (79, .iastore, 0, 0, 0, []),
  (80, .iinc 1 1, 1, 0, 1, []),
  (83, .goto (-21), 34, 0, 0, []),
  (86, .aload_n 0, 0, 0, 0, []),
  (87, .getfield 94, 1, 12, 0, []),
  (90, .ireturn, 0, 0, 0, [])]
set_option maxRecDepth 100000 in
noncomputable def zc_X12_sheet : List zE := [(0, .iload_n 1, 1, 0, 0, []),
  (1, .iconst 0, 0, 0, 0, []),
  (2, .iconst 3, 0, 0, 3, []),
  (3, .invokestatic 90, 136, 3, 0, []),
  (6, .ifCond .eq 23, 16, 0, 0, []),
  (9, .iload_n 2, 2, 0, 0, []),
  (10, .iconst (-1), 0, 0, (-1), []),
  (11, .iconst 2, 0, 0, 2, []),
  (12, .invokestatic 90, 136, 3, 0, []),
  (15, .ifCond .eq 14, 16, 0, 0, []),
  (18, .iload_n 2, 2, 0, 0, []),
  (19, .iconst (-1), 0, 0, (-1), []),
  (20, .if_icmp .eq 12, 18, 0, 0, []),
  (23, .iload_n 3, 3, 0, 0, []),
  (24, .bipush 40, 0, 0, 40, []),
  (26, .if_icmp .le 6, 18, 0, 0, []),
  (29, .bipush (-2), 0, 0, (-2), []),
  (31, .ireturn, 0, 0, 0, []),
  (32, .iload_n 2, 2, 0, 0, []),
  (33, .iconst (-1), 0, 0, (-1), []),
  (34, .if_icmp .eq 10, 25, 0, 0, []),
  (37, .iload_n 3, 3, 0, 0, []),
  (38, .ifCond .ge 6, 25, 0, 0, []),
  (41, .bipush (-14), 0, 0, (-14), []),
  (43, .ireturn, 0, 0, 0, []),
  (44, .aload_n 0, 0, 0, 0, []),
  (45, .getfield 43, 20, 12, 0, [0]),
  (48, .iload_n 1, 1, 0, 0, []),
  (49, .iload_n 2, 2, 0, 0, []),
  (50, .iastore, 0, 0, 0, []),
  (51, .aload_n 0, 0, 0, 0, []),
  (52, .getfield 46, 21, 12, 0, [0]),
  (55, .iload_n 1, 1, 0, 0, []),
  (56, .iload_n 2, 2, 0, 0, []),
  (57, .iconst (-1), 0, 0, (-1), []),
  (58, .if_icmp .ne 7, 38, 0, 0, []),
  (61, .iconst 0, 0, 0, 0, []),
  (62, .goto 4, 39, 0, 0, []),
  (65, .iload_n 3, 3, 0, 0, []),
  (66, .iastore, 0, 0, 0, []),
  (67, .iconst 0, 0, 0, 0, []),
  (68, .istore 4, 4, 0, 0, []),
  (70, .iload 4, 4, 0, 0, []),
  (72, .bipush 40, 0, 0, 40, []),
  (74, .if_icmp .ge 22, 56, 0, 0, []),
  (77, .aload_n 0, 0, 0, 0, []),
  (78, .getfield 49, 22, 12, 0, [0]),
  (81, .bipush 40, 0, 0, 40, []),
  (83, .iload_n 1, 1, 0, 0, []),
  (84, .imul, 0, 0, 0, []),
  (85, .iload 4, 4, 0, 0, []),
  (87, .iadd, 0, 0, 0, []),
  (88, .iconst 0, 0, 0, 0, []),
  (89, .iastore, 0, 0, 0, []),
  (90, .iinc 4 1, 4, 0, 1, []),
  (93, .goto (-23), 42, 0, 0, []),
  (96, .iconst 1, 0, 0, 1, []),
  (97, .ireturn, 0, 0, 0, [])]
set_option maxRecDepth 100000 in
noncomputable def zc_X12_cell : List zE := [(0, .iload_n 1, 1, 0, 0, []),
  (1, .iconst 0, 0, 0, 0, []),
  (2, .iconst 3, 0, 0, 3, []),
  (3, .invokestatic 90, 136, 3, 0, []),
  (6, .ifCond .ne 6, 7, 0, 0, []),
  (9, .bipush (-2), 0, 0, (-2), []),
  (11, .ireturn, 0, 0, 0, []),
  (12, .aload_n 0, 0, 0, 0, []),
  (13, .getfield 43, 20, 12, 0, [0]),
  (16, .iload_n 1, 1, 0, 0, []),
  (17, .iaload, 0, 0, 0, []),
  (18, .iconst (-1), 0, 0, (-1), []),
  (19, .if_icmp .ne 6, 15, 0, 0, []),
  (22, .bipush (-11), 0, 0, (-11), []),
  (24, .ireturn, 0, 0, 0, []),
  (25, .iload_n 2, 2, 0, 0, []),
  (26, .iconst 0, 0, 0, 0, []),
  (27, .aload_n 0, 0, 0, 0, []),
  (28, .getfield 46, 21, 12, 0, [0]),
  (31, .iload_n 1, 1, 0, 0, []),
  (32, .iaload, 0, 0, 0, []),
  (33, .iconst 1, 0, 0, 1, []),
  (34, .isub, 0, 0, 0, []),
  (35, .invokestatic 90, 136, 3, 0, []),
  (38, .ifCond .ne 6, 27, 0, 0, []),
  (41, .bipush (-12), 0, 0, (-12), []),
  (43, .ireturn, 0, 0, 0, []),
  (44, .aload_n 0, 0, 0, 0, []),
  (45, .getfield 49, 22, 12, 0, [0]),
  (48, .bipush 40, 0, 0, 40, []),
  (50, .iload_n 1, 1, 0, 0, []),
  (51, .imul, 0, 0, 0, []),
  (52, .iload_n 2, 2, 0, 0, []),
  (53, .iadd, 0, 0, 0, []),
  (54, .aload_n 0, 0, 0, 0, []),
  (55, .getfield 43, 20, 12, 0, [0]),
  (58, .iload_n 1, 1, 0, 0, []),
  (59, .iaload, 0, 0, 0, []),
  (60, .ifCond .ne 8, 42, 0, 0, []),
  (63, .iload_n 3, 3, 0, 0, []),
  (64, .i2b, 0, 0, 0, []),
  (65, .goto 19, 52, 0, 0, []),
  (68, .aload_n 0, 0, 0, 0, []),
  (69, .getfield 43, 20, 12, 0, [0]),
  (72, .iload_n 1, 1, 0, 0, []),
  (73, .iaload, 0, 0, 0, []),
  (74, .iconst 1, 0, 0, 1, []),
  (75, .if_icmp .ne 8, 51, 0, 0, []),
  (78, .iload_n 3, 3, 0, 0, []),
  (79, .i2s, 0, 0, 0, []),
  (80, .goto 4, 52, 0, 0, []),
  (83, .iload_n 3, 3, 0, 0, []),
  (84, .iastore, 0, 0, 0, []),
  (85, .iconst 1, 0, 0, 1, []),
  (86, .ireturn, 0, 0, 0, [])]
set_option maxRecDepth 100000 in
noncomputable def zc_X12_copy : List zE := [(0, .iload_n 1, 1, 0, 0, []),
  (1, .iconst 0, 0, 0, 0, []),
  (2, .iconst 3, 0, 0, 3, []),
  (3, .invokestatic 90, 136, 3, 0, []),
  (6, .ifCond .eq 12, 10, 0, 0, []),
  (9, .iload_n 3, 3, 0, 0, []),
  (10, .iconst 0, 0, 0, 0, []),
  (11, .iconst 3, 0, 0, 3, []),
  (12, .invokestatic 90, 136, 3, 0, []),
  (15, .ifCond .ne 6, 12, 0, 0, []),
  (18, .bipush (-2), 0, 0, (-2), []),
  (20, .ireturn, 0, 0, 0, []),
  (21, .aload_n 0, 0, 0, 0, []),
  (22, .getfield 43, 20, 12, 0, [0]),
  (25, .iload_n 1, 1, 0, 0, []),
  (26, .iaload, 0, 0, 0, []),
  (27, .iconst (-1), 0, 0, (-1), []),
  (28, .if_icmp .eq 13, 24, 0, 0, []),
  (31, .aload_n 0, 0, 0, 0, []),
  (32, .getfield 43, 20, 12, 0, [0]),
  (35, .iload_n 3, 3, 0, 0, []),
  (36, .iaload, 0, 0, 0, []),
  (37, .iconst (-1), 0, 0, (-1), []),
  (38, .if_icmp .ne 6, 26, 0, 0, []),
  (41, .bipush (-11), 0, 0, (-11), []),
  (43, .ireturn, 0, 0, 0, []),
  (44, .aload_n 0, 0, 0, 0, []),
  (45, .getfield 43, 20, 12, 0, [0]),
  (48, .iload_n 1, 1, 0, 0, []),
  (49, .iaload, 0, 0, 0, []),
  (50, .aload_n 0, 0, 0, 0, []),
  (51, .getfield 43, 20, 12, 0, [0]),
  (54, .iload_n 3, 3, 0, 0, []),
  (55, .iaload, 0, 0, 0, []),
  (56, .if_icmp .eq 6, 37, 0, 0, []),
  (59, .bipush (-13), 0, 0, (-13), []),
  (61, .ireturn, 0, 0, 0, []),
  (62, .iload 5, 5, 0, 0, []),
  (64, .ifCond .lt 60, 71, 0, 0, []),
  (67, .iload_n 2, 2, 0, 0, []),
  (68, .ifCond .lt 56, 71, 0, 0, []),
  (71, .iload 4, 4, 0, 0, []),
  (73, .ifCond .lt 51, 71, 0, 0, []),
  (76, .iload_n 2, 2, 0, 0, []),
  (77, .aload_n 0, 0, 0, 0, []),
  (78, .getfield 46, 21, 12, 0, [0]),
  (81, .iload_n 1, 1, 0, 0, []),
  (82, .iaload, 0, 0, 0, []),
  (83, .if_icmp .gt 41, 71, 0, 0, []),
  (86, .iload 4, 4, 0, 0, []),
  (88, .aload_n 0, 0, 0, 0, []),
  (89, .getfield 46, 21, 12, 0, [0]),
  (92, .iload_n 3, 3, 0, 0, []),
  (93, .iaload, 0, 0, 0, []),
  (94, .if_icmp .gt 30, 71, 0, 0, []),
  (97, .iload 5, 5, 0, 0, []),
  (99, .aload_n 0, 0, 0, 0, []),
  (100, .getfield 46, 21, 12, 0, [0]),
  (103, .iload_n 1, 1, 0, 0, []),
  (104, .iaload, 0, 0, 0, []),
  (105, .iload_n 2, 2, 0, 0, []),
  (106, .isub, 0, 0, 0, []),
  (107, .if_icmp .gt 17, 71, 0, 0, []),
  (110, .iload 5, 5, 0, 0, []),
  (112, .aload_n 0, 0, 0, 0, []),
  (113, .getfield 46, 21, 12, 0, [0]),
  (116, .iload_n 3, 3, 0, 0, []),
  (117, .iaload, 0, 0, 0, []),
  (118, .iload 4, 4, 0, 0, []),
  (120, .isub, 0, 0, 0, []),
  (121, .if_icmp .le 6, 73, 0, 0, []),
  (124, .bipush (-12), 0, 0, (-12), []),
  (126, .ireturn, 0, 0, 0, []),
  (127, .bipush 40, 0, 0, 40, []),
  (129, .iload_n 1, 1, 0, 0, []),
  (130, .imul, 0, 0, 0, []),
  (131, .iload_n 2, 2, 0, 0, []),
  (132, .iadd, 0, 0, 0, []),
  (133, .istore 6, 6, 0, 0, []),
  (135, .bipush 40, 0, 0, 40, []),
  (137, .iload_n 3, 3, 0, 0, []),
  (138, .imul, 0, 0, 0, []),
  (139, .iload 4, 4, 0, 0, []),
  (141, .iadd, 0, 0, 0, []),
  (142, .istore 7, 7, 0, 0, []),
  (144, .iconst 0, 0, 0, 0, []),
  (145, .istore 8, 8, 0, 0, []),
  (147, .iload 8, 8, 0, 0, []),
  (149, .iload 5, 5, 0, 0, []),
  (151, .if_icmp .ge 50, 115, 0, 0, []),
  (154, .iload 6, 6, 0, 0, []),
  (156, .iload 7, 7, 0, 0, []),
  (158, .if_icmp .ge 13, 99, 0, 0, []),
  (161, .iload 5, 5, 0, 0, []),
  (163, .iconst 1, 0, 0, 1, []),
  (164, .isub, 0, 0, 0, []),
  (165, .iload 8, 8, 0, 0, []),
  (167, .isub, 0, 0, 0, []),
  (168, .goto 5, 100, 0, 0, []),
  (171, .iload 8, 8, 0, 0, []),
  (173, .istore 9, 9, 0, 0, []),
  (175, .aload_n 0, 0, 0, 0, []),
  (176, .getfield 49, 22, 12, 0, [0]),
  (179, .iload 7, 7, 0, 0, []),
  (181, .iload 9, 9, 0, 0, []),
  (183, .iadd, 0, 0, 0, []),
  (184, .aload_n 0, 0, 0, 0, []),
  (185, .getfield 49, 22, 12, 0, [0]),
  (188, .iload 6, 6, 0, 0, []),
  (190, .iload 9, 9, 0, 0, []),
  (192, .iadd, 0, 0, 0, []),
  (193, .iaload, 0, 0, 0, []),
  (194, .iastore, 0, 0, 0, []),
  (195, .iinc 8 1, 8, 0, 1, []),
  (198, .goto (-51), 87, 0, 0, []),
  (201, .iload 5, 5, 0, 0, []),
  (203, .ireturn, 0, 0, 0, [])]
set_option maxRecDepth 100000 in
noncomputable def zc_X12_islandsBy : List zE := [(0, .iload_n 1, 1, 0, 0, []),
  (1, .iconst 0, 0, 0, 0, []),
  (2, .iconst 3, 0, 0, 3, []),
  (3, .invokestatic 90, 136, 3, 0, []),
  (6, .ifCond .eq 23, 15, 0, 0, []),
  (9, .iload_n 2, 2, 0, 0, []),
  (10, .iconst 0, 0, 0, 0, []),
  (11, .iconst 2, 0, 0, 2, []),
  (12, .invokestatic 90, 136, 3, 0, []),
  (15, .ifCond .eq 14, 15, 0, 0, []),
  (18, .iload 4, 4, 0, 0, []),
  (20, .iconst 0, 0, 0, 0, []),
  (21, .bipush 6, 0, 0, 6, []),
  (23, .invokestatic 90, 136, 3, 0, []),
  (26, .ifCond .ne 6, 17, 0, 0, []),
  (29, .bipush (-2), 0, 0, (-2), []),
  (31, .ireturn, 0, 0, 0, []),
  (32, .aload_n 0, 0, 0, 0, []),
  (33, .getfield 43, 20, 12, 0, [0]),
  (36, .iload_n 1, 1, 0, 0, []),
  (37, .iaload, 0, 0, 0, []),
  (38, .iconst (-1), 0, 0, (-1), []),
  (39, .if_icmp .ne 6, 25, 0, 0, []),
  (42, .bipush (-11), 0, 0, (-11), []),
  (44, .ireturn, 0, 0, 0, []),
  (45, .aload_n 0, 0, 0, 0, []),
  (46, .getfield 43, 20, 12, 0, [0]),
  (49, .iload_n 1, 1, 0, 0, []),
  (50, .iaload, 0, 0, 0, []),
  (51, .iload_n 2, 2, 0, 0, []),
  (52, .if_icmp .eq 6, 33, 0, 0, []),
  (55, .bipush (-13), 0, 0, (-13), []),
  (57, .ireturn, 0, 0, 0, []),
  (58, .iconst 0, 0, 0, 0, []),
  (59, .istore 5, 5, 0, 0, []),
  (61, .iconst 0, 0, 0, 0, []),
  (62, .istore 6, 6, 0, 0, []),
  (64, .iload 6, 6, 0, 0, []),
  (66, .iload 4, 4, 0, 0, []),
  (68, .if_icmp .ge 103, 100, 0, 0, []),
  (71, .iload_n 3, 3, 0, 0, []),
  (72, .iconst 4, 0, 0, 4, []),
  (73, .iload 6, 6, 0, 0, []),
  (75, .imul, 0, 0, 0, []),
  (76, .iadd, 0, 0, 0, []),
  (77, .istore 7, 7, 0, 0, []),
  (79, .iload_n 3, 3, 0, 0, []),
  (80, .ifCond .lt 22, 59, 0, 0, []),
  (83, .iload 7, 7, 0, 0, []),
  (85, .iload_n 3, 3, 0, 0, []),
  (86, .if_icmp .lt 16, 59, 0, 0, []),
  (89, .iload 7, 7, 0, 0, []),
  (91, .aload_n 0, 0, 0, 0, []),
  (92, .getfield 46, 21, 12, 0, [0]),
  (95, .iload_n 1, 1, 0, 0, []),
  (96, .iaload, 0, 0, 0, []),
  (97, .iconst 4, 0, 0, 4, []),
  (98, .isub, 0, 0, 0, []),
  (99, .if_icmp .le 6, 61, 0, 0, []),
  (102, .bipush (-12), 0, 0, (-12), []),
  (104, .ireturn, 0, 0, 0, []),
  (105, .bipush 40, 0, 0, 40, []),
  (107, .iload_n 1, 1, 0, 0, []),
  (108, .imul, 0, 0, 0, []),
  (109, .iload 7, 7, 0, 0, []),
  (111, .iadd, 0, 0, 0, []),
  (112, .istore 8, 8, 0, 0, []),
  (114, .iload 5, 5, 0, 0, []),
  (116, .aload_n 0, 0, 0, 0, []),
  (117, .aload_n 0, 0, 0, 0, []),
  (118, .getfield 49, 22, 12, 0, [0]),
  (121, .iload 8, 8, 0, 0, []),
  (123, .iaload, 0, 0, 0, []),
  (124, .aload_n 0, 0, 0, 0, []),
  (125, .getfield 49, 22, 12, 0, [0]),
  (128, .iload 8, 8, 0, 0, []),
  (130, .iconst 1, 0, 0, 1, []),
  (131, .iadd, 0, 0, 0, []),
  (132, .iaload, 0, 0, 0, []),
  (133, .aload_n 0, 0, 0, 0, []),
  (134, .getfield 49, 22, 12, 0, [0]),
  (137, .iload 8, 8, 0, 0, []),
  (139, .iconst 2, 0, 0, 2, []),
  (140, .iadd, 0, 0, 0, []),
  (141, .iaload, 0, 0, 0, []),
  (142, .aload_n 0, 0, 0, 0, []),
  (143, .getfield 49, 22, 12, 0, [0]),
  (146, .iload 8, 8, 0, 0, []),
  (148, .iconst 3, 0, 0, 3, []),
  (149, .iadd, 0, 0, 0, []),
  (150, .iaload, 0, 0, 0, []),
  (151, .invokevirtual 294, 165, 4, 0, [12]),
  (154, .ifCond .lt 7, 95, 0, 0, []),
  (157, .iconst 1, 0, 0, 1, []),
  (158, .goto 4, 96, 0, 0, []),
  (161, .iconst 0, 0, 0, 0, []),
  (162, .iadd, 0, 0, 0, []),
  (163, .istore 5, 5, 0, 0, []),
  (165, .iinc 6 1, 6, 0, 1, []),
  (168, .goto (-104), 37, 0, 0, []),
  (171, .iload 5, 5, 0, 0, []),
  (173, .ireturn, 0, 0, 0, [])]
set_option maxRecDepth 100000 in
noncomputable def zc_X12_isUnder : List zE := [(0, .iload_n 1, 1, 0, 0, []),
  (1, .ifCond .eq 28, 17, 0, 0, []),
  (4, .iload_n 0, 0, 0, 0, []),
  (5, .iload_n 1, 1, 0, 0, []),
  (6, .if_icmp .eq 23, 17, 0, 0, []),
  (9, .iload_n 1, 1, 0, 0, []),
  (10, .iconst 1, 0, 0, 1, []),
  (11, .if_icmp .ne 8, 11, 0, 0, []),
  (14, .iload_n 0, 0, 0, 0, []),
  (15, .iconst 3, 0, 0, 3, []),
  (16, .if_icmp .eq 13, 17, 0, 0, []),
  (19, .iload_n 1, 1, 0, 0, []),
  (20, .iconst 2, 0, 0, 2, []),
  (21, .if_icmp .ne 12, 19, 0, 0, []),
  (24, .iload_n 0, 0, 0, 0, []),
  (25, .iconst 4, 0, 0, 4, []),
  (26, .if_icmp .ne 7, 19, 0, 0, []),
  (29, .iconst 1, 0, 0, 1, []),
  (30, .goto 4, 20, 0, 0, []),
  (33, .iconst 0, 0, 0, 0, []),
  (34, .ireturn, 0, 0, 0, [2])]
set_option maxRecDepth 100000 in
noncomputable def zc_X12_taken : List zE := [(0, .iload_n 2, 2, 0, 0, []),
  (1, .iconst 0, 0, 0, 0, []),
  (2, .bipush 6, 0, 0, 6, []),
  (4, .invokestatic 90, 136, 3, 0, []),
  (7, .ifCond .ne 6, 7, 0, 0, []),
  (10, .bipush (-2), 0, 0, (-2), []),
  (12, .ireturn, 0, 0, 0, []),
  (13, .iload_n 1, 1, 0, 0, []),
  (14, .iconst 0, 0, 0, 0, []),
  (15, .bipush 17, 0, 0, 17, []),
  (17, .invokestatic 90, 136, 3, 0, []),
  (20, .ifCond .ne 6, 14, 0, 0, []),
  (23, .bipush (-12), 0, 0, (-12), []),
  (25, .ireturn, 0, 0, 0, []),
  (26, .iload_n 1, 1, 0, 0, []),
  (27, .bipush 12, 0, 0, 12, []),
  (29, .if_icmp .ge 35, 34, 0, 0, []),
  (32, .aload_n 0, 0, 0, 0, []),
  (33, .getfield 7, 0, 12, 0, [0]),
  (36, .iload_n 1, 1, 0, 0, []),
  (37, .iaload, 0, 0, 0, []),
  (38, .ifCond .ne 8, 24, 0, 0, []),
  (41, .bipush (-11), 0, 0, (-11), []),
  (43, .goto 20, 33, 0, 0, []),
  (46, .iload_n 2, 2, 0, 0, []),
  (47, .bipush 6, 0, 0, 6, []),
  (49, .if_icmp .ne 12, 32, 0, 0, []),
  (52, .aload_n 0, 0, 0, 0, []),
  (53, .getfield 7, 0, 12, 0, [0]),
  (56, .iload_n 1, 1, 0, 0, []),
  (57, .iaload, 0, 0, 0, []),
  (58, .goto 5, 33, 0, 0, []),
  (61, .bipush (-13), 0, 0, (-13), []),
  (63, .ireturn, 0, 0, 0, []),
  (64, .iload_n 1, 1, 0, 0, []),
  (65, .bipush 12, 0, 0, 12, []),
  (67, .isub, 0, 0, 0, []),
  (68, .aload_n 0, 0, 0, 0, []),
  (69, .getfield 94, 1, 12, 0, []),
  (72, .if_icmp .lt 8, 42, 0, 0, []),
  (75, .bipush (-11), 0, 0, (-11), []),
  (77, .goto 34, 59, 0, 0, []),
  (80, .iload_n 2, 2, 0, 0, []),
  (81, .bipush 6, 0, 0, 6, []),
  (83, .if_icmp .ge 26, 58, 0, 0, []),
  (86, .aload_n 0, 0, 0, 0, []),
  (87, .getfield 13, 2, 12, 0, [0]),
  (90, .iload_n 1, 1, 0, 0, []),
  (91, .bipush 12, 0, 0, 12, []),
  (93, .isub, 0, 0, 0, []),
  (94, .iaload, 0, 0, 0, []),
  (95, .iload_n 2, 2, 0, 0, []),
  (96, .invokestatic 298, 222, 2, 0, []),
  (99, .ifCond .eq 10, 58, 0, 0, []),
  (102, .iload_n 1, 1, 0, 0, []),
  (103, .bipush 12, 0, 0, 12, []),
  (105, .isub, 0, 0, 0, []),
  (106, .goto 5, 59, 0, 0, []),
  (109, .bipush (-13), 0, 0, (-13), []),
  (111, .ireturn, 0, 0, 0, [])]
set_option maxRecDepth 100000 in
noncomputable def zc_J7_fill_53178 : List zE := [(0, .iconst 0, 0, 0, 0, []),
  (1, .istore_n 2, 2, 0, 0, []),
  (2, .aload_n 0, 0, 0, 0, []),
  (3, .arraylength, 0, 0, 0, []),
  (4, .istore_n 3, 3, 0, 0, []),
  (5, .iload_n 2, 2, 0, 0, []),
  (6, .iload_n 3, 3, 0, 0, []),
  (7, .if_icmp .ge 13, 14, 0, 0, []),
  (10, .aload_n 0, 0, 0, 0, []),
  (11, .iload_n 2, 2, 0, 0, []),
  (12, .iload_n 1, 1, 0, 0, []),
  (13, .iastore, 0, 0, 0, []),
  (14, .iinc 2 1, 2, 0, 1, []),
  (17, .goto (-12), 5, 0, 0, []),
  (20, .return_, 0, 0, 0, [])]
set_option maxRecDepth 100000 in
noncomputable def zc_J6_numberOfTrailingZeros_0f7a4 : List zE := [(0, .iload_n 0, 0, 0, 0, []),
  (1, .iconst (-1), 0, 0, (-1), []),
  (2, .ixor, 0, 0, 0, []),
  (3, .iload_n 0, 0, 0, 0, []),
  (4, .iconst 1, 0, 0, 1, []),
  (5, .isub, 0, 0, 0, []),
  (6, .iand, 0, 0, 0, []),
  (7, .istore_n 0, 0, 0, 0, []),
  (8, .iload_n 0, 0, 0, 0, []),
  (9, .ifCond .gt 8, 14, 0, 0, []),
  (12, .iload_n 0, 0, 0, 0, []),
  (13, .bipush 32, 0, 0, 32, []),
  (15, .iand, 0, 0, 0, []),
  (16, .ireturn, 0, 0, 0, []),
  (17, .iconst 1, 0, 0, 1, []),
  (18, .istore_n 1, 1, 0, 0, []),
  (19, .iload_n 0, 0, 0, 0, []),
  (20, .ldc_w 264, 0, 0, 65536, []),
  (23, .if_icmp .le 11, 24, 0, 0, []),
  (26, .iinc 1 16, 1, 0, 16, []),
  (29, .iload_n 0, 0, 0, 0, []),
  (30, .bipush 16, 0, 0, 16, []),
  (32, .iushr, 0, 0, 0, []),
  (33, .istore_n 0, 0, 0, 0, []),
  (34, .iload_n 0, 0, 0, 0, []),
  (35, .sipush 256, 0, 0, 256, []),
  (38, .if_icmp .le 11, 32, 0, 0, []),
  (41, .iinc 1 8, 1, 0, 8, []),
  (44, .iload_n 0, 0, 0, 0, []),
  (45, .bipush 8, 0, 0, 8, []),
  (47, .iushr, 0, 0, 0, []),
  (48, .istore_n 0, 0, 0, 0, []),
  (49, .iload_n 0, 0, 0, 0, []),
  (50, .bipush 16, 0, 0, 16, []),
  (52, .if_icmp .le 10, 40, 0, 0, []),
  (55, .iinc 1 4, 1, 0, 4, []),
  (58, .iload_n 0, 0, 0, 0, []),
  (59, .iconst 4, 0, 0, 4, []),
  (60, .iushr, 0, 0, 0, []),
  (61, .istore_n 0, 0, 0, 0, []),
  (62, .iload_n 0, 0, 0, 0, []),
  (63, .iconst 4, 0, 0, 4, []),
  (64, .if_icmp .le 10, 48, 0, 0, []),
  (67, .iinc 1 2, 1, 0, 2, []),
  (70, .iload_n 0, 0, 0, 0, []),
  (71, .iconst 2, 0, 0, 2, []),
  (72, .iushr, 0, 0, 0, []),
  (73, .istore_n 0, 0, 0, 0, []),
  (74, .iload_n 1, 1, 0, 0, []),
  (75, .iload_n 0, 0, 0, 0, []),
  (76, .iconst 1, 0, 0, 1, []),
  (77, .iushr, 0, 0, 0, []),
  (78, .iadd, 0, 0, 0, []),
  (79, .ireturn, 0, 0, 0, [])]
set_option maxRecDepth 100000 in
noncomputable def zc_J7_copyOf_59c91 : List zE := [(0, .iload_n 1, 1, 0, 0, []),
  (1, .aload_n 0, 0, 0, 0, []),
  (2, .arraylength, 0, 0, 0, []),
  (3, .if_icmp .ne 11, 8, 0, 0, []),
  (6, .aload_n 0, 0, 0, 0, []),
  (7, .invokevirtual 316, 0, 0, 0, [99]),
  (10, .checkcast 317, 0, 0, 0, []),
  (13, .areturn, 0, 0, 0, []),
  (14, .iload_n 1, 1, 0, 0, []),
  (15, .newarray .int, 20, 0, 0, []),
  (17, .astore_n 2, 2, 0, 0, []),
  (18, .aload_n 0, 0, 0, 0, []),
  (19, .iconst 0, 0, 0, 0, []),
  (20, .aload_n 2, 2, 0, 0, []),
  (21, .iconst 0, 0, 0, 0, []),
  (22, .aload_n 0, 0, 0, 0, []),
  (23, .arraylength, 0, 0, 0, []),
  (24, .iload_n 1, 1, 0, 0, []),
  (25, .invokestatic 304, 0, 0, 0, [1]),
  (28, .invokestatic 150, 0, 0, 0, [4]),
  (31, .aload_n 2, 2, 0, 0, []),
  (32, .areturn, 0, 0, 0, [])]
set_option maxRecDepth 100000 in
noncomputable def zc_L_law : List zE := [(0, .new 7, 11, 13, 0, []),
  (3, .dup, 0, 0, 0, []),
  (4, .invokespecial 9, 64, 0, 0, [11]),
  (7, .astore_n 1, 1, 0, 0, []),
  (8, .new 10, 12, 41, 0, []),
  (11, .dup, 0, 0, 0, []),
  (12, .invokespecial 12, 135, 0, 0, [12]),
  (15, .astore_n 2, 2, 0, 0, []),
  (16, .iconst 0, 0, 0, 0, []),
  (17, .istore_n 3, 3, 0, 0, []),
  (18, .iload_n 3, 3, 0, 0, []),
  (19, .aload_n 0, 0, 0, 0, []),
  (20, .arraylength, 0, 0, 0, []),
  (21, .bipush 7, 0, 0, 7, []),
  (23, .isub, 0, 0, 0, []),
  (24, .if_icmp .gt 1814, 1376, 0, 0, []),
  (27, .aload_n 0, 0, 0, 0, []),
  (28, .iload_n 3, 3, 0, 0, []),
  (29, .iaload, 0, 0, 0, []),
  (30, .bipush 63, 0, 0, 63, []),
  (32, .iand, 0, 0, 0, []),
  (33, .tableswitch 1799 0 42 #[187, 220, 243, 256, 299, 332, 355, 430, 443, 466, 529, 582, 615, 658, 691, 724, 757, 790, 823, 866, 889, 912, 945, 988, 1031, 1074, 1127, 1170, 1193, 1236, 1269, 1292, 1345, 1378, 1421, 1474, 1538, 1551, 1564, 1607, 1650, 1713, 1766], 1374, 187, 0, [22, 49, 66, 73, 110, 137, 154, 221, 228, 245, 302, 349, 376, 413, 440, 467, 494, 521, 548, 585, 602, 619, 646, 683, 720, 757, 804, 841, 858, 895, 922, 939, 986, 1013, 1050, 1097, 1155, 1162, 1169, 1206, 1243, 1300, 1347]),
  (220, .aload_n 1, 1, 0, 0, []),
  (221, .aload_n 0, 0, 0, 0, []),
  (222, .iload_n 3, 3, 0, 0, []),
  (223, .iconst 1, 0, 0, 1, []),
  (224, .iadd, 0, 0, 0, []),
  (225, .iaload, 0, 0, 0, []),
  (226, .aload_n 0, 0, 0, 0, []),
  (227, .iload_n 3, 3, 0, 0, []),
  (228, .iconst 2, 0, 0, 2, []),
  (229, .iadd, 0, 0, 0, []),
  (230, .iaload, 0, 0, 0, []),
  (231, .invokevirtual 13, 65, 2, 0, [11]),
  (234, .aload_n 2, 2, 0, 0, []),
  (235, .aload_n 0, 0, 0, 0, []),
  (236, .iload_n 3, 3, 0, 0, []),
  (237, .iconst 1, 0, 0, 1, []),
  (238, .iadd, 0, 0, 0, []),
  (239, .iaload, 0, 0, 0, []),
  (240, .aload_n 0, 0, 0, 0, []),
  (241, .iload_n 3, 3, 0, 0, []),
  (242, .iconst 2, 0, 0, 2, []),
  (243, .iadd, 0, 0, 0, []),
  (244, .iaload, 0, 0, 0, []),
  (245, .invokevirtual 17, 141, 2, 0, [12]),
  (248, .if_icmp .eq 1584, 1374, 0, 0, []),
  (251, .iconst 0, 0, 0, 0, []),
  (252, .ireturn, 0, 0, 0, [2]),
  (253, .aload_n 1, 1, 0, 0, []),
  (254, .aload_n 0, 0, 0, 0, []),
  (255, .iload_n 3, 3, 0, 0, []),
  (256, .iconst 1, 0, 0, 1, []),
  (257, .iadd, 0, 0, 0, []),
  (258, .iaload, 0, 0, 0, []),
  (259, .invokevirtual 18, 66, 1, 0, [11]),
  (262, .aload_n 2, 2, 0, 0, []),
  (263, .aload_n 0, 0, 0, 0, []),
  (264, .iload_n 3, 3, 0, 0, []),
  (265, .iconst 1, 0, 0, 1, []),
  (266, .iadd, 0, 0, 0, []),
  (267, .iaload, 0, 0, 0, []),
  (268, .invokevirtual 22, 142, 1, 0, [12]),
  (271, .if_icmp .eq 1561, 1374, 0, 0, []),
  (274, .iconst 0, 0, 0, 0, []),
  (275, .ireturn, 0, 0, 0, [2]),
  (276, .aload_n 1, 1, 0, 0, []),
  (277, .invokevirtual 23, 67, 0, 0, [11]),
  (280, .aload_n 2, 2, 0, 0, []),
  (281, .invokevirtual 27, 143, 0, 0, [12]),
  (284, .if_icmp .eq 1548, 1374, 0, 0, []),
  (287, .iconst 0, 0, 0, 0, []),
  (288, .ireturn, 0, 0, 0, [2]),
  (289, .aload_n 1, 1, 0, 0, []),
  (290, .aload_n 0, 0, 0, 0, []),
  (291, .iload_n 3, 3, 0, 0, []),
  (292, .iconst 1, 0, 0, 1, []),
  (293, .iadd, 0, 0, 0, []),
  (294, .iaload, 0, 0, 0, []),
  (295, .aload_n 0, 0, 0, 0, []),
  (296, .iload_n 3, 3, 0, 0, []),
  (297, .iconst 2, 0, 0, 2, []),
  (298, .iadd, 0, 0, 0, []),
  (299, .iaload, 0, 0, 0, []),
  (300, .aload_n 0, 0, 0, 0, []),
  (301, .iload_n 3, 3, 0, 0, []),
  (302, .iconst 3, 0, 0, 3, []),
  (303, .iadd, 0, 0, 0, []),
  (304, .iaload, 0, 0, 0, []),
  (305, .invokevirtual 28, 68, 3, 0, [11]),
  (308, .aload_n 2, 2, 0, 0, []),
  (309, .aload_n 0, 0, 0, 0, []),
  (310, .iload_n 3, 3, 0, 0, []),
  (311, .iconst 1, 0, 0, 1, []),
  (312, .iadd, 0, 0, 0, []),
  (313, .iaload, 0, 0, 0, []),
  (314, .aload_n 0, 0, 0, 0, []),
  (315, .iload_n 3, 3, 0, 0, []),
  (316, .iconst 2, 0, 0, 2, []),
  (317, .iadd, 0, 0, 0, []),
  (318, .iaload, 0, 0, 0, []),
  (319, .aload_n 0, 0, 0, 0, []),
  (320, .iload_n 3, 3, 0, 0, []),
  (321, .iconst 3, 0, 0, 3, []),
  (322, .iadd, 0, 0, 0, []),
  (323, .iaload, 0, 0, 0, []),
  (324, .invokevirtual 32, 144, 3, 0, [12]),
  (327, .if_icmp .eq 1505, 1374, 0, 0, []),
  (330, .iconst 0, 0, 0, 0, []),
  (331, .ireturn, 0, 0, 0, [2]),
  (332, .aload_n 1, 1, 0, 0, []),
  (333, .aload_n 0, 0, 0, 0, []),
  (334, .iload_n 3, 3, 0, 0, []),
  (335, .iconst 1, 0, 0, 1, []),
  (336, .iadd, 0, 0, 0, []),
  (337, .iaload, 0, 0, 0, []),
  (338, .aload_n 0, 0, 0, 0, []),
  (339, .iload_n 3, 3, 0, 0, []),
  (340, .iconst 2, 0, 0, 2, []),
  (341, .iadd, 0, 0, 0, []),
  (342, .iaload, 0, 0, 0, []),
  (343, .invokevirtual 33, 69, 2, 0, [11]),
  (346, .aload_n 2, 2, 0, 0, []),
  (347, .aload_n 0, 0, 0, 0, []),
  (348, .iload_n 3, 3, 0, 0, []),
  (349, .iconst 1, 0, 0, 1, []),
  (350, .iadd, 0, 0, 0, []),
  (351, .iaload, 0, 0, 0, []),
  (352, .aload_n 0, 0, 0, 0, []),
  (353, .iload_n 3, 3, 0, 0, []),
  (354, .iconst 2, 0, 0, 2, []),
  (355, .iadd, 0, 0, 0, []),
  (356, .iaload, 0, 0, 0, []),
  (357, .invokevirtual 36, 145, 2, 0, [12]),
  (360, .if_icmp .eq 1472, 1374, 0, 0, []),
  (363, .iconst 0, 0, 0, 0, []),
  (364, .ireturn, 0, 0, 0, [2]),
  (365, .aload_n 1, 1, 0, 0, []),
  (366, .aload_n 0, 0, 0, 0, []),
  (367, .iload_n 3, 3, 0, 0, []),
  (368, .iconst 1, 0, 0, 1, []),
  (369, .iadd, 0, 0, 0, []),
  (370, .iaload, 0, 0, 0, []),
  (371, .invokevirtual 37, 70, 1, 0, [11]),
  (374, .aload_n 2, 2, 0, 0, []),
  (375, .aload_n 0, 0, 0, 0, []),
  (376, .iload_n 3, 3, 0, 0, []),
  (377, .iconst 1, 0, 0, 1, []),
  (378, .iadd, 0, 0, 0, []),
  (379, .iaload, 0, 0, 0, []),
  (380, .invokevirtual 40, 146, 1, 0, [12]),
  (383, .if_icmp .eq 1449, 1374, 0, 0, []),
  (386, .iconst 0, 0, 0, 0, []),
  (387, .ireturn, 0, 0, 0, [2]),
  (388, .aload_n 1, 1, 0, 0, []),
  (389, .aload_n 0, 0, 0, 0, []),
  (390, .iload_n 3, 3, 0, 0, []),
  (391, .iconst 1, 0, 0, 1, []),
  (392, .iadd, 0, 0, 0, []),
  (393, .iaload, 0, 0, 0, []),
  (394, .aload_n 0, 0, 0, 0, []),
  (395, .iload_n 3, 3, 0, 0, []),
  (396, .iconst 2, 0, 0, 2, []),
  (397, .iadd, 0, 0, 0, []),
  (398, .iaload, 0, 0, 0, []),
  (399, .aload_n 0, 0, 0, 0, []),
  (400, .iload_n 3, 3, 0, 0, []),
  (401, .iconst 3, 0, 0, 3, []),
  (402, .iadd, 0, 0, 0, []),
  (403, .iaload, 0, 0, 0, []),
  (404, .aload_n 0, 0, 0, 0, []),
  (405, .iload_n 3, 3, 0, 0, []),
  (406, .iconst 4, 0, 0, 4, []),
  (407, .iadd, 0, 0, 0, []),
  (408, .iaload, 0, 0, 0, []),
  (409, .aload_n 0, 0, 0, 0, []),
  (410, .iload_n 3, 3, 0, 0, []),
  (411, .iconst 5, 0, 0, 5, []),
  (412, .iadd, 0, 0, 0, []),
  (413, .iaload, 0, 0, 0, []),
  (414, .aload_n 0, 0, 0, 0, []),
  (415, .iload_n 3, 3, 0, 0, []),
  (416, .bipush 6, 0, 0, 6, []),
  (418, .iadd, 0, 0, 0, []),
  (419, .iaload, 0, 0, 0, []),
  (420, .invokevirtual 41, 71, 6, 0, [11]),
  (423, .aload_n 2, 2, 0, 0, []),
  (424, .aload_n 0, 0, 0, 0, []),
  (425, .iload_n 3, 3, 0, 0, []),
  (426, .iconst 1, 0, 0, 1, []),
  (427, .iadd, 0, 0, 0, []),
  (428, .iaload, 0, 0, 0, []),
  (429, .aload_n 0, 0, 0, 0, []),
  (430, .iload_n 3, 3, 0, 0, []),
  (431, .iconst 2, 0, 0, 2, []),
  (432, .iadd, 0, 0, 0, []),
  (433, .iaload, 0, 0, 0, []),
  (434, .aload_n 0, 0, 0, 0, []),
  (435, .iload_n 3, 3, 0, 0, []),
  (436, .iconst 3, 0, 0, 3, []),
  (437, .iadd, 0, 0, 0, []),
  (438, .iaload, 0, 0, 0, []),
  (439, .aload_n 0, 0, 0, 0, []),
  (440, .iload_n 3, 3, 0, 0, []),
  (441, .iconst 4, 0, 0, 4, []),
  (442, .iadd, 0, 0, 0, []),
  (443, .iaload, 0, 0, 0, []),
  (444, .aload_n 0, 0, 0, 0, []),
  (445, .iload_n 3, 3, 0, 0, []),
  (446, .iconst 5, 0, 0, 5, []),
  (447, .iadd, 0, 0, 0, []),
  (448, .iaload, 0, 0, 0, []),
  (449, .aload_n 0, 0, 0, 0, []),
  (450, .iload_n 3, 3, 0, 0, []),
  (451, .bipush 6, 0, 0, 6, []),
  (453, .iadd, 0, 0, 0, []),
  (454, .iaload, 0, 0, 0, []),
  (455, .invokevirtual 45, 148, 6, 0, [12]),
  (458, .if_icmp .eq 1374, 1374, 0, 0, []),
  (461, .iconst 0, 0, 0, 0, []),
  (462, .ireturn, 0, 0, 0, [2]),
  (463, .aload_n 1, 1, 0, 0, []),
  (464, .invokevirtual 46, 72, 0, 0, [11]),
  (467, .aload_n 2, 2, 0, 0, []),
  (468, .invokevirtual 49, 159, 0, 0, [12]),
  (471, .if_icmp .eq 1361, 1374, 0, 0, []),
  (474, .iconst 0, 0, 0, 0, []),
  (475, .ireturn, 0, 0, 0, [2]),
  (476, .aload_n 1, 1, 0, 0, []),
  (477, .aload_n 0, 0, 0, 0, []),
  (478, .iload_n 3, 3, 0, 0, []),
  (479, .iconst 1, 0, 0, 1, []),
  (480, .iadd, 0, 0, 0, []),
  (481, .iaload, 0, 0, 0, []),
  (482, .invokevirtual 50, 73, 1, 0, [11]),
  (485, .aload_n 2, 2, 0, 0, []),
  (486, .aload_n 0, 0, 0, 0, []),
  (487, .iload_n 3, 3, 0, 0, []),
  (488, .iconst 1, 0, 0, 1, []),
  (489, .iadd, 0, 0, 0, []),
  (490, .iaload, 0, 0, 0, []),
  (491, .invokevirtual 53, 162, 1, 0, [12]),
  (494, .if_icmp .eq 1338, 1374, 0, 0, []),
  (497, .iconst 0, 0, 0, 0, []),
  (498, .ireturn, 0, 0, 0, [2]),
  (499, .aload_n 1, 1, 0, 0, []),
  (500, .aload_n 0, 0, 0, 0, []),
  (501, .iload_n 3, 3, 0, 0, []),
  (502, .iconst 1, 0, 0, 1, []),
  (503, .iadd, 0, 0, 0, []),
  (504, .iaload, 0, 0, 0, []),
  (505, .aload_n 0, 0, 0, 0, []),
  (506, .iload_n 3, 3, 0, 0, []),
  (507, .iconst 2, 0, 0, 2, []),
  (508, .iadd, 0, 0, 0, []),
  (509, .iaload, 0, 0, 0, []),
  (510, .aload_n 0, 0, 0, 0, []),
  (511, .iload_n 3, 3, 0, 0, []),
  (512, .iconst 3, 0, 0, 3, []),
  (513, .iadd, 0, 0, 0, []),
  (514, .iaload, 0, 0, 0, []),
  (515, .aload_n 0, 0, 0, 0, []),
  (516, .iload_n 3, 3, 0, 0, []),
  (517, .iconst 4, 0, 0, 4, []),
  (518, .iadd, 0, 0, 0, []),
  (519, .iaload, 0, 0, 0, []),
  (520, .aload_n 0, 0, 0, 0, []),
  (521, .iload_n 3, 3, 0, 0, []),
  (522, .iconst 5, 0, 0, 5, []),
  (523, .iadd, 0, 0, 0, []),
  (524, .iaload, 0, 0, 0, []),
  (525, .invokevirtual 54, 74, 5, 0, [11]),
  (528, .aload_n 2, 2, 0, 0, []),
  (529, .aload_n 0, 0, 0, 0, []),
  (530, .iload_n 3, 3, 0, 0, []),
  (531, .iconst 1, 0, 0, 1, []),
  (532, .iadd, 0, 0, 0, []),
  (533, .iaload, 0, 0, 0, []),
  (534, .aload_n 0, 0, 0, 0, []),
  (535, .iload_n 3, 3, 0, 0, []),
  (536, .iconst 2, 0, 0, 2, []),
  (537, .iadd, 0, 0, 0, []),
  (538, .iaload, 0, 0, 0, []),
  (539, .aload_n 0, 0, 0, 0, []),
  (540, .iload_n 3, 3, 0, 0, []),
  (541, .iconst 3, 0, 0, 3, []),
  (542, .iadd, 0, 0, 0, []),
  (543, .iaload, 0, 0, 0, []),
  (544, .aload_n 0, 0, 0, 0, []),
  (545, .iload_n 3, 3, 0, 0, []),
  (546, .iconst 4, 0, 0, 4, []),
  (547, .iadd, 0, 0, 0, []),
  (548, .iaload, 0, 0, 0, []),
  (549, .aload_n 0, 0, 0, 0, []),
  (550, .iload_n 3, 3, 0, 0, []),
  (551, .iconst 5, 0, 0, 5, []),
  (552, .iadd, 0, 0, 0, []),
  (553, .iaload, 0, 0, 0, []),
  (554, .invokevirtual 58, 164, 5, 0, [12]),
  (557, .if_icmp .eq 1275, 1374, 0, 0, []),
  (560, .iconst 0, 0, 0, 0, []),
  (561, .ireturn, 0, 0, 0, [2]),
  (562, .aload_n 1, 1, 0, 0, []),
  (563, .aload_n 0, 0, 0, 0, []),
  (564, .iload_n 3, 3, 0, 0, []),
  (565, .iconst 1, 0, 0, 1, []),
  (566, .iadd, 0, 0, 0, []),
  (567, .iaload, 0, 0, 0, []),
  (568, .aload_n 0, 0, 0, 0, []),
  (569, .iload_n 3, 3, 0, 0, []),
  (570, .iconst 2, 0, 0, 2, []),
  (571, .iadd, 0, 0, 0, []),
  (572, .iaload, 0, 0, 0, []),
  (573, .aload_n 0, 0, 0, 0, []),
  (574, .iload_n 3, 3, 0, 0, []),
  (575, .iconst 3, 0, 0, 3, []),
  (576, .iadd, 0, 0, 0, []),
  (577, .iaload, 0, 0, 0, []),
  (578, .aload_n 0, 0, 0, 0, []),
  (579, .iload_n 3, 3, 0, 0, []),
  (580, .iconst 4, 0, 0, 4, []),
  (581, .iadd, 0, 0, 0, []),
  (582, .iaload, 0, 0, 0, []),
  (583, .invokevirtual 59, 75, 4, 0, [11]),
  (586, .aload_n 2, 2, 0, 0, []),
  (587, .aload_n 0, 0, 0, 0, []),
  (588, .iload_n 3, 3, 0, 0, []),
  (589, .iconst 1, 0, 0, 1, []),
  (590, .iadd, 0, 0, 0, []),
  (591, .iaload, 0, 0, 0, []),
  (592, .aload_n 0, 0, 0, 0, []),
  (593, .iload_n 3, 3, 0, 0, []),
  (594, .iconst 2, 0, 0, 2, []),
  (595, .iadd, 0, 0, 0, []),
  (596, .iaload, 0, 0, 0, []),
  (597, .aload_n 0, 0, 0, 0, []),
  (598, .iload_n 3, 3, 0, 0, []),
  (599, .iconst 3, 0, 0, 3, []),
  (600, .iadd, 0, 0, 0, []),
  (601, .iaload, 0, 0, 0, []),
  (602, .aload_n 0, 0, 0, 0, []),
  (603, .iload_n 3, 3, 0, 0, []),
  (604, .iconst 4, 0, 0, 4, []),
  (605, .iadd, 0, 0, 0, []),
  (606, .iaload, 0, 0, 0, []),
  (607, .invokevirtual 63, 165, 4, 0, [12]),
  (610, .if_icmp .eq 1222, 1374, 0, 0, []),
  (613, .iconst 0, 0, 0, 0, []),
  (614, .ireturn, 0, 0, 0, [2]),
  (615, .aload_n 1, 1, 0, 0, []),
  (616, .aload_n 0, 0, 0, 0, []),
  (617, .iload_n 3, 3, 0, 0, []),
  (618, .iconst 1, 0, 0, 1, []),
  (619, .iadd, 0, 0, 0, []),
  (620, .iaload, 0, 0, 0, []),
  (621, .aload_n 0, 0, 0, 0, []),
  (622, .iload_n 3, 3, 0, 0, []),
  (623, .iconst 2, 0, 0, 2, []),
  (624, .iadd, 0, 0, 0, []),
  (625, .iaload, 0, 0, 0, []),
  (626, .invokevirtual 64, 76, 2, 0, [11]),
  (629, .aload_n 2, 2, 0, 0, []),
  (630, .aload_n 0, 0, 0, 0, []),
  (631, .iload_n 3, 3, 0, 0, []),
  (632, .iconst 1, 0, 0, 1, []),
  (633, .iadd, 0, 0, 0, []),
  (634, .iaload, 0, 0, 0, []),
  (635, .aload_n 0, 0, 0, 0, []),
  (636, .iload_n 3, 3, 0, 0, []),
  (637, .iconst 2, 0, 0, 2, []),
  (638, .iadd, 0, 0, 0, []),
  (639, .iaload, 0, 0, 0, []),
  (640, .invokevirtual 67, 166, 2, 0, [12]),
  (643, .if_icmp .eq 1189, 1374, 0, 0, []),
  (646, .iconst 0, 0, 0, 0, []),
  (647, .ireturn, 0, 0, 0, [2]),
  (648, .aload_n 1, 1, 0, 0, []),
  (649, .aload_n 0, 0, 0, 0, []),
  (650, .iload_n 3, 3, 0, 0, []),
  (651, .iconst 1, 0, 0, 1, []),
  (652, .iadd, 0, 0, 0, []),
  (653, .iaload, 0, 0, 0, []),
  (654, .aload_n 0, 0, 0, 0, []),
  (655, .iload_n 3, 3, 0, 0, []),
  (656, .iconst 2, 0, 0, 2, []),
  (657, .iadd, 0, 0, 0, []),
  (658, .iaload, 0, 0, 0, []),
  (659, .aload_n 0, 0, 0, 0, []),
  (660, .iload_n 3, 3, 0, 0, []),
  (661, .iconst 3, 0, 0, 3, []),
  (662, .iadd, 0, 0, 0, []),
  (663, .iaload, 0, 0, 0, []),
  (664, .invokevirtual 68, 77, 3, 0, [11]),
  (667, .aload_n 2, 2, 0, 0, []),
  (668, .aload_n 0, 0, 0, 0, []),
  (669, .iload_n 3, 3, 0, 0, []),
  (670, .iconst 1, 0, 0, 1, []),
  (671, .iadd, 0, 0, 0, []),
  (672, .iaload, 0, 0, 0, []),
  (673, .aload_n 0, 0, 0, 0, []),
  (674, .iload_n 3, 3, 0, 0, []),
  (675, .iconst 2, 0, 0, 2, []),
  (676, .iadd, 0, 0, 0, []),
  (677, .iaload, 0, 0, 0, []),
  (678, .aload_n 0, 0, 0, 0, []),
  (679, .iload_n 3, 3, 0, 0, []),
  (680, .iconst 3, 0, 0, 3, []),
  (681, .iadd, 0, 0, 0, []),
  (682, .iaload, 0, 0, 0, []),
  (683, .invokevirtual 71, 171, 3, 0, [12]),
  (686, .if_icmp .eq 1146, 1374, 0, 0, []),
  (689, .iconst 0, 0, 0, 0, []),
  (690, .ireturn, 0, 0, 0, [2]),
  (691, .aload_n 1, 1, 0, 0, []),
  (692, .aload_n 0, 0, 0, 0, []),
  (693, .iload_n 3, 3, 0, 0, []),
  (694, .iconst 1, 0, 0, 1, []),
  (695, .iadd, 0, 0, 0, []),
  (696, .iaload, 0, 0, 0, []),
  (697, .aload_n 0, 0, 0, 0, []),
  (698, .iload_n 3, 3, 0, 0, []),
  (699, .iconst 2, 0, 0, 2, []),
  (700, .iadd, 0, 0, 0, []),
  (701, .iaload, 0, 0, 0, []),
  (702, .invokevirtual 72, 78, 2, 0, [11]),
  (705, .aload_n 2, 2, 0, 0, []),
  (706, .aload_n 0, 0, 0, 0, []),
  (707, .iload_n 3, 3, 0, 0, []),
  (708, .iconst 1, 0, 0, 1, []),
  (709, .iadd, 0, 0, 0, []),
  (710, .iaload, 0, 0, 0, []),
  (711, .aload_n 0, 0, 0, 0, []),
  (712, .iload_n 3, 3, 0, 0, []),
  (713, .iconst 2, 0, 0, 2, []),
  (714, .iadd, 0, 0, 0, []),
  (715, .iaload, 0, 0, 0, []),
  (716, .invokevirtual 75, 172, 2, 0, [12]),
  (719, .if_icmp .eq 1113, 1374, 0, 0, []),
  (722, .iconst 0, 0, 0, 0, []),
  (723, .ireturn, 0, 0, 0, [2]),
  (724, .aload_n 1, 1, 0, 0, []),
  (725, .aload_n 0, 0, 0, 0, []),
  (726, .iload_n 3, 3, 0, 0, []),
  (727, .iconst 1, 0, 0, 1, []),
  (728, .iadd, 0, 0, 0, []),
  (729, .iaload, 0, 0, 0, []),
  (730, .aload_n 0, 0, 0, 0, []),
  (731, .iload_n 3, 3, 0, 0, []),
  (732, .iconst 2, 0, 0, 2, []),
  (733, .iadd, 0, 0, 0, []),
  (734, .iaload, 0, 0, 0, []),
  (735, .invokevirtual 76, 79, 2, 0, [11]),
  (738, .aload_n 2, 2, 0, 0, []),
  (739, .aload_n 0, 0, 0, 0, []),
  (740, .iload_n 3, 3, 0, 0, []),
  (741, .iconst 1, 0, 0, 1, []),
  (742, .iadd, 0, 0, 0, []),
  (743, .iaload, 0, 0, 0, []),
  (744, .aload_n 0, 0, 0, 0, []),
  (745, .iload_n 3, 3, 0, 0, []),
  (746, .iconst 2, 0, 0, 2, []),
  (747, .iadd, 0, 0, 0, []),
  (748, .iaload, 0, 0, 0, []),
  (749, .invokevirtual 79, 179, 2, 0, [12]),
  (752, .if_icmp .eq 1080, 1374, 0, 0, []),
  (755, .iconst 0, 0, 0, 0, []),
  (756, .ireturn, 0, 0, 0, [2]),
  (757, .aload_n 1, 1, 0, 0, []),
  (758, .aload_n 0, 0, 0, 0, []),
  (759, .iload_n 3, 3, 0, 0, []),
  (760, .iconst 1, 0, 0, 1, []),
  (761, .iadd, 0, 0, 0, []),
  (762, .iaload, 0, 0, 0, []),
  (763, .aload_n 0, 0, 0, 0, []),
  (764, .iload_n 3, 3, 0, 0, []),
  (765, .iconst 2, 0, 0, 2, []),
  (766, .iadd, 0, 0, 0, []),
  (767, .iaload, 0, 0, 0, []),
  (768, .invokevirtual 80, 80, 2, 0, [11]),
  (771, .aload_n 2, 2, 0, 0, []),
  (772, .aload_n 0, 0, 0, 0, []),
  (773, .iload_n 3, 3, 0, 0, []),
  (774, .iconst 1, 0, 0, 1, []),
  (775, .iadd, 0, 0, 0, []),
  (776, .iaload, 0, 0, 0, []),
  (777, .aload_n 0, 0, 0, 0, []),
  (778, .iload_n 3, 3, 0, 0, []),
  (779, .iconst 2, 0, 0, 2, []),
  (780, .iadd, 0, 0, 0, []),
  (781, .iaload, 0, 0, 0, []),
  (782, .invokevirtual 83, 180, 2, 0, [12]),
  (785, .if_icmp .eq 1047, 1374, 0, 0, []),
  (788, .iconst 0, 0, 0, 0, []),
  (789, .ireturn, 0, 0, 0, [2]),
  (790, .aload_n 1, 1, 0, 0, []),
  (791, .aload_n 0, 0, 0, 0, []),
  (792, .iload_n 3, 3, 0, 0, []),
  (793, .iconst 1, 0, 0, 1, []),
  (794, .iadd, 0, 0, 0, []),
  (795, .iaload, 0, 0, 0, []),
  (796, .aload_n 0, 0, 0, 0, []),
  (797, .iload_n 3, 3, 0, 0, []),
  (798, .iconst 2, 0, 0, 2, []),
  (799, .iadd, 0, 0, 0, []),
  (800, .iaload, 0, 0, 0, []),
  (801, .invokevirtual 84, 81, 2, 0, [11]),
  (804, .aload_n 2, 2, 0, 0, []),
  (805, .aload_n 0, 0, 0, 0, []),
  (806, .iload_n 3, 3, 0, 0, []),
  (807, .iconst 1, 0, 0, 1, []),
  (808, .iadd, 0, 0, 0, []),
  (809, .iaload, 0, 0, 0, []),
  (810, .aload_n 0, 0, 0, 0, []),
  (811, .iload_n 3, 3, 0, 0, []),
  (812, .iconst 2, 0, 0, 2, []),
  (813, .iadd, 0, 0, 0, []),
  (814, .iaload, 0, 0, 0, []),
  (815, .invokevirtual 87, 181, 2, 0, [12]),
  (818, .if_icmp .eq 1014, 1374, 0, 0, []),
  (821, .iconst 0, 0, 0, 0, []),
  (822, .ireturn, 0, 0, 0, [2]),
  (823, .aload_n 1, 1, 0, 0, []),
  (824, .aload_n 0, 0, 0, 0, []),
  (825, .iload_n 3, 3, 0, 0, []),
  (826, .iconst 1, 0, 0, 1, []),
  (827, .iadd, 0, 0, 0, []),
  (828, .iaload, 0, 0, 0, []),
  (829, .aload_n 0, 0, 0, 0, []),
  (830, .iload_n 3, 3, 0, 0, []),
  (831, .iconst 2, 0, 0, 2, []),
  (832, .iadd, 0, 0, 0, []),
  (833, .iaload, 0, 0, 0, []),
  (834, .invokevirtual 88, 82, 2, 0, [11]),
  (837, .aload_n 2, 2, 0, 0, []),
  (838, .aload_n 0, 0, 0, 0, []),
  (839, .iload_n 3, 3, 0, 0, []),
  (840, .iconst 1, 0, 0, 1, []),
  (841, .iadd, 0, 0, 0, []),
  (842, .iaload, 0, 0, 0, []),
  (843, .aload_n 0, 0, 0, 0, []),
  (844, .iload_n 3, 3, 0, 0, []),
  (845, .iconst 2, 0, 0, 2, []),
  (846, .iadd, 0, 0, 0, []),
  (847, .iaload, 0, 0, 0, []),
  (848, .invokevirtual 91, 182, 2, 0, [12]),
  (851, .if_icmp .eq 981, 1374, 0, 0, []),
  (854, .iconst 0, 0, 0, 0, []),
  (855, .ireturn, 0, 0, 0, [2]),
  (856, .aload_n 1, 1, 0, 0, []),
  (857, .aload_n 0, 0, 0, 0, []),
  (858, .iload_n 3, 3, 0, 0, []),
  (859, .iconst 1, 0, 0, 1, []),
  (860, .iadd, 0, 0, 0, []),
  (861, .iaload, 0, 0, 0, []),
  (862, .aload_n 0, 0, 0, 0, []),
  (863, .iload_n 3, 3, 0, 0, []),
  (864, .iconst 2, 0, 0, 2, []),
  (865, .iadd, 0, 0, 0, []),
  (866, .iaload, 0, 0, 0, []),
  (867, .aload_n 0, 0, 0, 0, []),
  (868, .iload_n 3, 3, 0, 0, []),
  (869, .iconst 3, 0, 0, 3, []),
  (870, .iadd, 0, 0, 0, []),
  (871, .iaload, 0, 0, 0, []),
  (872, .invokevirtual 92, 83, 3, 0, [11]),
  (875, .aload_n 2, 2, 0, 0, []),
  (876, .aload_n 0, 0, 0, 0, []),
  (877, .iload_n 3, 3, 0, 0, []),
  (878, .iconst 1, 0, 0, 1, []),
  (879, .iadd, 0, 0, 0, []),
  (880, .iaload, 0, 0, 0, []),
  (881, .aload_n 0, 0, 0, 0, []),
  (882, .iload_n 3, 3, 0, 0, []),
  (883, .iconst 2, 0, 0, 2, []),
  (884, .iadd, 0, 0, 0, []),
  (885, .iaload, 0, 0, 0, []),
  (886, .aload_n 0, 0, 0, 0, []),
  (887, .iload_n 3, 3, 0, 0, []),
  (888, .iconst 3, 0, 0, 3, []),
  (889, .iadd, 0, 0, 0, []),
  (890, .iaload, 0, 0, 0, []),
  (891, .invokevirtual 95, 184, 3, 0, [12]),
  (894, .if_icmp .eq 938, 1374, 0, 0, []),
  (897, .iconst 0, 0, 0, 0, []),
  (898, .ireturn, 0, 0, 0, [2]),
  (899, .aload_n 1, 1, 0, 0, []),
  (900, .aload_n 0, 0, 0, 0, []),
  (901, .iload_n 3, 3, 0, 0, []),
  (902, .iconst 1, 0, 0, 1, []),
  (903, .iadd, 0, 0, 0, []),
  (904, .iaload, 0, 0, 0, []),
  (905, .invokevirtual 96, 84, 1, 0, [11]),
  (908, .aload_n 2, 2, 0, 0, []),
  (909, .aload_n 0, 0, 0, 0, []),
  (910, .iload_n 3, 3, 0, 0, []),
  (911, .iconst 1, 0, 0, 1, []),
  (912, .iadd, 0, 0, 0, []),
  (913, .iaload, 0, 0, 0, []),
  (914, .invokevirtual 99, 185, 1, 0, [12]),
  (917, .if_icmp .eq 915, 1374, 0, 0, []),
  (920, .iconst 0, 0, 0, 0, []),
  (921, .ireturn, 0, 0, 0, [2]),
  (922, .aload_n 1, 1, 0, 0, []),
  (923, .aload_n 0, 0, 0, 0, []),
  (924, .iload_n 3, 3, 0, 0, []),
  (925, .iconst 1, 0, 0, 1, []),
  (926, .iadd, 0, 0, 0, []),
  (927, .iaload, 0, 0, 0, []),
  (928, .invokevirtual 100, 85, 1, 0, [11]),
  (931, .aload_n 2, 2, 0, 0, []),
  (932, .aload_n 0, 0, 0, 0, []),
  (933, .iload_n 3, 3, 0, 0, []),
  (934, .iconst 1, 0, 0, 1, []),
  (935, .iadd, 0, 0, 0, []),
  (936, .iaload, 0, 0, 0, []),
  (937, .invokevirtual 103, 187, 1, 0, [12]),
  (940, .if_icmp .eq 892, 1374, 0, 0, []),
  (943, .iconst 0, 0, 0, 0, []),
  (944, .ireturn, 0, 0, 0, [2]),
  (945, .aload_n 1, 1, 0, 0, []),
  (946, .aload_n 0, 0, 0, 0, []),
  (947, .iload_n 3, 3, 0, 0, []),
  (948, .iconst 1, 0, 0, 1, []),
  (949, .iadd, 0, 0, 0, []),
  (950, .iaload, 0, 0, 0, []),
  (951, .aload_n 0, 0, 0, 0, []),
  (952, .iload_n 3, 3, 0, 0, []),
  (953, .iconst 2, 0, 0, 2, []),
  (954, .iadd, 0, 0, 0, []),
  (955, .iaload, 0, 0, 0, []),
  (956, .invokevirtual 104, 86, 2, 0, [11]),
  (959, .aload_n 2, 2, 0, 0, []),
  (960, .aload_n 0, 0, 0, 0, []),
  (961, .iload_n 3, 3, 0, 0, []),
  (962, .iconst 1, 0, 0, 1, []),
  (963, .iadd, 0, 0, 0, []),
  (964, .iaload, 0, 0, 0, []),
  (965, .aload_n 0, 0, 0, 0, []),
  (966, .iload_n 3, 3, 0, 0, []),
  (967, .iconst 2, 0, 0, 2, []),
  (968, .iadd, 0, 0, 0, []),
  (969, .iaload, 0, 0, 0, []),
  (970, .invokevirtual 107, 192, 2, 0, [12]),
  (973, .if_icmp .eq 859, 1374, 0, 0, []),
  (976, .iconst 0, 0, 0, 0, []),
  (977, .ireturn, 0, 0, 0, [2]),
  (978, .aload_n 1, 1, 0, 0, []),
  (979, .aload_n 0, 0, 0, 0, []),
  (980, .iload_n 3, 3, 0, 0, []),
  (981, .iconst 1, 0, 0, 1, []),
  (982, .iadd, 0, 0, 0, []),
  (983, .iaload, 0, 0, 0, []),
  (984, .aload_n 0, 0, 0, 0, []),
  (985, .iload_n 3, 3, 0, 0, []),
  (986, .iconst 2, 0, 0, 2, []),
  (987, .iadd, 0, 0, 0, []),
  (988, .iaload, 0, 0, 0, []),
  (989, .aload_n 0, 0, 0, 0, []),
  (990, .iload_n 3, 3, 0, 0, []),
  (991, .iconst 3, 0, 0, 3, []),
  (992, .iadd, 0, 0, 0, []),
  (993, .iaload, 0, 0, 0, []),
  (994, .invokevirtual 108, 87, 3, 0, [11]),
  (997, .aload_n 2, 2, 0, 0, []),
  (998, .aload_n 0, 0, 0, 0, []),
  (999, .iload_n 3, 3, 0, 0, []),
  (1000, .iconst 1, 0, 0, 1, []),
  (1001, .iadd, 0, 0, 0, []),
  (1002, .iaload, 0, 0, 0, []),
  (1003, .aload_n 0, 0, 0, 0, []),
  (1004, .iload_n 3, 3, 0, 0, []),
  (1005, .iconst 2, 0, 0, 2, []),
  (1006, .iadd, 0, 0, 0, []),
  (1007, .iaload, 0, 0, 0, []),
  (1008, .aload_n 0, 0, 0, 0, []),
  (1009, .iload_n 3, 3, 0, 0, []),
  (1010, .iconst 3, 0, 0, 3, []),
  (1011, .iadd, 0, 0, 0, []),
  (1012, .iaload, 0, 0, 0, []),
  (1013, .invokevirtual 111, 194, 3, 0, [12]),
  (1016, .if_icmp .eq 816, 1374, 0, 0, []),
  (1019, .iconst 0, 0, 0, 0, []),
  (1020, .ireturn, 0, 0, 0, [2]),
  (1021, .aload_n 1, 1, 0, 0, []),
  (1022, .aload_n 0, 0, 0, 0, []),
  (1023, .iload_n 3, 3, 0, 0, []),
  (1024, .iconst 1, 0, 0, 1, []),
  (1025, .iadd, 0, 0, 0, []),
  (1026, .iaload, 0, 0, 0, []),
  (1027, .aload_n 0, 0, 0, 0, []),
  (1028, .iload_n 3, 3, 0, 0, []),
  (1029, .iconst 2, 0, 0, 2, []),
  (1030, .iadd, 0, 0, 0, []),
  (1031, .iaload, 0, 0, 0, []),
  (1032, .aload_n 0, 0, 0, 0, []),
  (1033, .iload_n 3, 3, 0, 0, []),
  (1034, .iconst 3, 0, 0, 3, []),
  (1035, .iadd, 0, 0, 0, []),
  (1036, .iaload, 0, 0, 0, []),
  (1037, .invokevirtual 112, 88, 3, 0, [11]),
  (1040, .aload_n 2, 2, 0, 0, []),
  (1041, .aload_n 0, 0, 0, 0, []),
  (1042, .iload_n 3, 3, 0, 0, []),
  (1043, .iconst 1, 0, 0, 1, []),
  (1044, .iadd, 0, 0, 0, []),
  (1045, .iaload, 0, 0, 0, []),
  (1046, .aload_n 0, 0, 0, 0, []),
  (1047, .iload_n 3, 3, 0, 0, []),
  (1048, .iconst 2, 0, 0, 2, []),
  (1049, .iadd, 0, 0, 0, []),
  (1050, .iaload, 0, 0, 0, []),
  (1051, .aload_n 0, 0, 0, 0, []),
  (1052, .iload_n 3, 3, 0, 0, []),
  (1053, .iconst 3, 0, 0, 3, []),
  (1054, .iadd, 0, 0, 0, []),
  (1055, .iaload, 0, 0, 0, []),
  (1056, .invokevirtual 115, 196, 3, 0, [12]),
  (1059, .if_icmp .eq 773, 1374, 0, 0, []),
  (1062, .iconst 0, 0, 0, 0, []),
  (1063, .ireturn, 0, 0, 0, [2]),
  (1064, .aload_n 1, 1, 0, 0, []),
  (1065, .aload_n 0, 0, 0, 0, []),
  (1066, .iload_n 3, 3, 0, 0, []),
  (1067, .iconst 1, 0, 0, 1, []),
  (1068, .iadd, 0, 0, 0, []),
  (1069, .iaload, 0, 0, 0, []),
  (1070, .aload_n 0, 0, 0, 0, []),
  (1071, .iload_n 3, 3, 0, 0, []),
  (1072, .iconst 2, 0, 0, 2, []),
  (1073, .iadd, 0, 0, 0, []),
  (1074, .iaload, 0, 0, 0, []),
  (1075, .aload_n 0, 0, 0, 0, []),
  (1076, .iload_n 3, 3, 0, 0, []),
  (1077, .iconst 3, 0, 0, 3, []),
  (1078, .iadd, 0, 0, 0, []),
  (1079, .iaload, 0, 0, 0, []),
  (1080, .invokevirtual 116, 89, 3, 0, [11]),
  (1083, .aload_n 2, 2, 0, 0, []),
  (1084, .aload_n 0, 0, 0, 0, []),
  (1085, .iload_n 3, 3, 0, 0, []),
  (1086, .iconst 1, 0, 0, 1, []),
  (1087, .iadd, 0, 0, 0, []),
  (1088, .iaload, 0, 0, 0, []),
  (1089, .aload_n 0, 0, 0, 0, []),
  (1090, .iload_n 3, 3, 0, 0, []),
  (1091, .iconst 2, 0, 0, 2, []),
  (1092, .iadd, 0, 0, 0, []),
  (1093, .iaload, 0, 0, 0, []),
  (1094, .aload_n 0, 0, 0, 0, []),
  (1095, .iload_n 3, 3, 0, 0, []),
  (1096, .iconst 3, 0, 0, 3, []),
  (1097, .iadd, 0, 0, 0, []),
  (1098, .iaload, 0, 0, 0, []),
  (1099, .invokevirtual 119, 197, 3, 0, [12]),
  (1102, .if_icmp .eq 730, 1374, 0, 0, []),
  (1105, .iconst 0, 0, 0, 0, []),
  (1106, .ireturn, 0, 0, 0, [2]),
  (1107, .aload_n 1, 1, 0, 0, []),
  (1108, .aload_n 0, 0, 0, 0, []),
  (1109, .iload_n 3, 3, 0, 0, []),
  (1110, .iconst 1, 0, 0, 1, []),
  (1111, .iadd, 0, 0, 0, []),
  (1112, .iaload, 0, 0, 0, []),
  (1113, .aload_n 0, 0, 0, 0, []),
  (1114, .iload_n 3, 3, 0, 0, []),
  (1115, .iconst 2, 0, 0, 2, []),
  (1116, .iadd, 0, 0, 0, []),
  (1117, .iaload, 0, 0, 0, []),
  (1118, .aload_n 0, 0, 0, 0, []),
  (1119, .iload_n 3, 3, 0, 0, []),
  (1120, .iconst 3, 0, 0, 3, []),
  (1121, .iadd, 0, 0, 0, []),
  (1122, .iaload, 0, 0, 0, []),
  (1123, .aload_n 0, 0, 0, 0, []),
  (1124, .iload_n 3, 3, 0, 0, []),
  (1125, .iconst 4, 0, 0, 4, []),
  (1126, .iadd, 0, 0, 0, []),
  (1127, .iaload, 0, 0, 0, []),
  (1128, .invokevirtual 120, 90, 4, 0, [11]),
  (1131, .aload_n 2, 2, 0, 0, []),
  (1132, .aload_n 0, 0, 0, 0, []),
  (1133, .iload_n 3, 3, 0, 0, []),
  (1134, .iconst 1, 0, 0, 1, []),
  (1135, .iadd, 0, 0, 0, []),
  (1136, .iaload, 0, 0, 0, []),
  (1137, .aload_n 0, 0, 0, 0, []),
  (1138, .iload_n 3, 3, 0, 0, []),
  (1139, .iconst 2, 0, 0, 2, []),
  (1140, .iadd, 0, 0, 0, []),
  (1141, .iaload, 0, 0, 0, []),
  (1142, .aload_n 0, 0, 0, 0, []),
  (1143, .iload_n 3, 3, 0, 0, []),
  (1144, .iconst 3, 0, 0, 3, []),
  (1145, .iadd, 0, 0, 0, []),
  (1146, .iaload, 0, 0, 0, []),
  (1147, .aload_n 0, 0, 0, 0, []),
  (1148, .iload_n 3, 3, 0, 0, []),
  (1149, .iconst 4, 0, 0, 4, []),
  (1150, .iadd, 0, 0, 0, []),
  (1151, .iaload, 0, 0, 0, []),
  (1152, .invokevirtual 123, 200, 4, 0, [12]),
  (1155, .if_icmp .eq 677, 1374, 0, 0, []),
  (1158, .iconst 0, 0, 0, 0, []),
  (1159, .ireturn, 0, 0, 0, [2]),
  (1160, .aload_n 1, 1, 0, 0, []),
  (1161, .aload_n 0, 0, 0, 0, []),
  (1162, .iload_n 3, 3, 0, 0, []),
  (1163, .iconst 1, 0, 0, 1, []),
  (1164, .iadd, 0, 0, 0, []),
  (1165, .iaload, 0, 0, 0, []),
  (1166, .aload_n 0, 0, 0, 0, []),
  (1167, .iload_n 3, 3, 0, 0, []),
  (1168, .iconst 2, 0, 0, 2, []),
  (1169, .iadd, 0, 0, 0, []),
  (1170, .iaload, 0, 0, 0, []),
  (1171, .aload_n 0, 0, 0, 0, []),
  (1172, .iload_n 3, 3, 0, 0, []),
  (1173, .iconst 3, 0, 0, 3, []),
  (1174, .iadd, 0, 0, 0, []),
  (1175, .iaload, 0, 0, 0, []),
  (1176, .invokevirtual 124, 91, 3, 0, [11]),
  (1179, .aload_n 2, 2, 0, 0, []),
  (1180, .aload_n 0, 0, 0, 0, []),
  (1181, .iload_n 3, 3, 0, 0, []),
  (1182, .iconst 1, 0, 0, 1, []),
  (1183, .iadd, 0, 0, 0, []),
  (1184, .iaload, 0, 0, 0, []),
  (1185, .aload_n 0, 0, 0, 0, []),
  (1186, .iload_n 3, 3, 0, 0, []),
  (1187, .iconst 2, 0, 0, 2, []),
  (1188, .iadd, 0, 0, 0, []),
  (1189, .iaload, 0, 0, 0, []),
  (1190, .aload_n 0, 0, 0, 0, []),
  (1191, .iload_n 3, 3, 0, 0, []),
  (1192, .iconst 3, 0, 0, 3, []),
  (1193, .iadd, 0, 0, 0, []),
  (1194, .iaload, 0, 0, 0, []),
  (1195, .invokevirtual 127, 201, 3, 0, [12]),
  (1198, .if_icmp .eq 634, 1374, 0, 0, []),
  (1201, .iconst 0, 0, 0, 0, []),
  (1202, .ireturn, 0, 0, 0, [2]),
  (1203, .aload_n 1, 1, 0, 0, []),
  (1204, .aload_n 0, 0, 0, 0, []),
  (1205, .iload_n 3, 3, 0, 0, []),
  (1206, .iconst 1, 0, 0, 1, []),
  (1207, .iadd, 0, 0, 0, []),
  (1208, .iaload, 0, 0, 0, []),
  (1209, .invokevirtual 128, 92, 1, 0, [11]),
  (1212, .aload_n 2, 2, 0, 0, []),
  (1213, .aload_n 0, 0, 0, 0, []),
  (1214, .iload_n 3, 3, 0, 0, []),
  (1215, .iconst 1, 0, 0, 1, []),
  (1216, .iadd, 0, 0, 0, []),
  (1217, .iaload, 0, 0, 0, []),
  (1218, .invokevirtual 131, 203, 1, 0, [12]),
  (1221, .if_icmp .eq 611, 1374, 0, 0, []),
  (1224, .iconst 0, 0, 0, 0, []),
  (1225, .ireturn, 0, 0, 0, [2]),
  (1226, .aload_n 1, 1, 0, 0, []),
  (1227, .aload_n 0, 0, 0, 0, []),
  (1228, .iload_n 3, 3, 0, 0, []),
  (1229, .iconst 1, 0, 0, 1, []),
  (1230, .iadd, 0, 0, 0, []),
  (1231, .iaload, 0, 0, 0, []),
  (1232, .aload_n 0, 0, 0, 0, []),
  (1233, .iload_n 3, 3, 0, 0, []),
  (1234, .iconst 2, 0, 0, 2, []),
  (1235, .iadd, 0, 0, 0, []),
  (1236, .iaload, 0, 0, 0, []),
  (1237, .aload_n 0, 0, 0, 0, []),
  (1238, .iload_n 3, 3, 0, 0, []),
  (1239, .iconst 3, 0, 0, 3, []),
  (1240, .iadd, 0, 0, 0, []),
  (1241, .iaload, 0, 0, 0, []),
  (1242, .invokevirtual 132, 93, 3, 0, [11]),
  (1245, .aload_n 2, 2, 0, 0, []),
  (1246, .aload_n 0, 0, 0, 0, []),
  (1247, .iload_n 3, 3, 0, 0, []),
  (1248, .iconst 1, 0, 0, 1, []),
  (1249, .iadd, 0, 0, 0, []),
  (1250, .iaload, 0, 0, 0, []),
  (1251, .aload_n 0, 0, 0, 0, []),
  (1252, .iload_n 3, 3, 0, 0, []),
  (1253, .iconst 2, 0, 0, 2, []),
  (1254, .iadd, 0, 0, 0, []),
  (1255, .iaload, 0, 0, 0, []),
  (1256, .aload_n 0, 0, 0, 0, []),
  (1257, .iload_n 3, 3, 0, 0, []),
  (1258, .iconst 3, 0, 0, 3, []),
  (1259, .iadd, 0, 0, 0, []),
  (1260, .iaload, 0, 0, 0, []),
  (1261, .invokevirtual 135, 204, 3, 0, [12]),
  (1264, .if_icmp .eq 568, 1374, 0, 0, []),
  (1267, .iconst 0, 0, 0, 0, []),
  (1268, .ireturn, 0, 0, 0, [2]),
  (1269, .aload_n 1, 1, 0, 0, []),
  (1270, .aload_n 0, 0, 0, 0, []),
  (1271, .iload_n 3, 3, 0, 0, []),
  (1272, .iconst 1, 0, 0, 1, []),
  (1273, .iadd, 0, 0, 0, []),
  (1274, .iaload, 0, 0, 0, []),
  (1275, .aload_n 0, 0, 0, 0, []),
  (1276, .iload_n 3, 3, 0, 0, []),
  (1277, .iconst 2, 0, 0, 2, []),
  (1278, .iadd, 0, 0, 0, []),
  (1279, .iaload, 0, 0, 0, []),
  (1280, .invokevirtual 136, 94, 2, 0, [11]),
  (1283, .aload_n 2, 2, 0, 0, []),
  (1284, .aload_n 0, 0, 0, 0, []),
  (1285, .iload_n 3, 3, 0, 0, []),
  (1286, .iconst 1, 0, 0, 1, []),
  (1287, .iadd, 0, 0, 0, []),
  (1288, .iaload, 0, 0, 0, []),
  (1289, .aload_n 0, 0, 0, 0, []),
  (1290, .iload_n 3, 3, 0, 0, []),
  (1291, .iconst 2, 0, 0, 2, []),
  (1292, .iadd, 0, 0, 0, []),
  (1293, .iaload, 0, 0, 0, []),
  (1294, .invokevirtual 139, 207, 2, 0, [12]),
  (1297, .if_icmp .eq 535, 1374, 0, 0, []),
  (1300, .iconst 0, 0, 0, 0, []),
  (1301, .ireturn, 0, 0, 0, [2]),
  (1302, .aload_n 1, 1, 0, 0, []),
  (1303, .aload_n 0, 0, 0, 0, []),
  (1304, .iload_n 3, 3, 0, 0, []),
  (1305, .iconst 1, 0, 0, 1, []),
  (1306, .iadd, 0, 0, 0, []),
  (1307, .iaload, 0, 0, 0, []),
  (1308, .invokevirtual 140, 95, 1, 0, [11]),
  (1311, .aload_n 2, 2, 0, 0, []),
  (1312, .aload_n 0, 0, 0, 0, []),
  (1313, .iload_n 3, 3, 0, 0, []),
  (1314, .iconst 1, 0, 0, 1, []),
  (1315, .iadd, 0, 0, 0, []),
  (1316, .iaload, 0, 0, 0, []),
  (1317, .invokevirtual 143, 208, 1, 0, [12]),
  (1320, .if_icmp .eq 512, 1374, 0, 0, []),
  (1323, .iconst 0, 0, 0, 0, []),
  (1324, .ireturn, 0, 0, 0, [2]),
  (1325, .aload_n 1, 1, 0, 0, []),
  (1326, .aload_n 0, 0, 0, 0, []),
  (1327, .iload_n 3, 3, 0, 0, []),
  (1328, .iconst 1, 0, 0, 1, []),
  (1329, .iadd, 0, 0, 0, []),
  (1330, .iaload, 0, 0, 0, []),
  (1331, .aload_n 0, 0, 0, 0, []),
  (1332, .iload_n 3, 3, 0, 0, []),
  (1333, .iconst 2, 0, 0, 2, []),
  (1334, .iadd, 0, 0, 0, []),
  (1335, .iaload, 0, 0, 0, []),
  (1336, .aload_n 0, 0, 0, 0, []),
  (1337, .iload_n 3, 3, 0, 0, []),
  (1338, .iconst 3, 0, 0, 3, []),
  (1339, .iadd, 0, 0, 0, []),
  (1340, .iaload, 0, 0, 0, []),
  (1341, .aload_n 0, 0, 0, 0, []),
  (1342, .iload_n 3, 3, 0, 0, []),
  (1343, .iconst 4, 0, 0, 4, []),
  (1344, .iadd, 0, 0, 0, []),
  (1345, .iaload, 0, 0, 0, []),
  (1346, .invokevirtual 144, 96, 4, 0, [11]),
  (1349, .aload_n 2, 2, 0, 0, []),
  (1350, .aload_n 0, 0, 0, 0, []),
  (1351, .iload_n 3, 3, 0, 0, []),
  (1352, .iconst 1, 0, 0, 1, []),
  (1353, .iadd, 0, 0, 0, []),
  (1354, .iaload, 0, 0, 0, []),
  (1355, .aload_n 0, 0, 0, 0, []),
  (1356, .iload_n 3, 3, 0, 0, []),
  (1357, .iconst 2, 0, 0, 2, []),
  (1358, .iadd, 0, 0, 0, []),
  (1359, .iaload, 0, 0, 0, []),
  (1360, .aload_n 0, 0, 0, 0, []),
  (1361, .iload_n 3, 3, 0, 0, []),
  (1362, .iconst 3, 0, 0, 3, []),
  (1363, .iadd, 0, 0, 0, []),
  (1364, .iaload, 0, 0, 0, []),
  (1365, .aload_n 0, 0, 0, 0, []),
  (1366, .iload_n 3, 3, 0, 0, []),
  (1367, .iconst 4, 0, 0, 4, []),
  (1368, .iadd, 0, 0, 0, []),
  (1369, .iaload, 0, 0, 0, []),
  (1370, .invokevirtual 147, 209, 4, 0, [12]),
  (1373, .if_icmp .eq 459, 1374, 0, 0, []),
  (1376, .iconst 0, 0, 0, 0, []),
  (1377, .ireturn, 0, 0, 0, [2]),
  (1378, .aload_n 1, 1, 0, 0, []),
  (1379, .aload_n 0, 0, 0, 0, []),
  (1380, .iload_n 3, 3, 0, 0, []),
  (1381, .iconst 1, 0, 0, 1, []),
  (1382, .iadd, 0, 0, 0, []),
  (1383, .iaload, 0, 0, 0, []),
  (1384, .aload_n 0, 0, 0, 0, []),
  (1385, .iload_n 3, 3, 0, 0, []),
  (1386, .iconst 2, 0, 0, 2, []),
  (1387, .iadd, 0, 0, 0, []),
  (1388, .iaload, 0, 0, 0, []),
  (1389, .invokevirtual 148, 97, 2, 0, [11]),
  (1392, .aload_n 2, 2, 0, 0, []),
  (1393, .aload_n 0, 0, 0, 0, []),
  (1394, .iload_n 3, 3, 0, 0, []),
  (1395, .iconst 1, 0, 0, 1, []),
  (1396, .iadd, 0, 0, 0, []),
  (1397, .iaload, 0, 0, 0, []),
  (1398, .aload_n 0, 0, 0, 0, []),
  (1399, .iload_n 3, 3, 0, 0, []),
  (1400, .iconst 2, 0, 0, 2, []),
  (1401, .iadd, 0, 0, 0, []),
  (1402, .iaload, 0, 0, 0, []),
  (1403, .invokevirtual 151, 210, 2, 0, [12]),
  (1406, .if_icmp .eq 426, 1374, 0, 0, []),
  (1409, .iconst 0, 0, 0, 0, []),
  (1410, .ireturn, 0, 0, 0, [2]),
  (1411, .aload_n 1, 1, 0, 0, []),
  (1412, .aload_n 0, 0, 0, 0, []),
  (1413, .iload_n 3, 3, 0, 0, []),
  (1414, .iconst 1, 0, 0, 1, []),
  (1415, .iadd, 0, 0, 0, []),
  (1416, .iaload, 0, 0, 0, []),
  (1417, .aload_n 0, 0, 0, 0, []),
  (1418, .iload_n 3, 3, 0, 0, []),
  (1419, .iconst 2, 0, 0, 2, []),
  (1420, .iadd, 0, 0, 0, []),
  (1421, .iaload, 0, 0, 0, []),
  (1422, .aload_n 0, 0, 0, 0, []),
  (1423, .iload_n 3, 3, 0, 0, []),
  (1424, .iconst 3, 0, 0, 3, []),
  (1425, .iadd, 0, 0, 0, []),
  (1426, .iaload, 0, 0, 0, []),
  (1427, .invokevirtual 152, 98, 3, 0, [11]),
  (1430, .aload_n 2, 2, 0, 0, []),
  (1431, .aload_n 0, 0, 0, 0, []),
  (1432, .iload_n 3, 3, 0, 0, []),
  (1433, .iconst 1, 0, 0, 1, []),
  (1434, .iadd, 0, 0, 0, []),
  (1435, .iaload, 0, 0, 0, []),
  (1436, .aload_n 0, 0, 0, 0, []),
  (1437, .iload_n 3, 3, 0, 0, []),
  (1438, .iconst 2, 0, 0, 2, []),
  (1439, .iadd, 0, 0, 0, []),
  (1440, .iaload, 0, 0, 0, []),
  (1441, .aload_n 0, 0, 0, 0, []),
  (1442, .iload_n 3, 3, 0, 0, []),
  (1443, .iconst 3, 0, 0, 3, []),
  (1444, .iadd, 0, 0, 0, []),
  (1445, .iaload, 0, 0, 0, []),
  (1446, .invokevirtual 155, 211, 3, 0, [12]),
  (1449, .if_icmp .eq 383, 1374, 0, 0, []),
  (1452, .iconst 0, 0, 0, 0, []),
  (1453, .ireturn, 0, 0, 0, [2]),
  (1454, .aload_n 1, 1, 0, 0, []),
  (1455, .aload_n 0, 0, 0, 0, []),
  (1456, .iload_n 3, 3, 0, 0, []),
  (1457, .iconst 1, 0, 0, 1, []),
  (1458, .iadd, 0, 0, 0, []),
  (1459, .iaload, 0, 0, 0, []),
  (1460, .aload_n 0, 0, 0, 0, []),
  (1461, .iload_n 3, 3, 0, 0, []),
  (1462, .iconst 2, 0, 0, 2, []),
  (1463, .iadd, 0, 0, 0, []),
  (1464, .iaload, 0, 0, 0, []),
  (1465, .aload_n 0, 0, 0, 0, []),
  (1466, .iload_n 3, 3, 0, 0, []),
  (1467, .iconst 3, 0, 0, 3, []),
  (1468, .iadd, 0, 0, 0, []),
  (1469, .iaload, 0, 0, 0, []),
  (1470, .aload_n 0, 0, 0, 0, []),
  (1471, .iload_n 3, 3, 0, 0, []),
  (1472, .iconst 4, 0, 0, 4, []),
  (1473, .iadd, 0, 0, 0, []),
  (1474, .iaload, 0, 0, 0, []),
  (1475, .invokevirtual 156, 99, 4, 0, [11]),
  (1478, .aload_n 2, 2, 0, 0, []),
  (1479, .aload_n 0, 0, 0, 0, []),
  (1480, .iload_n 3, 3, 0, 0, []),
  (1481, .iconst 1, 0, 0, 1, []),
  (1482, .iadd, 0, 0, 0, []),
  (1483, .iaload, 0, 0, 0, []),
  (1484, .aload_n 0, 0, 0, 0, []),
  (1485, .iload_n 3, 3, 0, 0, []),
  (1486, .iconst 2, 0, 0, 2, []),
  (1487, .iadd, 0, 0, 0, []),
  (1488, .iaload, 0, 0, 0, []),
  (1489, .aload_n 0, 0, 0, 0, []),
  (1490, .iload_n 3, 3, 0, 0, []),
  (1491, .iconst 3, 0, 0, 3, []),
  (1492, .iadd, 0, 0, 0, []),
  (1493, .iaload, 0, 0, 0, []),
  (1494, .aload_n 0, 0, 0, 0, []),
  (1495, .iload_n 3, 3, 0, 0, []),
  (1496, .iconst 4, 0, 0, 4, []),
  (1497, .iadd, 0, 0, 0, []),
  (1498, .iaload, 0, 0, 0, []),
  (1499, .invokevirtual 159, 213, 4, 0, [12]),
  (1502, .if_icmp .eq 330, 1374, 0, 0, []),
  (1505, .iconst 0, 0, 0, 0, []),
  (1506, .ireturn, 0, 0, 0, [2]),
  (1507, .aload_n 1, 1, 0, 0, []),
  (1508, .aload_n 0, 0, 0, 0, []),
  (1509, .iload_n 3, 3, 0, 0, []),
  (1510, .iconst 1, 0, 0, 1, []),
  (1511, .iadd, 0, 0, 0, []),
  (1512, .iaload, 0, 0, 0, []),
  (1513, .aload_n 0, 0, 0, 0, []),
  (1514, .iload_n 3, 3, 0, 0, []),
  (1515, .iconst 2, 0, 0, 2, []),
  (1516, .iadd, 0, 0, 0, []),
  (1517, .iaload, 0, 0, 0, []),
  (1518, .aload_n 0, 0, 0, 0, []),
  (1519, .iload_n 3, 3, 0, 0, []),
  (1520, .iconst 3, 0, 0, 3, []),
  (1521, .iadd, 0, 0, 0, []),
  (1522, .iaload, 0, 0, 0, []),
  (1523, .aload_n 0, 0, 0, 0, []),
  (1524, .iload_n 3, 3, 0, 0, []),
  (1525, .iconst 4, 0, 0, 4, []),
  (1526, .iadd, 0, 0, 0, []),
  (1527, .iaload, 0, 0, 0, []),
  (1528, .aload_n 0, 0, 0, 0, []),
  (1529, .iload_n 3, 3, 0, 0, []),
  (1530, .iconst 5, 0, 0, 5, []),
  (1531, .iadd, 0, 0, 0, []),
  (1532, .iaload, 0, 0, 0, []),
  (1533, .invokevirtual 160, 100, 5, 0, [11]),
  (1536, .aload_n 2, 2, 0, 0, []),
  (1537, .aload_n 0, 0, 0, 0, []),
  (1538, .iload_n 3, 3, 0, 0, []),
  (1539, .iconst 1, 0, 0, 1, []),
  (1540, .iadd, 0, 0, 0, []),
  (1541, .iaload, 0, 0, 0, []),
  (1542, .aload_n 0, 0, 0, 0, []),
  (1543, .iload_n 3, 3, 0, 0, []),
  (1544, .iconst 2, 0, 0, 2, []),
  (1545, .iadd, 0, 0, 0, []),
  (1546, .iaload, 0, 0, 0, []),
  (1547, .aload_n 0, 0, 0, 0, []),
  (1548, .iload_n 3, 3, 0, 0, []),
  (1549, .iconst 3, 0, 0, 3, []),
  (1550, .iadd, 0, 0, 0, []),
  (1551, .iaload, 0, 0, 0, []),
  (1552, .aload_n 0, 0, 0, 0, []),
  (1553, .iload_n 3, 3, 0, 0, []),
  (1554, .iconst 4, 0, 0, 4, []),
  (1555, .iadd, 0, 0, 0, []),
  (1556, .iaload, 0, 0, 0, []),
  (1557, .aload_n 0, 0, 0, 0, []),
  (1558, .iload_n 3, 3, 0, 0, []),
  (1559, .iconst 5, 0, 0, 5, []),
  (1560, .iadd, 0, 0, 0, []),
  (1561, .iaload, 0, 0, 0, []),
  (1562, .invokevirtual 164, 215, 5, 0, [12]),
  (1565, .lcmp, 0, 0, 0, []),
  (1566, .ifCond .eq 266, 1374, 0, 0, []),
  (1569, .iconst 0, 0, 0, 0, []),
  (1570, .ireturn, 0, 0, 0, [2]),
  (1571, .aload_n 1, 1, 0, 0, []),
  (1572, .invokevirtual 165, 101, 0, 0, [11]),
  (1575, .aload_n 2, 2, 0, 0, []),
  (1576, .invokevirtual 168, 216, 0, 0, [12]),
  (1579, .if_icmp .eq 253, 1374, 0, 0, []),
  (1582, .iconst 0, 0, 0, 0, []),
  (1583, .ireturn, 0, 0, 0, [2]),
  (1584, .aload_n 1, 1, 0, 0, []),
  (1585, .invokevirtual 169, 102, 0, 0, [11]),
  (1588, .aload_n 2, 2, 0, 0, []),
  (1589, .invokevirtual 172, 217, 0, 0, [12]),
  (1592, .if_icmp .eq 240, 1374, 0, 0, []),
  (1595, .iconst 0, 0, 0, 0, []),
  (1596, .ireturn, 0, 0, 0, [2]),
  (1597, .aload_n 1, 1, 0, 0, []),
  (1598, .aload_n 0, 0, 0, 0, []),
  (1599, .iload_n 3, 3, 0, 0, []),
  (1600, .iconst 1, 0, 0, 1, []),
  (1601, .iadd, 0, 0, 0, []),
  (1602, .iaload, 0, 0, 0, []),
  (1603, .aload_n 0, 0, 0, 0, []),
  (1604, .iload_n 3, 3, 0, 0, []),
  (1605, .iconst 2, 0, 0, 2, []),
  (1606, .iadd, 0, 0, 0, []),
  (1607, .iaload, 0, 0, 0, []),
  (1608, .aload_n 0, 0, 0, 0, []),
  (1609, .iload_n 3, 3, 0, 0, []),
  (1610, .iconst 3, 0, 0, 3, []),
  (1611, .iadd, 0, 0, 0, []),
  (1612, .iaload, 0, 0, 0, []),
  (1613, .invokevirtual 173, 103, 3, 0, [11]),
  (1616, .aload_n 2, 2, 0, 0, []),
  (1617, .aload_n 0, 0, 0, 0, []),
  (1618, .iload_n 3, 3, 0, 0, []),
  (1619, .iconst 1, 0, 0, 1, []),
  (1620, .iadd, 0, 0, 0, []),
  (1621, .iaload, 0, 0, 0, []),
  (1622, .aload_n 0, 0, 0, 0, []),
  (1623, .iload_n 3, 3, 0, 0, []),
  (1624, .iconst 2, 0, 0, 2, []),
  (1625, .iadd, 0, 0, 0, []),
  (1626, .iaload, 0, 0, 0, []),
  (1627, .aload_n 0, 0, 0, 0, []),
  (1628, .iload_n 3, 3, 0, 0, []),
  (1629, .iconst 3, 0, 0, 3, []),
  (1630, .iadd, 0, 0, 0, []),
  (1631, .iaload, 0, 0, 0, []),
  (1632, .invokevirtual 176, 218, 3, 0, [12]),
  (1635, .if_icmp .eq 197, 1374, 0, 0, []),
  (1638, .iconst 0, 0, 0, 0, []),
  (1639, .ireturn, 0, 0, 0, [2]),
  (1640, .aload_n 1, 1, 0, 0, []),
  (1641, .aload_n 0, 0, 0, 0, []),
  (1642, .iload_n 3, 3, 0, 0, []),
  (1643, .iconst 1, 0, 0, 1, []),
  (1644, .iadd, 0, 0, 0, []),
  (1645, .iaload, 0, 0, 0, []),
  (1646, .aload_n 0, 0, 0, 0, []),
  (1647, .iload_n 3, 3, 0, 0, []),
  (1648, .iconst 2, 0, 0, 2, []),
  (1649, .iadd, 0, 0, 0, []),
  (1650, .iaload, 0, 0, 0, []),
  (1651, .aload_n 0, 0, 0, 0, []),
  (1652, .iload_n 3, 3, 0, 0, []),
  (1653, .iconst 3, 0, 0, 3, []),
  (1654, .iadd, 0, 0, 0, []),
  (1655, .iaload, 0, 0, 0, []),
  (1656, .invokevirtual 177, 104, 3, 0, [11]),
  (1659, .aload_n 2, 2, 0, 0, []),
  (1660, .aload_n 0, 0, 0, 0, []),
  (1661, .iload_n 3, 3, 0, 0, []),
  (1662, .iconst 1, 0, 0, 1, []),
  (1663, .iadd, 0, 0, 0, []),
  (1664, .iaload, 0, 0, 0, []),
  (1665, .aload_n 0, 0, 0, 0, []),
  (1666, .iload_n 3, 3, 0, 0, []),
  (1667, .iconst 2, 0, 0, 2, []),
  (1668, .iadd, 0, 0, 0, []),
  (1669, .iaload, 0, 0, 0, []),
  (1670, .aload_n 0, 0, 0, 0, []),
  (1671, .iload_n 3, 3, 0, 0, []),
  (1672, .iconst 3, 0, 0, 3, []),
  (1673, .iadd, 0, 0, 0, []),
  (1674, .iaload, 0, 0, 0, []),
  (1675, .invokevirtual 180, 219, 3, 0, [12]),
  (1678, .if_icmp .eq 154, 1374, 0, 0, []),
  (1681, .iconst 0, 0, 0, 0, []),
  (1682, .ireturn, 0, 0, 0, [2]),
  (1683, .aload_n 1, 1, 0, 0, []),
  (1684, .aload_n 0, 0, 0, 0, []),
  (1685, .iload_n 3, 3, 0, 0, []),
  (1686, .iconst 1, 0, 0, 1, []),
  (1687, .iadd, 0, 0, 0, []),
  (1688, .iaload, 0, 0, 0, []),
  (1689, .aload_n 0, 0, 0, 0, []),
  (1690, .iload_n 3, 3, 0, 0, []),
  (1691, .iconst 2, 0, 0, 2, []),
  (1692, .iadd, 0, 0, 0, []),
  (1693, .iaload, 0, 0, 0, []),
  (1694, .aload_n 0, 0, 0, 0, []),
  (1695, .iload_n 3, 3, 0, 0, []),
  (1696, .iconst 3, 0, 0, 3, []),
  (1697, .iadd, 0, 0, 0, []),
  (1698, .iaload, 0, 0, 0, []),
  (1699, .aload_n 0, 0, 0, 0, []),
  (1700, .iload_n 3, 3, 0, 0, []),
  (1701, .iconst 4, 0, 0, 4, []),
  (1702, .iadd, 0, 0, 0, []),
  (1703, .iaload, 0, 0, 0, []),
  (1704, .aload_n 0, 0, 0, 0, []),
  (1705, .iload_n 3, 3, 0, 0, []),
  (1706, .iconst 5, 0, 0, 5, []),
  (1707, .iadd, 0, 0, 0, []),
  (1708, .iaload, 0, 0, 0, []),
  (1709, .invokevirtual 181, 105, 5, 0, [11]),
  (1712, .aload_n 2, 2, 0, 0, []),
  (1713, .aload_n 0, 0, 0, 0, []),
  (1714, .iload_n 3, 3, 0, 0, []),
  (1715, .iconst 1, 0, 0, 1, []),
  (1716, .iadd, 0, 0, 0, []),
  (1717, .iaload, 0, 0, 0, []),
  (1718, .aload_n 0, 0, 0, 0, []),
  (1719, .iload_n 3, 3, 0, 0, []),
  (1720, .iconst 2, 0, 0, 2, []),
  (1721, .iadd, 0, 0, 0, []),
  (1722, .iaload, 0, 0, 0, []),
  (1723, .aload_n 0, 0, 0, 0, []),
  (1724, .iload_n 3, 3, 0, 0, []),
  (1725, .iconst 3, 0, 0, 3, []),
  (1726, .iadd, 0, 0, 0, []),
  (1727, .iaload, 0, 0, 0, []),
  (1728, .aload_n 0, 0, 0, 0, []),
  (1729, .iload_n 3, 3, 0, 0, []),
  (1730, .iconst 4, 0, 0, 4, []),
  (1731, .iadd, 0, 0, 0, []),
  (1732, .iaload, 0, 0, 0, []),
  (1733, .aload_n 0, 0, 0, 0, []),
  (1734, .iload_n 3, 3, 0, 0, []),
  (1735, .iconst 5, 0, 0, 5, []),
  (1736, .iadd, 0, 0, 0, []),
  (1737, .iaload, 0, 0, 0, []),
  (1738, .invokevirtual 184, 220, 5, 0, [12]),
  (1741, .if_icmp .eq 91, 1374, 0, 0, []),
  (1744, .iconst 0, 0, 0, 0, []),
  (1745, .ireturn, 0, 0, 0, [2]),
  (1746, .aload_n 1, 1, 0, 0, []),
  (1747, .aload_n 0, 0, 0, 0, []),
  (1748, .iload_n 3, 3, 0, 0, []),
  (1749, .iconst 1, 0, 0, 1, []),
  (1750, .iadd, 0, 0, 0, []),
  (1751, .iaload, 0, 0, 0, []),
  (1752, .aload_n 0, 0, 0, 0, []),
  (1753, .iload_n 3, 3, 0, 0, []),
  (1754, .iconst 2, 0, 0, 2, []),
  (1755, .iadd, 0, 0, 0, []),
  (1756, .iaload, 0, 0, 0, []),
  (1757, .aload_n 0, 0, 0, 0, []),
  (1758, .iload_n 3, 3, 0, 0, []),
  (1759, .iconst 3, 0, 0, 3, []),
  (1760, .iadd, 0, 0, 0, []),
  (1761, .iaload, 0, 0, 0, []),
  (1762, .aload_n 0, 0, 0, 0, []),
  (1763, .iload_n 3, 3, 0, 0, []),
  (1764, .iconst 4, 0, 0, 4, []),
  (1765, .iadd, 0, 0, 0, []),
  (1766, .iaload, 0, 0, 0, []),
  (1767, .invokevirtual 185, 106, 4, 0, [11]),
  (1770, .aload_n 2, 2, 0, 0, []),
  (1771, .aload_n 0, 0, 0, 0, []),
  (1772, .iload_n 3, 3, 0, 0, []),
  (1773, .iconst 1, 0, 0, 1, []),
  (1774, .iadd, 0, 0, 0, []),
  (1775, .iaload, 0, 0, 0, []),
  (1776, .aload_n 0, 0, 0, 0, []),
  (1777, .iload_n 3, 3, 0, 0, []),
  (1778, .iconst 2, 0, 0, 2, []),
  (1779, .iadd, 0, 0, 0, []),
  (1780, .iaload, 0, 0, 0, []),
  (1781, .aload_n 0, 0, 0, 0, []),
  (1782, .iload_n 3, 3, 0, 0, []),
  (1783, .iconst 3, 0, 0, 3, []),
  (1784, .iadd, 0, 0, 0, []),
  (1785, .iaload, 0, 0, 0, []),
  (1786, .aload_n 0, 0, 0, 0, []),
  (1787, .iload_n 3, 3, 0, 0, []),
  (1788, .iconst 4, 0, 0, 4, []),
  (1789, .iadd, 0, 0, 0, []),
  (1790, .iaload, 0, 0, 0, []),
  (1791, .invokevirtual 188, 221, 4, 0, [12]),
  (1794, .if_icmp .eq 38, 1374, 0, 0, []),
  (1797, .iconst 0, 0, 0, 0, []),
  (1798, .ireturn, 0, 0, 0, [2]),
  (1799, .aload_n 1, 1, 0, 0, []),
  (1800, .aload_n 0, 0, 0, 0, []),
  (1801, .iload_n 3, 3, 0, 0, []),
  (1802, .iconst 1, 0, 0, 1, []),
  (1803, .iadd, 0, 0, 0, []),
  (1804, .iaload, 0, 0, 0, []),
  (1805, .aload_n 0, 0, 0, 0, []),
  (1806, .iload_n 3, 3, 0, 0, []),
  (1807, .iconst 2, 0, 0, 2, []),
  (1808, .iadd, 0, 0, 0, []),
  (1809, .iaload, 0, 0, 0, []),
  (1810, .invokevirtual 189, 107, 2, 0, [11]),
  (1813, .aload_n 2, 2, 0, 0, []),
  (1814, .aload_n 0, 0, 0, 0, []),
  (1815, .iload_n 3, 3, 0, 0, []),
  (1816, .iconst 1, 0, 0, 1, []),
  (1817, .iadd, 0, 0, 0, []),
  (1818, .iaload, 0, 0, 0, []),
  (1819, .aload_n 0, 0, 0, 0, []),
  (1820, .iload_n 3, 3, 0, 0, []),
  (1821, .iconst 2, 0, 0, 2, []),
  (1822, .iadd, 0, 0, 0, []),
  (1823, .iaload, 0, 0, 0, []),
  (1824, .invokevirtual 192, 223, 2, 0, [12]),
  (1827, .if_icmp .eq 5, 1374, 0, 0, []),
  (1830, .iconst 0, 0, 0, 0, []),
  (1831, .ireturn, 0, 0, 0, [2]),
  (1832, .iinc 3 7, 3, 0, 7, []),
  (1835, .goto (-1817), 10, 0, 0, []),
  (1838, .iconst 1, 0, 0, 1, []),
  (1839, .ireturn, 0, 0, 0, [2])]
noncomputable def zCodes : List (List zE) := [zc_X0_init, zc_X0_joinsAt, zc_X1_init, zc_X1_become, zc_X2_init, zc_X2_worthAt, zc_X3_init, zc_X3_standsAt, zc_X3_worthAt, zc_X3_joinsAt, zc_X4_init, zc_X4_standsAt, zc_X5_init, zc_X5_worthAt, zc_X6_init, zc_X6_become, zc_X6_put, zc_X6_hasRoom, zc_X7_init, zc_X7_append, zc_X7_clear, zc_X7_readText, zc_X7_readToken, zc_X7_readWord, zc_X7_isSpelledFrom, zc_X7_readNumber, zc_X7_isLetter, zc_X7_isDigit, zc_X7_isSign, zc_X7_refuse, zc_X7_pass, zc_X7_emit, zc_X7_opens, zc_X7_readOr, zc_X7_readAnd, zc_X7_readNot, zc_X7_readSum, zc_X7_readTerm, zc_X7_readOne, zc_X8_init, zc_X8_valueOf, zc_X8_join, zc_X9_init, zc_X9_clear, zc_X9_unite, zc_X9_sumWholes, zc_X9_rootOf, zc_X9_rootUnder, zc_X9_put, zc_X9_ownerOf, zc_X9_gainOf, zc_X9_gainAt, zc_X9_gainOfOthers, zc_X9_leftAt, zc_X9_leftOfAll, zc_X9_bestPlaceOf, zc_X9_isAtRest, zc_X9_worthOfStanding, zc_X9_dearestBut, zc_X9_firstWay, zc_X9_nextWay, zc_X9_digitsOf, zc_X10_init, zc_X10_worthAt, zc_X11_init, zc_X11_tide, zc_X11_height, zc_X11_come, zc_X11_go, zc_X11_at, zc_X11_count, zc_X11_feed, zc_X11_text, zc_X11_force, zc_X11_asks, zc_X11_island, zc_X11_told, zc_X11_then, zc_X11_joined, zc_X11_whose, zc_X11_gain, zc_X11_costs, zc_X11_year, zc_X11_best, zc_X11_wise, zc_X11_rest, zc_X11_ways, zc_X11_family, zc_X11_spoil, zc_X11_ransom, zc_X11_share, zc_X11_unfair, zc_X11_dear, zc_X11_holds, zc_X11_judge, zc_X11_when, zc_X11_were, zc_X11_film, zc_X11_laws, zc_X11_drawn, zc_X11_mean, zc_X11_image, zc_X11_back, zc_X11_sheet, zc_X11_cell, zc_X11_copy, zc_X11_islandsBy, zc_X11_taken, zc_X11_isWithin, zc_X11_isByte, zc_X11_isTide, zc_X11_isSheet, zc_X11_isOne, zc_X11_isIsland, zc_X11_everybody, zc_X11_islandAt, zc_X11_textAt, zc_X11_law, zc_X11_refusalOfSheet, zc_X11_refusalOfOwners, zc_X11_name, zc_X11_saysOf, zc_X11_worthUnder, zc_X11_costOf, zc_X11_stormOf, zc_X11_lookAt, zc_X11_lookWithCosts, zc_X11_lookForStorms, zc_X11_keptBy, zc_X11_gainBy, zc_X11_greatestDivisor, zc_X11_partIslands, zc_X11_firstOtherwise, zc_X11_newIsland, zc_X11_isOfKind, zc_X12_init, zc_X12_in, zc_X12_within, zc_X12_isTide, zc_X12_isIsland, zc_X12_isOne, zc_X12_tide, zc_X12_height, zc_X12_come, zc_X12_go, zc_X12_at, zc_X12_count, zc_X12_isByte, zc_X12_feed, zc_X12_wordFrom, zc_X12_next, zc_X12_rank, zc_X12_puts, zc_X12_unwinds, zc_X12_holds, zc_X12_opensOne, zc_X12_between, zc_X12_signOf, zc_X12_eRead, zc_X12_text, zc_X12_two, zc_X12_says, zc_X12_force, zc_X12_asksOf, zc_X12_asks, zc_X12_island, zc_X12_told, zc_X12_stands, zc_X12_worthOf, zc_X12_joinsOf, zc_X12_looksAt, zc_X12_then, zc_X12_joined, zc_X12_comesTo, zc_X12_isThere, zc_X12_owner, zc_X12_gainOf, zc_X12_costTo, zc_X12_leftAt, zc_X12_whose, zc_X12_gain, zc_X12_costs, zc_X12_year, zc_X12_bestPlace, zc_X12_best, zc_X12_wise, zc_X12_isRest, zc_X12_rest, zc_X12_next0, zc_X12_begins, zc_X12_digits, zc_X12_everybody, zc_X12_ways, zc_X12_leftOf, zc_X12_family, zc_X12_gainOfOthers, zc_X12_spoil, zc_X12_ransom, zc_X12_dearest, zc_X12_parts, zc_X12_share, zc_X12_unfair, zc_X12_worthAt, zc_X12_dear, zc_X12_holds_, zc_X12_sheetWrong, zc_X12_unlike, zc_X12_judge, zc_X12_when, zc_X12_were, zc_X12_film, zc_X12_laws, zc_X12_storms, zc_X12_drawn, zc_X12_lowest, zc_X12_mean, zc_X12_image, zc_X12_back, zc_X12_sheet, zc_X12_cell, zc_X12_copy, zc_X12_islandsBy, zc_X12_isUnder, zc_X12_taken, zc_J7_fill_53178, zc_J6_numberOfTrailingZeros_0f7a4, zc_J7_copyOf_59c91, zc_L_law]
noncomputable def zInfos : List (MethodName × ByteArray × Nat × Option FieldType × Nat) := [(yX0_init, cX0_init, 5, none, 0),
  (yX0_joinsAt, cX0_joinsAt, 2, (some .int), 0),
  (yX1_init, cX1_init, 1, none, 1),
  (yX1_become, cX1_become, 3, none, 1),
  (yX2_init, cX2_init, 5, none, 2),
  (yX2_worthAt, cX2_worthAt, 3, (some .int), 2),
  (yX3_init, cX3_init, 5, none, 3),
  (yX3_standsAt, cX3_standsAt, 2, (some .boolean), 3),
  (yX3_worthAt, cX3_worthAt, 3, (some .int), 3),
  (yX3_joinsAt, cX3_joinsAt, 2, (some .int), 3),
  (yX4_init, cX4_init, 5, none, 4),
  (yX4_standsAt, cX4_standsAt, 2, (some .boolean), 4),
  (yX5_init, cX5_init, 5, none, 5),
  (yX5_worthAt, cX5_worthAt, 3, (some .int), 5),
  (yX6_init, cX6_init, 1, none, 6),
  (yX6_become, cX6_become, 3, none, 6),
  (yX6_put, cX6_put, 3, none, 6),
  (yX6_hasRoom, cX6_hasRoom, 3, (some .boolean), 6),
  (yX7_init, cX7_init, 1, none, 7),
  (yX7_append, cX7_append, 2, none, 7),
  (yX7_clear, cX7_clear, 1, none, 7),
  (yX7_readText, cX7_readText, 4, (some (.object "HighWater$Text")), 7),
  (yX7_readToken, cX7_readToken, 1, none, 7),
  (yX7_readWord, cX7_readWord, 4, none, 7),
  (yX7_isSpelledFrom, cX7_isSpelledFrom, 4, (some .boolean), 7),
  (yX7_readNumber, cX7_readNumber, 1, none, 7),
  (yX7_isLetter, cX7_isLetter, 1, (some .boolean), 7),
  (yX7_isDigit, cX7_isDigit, 1, (some .boolean), 7),
  (yX7_isSign, cX7_isSign, 1, (some .boolean), 7),
  (yX7_refuse, cX7_refuse, 1, none, 7),
  (yX7_pass, cX7_pass, 2, none, 7),
  (yX7_emit, cX7_emit, 2, none, 7),
  (yX7_opens, cX7_opens, 1, (some .boolean), 7),
  (yX7_readOr, cX7_readOr, 2, none, 7),
  (yX7_readAnd, cX7_readAnd, 2, none, 7),
  (yX7_readNot, cX7_readNot, 2, none, 7),
  (yX7_readSum, cX7_readSum, 3, none, 7),
  (yX7_readTerm, cX7_readTerm, 2, none, 7),
  (yX7_readOne, cX7_readOne, 1, none, 7),
  (yX8_init, cX8_init, 4, none, 8),
  (yX8_valueOf, cX8_valueOf, 10, (some .int), 8),
  (yX8_join, cX8_join, 3, (some .int), 8),
  (yX9_init, cX9_init, 1, none, 9),
  (yX9_clear, cX9_clear, 4, none, 9),
  (yX9_unite, cX9_unite, 5, none, 9),
  (yX9_sumWholes, cX9_sumWholes, 2, none, 9),
  (yX9_rootOf, cX9_rootOf, 2, (some .int), 9),
  (yX9_rootUnder, cX9_rootUnder, 3, (some .int), 9),
  (yX9_put, cX9_put, 5, none, 9),
  (yX9_ownerOf, cX9_ownerOf, 4, (some .int), 9),
  (yX9_gainOf, cX9_gainOf, 2, (some .int), 9),
  (yX9_gainAt, cX9_gainAt, 5, (some .int), 9),
  (yX9_gainOfOthers, cX9_gainOfOthers, 4, (some .int), 9),
  (yX9_leftAt, cX9_leftAt, 3, (some .int), 9),
  (yX9_leftOfAll, cX9_leftOfAll, 4, (some .int), 9),
  (yX9_bestPlaceOf, cX9_bestPlaceOf, 6, (some .int), 9),
  (yX9_isAtRest, cX9_isAtRest, 2, (some .boolean), 9),
  (yX9_worthOfStanding, cX9_worthOfStanding, 4, (some .int), 9),
  (yX9_dearestBut, cX9_dearestBut, 4, (some .int), 9),
  (yX9_firstWay, cX9_firstWay, 4, (some .int), 9),
  (yX9_nextWay, cX9_nextWay, 3, none, 9),
  (yX9_digitsOf, cX9_digitsOf, 4, (some .int), 9),
  (yX10_init, cX10_init, 5, none, 10),
  (yX10_worthAt, cX10_worthAt, 3, (some .int), 10),
  (yX11_init, cX11_init, 2, none, 11),
  (yX11_tide, cX11_tide, 4, (some .int), 11),
  (yX11_height, cX11_height, 2, (some .int), 11),
  (yX11_come, cX11_come, 1, (some .int), 11),
  (yX11_go, cX11_go, 5, (some .int), 11),
  (yX11_at, cX11_at, 3, (some .int), 11),
  (yX11_count, cX11_count, 2, (some .int), 11),
  (yX11_feed, cX11_feed, 8, (some .int), 11),
  (yX11_text, cX11_text, 2, (some .int), 11),
  (yX11_force, cX11_force, 3, (some .int), 11),
  (yX11_asks, cX11_asks, 6, (some .int), 11),
  (yX11_island, cX11_island, 5, (some .int), 11),
  (yX11_told, cX11_told, 4, (some .int), 11),
  (yX11_then, cX11_then, 4, (some .int), 11),
  (yX11_joined, cX11_joined, 5, (some .int), 11),
  (yX11_whose, cX11_whose, 3, (some .int), 11),
  (yX11_gain, cX11_gain, 3, (some .int), 11),
  (yX11_costs, cX11_costs, 3, (some .int), 11),
  (yX11_year, cX11_year, 6, (some .int), 11),
  (yX11_best, cX11_best, 5, (some .int), 11),
  (yX11_wise, cX11_wise, 5, (some .int), 11),
  (yX11_rest, cX11_rest, 2, (some .int), 11),
  (yX11_ways, cX11_ways, 8, (some .int), 11),
  (yX11_family, cX11_family, 9, (some .int), 11),
  (yX11_spoil, cX11_spoil, 8, (some .int), 11),
  (yX11_ransom, cX11_ransom, 5, (some .int), 11),
  (yX11_share, cX11_share, 5, (some .int), 11),
  (yX11_unfair, cX11_unfair, 7, (some .int), 11),
  (yX11_dear, cX11_dear, 6, (some .int), 11),
  (yX11_holds, cX11_holds, 8, (some .int), 11),
  (yX11_judge, cX11_judge, 4, (some .int), 11),
  (yX11_when, cX11_when, 5, (some .int), 11),
  (yX11_were, cX11_were, 11, (some .int), 11),
  (yX11_film, cX11_film, 5, (some .int), 11),
  (yX11_laws, cX11_laws, 6, (some .int), 11),
  (yX11_drawn, cX11_drawn, 5, (some .int), 11),
  (yX11_mean, cX11_mean, 10, (some .long), 11),
  (yX11_image, cX11_image, 1, (some .int), 11),
  (yX11_back, cX11_back, 1, (some .int), 11),
  (yX11_sheet, cX11_sheet, 4, (some .int), 11),
  (yX11_cell, cX11_cell, 5, (some .int), 11),
  (yX11_copy, cX11_copy, 8, (some .int), 11),
  (yX11_islandsBy, cX11_islandsBy, 10, (some .int), 11),
  (yX11_taken, cX11_taken, 4, (some .int), 11),
  (yX11_isWithin, cX11_isWithin, 2, (some .boolean), 11),
  (yX11_isByte, cX11_isByte, 1, (some .boolean), 11),
  (yX11_isTide, cX11_isTide, 1, (some .boolean), 11),
  (yX11_isSheet, cX11_isSheet, 1, (some .boolean), 11),
  (yX11_isOne, cX11_isOne, 2, (some .boolean), 11),
  (yX11_isIsland, cX11_isIsland, 2, (some .boolean), 11),
  (yX11_everybody, cX11_everybody, 1, (some .int), 11),
  (yX11_islandAt, cX11_islandAt, 2, (some (.object "HighWater$Island")), 11),
  (yX11_textAt, cX11_textAt, 2, (some (.object "HighWater$Text")), 11),
  (yX11_law, cX11_law, 1, (some (.object "HighWater$Text")), 11),
  (yX11_refusalOfSheet, cX11_refusalOfSheet, 2, (some .int), 11),
  (yX11_refusalOfOwners, cX11_refusalOfOwners, 3, (some .int), 11),
  (yX11_name, cX11_name, 7, none, 11),
  (yX11_saysOf, cX11_saysOf, 4, (some .int), 11),
  (yX11_worthUnder, cX11_worthUnder, 6, (some .int), 11),
  (yX11_costOf, cX11_costOf, 6, (some .int), 11),
  (yX11_stormOf, cX11_stormOf, 4, (some .int), 11),
  (yX11_lookAt, cX11_lookAt, 6, none, 11),
  (yX11_lookWithCosts, cX11_lookWithCosts, 4, none, 11),
  (yX11_lookForStorms, cX11_lookForStorms, 3, none, 11),
  (yX11_keptBy, cX11_keptBy, 6, (some .int), 11),
  (yX11_gainBy, cX11_gainBy, 6, (some .int), 11),
  (yX11_greatestDivisor, cX11_greatestDivisor, 7, (some .long), 11),
  (yX11_partIslands, cX11_partIslands, 10, none, 11),
  (yX11_firstOtherwise, cX11_firstOtherwise, 3, (some .int), 11),
  (yX11_newIsland, cX11_newIsland, 4, (some (.object "HighWater$Island")), 11),
  (yX11_isOfKind, cX11_isOfKind, 2, (some .boolean), 11),
  (yX12_init, cX12_init, 2, none, 12),
  (yX12_in, cX12_in, 3, (some .boolean), 12),
  (yX12_within, cX12_within, 3, (some .int), 12),
  (yX12_isTide, cX12_isTide, 1, (some .boolean), 12),
  (yX12_isIsland, cX12_isIsland, 2, (some .boolean), 12),
  (yX12_isOne, cX12_isOne, 2, (some .boolean), 12),
  (yX12_tide, cX12_tide, 4, (some .int), 12),
  (yX12_height, cX12_height, 2, (some .int), 12),
  (yX12_come, cX12_come, 2, (some .int), 12),
  (yX12_go, cX12_go, 5, (some .int), 12),
  (yX12_at, cX12_at, 3, (some .int), 12),
  (yX12_count, cX12_count, 2, (some .int), 12),
  (yX12_isByte, cX12_isByte, 1, (some .boolean), 12),
  (yX12_feed, cX12_feed, 8, (some .int), 12),
  (yX12_wordFrom, cX12_wordFrom, 6, (some .int), 12),
  (yX12_next, cX12_next, 3, none, 12),
  (yX12_rank, cX12_rank, 1, (some .int), 12),
  (yX12_puts, cX12_puts, 2, none, 12),
  (yX12_unwinds, cX12_unwinds, 3, none, 12),
  (yX12_holds, cX12_holds, 2, none, 12),
  (yX12_opensOne, cX12_opensOne, 2, (some .boolean), 12),
  (yX12_between, cX12_between, 2, (some .boolean), 12),
  (yX12_signOf, cX12_signOf, 1, (some .int), 12),
  (yX12_eRead, cX12_eRead, 4, (some .boolean), 12),
  (yX12_text, cX12_text, 3, (some .int), 12),
  (yX12_two, cX12_two, 3, (some .int), 12),
  (yX12_says, cX12_says, 5, (some .int), 12),
  (yX12_force, cX12_force, 3, (some .int), 12),
  (yX12_asksOf, cX12_asksOf, 8, (some .int), 12),
  (yX12_asks, cX12_asks, 7, (some .int), 12),
  (yX12_island, cX12_island, 5, (some .int), 12),
  (yX12_told, cX12_told, 3, (some .int), 12),
  (yX12_stands, cX12_stands, 3, (some .boolean), 12),
  (yX12_worthOf, cX12_worthOf, 7, (some .int), 12),
  (yX12_joinsOf, cX12_joinsOf, 5, (some .int), 12),
  (yX12_looksAt, cX12_looksAt, 7, none, 12),
  (yX12_then, cX12_then, 4, (some .int), 12),
  (yX12_joined, cX12_joined, 5, (some .int), 12),
  (yX12_comesTo, cX12_comesTo, 3, none, 12),
  (yX12_isThere, cX12_isThere, 2, (some .boolean), 12),
  (yX12_owner, cX12_owner, 6, (some .int), 12),
  (yX12_gainOf, cX12_gainOf, 4, (some .int), 12),
  (yX12_costTo, cX12_costTo, 6, (some .int), 12),
  (yX12_leftAt, cX12_leftAt, 6, (some .int), 12),
  (yX12_whose, cX12_whose, 3, (some .int), 12),
  (yX12_gain, cX12_gain, 3, (some .int), 12),
  (yX12_costs, cX12_costs, 3, (some .int), 12),
  (yX12_year, cX12_year, 6, (some .int), 12),
  (yX12_bestPlace, cX12_bestPlace, 5, (some .int), 12),
  (yX12_best, cX12_best, 5, (some .int), 12),
  (yX12_wise, cX12_wise, 5, (some .int), 12),
  (yX12_isRest, cX12_isRest, 3, (some .boolean), 12),
  (yX12_rest, cX12_rest, 2, (some .int), 12),
  (yX12_next0, cX12_next0, 3, (some .boolean), 12),
  (yX12_begins, cX12_begins, 3, none, 12),
  (yX12_digits, cX12_digits, 4, (some .int), 12),
  (yX12_everybody, cX12_everybody, 1, (some .int), 12),
  (yX12_ways, cX12_ways, 6, (some .int), 12),
  (yX12_leftOf, cX12_leftOf, 5, (some .int), 12),
  (yX12_family, cX12_family, 8, (some .int), 12),
  (yX12_gainOfOthers, cX12_gainOfOthers, 4, (some .int), 12),
  (yX12_spoil, cX12_spoil, 8, (some .int), 12),
  (yX12_ransom, cX12_ransom, 5, (some .int), 12),
  (yX12_dearest, cX12_dearest, 4, (some .int), 12),
  (yX12_parts, cX12_parts, 9, none, 12),
  (yX12_share, cX12_share, 5, (some .int), 12),
  (yX12_unfair, cX12_unfair, 7, (some .int), 12),
  (yX12_worthAt, cX12_worthAt, 6, (some .int), 12),
  (yX12_dear, cX12_dear, 6, (some .int), 12),
  (yX12_holds_, cX12_holds_, 8, (some .int), 12),
  (yX12_sheetWrong, cX12_sheetWrong, 2, (some .int), 12),
  (yX12_unlike, cX12_unlike, 3, (some .int), 12),
  (yX12_judge, cX12_judge, 4, (some .int), 12),
  (yX12_when, cX12_when, 5, (some .int), 12),
  (yX12_were, cX12_were, 9, (some .int), 12),
  (yX12_film, cX12_film, 4, (some .int), 12),
  (yX12_laws, cX12_laws, 7, (some .int), 12),
  (yX12_storms, cX12_storms, 7, (some .int), 12),
  (yX12_drawn, cX12_drawn, 6, (some .int), 12),
  (yX12_lowest, cX12_lowest, 11, (some .long), 12),
  (yX12_mean, cX12_mean, 9, (some .long), 12),
  (yX12_image, cX12_image, 2, (some .int), 12),
  (yX12_back, cX12_back, 2, (some .int), 12),
  (yX12_sheet, cX12_sheet, 5, (some .int), 12),
  (yX12_cell, cX12_cell, 4, (some .int), 12),
  (yX12_copy, cX12_copy, 10, (some .int), 12),
  (yX12_islandsBy, cX12_islandsBy, 9, (some .int), 12),
  (yX12_isUnder, cX12_isUnder, 2, (some .boolean), 12),
  (yX12_taken, cX12_taken, 3, (some .int), 12),
  (yJ7_fill_53178, cJ7_fill_53178, 4, none, 14),
  (yJ6_numberOfTrailingZeros_0f7a4, cJ6_numberOfTrailingZeros_0f7a4, 2, (some .int), 15),
  (yJ7_copyOf_59c91, cJ7_copyOf_59c91, 3, (some (.array .int)), 14),
  (yL_law, cL_law, 4, (some .boolean), 13)]
/-- which method an island of a class answers with -/
def zDyn (x ci : Nat) : Nat :=
  if x = 7 then (if ci = 4 ∨ ci = 5 then 11 else x) else if x = 8 then (if ci = 2 then 5 else if ci = 10 then 63 else if ci = 5 then 13 else x) else if x = 9 then (if ci = 0 then 1 else x) else x
end
section
/-! WHAT THE TABLES SAY, as certificates: where each word stands among the tables' words -/
noncomputable def zTb : List Cond := lw_tbl.filter goodWord
noncomputable def zHas (i : Nat) (w : Cond) : Bool := decide (lw_tbl[i]? = some w) && goodWord w
theorem zHas_in {i : Nat} {w : Cond} (h : zHas i w = true) : w ∈ zTb := by
  unfold zHas at h
  rw [Bool.and_eq_true, decide_eq_true_eq] at h
  exact List.mem_filter.mpr ⟨List.mem_of_getElem? h.1, h.2⟩
noncomputable def zHasL (is : List Nat) (ws : List Cond) : Bool := is.length == ws.length && (is.zip ws).all (fun q => zHas q.1 q.2)
theorem zHasL_in {is : List Nat} {ws : List Cond} (h : zHasL is ws = true) : ∀ w ∈ ws, w ∈ zTb := by
  unfold zHasL at h
  rw [Bool.and_eq_true] at h
  obtain ⟨h1, h2⟩ := h
  have h1 : is.length = ws.length := by simpa using h1
  intro w hw
  obtain ⟨k, hk⟩ := List.getElem?_of_mem hw
  have hl : k < is.length := by
    have := (List.getElem?_eq_some_iff.mp hk).1
    omega
  have hz : (is.zip ws)[k]? = some (is[k], w) := by
    rw [List.getElem?_zip_eq_some]
    exact ⟨List.getElem?_eq_getElem hl, hk⟩
  exact zHas_in (i := is[k]) (List.all_eq_true.mp h2 _ (List.mem_of_getElem? hz))
noncomputable def zRnL : List String := [RX0, RX1, RX2, RX3, RX4, RX5, RX6, RX7, RX8, RX9, RX10, RX11, RX12, RL, RJ7, RJ6]
noncomputable def zRn (k : Nat) : String := zRnL.getD k ""
noncomputable def vwG (ci : Nat) : vw_C := vwCl.getD ci (RX0, TX0, 4)
noncomputable def zFd (ci k : Nat) : String × String × String × Bool := (vwG ci).2.1 k
noncomputable def zDs (ci k : Nat) : String := (zFd ci k).2.2.1
noncomputable def zTyOf (ci k : Nat) : FieldType := (parseFieldDescriptor (zDs ci k)).getD .int
/-- which fields hold references -/
def zFRL : List (List Nat) := [[], [0, 1], [], [], [], [], [0], [0, 3], [0], [0, 1, 2, 3, 4, 5, 6], [], [0, 1, 3, 4, 6, 7, 8, 9, 10, 11, 12], [0, 2, 3, 4, 5, 7, 8, 10, 11, 18, 19, 20, 21, 22, 23, 28, 29, 33, 34, 35, 37, 38, 39, 40]]
def zFR (ci k : Nat) : Bool := (zFRL.getD ci []).contains k
noncomputable def zy (x : Nat) : MethodName := (zInfos.getD x (yX0_init, cX0_init, 0, none, 0)).1
noncomputable def zby (x : Nat) : ByteArray := (zInfos.getD x (yX0_init, cX0_init, 0, none, 0)).2.1
noncomputable def zml (x : Nat) : Nat := (zInfos.getD x (yX0_init, cX0_init, 0, none, 0)).2.2.1
noncomputable def zrt (x : Nat) : Option FieldType := (zInfos.getD x (yX0_init, cX0_init, 0, none, 0)).2.2.2.1
noncomputable def zow (x : Nat) : Nat := (zInfos.getD x (yX0_init, cX0_init, 0, none, 0)).2.2.2.2
noncomputable def zcd (x : Nat) : Cond := .code (zy x) (zby x) (zml x) (zrt x)
noncomputable def zFC : List (Nat × Nat × Nat × Nat × Nat × Nat) := [(11, 10, 0, 11, 403, 0), (11, 16, 1, 11, 404, 0), (11, 19, 2, 11, 405, 0), (11, 25, 3, 11, 406, 0), (11, 31, 4, 11, 407, 0), (11, 35, 5, 11, 408, 0), (11, 42, 6, 11, 409, 0), (11, 48, 7, 11, 410, 0), (11, 55, 8, 11, 411, 0), (11, 59, 9, 11, 412, 0), (11, 63, 10, 11, 413, 0), (11, 66, 11, 11, 414, 0), (11, 69, 12, 11, 415, 0), (11, 72, 0, 1, 113, 0), (11, 113, 2, 1, 117, 0), (11, 116, 1, 1, 115, 0), (11, 126, 3, 1, 119, 0), (11, 128, 4, 1, 121, 0), (11, 131, 1, 7, 146, 0), (11, 137, 2, 7, 148, 0), (11, 162, 0, 3, 544, 0), (11, 165, 1, 3, 546, 0), (11, 168, 2, 3, 552, 0), (11, 171, 3, 3, 560, 0), (11, 178, 0, 9, 187, 0), (11, 181, 1, 9, 189, 0), (11, 185, 2, 9, 191, 0), (11, 258, 3, 9, 193, 0), (11, 290, 2, 6, 233, 0), (11, 291, 1, 6, 231, 0), (11, 297, 0, 6, 229, 0), (11, 342, 4, 9, 195, 0), (0, 9, 2, 0, 550, 551), (0, 15, 3, 0, 558, 559), (1, 9, 0, 1, 112, 0), (1, 17, 1, 1, 114, 0), (1, 20, 2, 1, 116, 0), (1, 24, 3, 1, 118, 0), (1, 27, 4, 1, 120, 0), (2, 7, 3, 2, 554, 555), (3, 9, 0, 3, 543, 0), (3, 15, 1, 3, 545, 0), (3, 18, 2, 3, 547, 0), (3, 21, 3, 3, 553, 0), (4, 7, 2, 4, 548, 549), (5, 7, 3, 5, 556, 557), (6, 9, 0, 6, 228, 0), (6, 15, 1, 6, 230, 0), (6, 19, 2, 6, 232, 0), (7, 9, 0, 7, 144, 0), (7, 15, 1, 7, 145, 0), (7, 19, 2, 7, 147, 0), (7, 22, 3, 7, 149, 0), (7, 25, 4, 7, 150, 0), (7, 28, 5, 7, 151, 0), (7, 31, 6, 7, 152, 0), (7, 34, 7, 7, 153, 0), (7, 37, 8, 7, 154, 0), (7, 40, 9, 7, 155, 0), (8, 9, 0, 8, 388, 0), (8, 15, 1, 8, 389, 0), (8, 19, 2, 8, 390, 0), (9, 9, 0, 9, 186, 0), (9, 15, 1, 9, 188, 0), (9, 19, 2, 9, 190, 0), (9, 22, 3, 9, 192, 0), (9, 27, 4, 9, 194, 0), (9, 30, 5, 9, 196, 0), (9, 33, 6, 9, 197, 0), (9, 36, 7, 9, 198, 0), (9, 40, 8, 9, 199, 0), (12, 7, 0, 12, 1026, 0), (12, 13, 2, 12, 1028, 0), (12, 16, 3, 12, 1029, 0), (12, 19, 4, 12, 1030, 0), (12, 22, 5, 12, 1031, 0), (12, 25, 7, 12, 1033, 0), (12, 28, 8, 12, 1034, 0), (12, 31, 10, 12, 1036, 0), (12, 34, 11, 12, 1037, 0), (12, 37, 18, 12, 1044, 0), (12, 40, 19, 12, 1045, 0), (12, 43, 20, 12, 1046, 0), (12, 46, 21, 12, 1047, 0), (12, 49, 22, 12, 1048, 0), (12, 52, 23, 12, 1049, 0), (12, 55, 28, 12, 1054, 0), (12, 58, 29, 12, 1055, 0), (12, 61, 33, 12, 1059, 0), (12, 64, 34, 12, 1060, 0), (12, 67, 35, 12, 1061, 0), (12, 70, 37, 12, 1063, 0), (12, 73, 38, 12, 1064, 0), (12, 76, 39, 12, 1065, 0), (12, 79, 40, 12, 1066, 0), (12, 82, 9, 12, 1035, 0), (12, 94, 1, 12, 1027, 0), (12, 97, 6, 12, 1032, 0), (12, 110, 12, 12, 1038, 0), (12, 113, 13, 12, 1039, 0), (12, 119, 24, 12, 1050, 0), (12, 122, 25, 12, 1051, 0), (12, 125, 26, 12, 1052, 0), (12, 128, 27, 12, 1053, 0), (12, 135, 32, 12, 1058, 0), (12, 138, 30, 12, 1056, 0), (12, 145, 31, 12, 1057, 0), (12, 189, 36, 12, 1062, 0), (12, 281, 14, 12, 1040, 0), (12, 285, 15, 12, 1041, 0), (12, 288, 16, 12, 1042, 0), (12, 291, 17, 12, 1043, 0)]
noncomputable def zMC : List (Nat × Nat × Nat × Nat × Nat × List Nat) := [(11, 9, 2, 0, 3, [107, 76]), (11, 41, 18, 0, 3, [141, 77]), (11, 54, 42, 0, 3, [182, 78]), (11, 75, 224, 2, 0, [220, 221, 79]), (11, 81, 14, 0, 3, [225, 80]), (11, 94, 19, 1, 1, [290, 291, 292, 77]), (11, 98, 21, 0, 1, [294, 295, 296, 77]), (11, 102, 20, 0, 1, [399, 400, 401, 77]), (11, 105, 110, 1, 0, [447, 448, 75]), (11, 109, 108, 2, 0, [450, 451, 75]), (11, 120, 112, 1, 1, [465, 467, 14, 75]), (11, 123, 113, 1, 1, [469, 471, 15, 75]), (11, 134, 109, 1, 0, [485, 486, 75]), (11, 140, 116, 1, 1, [496, 498, 16, 75]), (11, 144, 120, 6, 1, [504, 506, 17, 75]), (11, 148, 117, 0, 1, [508, 510, 18, 75]), (11, 150, 121, 2, 1, [512, 514, 19, 75]), (11, 154, 133, 4, 0, [531, 532, 75]), (11, 158, 115, 1, 1, [625, 627, 20, 75]), (11, 174, 125, 2, 1, [633, 635, 21, 75]), (11, 188, 49, 1, 1, [723, 724, 725, 78]), (11, 192, 50, 1, 1, [731, 732, 733, 78]), (11, 195, 123, 3, 1, [743, 745, 26, 75]), (11, 199, 126, 1, 1, [758, 760, 27, 75]), (11, 202, 55, 1, 1, [762, 763, 764, 78]), (11, 205, 53, 2, 1, [770, 767, 768, 78]), (11, 209, 56, 0, 1, [779, 780, 781, 78]), (11, 213, 114, 0, 1, [788, 790, 28, 75]), (11, 216, 59, 1, 1, [792, 793, 794, 78]), (11, 219, 61, 1, 1, [797, 798, 799, 78]), (11, 222, 60, 1, 1, [801, 802, 803, 78]), (11, 225, 54, 1, 1, [809, 810, 811, 78]), (11, 228, 48, 2, 1, [707, 708, 709, 78]), (11, 232, 52, 1, 1, [817, 818, 819, 78]), (11, 235, 131, 3, 1, [830, 832, 29, 75]), (11, 247, 57, 1, 1, [846, 847, 848, 78]), (11, 251, 119, 1, 1, [859, 861, 30, 75]), (11, 254, 132, 1, 1, [870, 872, 32, 75]), (11, 261, 111, 1, 0, [867, 868, 75]), (11, 264, 15, 2, 1, [886, 887, 888, 80]), (11, 267, 16, 2, 1, [891, 892, 893, 80]), (11, 269, 127, 1, 1, [904, 906, 33, 75]), (11, 272, 128, 1, 1, [912, 914, 35, 75]), (11, 275, 129, 3, 1, [919, 921, 36, 75]), (11, 280, 130, 2, 0, [928, 929, 75]), (11, 284, 3, 1, 1, [935, 936, 937, 76]), (11, 287, 118, 1, 1, [863, 865, 31, 75]), (11, 294, 17, 2, 1, [956, 957, 958, 80]), (11, 306, 75, 4, 1, [965, 528, 529, 75]), (11, 310, 134, 2, 0, [970, 971, 75]), (11, 314, 40, 3, 1, [516, 517, 518, 85]), (11, 318, 8, 2, 6, [646, 649, 647, 650, 647, 89, 651, 652, 90, 648, 647, 89, 654, 647, 89, 655, 656, 93, 661, 662, 92]), (11, 324, 43, 2, 1, [637, 638, 639, 78]), (11, 326, 122, 3, 1, [642, 644, 22, 75]), (11, 330, 7, 1, 6, [666, 669, 667, 670, 667, 89, 671, 667, 89, 668, 667, 89, 672, 673, 91, 675, 673, 91, 676, 667, 89]), (11, 333, 9, 1, 6, [678, 681, 679, 682, 683, 94, 685, 679, 89, 680, 679, 89, 686, 679, 89, 687, 679, 89, 688, 679, 89]), (11, 336, 44, 2, 1, [690, 691, 692, 78]), (11, 339, 45, 0, 1, [694, 695, 696, 78]), (11, 345, 124, 2, 1, [908, 910, 34, 75]), (11, 354, 58, 1, 1, [834, 835, 836, 78]), (11, 359, 4, 4, 2, [536, 537, 90]), (11, 364, 10, 4, 2, [572, 573, 91]), (11, 367, 62, 4, 2, [583, 584, 92]), (11, 370, 12, 4, 2, [594, 595, 93]), (11, 373, 0, 4, 2, [605, 606, 94]), (11, 374, 6, 4, 2, [615, 540, 89]), (0, 3, 6, 4, 2, [608, 540, 89]), (2, 1, 6, 4, 2, [539, 540, 89]), (4, 1, 6, 4, 2, [575, 540, 89]), (5, 1, 10, 4, 2, [597, 573, 91]), (5, 13, 8, 2, 5, [658, 659, 602, 647, 89]), (6, 22, 224, 2, 0, [890, 221, 79]), (7, 43, 22, 0, 1, [298, 300, 0, 77]), (7, 46, 30, 1, 1, [326, 328, 4, 77]), (7, 50, 33, 0, 1, [334, 336, 6, 77]), (7, 55, 226, 2, 0, [368, 369, 79]), (7, 61, 39, 3, 2, [384, 385, 85]), (7, 64, 26, 1, 0, [302, 303, 77]), (7, 68, 23, 0, 1, [305, 307, 1, 77]), (7, 71, 27, 1, 0, [316, 317, 77]), (7, 74, 25, 0, 1, [319, 321, 3, 77]), (7, 77, 28, 1, 0, [323, 324, 77]), (7, 92, 24, 1, 1, [312, 314, 2, 77]), (7, 95, 29, 0, 1, [330, 332, 5, 77]), (7, 98, 34, 0, 1, [338, 340, 7, 77]), (7, 101, 31, 1, 1, [350, 352, 10, 77]), (7, 104, 35, 0, 1, [342, 344, 8, 77]), (7, 107, 32, 0, 1, [346, 348, 9, 77]), (7, 111, 36, 0, 1, [354, 356, 11, 77]), (7, 114, 37, 0, 1, [358, 360, 12, 77]), (7, 117, 38, 0, 1, [362, 364, 13, 77]), (8, 22, 41, 3, 0, [520, 521, 85]), (9, 43, 224, 2, 0, [641, 221, 79]), (9, 49, 46, 1, 1, [698, 700, 23, 78]), (9, 53, 225, 1, 0, [702, 703, 95]), (9, 64, 47, 1, 1, [711, 713, 24, 78]), (9, 67, 51, 2, 1, [735, 737, 25, 78]), (9, 70, 50, 1, 1, [821, 732, 733, 78]), (9, 73, 53, 2, 1, [766, 767, 768, 78]), (9, 76, 55, 1, 1, [783, 763, 764, 78]), (9, 79, 49, 1, 1, [850, 724, 725, 78]), (9, 82, 48, 2, 1, [796, 708, 709, 78]), (10, 1, 4, 4, 2, [586, 537, 90]), (10, 7, 5, 2, 4, [664, 1456, 591, 652, 90]), (13, 9, 64, 0, 2, [98, 99, 75]), (13, 12, 135, 0, 2, [975, 976, 88]), (13, 13, 65, 2, 1, [443, 444, 445, 75]), (13, 17, 141, 2, 1, [1150, 1151, 1152, 88]), (13, 18, 66, 1, 1, [453, 454, 455, 75]), (13, 22, 142, 1, 1, [1157, 1158, 1159, 88]), (13, 23, 67, 0, 1, [457, 458, 459, 75]), (13, 27, 143, 0, 1, [1161, 1162, 1163, 88]), (13, 28, 68, 3, 1, [461, 462, 463, 75]), (13, 32, 144, 3, 1, [1165, 1166, 1167, 88]), (13, 33, 69, 2, 1, [473, 474, 475, 75]), (13, 36, 145, 2, 1, [1177, 1178, 1179, 88]), (13, 37, 70, 1, 1, [477, 478, 479, 75]), (13, 40, 146, 1, 1, [1181, 1182, 1183, 88]), (13, 41, 71, 6, 1, [481, 482, 483, 75]), (13, 45, 148, 6, 1, [1185, 1186, 1187, 88]), (13, 46, 72, 0, 1, [488, 489, 490, 75]), (13, 49, 159, 0, 1, [1192, 980, 981, 88]), (13, 50, 73, 1, 1, [492, 493, 494, 75]), (13, 53, 162, 1, 1, [1193, 1194, 1195, 88]), (13, 54, 74, 5, 1, [500, 501, 502, 75]), (13, 58, 164, 5, 1, [1197, 1198, 1199, 88]), (13, 59, 75, 4, 1, [527, 528, 529, 75]), (13, 63, 165, 4, 1, [1215, 1216, 1217, 88]), (13, 64, 76, 2, 1, [621, 622, 623, 75]), (13, 67, 166, 2, 1, [1219, 1220, 1221, 88]), (13, 68, 77, 3, 1, [629, 630, 631, 75]), (13, 71, 171, 3, 1, [1223, 1224, 1225, 88]), (13, 72, 78, 2, 1, [715, 716, 717, 75]), (13, 75, 172, 2, 1, [1243, 1244, 1245, 88]), (13, 76, 79, 2, 1, [719, 720, 721, 75]), (13, 79, 179, 2, 1, [1247, 1248, 1249, 88]), (13, 80, 80, 2, 1, [727, 728, 729, 75]), (13, 83, 180, 2, 1, [1263, 1264, 1265, 88]), (13, 84, 81, 2, 1, [739, 740, 741, 75]), (13, 87, 181, 2, 1, [1271, 1272, 1273, 88]), (13, 88, 82, 2, 1, [750, 751, 752, 75]), (13, 91, 182, 2, 1, [1279, 1280, 1281, 88]), (13, 92, 83, 3, 1, [754, 755, 756, 75]), (13, 95, 184, 3, 1, [1283, 1284, 1285, 88]), (13, 96, 84, 1, 1, [771, 772, 773, 75]), (13, 99, 185, 1, 1, [1295, 1296, 1297, 88]), (13, 100, 85, 1, 1, [775, 776, 777, 75]), (13, 103, 187, 1, 1, [1299, 1300, 1301, 88]), (13, 104, 86, 2, 1, [784, 785, 786, 75]), (13, 107, 192, 2, 1, [1307, 1308, 1309, 88]), (13, 108, 87, 3, 1, [805, 806, 807, 75]), (13, 111, 194, 3, 1, [1327, 1328, 1329, 88]), (13, 112, 88, 3, 1, [813, 814, 815, 75]), (13, 115, 196, 3, 1, [1336, 1337, 1338, 88]), (13, 116, 89, 3, 1, [822, 823, 824, 75]), (13, 119, 197, 3, 1, [1344, 1345, 1346, 88]), (13, 120, 90, 4, 1, [826, 827, 828, 75]), (13, 123, 200, 4, 1, [1348, 1349, 1350, 88]), (13, 124, 91, 3, 1, [838, 839, 840, 75]), (13, 127, 201, 3, 1, [1360, 1361, 1362, 88]), (13, 128, 92, 1, 1, [842, 843, 844, 75]), (13, 131, 203, 1, 1, [1364, 1365, 1366, 88]), (13, 132, 93, 3, 1, [851, 852, 853, 75]), (13, 135, 204, 3, 1, [1372, 1373, 1374, 88]), (13, 136, 94, 2, 1, [855, 856, 857, 75]), (13, 139, 207, 2, 1, [1376, 1377, 1378, 88]), (13, 140, 95, 1, 1, [874, 875, 876, 75]), (13, 143, 208, 1, 1, [1388, 1389, 1390, 88]), (13, 144, 96, 4, 1, [878, 879, 880, 75]), (13, 147, 209, 4, 1, [1392, 1393, 1394, 88]), (13, 148, 97, 2, 1, [882, 883, 884, 75]), (13, 151, 210, 2, 1, [1396, 1397, 1398, 88]), (13, 152, 98, 3, 1, [895, 896, 897, 75]), (13, 155, 211, 3, 1, [1400, 1401, 1402, 88]), (13, 156, 99, 4, 1, [900, 901, 902, 75]), (13, 159, 213, 4, 1, [1405, 1406, 1407, 88]), (13, 160, 100, 5, 1, [923, 924, 925, 75]), (13, 164, 215, 5, 1, [1416, 1417, 1418, 88]), (13, 165, 101, 0, 1, [931, 932, 933, 75]), (13, 168, 216, 0, 1, [1424, 1425, 1426, 88]), (13, 169, 102, 0, 1, [940, 941, 942, 75]), (13, 172, 217, 0, 1, [1428, 1429, 1430, 88]), (13, 173, 103, 3, 1, [944, 945, 946, 75]), (13, 176, 218, 3, 1, [1432, 1433, 1434, 88]), (13, 177, 104, 3, 1, [948, 949, 950, 75]), (13, 180, 219, 3, 1, [1436, 1437, 1438, 88]), (13, 181, 105, 5, 1, [952, 953, 954, 75]), (13, 184, 220, 5, 1, [1440, 1441, 1442, 88]), (13, 185, 106, 4, 1, [961, 962, 963, 75]), (13, 188, 221, 4, 1, [1444, 1445, 1446, 88]), (13, 189, 107, 2, 1, [966, 967, 968, 75]), (13, 192, 223, 2, 1, [1449, 1450, 1451, 88]), (12, 86, 159, 0, 1, [979, 980, 981, 88]), (12, 90, 136, 3, 0, [987, 988, 88]), (12, 100, 138, 1, 0, [1154, 1155, 88]), (12, 104, 140, 1, 1, [1169, 1171, 46, 88]), (12, 107, 139, 1, 1, [1173, 1175, 47, 88]), (12, 116, 147, 1, 0, [1189, 1190, 88]), (12, 131, 149, 2, 1, [990, 992, 38, 88]), (12, 141, 151, 1, 0, [1007, 1008, 88]), (12, 148, 152, 1, 1, [999, 1001, 40, 88]), (12, 152, 154, 1, 1, [1014, 1016, 43, 88]), (12, 155, 153, 1, 1, [1003, 1005, 41, 88]), (12, 158, 150, 0, 1, [983, 985, 37, 88]), (12, 162, 155, 1, 1, [1010, 1012, 42, 88]), (12, 165, 157, 0, 1, [1018, 1020, 44, 88]), (12, 168, 156, 1, 1, [1022, 1024, 45, 88]), (12, 171, 158, 0, 1, [994, 996, 39, 88]), (12, 175, 160, 3, 0, [1209, 1210, 88]), (12, 179, 161, 1, 1, [1205, 1207, 49, 88]), (12, 182, 137, 3, 0, [1212, 1213, 88]), (12, 185, 163, 7, 1, [1201, 1203, 48, 88]), (12, 192, 169, 2, 1, [1231, 1233, 51, 88]), (12, 195, 167, 2, 1, [1235, 1237, 52, 88]), (12, 199, 168, 2, 1, [1239, 1241, 53, 88]), (12, 202, 170, 1, 1, [1227, 1229, 50, 88]), (12, 205, 174, 1, 1, [1259, 1261, 56, 88]), (12, 208, 175, 1, 1, [1255, 1257, 55, 88]), (12, 211, 176, 1, 1, [1267, 1269, 57, 88]), (12, 214, 177, 3, 1, [1275, 1277, 58, 88]), (12, 217, 173, 1, 1, [1251, 1253, 54, 88]), (12, 220, 178, 3, 1, [1291, 1293, 60, 88]), (12, 223, 183, 2, 1, [1287, 1289, 59, 88]), (12, 226, 186, 1, 1, [1303, 1305, 61, 88]), (12, 229, 191, 0, 1, [1311, 1313, 62, 88]), (12, 232, 189, 1, 1, [1315, 1317, 63, 88]), (12, 235, 190, 1, 1, [1319, 1321, 64, 88]), (12, 238, 188, 1, 1, [1323, 1325, 65, 88]), (12, 242, 193, 2, 1, [1332, 1334, 66, 88]), (12, 245, 195, 1, 1, [1340, 1342, 67, 88]), (12, 248, 198, 1, 1, [1356, 1358, 69, 88]), (12, 251, 199, 3, 1, [1352, 1354, 68, 88]), (12, 255, 202, 2, 1, [1368, 1370, 70, 88]), (12, 259, 205, 1, 1, [1380, 1382, 71, 88]), (12, 262, 206, 1, 1, [1384, 1386, 72, 88]), (12, 272, 212, 2, 1, [1409, 1411, 73, 88]), (12, 277, 214, 3, 0, [1421, 1422, 88]), (12, 294, 165, 4, 1, [1448, 1216, 1217, 88]), (12, 298, 222, 2, 0, [1453, 1454, 88])]
noncomputable def zPC : List (Nat × Nat × Nat × List Nat) := [(11, 1, 5, [101, 102, 103]), (11, 239, 1, [523, 379, 86, 380]), (11, 244, 2, [524, 525, 86, 526]), (11, 300, 4, [960, 383, 382, 87]), (11, 321, 3, [747, 748, 86, 749]), (1, 3, 5, [109, 102, 103]), (1, 30, 4, [939, 383, 382, 87]), (3, 3, 5, [542, 102, 103]), (6, 3, 5, [227, 102, 103]), (7, 3, 5, [143, 102, 103]), (8, 3, 5, [387, 102, 103]), (9, 3, 5, [184, 102, 103]), (9, 58, 1, [706, 379, 86, 380]), (12, 1, 5, [978, 102, 103]), (14, 150, 4, [381, 383, 382, 87]), (14, 304, 1, [378, 379, 86, 380])]
noncomputable def zLay : List (List Nat) := [[609, 610, 611, 612], [122, 124, 126, 128, 130], [561, 563, 565, 567], [616, 617, 618, 619], [576, 577, 578, 579], [598, 599, 600, 601], [234, 236, 238], [156, 158, 160, 162, 164, 166, 168, 170, 172, 174], [391, 393, 395], [200, 202, 204, 206, 208, 210, 212, 214, 216], [587, 588, 589, 590], [416, 418, 420, 422, 424, 426, 428, 430, 432, 434, 436, 438, 440], [1067, 1069, 1071, 1073, 1075, 1077, 1079, 1081, 1083, 1085, 1087, 1089, 1091, 1093, 1095, 1097, 1099, 1101, 1103, 1105, 1107, 1109, 1111, 1113, 1115, 1117, 1119, 1121, 1123, 1125, 1127, 1129, 1131, 1133, 1135, 1137, 1139, 1141, 1143, 1145, 1147]]
noncomputable def zNC : List (Nat × Nat × Nat × List Nat) := [(11, 7, 1, [104, 76, 105]), (11, 23, 3, [134, 89, 614]), (11, 29, 8, [136, 85, 367]), (11, 39, 7, [138, 77, 139]), (11, 46, 6, [177, 80, 223]), (11, 52, 9, [179, 78, 180]), (11, 357, 2, [534, 90, 535]), (11, 362, 4, [570, 91, 571]), (11, 365, 10, [581, 92, 582]), (11, 368, 5, [592, 93, 593]), (11, 371, 0, [603, 94, 604]), (1, 15, 22, [110, 133]), (7, 53, 8, [366, 85, 367]), (9, 25, 22, [185, 133]), (13, 7, 11, [96, 75, 97]), (13, 10, 12, [973, 88, 974])]
noncomputable def zAC : List Nat := [133, 219]
noncomputable def zKC : List (Nat × Nat × Int32 × Nat) := [(11, 268, 99999, 899), (12, 161, 100000, 998), (12, 241, (-1000000), 1331), (12, 265, 99999, 1404), (15, 264, 65536, 705)]
noncomputable def zLC : List (Nat × Nat × Nat × Nat × Nat) := [(11, 278, 4611686018427387904, 1, 927), (11, 348, 48271, 0, 916), (11, 350, 2147483647, 0, 917), (11, 352, 100, 0, 918), (12, 266, 48271, 0, 1413), (12, 268, 2147483647, 0, 1414), (12, 270, 100, 0, 1415), (12, 275, 4611686018427387904, 1, 1420)]
noncomputable def zCx : List Nat := [607, 684, 108, 938, 538, 653, 541, 677, 665, 689, 574, 674, 596, 657, 226, 889, 894, 959, 142, 293, 402, 297, 301, 308, 315, 322, 304, 318, 325, 333, 329, 353, 349, 337, 341, 345, 357, 361, 365, 386, 519, 522, 183, 640, 693, 697, 701, 714, 710, 726, 734, 738, 820, 769, 812, 765, 782, 849, 837, 795, 804, 800, 585, 663, 100, 446, 456, 460, 464, 476, 480, 484, 491, 495, 503, 530, 624, 632, 718, 722, 730, 742, 753, 757, 774, 778, 787, 808, 816, 825, 829, 841, 845, 854, 858, 877, 881, 885, 898, 903, 926, 934, 943, 947, 951, 955, 964, 969, 452, 487, 449, 869, 468, 472, 791, 628, 499, 511, 866, 862, 507, 515, 645, 746, 911, 636, 761, 907, 915, 922, 930, 833, 873, 533, 972, 977, 989, 1214, 1156, 1176, 1172, 1153, 1160, 1164, 1168, 1180, 1184, 1191, 1188, 993, 986, 1009, 1002, 1006, 1017, 1013, 1025, 1021, 997, 982, 1211, 1208, 1196, 1204, 1200, 1218, 1222, 1238, 1242, 1234, 1230, 1226, 1246, 1254, 1262, 1258, 1270, 1278, 1294, 1250, 1266, 1274, 1282, 1290, 1286, 1298, 1306, 1302, 1326, 1318, 1322, 1314, 1310, 1335, 1330, 1343, 1339, 1347, 1359, 1355, 1351, 1363, 1371, 1367, 1375, 1383, 1387, 1379, 1391, 1395, 1399, 1403, 1412, 1408, 1423, 1419, 1427, 1431, 1435, 1439, 1443, 1447, 1455, 1452, 222, 704, 370]

/-- the words that are no good words, but stay along all the same -/
noncomputable def zXw : List Cond := [.arrayOver (.object RX3), .arrayOver (.object RX8), .arrayOver (.object RX6), .arrayOver (.array .int), .methodLinkNest RX11 9 yX1_init RX11, .methodLinkNest RX11 41 yX7_init RX11, .methodLinkNest RX11 54 yX9_init RX11, .methodLinkNest RX11 81 yX6_init RX11]
noncomputable def zFchk (q : Nat × Nat × Nat × Nat × Nat × Nat) : Bool := match q with
  | (own, idx, x, y, i, j) => (List.range 13).all fun ci => !(zSub ci y) || (decide (x < (vwG ci).2.2) && zHas i (.fieldLink (zRn own) idx (zRn y) (zFd ci x).2.1 (zFd ci x).2.2.1) && (decide ((zFd ci x).1 = zRn y) || zHas j (.sameField (zRn y) (zFd ci x).1 (zFd ci x).2.1 (zFd ci x).2.2.1)))
theorem zFC_ok : zFC.all zFchk = true := by decide +kernel
noncomputable def zMw (own idx x kind : Nat) : List Cond := match kind with
  | 0 => [.methodLink (zRn own) idx (zy x), .static (zy x), .initialized (zy x).cls]
  | 1 => [.methodLink (zRn own) idx (zy x), .instanceMethod (zy x), .selects (zy x).cls (zy x) (zy x), .initialized (zy x).cls]
  | 2 => [.methodLink (zRn own) idx (zy x), .instanceMethod (zy x), .initialized (zy x).cls]
  | 3 => [.instanceMethod (zy x), .initialized (zy x).cls]
  | 4 => [.methodLink (zRn own) idx (zy x), .sameMethod (zy x).cls (zy x).cls (zy x).name (zy x).desc, .superclass (zRn own) (zy x).cls, .instanceMethod (zy x), .initialized (zy x).cls]
  | 5 => [.methodLink (zRn own) idx ⟨RX4, (zy x).name, (zy x).desc⟩, .sameMethod RX4 (zy x).cls (zy x).name (zy x).desc, .superclass (zRn own) RX4, .instanceMethod (zy x), .initialized (zy x).cls]
  | _ => [.methodLink (zRn own) idx (zy x), .sameMethod (zy x).cls (zy x).cls (zy x).name (zy x).desc, .instanceMethod (zy x)] ++ [0, 2, 3, 4, 5, 10].flatMap fun ci => [.selects (zRn ci) (zy x) (zy (zDyn x ci)), .instanceMethod (zy (zDyn x ci)), .initialized (zy (zDyn x ci)).cls]
/-- a callee: its name is no handle's, its arguments are so many -/
noncomputable def zNchk (x n : Nat) : Bool := decide ((zy x).cls ≠ "java/lang/invoke/MethodHandle") && decide ((zy x).cls ≠ "java/lang/invoke/VarHandle") && decide ((parseMethodDescriptor (zy x).desc).map (fun d => d.parameters.length) = some n) && decide (zml x ≤ 41)
set_option maxRecDepth 100000 in
theorem zMC_w : zMC.map (fun q => q.2.2.2.2.2.map (fun i => lw_tbl[i]?)) = zMC.map (fun q => (zMw q.1 q.2.1 q.2.2.1 q.2.2.2.2.1).map some) := by rfl
theorem zMC_g : zMC.all (fun q => (zMw q.1 q.2.1 q.2.2.1 q.2.2.2.2.1).all goodWord) = true := by decide +kernel
noncomputable def zNaL : List Nat := [4, 1, 0, 1, 4, 2, 4, 1, 2, 1, 4, 1, 4, 2, 0, 2, 2, 2, 0, 1, 0, 0, 0, 0, 1, 0, 1, 1, 1, 0, 1, 1, 0, 0, 0, 0, 0, 0, 0, 3, 3, 3, 0, 2, 2, 0, 1, 1, 2, 1, 1, 2, 1, 2, 1, 1, 0, 1, 1, 1, 1, 1, 4, 2, 0, 2, 1, 0, 3, 2, 1, 6, 0, 1, 5, 4, 2, 3, 2, 2, 2, 2, 2, 3, 1, 1, 2, 3, 3, 3, 4, 3, 1, 3, 2, 1, 4, 2, 3, 4, 5, 0, 0, 3, 3, 5, 4, 2, 2, 1, 1, 1, 1, 1, 0, 1, 1, 0, 1, 1, 6, 2, 3, 3, 2, 2, 1, 1, 1, 3, 2, 3, 1, 4, 2, 0, 3, 3, 1, 1, 1, 2, 1, 0, 3, 2, 1, 1, 6, 2, 0, 1, 1, 1, 1, 1, 1, 0, 0, 0, 3, 1, 1, 7, 5, 4, 2, 2, 2, 2, 1, 3, 2, 1, 1, 1, 1, 3, 3, 2, 2, 2, 2, 2, 3, 1, 1, 1, 1, 1, 1, 0, 2, 2, 3, 1, 3, 3, 1, 3, 4, 3, 2, 1, 3, 1, 1, 2, 1, 4, 2, 3, 2, 4, 3, 5, 0, 0, 3, 3, 5, 4, 2, 2, 2, 1, 2]
noncomputable def zNa (x : Nat) : Nat := zNaL.getD x 0
theorem zNa_0 : (List.range 20).all (fun k => zNchk (0 + k) (zNa (0 + k))) = true := by decide +kernel
theorem zNa_20 : (List.range 20).all (fun k => zNchk (20 + k) (zNa (20 + k))) = true := by decide +kernel
theorem zNa_40 : (List.range 20).all (fun k => zNchk (40 + k) (zNa (40 + k))) = true := by decide +kernel
theorem zNa_60 : (List.range 20).all (fun k => zNchk (60 + k) (zNa (60 + k))) = true := by decide +kernel
theorem zNa_80 : (List.range 20).all (fun k => zNchk (80 + k) (zNa (80 + k))) = true := by decide +kernel
theorem zNa_100 : (List.range 20).all (fun k => zNchk (100 + k) (zNa (100 + k))) = true := by decide +kernel
theorem zNa_120 : (List.range 20).all (fun k => zNchk (120 + k) (zNa (120 + k))) = true := by decide +kernel
theorem zNa_140 : (List.range 20).all (fun k => zNchk (140 + k) (zNa (140 + k))) = true := by decide +kernel
theorem zNa_160 : (List.range 20).all (fun k => zNchk (160 + k) (zNa (160 + k))) = true := by decide +kernel
theorem zNa_180 : (List.range 20).all (fun k => zNchk (180 + k) (zNa (180 + k))) = true := by decide +kernel
theorem zNa_200 : (List.range 20).all (fun k => zNchk (200 + k) (zNa (200 + k))) = true := by decide +kernel
theorem zNa_220 : (List.range 7).all (fun k => zNchk (220 + k) (zNa (220 + k))) = true := by decide +kernel

noncomputable def zMchk (q : Nat × Nat × Nat × Nat × Nat × List Nat) : Bool := match q with
  | (_, _, x, n, kind, _) => decide (zNa x = n) && decide (x < 227) && (match kind with
    | 2 => decide (zrt x = none)
    | 3 => decide (zrt x = none)
    | 6 => [0, 2, 3, 4, 5, 10].all (fun ci => decide (zNa (zDyn x ci) = n) && decide (zDyn x ci < 227))
    | _ => true)
theorem zMC_ok : zMC.all zMchk = true := by decide +kernel
set_option maxRecDepth 100000 in
theorem zCx_ok : zCx.map (fun i => lw_tbl[i]?) = (List.range 227).map (fun x => some (zcd x)) := by rfl
theorem zcd_in {x : Nat} (h : x < 227) : zcd x ∈ zTb := by
  have e := congrArg (fun l => l[x]?) zCx_ok
  simp only [List.getElem?_map, List.getElem?_range h, Option.map_some] at e
  cases hi : zCx[x]? with
  | none => rw [hi] at e; cases e
  | some i =>
    rw [hi] at e
    exact List.mem_filter.mpr ⟨List.mem_of_getElem? (Option.some.inj e), rfl⟩
noncomputable def zPw (own idx k : Nat) : List Cond := match k with
  | 1 => [.methodLink (zRn own) idx Lib.Math.min.name, .static Lib.Math.min.name, .initialized "java/lang/Math", .code Lib.Math.min.name Lib.Math.min.code 2 (some .int)]
  | 2 => [.methodLink (zRn own) idx Lib.Math.max.name, .static Lib.Math.max.name, .initialized "java/lang/Math", .code Lib.Math.max.name Lib.Math.max.code 2 (some .int)]
  | 3 => [.methodLink (zRn own) idx Lib.Math.abs.name, .static Lib.Math.abs.name, .initialized "java/lang/Math", .code Lib.Math.abs.name Lib.Math.abs.code 1 (some .int)]
  | 4 => [.methodLink (zRn own) idx arraycopyName, .native arraycopyName, .static arraycopyName, .initialized "java/lang/System"]
  | _ => [.methodLink (zRn own) idx Lib.objectInit, .instanceMethod Lib.objectInit, .code Lib.objectInit ⟨#[0xb1]⟩ 1 none]
theorem zPC_ok : zPC.all (fun q => zHasL q.2.2.2 (zPw q.1 q.2.1 q.2.2.1)) = true := by decide +kernel
theorem zLay_ok : (List.range 13).all (fun ci => zHasL (zLay.getD ci []) (u_ws (vwG ci).1 (vwG ci).2.1 (vwG ci).2.2)) = true := by decide +kernel
theorem zTy_ok : (List.range 13).all (fun ci => (List.range (vwG ci).2.2).all fun k => decide (parseFieldDescriptor (zDs ci k) = some (zTyOf ci k)) && (if zFR ci k then refKind (zTyOf ci k) else decide (zTyOf ci k = .int) || decide (zTyOf ci k = .boolean))) = true := by decide +kernel
theorem zNm_ok : (List.range 13).all (fun ci => (List.range (vwG ci).2.2).all fun a => (List.range (vwG ci).2.2).all fun b => decide (a = b) || decide ((zFd ci a).2.1 ≠ (zFd ci b).2.1)) = true := by decide +kernel
noncomputable def zNw (own idx k : Nat) : List Cond := if k = 22 then [.classLink (zRn own) idx "[[I", .arrayClass .int] else [.classLink (zRn own) idx (zRn k), .initialized (zRn k), .instantiable (zRn k) (vwG k).2.2]
theorem zNC_ok : zNC.all (fun q => zHasL q.2.2.2 (zNw q.1 q.2.1 q.2.2.1)) = true := by decide +kernel
theorem zAC_ok : zHasL zAC [.arrayClass .int, .arrayClass .boolean] = true := by decide +kernel
theorem zKC_ok : zKC.all (fun q => zHas q.2.2.2 (.constant (zRn q.1) q.2.1 q.2.2.1)) = true := by decide +kernel
theorem zLC_ok : zLC.all (fun q => zHas q.2.2.2.2 (.constantLong (zRn q.1) q.2.1 (zLc q.2.2.1 q.2.2.2.1))) = true := by decide +kernel
theorem zMC_n : zMC.all (fun q => match q.2.2.2.2.1 with | 2 => decide ((zy q.2.2.1).name = "<init>") | 3 => decide ((zy q.2.2.1).name = "<init>") | 4 => decide ((zy q.2.2.1).name ≠ "<init>") | 5 => decide ((zy q.2.2.1).name ≠ "<init>") | 6 => [0, 2, 3, 4, 5, 10].all (fun ci => decide ((zy (zDyn q.2.2.1 ci)).name = (zy q.2.2.1).name) && decide ((zy (zDyn q.2.2.1 ci)).desc = (zy q.2.2.1).desc)) | _ => true) = true := by decide +kernel
/-- kinds of fields: 0 an int, 1 a boolean, 2 a reference -/
noncomputable def zKd (ci k : Nat) : Nat := if zFR ci k then 2 else if (ci == 11 && k == 2) || (ci == 12 && k == 14) then 1 else 0
noncomputable def zFnL : List (List Bool) := [[true, true, true, true], [true, true, false, false, false], [true, true, true, true], [true, true, true, true], [true, true, true, true], [true, true, true, true], [true, false, false], [true, false, false, true, false, false, false, false, false, false], [true, true, true], [true, true, true, true, true, true, true, false, false], [true, true, true, true], [true, true, false, true, true, false, true, true, true, true, true, true, true], [true, false, true, true, true, true, false, true, true, false, true, true, false, false, false, false, false, false, true, true, true, true, true, true, false, false, false, false, true, true, false, false, false, true, true, true, false, true, true, true, true]]
noncomputable def zFn (ci k : Nat) : Bool := (zFnL.getD ci []).getD k false
theorem zKd_ok : (List.range 13).all (fun ci => (List.range (vwG ci).2.2).all fun k => decide ((zFd ci k).2.2.2 = zFn ci k) && (if zKd ci k = 0 then decide (zTyOf ci k = .int) else if zKd ci k = 1 then decide (zTyOf ci k = .boolean) else refKind (zTyOf ci k))) = true := by decide +kernel
theorem zSub_ok : (List.range 13).all (fun ci => (List.range 13).all fun y => !(zSub ci y) || (decide ((vwG ci).2.2 = (vwG y).2.2) && (List.range (vwG ci).2.2).all fun k => decide (zFd ci k = zFd y k) && decide (zFR ci k = zFR y k) && decide (zKd ci k = zKd y k))) = true := by decide +kernel
end
section
/-! THE PROGRAM AGAINST THE BYTECODE: each entry is what decode reads, its operands are what the tables say -/
def zPc (cd : List zE) (ip : Nat) : Nat := match cd[ip]? with | some e => e.1 | none => 0
def zLen (e : zE) : Nat := match e.2.1 with
  | .bipush _ => 2 | .sipush _ => 3 | .ldc _ => 2 | .ldc_w _ => 3 | .ldc2_w _ => 3
  | .iload _ => 2 | .lload _ => 2 | .aload _ => 2 | .istore _ => 2 | .lstore _ => 2 | .astore _ => 2 | .iinc _ _ => 3
  | .goto _ => 3 | .ifCond _ _ => 3 | .if_icmp _ _ => 3 | .ifnull _ => 3 | .ifnonnull _ => 3 | .tableswitch _ _ _ _ => e.2.2.2.1
  | .getfield _ => 3 | .putfield _ => 3 | .newarray _ => 2 | .anewarray _ => 3 | .multianewarray _ _ => 4 | .new _ => 3 | .instanceof _ => 3 | .checkcast _ => 3
  | .invokestatic _ => 3 | .invokespecial _ => 3 | .invokevirtual _ => 3
  | _ => 1
def zFalls : Instr → Bool
  | .goto _ => false | .tableswitch _ _ _ _ => false | .return_ => false | .ireturn => false | .lreturn => false | .areturn => false
  | _ => true
def zTabOk (cd : List zE) (pc : Nat) : List Nat → List Int → Bool
  | [], [] => true
  | t :: ts, o :: os => decide ((pc : Int) + o = (zPc cd t : Int)) && zTabOk cd pc ts os
  | _, _ => false
noncomputable def zOpk (own nL : Nat) (ret : Option FieldType) (init : Bool) (cd : List zE) (e : zE) : Bool :=
  match e with
  | (pc, ins, x, y, w, t) =>
  match ins with
  | .iconst n => decide (Int32.ofInt n = w)
  | .bipush n => decide ((Int8.ofInt n).toInt32 = w)
  | .sipush n => decide ((Int16.ofInt n).toInt32 = w)
  | .ldc n => if y = 0 then zKC.any (fun q => q.2.1 == n && q.1 == own && q.2.2.1 == w) else (own == 11 && n == 82 && x == 1000000) || (own == 7 && n == 80 && x == 1000001)
  | .ldc_w n => zKC.any (fun q => q.2.1 == n && q.1 == own && q.2.2.1 == w)
  | .lconst n => decide (Int64.ofNat n = zLc x y)
  | .ldc2_w n => zLC.any (fun q => q.2.1 == n && q.1 == own && q.2.2.1 == x && q.2.2.2.1 == y)
  | .iload_n k => k.val == x
  | .iload k => k == x
  | .lload_n k => k.val == x
  | .lload k => k == x
  | .aload_n k => k.val == x
  | .aload k => k == x
  | .istore_n k => k.val == x && decide (x < nL)
  | .istore k => k == x && decide (x < nL)
  | .lstore_n k => k.val == x && decide (x + 1 < nL)
  | .lstore k => k == x && decide (x + 1 < nL)
  | .astore_n k => k.val == x && decide (x < nL)
  | .astore k => k == x && decide (x < nL)
  | .iinc k n => k == x && decide (Int32.ofInt n = w) && decide (x < nL)
  | .goto off => decide ((pc : Int) + off = (zPc cd x : Int))
  | .ifCond _ off => decide ((pc : Int) + off = (zPc cd x : Int))
  | .if_icmp _ off => decide ((pc : Int) + off = (zPc cd x : Int))
  | .ifnull off => decide ((pc : Int) + off = (zPc cd x : Int))
  | .ifnonnull off => decide ((pc : Int) + off = (zPc cd x : Int))
  | .tableswitch d lo hi offs => decide ((pc : Int) + d = (zPc cd x : Int)) && decide (w.toInt = lo) && decide (hi = lo + t.length - 1) && decide (-1000 < lo) && decide (hi < 1000) && zTabOk cd pc t offs.toList
  | .getfield n => decide (y < 13) && zFC.any (fun q => q.2.1 == n && q.1 == own && q.2.2.1 == x && q.2.2.2.1 == y) && (match t with | [] => !(zFR y x) | _ => zFR y x)
  | .putfield n => decide (y < 13) && zFC.any (fun q => q.2.1 == n && q.1 == own && q.2.2.1 == x && q.2.2.2.1 == y) && (match t with | [] => zKd y x == 0 | [2] => zKd y x == 1 | [0] => zKd y x == 2 | _ => true) && (!(zFn y x) || (init && y == own && !(zSub y 3 && !(y == 3))))
  | .aastore => (y == 23 && x == 3) || (y == 24 && x == 8) || (y == 25 && x == 6)
  | .newarray a => (decide (a = .int) && x == 20) || (decide (a = .boolean) && x == 21)
  | .anewarray n => (x == 23 && zNC.any (fun q => q.2.1 == n && q.1 == own && q.2.2.1 == 3)) || (x == 24 && zNC.any (fun q => q.2.1 == n && q.1 == own && q.2.2.1 == 8)) || (x == 25 && zNC.any (fun q => q.2.1 == n && q.1 == own && q.2.2.1 == 6))
  | .multianewarray n d => d == 2 && zNC.any (fun q => q.2.1 == n && q.1 == own && q.2.2.1 == 22)
  | .new n => decide (x < 13) && (vwG x).2.2 == y && zNC.any (fun q => q.2.1 == n && q.1 == own && q.2.2.1 == x)
  | .instanceof n => decide (x < 13) && zSub x 3 && zNC.any (fun q => q.2.1 == n && q.1 == own && q.2.2.1 == x)
  | .invokestatic n => match t with
    | [] => zMC.any (fun q => q.2.1 == n && q.1 == own && q.2.2.1 == x && q.2.2.2.1 == y && q.2.2.2.2.1 == 0)
    | [k] => zPC.any (fun q => q.2.1 == n && q.1 == own && q.2.2.1 == k)
    | _ => true
  | .invokespecial n => match t with
    | [] => zPC.any (fun q => q.2.1 == n && q.1 == own && q.2.2.1 == 5)
    | _ => decide (t.headD 0 < 13) && zMC.any (fun q => q.2.1 == n && q.1 == own && q.2.2.1 == x && q.2.2.2.1 == y && decide (2 ≤ q.2.2.2.2.1) && decide (q.2.2.2.2.1 ≤ 5))
  | .invokevirtual n => match t with
    | [] => (x == 0 && ((own == 11 && n == 84) || (own == 7 && n == 82))) || (x == 1 && ((own == 11 && n == 90) || (own == 7 && n == 88)))
    | [99] => true
    | [c] => decide (c < 13) && zow x == c && zMC.any (fun q => q.2.1 == n && q.1 == own && q.2.2.1 == x && q.2.2.2.1 == y && q.2.2.2.2.1 == 1)
    | _ => zMC.any (fun q => q.2.1 == n && q.1 == own && q.2.2.1 == x && q.2.2.2.1 == y && q.2.2.2.2.1 == 6)
  | .ireturn => match t with | [] => decide (ret = some .int) | _ => decide (ret = some .boolean)
  | .lreturn => decide (ret = some .long)
  | .areturn => match ret with | some r => refKind r | none => false
  | .return_ => decide (ret = none)
  | _ => true
noncomputable def zChk1 (cc : ByteArray) (own nL : Nat) (ret : Option FieldType) (init : Bool) (cd : List zE) (e : zE) (nx : Nat) : Bool :=
  decide (decode cc e.1 = .ok (e.2.1, zLen e)) && (!(zFalls e.2.1) || nx == e.1 + zLen e) && zOpk own nL ret init cd e
noncomputable def zChkF (cc : ByteArray) (own nL : Nat) (ret : Option FieldType) (init : Bool) (cd : List zE) : List zE → Bool
  | [] => true
  | e :: r => zChk1 cc own nL ret init cd e (match r with | e2 :: _ => e2.1 | [] => 0) && zChkF cc own nL ret init cd r
theorem zChkF_get {cc : ByteArray} {own nL : Nat} {ret : Option FieldType} {init : Bool} {cd : List zE} : ∀ (l : List zE) (i : Nat) (e : zE), zChkF cc own nL ret init cd l = true → l[i]? = some e → zChk1 cc own nL ret init cd e (zPc l (i + 1)) = true
  | [], i, e, _, he => by simp at he
  | a :: r, 0, e, h, he => by
    simp only [zChkF, Bool.and_eq_true] at h
    obtain rfl : a = e := by simpa using he
    cases r with
    | nil => exact h.1
    | cons b r => exact h.1
  | a :: r, i + 1, e, h, he => by
    simp only [zChkF, Bool.and_eq_true] at h
    have := zChkF_get r i e h.2 (by simpa using he)
    rw [show zPc (a :: r) (i + 1 + 1) = zPc r (i + 1) by simp [zPc]]
    exact this
noncomputable def zChkR (cc : ByteArray) (own nL : Nat) (ret : Option FieldType) (init : Bool) (cd : List zE) (a n : Nat) : Bool := (List.range n).all fun k => match cd[a + k]? with | none => true | some e => zChk1 cc own nL ret init cd e (zPc cd (a + k + 1))
theorem zChkR_get {cc : ByteArray} {own nL : Nat} {ret : Option FieldType} {init : Bool} {cd : List zE} {a n i : Nat} {e : zE} (h : zChkR cc own nL ret init cd a n = true) (h1 : a ≤ i) (h2 : i < a + n) (he : cd[i]? = some e) : zChk1 cc own nL ret init cd e (zPc cd (i + 1)) = true := by
  have := List.all_eq_true.mp h (i - a) (List.mem_range.mpr (by omega))
  rw [show a + (i - a) = i by omega, he] at this
  exact this
/-- every entry of a method's code is right -/
def zAll (cc : ByteArray) (own nL : Nat) (ret : Option FieldType) (init : Bool) (cd : List zE) : Prop := ∀ (i : Nat) (e : zE), cd[i]? = some e → zChk1 cc own nL ret init cd e (zPc cd (i + 1)) = true
end
section
/-! THE MACHINE'S MEMORY AS A WORLD of the heap: cell k stands at B + k -/
def zAd (B : Nat) (ext : Nat → Nat) (r : Nat) : Nat := if r < 1000000 then B + r else ext r
def zc (B : Nat) (ext : Nat → Nat) : Value → Value
  | .ref r => .ref (zAd B ext r)
  | v => v
theorem zc_cat {B : Nat} {ext : Nat → Nat} (v : Value) : (zc B ext v).category = v.category := by cases v <;> rfl
def zFs (B : Nat) (μ : zM) (k t n : Nat) : List Value := (List.range n).map fun j => if zFR t j = true then va_rf ((μ.2.2 k j).map (fun q => B + q)) else .int (μ.2.1 k j)
def zEn (B : Nat) (cA : Nat → ClassId) (μ : zM) (k : Nat) (s : Nat × Nat) : va_E :=
  if s.1 < 20 then .inr (s.1, zFs B μ k s.1 s.2) else if s.1 < 22 then .inl (cA (s.1 - 20), s.2, .inl (μ.2.1 k)) else .inl (cA (s.1 - 20), s.2, .inr (.inr (.inr (.inr fun j => (μ.2.2 k j).map (fun q => B + q)))))
def zW (B : Nat) (cA : Nat → ClassId) (μ : zM) : va_W := (List.range μ.1.length).map fun k => (B + k, zEn B cA μ k (μ.1.getD k (0, 0)))
noncomputable def zTys (cA : Nat → ClassId) : List (ClassId × FieldType) := [(cA 0, .int), (cA 1, .boolean), (cA 2, .array .int), (cA 3, .object RX3), (cA 4, .object RX8), (cA 5, .object RX6)]
def zSh (μ : zM) : Prop := ∀ (k : Nat) (s : Nat × Nat), μ.1[k]? = some s → (s.1 < 13 ∧ s.2 = (vwG s.1).2.2) ∨ (20 ≤ s.1 ∧ s.1 ≤ 25)
def zIv (B : Nat) (D : va_G) (cA : Nat → ClassId) (L : Nat) (xs : Nat → Int32) (μ : zM) (H : Heap) : Prop :=
  H.size = B + μ.1.length ∧ va_P D vwCl (zW B cA μ) H ∧ zSh μ ∧ (∀ k j q, μ.2.2 k j = some q → q < 1000000) ∧ μ.1.length ≤ 1000000 ∧ μ.2.1 2000000 = xs ∧ μ.2.1 2000001 0 = nI L
def zSl (μ : zM) : Nat := (μ.1.map (fun s => s.2)).sum
def zLe (μ μ' : zM) : Prop := μ.1.length ≤ μ'.1.length ∧ zSl μ ≤ zSl μ'
theorem zLe.rf {μ : zM} : zLe μ μ := ⟨Nat.le_refl _, Nat.le_refl _⟩
theorem zLe.tr {a b c : zM} (h : zLe a b) (h2 : zLe b c) : zLe a c := ⟨Nat.le_trans h.1 h2.1, Nat.le_trans h.2 h2.2⟩
theorem zLe.of1 {μ μ' : zM} (h : μ'.1 = μ.1) : zLe μ μ' := by unfold zLe zSl; rw [h]; exact ⟨Nat.le_refl _, Nat.le_refl _⟩
theorem zLe.app {μ μ' : zM} {l : List (Nat × Nat)} (h : μ'.1 = μ.1 ++ l) : zLe μ μ' := by
  unfold zLe zSl
  rw [h]
  simp
theorem zW_len {B : Nat} {cA : Nat → ClassId} {μ : zM} : (zW B cA μ).length = μ.1.length := by simp [zW]
theorem zW_get {B : Nat} {cA : Nat → ClassId} {μ : zM} {k : Nat} {s : Nat × Nat} (h : μ.1[k]? = some s) : (zW B cA μ)[k]? = some (B + k, zEn B cA μ k s) := by
  have hl : k < μ.1.length := (List.getElem?_eq_some_iff.mp h).1
  unfold zW
  rw [List.getElem?_map, List.getElem?_range hl]
  simp [List.getD, h]
theorem zW_some {B : Nat} {cA : Nat → ClassId} {μ : zM} {k : Nat} {q : Nat × va_E} (h : (zW B cA μ)[k]? = some q) : ∃ s, μ.1[k]? = some s ∧ q = (B + k, zEn B cA μ k s) := by
  have hl : k < μ.1.length := by
    have := (List.getElem?_eq_some_iff.mp h).1
    rwa [zW_len] at this
  have hs : μ.1[k]? = some μ.1[k] := List.getElem?_eq_getElem hl
  exact ⟨_, hs, Option.some.inj (h.symm.trans (zW_get hs))⟩
theorem zW_D {B : Nat} {cA : Nat → ClassId} {μ : zM} : va_D (fun q : Nat => B ≤ q) (zW B cA μ) := by
  refine ⟨fun i j p q hp hq e => ?_, fun k q hq => ?_⟩
  · obtain ⟨s, -, rfl⟩ := zW_some hp
    obtain ⟨t, -, rfl⟩ := zW_some hq
    have e : B + i = B + j := e
    omega
  · obtain ⟨s, -, rfl⟩ := zW_some hq
    exact Nat.le_add_right _ _
theorem zW_set {B : Nat} {cA : Nat → ClassId} {μ μ' : zM} {k : Nat} {s : Nat × Nat} {e : va_E} (hs : μ.1[k]? = some s) (h1 : μ'.1 = μ.1) (he : zEn B cA μ' k s = e) (ho : ∀ j t, j ≠ k → zEn B cA μ' j t = zEn B cA μ j t) : (zW B cA μ).set k (B + k, e) = zW B cA μ' := by
  apply List.ext_getElem?
  intro i
  have hl : k < (zW B cA μ).length := by rw [zW_len]; exact (List.getElem?_eq_some_iff.mp hs).1
  by_cases hi : i = k
  · subst hi
    rw [List.getElem?_set_self hl, zW_get (μ := μ') (by rw [h1]; exact hs), he]
  · rw [List.getElem?_set_ne (fun q => hi q.symm)]
    cases hc : μ.1[i]? with
    | none =>
      have a1 : (zW B cA μ)[i]? = none := List.getElem?_eq_none (by rw [zW_len]; exact List.getElem?_eq_none_iff.mp hc)
      have a2 : (zW B cA μ')[i]? = none := List.getElem?_eq_none (by rw [zW_len, h1]; exact List.getElem?_eq_none_iff.mp hc)
      rw [a1, a2]
    | some t => rw [zW_get hc, zW_get (μ := μ') (by rw [h1]; exact hc), ho i t hi]
theorem zW_app {B : Nat} {cA : Nat → ClassId} {μ μ' : zM} {l : List (Nat × Nat)} (h1 : μ'.1 = μ.1 ++ l) (ho : ∀ j t, j < μ.1.length → zEn B cA μ' j t = zEn B cA μ j t) : zW B cA μ' = zW B cA μ ++ (List.range l.length).map (fun i => (B + (μ.1.length + i), zEn B cA μ' (μ.1.length + i) (l.getD i (0, 0)))) := by
  apply List.ext_getElem?
  intro i
  by_cases hi : i < μ.1.length
  · have hs : μ.1[i]? = some μ.1[i] := List.getElem?_eq_getElem hi
    rw [List.getElem?_append_left (by rw [zW_len]; exact hi), zW_get hs, zW_get (μ := μ') (s := μ.1[i]) (by rw [h1, List.getElem?_append_left hi]; exact hs), ho i _ hi]
  · rw [List.getElem?_append_right (by rw [zW_len]; omega), zW_len]
    by_cases h2 : i - μ.1.length < l.length
    · have hs : μ'.1[i]? = some l[i - μ.1.length] := by
        rw [h1, List.getElem?_append_right (by omega)]
        exact List.getElem?_eq_getElem h2
      rw [zW_get hs, List.getElem?_map, List.getElem?_range h2]
      simp only [Option.map_some]
      rw [show μ.1.length + (i - μ.1.length) = i by omega]
      simp [List.getD, h2]
    · have a1 : (zW B cA μ')[i]? = none := List.getElem?_eq_none (by rw [zW_len, h1, List.length_append]; omega)
      have a2 : ((List.range l.length).map (fun i => (B + (μ.1.length + i), zEn B cA μ' (μ.1.length + i) (l.getD i (0, 0)))))[i - μ.1.length]? = none := List.getElem?_eq_none (by simp; omega)
      rw [a1, a2]
theorem vw_at {ci : Nat} (h : ci < 13) : vwCl[ci]? = some ((vwG ci).1, (vwG ci).2.1, (vwG ci).2.2) := by
  have hl : vwCl.length = 13 := rfl
  unfold vwG
  rw [List.getD_eq_getElem?_getD, List.getElem?_eq_getElem (by rw [hl]; exact h)]
  rfl
theorem zFs_get {B : Nat} {μ : zM} {k t n j : Nat} (h : j < n) : (zFs B μ k t n)[j]? = some (if zFR t j = true then va_rf ((μ.2.2 k j).map (fun q => B + q)) else .int (μ.2.1 k j)) := by
  unfold zFs
  rw [List.getElem?_map, List.getElem?_range h]
  rfl
theorem zFs_len {B : Nat} {μ : zM} {k t n : Nat} : (zFs B μ k t n).length = n := by simp [zFs]
theorem zFs_seti {B : Nat} {μ : zM} {k t n j : Nat} {a : Int32} (hr : zFR t j = false) : (zFs B μ k t n).set j (.int a) = zFs B (μ.1, up2 μ.2.1 k j a, μ.2.2) k t n := by
  apply List.ext_getElem?
  intro i
  by_cases hi : i < n
  · by_cases e : i = j
    · subst e
      rw [List.getElem?_set_self (by rw [zFs_len]; exact hi), zFs_get hi]
      simp [hr, up2]
    · rw [List.getElem?_set_ne (fun q => e q.symm), zFs_get hi, zFs_get hi]
      simp [up2, e]
  · rw [List.getElem?_eq_none (by rw [List.length_set, zFs_len]; omega), List.getElem?_eq_none (by rw [zFs_len]; omega)]
theorem zFs_setr {B : Nat} {μ : zM} {k t n j q : Nat} (hr : zFR t j = true) : (zFs B μ k t n).set j (.ref (B + q)) = zFs B (μ.1, μ.2.1, up2 μ.2.2 k j (some q)) k t n := by
  apply List.ext_getElem?
  intro i
  by_cases hi : i < n
  · by_cases e : i = j
    · subst e
      rw [List.getElem?_set_self (by rw [zFs_len]; exact hi), zFs_get hi]
      simp [hr, up2, va_rf]
    · rw [List.getElem?_set_ne (fun q => e q.symm), zFs_get hi, zFs_get hi]
      simp [up2, e]
  · rw [List.getElem?_eq_none (by rw [List.length_set, zFs_len]; omega), List.getElem?_eq_none (by rw [zFs_len]; omega)]
theorem up2_ne {α : Type} {f : Nat → Nat → α} {k j : Nat} {v : α} {a : Nat} (h : a ≠ k) : up2 f k j v a = f a := by funext b; simp [up2, h]
theorem up2_eq {f : Nat → Nat → Int32} {k j : Nat} {v : Int32} : up2 f k j v k = upd (f k) j v := by funext b; simp [up2, upd]
theorem zEn_ne {B : Nat} {cA : Nat → ClassId} {μ μ' : zM} {j : Nat} {t : Nat × Nat} (h1 : μ'.2.1 j = μ.2.1 j) (h2 : μ'.2.2 j = μ.2.2 j) : zEn B cA μ' j t = zEn B cA μ j t := by
  unfold zEn zFs
  rw [h1, h2]
/-- a write into the ints of a cell -/
theorem zIv_int {B : Nat} {D : va_G} {cA : Nat → ClassId} {L : Nat} {xs : Nat → Int32} {μ : zM} {H H1 : Heap} {k : Nat} {s : Nat × Nat} {e : va_E} {g : Nat → Int32} (hI : zIv B D cA L xs μ H) (hs : μ.1[k]? = some s) (hz : H1.size = H.size)
    (hP : va_P D vwCl ((zW B cA μ).set k (B + k, e)) H1) (he : zEn B cA (μ.1, row2 μ.2.1 k g, μ.2.2) k s = e) : zIv B D cA L xs (μ.1, row2 μ.2.1 k g, μ.2.2) H1 := by
  obtain ⟨h1, h2, h3, h4, h5, h6, h7⟩ := hI
  have hk : k < μ.1.length := (List.getElem?_eq_some_iff.mp hs).1
  refine ⟨by rw [hz]; exact h1, ?_, h3, h4, h5, ?_, ?_⟩
  · rw [zW_set (μ' := (μ.1, row2 μ.2.1 k g, μ.2.2)) hs rfl he (fun j t hj => zEn_ne (by funext b; simp [row2, hj]) rfl)] at hP
    exact hP
  · rw [← h6]; funext b; show row2 μ.2.1 k g 2000000 b = _; unfold row2; rw [if_neg (by omega)]
  · rw [← h7]; show row2 μ.2.1 k g 2000001 0 = _; unfold row2; rw [if_neg (by omega)]
theorem zIv_ref {B : Nat} {D : va_G} {cA : Nat → ClassId} {L : Nat} {xs : Nat → Int32} {μ : zM} {H H1 : Heap} {k j q : Nat} {s : Nat × Nat} {e : va_E} (hI : zIv B D cA L xs μ H) (hs : μ.1[k]? = some s) (hz : H1.size = H.size) (hq : q < 1000000)
    (hP : va_P D vwCl ((zW B cA μ).set k (B + k, e)) H1) (he : zEn B cA (μ.1, μ.2.1, up2 μ.2.2 k j (some q)) k s = e) : zIv B D cA L xs (μ.1, μ.2.1, up2 μ.2.2 k j (some q)) H1 := by
  obtain ⟨h1, h2, h3, h4, h5, h6, h7⟩ := hI
  refine ⟨by rw [hz]; exact h1, ?_, h3, ?_, h5, h6, h7⟩
  · rw [zW_set (μ' := (μ.1, μ.2.1, up2 μ.2.2 k j (some q))) hs rfl he (fun i t hi => zEn_ne rfl (up2_ne hi))] at hP
    exact hP
  · intro a b c hc
    show c < 1000000
    have hc : up2 μ.2.2 k j (some q) a b = some c := hc
    unfold up2 at hc
    split at hc
    · split at hc
      · cases hc; exact hq
      · exact h4 _ _ _ hc
    · exact h4 _ _ _ hc
theorem up2_row {f : Nat → Nat → Int32} {k j : Nat} {v : Int32} : up2 f k j v = row2 f k (upd (f k) j v) := by
  funext a b
  unfold up2 row2 upd
  by_cases h : a = k
  · subst h; rfl
  · rw [if_neg h, if_neg h]
end
section
/-! ONE STEP of the machine is a stretch of the bytecode -/
def zLenS : List Nat := [43, 62]
noncomputable def zBytS : List (List Int32) := [(zStr 0).map Int32.ofNat, (zStr 1).map Int32.ofNat]
noncomputable def zXt (B : Nat) (ext : Nat → Nat) (L : Nat) (xs : Nat → Int32) (U : State) : Prop :=
  (va_AO RX3 U ∧ va_AO RX8 U ∧ va_AO RX6 U ∧ va_AOA .int U ∧ va_Nw (.methodLinkNest RX11 9 yX1_init RX11) U ∧ va_Nw (.methodLinkNest RX11 41 yX7_init RX11) U ∧ va_Nw (.methodLinkNest RX11 54 yX9_init RX11) U ∧ va_Nw (.methodLinkNest RX11 81 yX6_init RX11) U ∧ ∀ a b, a < 13 → b < 13 → zSub a b = true → a ≠ b → va_Nw (.castable (zRn a) (zRn b)) U) ∧ (∀ ci k, zSub ci 3 = true → zSub k 3 = true → zSub ci k = false → va_Nc (zRn ci) (zRn k) U) ∧
  vk_R RX11 82 "worth told ; costs far ; storm height * 2 ;" (ext 1000000) U ∧ vk_R RX7 80 "worth costs storm or and not told height more far tide number " (ext 1000001) U ∧
  va_X (ext 2000000) L xs U U.heap ∧ ext 2000000 < B ∧ L < 2 ^ 31 ∧ B ≤ U.heap.size ∧ ∃ adV : Nat → Nat, vk_S 2 zLenS zBytS (fun i => ext (1000000 + i)) adV (fun q => B ≤ q) U U.heap ∧ va_Z "java/lang/String" "COMPACT_STRINGS" "Z" (.int 1) (fun q => B ≤ q) U U.heap ∧ va_Zq "jdk/internal/util/Preconditions" "SIOOBE_FORMATTER" "Ljava/util/function/BiFunction;" (fun q => B ≤ q) U U.heap
def zRetOk (ins : Instr) (v : Option Value) (ret : Option FieldType) : Prop :=
  (ins = .ireturn ∧ ∃ a, v = some (.int a) ∧ (ret = some .int ∨ (ret = some .boolean ∧ (a = 0 ∨ a = 1)))) ∨ (ins = .lreturn ∧ ret = some .long ∧ ∃ a, v = some (.long a)) ∨
  (ins = .areturn ∧ (∃ r, ret = some r ∧ refKind r = true) ∧ ((∃ a, v = some (.ref a)) ∨ v = some .null)) ∨ (ins = .return_ ∧ v = none ∧ ret = none)
/-- what holds at a method's entry in the machine's words -/
def zWd (B : Nat) (D : va_G) (cA : Nat → ClassId) (ext : Nat → Nat) (L : Nat) (xs : Nat → Int32) (μ : zM) (U : State) : Prop := zIv B D cA L xs μ U.heap ∧ va_K D vwCl (zTys cA) U ∧ zXt B ext L xs U
def zQ (B : Nat) (D : va_G) (cA : Nat → ClassId) (ext : Nat → Nat) (L : Nat) (xs : Nat → Int32) (v : Option Value) (μ' : zM) : Array Value → State → Outcome → State → Prop := fun _ st o t => o = .returned (v.map (zc B ext)) ∧ zIv B D cA L xs μ' t.heap ∧ va_F (fun q => B ≤ q) st t
noncomputable def zMet (l : Launch) (B : Nat) (D : va_G) (cA : Nat → ClassId) (ext : Nat → Nat) (L : Nat) (xs : Nat → Int32) (d x : Nat) (as : List Value) (μ : zM) (v : Option Value) (μ' : zM) : Prop :=
  Met l (zy x) (zcd x :: zTb) { frames := d + 10, cells := μ'.1.length - μ.1.length, slots := zSl μ' - zSl μ, locals := 64 * d + 1000 } (va_Pc (as.map (zc B ext)) (zWd B D cA ext L xs μ)) (zQ B D cA ext L xs v μ') (μ'.1.length - μ.1.length) (zSl μ' - zSl μ) (fun q => B ≤ q)
def zCtx (p : Program) (R : Room) (s : State) (m : MethodId) (args : Array Value) (meth : Method) (c : Code) (cc : ByteArray) (own nL : Nat) (ret : Option FieldType) (init : Bool) (cd : List zE) (B : Nat) (D : va_G) (cA : Nat → ClassId) (ext : Nat → Nat) (L : Nat) (xs : Nat → Int32) (d : Nat) : Prop :=
  p.tables.exec = Jvm.exec ∧ c.code = cc ∧ c.maxLocals = nL ∧ s.vm.findClass (zRn own) = some m.cls ∧ (∀ w ∈ zTb, w.before args s = true) ∧ va_K D vwCl (zTys cA) s ∧ zXt B ext L xs s ∧ zAll cc own nL ret init cd ∧ (init = true → meth.name = "<init>") ∧ d + 11 ≤ R.frames ∧ 64 * d + 1064 ≤ R.locals
theorem zG_lv {B : Nat} {ext : Nat → Nat} {ls : zL} {lsA : Array Slot} {nL k : Nat} {v : Value} (hl : lv_has lsA nL (ls.map fun q => (q.1, zc B ext q.2))) (h : zG ls k = some v) : lsA[k]? = some (.val (zc B ext v)) ∧ (k, v) ∈ ls := by
  unfold zG at h
  cases hf : ls.find? (fun q => q.1 == k) with
  | none => rw [hf] at h; cases h
  | some q =>
    rw [hf] at h
    obtain ⟨a, b⟩ := q
    have hb : b = v := Option.some.inj h
    have ha : a = k := by
      have := List.find?_some hf
      simpa using this
    subst hb; subst ha
    have hm := List.mem_of_find?_eq_some hf
    exact ⟨hl.2.2 (a, zc B ext b) (List.mem_map.mpr ⟨(a, b), hm, rfl⟩), hm⟩
theorem zPut_mem {ls : zL} {i : Nat} {v : Value} {q : Nat × Value} (h : q ∈ zPut ls i v) : q = (i, v) ∨ (q ∈ ls ∧ q.1 ≠ i) := by
  unfold zPut at h
  cases hb : ls.any (fun q => q.1 == i) with
  | true =>
    rw [hb] at h
    obtain ⟨a, ha, rfl⟩ := List.mem_map.mp h
    cases hq : a.1 == i with
    | true => exact Or.inl (by simp)
    | false => exact Or.inr ⟨by simpa using ha, by simpa using hq⟩
  | false =>
    rw [hb] at h
    rcases List.mem_append.mp h with h | h
    · refine Or.inr ⟨h, fun e => ?_⟩
      have := List.any_eq_false.mp hb q h
      simp [e] at this
    · exact Or.inl (by simpa using h)
theorem zCut_mem {B : Nat} {ext : Nat → Nat} {ls : zL} {lsA : Array Slot} {nL i : Nat} {q : Nat × Value} (hl : lv_has lsA nL (ls.map fun q => (q.1, zc B ext q.2))) (h : q ∈ zCut ls i) : q ∈ ls ∧ ¬ (q.1 + 1 = i ∧ q.2.category = 2) := by
  unfold zCut at h
  split at h
  · exact ⟨h, fun e => by omega⟩
  · rename_i j
    have key : ∀ v, zG ls j = some v → q ∈ ls → q.1 = j → v.category = q.2.category := by
      intro v hv hq e
      have h1 := (zG_lv hl hv).1
      have h2 := hl.2.2 (q.1, zc B ext q.2) (List.mem_map.mpr ⟨q, hq, rfl⟩)
      have h2 : lsA[q.1]? = some (.val (zc B ext q.2)) := h2
      rw [e, h1] at h2
      have h3 : zc B ext v = zc B ext q.2 := by injection (Option.some.inj h2)
      rw [← zc_cat (B := B) (ext := ext) v, h3, zc_cat]
    split at h
    · rename_i v hg
      cases hc : v.category == 2 with
      | true =>
        rw [hc] at h
        obtain ⟨h1, h2⟩ := List.mem_filter.mp h
        exact ⟨h1, fun e => by simp at h2; omega⟩
      | false =>
        rw [hc] at h
        have h : q ∈ ls := h
        refine ⟨h, fun e => ?_⟩
        have := key v hg h (by omega)
        rw [e.2] at this
        simp [this] at hc
    · rename_i hg
      refine ⟨h, fun e => ?_⟩
      unfold zG at hg
      rw [Option.map_eq_none_iff] at hg
      have := List.find?_eq_none.mp hg q h
      simp at this
      omega
theorem zS1_lv {B : Nat} {ext : Nat → Nat} {ls : zL} {lsA ls' : Array Slot} {nL i : Nat} {v : Value} (hl : lv_has lsA nL (ls.map fun q => (q.1, zc B ext q.2))) (h : lv_has ls' nL ((i, zc B ext v) :: (ls.map fun q => (q.1, zc B ext q.2)).filter (fun q => !(q.1 == i) && !(q.1 + 1 == i && q.2.category == 2)))) : lv_has ls' nL ((zS1 ls i v).map fun q => (q.1, zc B ext q.2)) := by
  refine ⟨h.1, h.2.1, fun q hq => h.2.2 q ?_⟩
  obtain ⟨a, ha, rfl⟩ := List.mem_map.mp hq
  rcases zPut_mem ha with rfl | ⟨h1, h2⟩
  · exact List.mem_cons_self
  · obtain ⟨h3, h4⟩ := zCut_mem hl h1
    refine List.mem_cons_of_mem _ (List.mem_filter.mpr ⟨List.mem_map.mpr ⟨a, h3, rfl⟩, ?_⟩)
    simp only [zc_cat, Bool.and_eq_true, Bool.not_eq_true', beq_eq_false_iff_ne, Bool.and_eq_false_iff, ne_eq]
    refine ⟨h2, ?_⟩
    rcases Classical.em (a.1 + 1 = i) with e | e
    · exact Or.inr fun e2 => h4 ⟨e, e2⟩
    · exact Or.inl e
theorem zS2_lv {B : Nat} {ext : Nat → Nat} {ls : zL} {lsA ls' : Array Slot} {nL i : Nat} {v : Value} (hl : lv_has lsA nL (ls.map fun q => (q.1, zc B ext q.2))) (h : lv_has ls' nL ((i, zc B ext v) :: (ls.map fun q => (q.1, zc B ext q.2)).filter (fun q => !(q.1 == i) && (!(q.1 == i + 1) && !(q.1 + 1 == i && q.2.category == 2))))) : lv_has ls' nL ((zS2 ls i v).map fun q => (q.1, zc B ext q.2)) := by
  refine ⟨h.1, h.2.1, fun q hq => h.2.2 q ?_⟩
  obtain ⟨a, ha, rfl⟩ := List.mem_map.mp hq
  rcases zPut_mem ha with rfl | ⟨h1, h2⟩
  · exact List.mem_cons_self
  · obtain ⟨h1, h5⟩ := List.mem_filter.mp h1
    obtain ⟨h3, h4⟩ := zCut_mem hl h1
    refine List.mem_cons_of_mem _ (List.mem_filter.mpr ⟨List.mem_map.mpr ⟨a, h3, rfl⟩, ?_⟩)
    simp only [zc_cat, Bool.and_eq_true, Bool.not_eq_true', beq_eq_false_iff_ne, Bool.and_eq_false_iff, ne_eq] at h5 ⊢
    refine ⟨h2, h5, ?_⟩
    rcases Classical.em (a.1 + 1 = i) with e | e
    · exact Or.inr fun e2 => h4 ⟨e, e2⟩
    · exact Or.inl e
section ZS
variable {p : Program} {l : Launch} {ev : Env} {R : Room} {s : State} {m : MethodId} {args : Array Value} {below : List Frame} {meth : Method} {c : Code} {Q : State → Prop}
variable {cc : ByteArray} {own nL : Nat} {ret : Option FieldType} {init : Bool} {cd : List zE} {B : Nat} {D : va_G} {cA : Nat → ClassId} {ext : Nat → Nat} {L : Nat} {xs : Nat → Int32} {d : Nat} {Rr : zOr}
variable {ip : Nat} {ls : zL} {st : List Value} {μ : zM} {H : Heap} {locs : List Loc} {lsA : Array Slot} {cells slots : Nat} {K : Nat → zL → List Value → zM → Prop} {Z : Option Value → zM → Prop} {L0 S0 : Nat} {μF : zM}
/-- what is known behind a step -/
def zKk (p : Program) (l : Launch) (ev : Env) (R : Room) (s : State) (m : MethodId) (args : Array Value) (below : List Frame) (meth : Method) (c : Code) (Q : State → Prop) (nL : Nat) (cd : List zE) (B : Nat) (D : va_G) (cA : Nat → ClassId) (ext : Nat → Nat) (L : Nat) (xs : Nat → Int32) (K : Nat → zL → List Value → zM → Prop) (L0 S0 : Nat) : Prop :=
  ∀ (ip : Nat) (ls : zL) (st : List Value) (μ1 : zM) (H : Heap) (locs : List Loc) (lsA : Array Slot) (cells slots : Nat), K ip ls st μ1 → zIv B D cA L xs μ1 H → va_S (fun q => B ≤ q) s.heap H locs → lv_has lsA nL (ls.map fun q => (q.1, zc B ext q.2)) → L0 + cells = μ1.1.length → S0 + slots = zSl μ1 →
    W p l ev R s m args below meth c H locs cells slots Q (F0 m (zPc cd ip) lsA (st.map (zc B ext)))
def zHz (p : Program) (l : Launch) (ev : Env) (R : Room) (s : State) (m : MethodId) (args : Array Value) (below : List Frame) (meth : Method) (c : Code) (Q : State → Prop) (cc : ByteArray) (ret : Option FieldType) (B : Nat) (ext : Nat → Nat) (μ : zM) (H : Heap) (locs : List Loc) (cells slots : Nat) (Z : Option Value → zM → Prop) : Prop :=
  ∀ (v : Option Value) (ins : Instr) (pc : Nat) (lsA : Array Slot), Z v μ → decode cc pc = .ok (ins, 1) → zRetOk ins v ret → W p l ev R s m args below meth c H locs cells slots Q (F0 m pc lsA (v.toList.map (zc B ext)))
/-- a step's own row -/
def zOne (p : Program) (l : Launch) (ev : Env) (R : Room) (s : State) (m : MethodId) (args : Array Value) (below : List Frame) (meth : Method) (c : Code) (Q : State → Prop) (cc : ByteArray) (own nL : Nat) (ret : Option FieldType) (init : Bool) (cd : List zE) (B : Nat) (D : va_G) (cA : Nat → ClassId) (ext : Nat → Nat) (L : Nat) (xs : Nat → Int32) (d : Nat) (Rr : zOr) (μF : zM) (L0 S0 : Nat) (e : zE) : Prop :=
  zCtx p R s m args meth c cc own nL ret init cd B D cA ext L xs d → (∀ x as μ v μ', Rr x as μ v μ' → x < 227 → zLe μ μ' ∧ zMet l B D cA ext L xs d x as μ v μ') →
  ∀ (ip : Nat) (ls : zL) (st : List Value) (μ : zM) (H : Heap) (locs : List Loc) (lsA : Array Slot) (cells slots : Nat) (K : Nat → zL → List Value → zM → Prop) (Z : Option Value → zM → Prop),
  decode cc e.1 = .ok (e.2.1, zLen e) → (zFalls e.2.1 = true → zPc cd (ip + 1) = e.1 + zLen e) → zOpk own nL ret init cd e = true →
  zStep zDyn Rr e ip ls st μ K Z → zIv B D cA L xs μ H → va_S (fun q => B ≤ q) s.heap H locs → lv_has lsA nL (ls.map fun q => (q.1, zc B ext q.2)) → L0 + cells = μ.1.length → S0 + slots = zSl μ → μF.1.length ≤ L0 + R.cells → zSl μF ≤ S0 + R.slots →
  (∀ ip ls st μ1, K ip ls st μ1 → zLe μ1 μF) → zKk p l ev R s m args below meth c Q nL cd B D cA ext L xs K L0 S0 → zHz p l ev R s m args below meth c Q cc ret B ext μ H locs cells slots Z →
  W p l ev R s m args below meth c H locs cells slots Q (F0 m e.1 lsA (st.map (zc B ext)))

set_option maxHeartbeats 1000000 in
theorem zs_iconst {n : Int} {pc x y : Nat} {w : Int32} {t : List Nat} : zOne p l ev R s m args below meth c Q cc own nL ret init cd B D cA ext L xs d Rr μF L0 S0 (pc, .iconst n, x, y, w, t) := by
  intro C hR ip ls st μ H locs lsA cells slots K Z hd hn0 ho h hI hS hl hc hs hF hFs hle hk hz
  obtain ⟨hx, hb, hml, hown, hts, hK, hX, hch, hin, hfr, hlo⟩ := C
  have hn : zPc cd (ip + 1) = pc + 1 := hn0 rfl
  have ho := of_decide_eq_true ho
  refine lv_iconst hx hb hd ho ?_
  have hw := hk _ _ _ _ _ _ _ _ _ h hI hS hl hc hs
  rw [hn] at hw
  exact hw

set_option maxHeartbeats 1000000 in
theorem zs_bipush {n : Int} {pc x y : Nat} {w : Int32} {t : List Nat} : zOne p l ev R s m args below meth c Q cc own nL ret init cd B D cA ext L xs d Rr μF L0 S0 (pc, .bipush n, x, y, w, t) := by
  intro C hR ip ls st μ H locs lsA cells slots K Z hd hn0 ho h hI hS hl hc hs hF hFs hle hk hz
  obtain ⟨hx, hb, hml, hown, hts, hK, hX, hch, hin, hfr, hlo⟩ := C
  have hn : zPc cd (ip + 1) = pc + 2 := hn0 rfl
  have ho := of_decide_eq_true ho
  refine lv_bipush hx hb hd ho ?_
  have hw := hk _ _ _ _ _ _ _ _ _ h hI hS hl hc hs
  rw [hn] at hw
  exact hw

set_option maxHeartbeats 1000000 in
theorem zs_sipush {n : Int} {pc x y : Nat} {w : Int32} {t : List Nat} : zOne p l ev R s m args below meth c Q cc own nL ret init cd B D cA ext L xs d Rr μF L0 S0 (pc, .sipush n, x, y, w, t) := by
  intro C hR ip ls st μ H locs lsA cells slots K Z hd hn0 ho h hI hS hl hc hs hF hFs hle hk hz
  obtain ⟨hx, hb, hml, hown, hts, hK, hX, hch, hin, hfr, hlo⟩ := C
  have hn : zPc cd (ip + 1) = pc + 3 := hn0 rfl
  have ho := of_decide_eq_true ho
  refine lv_sipush hx hb hd ho ?_
  have hw := hk _ _ _ _ _ _ _ _ _ h hI hS hl hc hs
  rw [hn] at hw
  exact hw

set_option maxHeartbeats 1000000 in
theorem zs_null {pc x y : Nat} {w : Int32} {t : List Nat} : zOne p l ev R s m args below meth c Q cc own nL ret init cd B D cA ext L xs d Rr μF L0 S0 (pc, .aconst_null, x, y, w, t) := by
  intro C hR ip ls st μ H locs lsA cells slots K Z hd hn0 ho h hI hS hl hc hs hF hFs hle hk hz
  obtain ⟨hx, hb, hml, hown, hts, hK, hX, hch, hin, hfr, hlo⟩ := C
  have hn : zPc cd (ip + 1) = pc + 1 := hn0 rfl
  refine lv_null hx hb hd ?_
  have hw := hk _ _ _ _ _ _ _ _ _ h hI hS hl hc hs
  rw [hn] at hw
  exact hw

set_option maxHeartbeats 1000000 in
theorem zs_iload_n {k : Fin 4} {pc x y : Nat} {w : Int32} {t : List Nat} : zOne p l ev R s m args below meth c Q cc own nL ret init cd B D cA ext L xs d Rr μF L0 S0 (pc, .iload_n k, x, y, w, t) := by
  intro C hR ip ls st μ H locs lsA cells slots K Z hd hn0 ho h hI hS hl hc hs hF hFs hle hk hz
  obtain ⟨hx, hb, hml, hown, hts, hK, hX, hch, hin, hfr, hlo⟩ := C
  have hn : zPc cd (ip + 1) = pc + 1 := hn0 rfl
  have ho : k.val = x := by simpa [zOpk] using ho
  simp only [zStep] at h
  split at h
  · rename_i a hg
    refine lv_iload_n hx hb hd ho (zG_lv hl hg).1 ?_
    have hw := hk _ _ _ _ _ _ _ _ _ h hI hS hl hc hs
    rw [hn] at hw
    exact hw
  · exact h.elim

set_option maxHeartbeats 1000000 in
theorem zs_iload {k : Nat} {pc x y : Nat} {w : Int32} {t : List Nat} : zOne p l ev R s m args below meth c Q cc own nL ret init cd B D cA ext L xs d Rr μF L0 S0 (pc, .iload k, x, y, w, t) := by
  intro C hR ip ls st μ H locs lsA cells slots K Z hd hn0 ho h hI hS hl hc hs hF hFs hle hk hz
  obtain ⟨hx, hb, hml, hown, hts, hK, hX, hch, hin, hfr, hlo⟩ := C
  have hn : zPc cd (ip + 1) = pc + 2 := hn0 rfl
  have ho : k = x := by simpa [zOpk] using ho
  subst ho
  simp only [zStep] at h
  split at h
  · rename_i a hg
    refine lv_iload hx hb hd (zG_lv hl hg).1 ?_
    have hw := hk _ _ _ _ _ _ _ _ _ h hI hS hl hc hs
    rw [hn] at hw
    exact hw
  · exact h.elim

set_option maxHeartbeats 1000000 in
theorem zs_lload_n {k : Fin 4} {pc x y : Nat} {w : Int32} {t : List Nat} : zOne p l ev R s m args below meth c Q cc own nL ret init cd B D cA ext L xs d Rr μF L0 S0 (pc, .lload_n k, x, y, w, t) := by
  intro C hR ip ls st μ H locs lsA cells slots K Z hd hn0 ho h hI hS hl hc hs hF hFs hle hk hz
  obtain ⟨hx, hb, hml, hown, hts, hK, hX, hch, hin, hfr, hlo⟩ := C
  have hn : zPc cd (ip + 1) = pc + 1 := hn0 rfl
  have ho : k.val = x := by simpa [zOpk] using ho
  simp only [zStep] at h
  split at h
  · rename_i a hg
    refine lv_lload_n hx hb hd ho (zG_lv hl hg).1 ?_
    have hw := hk _ _ _ _ _ _ _ _ _ h hI hS hl hc hs
    rw [hn] at hw
    exact hw
  · exact h.elim

set_option maxHeartbeats 1000000 in
theorem zs_lload {k : Nat} {pc x y : Nat} {w : Int32} {t : List Nat} : zOne p l ev R s m args below meth c Q cc own nL ret init cd B D cA ext L xs d Rr μF L0 S0 (pc, .lload k, x, y, w, t) := by
  intro C hR ip ls st μ H locs lsA cells slots K Z hd hn0 ho h hI hS hl hc hs hF hFs hle hk hz
  obtain ⟨hx, hb, hml, hown, hts, hK, hX, hch, hin, hfr, hlo⟩ := C
  have hn : zPc cd (ip + 1) = pc + 2 := hn0 rfl
  have ho : k = x := by simpa [zOpk] using ho
  subst ho
  simp only [zStep] at h
  split at h
  · rename_i a hg
    refine lv_lload hx hb hd (zG_lv hl hg).1 ?_
    have hw := hk _ _ _ _ _ _ _ _ _ h hI hS hl hc hs
    rw [hn] at hw
    exact hw
  · exact h.elim

set_option maxHeartbeats 1000000 in
theorem zs_aload_n {k : Fin 4} {pc x y : Nat} {w : Int32} {t : List Nat} : zOne p l ev R s m args below meth c Q cc own nL ret init cd B D cA ext L xs d Rr μF L0 S0 (pc, .aload_n k, x, y, w, t) := by
  intro C hR ip ls st μ H locs lsA cells slots K Z hd hn0 ho h hI hS hl hc hs hF hFs hle hk hz
  obtain ⟨hx, hb, hml, hown, hts, hK, hX, hch, hin, hfr, hlo⟩ := C
  have hn : zPc cd (ip + 1) = pc + 1 := hn0 rfl
  have ho : k.val = x := by simpa [zOpk] using ho
  simp only [zStep] at h
  split at h
  · rename_i a hg
    refine lv_aload_n hx hb hd ho (zG_lv hl hg).1 ?_
    have hw := hk _ _ _ _ _ _ _ _ _ h hI hS hl hc hs
    rw [hn] at hw
    exact hw
  · rename_i hg
    refine lv_aload_nN hx hb hd ho (zG_lv hl hg).1 ?_
    have hw := hk _ _ _ _ _ _ _ _ _ h hI hS hl hc hs
    rw [hn] at hw
    exact hw
  · exact h.elim

set_option maxHeartbeats 1000000 in
theorem zs_aload {k : Nat} {pc x y : Nat} {w : Int32} {t : List Nat} : zOne p l ev R s m args below meth c Q cc own nL ret init cd B D cA ext L xs d Rr μF L0 S0 (pc, .aload k, x, y, w, t) := by
  intro C hR ip ls st μ H locs lsA cells slots K Z hd hn0 ho h hI hS hl hc hs hF hFs hle hk hz
  obtain ⟨hx, hb, hml, hown, hts, hK, hX, hch, hin, hfr, hlo⟩ := C
  have hn : zPc cd (ip + 1) = pc + 2 := hn0 rfl
  have ho : k = x := by simpa [zOpk] using ho
  subst ho
  simp only [zStep] at h
  split at h
  · rename_i a hg
    refine lv_aload hx hb hd (zG_lv hl hg).1 ?_
    have hw := hk _ _ _ _ _ _ _ _ _ h hI hS hl hc hs
    rw [hn] at hw
    exact hw
  · rename_i hg
    refine lv_aloadN hx hb hd (zG_lv hl hg).1 ?_
    have hw := hk _ _ _ _ _ _ _ _ _ h hI hS hl hc hs
    rw [hn] at hw
    exact hw
  · exact h.elim

set_option maxHeartbeats 1000000 in
theorem zs_istore_n {k : Fin 4} {pc x y : Nat} {w : Int32} {t : List Nat} : zOne p l ev R s m args below meth c Q cc own nL ret init cd B D cA ext L xs d Rr μF L0 S0 (pc, .istore_n k, x, y, w, t) := by
  intro C hR ip ls st μ H locs lsA cells slots K Z hd hn0 ho h hI hS hl hc hs hF hFs hle hk hz
  obtain ⟨hx, hb, hml, hown, hts, hK, hX, hch, hin, hfr, hlo⟩ := C
  have hn : zPc cd (ip + 1) = pc + 1 := hn0 rfl
  have ho : k.val = x ∧ x < nL := by simpa [zOpk] using ho
  simp only [zStep] at h
  split at h
  · rename_i a st
    refine lv_istore_n hx hb hd ho.1 hl ho.2 rfl (fun ls' hl' => ?_)
    have hw := hk _ _ _ _ _ _ _ _ _ h hI hS (zS1_lv (v := .int a) hl hl') hc hs
    rw [hn] at hw
    exact hw
  · exact h.elim

set_option maxHeartbeats 1000000 in
theorem zs_istore {k : Nat} {pc x y : Nat} {w : Int32} {t : List Nat} : zOne p l ev R s m args below meth c Q cc own nL ret init cd B D cA ext L xs d Rr μF L0 S0 (pc, .istore k, x, y, w, t) := by
  intro C hR ip ls st μ H locs lsA cells slots K Z hd hn0 ho h hI hS hl hc hs hF hFs hle hk hz
  obtain ⟨hx, hb, hml, hown, hts, hK, hX, hch, hin, hfr, hlo⟩ := C
  have hn : zPc cd (ip + 1) = pc + 2 := hn0 rfl
  have ho : k = x ∧ x < nL := by simpa [zOpk] using ho
  obtain ⟨rfl, ho⟩ := ho
  simp only [zStep] at h
  split at h
  · rename_i a st
    refine lv_istore hx hb hd  hl ho rfl (fun ls' hl' => ?_)
    have hw := hk _ _ _ _ _ _ _ _ _ h hI hS (zS1_lv (v := .int a) hl hl') hc hs
    rw [hn] at hw
    exact hw
  · exact h.elim

set_option maxHeartbeats 1000000 in
theorem zs_lstore_n {k : Fin 4} {pc x y : Nat} {w : Int32} {t : List Nat} : zOne p l ev R s m args below meth c Q cc own nL ret init cd B D cA ext L xs d Rr μF L0 S0 (pc, .lstore_n k, x, y, w, t) := by
  intro C hR ip ls st μ H locs lsA cells slots K Z hd hn0 ho h hI hS hl hc hs hF hFs hle hk hz
  obtain ⟨hx, hb, hml, hown, hts, hK, hX, hch, hin, hfr, hlo⟩ := C
  have hn : zPc cd (ip + 1) = pc + 1 := hn0 rfl
  have ho : k.val = x ∧ x + 1 < nL := by simpa [zOpk] using ho
  simp only [zStep] at h
  split at h
  · rename_i a st
    refine lv_lstore_n hx hb hd ho.1 hl ho.2 rfl (fun ls' hl' => ?_)
    have hw := hk _ _ _ _ _ _ _ _ _ h hI hS (zS2_lv (v := .long a) hl hl') hc hs
    rw [hn] at hw
    exact hw
  · exact h.elim

set_option maxHeartbeats 1000000 in
theorem zs_lstore {k : Nat} {pc x y : Nat} {w : Int32} {t : List Nat} : zOne p l ev R s m args below meth c Q cc own nL ret init cd B D cA ext L xs d Rr μF L0 S0 (pc, .lstore k, x, y, w, t) := by
  intro C hR ip ls st μ H locs lsA cells slots K Z hd hn0 ho h hI hS hl hc hs hF hFs hle hk hz
  obtain ⟨hx, hb, hml, hown, hts, hK, hX, hch, hin, hfr, hlo⟩ := C
  have hn : zPc cd (ip + 1) = pc + 2 := hn0 rfl
  have ho : k = x ∧ x + 1 < nL := by simpa [zOpk] using ho
  obtain ⟨rfl, ho⟩ := ho
  simp only [zStep] at h
  split at h
  · rename_i a st
    refine lv_lstore hx hb hd  hl ho rfl (fun ls' hl' => ?_)
    have hw := hk _ _ _ _ _ _ _ _ _ h hI hS (zS2_lv (v := .long a) hl hl') hc hs
    rw [hn] at hw
    exact hw
  · exact h.elim

set_option maxHeartbeats 1000000 in
theorem zs_astore_n {k : Fin 4} {pc x y : Nat} {w : Int32} {t : List Nat} : zOne p l ev R s m args below meth c Q cc own nL ret init cd B D cA ext L xs d Rr μF L0 S0 (pc, .astore_n k, x, y, w, t) := by
  intro C hR ip ls st μ H locs lsA cells slots K Z hd hn0 ho h hI hS hl hc hs hF hFs hle hk hz
  obtain ⟨hx, hb, hml, hown, hts, hK, hX, hch, hin, hfr, hlo⟩ := C
  have hn : zPc cd (ip + 1) = pc + 1 := hn0 rfl
  have ho : k.val = x ∧ x < nL := by simpa [zOpk] using ho
  simp only [zStep] at h
  split at h
  · rename_i a st
    refine lv_astore_n hx hb hd ho.1 hl ho.2 rfl (fun ls' hl' => ?_)
    have hw := hk _ _ _ _ _ _ _ _ _ h hI hS (zS1_lv (v := .ref a) hl hl') hc hs
    rw [hn] at hw
    exact hw
  · rename_i st
    refine lv_astore_nN hx hb hd ho.1 hl ho.2 rfl (fun ls' hl' => ?_)
    have hw := hk _ _ _ _ _ _ _ _ _ h hI hS (zS1_lv (v := .null) hl hl') hc hs
    rw [hn] at hw
    exact hw
  · exact h.elim

set_option maxHeartbeats 1000000 in
theorem zs_astore {k : Nat} {pc x y : Nat} {w : Int32} {t : List Nat} : zOne p l ev R s m args below meth c Q cc own nL ret init cd B D cA ext L xs d Rr μF L0 S0 (pc, .astore k, x, y, w, t) := by
  intro C hR ip ls st μ H locs lsA cells slots K Z hd hn0 ho h hI hS hl hc hs hF hFs hle hk hz
  obtain ⟨hx, hb, hml, hown, hts, hK, hX, hch, hin, hfr, hlo⟩ := C
  have hn : zPc cd (ip + 1) = pc + 2 := hn0 rfl
  have ho : k = x ∧ x < nL := by simpa [zOpk] using ho
  obtain ⟨rfl, ho⟩ := ho
  simp only [zStep] at h
  split at h
  · rename_i a st
    refine lv_astore hx hb hd  hl ho rfl (fun ls' hl' => ?_)
    have hw := hk _ _ _ _ _ _ _ _ _ h hI hS (zS1_lv (v := .ref a) hl hl') hc hs
    rw [hn] at hw
    exact hw
  · rename_i st
    refine lv_astoreN hx hb hd  hl ho rfl (fun ls' hl' => ?_)
    have hw := hk _ _ _ _ _ _ _ _ _ h hI hS (zS1_lv (v := .null) hl hl') hc hs
    rw [hn] at hw
    exact hw
  · exact h.elim

set_option maxHeartbeats 1000000 in
theorem zs_iinc {k : Nat} {n : Int} {pc x y : Nat} {w : Int32} {t : List Nat} : zOne p l ev R s m args below meth c Q cc own nL ret init cd B D cA ext L xs d Rr μF L0 S0 (pc, .iinc k n, x, y, w, t) := by
  intro C hR ip ls st μ H locs lsA cells slots K Z hd hn0 ho h hI hS hl hc hs hF hFs hle hk hz
  obtain ⟨hx, hb, hml, hown, hts, hK, hX, hch, hin, hfr, hlo⟩ := C
  have hn : zPc cd (ip + 1) = pc + 3 := hn0 rfl
  have ho : (k = x ∧ Int32.ofInt n = w) ∧ x < nL := by simpa [zOpk, and_assoc] using ho
  obtain ⟨⟨rfl, ho1⟩, ho2⟩ := ho
  simp only [zStep] at h
  split at h
  · rename_i a hg
    obtain ⟨i, hi⟩ := List.getElem?_of_mem (zG_lv hl hg).2
    refine lv_iinc (k := i) (v := a + w) hx hb hd hl (by rw [List.getElem?_map, hi]; rfl) (by rw [ho1]) ho2 rfl (fun ls' hl' => ?_)
    have hw := hk _ _ _ _ _ _ _ _ _ h hI hS (zS1_lv (v := .int (a + w)) hl hl') hc hs
    rw [hn] at hw
    exact hw
  · exact h.elim

set_option maxHeartbeats 1000000 in
theorem zs_iadd {pc x y : Nat} {w : Int32} {t : List Nat} : zOne p l ev R s m args below meth c Q cc own nL ret init cd B D cA ext L xs d Rr μF L0 S0 (pc, .iadd, x, y, w, t) := by
  intro C hR ip ls st μ H locs lsA cells slots K Z hd hn0 ho h hI hS hl hc hs hF hFs hle hk hz
  obtain ⟨hx, hb, hml, hown, hts, hK, hX, hch, hin, hfr, hlo⟩ := C
  have hn : zPc cd (ip + 1) = pc + 1 := hn0 rfl
  simp only [zStep, zBin] at h
  split at h
  · rename_i f b a st hf
    obtain rfl := Option.some.inj hf
    refine lv_iadd hx hb hd ?_
    have hw := hk _ _ _ _ _ _ _ _ _ h hI hS hl hc hs
    rw [hn] at hw
    exact hw
  · exact h.elim

set_option maxHeartbeats 1000000 in
theorem zs_isub {pc x y : Nat} {w : Int32} {t : List Nat} : zOne p l ev R s m args below meth c Q cc own nL ret init cd B D cA ext L xs d Rr μF L0 S0 (pc, .isub, x, y, w, t) := by
  intro C hR ip ls st μ H locs lsA cells slots K Z hd hn0 ho h hI hS hl hc hs hF hFs hle hk hz
  obtain ⟨hx, hb, hml, hown, hts, hK, hX, hch, hin, hfr, hlo⟩ := C
  have hn : zPc cd (ip + 1) = pc + 1 := hn0 rfl
  simp only [zStep, zBin] at h
  split at h
  · rename_i f b a st hf
    obtain rfl := Option.some.inj hf
    refine lv_isub hx hb hd ?_
    have hw := hk _ _ _ _ _ _ _ _ _ h hI hS hl hc hs
    rw [hn] at hw
    exact hw
  · exact h.elim

set_option maxHeartbeats 1000000 in
theorem zs_imul {pc x y : Nat} {w : Int32} {t : List Nat} : zOne p l ev R s m args below meth c Q cc own nL ret init cd B D cA ext L xs d Rr μF L0 S0 (pc, .imul, x, y, w, t) := by
  intro C hR ip ls st μ H locs lsA cells slots K Z hd hn0 ho h hI hS hl hc hs hF hFs hle hk hz
  obtain ⟨hx, hb, hml, hown, hts, hK, hX, hch, hin, hfr, hlo⟩ := C
  have hn : zPc cd (ip + 1) = pc + 1 := hn0 rfl
  simp only [zStep, zBin] at h
  split at h
  · rename_i f b a st hf
    obtain rfl := Option.some.inj hf
    refine lv_imul hx hb hd ?_
    have hw := hk _ _ _ _ _ _ _ _ _ h hI hS hl hc hs
    rw [hn] at hw
    exact hw
  · exact h.elim

set_option maxHeartbeats 1000000 in
theorem zs_iand {pc x y : Nat} {w : Int32} {t : List Nat} : zOne p l ev R s m args below meth c Q cc own nL ret init cd B D cA ext L xs d Rr μF L0 S0 (pc, .iand, x, y, w, t) := by
  intro C hR ip ls st μ H locs lsA cells slots K Z hd hn0 ho h hI hS hl hc hs hF hFs hle hk hz
  obtain ⟨hx, hb, hml, hown, hts, hK, hX, hch, hin, hfr, hlo⟩ := C
  have hn : zPc cd (ip + 1) = pc + 1 := hn0 rfl
  simp only [zStep, zBin] at h
  split at h
  · rename_i f b a st hf
    obtain rfl := Option.some.inj hf
    refine lv_iand hx hb hd ?_
    have hw := hk _ _ _ _ _ _ _ _ _ h hI hS hl hc hs
    rw [hn] at hw
    exact hw
  · exact h.elim

set_option maxHeartbeats 1000000 in
theorem zs_ior {pc x y : Nat} {w : Int32} {t : List Nat} : zOne p l ev R s m args below meth c Q cc own nL ret init cd B D cA ext L xs d Rr μF L0 S0 (pc, .ior, x, y, w, t) := by
  intro C hR ip ls st μ H locs lsA cells slots K Z hd hn0 ho h hI hS hl hc hs hF hFs hle hk hz
  obtain ⟨hx, hb, hml, hown, hts, hK, hX, hch, hin, hfr, hlo⟩ := C
  have hn : zPc cd (ip + 1) = pc + 1 := hn0 rfl
  simp only [zStep, zBin] at h
  split at h
  · rename_i f b a st hf
    obtain rfl := Option.some.inj hf
    refine lv_ior hx hb hd ?_
    have hw := hk _ _ _ _ _ _ _ _ _ h hI hS hl hc hs
    rw [hn] at hw
    exact hw
  · exact h.elim

set_option maxHeartbeats 1000000 in
theorem zs_ixor {pc x y : Nat} {w : Int32} {t : List Nat} : zOne p l ev R s m args below meth c Q cc own nL ret init cd B D cA ext L xs d Rr μF L0 S0 (pc, .ixor, x, y, w, t) := by
  intro C hR ip ls st μ H locs lsA cells slots K Z hd hn0 ho h hI hS hl hc hs hF hFs hle hk hz
  obtain ⟨hx, hb, hml, hown, hts, hK, hX, hch, hin, hfr, hlo⟩ := C
  have hn : zPc cd (ip + 1) = pc + 1 := hn0 rfl
  simp only [zStep, zBin] at h
  split at h
  · rename_i f b a st hf
    obtain rfl := Option.some.inj hf
    refine lv_ixor hx hb hd ?_
    have hw := hk _ _ _ _ _ _ _ _ _ h hI hS hl hc hs
    rw [hn] at hw
    exact hw
  · exact h.elim

set_option maxHeartbeats 1000000 in
theorem zs_ishl {pc x y : Nat} {w : Int32} {t : List Nat} : zOne p l ev R s m args below meth c Q cc own nL ret init cd B D cA ext L xs d Rr μF L0 S0 (pc, .ishl, x, y, w, t) := by
  intro C hR ip ls st μ H locs lsA cells slots K Z hd hn0 ho h hI hS hl hc hs hF hFs hle hk hz
  obtain ⟨hx, hb, hml, hown, hts, hK, hX, hch, hin, hfr, hlo⟩ := C
  have hn : zPc cd (ip + 1) = pc + 1 := hn0 rfl
  simp only [zStep, zBin] at h
  split at h
  · rename_i f b a st hf
    obtain rfl := Option.some.inj hf
    refine lv_ishl hx hb hd ?_
    have hw := hk _ _ _ _ _ _ _ _ _ h hI hS hl hc hs
    rw [hn] at hw
    exact hw
  · exact h.elim

set_option maxHeartbeats 1000000 in
theorem zs_ishr {pc x y : Nat} {w : Int32} {t : List Nat} : zOne p l ev R s m args below meth c Q cc own nL ret init cd B D cA ext L xs d Rr μF L0 S0 (pc, .ishr, x, y, w, t) := by
  intro C hR ip ls st μ H locs lsA cells slots K Z hd hn0 ho h hI hS hl hc hs hF hFs hle hk hz
  obtain ⟨hx, hb, hml, hown, hts, hK, hX, hch, hin, hfr, hlo⟩ := C
  have hn : zPc cd (ip + 1) = pc + 1 := hn0 rfl
  simp only [zStep, zBin] at h
  split at h
  · rename_i f b a st hf
    obtain rfl := Option.some.inj hf
    refine lv_ishr hx hb hd ?_
    have hw := hk _ _ _ _ _ _ _ _ _ h hI hS hl hc hs
    rw [hn] at hw
    exact hw
  · exact h.elim

set_option maxHeartbeats 1000000 in
theorem zs_iushr {pc x y : Nat} {w : Int32} {t : List Nat} : zOne p l ev R s m args below meth c Q cc own nL ret init cd B D cA ext L xs d Rr μF L0 S0 (pc, .iushr, x, y, w, t) := by
  intro C hR ip ls st μ H locs lsA cells slots K Z hd hn0 ho h hI hS hl hc hs hF hFs hle hk hz
  obtain ⟨hx, hb, hml, hown, hts, hK, hX, hch, hin, hfr, hlo⟩ := C
  have hn : zPc cd (ip + 1) = pc + 1 := hn0 rfl
  simp only [zStep, zBin] at h
  split at h
  · rename_i f b a st hf
    obtain rfl := Option.some.inj hf
    refine lv_iushr hx hb hd rfl ?_
    have hw := hk _ _ _ _ _ _ _ _ _ h hI hS hl hc hs
    rw [hn] at hw
    exact hw
  · exact h.elim

set_option maxHeartbeats 1000000 in
theorem zs_ineg {pc x y : Nat} {w : Int32} {t : List Nat} : zOne p l ev R s m args below meth c Q cc own nL ret init cd B D cA ext L xs d Rr μF L0 S0 (pc, .ineg, x, y, w, t) := by
  intro C hR ip ls st μ H locs lsA cells slots K Z hd hn0 ho h hI hS hl hc hs hF hFs hle hk hz
  obtain ⟨hx, hb, hml, hown, hts, hK, hX, hch, hin, hfr, hlo⟩ := C
  have hn : zPc cd (ip + 1) = pc + 1 := hn0 rfl
  simp only [zStep] at h
  split at h
  · rename_i a st
    refine lv_ineg hx hb hd ?_
    have hw := hk _ _ _ _ _ _ _ _ _ h hI hS hl hc hs
    rw [hn] at hw
    exact hw
  · exact h.elim

set_option maxHeartbeats 1000000 in
theorem zs_i2l {pc x y : Nat} {w : Int32} {t : List Nat} : zOne p l ev R s m args below meth c Q cc own nL ret init cd B D cA ext L xs d Rr μF L0 S0 (pc, .i2l, x, y, w, t) := by
  intro C hR ip ls st μ H locs lsA cells slots K Z hd hn0 ho h hI hS hl hc hs hF hFs hle hk hz
  obtain ⟨hx, hb, hml, hown, hts, hK, hX, hch, hin, hfr, hlo⟩ := C
  have hn : zPc cd (ip + 1) = pc + 1 := hn0 rfl
  simp only [zStep] at h
  split at h
  · rename_i a st
    refine lv_i2l hx hb hd rfl ?_
    have hw := hk _ _ _ _ _ _ _ _ _ h hI hS hl hc hs
    rw [hn] at hw
    exact hw
  · exact h.elim

set_option maxHeartbeats 1000000 in
theorem zs_i2b {pc x y : Nat} {w : Int32} {t : List Nat} : zOne p l ev R s m args below meth c Q cc own nL ret init cd B D cA ext L xs d Rr μF L0 S0 (pc, .i2b, x, y, w, t) := by
  intro C hR ip ls st μ H locs lsA cells slots K Z hd hn0 ho h hI hS hl hc hs hF hFs hle hk hz
  obtain ⟨hx, hb, hml, hown, hts, hK, hX, hch, hin, hfr, hlo⟩ := C
  have hn : zPc cd (ip + 1) = pc + 1 := hn0 rfl
  simp only [zStep] at h
  split at h
  · rename_i a st
    refine lv_i2b hx hb hd rfl ?_
    have hw := hk _ _ _ _ _ _ _ _ _ h hI hS hl hc hs
    rw [hn] at hw
    exact hw
  · exact h.elim

set_option maxHeartbeats 1000000 in
theorem zs_i2s {pc x y : Nat} {w : Int32} {t : List Nat} : zOne p l ev R s m args below meth c Q cc own nL ret init cd B D cA ext L xs d Rr μF L0 S0 (pc, .i2s, x, y, w, t) := by
  intro C hR ip ls st μ H locs lsA cells slots K Z hd hn0 ho h hI hS hl hc hs hF hFs hle hk hz
  obtain ⟨hx, hb, hml, hown, hts, hK, hX, hch, hin, hfr, hlo⟩ := C
  have hn : zPc cd (ip + 1) = pc + 1 := hn0 rfl
  simp only [zStep] at h
  split at h
  · rename_i a st
    refine lv_i2s hx hb hd rfl ?_
    have hw := hk _ _ _ _ _ _ _ _ _ h hI hS hl hc hs
    rw [hn] at hw
    exact hw
  · exact h.elim

set_option maxHeartbeats 1000000 in
theorem zs_ladd {pc x y : Nat} {w : Int32} {t : List Nat} : zOne p l ev R s m args below meth c Q cc own nL ret init cd B D cA ext L xs d Rr μF L0 S0 (pc, .ladd, x, y, w, t) := by
  intro C hR ip ls st μ H locs lsA cells slots K Z hd hn0 ho h hI hS hl hc hs hF hFs hle hk hz
  obtain ⟨hx, hb, hml, hown, hts, hK, hX, hch, hin, hfr, hlo⟩ := C
  have hn : zPc cd (ip + 1) = pc + 1 := hn0 rfl
  simp only [zStep] at h
  split at h
  · rename_i b a st
    refine lv_ladd hx hb hd ?_
    have hw := hk _ _ _ _ _ _ _ _ _ h hI hS hl hc hs
    rw [hn] at hw
    exact hw
  · exact h.elim

set_option maxHeartbeats 1000000 in
theorem zs_lmul {pc x y : Nat} {w : Int32} {t : List Nat} : zOne p l ev R s m args below meth c Q cc own nL ret init cd B D cA ext L xs d Rr μF L0 S0 (pc, .lmul, x, y, w, t) := by
  intro C hR ip ls st μ H locs lsA cells slots K Z hd hn0 ho h hI hS hl hc hs hF hFs hle hk hz
  obtain ⟨hx, hb, hml, hown, hts, hK, hX, hch, hin, hfr, hlo⟩ := C
  have hn : zPc cd (ip + 1) = pc + 1 := hn0 rfl
  simp only [zStep] at h
  split at h
  · rename_i b a st
    refine lv_lmul hx hb hd ?_
    have hw := hk _ _ _ _ _ _ _ _ _ h hI hS hl hc hs
    rw [hn] at hw
    exact hw
  · exact h.elim

set_option maxHeartbeats 1000000 in
theorem zs_lcmp {pc x y : Nat} {w : Int32} {t : List Nat} : zOne p l ev R s m args below meth c Q cc own nL ret init cd B D cA ext L xs d Rr μF L0 S0 (pc, .lcmp, x, y, w, t) := by
  intro C hR ip ls st μ H locs lsA cells slots K Z hd hn0 ho h hI hS hl hc hs hF hFs hle hk hz
  obtain ⟨hx, hb, hml, hown, hts, hK, hX, hch, hin, hfr, hlo⟩ := C
  have hn : zPc cd (ip + 1) = pc + 1 := hn0 rfl
  simp only [zStep] at h
  split at h
  · rename_i b a st
    refine W.lcmp hx hb hd ?_
    have hw := hk _ _ _ _ _ _ _ _ _ h hI hS hl hc hs
    rw [hn] at hw
    exact hw
  · exact h.elim

set_option maxHeartbeats 1000000 in
theorem zs_idiv {pc x y : Nat} {w : Int32} {t : List Nat} : zOne p l ev R s m args below meth c Q cc own nL ret init cd B D cA ext L xs d Rr μF L0 S0 (pc, .idiv, x, y, w, t) := by
  intro C hR ip ls st μ H locs lsA cells slots K Z hd hn0 ho h hI hS hl hc hs hF hFs hle hk hz
  obtain ⟨hx, hb, hml, hown, hts, hK, hX, hch, hin, hfr, hlo⟩ := C
  have hn : zPc cd (ip + 1) = pc + 1 := hn0 rfl
  simp only [zStep] at h
  split at h
  · rename_i b a st
    obtain ⟨h0, h⟩ := h
    refine lv_idiv hx hb hd h0 ?_
    have hw := hk _ _ _ _ _ _ _ _ _ h hI hS hl hc hs
    rw [hn] at hw
    exact hw
  · exact h.elim

set_option maxHeartbeats 1000000 in
theorem zs_irem {pc x y : Nat} {w : Int32} {t : List Nat} : zOne p l ev R s m args below meth c Q cc own nL ret init cd B D cA ext L xs d Rr μF L0 S0 (pc, .irem, x, y, w, t) := by
  intro C hR ip ls st μ H locs lsA cells slots K Z hd hn0 ho h hI hS hl hc hs hF hFs hle hk hz
  obtain ⟨hx, hb, hml, hown, hts, hK, hX, hch, hin, hfr, hlo⟩ := C
  have hn : zPc cd (ip + 1) = pc + 1 := hn0 rfl
  simp only [zStep] at h
  split at h
  · rename_i b a st
    obtain ⟨h0, h⟩ := h
    refine lv_irem hx hb hd h0 ?_
    have hw := hk _ _ _ _ _ _ _ _ _ h hI hS hl hc hs
    rw [hn] at hw
    exact hw
  · exact h.elim

set_option maxHeartbeats 1000000 in
theorem zs_ldiv {pc x y : Nat} {w : Int32} {t : List Nat} : zOne p l ev R s m args below meth c Q cc own nL ret init cd B D cA ext L xs d Rr μF L0 S0 (pc, .ldiv, x, y, w, t) := by
  intro C hR ip ls st μ H locs lsA cells slots K Z hd hn0 ho h hI hS hl hc hs hF hFs hle hk hz
  obtain ⟨hx, hb, hml, hown, hts, hK, hX, hch, hin, hfr, hlo⟩ := C
  have hn : zPc cd (ip + 1) = pc + 1 := hn0 rfl
  simp only [zStep] at h
  split at h
  · rename_i b a st
    obtain ⟨h0, h⟩ := h
    refine lv_ldiv hx hb hd h0 ?_
    have hw := hk _ _ _ _ _ _ _ _ _ h hI hS hl hc hs
    rw [hn] at hw
    exact hw
  · exact h.elim

set_option maxHeartbeats 1000000 in
theorem zs_lrem {pc x y : Nat} {w : Int32} {t : List Nat} : zOne p l ev R s m args below meth c Q cc own nL ret init cd B D cA ext L xs d Rr μF L0 S0 (pc, .lrem, x, y, w, t) := by
  intro C hR ip ls st μ H locs lsA cells slots K Z hd hn0 ho h hI hS hl hc hs hF hFs hle hk hz
  obtain ⟨hx, hb, hml, hown, hts, hK, hX, hch, hin, hfr, hlo⟩ := C
  have hn : zPc cd (ip + 1) = pc + 1 := hn0 rfl
  simp only [zStep] at h
  split at h
  · rename_i b a st
    obtain ⟨h0, h⟩ := h
    refine lv_lrem hx hb hd h0 ?_
    have hw := hk _ _ _ _ _ _ _ _ _ h hI hS hl hc hs
    rw [hn] at hw
    exact hw
  · exact h.elim

set_option maxHeartbeats 1000000 in
theorem zs_dup {pc x y : Nat} {w : Int32} {t : List Nat} : zOne p l ev R s m args below meth c Q cc own nL ret init cd B D cA ext L xs d Rr μF L0 S0 (pc, .dup, x, y, w, t) := by
  intro C hR ip ls st μ H locs lsA cells slots K Z hd hn0 ho h hI hS hl hc hs hF hFs hle hk hz
  obtain ⟨hx, hb, hml, hown, hts, hK, hX, hch, hin, hfr, hlo⟩ := C
  have hn : zPc cd (ip + 1) = pc + 1 := hn0 rfl
  simp only [zStep] at h
  split at h
  · refine lv_dup hx hb hd rfl ?_
    have hw := hk _ _ _ _ _ _ _ _ _ h hI hS hl hc hs
    rw [hn] at hw
    exact hw
  · refine lv_dup hx hb hd rfl ?_
    have hw := hk _ _ _ _ _ _ _ _ _ h hI hS hl hc hs
    rw [hn] at hw
    exact hw
  · exact h.elim

set_option maxHeartbeats 1000000 in
theorem zs_dup2 {pc x y : Nat} {w : Int32} {t : List Nat} : zOne p l ev R s m args below meth c Q cc own nL ret init cd B D cA ext L xs d Rr μF L0 S0 (pc, .dup2, x, y, w, t) := by
  intro C hR ip ls st μ H locs lsA cells slots K Z hd hn0 ho h hI hS hl hc hs hF hFs hle hk hz
  obtain ⟨hx, hb, hml, hown, hts, hK, hX, hch, hin, hfr, hlo⟩ := C
  have hn : zPc cd (ip + 1) = pc + 1 := hn0 rfl
  simp only [zStep] at h
  split at h
  · refine lv_dup2_11 hx hb hd rfl rfl ?_
    have hw := hk _ _ _ _ _ _ _ _ _ h hI hS hl hc hs
    rw [hn] at hw
    exact hw
  · exact h.elim

set_option maxHeartbeats 1000000 in
theorem zs_pop {pc x y : Nat} {w : Int32} {t : List Nat} : zOne p l ev R s m args below meth c Q cc own nL ret init cd B D cA ext L xs d Rr μF L0 S0 (pc, .pop, x, y, w, t) := by
  intro C hR ip ls st μ H locs lsA cells slots K Z hd hn0 ho h hI hS hl hc hs hF hFs hle hk hz
  obtain ⟨hx, hb, hml, hown, hts, hK, hX, hch, hin, hfr, hlo⟩ := C
  have hn : zPc cd (ip + 1) = pc + 1 := hn0 rfl
  simp only [zStep] at h
  split at h
  · refine lv_pop hx hb hd rfl ?_
    have hw := hk _ _ _ _ _ _ _ _ _ h hI hS hl hc hs
    rw [hn] at hw
    exact hw
  · refine lv_pop hx hb hd rfl ?_
    have hw := hk _ _ _ _ _ _ _ _ _ h hI hS hl hc hs
    rw [hn] at hw
    exact hw
  · refine lv_pop hx hb hd rfl ?_
    have hw := hk _ _ _ _ _ _ _ _ _ h hI hS hl hc hs
    rw [hn] at hw
    exact hw
  · exact h.elim

set_option maxHeartbeats 1000000 in
theorem zs_goto {off : Int} {pc x y : Nat} {w : Int32} {t : List Nat} : zOne p l ev R s m args below meth c Q cc own nL ret init cd B D cA ext L xs d Rr μF L0 S0 (pc, .goto off, x, y, w, t) := by
  intro C hR ip ls st μ H locs lsA cells slots K Z hd hn0 ho h hI hS hl hc hs hF hFs hle hk hz
  obtain ⟨hx, hb, hml, hown, hts, hK, hX, hch, hin, hfr, hlo⟩ := C
  have ho : (pc : Int) + off = (zPc cd x : Int) := of_decide_eq_true ho
  exact lv_goto hx hb hd ho (hk _ _ _ _ _ _ _ _ _ h hI hS hl hc hs)

set_option maxHeartbeats 1000000 in
theorem zs_if_eq {off : Int} {pc x y : Nat} {w : Int32} {t : List Nat} : zOne p l ev R s m args below meth c Q cc own nL ret init cd B D cA ext L xs d Rr μF L0 S0 (pc, .ifCond .eq off, x, y, w, t) := by
  intro C hR ip ls st μ H locs lsA cells slots K Z hd hn0 ho h hI hS hl hc hs hF hFs hle hk hz
  obtain ⟨hx, hb, hml, hown, hts, hK, hX, hch, hin, hfr, hlo⟩ := C
  have hn : zPc cd (ip + 1) = pc + 3 := hn0 rfl
  have ho : (pc : Int) + off = (zPc cd x : Int) := of_decide_eq_true ho
  simp only [zStep] at h
  split at h
  · rename_i a st
    refine lv_if_eq hx hb hd ho (fun hq => ?_) (fun hq => ?_)
    · exact hk _ _ _ _ _ _ _ _ _ (h.1 hq) hI hS hl hc hs
    · have hw := hk _ _ _ _ _ _ _ _ _ (h.2 hq) hI hS hl hc hs
      rw [hn] at hw
      exact hw
  · exact h.elim

set_option maxHeartbeats 1000000 in
theorem zs_if_ne {off : Int} {pc x y : Nat} {w : Int32} {t : List Nat} : zOne p l ev R s m args below meth c Q cc own nL ret init cd B D cA ext L xs d Rr μF L0 S0 (pc, .ifCond .ne off, x, y, w, t) := by
  intro C hR ip ls st μ H locs lsA cells slots K Z hd hn0 ho h hI hS hl hc hs hF hFs hle hk hz
  obtain ⟨hx, hb, hml, hown, hts, hK, hX, hch, hin, hfr, hlo⟩ := C
  have hn : zPc cd (ip + 1) = pc + 3 := hn0 rfl
  have ho : (pc : Int) + off = (zPc cd x : Int) := of_decide_eq_true ho
  simp only [zStep] at h
  split at h
  · rename_i a st
    refine lv_if_ne hx hb hd ho (fun hq => ?_) (fun hq => ?_)
    · exact hk _ _ _ _ _ _ _ _ _ (h.1 hq) hI hS hl hc hs
    · have hw := hk _ _ _ _ _ _ _ _ _ (h.2 hq) hI hS hl hc hs
      rw [hn] at hw
      exact hw
  · exact h.elim

set_option maxHeartbeats 1000000 in
theorem zs_if_lt {off : Int} {pc x y : Nat} {w : Int32} {t : List Nat} : zOne p l ev R s m args below meth c Q cc own nL ret init cd B D cA ext L xs d Rr μF L0 S0 (pc, .ifCond .lt off, x, y, w, t) := by
  intro C hR ip ls st μ H locs lsA cells slots K Z hd hn0 ho h hI hS hl hc hs hF hFs hle hk hz
  obtain ⟨hx, hb, hml, hown, hts, hK, hX, hch, hin, hfr, hlo⟩ := C
  have hn : zPc cd (ip + 1) = pc + 3 := hn0 rfl
  have ho : (pc : Int) + off = (zPc cd x : Int) := of_decide_eq_true ho
  simp only [zStep] at h
  split at h
  · rename_i a st
    refine lv_if_lt hx hb hd ho (fun hq => ?_) (fun hq => ?_)
    · exact hk _ _ _ _ _ _ _ _ _ (h.1 hq) hI hS hl hc hs
    · have hw := hk _ _ _ _ _ _ _ _ _ (h.2 hq) hI hS hl hc hs
      rw [hn] at hw
      exact hw
  · exact h.elim

set_option maxHeartbeats 1000000 in
theorem zs_if_ge {off : Int} {pc x y : Nat} {w : Int32} {t : List Nat} : zOne p l ev R s m args below meth c Q cc own nL ret init cd B D cA ext L xs d Rr μF L0 S0 (pc, .ifCond .ge off, x, y, w, t) := by
  intro C hR ip ls st μ H locs lsA cells slots K Z hd hn0 ho h hI hS hl hc hs hF hFs hle hk hz
  obtain ⟨hx, hb, hml, hown, hts, hK, hX, hch, hin, hfr, hlo⟩ := C
  have hn : zPc cd (ip + 1) = pc + 3 := hn0 rfl
  have ho : (pc : Int) + off = (zPc cd x : Int) := of_decide_eq_true ho
  simp only [zStep] at h
  split at h
  · rename_i a st
    refine lv_if_ge hx hb hd ho (fun hq => ?_) (fun hq => ?_)
    · exact hk _ _ _ _ _ _ _ _ _ (h.1 hq) hI hS hl hc hs
    · have hw := hk _ _ _ _ _ _ _ _ _ (h.2 hq) hI hS hl hc hs
      rw [hn] at hw
      exact hw
  · exact h.elim

set_option maxHeartbeats 1000000 in
theorem zs_if_gt {off : Int} {pc x y : Nat} {w : Int32} {t : List Nat} : zOne p l ev R s m args below meth c Q cc own nL ret init cd B D cA ext L xs d Rr μF L0 S0 (pc, .ifCond .gt off, x, y, w, t) := by
  intro C hR ip ls st μ H locs lsA cells slots K Z hd hn0 ho h hI hS hl hc hs hF hFs hle hk hz
  obtain ⟨hx, hb, hml, hown, hts, hK, hX, hch, hin, hfr, hlo⟩ := C
  have hn : zPc cd (ip + 1) = pc + 3 := hn0 rfl
  have ho : (pc : Int) + off = (zPc cd x : Int) := of_decide_eq_true ho
  simp only [zStep] at h
  split at h
  · rename_i a st
    refine lv_if_gt hx hb hd ho (fun hq => ?_) (fun hq => ?_)
    · exact hk _ _ _ _ _ _ _ _ _ (h.1 hq) hI hS hl hc hs
    · have hw := hk _ _ _ _ _ _ _ _ _ (h.2 hq) hI hS hl hc hs
      rw [hn] at hw
      exact hw
  · exact h.elim

set_option maxHeartbeats 1000000 in
theorem zs_if_le {off : Int} {pc x y : Nat} {w : Int32} {t : List Nat} : zOne p l ev R s m args below meth c Q cc own nL ret init cd B D cA ext L xs d Rr μF L0 S0 (pc, .ifCond .le off, x, y, w, t) := by
  intro C hR ip ls st μ H locs lsA cells slots K Z hd hn0 ho h hI hS hl hc hs hF hFs hle hk hz
  obtain ⟨hx, hb, hml, hown, hts, hK, hX, hch, hin, hfr, hlo⟩ := C
  have hn : zPc cd (ip + 1) = pc + 3 := hn0 rfl
  have ho : (pc : Int) + off = (zPc cd x : Int) := of_decide_eq_true ho
  simp only [zStep] at h
  split at h
  · rename_i a st
    refine lv_if_le hx hb hd ho (fun hq => ?_) (fun hq => ?_)
    · exact hk _ _ _ _ _ _ _ _ _ (h.1 hq) hI hS hl hc hs
    · have hw := hk _ _ _ _ _ _ _ _ _ (h.2 hq) hI hS hl hc hs
      rw [hn] at hw
      exact hw
  · exact h.elim

set_option maxHeartbeats 1000000 in
theorem zs_icmp_eq {off : Int} {pc x y : Nat} {w : Int32} {t : List Nat} : zOne p l ev R s m args below meth c Q cc own nL ret init cd B D cA ext L xs d Rr μF L0 S0 (pc, .if_icmp .eq off, x, y, w, t) := by
  intro C hR ip ls st μ H locs lsA cells slots K Z hd hn0 ho h hI hS hl hc hs hF hFs hle hk hz
  obtain ⟨hx, hb, hml, hown, hts, hK, hX, hch, hin, hfr, hlo⟩ := C
  have hn : zPc cd (ip + 1) = pc + 3 := hn0 rfl
  have ho : (pc : Int) + off = (zPc cd x : Int) := of_decide_eq_true ho
  simp only [zStep] at h
  split at h
  · rename_i b a st
    refine lv_icmp_eq hx hb hd ho (fun hq => ?_) (fun hq => ?_)
    · exact hk _ _ _ _ _ _ _ _ _ (h.1 hq) hI hS hl hc hs
    · have hw := hk _ _ _ _ _ _ _ _ _ (h.2 hq) hI hS hl hc hs
      rw [hn] at hw
      exact hw
  · exact h.elim

set_option maxHeartbeats 1000000 in
theorem zs_icmp_ne {off : Int} {pc x y : Nat} {w : Int32} {t : List Nat} : zOne p l ev R s m args below meth c Q cc own nL ret init cd B D cA ext L xs d Rr μF L0 S0 (pc, .if_icmp .ne off, x, y, w, t) := by
  intro C hR ip ls st μ H locs lsA cells slots K Z hd hn0 ho h hI hS hl hc hs hF hFs hle hk hz
  obtain ⟨hx, hb, hml, hown, hts, hK, hX, hch, hin, hfr, hlo⟩ := C
  have hn : zPc cd (ip + 1) = pc + 3 := hn0 rfl
  have ho : (pc : Int) + off = (zPc cd x : Int) := of_decide_eq_true ho
  simp only [zStep] at h
  split at h
  · rename_i b a st
    refine lv_icmp_ne hx hb hd ho (fun hq => ?_) (fun hq => ?_)
    · exact hk _ _ _ _ _ _ _ _ _ (h.1 hq) hI hS hl hc hs
    · have hw := hk _ _ _ _ _ _ _ _ _ (h.2 hq) hI hS hl hc hs
      rw [hn] at hw
      exact hw
  · exact h.elim

set_option maxHeartbeats 1000000 in
theorem zs_icmp_lt {off : Int} {pc x y : Nat} {w : Int32} {t : List Nat} : zOne p l ev R s m args below meth c Q cc own nL ret init cd B D cA ext L xs d Rr μF L0 S0 (pc, .if_icmp .lt off, x, y, w, t) := by
  intro C hR ip ls st μ H locs lsA cells slots K Z hd hn0 ho h hI hS hl hc hs hF hFs hle hk hz
  obtain ⟨hx, hb, hml, hown, hts, hK, hX, hch, hin, hfr, hlo⟩ := C
  have hn : zPc cd (ip + 1) = pc + 3 := hn0 rfl
  have ho : (pc : Int) + off = (zPc cd x : Int) := of_decide_eq_true ho
  simp only [zStep] at h
  split at h
  · rename_i b a st
    refine lv_icmp_lt hx hb hd ho (fun hq => ?_) (fun hq => ?_)
    · exact hk _ _ _ _ _ _ _ _ _ (h.1 hq) hI hS hl hc hs
    · have hw := hk _ _ _ _ _ _ _ _ _ (h.2 hq) hI hS hl hc hs
      rw [hn] at hw
      exact hw
  · exact h.elim

set_option maxHeartbeats 1000000 in
theorem zs_icmp_ge {off : Int} {pc x y : Nat} {w : Int32} {t : List Nat} : zOne p l ev R s m args below meth c Q cc own nL ret init cd B D cA ext L xs d Rr μF L0 S0 (pc, .if_icmp .ge off, x, y, w, t) := by
  intro C hR ip ls st μ H locs lsA cells slots K Z hd hn0 ho h hI hS hl hc hs hF hFs hle hk hz
  obtain ⟨hx, hb, hml, hown, hts, hK, hX, hch, hin, hfr, hlo⟩ := C
  have hn : zPc cd (ip + 1) = pc + 3 := hn0 rfl
  have ho : (pc : Int) + off = (zPc cd x : Int) := of_decide_eq_true ho
  simp only [zStep] at h
  split at h
  · rename_i b a st
    refine lv_icmp_ge hx hb hd ho (fun hq => ?_) (fun hq => ?_)
    · exact hk _ _ _ _ _ _ _ _ _ (h.1 hq) hI hS hl hc hs
    · have hw := hk _ _ _ _ _ _ _ _ _ (h.2 hq) hI hS hl hc hs
      rw [hn] at hw
      exact hw
  · exact h.elim

set_option maxHeartbeats 1000000 in
theorem zs_icmp_gt {off : Int} {pc x y : Nat} {w : Int32} {t : List Nat} : zOne p l ev R s m args below meth c Q cc own nL ret init cd B D cA ext L xs d Rr μF L0 S0 (pc, .if_icmp .gt off, x, y, w, t) := by
  intro C hR ip ls st μ H locs lsA cells slots K Z hd hn0 ho h hI hS hl hc hs hF hFs hle hk hz
  obtain ⟨hx, hb, hml, hown, hts, hK, hX, hch, hin, hfr, hlo⟩ := C
  have hn : zPc cd (ip + 1) = pc + 3 := hn0 rfl
  have ho : (pc : Int) + off = (zPc cd x : Int) := of_decide_eq_true ho
  simp only [zStep] at h
  split at h
  · rename_i b a st
    refine lv_icmp_gt hx hb hd ho (fun hq => ?_) (fun hq => ?_)
    · exact hk _ _ _ _ _ _ _ _ _ (h.1 hq) hI hS hl hc hs
    · have hw := hk _ _ _ _ _ _ _ _ _ (h.2 hq) hI hS hl hc hs
      rw [hn] at hw
      exact hw
  · exact h.elim

set_option maxHeartbeats 1000000 in
theorem zs_icmp_le {off : Int} {pc x y : Nat} {w : Int32} {t : List Nat} : zOne p l ev R s m args below meth c Q cc own nL ret init cd B D cA ext L xs d Rr μF L0 S0 (pc, .if_icmp .le off, x, y, w, t) := by
  intro C hR ip ls st μ H locs lsA cells slots K Z hd hn0 ho h hI hS hl hc hs hF hFs hle hk hz
  obtain ⟨hx, hb, hml, hown, hts, hK, hX, hch, hin, hfr, hlo⟩ := C
  have hn : zPc cd (ip + 1) = pc + 3 := hn0 rfl
  have ho : (pc : Int) + off = (zPc cd x : Int) := of_decide_eq_true ho
  simp only [zStep] at h
  split at h
  · rename_i b a st
    refine lv_icmp_le hx hb hd ho (fun hq => ?_) (fun hq => ?_)
    · exact hk _ _ _ _ _ _ _ _ _ (h.1 hq) hI hS hl hc hs
    · have hw := hk _ _ _ _ _ _ _ _ _ (h.2 hq) hI hS hl hc hs
      rw [hn] at hw
      exact hw
  · exact h.elim

set_option maxHeartbeats 1000000 in
theorem zs_ifnull {off : Int} {pc x y : Nat} {w : Int32} {t : List Nat} : zOne p l ev R s m args below meth c Q cc own nL ret init cd B D cA ext L xs d Rr μF L0 S0 (pc, .ifnull off, x, y, w, t) := by
  intro C hR ip ls st μ H locs lsA cells slots K Z hd hn0 ho h hI hS hl hc hs hF hFs hle hk hz
  obtain ⟨hx, hb, hml, hown, hts, hK, hX, hch, hin, hfr, hlo⟩ := C
  have hn : zPc cd (ip + 1) = pc + 3 := hn0 rfl
  have ho : (pc : Int) + off = (zPc cd x : Int) := of_decide_eq_true ho
  simp only [zStep] at h
  split at h
  · refine lv_ifnull hx hb hd ?_
    have hw := hk _ _ _ _ _ _ _ _ _ h hI hS hl hc hs
    try rw [hn] at hw
    exact hw
  · refine lv_ifnullN hx hb hd ho ?_
    have hw := hk _ _ _ _ _ _ _ _ _ h hI hS hl hc hs
    try rw [hn] at hw
    exact hw
  · exact h.elim

set_option maxHeartbeats 1000000 in
theorem zs_ifnonnull {off : Int} {pc x y : Nat} {w : Int32} {t : List Nat} : zOne p l ev R s m args below meth c Q cc own nL ret init cd B D cA ext L xs d Rr μF L0 S0 (pc, .ifnonnull off, x, y, w, t) := by
  intro C hR ip ls st μ H locs lsA cells slots K Z hd hn0 ho h hI hS hl hc hs hF hFs hle hk hz
  obtain ⟨hx, hb, hml, hown, hts, hK, hX, hch, hin, hfr, hlo⟩ := C
  have hn : zPc cd (ip + 1) = pc + 3 := hn0 rfl
  have ho : (pc : Int) + off = (zPc cd x : Int) := of_decide_eq_true ho
  simp only [zStep] at h
  split at h
  · refine lv_ifnonnull hx hb hd ho ?_
    have hw := hk _ _ _ _ _ _ _ _ _ h hI hS hl hc hs
    try rw [hn] at hw
    exact hw
  · refine lv_ifnonnullN hx hb hd ?_
    have hw := hk _ _ _ _ _ _ _ _ _ h hI hS hl hc hs
    try rw [hn] at hw
    exact hw
  · exact h.elim

set_option maxHeartbeats 1000000 in
theorem zs_ireturn {pc x y : Nat} {w : Int32} {t : List Nat} : zOne p l ev R s m args below meth c Q cc own nL ret init cd B D cA ext L xs d Rr μF L0 S0 (pc, .ireturn, x, y, w, t) := by
  intro C hR ip ls st μ H locs lsA cells slots K Z hd hn0 ho h hI hS hl hc hs hF hFs hle hk hz
  obtain ⟨hx, hb, hml, hown, hts, hK, hX, hch, hin, hfr, hlo⟩ := C
  simp only [zStep] at h
  split at h
  · rename_i a
    split at h
    · refine hz (some (.int a)) _ _ _ h hd (Or.inl ⟨rfl, a, rfl, Or.inl ?_⟩)
      simpa [zOpk] using ho
    · refine hz (some (.int a)) _ _ _ h.2 hd (Or.inl ⟨rfl, a, rfl, Or.inr ⟨?_, h.1⟩⟩)
      rename_i ht
      unfold zOpk at ho
      cases t with
      | nil => exact absurd rfl ht
      | cons q t => simpa using ho
  · exact h.elim

set_option maxHeartbeats 1000000 in
theorem zs_lreturn {pc x y : Nat} {w : Int32} {t : List Nat} : zOne p l ev R s m args below meth c Q cc own nL ret init cd B D cA ext L xs d Rr μF L0 S0 (pc, .lreturn, x, y, w, t) := by
  intro C hR ip ls st μ H locs lsA cells slots K Z hd hn0 ho h hI hS hl hc hs hF hFs hle hk hz
  obtain ⟨hx, hb, hml, hown, hts, hK, hX, hch, hin, hfr, hlo⟩ := C
  simp only [zStep] at h
  split at h
  · rename_i a
    exact hz (some (.long a)) _ _ _ h hd (Or.inr (Or.inl ⟨rfl, of_decide_eq_true ho, a, rfl⟩))
  · exact h.elim

set_option maxHeartbeats 1000000 in
theorem zs_return {pc x y : Nat} {w : Int32} {t : List Nat} : zOne p l ev R s m args below meth c Q cc own nL ret init cd B D cA ext L xs d Rr μF L0 S0 (pc, .return_, x, y, w, t) := by
  intro C hR ip ls st μ H locs lsA cells slots K Z hd hn0 ho h hI hS hl hc hs hF hFs hle hk hz
  obtain ⟨hx, hb, hml, hown, hts, hK, hX, hch, hin, hfr, hlo⟩ := C
  simp only [zStep] at h
  split at h
  · exact hz none _ _ _ h hd (Or.inr (Or.inr (Or.inr ⟨rfl, rfl, of_decide_eq_true ho⟩)))
  · exact h.elim

set_option maxHeartbeats 1000000 in
theorem zs_areturn {pc x y : Nat} {w : Int32} {t : List Nat} : zOne p l ev R s m args below meth c Q cc own nL ret init cd B D cA ext L xs d Rr μF L0 S0 (pc, .areturn, x, y, w, t) := by
  intro C hR ip ls st μ H locs lsA cells slots K Z hd hn0 ho h hI hS hl hc hs hF hFs hle hk hz
  obtain ⟨hx, hb, hml, hown, hts, hK, hX, hch, hin, hfr, hlo⟩ := C
  have ho : ∃ r, ret = some r ∧ refKind r = true := by
    unfold zOpk at ho
    cases ret with
    | none => simp at ho
    | some r => exact ⟨r, rfl, ho⟩
  simp only [zStep] at h
  split at h
  · rename_i a
    exact hz (some (.ref a)) _ _ _ h hd (Or.inr (Or.inr (Or.inl ⟨rfl, ho, Or.inl ⟨a, rfl⟩⟩)))
  · exact hz (some .null) _ _ _ h hd (Or.inr (Or.inr (Or.inl ⟨rfl, ho, Or.inr rfl⟩)))
  · exact h.elim

end ZS
end
section
/-! THE STEPS THAT READ AND WRITE CELLS -/
theorem zFr {B : Nat} {D : va_G} {cA : Nat → ClassId} {L : Nat} {xs : Nat → Int32} {μ : zM} {H : Heap} {r : Nat} {s : Nat × Nat} (hI : zIv B D cA L xs μ H) (h : μ.1[r]? = some s) : r < 1000000 := Nat.lt_of_lt_of_le (List.getElem?_eq_some_iff.mp h).1 hI.2.2.2.2.1
theorem zc_r {B : Nat} {ext : Nat → Nat} {r : Nat} (h : r < 1000000) : zc B ext (.ref r) = .ref (B + r) := by simp [zc, zAd, h]
theorem zSub_lt {ci y : Nat} (h : zSub ci y = true) (hy : y < 13) : ci < 13 := by
  unfold zSub at h
  simp only [Bool.or_eq_true, Bool.and_eq_true, beq_iff_eq] at h
  omega
theorem zEn_o {B : Nat} {cA : Nat → ClassId} {μ : zM} {k ci n : Nat} (h : ci < 13) : zEn B cA μ k (ci, n) = .inr (ci, zFs B μ k ci n) := by
  unfold zEn
  rw [if_pos (by show ci < 20; omega)]
theorem zEn_i {B : Nat} {cA : Nat → ClassId} {μ : zM} {k n : Nat} : zEn B cA μ k (20, n) = .inl (cA 0, n, .inl (μ.2.1 k)) := rfl
theorem zEn_z {B : Nat} {cA : Nat → ClassId} {μ : zM} {k n : Nat} : zEn B cA μ k (21, n) = .inl (cA 1, n, .inl (μ.2.1 k)) := rfl
theorem zEn_q {B : Nat} {cA : Nat → ClassId} {μ : zM} {k t n : Nat} (h : 22 ≤ t) : zEn B cA μ k (t, n) = .inl (cA (t - 20), n, .inr (.inr (.inr (.inr fun j => (μ.2.2 k j).map (fun q => B + q))))) := by
  unfold zEn
  rw [if_neg (by show ¬ t < 20; omega), if_neg (by show ¬ t < 22; omega)]
theorem all_of {l : List (Nat × Nat × Nat × Nat × Nat × Nat)} {f : Nat × Nat × Nat × Nat × Nat × Nat → Bool} (h : l.all f = true) {q : Nat × Nat × Nat × Nat × Nat × Nat} (hq : q ∈ l) : f q = true := List.all_eq_true.mp h q hq
theorem zF_fact {own n x y ci : Nat} (h : zFC.any (fun q => q.2.1 == n && q.1 == own && q.2.2.1 == x && q.2.2.2.1 == y) = true) (hc : ci < 13) (hs : zSub ci y = true) :
    x < (vwG ci).2.2 ∧ Cond.fieldLink (zRn own) n (zRn y) (zFd ci x).2.1 (zFd ci x).2.2.1 ∈ zTb ∧ ((zFd ci x).1 = zRn y ∨ Cond.sameField (zRn y) (zFd ci x).1 (zFd ci x).2.1 (zFd ci x).2.2.1 ∈ zTb) := by
  obtain ⟨⟨o, i, x', y', i1, j1⟩, hq, he⟩ := List.any_eq_true.mp h
  simp only [Bool.and_eq_true, beq_iff_eq] at he
  obtain ⟨⟨⟨rfl, rfl⟩, rfl⟩, rfl⟩ := he
  have hk := all_of zFC_ok hq
  unfold zFchk at hk
  have hk := List.all_eq_true.mp hk ci (List.mem_range.mpr hc)
  rw [hs] at hk
  simp only [Bool.not_true, Bool.false_or, Bool.and_eq_true, Bool.or_eq_true, decide_eq_true_eq] at hk
  obtain ⟨⟨h1, h2⟩, h3⟩ := hk
  exact ⟨h1, zHas_in h2, h3.imp id zHas_in⟩
theorem zSub_fact {ci y : Nat} (hc : ci < 13) (hy : y < 13) (hs : zSub ci y = true) : (vwG ci).2.2 = (vwG y).2.2 ∧ ∀ k, k < (vwG ci).2.2 → zFd ci k = zFd y k ∧ zFR ci k = zFR y k ∧ zKd ci k = zKd y k := by
  have h1 := List.all_eq_true.mp zSub_ok ci (List.mem_range.mpr hc)
  have h2 := List.all_eq_true.mp h1 y (List.mem_range.mpr hy)
  rw [hs] at h2
  simp only [Bool.not_true, Bool.false_or, Bool.and_eq_true, decide_eq_true_eq] at h2
  refine ⟨h2.1, fun k hk => ?_⟩
  have h3 := List.all_eq_true.mp h2.2 k (List.mem_range.mpr hk)
  simp only [Bool.and_eq_true, decide_eq_true_eq] at h3
  exact ⟨h3.1.1, h3.1.2, h3.2⟩
theorem zLay_in {ci : Nat} (hc : ci < 13) : ∀ w ∈ u_ws (vwG ci).1 (vwG ci).2.1 (vwG ci).2.2, w ∈ zTb := zHasL_in (List.all_eq_true.mp zLay_ok ci (List.mem_range.mpr hc))
theorem zTy_fact {ci k : Nat} (hc : ci < 13) (hk : k < (vwG ci).2.2) : parseFieldDescriptor ((vwG ci).2.1 k).2.2.1 = some (zTyOf ci k) := by
  have h1 := List.all_eq_true.mp zTy_ok ci (List.mem_range.mpr hc)
  have h2 := List.all_eq_true.mp h1 k (List.mem_range.mpr hk)
  rw [Bool.and_eq_true] at h2
  exact of_decide_eq_true h2.1
theorem zKd_fact {ci k : Nat} (hc : ci < 13) (hk : k < (vwG ci).2.2) : (zFd ci k).2.2.2 = zFn ci k ∧ (zKd ci k = 0 → zTyOf ci k = .int) ∧ (zKd ci k = 1 → zTyOf ci k = .boolean) ∧ (zKd ci k = 2 → refKind (zTyOf ci k) = true) := by
  have h1 := List.all_eq_true.mp zKd_ok ci (List.mem_range.mpr hc)
  have h2 := List.all_eq_true.mp h1 k (List.mem_range.mpr hk)
  rw [Bool.and_eq_true] at h2
  refine ⟨of_decide_eq_true h2.1, fun e => ?_, fun e => ?_, fun e => ?_⟩
  · have := h2.2; rw [if_pos e] at this; exact of_decide_eq_true this
  · have := h2.2; rw [if_neg (by omega), if_pos e] at this; exact of_decide_eq_true this
  · have := h2.2; rw [if_neg (by omega), if_neg (by omega)] at this; exact this
theorem zNm_fact {ci : Nat} (hc : ci < 13) : ∀ a, a < (vwG ci).2.2 → ∀ b, b < (vwG ci).2.2 → a ≠ b → ((vwG ci).2.1 a).2.1 ≠ ((vwG ci).2.1 b).2.1 := by
  intro a ha b hb hab
  have h1 := List.all_eq_true.mp zNm_ok ci (List.mem_range.mpr hc)
  have h2 := List.all_eq_true.mp h1 a (List.mem_range.mpr ha)
  have h3 := List.all_eq_true.mp h2 b (List.mem_range.mpr hb)
  rw [Bool.or_eq_true, decide_eq_true_eq, decide_eq_true_eq] at h3
  rcases h3 with h | h
  · exact absurd h hab
  · exact h
theorem zDecl_ok : (List.range 13).all (fun y => (zSub y 3 && !(y == 3)) || (List.range (vwG y).2.2).all fun k => decide ((zFd y k).1 = zRn y)) = true := by decide +kernel
theorem zDecl {y k : Nat} (hy : y < 13) (h : (zSub y 3 && !(y == 3)) = false) (hk : k < (vwG y).2.2) : (zFd y k).1 = zRn y := by
  have h1 := List.all_eq_true.mp zDecl_ok y (List.mem_range.mpr hy)
  rw [h, Bool.false_or] at h1
  exact of_decide_eq_true (List.all_eq_true.mp h1 k (List.mem_range.mpr hk))
theorem zSame {own y ci x : Nat} {args : Array Value} {s : State} (hts : ∀ w ∈ zTb, w.before args s = true) (h : (zFd ci x).1 = zRn y ∨ Cond.sameField (zRn y) (zFd ci x).1 (zFd ci x).2.1 (zFd ci x).2.2.1 ∈ zTb) :
    ∀ z, s.fieldFound? ((vwG ci).2.1 x).1 ((vwG ci).2.1 x).2.1 ((vwG ci).2.1 x).2.2.1 = some z → s.fieldFound? (zRn y) ((vwG ci).2.1 x).2.1 ((vwG ci).2.1 x).2.2.1 = some z := by
  intro z hz
  rcases h with h | h
  · rw [← h]; exact hz
  · exact u_same (hts _ h) z hz
theorem zFR_kd {ci k : Nat} : (zKd ci k = 0 ∨ zKd ci k = 1 → zFR ci k = false) ∧ (zKd ci k = 2 → zFR ci k = true) := by
  unfold zKd
  cases zFR ci k
  · simp
    split <;> simp
  · simp
/-- behind a store into a row of ints -/
theorem zIv_arr {B : Nat} {D : va_G} {cA : Nat → ClassId} {L : Nat} {xs : Nat → Int32} {μ : zM} {H H1 : Heap} {a t n : Nat} {g : Nat → Int32} (hI : zIv B D cA L xs μ H) (hs : μ.1[a]? = some (t, n)) (ht : t = 20 ∨ t = 21)
    (hH : H1[B + a]? = some (vp_cell (cA (t - 20)) (n, .inl g))) (hz : H1.size = H.size) (oq : ∀ q : Nat, q ≠ B + a → H1[q]? = H[q]?) : zIv B D cA L xs (μ.1, row2 μ.2.1 a g, μ.2.2) H1 := by
  refine zIv_int hI hs hz (e := .inl (cA (t - 20), n, .inl g)) (hI.2.1.set zW_D (zW_get hs) hH oq) ?_
  have er : (fun j => row2 μ.2.1 a g a j) = g := by funext j; simp [row2]
  rcases ht with rfl | rfl
  · rw [zEn_i]; show Sum.inl (cA 0, n, Sum.inl (fun j => row2 μ.2.1 a g a j)) = _; rw [er]
  · rw [zEn_z]; show Sum.inl (cA 1, n, Sum.inl (fun j => row2 μ.2.1 a g a j)) = _; rw [er]
theorem vc_upd {cA : ClassId} {n i : Nat} {f : Nat → Int32} {x : Int32} : (vp_cell cA (n, .inl f)).setSlot i (.int x) = vp_cell cA (n, .inl (upd f i x)) := by
  rw [vp_cell_i, vp_cell_i, arrV_store]
  congr 1
  funext q
  by_cases hq : q = i
  · subst hq; simp [updV, upd]
  · simp [updV, upd, hq]
theorem vc_updq {cA : ClassId} {n i v : Nat} {f : Nat → Option Nat} : (vp_cell cA (n, .inr (.inr (.inr (.inr f))))).setSlot i (.ref v) = vp_cell cA (n, .inr (.inr (.inr (.inr (va_up f i (some v)))))) := by
  rw [vp_cell_q, vp_cell_q, arrV_store]
  congr 1
  funext q
  by_cases hq : q = i
  · subst hq; simp [updV, va_up, va_rf]
  · simp [updV, va_up, hq]
section ZS
variable {p : Program} {l : Launch} {ev : Env} {R : Room} {s : State} {m : MethodId} {args : Array Value} {below : List Frame} {meth : Method} {c : Code} {Q : State → Prop}
variable {cc : ByteArray} {own nL : Nat} {ret : Option FieldType} {init : Bool} {cd : List zE} {B : Nat} {D : va_G} {cA : Nat → ClassId} {ext : Nat → Nat} {L : Nat} {xs : Nat → Int32} {d : Nat} {Rr : zOr}
variable {L0 S0 : Nat} {μF : zM}

set_option maxHeartbeats 1000000 in
theorem zs_iaload {pc x y : Nat} {w : Int32} {t : List Nat} : zOne p l ev R s m args below meth c Q cc own nL ret init cd B D cA ext L xs d Rr μF L0 S0 (pc, .iaload, x, y, w, t) := by
  intro C hR ip ls st μ H locs lsA cells slots K Z hd hn0 ho h hI hS hl hc hs hF hFs hle hk hz
  obtain ⟨hx, hb, hml, hown, hts, hK, hX, hch, hin, hfr, hlo⟩ := C
  have hn : zPc cd (ip + 1) = pc + 1 := hn0 rfl
  simp only [zStep] at h
  split at h
  · rename_i i a st
    cases hs0 : μ.1[a]? with
    | none =>
      rw [hs0] at h
      simp only [Option.elim_none] at h
      split at h
      · rename_i ha
        subst ha
        obtain ⟨h1, h2⟩ := h
        obtain ⟨-, -, -, -, hv, hv1, hv2, hv3, -⟩ := hX
        rw [hI.2.2.2.2.2.2, nI_clamp hv2] at h1
        have hw := hk _ _ _ _ _ _ _ _ _ h2 hI hS hl hc hs
        rw [hn] at hw
        rw [hI.2.2.2.2.2.1] at hw
        show W _ _ _ _ _ _ _ _ _ _ _ _ _ _ _ (F0 m pc lsA (.int i :: .ref (ext 2000000) :: st.map (zc B ext)))
        exact va_sld hx hb hv (by omega) (by show ¬ B ≤ ext 2000000; omega) hS h1 hd hw
      · exact h.elim
    | some s0 =>
    rw [hs0] at h
    simp only [Option.elim_some] at h
    have ra := zFr hI hs0
    obtain ⟨t0, n0⟩ := s0
    cases h20 : t0 == 20 with
    | false => simp [h20] at h
    | true =>
    simp only [h20, cond_true] at h
    obtain rfl : t0 = 20 := by simpa using h20
    obtain ⟨h1, h⟩ := h
    rw [List.map_cons, List.map_cons, zc_r ra]
    have he := zW_get (B := B) (cA := cA) hs0
    rw [zEn_i] at he
    refine va_iald hx hb hK hI.2.1 a 0 he rfl h1 hd ?_
    have hw := hk _ _ _ _ _ _ _ _ _ h hI hS hl hc hs
    rw [hn] at hw
    exact hw
  · exact h.elim

set_option maxHeartbeats 1000000 in
theorem zs_baload {pc x y : Nat} {w : Int32} {t : List Nat} : zOne p l ev R s m args below meth c Q cc own nL ret init cd B D cA ext L xs d Rr μF L0 S0 (pc, .baload, x, y, w, t) := by
  intro C hR ip ls st μ H locs lsA cells slots K Z hd hn0 ho h hI hS hl hc hs hF hFs hle hk hz
  obtain ⟨hx, hb, hml, hown, hts, hK, hX, hch, hin, hfr, hlo⟩ := C
  have hn : zPc cd (ip + 1) = pc + 1 := hn0 rfl
  simp only [zStep] at h
  split at h
  · rename_i i a st
    cases hs0 : μ.1[a]? with
    | none => rw [hs0] at h; exact h.elim
    | some s0 =>
    rw [hs0] at h
    simp only [Option.elim_some] at h
    have ra := zFr hI hs0
    obtain ⟨t0, n0⟩ := s0
    cases h20 : t0 == 21 with
    | false => simp [h20] at h
    | true =>
    simp only [h20, cond_true] at h
    obtain rfl : t0 = 21 := by simpa using h20
    obtain ⟨h1, h⟩ := h
    rw [List.map_cons, List.map_cons, zc_r ra]
    have he := zW_get (B := B) (cA := cA) hs0
    rw [zEn_z] at he
    refine va_zald hx hb hK hI.2.1 a 1 he rfl h1 hd ?_
    have hw := hk _ _ _ _ _ _ _ _ _ h hI hS hl hc hs
    rw [hn] at hw
    exact hw
  · exact h.elim

set_option maxHeartbeats 1000000 in
theorem zs_iastore {pc x y : Nat} {w : Int32} {t : List Nat} : zOne p l ev R s m args below meth c Q cc own nL ret init cd B D cA ext L xs d Rr μF L0 S0 (pc, .iastore, x, y, w, t) := by
  intro C hR ip ls st μ H locs lsA cells slots K Z hd hn0 ho h hI hS hl hc hs hF hFs hle hk hz
  obtain ⟨hx, hb, hml, hown, hts, hK, hX, hch, hin, hfr, hlo⟩ := C
  have hn : zPc cd (ip + 1) = pc + 1 := hn0 rfl
  simp only [zStep] at h
  split at h
  · rename_i v i a st
    cases hs0 : μ.1[a]? with
    | none => rw [hs0] at h; exact h.elim
    | some s0 =>
    rw [hs0] at h
    simp only [Option.elim_some] at h
    have ra := zFr hI hs0
    obtain ⟨t0, n0⟩ := s0
    cases h20 : t0 == 20 with
    | false => simp [h20] at h
    | true =>
    simp only [h20, cond_true] at h
    obtain rfl : t0 = 20 := by simpa using h20
    obtain ⟨h1, h⟩ := h
    rw [up2_row] at h
    rw [List.map_cons, List.map_cons, List.map_cons, zc_r ra]
    have he := zW_get (B := B) (cA := cA) hs0
    rw [zEn_i] at he
    refine W.iast hx hb (hI.2.1 a _ he) ((hK.2 0 _ rfl).1 n0 (fun j => .int (μ.2.1 a j))) (fun q => by cases q) (by show ¬ (i < 0 ∨ (arrV _ _ _).slots.size ≤ _); rw [arrV_size]; exact h1) rfl rfl hd fun H1 e z oq => ?_
    have e : H1[B + a]? = some (vp_cell (cA (20 - 20)) (n0, .inl (upd (μ.2.1 a) i.toNatClampNeg v))) := by
      rw [e]
      exact congrArg some vc_upd
    have hw := hk _ _ _ _ _ _ _ _ _ h (zIv_arr hI hs0 (Or.inl rfl) e z oq) (hS.put (k := i.toNatClampNeg) z oq (Nat.le_add_right _ _)) hl hc hs
    rw [hn] at hw
    exact hw
  · exact h.elim

set_option maxHeartbeats 1000000 in
theorem zs_bastore {pc x y : Nat} {w : Int32} {t : List Nat} : zOne p l ev R s m args below meth c Q cc own nL ret init cd B D cA ext L xs d Rr μF L0 S0 (pc, .bastore, x, y, w, t) := by
  intro C hR ip ls st μ H locs lsA cells slots K Z hd hn0 ho h hI hS hl hc hs hF hFs hle hk hz
  obtain ⟨hx, hb, hml, hown, hts, hK, hX, hch, hin, hfr, hlo⟩ := C
  have hn : zPc cd (ip + 1) = pc + 1 := hn0 rfl
  simp only [zStep] at h
  split at h
  · rename_i v i a st
    cases hs0 : μ.1[a]? with
    | none => rw [hs0] at h; exact h.elim
    | some s0 =>
    rw [hs0] at h
    simp only [Option.elim_some] at h
    have ra := zFr hI hs0
    obtain ⟨t0, n0⟩ := s0
    cases h20 : t0 == 21 with
    | false => simp [h20] at h
    | true =>
    simp only [h20, cond_true] at h
    obtain rfl : t0 = 21 := by simpa using h20
    obtain ⟨h1, hv, h⟩ := h
    rw [up2_row] at h
    rw [List.map_cons, List.map_cons, List.map_cons, zc_r ra]
    have he := zW_get (B := B) (cA := cA) hs0
    rw [zEn_z] at he
    refine W.zast hx hb (hI.2.1 a _ he) ((hK.2 1 _ rfl).1 n0 (fun j => .int (μ.2.1 a j))) (fun q => by cases q) (by show ¬ (i < 0 ∨ (arrV _ _ _).slots.size ≤ _); rw [arrV_size]; exact h1) rfl rfl hd fun H1 e z oq => ?_
    have e : H1[B + a]? = some (vp_cell (cA (21 - 20)) (n0, .inl (upd (μ.2.1 a) i.toNatClampNeg v))) := by
      rw [e]
      exact congrArg some ((congrArg (fun z => Cell.setSlot _ _ z) (show narrow .boolean (.int v) = .int v by rcases hv with rfl | rfl <;> rfl)).trans vc_upd)
    have hw := hk _ _ _ _ _ _ _ _ _ h (zIv_arr hI hs0 (Or.inr rfl) e z oq) (hS.put (k := i.toNatClampNeg) z oq (Nat.le_add_right _ _)) hl hc hs
    rw [hn] at hw
    exact hw
  · exact h.elim

set_option maxHeartbeats 1000000 in
theorem zs_aaload {pc x y : Nat} {w : Int32} {t : List Nat} : zOne p l ev R s m args below meth c Q cc own nL ret init cd B D cA ext L xs d Rr μF L0 S0 (pc, .aaload, x, y, w, t) := by
  intro C hR ip ls st μ H locs lsA cells slots K Z hd hn0 ho h hI hS hl hc hs hF hFs hle hk hz
  obtain ⟨hx, hb, hml, hown, hts, hK, hX, hch, hin, hfr, hlo⟩ := C
  have hn : zPc cd (ip + 1) = pc + 1 := hn0 rfl
  simp only [zStep] at h
  split at h
  · rename_i i a st
    cases hs0 : μ.1[a]? with
    | none => rw [hs0] at h; exact h.elim
    | some s0 =>
    rw [hs0] at h
    simp only [Option.elim_some] at h
    have ra := zFr hI hs0
    obtain ⟨t0, n0⟩ := s0
    cases h20 : (decide (22 ≤ t0) && decide (t0 ≤ 25)) with
    | false => simp [h20] at h
    | true =>
    simp only [h20, cond_true] at h
    simp only [Bool.and_eq_true, decide_eq_true_eq] at h20
    obtain ⟨h1, h⟩ := h
    rw [List.map_cons, List.map_cons, zc_r ra]
    have he := zW_get (B := B) (cA := cA) hs0
    rw [zEn_q h20.1] at he
    have hlt : i.toNatClampNeg < n0 := Nat.not_le.mp fun q => h1 (Or.inr q)
    have hty : ∃ ty, (zTys cA)[t0 - 20]? = some (cA (t0 - 20), ty) ∧ ty.isReference = true := by
      have : t0 = 22 ∨ t0 = 23 ∨ t0 = 24 ∨ t0 = 25 := by omega
      rcases this with rfl | rfl | rfl | rfl <;> exact ⟨_, rfl, rfl⟩
    obtain ⟨ty, hty, hrf⟩ := hty
    refine W.aald (v := va_rf ((μ.2.2 a i.toNatClampNeg).map (fun q => B + q))) (ty := ty) hx hb (hI.2.1 a _ he) ((hK.2 _ _ hty).1 n0 (fun j => va_rf ((μ.2.2 a j).map (fun q => B + q)))) hrf (fun q => by cases q) (by show ¬ (i < 0 ∨ (arrV _ _ _).slots.size ≤ _); rw [arrV_size]; exact h1) (by show (arrV _ _ _).slots[_]? = _; rw [arrV_read _ _ hlt]) rfl rfl hd ?_
    cases hq : μ.2.2 a i.toNatClampNeg with
    | none =>
      rw [hq] at h
      have hw := hk _ _ _ _ _ _ _ _ _ h hI hS hl hc hs
      rw [hn] at hw
      exact hw
    | some q =>
      rw [hq] at h
      have hw := hk _ _ _ _ _ _ _ _ _ h hI hS hl hc hs
      rw [hn, List.map_cons, zc_r (hI.2.2.2.1 _ _ _ hq)] at hw
      exact hw
  · exact h.elim

set_option maxHeartbeats 1000000 in
theorem zs_arraylength {pc x y : Nat} {w : Int32} {t : List Nat} : zOne p l ev R s m args below meth c Q cc own nL ret init cd B D cA ext L xs d Rr μF L0 S0 (pc, .arraylength, x, y, w, t) := by
  intro C hR ip ls st μ H locs lsA cells slots K Z hd hn0 ho h hI hS hl hc hs hF hFs hle hk hz
  obtain ⟨hx, hb, hml, hown, hts, hK, hX, hch, hin, hfr, hlo⟩ := C
  have hn : zPc cd (ip + 1) = pc + 1 := hn0 rfl
  simp only [zStep] at h
  split at h
  · rename_i a st
    cases hs0 : μ.1[a]? with
    | none =>
      rw [hs0] at h
      simp only [Option.elim_none] at h
      split at h
      · rename_i ha
        subst ha
        obtain ⟨-, -, -, -, hv, hv1, hv2, hv3, -⟩ := hX
        have hw := hk _ _ _ _ _ _ _ _ _ h hI hS hl hc hs
        rw [hn] at hw
        rw [hI.2.2.2.2.2.2] at hw
        show W _ _ _ _ _ _ _ _ _ _ _ _ _ _ _ (F0 m pc lsA (.ref (ext 2000000) :: st.map (zc B ext)))
        exact va_slen hx hb hv (by omega) (by show ¬ B ≤ ext 2000000; omega) hS hd hw
      · exact h.elim
    | some s0 =>
    rw [hs0] at h
    simp only [Option.elim_some] at h
    have ra := zFr hI hs0
    obtain ⟨t0, n0⟩ := s0
    cases h20 : (decide (20 ≤ t0) && decide (t0 ≤ 25)) with
    | false => simp [h20] at h
    | true =>
    simp only [h20, cond_true] at h
    simp only [Bool.and_eq_true, decide_eq_true_eq] at h20
    rw [List.map_cons, zc_r ra]
    have he : ∃ v, (zW B cA μ)[a]? = some (B + a, .inl (cA (t0 - 20), n0, v)) := by
      have he := zW_get (B := B) (cA := cA) hs0
      have : t0 = 20 ∨ t0 = 21 ∨ 22 ≤ t0 := by omega
      rcases this with rfl | rfl | hh
      · rw [zEn_i] at he; exact ⟨_, he⟩
      · rw [zEn_z] at he; exact ⟨_, he⟩
      · rw [zEn_q hh] at he; exact ⟨_, he⟩
    obtain ⟨v, he⟩ := he
    have hty : ∃ ty, (zTys cA)[t0 - 20]? = some (cA (t0 - 20), ty) := by
      have : t0 = 20 ∨ t0 = 21 ∨ t0 = 22 ∨ t0 = 23 ∨ t0 = 24 ∨ t0 = 25 := by omega
      rcases this with rfl | rfl | rfl | rfl | rfl | rfl <;> exact ⟨_, rfl⟩
    obtain ⟨ty, hty⟩ := hty
    refine va_alen hx hb hK hI.2.1 a _ he hty rfl hd ?_
    have hw := hk _ _ _ _ _ _ _ _ _ h hI hS hl hc hs
    rw [hn] at hw
    exact hw
  · exact h.elim

set_option maxHeartbeats 1000000 in
theorem zs_getfield {n : Nat} {pc x y : Nat} {w : Int32} {t : List Nat} : zOne p l ev R s m args below meth c Q cc own nL ret init cd B D cA ext L xs d Rr μF L0 S0 (pc, .getfield n, x, y, w, t) := by
  intro C hR ip ls st μ H locs lsA cells slots K Z hd hn0 ho h hI hS hl hc hs hF hFs hle hk hz
  obtain ⟨hx, hb, hml, hown, hts, hK, hX, hch, hin, hfr, hlo⟩ := C
  have hn : zPc cd (ip + 1) = pc + 3 := hn0 rfl
  unfold zOpk at ho
  simp only [Bool.and_eq_true, decide_eq_true_eq] at ho
  obtain ⟨⟨hy, ha⟩, hr⟩ := ho
  simp only [zStep] at h
  split at h
  · rename_i r st
    cases hs0 : μ.1[r]? with
    | none => rw [hs0] at h; exact h.elim
    | some s0 =>
    rw [hs0] at h
    simp only [Option.elim_some] at h
    have ra := zFr hI hs0
    obtain ⟨ci, n0⟩ := s0
    cases hsb : zSub ci y with
    | false => simp [hsb] at h
    | true =>
    simp only [hsb, cond_true] at h
    have hci := zSub_lt hsb hy
    obtain ⟨hxN, hlk, hsm⟩ := zF_fact ha hci hsb
    have hN : n0 = (vwG ci).2.2 := by
      rcases hI.2.2.1 r _ hs0 with q | q
      · exact q.2
      · exact absurd q.1 (by show ¬ 20 ≤ ci; omega)
    rw [List.map_cons, zc_r ra]
    have he := zW_get (B := B) (cA := cA) hs0
    rw [zEn_o hci] at he
    have hfr2 := ((zSub_fact hci hy hsb).2 x hxN).2.1
    refine va_get (own := zRn own) (ref := zRn y) (index := n) hx hb hts (zLay_in hci) hown hK hI.2.1 r he (vw_at hci) x hxN (hts _ hlk) (zSame (own := own) hts hsm) (zFs_get (by rw [hN]; exact hxN)) hd ?_
    cases t with
    | nil =>
      have hr : zFR ci x = false := by rw [hfr2]; simpa using hr
      rw [if_neg (by rw [hr]; decide)]
      have hw := hk _ _ _ _ _ _ _ _ _ h hI hS hl hc hs
      rw [hn] at hw
      exact hw
    | cons t1 t2 =>
      have hr : zFR ci x = true := by rw [hfr2]; exact hr
      rw [if_pos hr]
      simp only at h
      cases hq : μ.2.2 r x with
      | none =>
        rw [hq] at h
        have hw := hk _ _ _ _ _ _ _ _ _ h hI hS hl hc hs
        rw [hn] at hw
        exact hw
      | some q =>
        rw [hq] at h
        have hw := hk _ _ _ _ _ _ _ _ _ h hI hS hl hc hs
        rw [hn, List.map_cons, zc_r (hI.2.2.2.1 _ _ _ hq)] at hw
        exact hw
  · exact h.elim

theorem zPutF {pc r x ci n own y : Nat} {ty : FieldType} {v : Value} {lsA : Array Slot} {st : List Value} {μ : zM} {H : Heap} {locs : List Loc} {cells slots : Nat} {fs : List Value} (hx : p.tables.exec = Jvm.exec) (hb : c.code = cc) (hts : ∀ w ∈ zTb, w.before args s = true) (hci : ci < 13) (hown : s.vm.findClass (zRn own) = some m.cls) (hK : va_K D vwCl (zTys cA) s) (hP : va_P D vwCl (zW B cA μ) H) (hS : va_S (fun q => B ≤ q) s.heap H locs)
    (he : (zW B cA μ)[r]? = some (B + r, .inr (ci, fs))) (hxN : x < (vwG ci).2.2) (hfl : x < fs.length) (hlk : (Cond.fieldLink (zRn own) n (zRn y) (zFd ci x).2.1 (zFd ci x).2.2.1).before args s = true)
    (hsm : ∀ z, s.fieldFound? ((vwG ci).2.1 x).1 ((vwG ci).2.1 x).2.1 ((vwG ci).2.1 x).2.2.1 = some z → s.fieldFound? (zRn y) ((vwG ci).2.1 x).2.1 ((vwG ci).2.1 x).2.2.1 = some z)
    (hfin : (zFd ci x).2.2.2 = true → meth.name = "<init>" ∧ (zFd ci x).1 = zRn own) (hty : zTyOf ci x = ty) (hn : narrow ty v = v) (hfit : fits ty v = true) (hd : decode cc pc = .ok (.putfield n, 3))
    (kk : ∀ (H1 : Heap) (locs1 : List Loc), va_P D vwCl ((zW B cA μ).set r (B + r, .inr (ci, fs.set x v))) H1 → H1.size = H.size → va_S (fun q => B ≤ q) s.heap H1 locs1 → W p l ev R s m args below meth c H1 locs1 cells slots Q (F0 m (pc + 3) lsA st)) :
    W p l ev R s m args below meth c H locs cells slots Q (F0 m pc lsA (v :: .ref (B + r) :: st)) := by
  have hin := zLay_in hci
  have hdd := zTy_fact hci hxN
  rw [hty] at hdd
  have hap := va_apart (own := zRn own) hts hin (zTyOf ci) (fun k hk => zTy_fact hci hk) (zNm_fact hci) hK (vw_at hci)
  obtain ⟨r0, h1, cell, q1, q2, q3, q4⟩ := hP r _ he
  obtain rfl : r0 = ((vwG ci).1, (vwG ci).2.1, (vwG ci).2.2) := Option.some.inj (h1.symm.trans (vw_at hci))
  obtain ⟨hSl, hfc, kC, hkC, hkind⟩ := hK.1 ci _ (vw_at hci)
  obtain ⟨cf, kf, fi, f, hi, hsl⟩ := hSl x hxN
  have hlay := hts _ (hin _ (u_in_lay hxN))
  unfold u_lay at hlay
  have hst := (u_facts hfc hkC (u_lays hts hin hxN) hi).1
  have fin : ∀ (H' : Heap), H'[B + r]? = some (cell.setSlot f.slot v) → H'.size = H.size → (∀ q, q ≠ B + r → H'[q]? = H[q]?) → W p l ev R s m args below meth c H' (locs ++ [⟨B + r, f.slot⟩]) cells slots Q (F0 m (pc + 3) lsA st) := by
    intro H' e1 e2 e3
    rw [hsl] at e1 ⊢
    exact kk H' _ (hP.set zW_D he ⟨_, vw_at hci, t_OB.to (V := updV (vp_V fs) x v) ⟨_, e1, q2, q3, t_set q4 hap hxN v⟩ (fun j _ => vp_updV_set hfl v j)⟩ e3) e2 (hS.put e2 e3 (Nat.le_add_right _ _))
  by_cases hff : ((vwG ci).2.1 x).2.2.2 = true
  · rw [if_pos hff] at hlay
    obtain ⟨hin2, hdecl⟩ := hfin hff
    have hcf : m.cls = cf := by
      obtain ⟨_, _, c', _, _, _, -, -, hf', -, -, -, hown2, -⟩ := Cond.laysFinal_spec hlay
      have e1 : c' = cf := by have := hi.symm.trans hf'; simp at this; exact this.1.symm
      have hdecl : ((vwG ci).2.1 x).1 = zRn own := hdecl
      rw [hdecl] at hown2
      rw [← e1]; exact Option.some.inj (hown.symm.trans hown2)
    have h6 := u_fits hfc hkC hkind (Or.inr hlay) hi hdd hn hfit
    exact W.putFinK hx hb hown hlk (hsm _ hi) hst hcf hin2 (by rw [q2]; exact h6) q1 q3 (by rw [hsl]; exact k2_hasslot (q4 x hxN)) rfl rfl hd fin
  · rw [if_neg hff] at hlay
    have h6 := u_store hfc hkC hkind hlay hi hdd hn hfit
    exact W.putK hx hb (f := f) ⟨hown, hlk, ⟨_, _, _, hsm _ hi⟩, hst⟩ (by rw [q2]; exact h6) q1 q3 (by rw [hsl]; exact k2_hasslot (q4 x hxN)) rfl rfl hd fin

set_option maxHeartbeats 1000000 in
theorem zs_putfield {n : Nat} {pc x y : Nat} {w : Int32} {t : List Nat} : zOne p l ev R s m args below meth c Q cc own nL ret init cd B D cA ext L xs d Rr μF L0 S0 (pc, .putfield n, x, y, w, t) := by
  intro C hR ip ls st μ H locs lsA cells slots K Z hd hn0 ho h hI hS hl hc hs hF hFs hle hk hz
  obtain ⟨hx, hb, hml, hown, hts, hK, hX, hch, hin, hfr, hlo⟩ := C
  have hn : zPc cd (ip + 1) = pc + 3 := hn0 rfl
  unfold zOpk at ho
  simp only [Bool.and_eq_true, Bool.or_eq_true, decide_eq_true_eq, beq_iff_eq, Bool.not_eq_true'] at ho
  obtain ⟨⟨⟨hy, ha⟩, hr⟩, hfn⟩ := ho
  have common : ∀ (r : Nat) (s0 : Nat × Nat), μ.1[r]? = some s0 → zSub s0.1 y = true → s0.1 < 13 ∧ s0.2 = (vwG s0.1).2.2 ∧ x < (vwG s0.1).2.2 ∧ Cond.fieldLink (zRn own) n (zRn y) (zFd s0.1 x).2.1 (zFd s0.1 x).2.2.1 ∈ zTb ∧ ((zFd s0.1 x).1 = zRn y ∨ Cond.sameField (zRn y) (zFd s0.1 x).1 (zFd s0.1 x).2.1 (zFd s0.1 x).2.2.1 ∈ zTb) ∧ ((zFd s0.1 x).2.2.2 = true → meth.name = "<init>" ∧ (zFd s0.1 x).1 = zRn own) ∧ zKd s0.1 x = zKd y x := by
    intro r s0 hs0 hsb
    obtain ⟨ci, n0⟩ := s0
    have hci := zSub_lt hsb hy
    obtain ⟨hxN, hlk, hsm⟩ := zF_fact ha hci hsb
    have hsf := (zSub_fact hci hy hsb).2 x hxN
    refine ⟨hci, ?_, hxN, hlk, hsm, fun hf => ?_, hsf.2.2⟩
    · rcases hI.2.2.1 r _ hs0 with q | q
      · exact q.2
      · exact absurd q.1 (by show ¬ 20 ≤ ci; omega)
    · have hxy : x < (vwG y).2.2 := by rw [← (zSub_fact hci hy hsb).1]; exact hxN
      have hf : (zFd ci x).2.2.2 = true := hf
      rw [hsf.1, (zKd_fact hy hxy).1] at hf
      rcases hfn with q | q
      · rw [hf] at q; cases q
      · refine ⟨hin q.1.1, ?_⟩
        show (zFd ci x).1 = _
        rw [hsf.1, zDecl hy q.2 hxy, q.1.2]
  simp only [zStep] at h
  split at h
  · rename_i a r st
    cases hs0 : μ.1[r]? with
    | none => rw [hs0] at h; exact h.elim
    | some s0 =>
    rw [hs0] at h
    simp only [Option.elim_some] at h
    have ra := zFr hI hs0
    cases hsb : zSub s0.1 y with
    | false => simp [hsb] at h
    | true =>
    simp only [hsb, cond_true] at h
    obtain ⟨hci, hN, hxN, hlk, hsm, hfin, hkd⟩ := common r s0 hs0 hsb
    have he := zW_get (B := B) (cA := cA) hs0
    rw [show s0 = (s0.1, s0.2) from rfl, zEn_o hci] at he
    have key : ∀ ty, zTyOf s0.1 x = ty → narrow ty (.int a) = .int a → fits ty (.int a) = true → zFR s0.1 x = false → K (ip + 1) ls st (μ.1, up2 μ.2.1 r x a, μ.2.2) → W p l ev R s m args below meth c H locs cells slots Q (F0 m pc lsA ((Value.int a :: .ref r :: st).map (zc B ext))) := by
      intro ty h1 h2 h3 h4 h5
      rw [List.map_cons, List.map_cons, zc_r ra]
      refine zPutF (own := own) (y := y) hx hb hts hci hown hK hI.2.1 hS he hxN (by rw [zFs_len, hN]; exact hxN) (hts _ hlk) (zSame (own := own) hts hsm) hfin (v := .int a) h1 h2 h3 hd fun H1 locs1 hP1 hz1 hS1 => ?_
      rw [zFs_seti h4] at hP1
      rw [up2_row] at h5 hP1
      have hw := hk _ _ _ _ _ _ _ _ _ h5 (zIv_int hI hs0 hz1 hP1 (by rw [show s0 = (s0.1, s0.2) from rfl, zEn_o hci])) hS1 hl hc hs
      rw [hn] at hw
      exact hw
    split at h
    · have hr : zKd y x = 0 := by simpa using hr
      rw [← hkd] at hr
      exact key _ ((zKd_fact hci hxN).2.1 hr) rfl rfl (zFR_kd.1 (Or.inl hr)) h
    · have hr : zKd y x = 1 := by simpa using hr
      rw [← hkd] at hr
      exact key _ ((zKd_fact hci hxN).2.2.1 hr) (by rcases h.1 with e | e <;> rw [e] <;> rfl) (by rcases h.1 with e | e <;> rw [e] <;> rfl) (zFR_kd.1 (Or.inr hr)) h.2
    · exact h.elim
  · rename_i q r st
    cases hq0 : μ.1[q]? with
    | none => rw [hq0] at h; exact h.elim
    | some z0 =>
    rw [hq0] at h
    simp only [Option.elim_some] at h
    cases hs0 : μ.1[r]? with
    | none => rw [hs0] at h; exact h.elim
    | some s0 =>
    rw [hs0] at h
    simp only [Option.elim_some] at h
    have ra := zFr hI hs0
    have rq := zFr hI hq0
    cases hsb : zSub s0.1 y with
    | false => simp [hsb] at h
    | true =>
    simp only [hsb, cond_true] at h
    obtain ⟨hci, hN, hxN, hlk, hsm, hfin, hkd⟩ := common r s0 hs0 hsb
    have he := zW_get (B := B) (cA := cA) hs0
    rw [show s0 = (s0.1, s0.2) from rfl, zEn_o hci] at he
    split at h
    · have hr : zKd y x = 2 := by simpa using hr
      rw [← hkd] at hr
      have h4 := zFR_kd.2 hr
      have hrk := (zKd_fact hci hxN).2.2.2 hr
      rw [List.map_cons, List.map_cons, zc_r ra, zc_r rq]
      refine zPutF (own := own) (y := y) hx hb hts hci hown hK hI.2.1 hS he hxN (by rw [zFs_len, hN]; exact hxN) (hts _ hlk) (zSame (own := own) hts hsm) hfin rfl (by generalize zTyOf s0.1 x = ty at hrk ⊢; cases ty <;> first | rfl | cases hrk) (by generalize zTyOf s0.1 x = ty at hrk ⊢; cases ty <;> first | rfl | cases hrk) hd fun H1 locs1 hP1 hz1 hS1 => ?_
      rw [zFs_setr h4] at hP1
      have hw := hk _ _ _ _ _ _ _ _ _ h (zIv_ref hI hs0 hz1 rq hP1 (by rw [show s0 = (s0.1, s0.2) from rfl, zEn_o hci])) hS1 hl hc hs
      rw [hn] at hw
      exact hw
    · exact h.elim
  · exact h.elim

end ZS
end
section
/-! ALLOCATION, CONSTANTS, SWITCHES, CALLS -/
theorem zK_at {D : va_G} {cA : Nat → ClassId} {s : State} {c : ClassId} (hK : va_K D vwCl (zTys cA) s) : (s.vm.findClass ("[" ++ FieldType.int.toString) = some c → c = cA 0) ∧ (s.vm.findClass ("[" ++ FieldType.boolean.toString) = some c → c = cA 1) ∧
    (∀ k C, (k = 3 ∧ C = RX3) ∨ (k = 4 ∧ C = RX8) ∨ (k = 5 ∧ C = RX6) → s.vm.findClass ("[" ++ (FieldType.object C).toString) = some c → c = cA k) ∧ (s.vm.findClass ("[" ++ (FieldType.array .int).toString) = some c → c = cA 2) := by
  refine ⟨fun h => ?_, fun h => ?_, fun k C hk h => ?_, fun h => ?_⟩
  · have h2 : s.vm.findClass ("[" ++ FieldType.int.toString) = some (cA 0) := (hK.2 0 _ rfl).2
    exact Option.some.inj (h.symm.trans h2)
  · have h2 : s.vm.findClass ("[" ++ FieldType.boolean.toString) = some (cA 1) := (hK.2 1 _ rfl).2
    exact Option.some.inj (h.symm.trans h2)
  · rcases hk with ⟨rfl, rfl⟩ | ⟨rfl, rfl⟩ | ⟨rfl, rfl⟩
    · obtain ⟨_, _, -, -, -, h2⟩ := (hK.2 3 _ rfl).2
      exact Option.some.inj (h.symm.trans h2)
    · obtain ⟨_, _, -, -, -, h2⟩ := (hK.2 4 _ rfl).2
      exact Option.some.inj (h.symm.trans h2)
    · obtain ⟨_, _, -, -, -, h2⟩ := (hK.2 5 _ rfl).2
      exact Option.some.inj (h.symm.trans h2)
  · have h2 : s.vm.findClass ("[" ++ (FieldType.array .int).toString) = some (cA 2) := (hK.2 2 _ rfl).2
    exact Option.some.inj (h.symm.trans h2)
/-- one more cell behind all others -/
theorem zIv_new {B : Nat} {D : va_G} {cA : Nat → ClassId} {L : Nat} {xs : Nat → Int32} {μ : zM} {H H1 : Heap} {t n : Nat} (hI : zIv B D cA L xs μ H) (hlen : μ.1.length < 900000) (hsh : (t < 13 ∧ n = (vwG t).2.2) ∨ (20 ≤ t ∧ t ≤ 25))
    (hz : H1.size = H.size + 1) (oq : ∀ q : Nat, q < H.size → H1[q]? = H[q]?) (he : va_at D vwCl (B + μ.1.length, zEn B cA (μ.1 ++ [(t, n)], zero2 μ.2.1 μ.1.length 1 0, zero2 μ.2.2 μ.1.length 1 none) μ.1.length (t, n)) H1) :
    zIv B D cA L xs (μ.1 ++ [(t, n)], zero2 μ.2.1 μ.1.length 1 0, zero2 μ.2.2 μ.1.length 1 none) H1 := by
  obtain ⟨h1, h2, h3, h4, h5, h6, h7⟩ := hI
  have hne : ∀ {α : Type} (f : Nat → Nat → α) (z : α) (j : Nat), j ≠ μ.1.length → zero2 f μ.1.length 1 z j = f j := by
    intro α f z j hj
    funext b
    unfold zero2
    rw [if_neg (by omega)]
  refine ⟨by rw [hz, h1]; simp; omega, ?_, ?_, ?_, by simp; omega, ?_, ?_⟩
  · rw [zW_app (μ := μ) (l := [(t, n)]) rfl (fun j s hj => zEn_ne (hne _ _ _ (by omega)) (hne _ _ _ (by omega)))]
    refine va_P.app (h2.kept fun k q hq => oq q.1 ((h2 k q hq).lt)) ?_
    intro k q hq
    have hk : k < 1 := by simpa using (List.getElem?_eq_some_iff.mp hq).1
    obtain rfl : k = 0 := by omega
    have hq : (B + μ.1.length, zEn B cA (μ.1 ++ [(t, n)], zero2 μ.2.1 μ.1.length 1 0, zero2 μ.2.2 μ.1.length 1 none) μ.1.length (t, n)) = q := by simpa using hq
    rw [← hq]
    exact he
  · intro k s hs
    by_cases hk : k < μ.1.length
    · exact h3 k s (by have hs : (μ.1 ++ [(t, n)])[k]? = some s := hs; rwa [List.getElem?_append_left hk] at hs)
    · have hs : (μ.1 ++ [(t, n)])[k]? = some s := hs
      rw [List.getElem?_append_right (by omega)] at hs
      have : k - μ.1.length < 1 := by simpa using (List.getElem?_eq_some_iff.mp hs).1
      rw [show k - μ.1.length = 0 by omega] at hs
      obtain rfl : (t, n) = s := by simpa using hs
      exact hsh
  · intro a b q hq
    have hq : zero2 μ.2.2 μ.1.length 1 none a b = some q := hq
    unfold zero2 at hq
    split at hq
    · cases hq
    · exact h4 _ _ _ hq
  · rw [← h6]; exact hne _ _ _ (by omega)
  · rw [← h7]; show zero2 μ.2.1 μ.1.length 1 0 2000001 0 = _; rw [hne _ _ _ (by omega)]
theorem zSl_app {μ : zM} {a : List (Nat × Nat)} {i : zI} {r : zR} : zSl (μ.1 ++ a, i, r) = zSl μ + (a.map (fun s => s.2)).sum := by simp [zSl]
theorem zSw_in {β : Type} {K : β → Prop} {dd : β} {a : Int32} : ∀ (t : List β) (w : Int32) (k : Nat) (b : β), t.length < 5000 → t[k]? = some b → a = w + nI k → zSw a K dd w t → K b
  | [], _, k, b, _, hb, _, _ => by simp at hb
  | b0 :: t, w, 0, b, _, hb, ha, h => by
    obtain rfl : b0 = b := by simpa using hb
    exact h.1 (by rw [ha]; show w + 0 = w; exact Int32.add_zero w)
  | b0 :: t, w, k + 1, b, hl, hb, ha, h => by
    have hb : t[k]? = some b := by simpa using hb
    have hk : k < t.length := (List.getElem?_eq_some_iff.mp hb).1
    have hl : t.length + 1 < 5000 := by simpa using hl
    have hne : ¬ a = w := by
      intro e
      rw [e] at ha
      have h0 : nI (k + 1) = 0 := by
        have h1 := congrArg (fun z => -w + z) ha
        have h1 : -w + w = -w + (w + nI (k + 1)) := h1
        rw [← Int32.add_assoc, Int32.add_left_neg, Int32.zero_add] at h1
        exact h1.symm
      exact nI_ne0 (by omega) (by omega) h0
    refine zSw_in t (w + 1) k b (by omega) hb ?_ (h.2 hne)
    rw [ha, nI_succ, Int32.add_comm (nI k) 1, ← Int32.add_assoc]
theorem zSw_out {β : Type} {K : β → Prop} {dd : β} {a : Int32} : ∀ (t : List β) (w : Int32), (∀ k, k < t.length → ¬ a = w + nI k) → zSw a K dd w t → K dd
  | [], _, _, h => h
  | b0 :: t, w, hn, h => by
    refine zSw_out t (w + 1) (fun k hk e => hn (k + 1) (by simp; omega) ?_) (h.2 fun e => hn 0 (by simp) (by rw [e]; exact (Int32.add_zero w).symm))
    rw [e, nI_succ, Int32.add_comm (nI k) 1, ← Int32.add_assoc]
theorem zTabOk_get {cd : List zE} {pc : Nat} : ∀ (t : List Nat) (o : List Int) (k x : Nat), zTabOk cd pc t o = true → t[k]? = some x → ∃ y, o[k]? = some y ∧ (pc : Int) + y = (zPc cd x : Int)
  | [], _, k, x, _, hx => by simp at hx
  | a :: t, [], k, x, h, _ => by simp [zTabOk] at h
  | a :: t, b :: o, 0, x, h, hx => by
    simp only [zTabOk, Bool.and_eq_true, decide_eq_true_eq] at h
    obtain rfl : a = x := by simpa using hx
    exact ⟨b, rfl, h.1⟩
  | a :: t, b :: o, k + 1, x, h, hx => by
    simp only [zTabOk, Bool.and_eq_true, decide_eq_true_eq] at h
    obtain ⟨y, h1, h2⟩ := zTabOk_get t o k x h.2 (by simpa using hx)
    exact ⟨y, by simpa using h1, h2⟩
theorem zTabOk_len {cd : List zE} {pc : Nat} : ∀ (t : List Nat) (o : List Int), zTabOk cd pc t o = true → t.length = o.length
  | [], [], _ => rfl
  | [], _ :: _, h => by simp [zTabOk] at h
  | _ :: _, [], h => by simp [zTabOk] at h
  | a :: t, b :: o, h => by
    simp only [zTabOk, Bool.and_eq_true] at h
    simp [zTabOk_len t o h.2]
theorem zAddI {w : Int32} {k : Nat} (h1 : -1000 < w.toInt) (h2 : w.toInt + k < 2000) : (w + nI k).toInt = w.toInt + k := by
  rw [Int32.toInt_add, nI_toInt (by omega)]
  exact Int.bmod_eq_of_le (by omega) (by omega)
section ZS
variable {p : Program} {l : Launch} {ev : Env} {R : Room} {s : State} {m : MethodId} {args : Array Value} {below : List Frame} {meth : Method} {c : Code} {Q : State → Prop}
variable {cc : ByteArray} {own nL : Nat} {ret : Option FieldType} {init : Bool} {cd : List zE} {B : Nat} {D : va_G} {cA : Nat → ClassId} {ext : Nat → Nat} {L : Nat} {xs : Nat → Int32} {d : Nat} {Rr : zOr}
variable {L0 S0 : Nat} {μF : zM}

set_option maxHeartbeats 1000000 in
theorem zs_tableswitch {dd lo hi : Int} {offs : Array Int} {pc x y : Nat} {w : Int32} {t : List Nat} : zOne p l ev R s m args below meth c Q cc own nL ret init cd B D cA ext L xs d Rr μF L0 S0 (pc, .tableswitch dd lo hi offs, x, y, w, t) := by
  intro C hR ip ls st μ H locs lsA cells slots K Z hd hn0 ho h hI hS hl hc hs hF hFs hle hk hz
  obtain ⟨hx, hb, hml, hown, hts, hK, hX, hch, hin, hfr, hlo⟩ := C
  unfold zOpk at ho
  simp only [Bool.and_eq_true, decide_eq_true_eq] at ho
  obtain ⟨⟨⟨⟨⟨o1, o2⟩, o3⟩, o4⟩, o5⟩, o6⟩ := ho
  have olen := zTabOk_len _ _ o6
  simp only [zStep] at h
  split at h
  · rename_i a st
    by_cases hin1 : lo ≤ a.toInt ∧ a.toInt ≤ hi
    · have hkl : (a.toInt - lo).toNat < t.length := by omega
      have ht : t[(a.toInt - lo).toNat]? = some t[(a.toInt - lo).toNat] := List.getElem?_eq_getElem hkl
      obtain ⟨y1, y2, y3⟩ := zTabOk_get _ _ _ _ o6 ht
      have ha : a = w + nI (a.toInt - lo).toNat := by
        apply Int32.toInt_inj.mp
        rw [zAddI (by omega) (by omega)]
        omega
      have h := zSw_in t w _ _ (by omega) ht ha h
      exact lv_tableIn hx hb hd (by omega) (by omega) (by rw [← Array.getElem?_toList]; exact y2) y3 (hk _ _ _ _ _ _ _ _ _ h hI hS hl hc hs)
    · have h := zSw_out t w (fun k hk e => by
        have : a.toInt = w.toInt + k := by rw [e, zAddI (by omega) (by omega)]
        omega) h
      exact lv_tableOut hx hb hd (by omega) o1 (hk _ _ _ _ _ _ _ _ _ h hI hS hl hc hs)
  · exact h.elim

set_option maxHeartbeats 1000000 in
theorem zs_ldc {n : Nat} {pc x y : Nat} {w : Int32} {t : List Nat} : zOne p l ev R s m args below meth c Q cc own nL ret init cd B D cA ext L xs d Rr μF L0 S0 (pc, .ldc n, x, y, w, t) := by
  intro C hR ip ls st μ H locs lsA cells slots K Z hd hn0 ho h hI hS hl hc hs hF hFs hle hk hz
  obtain ⟨hx, hb, hml, hown, hts, hK, hX, hch, hin, hfr, hlo⟩ := C
  have hn : zPc cd (ip + 1) = pc + 2 := hn0 rfl
  unfold zOpk at ho
  simp only [zStep] at h
  simp only at ho
  split at h
  · rename_i hy
    rw [if_pos hy] at ho
    obtain ⟨⟨o, i, v, j⟩, hq, he⟩ := List.any_eq_true.mp ho
    simp only [Bool.and_eq_true, beq_iff_eq] at he
    obtain ⟨⟨rfl, rfl⟩, rfl⟩ := he
    have hkc := List.all_eq_true.mp zKC_ok _ hq
    refine lv_ldc hx hb hown (hts _ (zHas_in hkc)) hd ?_
    have hw := hk _ _ _ _ _ _ _ _ _ h hI hS hl hc hs
    rw [hn] at hw
    exact hw
  · rename_i hy
    rw [if_neg hy] at ho
    simp only [Bool.or_eq_true, Bool.and_eq_true, beq_iff_eq] at ho
    rcases ho with ⟨⟨rfl, rfl⟩, rfl⟩ | ⟨⟨rfl, rfl⟩, rfl⟩
    · refine va_ldcS hx hb hown hX.2.2.1 hd ?_
      have hw := hk _ _ _ _ _ _ _ _ _ h hI hS hl hc hs
      rw [hn] at hw
      exact hw
    · refine va_ldcS hx hb hown hX.2.2.2.1 hd ?_
      have hw := hk _ _ _ _ _ _ _ _ _ h hI hS hl hc hs
      rw [hn] at hw
      exact hw

set_option maxHeartbeats 1000000 in
theorem zs_ldc_w {n : Nat} {pc x y : Nat} {w : Int32} {t : List Nat} : zOne p l ev R s m args below meth c Q cc own nL ret init cd B D cA ext L xs d Rr μF L0 S0 (pc, .ldc_w n, x, y, w, t) := by
  intro C hR ip ls st μ H locs lsA cells slots K Z hd hn0 ho h hI hS hl hc hs hF hFs hle hk hz
  obtain ⟨hx, hb, hml, hown, hts, hK, hX, hch, hin, hfr, hlo⟩ := C
  have hn : zPc cd (ip + 1) = pc + 3 := hn0 rfl
  obtain ⟨⟨o, i, v, j⟩, hq, he⟩ := List.any_eq_true.mp ho
  simp only [Bool.and_eq_true, beq_iff_eq] at he
  obtain ⟨⟨rfl, rfl⟩, rfl⟩ := he
  have hkc := List.all_eq_true.mp zKC_ok _ hq
  refine lv_ldcw hx hb hown (hts _ (zHas_in hkc)) hd ?_
  have hw := hk _ _ _ _ _ _ _ _ _ h hI hS hl hc hs
  rw [hn] at hw
  exact hw

set_option maxHeartbeats 1000000 in
theorem zs_lconst {n : Fin 2} {pc x y : Nat} {w : Int32} {t : List Nat} : zOne p l ev R s m args below meth c Q cc own nL ret init cd B D cA ext L xs d Rr μF L0 S0 (pc, .lconst n, x, y, w, t) := by
  intro C hR ip ls st μ H locs lsA cells slots K Z hd hn0 ho h hI hS hl hc hs hF hFs hle hk hz
  obtain ⟨hx, hb, hml, hown, hts, hK, hX, hch, hin, hfr, hlo⟩ := C
  have hn : zPc cd (ip + 1) = pc + 1 := hn0 rfl
  have ho := of_decide_eq_true ho
  refine lv_lconst hx hb hd ho ?_
  have hw := hk _ _ _ _ _ _ _ _ _ h hI hS hl hc hs
  rw [hn] at hw
  exact hw

set_option maxHeartbeats 1000000 in
theorem zs_ldc2_w {n : Nat} {pc x y : Nat} {w : Int32} {t : List Nat} : zOne p l ev R s m args below meth c Q cc own nL ret init cd B D cA ext L xs d Rr μF L0 S0 (pc, .ldc2_w n, x, y, w, t) := by
  intro C hR ip ls st μ H locs lsA cells slots K Z hd hn0 ho h hI hS hl hc hs hF hFs hle hk hz
  obtain ⟨hx, hb, hml, hown, hts, hK, hX, hch, hin, hfr, hlo⟩ := C
  have hn : zPc cd (ip + 1) = pc + 3 := hn0 rfl
  obtain ⟨⟨o, i, a, b, j⟩, hq, he⟩ := List.any_eq_true.mp ho
  simp only [Bool.and_eq_true, beq_iff_eq] at he
  obtain ⟨⟨⟨rfl, rfl⟩, rfl⟩, rfl⟩ := he
  have hkc := List.all_eq_true.mp zLC_ok _ hq
  refine lv_ldc2 hx hb hown (hts _ (zHas_in hkc)) hd ?_
  have hw := hk _ _ _ _ _ _ _ _ _ h hI hS hl hc hs
  rw [hn] at hw
  exact hw

theorem zIn_len {ci k : Nat} {l : List Cond} (h : ∀ w ∈ l, w ∈ zTb) {w : Cond} (hw : w ∈ l) (hts : ∀ w ∈ zTb, w.before args s = true) : w.before args s = true := hts _ (h _ hw)
theorem zNC_get {n k : Nat} (h : zNC.any (fun q => q.2.1 == n && q.1 == own && q.2.2.1 == k) = true) : ∀ w ∈ zNw own n k, w ∈ zTb := by
  obtain ⟨⟨o, i, a, is⟩, hq, he⟩ := List.any_eq_true.mp h
  simp only [Bool.and_eq_true, beq_iff_eq] at he
  obtain ⟨⟨rfl, rfl⟩, rfl⟩ := he
  exact zHasL_in (List.all_eq_true.mp zNC_ok _ hq)

set_option maxHeartbeats 1000000 in
theorem zs_new {n : Nat} {pc x y : Nat} {w : Int32} {t : List Nat} : zOne p l ev R s m args below meth c Q cc own nL ret init cd B D cA ext L xs d Rr μF L0 S0 (pc, .new n, x, y, w, t) := by
  intro C hR ip ls st μ H locs lsA cells slots K Z hd hn0 ho h hI hS hl hc hs hF hFs hle hk hz
  obtain ⟨hx, hb, hml, hown, hts, hK, hX, hch, hin, hfr, hlo⟩ := C
  have hn : zPc cd (ip + 1) = pc + 3 := hn0 rfl
  unfold zOpk at ho
  simp only [Bool.and_eq_true, decide_eq_true_eq, beq_iff_eq] at ho
  obtain ⟨⟨hx13, hN⟩, hn2⟩ := ho
  have hws := zNC_get hn2
  unfold zNw at hws
  rw [if_neg (by omega)] at hws
  obtain ⟨hlen, h⟩ := h
  have hL1 := (hle _ _ _ _ h).1
  have hL2 := (hle _ _ _ _ h).2
  rw [zSl_app] at hL2
  simp at hL1 hL2
  have hKn := hK.1 x _ (vw_at hx13)
  have hC : zRn x = (vwG x).1 := by
    have : ∀ k, k < 13 → zRn k = (vwG k).1 := by decide +kernel
    exact this x hx13
  rw [hC] at hws
  refine W.newcK hx hb hown (hts _ (hws _ (by simp))) (hts _ (hws (.instantiable (vwG x).1 (vwG x).2.2) (by simp))) (hts _ (hws (.initialized (vwG x).1) (by simp))) rfl hd (by omega) (by omega) hKn.2.1 rfl fun H1 kC hkC e1 z1 o1 => ?_
  have hat : va_at D vwCl (B + μ.1.length, zEn B cA (μ.1 ++ [(x, y)], zero2 μ.2.1 μ.1.length 1 0, zero2 μ.2.2 μ.1.length 1 none) μ.1.length (x, y)) H1 := by
    rw [zEn_o hx13]
    refine ⟨_, vw_at hx13, ?_⟩
    rw [hI.1] at e1
    refine (u_born (zTyOf x) hts (zLay_in hx13) hKn hkC e1 (fun k hk => zTy_fact hx13 hk)).to (fun j hj => ?_)
    unfold vp_V
    rw [List.getD_eq_getElem?_getD, zFs_get (by rw [← hN]; exact hj)]
    have hz1 : zero2 μ.2.1 μ.1.length 1 0 μ.1.length j = 0 := by unfold zero2; rw [if_pos (by omega)]
    have hz2 : zero2 μ.2.2 μ.1.length 1 none μ.1.length j = none := by unfold zero2; rw [if_pos (by omega)]
    show defaultValue (zTyOf x j) = (some (if zFR x j = true then va_rf ((zero2 μ.2.2 μ.1.length 1 none μ.1.length j).map (fun q => B + q)) else .int (zero2 μ.2.1 μ.1.length 1 0 μ.1.length j))).getD .null
    rw [hz1, hz2]
    obtain ⟨-, k0, k1, k2⟩ := zKd_fact hx13 hj
    unfold zKd at k0 k1 k2
    cases hf : zFR x j with
    | true =>
      rw [hf] at k2
      have k2 := k2 rfl
      generalize zTyOf x j = ty at k2 ⊢
      cases ty <;> first | rfl | cases k2
    | false =>
      rw [hf] at k0 k1
      simp only [Bool.false_eq_true, if_false] at k0 k1
      by_cases hbo : ((x == 11 && j == 2) || (x == 12 && j == 14)) = true
      · rw [if_pos hbo] at k1; rw [k1 rfl]; rfl
      · rw [if_neg hbo] at k0; rw [k0 rfl]; rfl
  have hI1 := zIv_new hI hlen (Or.inl ⟨hx13, hN.symm⟩) z1 o1 hat
  have hw := hk _ _ _ _ _ locs lsA (cells + 1) (slots + y) h hI1 ⟨Nat.le_trans hS.1 (by omega), fun q h1 h2 => (o1 q (Nat.lt_of_lt_of_le h1 hS.1)).trans (hS.2.1 q h1 h2), hS.2.2⟩ hl (by simp; omega) (by rw [zSl_app]; simp; omega)
  rw [hn, List.map_cons, zc_r (by omega), ← hI.1, ← hN] at hw
  exact hw

theorem zAC_in : Cond.arrayClass .int ∈ zTb ∧ Cond.arrayClass .boolean ∈ zTb := ⟨zHasL_in zAC_ok _ (by simp), zHasL_in zAC_ok _ (by simp)⟩
theorem zz0 {α : Type} {f : Nat → Nat → α} {k j : Nat} {z : α} : zero2 f k 1 z k j = z := by unfold zero2; rw [if_pos (by omega)]

set_option maxHeartbeats 1000000 in
theorem zs_newarray {a : ArrayType} {pc x y : Nat} {w : Int32} {t : List Nat} : zOne p l ev R s m args below meth c Q cc own nL ret init cd B D cA ext L xs d Rr μF L0 S0 (pc, .newarray a, x, y, w, t) := by
  intro C hR ip ls st μ H locs lsA cells slots K Z hd hn0 ho h hI hS hl hc hs hF hFs hle hk hz
  obtain ⟨hx, hb, hml, hown, hts, hK, hX, hch, hin, hfr, hlo⟩ := C
  have hn : zPc cd (ip + 1) = pc + 2 := hn0 rfl
  unfold zOpk at ho
  simp only [Bool.or_eq_true, Bool.and_eq_true, decide_eq_true_eq, beq_iff_eq] at ho
  simp only [zStep] at h
  split at h
  · rename_i n st
    obtain ⟨h0, h1, hlen, h⟩ := h
    have hL1 := (hle _ _ _ _ h).1
    have hL2 := (hle _ _ _ _ h).2
    rw [zSl_app] at hL2
    simp at hL1 hL2
    have key : ∀ (ty : FieldType) (t0 : Nat), newarray.typeOf a = ty → x = t0 → (t0 = 20 ∨ t0 = 21) → defaultValue ty = .int 0 → (Cond.arrayClass ty).before args s = true → (∀ cX, s.vm.findClass ("[" ++ ty.toString) = some cX → cX = cA (t0 - 20)) → componentBytes ty ≤ 4 → W p l ev R s m args below meth c H locs cells slots Q (F0 m pc lsA ((Value.int n :: st).map (zc B ext))) := by
      intro ty t0 e1 e2 e3 e4 e5 e6 e7
      subst e1 e2
      refine va_newaK hx hb e5 rfl hd rfl h0 rfl (Nat.le_trans (Nat.mul_le_mul h1 e7) (by omega)) (by omega) (by omega) rfl fun H1 cX r1 z1 o1 hAr hNm => ?_
      obtain rfl := e6 _ hNm
      have hat : va_at D vwCl (B + μ.1.length, zEn B cA (μ.1 ++ [(x, n.toNatClampNeg)], zero2 μ.2.1 μ.1.length 1 0, zero2 μ.2.2 μ.1.length 1 none) μ.1.length (x, n.toNatClampNeg)) H1 := by
        rw [hI.1] at r1
        rcases e3 with rfl | rfl
        · rw [zEn_i]
          refine r1.trans (congrArg some ?_)
          rw [vp_cell_i, e4]
          exact congrArg (arrV _ _) (funext fun j => congrArg Value.int (zz0.symm))
        · rw [zEn_z]
          refine r1.trans (congrArg some ?_)
          rw [vp_cell_i, e4]
          exact congrArg (arrV _ _) (funext fun j => congrArg Value.int (zz0.symm))
      have hI1 := zIv_new hI hlen (Or.inr (by omega)) z1 o1 hat
      have hw := hk _ _ _ _ _ locs lsA (cells + 1) (slots + n.toNatClampNeg) h hI1 ⟨Nat.le_trans hS.1 (by omega), fun q h1 h2 => (o1 q (Nat.lt_of_lt_of_le h1 hS.1)).trans (hS.2.1 q h1 h2), hS.2.2⟩ hl (by simp; omega) (by rw [zSl_app]; simp; omega)
      rw [hn, List.map_cons, zc_r (by omega), ← hI.1] at hw
      exact hw
    rcases ho with ⟨rfl, e⟩ | ⟨rfl, e⟩
    · exact key .int 20 rfl e (Or.inl rfl) rfl (hts _ zAC_in.1) (fun cX hc => (zK_at hK).1 hc) (Nat.le_refl 4)
    · exact key .boolean 21 rfl e (Or.inr rfl) rfl (hts _ zAC_in.2) (fun cX hc => (zK_at hK).2.1 hc) (by decide)
  · exact h.elim

set_option maxHeartbeats 1000000 in
theorem zs_anewarray {i : Nat} {pc x y : Nat} {w : Int32} {t : List Nat} : zOne p l ev R s m args below meth c Q cc own nL ret init cd B D cA ext L xs d Rr μF L0 S0 (pc, .anewarray i, x, y, w, t) := by
  intro C hR ip ls st μ H locs lsA cells slots K Z hd hn0 ho h hI hS hl hc hs hF hFs hle hk hz
  obtain ⟨hx, hb, hml, hown, hts, hK, hX, hch, hin, hfr, hlo⟩ := C
  have hn : zPc cd (ip + 1) = pc + 3 := hn0 rfl
  unfold zOpk at ho
  simp only [Bool.or_eq_true, Bool.and_eq_true, beq_iff_eq] at ho
  simp only [zStep] at h
  split at h
  · rename_i n st
    obtain ⟨h0, h1, hlen, h⟩ := h
    have hL1 := (hle _ _ _ _ h).1
    have hL2 := (hle _ _ _ _ h).2
    rw [zSl_app] at hL2
    simp at hL1 hL2
    have key : ∀ (C : String) (k : Nat), x = k + 20 → ((k = 3 ∧ C = RX3) ∨ (k = 4 ∧ C = RX8) ∨ (k = 5 ∧ C = RX6)) → (Cond.classLink (zRn own) i C).before args s = true → va_AO C s → W p l ev R s m args below meth c H locs cells slots Q (F0 m pc lsA ((Value.int n :: st).map (zc B ext))) := by
      intro C k e1 e2 e3 e4
      subst e1
      refine W.anew hx hb hown e3 (va_AO.use e4) rfl hd rfl h0 (by omega) (by omega) (by omega) fun cX kA comp f1 f2 f3 f4 => ?_
      obtain rfl := (zK_at hK).2.2.1 k C e2 f1
      generalize hH1 : H.push ({ cls := cA k, slots := Array.replicate n.toNatClampNeg .null, vm := .none } : Cell) = H1
      have z1 : H1.size = H.size + 1 := by rw [← hH1, Array.size_push]
      have r1 : H1[H.size]? = some (arrV (cA k) n.toNatClampNeg (fun _ => .null)) := by rw [← hH1, Array.getElem?_push_size, ← arrV_new]
      have o1 : ∀ q : Nat, q < H.size → H1[q]? = H[q]? := fun q hq => by rw [← hH1, Array.getElem?_push, if_neg (Nat.ne_of_lt hq)]
      have hat : va_at D vwCl (B + μ.1.length, zEn B cA (μ.1 ++ [(k + 20, n.toNatClampNeg)], zero2 μ.2.1 μ.1.length 1 0, zero2 μ.2.2 μ.1.length 1 none) μ.1.length (k + 20, n.toNatClampNeg)) H1 := by
        rw [hI.1] at r1
        rw [zEn_q (by omega)]
        refine r1.trans (congrArg some ?_)
        rw [vp_cell_q, show k + 20 - 20 = k by omega]
        refine congrArg (arrV _ _) (funext fun j => ?_)
        show Value.null = va_rf ((zero2 μ.2.2 μ.1.length 1 none μ.1.length j).map (fun q => B + q))
        rw [zz0]
        rfl
      have hI1 := zIv_new hI hlen (Or.inr (by omega)) z1 o1 hat
      have hw := hk _ _ _ _ _ locs lsA (cells + 1) (slots + n.toNatClampNeg) h hI1 ⟨Nat.le_trans hS.1 (by omega), fun q h1 h2 => (o1 q (Nat.lt_of_lt_of_le h1 hS.1)).trans (hS.2.1 q h1 h2), hS.2.2⟩ hl (by simp; omega) (by rw [zSl_app]; simp; omega)
      rw [hn, List.map_cons, zc_r (by omega), ← hI.1] at hw
      exact hw
    have hcl : ∀ k, zNC.any (fun q => q.2.1 == i && q.1 == own && q.2.2.1 == k) = true → k ≠ 22 → (Cond.classLink (zRn own) i (zRn k)).before args s = true := fun k hk h22 => by
      have hws := zNC_get hk
      unfold zNw at hws
      rw [if_neg h22] at hws
      exact hts _ (hws _ (by simp))
    rcases ho with (⟨e, hk⟩ | ⟨e, hk⟩) | ⟨e, hk⟩
    · exact key RX3 3 e (Or.inl ⟨rfl, rfl⟩) (hcl 3 hk (by decide)) hX.1.1
    · exact key RX8 4 e (Or.inr (Or.inl ⟨rfl, rfl⟩)) (hcl 8 hk (by decide)) hX.1.2.1
    · exact key RX6 5 e (Or.inr (Or.inr ⟨rfl, rfl⟩)) (hcl 6 hk (by decide)) hX.1.2.2.1
  · exact h.elim

theorem zRn_vw : ∀ k, k < 13 → zRn k = (vwG k).1 := by decide +kernel
theorem zRecv {D : va_G} {cA : Nat → ClassId} {B L : Nat} {xs : Nat → Int32} {μ : zM} {H : Heap} {s : State} {r : Nat} {s0 : Nat × Nat} (hK : va_K D vwCl (zTys cA) s) (hI : zIv B D cA L xs μ H) (hs0 : μ.1[r]? = some s0) (h : s0.1 < 13) : ∃ cell : Cell, H[B + r]? = some cell ∧ cell.vm.isStatics = false ∧ s.vm.findClass (zRn s0.1) = some cell.cls := by
  have he := zW_get (B := B) (cA := cA) hs0
  rw [show s0 = (s0.1, s0.2) from rfl, zEn_o h] at he
  have := va_recv hK hI.2.1 (vw_at h) he
  rw [zRn_vw _ h]
  exact this

set_option maxHeartbeats 1000000 in
theorem zs_aastore {pc x y : Nat} {w : Int32} {t : List Nat} : zOne p l ev R s m args below meth c Q cc own nL ret init cd B D cA ext L xs d Rr μF L0 S0 (pc, .aastore, x, y, w, t) := by
  intro C hR ip ls st μ H locs lsA cells slots K Z hd hn0 ho h hI hS hl hc hs hF hFs hle hk hz
  obtain ⟨hx, hb, hml, hown, hts, hK, hX, hch, hin, hfr, hlo⟩ := C
  have hn : zPc cd (ip + 1) = pc + 1 := hn0 rfl
  unfold zOpk at ho
  simp only [Bool.or_eq_true, Bool.and_eq_true, beq_iff_eq] at ho
  simp only [zStep] at h
  split at h
  · rename_i q i a st
    cases hs0 : μ.1[a]? with
    | none => rw [hs0] at h; exact h.elim
    | some s0 =>
    rw [hs0] at h
    simp only [Option.elim_some] at h
    cases hq0 : μ.1[q]? with
    | none => rw [hq0] at h; exact h.elim
    | some z0 =>
    rw [hq0] at h
    simp only [Option.elim_some] at h
    have ra := zFr hI hs0
    have rq := zFr hI hq0
    obtain ⟨t0, n0⟩ := s0
    cases h20 : (t0 == y && zSub z0.1 x) with
    | false => simp [h20] at h
    | true =>
    simp only [h20, cond_true] at h
    simp only [Bool.and_eq_true, beq_iff_eq] at h20
    obtain ⟨e0, hsb⟩ := h20
    obtain ⟨h1, h⟩ := h
    have hx13 : x < 13 := by omega
    have hz13 := zSub_lt hsb hx13
    have h22 : 22 ≤ t0 := by omega
    rw [List.map_cons, List.map_cons, List.map_cons, zc_r ra, zc_r rq]
    have he := zW_get (B := B) (cA := cA) hs0
    rw [zEn_q h22] at he
    have hlt : i.toNatClampNeg < n0 := Nat.not_le.mp fun q => h1 (Or.inr q)
    have hneg : ¬ i < 0 := fun q => h1 (Or.inl q)
    obtain ⟨cv, c1, c2, c3⟩ := zRecv hK hI hq0 hz13
    have hcls : ∃ (kA : Class) (comp : ClassId), s.vm.classes[cA (t0 - 20)]? = some kA ∧ kA.kind = .array comp (.object (zRn x)) ∧ s.vm.findClass (zRn x) = some comp := by
      rcases ho with (⟨a1, a2⟩ | ⟨a1, a2⟩) | ⟨a1, a2⟩
      · subst a2; obtain rfl : t0 = 23 := by omega
        obtain ⟨kA, comp, k1, k2, k3, -⟩ := (hK.2 3 _ rfl).2; exact ⟨kA, comp, k1, k2, k3⟩
      · subst a2; obtain rfl : t0 = 24 := by omega
        obtain ⟨kA, comp, k1, k2, k3, -⟩ := (hK.2 4 _ rfl).2; exact ⟨kA, comp, k1, k2, k3⟩
      · subst a2; obtain rfl : t0 = 25 := by omega
        obtain ⟨kA, comp, k1, k2, k3, -⟩ := (hK.2 5 _ rfl).2; exact ⟨kA, comp, k1, k2, k3⟩
    obtain ⟨kA, comp, k1, k2, k3⟩ := hcls
    obtain ⟨kV, hkV, -⟩ := Vm.findClass_spec c3
    obtain ⟨kE, hkE, -⟩ := Vm.findClass_spec k3
    have hasg : s.vm.assignable cv.cls comp = true := by
      by_cases hzx : z0.1 = x
      · rw [hzx, k3] at c3
        cases c3
        have hat := (hK.1 x _ (vw_at hx13)).2
        rw [← zRn_vw _ hx13] at hat
        obtain ⟨hfc, hk⟩ := hat
        exact (Option.some.inj (hfc.symm.trans k3)) ▸ va_assign ⟨hfc, hk⟩
      · obtain ⟨c4, t4, a1, a2, a3⟩ := Cond.castable_spec (hX.1.2.2.2.2.2.2.2.2 _ _ hz13 hx13 hsb hzx)
        cases a1.symm.trans c3
        cases a2.symm.trans k3
        exact a3
    refine W.aast hx hb (hI.2.1 a _ he) (fun q h => by cases h) (fun h => by cases h) k1 k2 rfl hkE ⟨hneg, by show _ < (arrV _ _ _).slots.size; rw [arrV_size]; exact hlt⟩ c1 (fun q h => by rw [h] at c2; cases c2) hkV hasg rfl rfl hd fun H1 e z oq => ?_
    have e : H1[B + a]? = some (vp_cell (cA (t0 - 20)) (n0, .inr (.inr (.inr (.inr (va_up (fun j => (μ.2.2 a j).map (fun q => B + q)) i.toNatClampNeg (some (B + q)))))))) := e.trans (congrArg some vc_updq)
    have hI1 := zIv_ref (j := i.toNatClampNeg) (q := q) hI hs0 z rq (hI.2.1.set zW_D (zW_get hs0) (e := .inl (cA (t0 - 20), n0, .inr (.inr (.inr (.inr (va_up (fun j => (μ.2.2 a j).map (fun q => B + q)) i.toNatClampNeg (some (B + q)))))))) e oq) (by
      rw [zEn_q h22]
      refine congrArg (fun f => Sum.inl (cA (t0 - 20), n0, Sum.inr (Sum.inr (Sum.inr (Sum.inr f))))) (funext fun j => ?_)
      show (up2 μ.2.2 a i.toNatClampNeg (some q) a j).map (fun q => B + q) = _
      unfold up2 va_up
      by_cases hj : j = i.toNatClampNeg
      · simp [hj]
      · simp [hj])
    have hw := hk _ _ _ _ _ _ _ _ _ h hI1 (hS.put (k := i.toNatClampNeg) z oq (Nat.le_add_right _ _)) hl hc hs
    rw [hn] at hw
    exact hw
  · exact h.elim

set_option maxHeartbeats 1000000 in
theorem zs_instanceof {i : Nat} {pc x y : Nat} {w : Int32} {t : List Nat} : zOne p l ev R s m args below meth c Q cc own nL ret init cd B D cA ext L xs d Rr μF L0 S0 (pc, .instanceof i, x, y, w, t) := by
  intro C hR ip ls st μ H locs lsA cells slots K Z hd hn0 ho h hI hS hl hc hs hF hFs hle hk hz
  obtain ⟨hx, hb, hml, hown, hts, hK, hX, hch, hin, hfr, hlo⟩ := C
  have hn : zPc cd (ip + 1) = pc + 3 := hn0 rfl
  unfold zOpk at ho
  simp only [Bool.and_eq_true, decide_eq_true_eq] at ho
  obtain ⟨⟨hx13, hx3⟩, hk3⟩ := ho
  have hlk : (Cond.classLink (zRn own) i (zRn x)).before args s = true := by
    have hws := zNC_get hk3
    unfold zNw at hws
    rw [if_neg (by omega)] at hws
    exact hts _ (hws _ (by simp))
  simp only [zStep] at h
  split at h
  · rename_i r st
    cases hs0 : μ.1[r]? with
    | none => rw [hs0] at h; exact h.elim
    | some s0 =>
    rw [hs0] at h
    simp only [Option.elim_some] at h
    have ra := zFr hI hs0
    cases hs3 : zSub s0.1 3 with
    | false => simp [hs3] at h
    | true =>
    simp only [hs3, cond_true] at h
    have hz13 := zSub_lt hs3 (by omega)
    rw [List.map_cons, zc_r ra]
    have hr := zRecv hK hI hs0 hz13
    cases hsx : zSub s0.1 x with
    | true =>
      rw [hsx] at h
      by_cases hzx : s0.1 = x
      · rw [hzx] at hr
        have hat := (hK.1 x _ (vw_at hx13)).2
        rw [← zRn_vw _ hx13] at hat
        refine va_instS hx hb hown hlk hat hr hd ?_
        have hw := hk _ _ _ _ _ _ _ _ _ h hI hS hl hc hs
        rw [hn] at hw
        exact hw
      · refine va_instY hx hb hown hlk (hX.1.2.2.2.2.2.2.2.2 _ _ hz13 hx13 hsx hzx) hr hd ?_
        have hw := hk _ _ _ _ _ _ _ _ _ h hI hS hl hc hs
        rw [hn] at hw
        exact hw
    | false =>
      rw [hsx] at h
      refine va_instNo hx hb hown hlk (hX.2.1 _ _ hs3 hx3 hsx) hr hd ?_
      have hw := hk _ _ _ _ _ _ _ _ _ h hI hS hl hc hs
      rw [hn] at hw
      exact hw
  · exact h.elim

end ZS
end
section
/-! CALLS -/
theorem zAO_spec {ty : FieldType} {U : State} (h : va_AOA ty U) : ∃ comp c k, U.vm.findClass (FieldType.array ty).toString = some comp ∧ (U.vm.classes.findIdx? fun (x : Class) => match x.kind with | .array component _ => component == comp | _ => false) = some c ∧ U.vm.classes[c]? = some k ∧ k.kind = .array comp (.array ty) ∧ U.vm.findClass ("[" ++ (FieldType.array ty).toString) = some c := by
  unfold va_AOA at h
  simp only [Cond.before, Cond.holds, Cond.value, beq_iff_eq] at h
  cases hc : U.vm.findClass (FieldType.array ty).toString with
  | none => simp [hc] at h
  | some comp =>
    simp only [hc, Option.bind_some, Option.bind_eq_some_iff, Option.map_eq_some_iff] at h
    obtain ⟨c, hi, k, hk, hb⟩ := h
    obtain ⟨hlt, hp, -⟩ := Array.findIdx?_eq_some_iff_getElem.mp hi
    have hkk : U.vm.classes[c] = k := (Array.getElem?_eq_some_iff.mp hk).2
    rw [hkk] at hp
    cases hkind : k.kind with
    | array component t9 =>
      rw [hkind] at hb hp
      simp at hb hp
      exact ⟨comp, c, k, rfl, hi, hk, by rw [hkind, hp, hb.1], hb.2⟩
    | _ => rw [hkind] at hb; simp at hb
theorem va_AOA.moved {ty : FieldType} {u U : State} (hvm : u.vm.Alike U.vm) (h : va_AOA ty u) : va_AOA ty U := by
  obtain ⟨comp, c, k, h1, h2, h3, h4, h5⟩ := zAO_spec h
  obtain ⟨k', hk', he⟩ := hvm.2.2 _ _ h3
  have hi : (U.vm.classes.findIdx? fun (x : Class) => match x.kind with | .array component _ => component == comp | _ => false) = some c := by
    rw [hvm.findIdx?_eqK _ (fun _ => rfl)]
    exact h2
  have hkind : k'.kind = .array comp (.array ty) := by rw [he]; exact h4
  have f1 : U.vm.findClass (FieldType.array ty).toString = some comp := by rw [hvm.findClass]; exact h1
  have f2 : U.vm.findClass ("[" ++ (FieldType.array ty).toString) = some c := by rw [hvm.findClass]; exact h5
  unfold va_AOA
  simp only [Cond.before, Cond.holds, Cond.value, f1, Option.bind_some, beq_iff_eq]
  rw [Option.bind_eq_some_iff]
  refine ⟨c, hi, ?_⟩
  simp [hk', hkind, f2]
theorem zXt_move {B : Nat} {ext : Nat → Nat} {L : Nat} {xs : Nat → Int32} {s U : State} (hW : s.WarmedH U.vm) (hsz : s.heap.size ≤ U.heap.size) (hH : ∀ q, q < s.heap.size → ¬ B ≤ q → U.heap[q]? = s.heap[q]?) (h : zXt B ext L xs s) : zXt B ext L xs U := by
  obtain ⟨⟨a1, a2, a3, a4, a5, a6, a7, a8, a9⟩, b, c1, c2, ⟨scr, d1, d2, d3, d4, d5⟩, e, f, g, adV, i, z1, z2⟩ := h
  have hvm := hW.alike
  refine ⟨⟨a1.moved hvm, a2.moved hvm, a3.moved hvm, a4.moved hvm, a5.warmM hW, a6.warmM hW, a7.warmM hW, a8.warmM hW, fun a b ha hb hs hn => (a9 a b ha hb hs hn).warmC hW⟩, fun ci k q1 q2 q3 => (b ci k q1 q2 q3).moved hvm, c1.warm hW, c2.warm hW, ⟨scr, ?_, State.isArrayOf_alike hvm d2, d3, d4, d5⟩, e, f, Nat.le_trans g hsz, adV, ?_, (va_Z.moved hvm z1).kept hH, (va_Zq.moved hvm z2).kept hH⟩
  · rw [hH _ (Nat.lt_of_lt_of_le e g) (by omega)]; exact d1
  · exact (vk_S.moved hvm i).kept hH
theorem zXt_call {B : Nat} {ext : Nat → Nat} {L : Nat} {xs : Nat → Int32} {U : State} {g : JFrame} {mk : MethodId} {a : Array Value} (h : zXt B ext L xs U) : zXt B ext L xs (U.calling g mk a) := by
  obtain ⟨⟨a1, a2, a3, a4, a5, a6, a7, a8, a9⟩, b, c1, c2, ⟨scr, d1, d2, d3, d4, d5⟩, e, f, g9, adV, i, z1, z2⟩ := h
  have hvm : U.vm.Alike (U.calling g mk a).vm := Vm.Alike.refl U.vm
  have hvq : (U.calling g mk a).vm = U.vm := rfl
  refine ⟨⟨a1.moved hvm, a2.moved hvm, a3.moved hvm, a4.moved hvm, va_Nw.same rfl hvq.symm a5, va_Nw.same rfl hvq.symm a6, va_Nw.same rfl hvq.symm a7, va_Nw.same rfl hvq.symm a8, fun a b ha hb hs hn => va_Nw.same rfl hvq.symm (a9 a b ha hb hs hn)⟩, fun ci k q1 q2 q3 => (b ci k q1 q2 q3).moved hvm, vk_R.same hvq c1, vk_R.same hvq c2, ⟨scr, d1, State.isArrayOf_alike hvm d2, d3, d4, d5⟩, e, f, g9, adV, vk_S.moved hvm i, va_Z.moved hvm z1, va_Zq.moved hvm z2⟩
theorem zPc_blind {B : Nat} {D : va_G} {cA : Nat → ClassId} {ext : Nat → Nat} {L : Nat} {xs : Nat → Int32} {av : List Value} {μ : zM} : FrameBlind (va_Pc av (zWd B D cA ext L xs μ)) := by
  intro a U g mk h
  obtain ⟨h1, h2, h3, h4⟩ := h
  exact ⟨h1, h2, va_K.moved (u := U) (U := U.calling g mk a) (Vm.Alike.refl U.vm) h3, zXt_call h4⟩
theorem zGood {l : List Cond} (h : ∀ w ∈ l, w ∈ zTb) : GoodIn zTb l := fun w hw => ⟨h w hw, good_of_word (List.mem_filter.mp (h w hw)).2⟩
theorem zMC_mem {q : Nat × Nat × Nat × Nat × Nat × List Nat} (hq : q ∈ zMC) : (∀ w ∈ zMw q.1 q.2.1 q.2.2.1 q.2.2.2.2.1, w ∈ zTb) ∧ zMchk q = true := by
  refine ⟨fun w hw => ?_, List.all_eq_true.mp zMC_ok q hq⟩
  have e := List.map_inj_left.mp zMC_w q hq
  have h1 : some w ∈ (zMw q.1 q.2.1 q.2.2.1 q.2.2.2.2.1).map some := List.mem_map.mpr ⟨w, hw, rfl⟩
  rw [← e] at h1
  obtain ⟨i, -, hi⟩ := List.mem_map.mp h1
  exact List.mem_filter.mpr ⟨List.mem_of_getElem? hi, List.all_eq_true.mp (List.all_eq_true.mp zMC_g q hq) w hw⟩
theorem zNa_fact {x : Nat} (h : x < 227) : zNchk x (zNa x) = true := by
  have key : ∀ a n : Nat, (List.range n).all (fun k => zNchk (a + k) (zNa (a + k))) = true → a ≤ x → x < a + n → zNchk x (zNa x) = true := by
    intro a n hh h1 h2
    have := List.all_eq_true.mp hh (x - a) (List.mem_range.mpr (by omega))
    rwa [show a + (x - a) = x by omega] at this
  rcases Nat.lt_or_ge x 20 with q | q
  · exact key 0 20 zNa_0 (by omega) (by omega)
  rcases Nat.lt_or_ge x 40 with q | q
  · exact key 20 20 zNa_20 (by omega) (by omega)
  rcases Nat.lt_or_ge x 60 with q | q
  · exact key 40 20 zNa_40 (by omega) (by omega)
  rcases Nat.lt_or_ge x 80 with q | q
  · exact key 60 20 zNa_60 (by omega) (by omega)
  rcases Nat.lt_or_ge x 100 with q | q
  · exact key 80 20 zNa_80 (by omega) (by omega)
  rcases Nat.lt_or_ge x 120 with q | q
  · exact key 100 20 zNa_100 (by omega) (by omega)
  rcases Nat.lt_or_ge x 140 with q | q
  · exact key 120 20 zNa_120 (by omega) (by omega)
  rcases Nat.lt_or_ge x 160 with q | q
  · exact key 140 20 zNa_140 (by omega) (by omega)
  rcases Nat.lt_or_ge x 180 with q | q
  · exact key 160 20 zNa_160 (by omega) (by omega)
  rcases Nat.lt_or_ge x 200 with q | q
  · exact key 180 20 zNa_180 (by omega) (by omega)
  rcases Nat.lt_or_ge x 220 with q | q
  · exact key 200 20 zNa_200 (by omega) (by omega)
  exact key 220 7 zNa_220 (by omega) (by omega)
theorem zNc_fact {x : Nat} (h : x < 227) : ((zy x).cls ≠ "java/lang/invoke/MethodHandle" ∧ (zy x).cls ≠ "java/lang/invoke/VarHandle" ∧ (parseMethodDescriptor (zy x).desc).map (fun d => d.parameters.length) = some (zNa x)) ∧ zml x ≤ 41 := by
  have := zNa_fact h
  unfold zNchk at this
  simp only [Bool.and_eq_true, decide_eq_true_eq] at this
  exact ⟨⟨this.1.1.1, this.1.1.2, this.1.2⟩, this.2⟩
set_option maxRecDepth 100000 in
theorem zCls_all : (List.range 227).map (fun x => (zy x).cls) = (List.range 227).map (fun x => zRn (zow x)) := by rfl
theorem zCls {x : Nat} (h : x < 227) : (zy x).cls = zRn (zow x) := List.map_inj_left.mp zCls_all x (List.mem_range.mpr h)
theorem zRm {st : List Value} {B : Nat} {ext : Nat → Nat} (h : st.length ≤ 4) : ((st.map (zc B ext)).map fun v => v.category).sum ≤ 8 := by
  have : ∀ l : List Value, (l.map fun v => v.category).sum ≤ 2 * l.length := by
    intro l
    induction l with
    | nil => exact Nat.le_refl _
    | cons v l ih =>
      have : v.category = 1 ∨ v.category = 2 := lv_cat v
      simp only [List.map_cons, List.sum_cons, List.length_cons]
      omega
  have := this (st.map (zc B ext))
  rw [List.length_map] at this
  omega
section ZS
variable {p : Program} {l : Launch} {ev : Env} {R : Room} {s : State} {m : MethodId} {args : Array Value} {below : List Frame} {meth : Method} {c : Code} {Q : State → Prop}
variable {cc : ByteArray} {own nL : Nat} {ret : Option FieldType} {init : Bool} {cd : List zE} {B : Nat} {D : va_G} {cA : Nat → ClassId} {ext : Nat → Nat} {L : Nat} {xs : Nat → Int32} {d : Nat} {Rr : zOr}
variable {L0 S0 : Nat} {μF : zM} {H : Heap} {locs : List Loc} {cells slots : Nat}
theorem zCont {mc ms pc : Nat} {lsA : Array Slot} {st0 rest : List Value} {v : Option Value} {μ' : zM} {a : Array Value} (hr : va_Run p l ev R s m args below meth c H locs cells slots mc ms (F0 m pc lsA st0) (rest.map (zc B ext)) (zQ B D cA ext L xs v μ' a) (fun q => B ≤ q)) (hS : va_S (fun q => B ≤ q) s.heap H locs)
    (kk : ∀ (H1 : Heap) (locs1 : List Loc), zIv B D cA L xs μ' H1 → va_S (fun q => B ≤ q) s.heap H1 locs1 → W p l ev R s m args below meth c H1 locs1 (cells + mc) (slots + ms) Q (F0 m (pc + 3) lsA ((v.toList ++ rest).map (zc B ext)))) : W p l ev R s m args below meth c H locs cells slots Q (F0 m pc lsA st0) := by
  intro T hT X
  obtain ⟨v1, st₀, t, T', L', h0, X', hL, e1, e2, ⟨hv, hI, hz, hF⟩, st⟩ := hr T hT X
  have hv : v1 = v.map (zc B ext) := by injection hv
  subst hv
  rw [h0] at hz hF
  have hS1 : va_S (fun q => B ≤ q) s.heap T'.heap (locs ++ L') := by
    rw [e1]
    refine ⟨Nat.le_trans hS.1 hz, fun q h1 h2 => (hF q (Nat.lt_of_lt_of_le h1 hS.1) h2).trans (hS.2.1 q h1 h2), fun q hq => ?_⟩
    rcases List.mem_append.mp hq with h | h
    · exact hS.2.2 q h
    · exact hL q h
  obtain ⟨t2, a1, b1⟩ := kk T'.heap (locs ++ L') (by rw [e1]; exact hI) hS1 T' rfl X'
  refine ⟨t2, st t2 ?_, b1⟩
  have e : (v.map (zc B ext)).toList ++ rest.map (zc B ext) = (v.toList ++ rest).map (zc B ext) := by cases v <;> simp
  show Steps p.tables ev below (T'.setTop (F0 m (pc + 3) lsA ((v.map (zc B ext)).toList ++ rest.map (zc B ext)))) t2
  rw [e]
  exact a1
/-- what a callee may take as given -/
theorem zPreW {as : List Value} {μ : zM} (hI : zIv B D cA L xs μ H) (hK : va_K D vwCl (zTys cA) s) (hX : zXt B ext L xs s) (hS : va_S (fun q => B ≤ q) s.heap H locs) : ∀ U : State, U.heap = H → s.WarmedH U.vm → va_Pc (as.map (zc B ext)) (zWd B D cA ext L xs μ) (as.map (zc B ext)).toArray U :=
  fun U hU hW => ⟨rfl, by rw [hU]; exact hI, va_K.moved hW.alike hK, zXt_move hW (by rw [hU]; exact hS.1) (fun q h1 h2 => by rw [hU]; exact hS.2.1 q h1 h2) hX⟩
/-- the room that a callee takes fits -/
theorem zFit {μ μ' : zM} (h1 : zLe μ μ') (h2 : zLe μ' μF) (hc : L0 + cells = μ.1.length) (hs : S0 + slots = zSl μ) (hF : μF.1.length ≤ L0 + R.cells) (hFs : zSl μF ≤ S0 + R.slots) : cells + (μ'.1.length - μ.1.length) ≤ R.cells ∧ slots + (zSl μ' - zSl μ) ≤ R.slots ∧ L0 + (cells + (μ'.1.length - μ.1.length)) = μ'.1.length ∧ S0 + (slots + (zSl μ' - zSl μ)) = zSl μ' := by
  have a1 := h1.1
  have a2 := h1.2
  have a3 := h2.1
  have a4 := h2.2
  omega
theorem zRoomOk {mL : Nat} (h1 : d + 11 ≤ R.frames) (h2 : 64 * d + 1064 ≤ R.locals) (h3 : mL ≤ 41) : (d + 10) + 1 ≤ R.frames ∧ 8 + (mL + 11) + (64 * d + 1000) ≤ R.locals := by omega
theorem zStk {st : List Value} {y : Nat} : st.map (zc B ext) = (((st.take y).reverse).map (zc B ext)).reverse ++ (st.drop y).map (zc B ext) := by
  rw [← List.map_reverse, List.reverse_reverse, ← List.map_append, List.take_append_drop]

theorem zCopy {pc index a b n0 n1 : Nat} {lsA : Array Slot} {rest : List Value} {μ : zM} {f g : Nat → Int32} {sp dp n : Int32} {sH : String} (hx : p.tables.exec = Jvm.exec) (hb : c.code = cc) (hml : c.maxLocals = lsA.size) (hown : s.vm.findClass sH = some m.cls) (hlink : (Cond.methodLink sH index arraycopyName).before args s = true) (hnat : (Cond.native arraycopyName).before args s = true) (hstat : (Cond.static arraycopyName).before args s = true) (hini : (Cond.initialized "java/lang/System").before args s = true)
    (hK : va_K D vwCl (zTys cA) s) (hP : va_P D vwCl (zW B cA μ) H) (hS : va_S (fun q => B ≤ q) s.heap H locs) (ha0 : (zW B cA μ)[a]? = some (B + a, .inl (cA 0, n0, .inl f))) (ha1 : (zW B cA μ)[b]? = some (B + b, .inl (cA 0, n1, .inl g)))
    (h1 : ¬ sp < 0) (h2 : ¬ dp < 0) (h3 : ¬ n < 0) (h4 : sp.toNatClampNeg + n.toNatClampNeg ≤ n0) (h5 : dp.toNatClampNeg + n.toNatClampNeg ≤ n1)
    (hframes : 1 ≤ R.frames) (hlocals : (rest.map fun v => v.category).sum + (nativeFrameWords "java/lang/System" "arraycopy" 5 + 11) ≤ R.locals) (hdg : decode cc pc = .ok (.invokestatic index, 3))
    (kk : ∀ (H1 : Heap) (locs1 : List Loc), H1[B + b]? = some (vp_cell (cA 0) (n1, .inl (va_cpy f g sp.toNatClampNeg dp.toNatClampNeg n.toNatClampNeg))) → H1.size = H.size → (∀ q : Nat, q ≠ B + b → H1[q]? = H[q]?) → va_S (fun q => B ≤ q) s.heap H1 locs1 → W p l ev R s m args below meth c H1 locs1 cells slots Q (F0 m (pc + 3) lsA rest)) : W p l ev R s m args below meth c H locs cells slots Q (F0 m pc lsA (.int n :: .int dp :: .ref (B + b) :: .int sp :: .ref (B + a) :: rest)) := by
  have nn : ∀ z : Int32, ¬ z < 0 → z.toInt = (z.toNatClampNeg : Int) := by
    intro z hz
    have hz0 : (0 : Int) ≤ z.toInt := by
      have := Int32.not_lt.mp hz
      simpa using Int32.le_iff_toInt_le.mp this
    show z.toInt = ((z.toInt.toNat : Nat) : Int)
    omega
  intro T hT X
  have hc0 : H[B + a]? = some (vp_cell (cA 0) (n0, .inl f)) := hP a _ ha0
  have hc1 : H[B + b]? = some (vp_cell (cA 0) (n1, .inl g)) := hP b _ ha1
  obtain ⟨-, k0, hk0, cm0, hkk0⟩ := (hK.2 0 (cA 0, .int) rfl).1 n0 (fun j => .int (f j))
  obtain ⟨-, k1, hk1, cm1, hkk1⟩ := (hK.2 0 (cA 0, .int) rfl).1 n1 (fun j => .int (g j))
  obtain ⟨vm', X', step⟩ := X.arraycopy hx hown hlink hnat hstat hini (src := B + a) (dst := B + b) (cs := vp_cell (cA 0) (n0, .inl f)) (cd := vp_cell (cA 0) (n1, .inl g)) (srcPos := sp) (destPos := dp) (n := n) (by rw [hT]; exact hc0) (by rw [hT]; exact hc1)
    (fun _ h => by cases h) (fun _ h => by cases h) (fun h => by cases h) (fun h => by cases h) hk0 hk1 hkk0 hkk1 (by simp [refKind]) h1 h2 h3
    (by rw [nn sp h1, nn n h3]; show ¬ _ > ((arrV (cA 0) n0 (fun j => .int (f j))).slots.size : Int); rw [arrV_size]; omega)
    (by rw [nn dp h2, nn n h3]; show ¬ _ > ((arrV (cA 0) n1 (fun j => .int (g j))).slots.size : Int); rw [arrV_size]; omega)
    (fun vm₁ _ i hi => by
      have e : (vp_cell (cA 0) (n0, .inl f)).slots.getD (sp.toNatClampNeg + i) .null = .int (f (sp.toNatClampNeg + i)) := by
        show (arrV (cA 0) n0 (fun j => .int (f j))).slots.getD _ _ = _
        rw [Array.getD_eq_getD_getElem?, arrV_read _ _ (by omega)]
        rfl
      refine ⟨?_, ?_⟩
      · rw [e]
        rfl
      · rw [e]
        exact trivial)
    (g := F0 m pc lsA (.int n :: .int dp :: .ref (B + b) :: .int sp :: .ref (B + a) :: rest)) rfl (by rw [hml]) (rest := rest) rfl (by rw [hb]; exact hdg) hframes (by show 2 * 0 + _ + _ ≤ _; omega)
  have e1 : copied (vp_cell (cA 0) (n0, .inl f)) (vp_cell (cA 0) (n1, .inl g)) sp dp n = vp_cell (cA 0) (n1, .inl (va_cpy f g sp.toNatClampNeg dp.toNatClampNeg n.toNatClampNeg)) := va_copied (fun z => .int z) (cA 0) (cA 0) f g h4
  rw [e1] at X' step
  have hl : B + b < H.size := (Array.getElem?_eq_some_iff.mp hc1).1
  generalize hG : vp_cell (cA 0) (n1, .inl (va_cpy f g sp.toNatClampNeg dp.toNatClampNeg n.toNatClampNeg)) = G at X' step kk
  have hheap : ((T.setVm vm').setCell (B + b) G).heap = H.setIfInBounds (B + b) G := by rw [← hT]; rfl
  have oq : ∀ q : Nat, q ≠ B + b → (H.setIfInBounds (B + b) G)[q]? = H[q]? := fun q hq => by simp [Array.getElem?_setIfInBounds, Ne.symm hq]
  obtain ⟨t, a1, b1⟩ := kk _ _ (show (H.setIfInBounds (B + b) G)[B + b]? = some G by simp [Array.getElem?_setIfInBounds, hl]) (by simp) oq ⟨by simp; exact hS.1, fun q g1 g2 => by
      rw [oq q (fun e => g2 (by rw [e]; exact Nat.le_add_right _ _))]
      exact hS.2.1 q g1 g2, fun q hq => by
      rcases List.mem_append.mp hq with h | h
      · exact hS.2.2 q h
      · obtain ⟨z, -, hz⟩ := List.mem_map.mp h
        rw [← hz]
        exact Nat.le_add_right _ _⟩ _ hheap X'
  exact ⟨t, step t a1, b1⟩

set_option maxHeartbeats 1000000 in
theorem zs_invokestatic {n : Nat} {pc x y : Nat} {w : Int32} {t : List Nat} : zOne p l ev R s m args below meth c Q cc own nL ret init cd B D cA ext L xs d Rr μF L0 S0 (pc, .invokestatic n, x, y, w, t) := by
  intro C hR ip ls st μ H locs lsA cells slots K Z hd hn0 ho h hI hS hl hc hs hF hFs hle hk hz
  obtain ⟨hx, hb, hml, hown, hts, hK, hX, hch, hin, hfr, hlo⟩ := C
  have hn : zPc cd (ip + 1) = pc + 3 := hn0 rfl
  unfold zOpk at ho
  simp only [zStep] at h
  split at h
  · simp only at ho
    obtain ⟨⟨o, i, x', y', k, is⟩, hq, he⟩ := List.any_eq_true.mp ho
    simp only [Bool.and_eq_true, beq_iff_eq] at he
    obtain ⟨⟨⟨⟨rfl, rfl⟩, rfl⟩, rfl⟩, rfl⟩ := he
    obtain ⟨hws, hck⟩ := zMC_mem hq
    unfold zMchk at hck
    simp only [Bool.and_eq_true, decide_eq_true_eq] at hck
    obtain ⟨⟨hna, h227⟩, -⟩ := hck
    cases hbl : (Nat.ble y' st.length && Nat.ble (st.drop y').length 4) with
    | false => rw [hbl] at h; exact h.elim
    | true =>
    rw [hbl] at h
    simp only [Bool.and_eq_true, Nat.ble_eq] at hbl
    obtain ⟨v, μ', h1, h2⟩ := h
    obtain ⟨hle1, hM⟩ := hR _ _ _ _ _ h1 h227
    obtain ⟨f1, f2, f3, f4⟩ := zFit hle1 (hle _ _ _ _ h2) hc hs hF hFs
    obtain ⟨hd2, hml2⟩ := zNc_fact h227
    rw [hna] at hd2
    have hg : GoodIn zTb (va_wsS (zRn o) i (zy x') (zcd x' :: zTb)) := zGood fun w hw => by
      rcases List.mem_append.mp hw with h | h
      · exact hws w h
      · rcases List.mem_cons.mp h with h | h
        · rw [h]; exact zcd_in h227
        · exact h
    have hRm : (d + 10) + 1 ≤ R.frames ∧ 8 + (zml x' + 11) + (64 * d + 1000) ≤ R.locals := zRoomOk hfr hlo hml2
    rw [zStk (y := y')]
    refine zCont (va_runS (As := (st.take y').reverse.map (zc B ext)) (rest := (st.drop y').map (zc B ext)) ⟨hx, hb, hml, hown, hts⟩ hM (va_cwS y' hts hg rfl rfl rfl hd2 hRm) ⟨zPc_blind, zPreW hI hK hX hS⟩ rfl (by rw [List.length_map, List.length_reverse, List.length_take]; exact Nat.min_eq_left hbl.1) hl.1 rfl (lv_room (zRm hbl.2)) hd ⟨f1, f2⟩) hS fun H1 locs1 hI1 hS1 => ?_
    have hw := hk _ _ _ _ _ _ _ _ _ h2 hI1 hS1 hl f3 f4
    rw [hn] at hw
    exact hw
  · simp only at ho
    obtain ⟨⟨o, i, k, is⟩, hq, he⟩ := List.any_eq_true.mp ho
    simp only [Bool.and_eq_true, beq_iff_eq] at he
    obtain ⟨⟨rfl, rfl⟩, rfl⟩ := he
    have hws := zHasL_in (List.all_eq_true.mp zPC_ok _ hq)
    split at h
    · rename_i b a st
      cases hbl : Nat.ble st.length 4 with
      | false => rw [hbl] at h; exact h.elim
      | true =>
      rw [hbl] at h
      rw [Nat.ble_eq] at hbl
      refine va_mmin hx hb (hml.trans hl.1.symm) hown (hts _ (hws _ (by simp [zPw]))) (hts _ (hws (.static Lib.Math.min.name) (by simp [zPw]))) (hts _ (hws (.initialized "java/lang/Math") (by simp [zPw]))) (hts _ (hws (.code Lib.Math.min.name Lib.Math.min.code 2 (some .int)) (by simp [zPw]))) (by omega) (by have := zRm (B := B) (ext := ext) hbl; omega) (by have := (hle _ _ _ _ h).1; omega) (by have := (hle _ _ _ _ h).2; omega) hd ?_
      have hw := hk _ _ _ _ _ _ _ _ _ h hI hS hl hc hs
      rw [hn] at hw
      exact hw
    · exact h.elim
  · simp only at ho
    obtain ⟨⟨o, i, k, is⟩, hq, he⟩ := List.any_eq_true.mp ho
    simp only [Bool.and_eq_true, beq_iff_eq] at he
    obtain ⟨⟨rfl, rfl⟩, rfl⟩ := he
    have hws := zHasL_in (List.all_eq_true.mp zPC_ok _ hq)
    split at h
    · rename_i b a st
      cases hbl : Nat.ble st.length 4 with
      | false => rw [hbl] at h; exact h.elim
      | true =>
      rw [hbl] at h
      rw [Nat.ble_eq] at hbl
      refine va_mmax hx hb (hml.trans hl.1.symm) hown (hts _ (hws _ (by simp [zPw]))) (hts _ (hws (.static Lib.Math.max.name) (by simp [zPw]))) (hts _ (hws (.initialized "java/lang/Math") (by simp [zPw]))) (hts _ (hws (.code Lib.Math.max.name Lib.Math.max.code 2 (some .int)) (by simp [zPw]))) (by omega) (by have := zRm (B := B) (ext := ext) hbl; omega) (by have := (hle _ _ _ _ h).1; omega) (by have := (hle _ _ _ _ h).2; omega) hd ?_
      have hw := hk _ _ _ _ _ _ _ _ _ h hI hS hl hc hs
      rw [hn] at hw
      exact hw
    · exact h.elim
  · simp only at ho
    obtain ⟨⟨o, i, k, is⟩, hq, he⟩ := List.any_eq_true.mp ho
    simp only [Bool.and_eq_true, beq_iff_eq] at he
    obtain ⟨⟨rfl, rfl⟩, rfl⟩ := he
    have hws := zHasL_in (List.all_eq_true.mp zPC_ok _ hq)
    split at h
    · rename_i a st
      cases hbl : Nat.ble st.length 4 with
      | false => rw [hbl] at h; exact h.elim
      | true =>
      rw [hbl] at h
      rw [Nat.ble_eq] at hbl
      refine va_mabs hx hb (hml.trans hl.1.symm) hown (hts _ (hws _ (by simp [zPw]))) (hts _ (hws (.static Lib.Math.abs.name) (by simp [zPw]))) (hts _ (hws (.initialized "java/lang/Math") (by simp [zPw]))) (hts _ (hws (.code Lib.Math.abs.name Lib.Math.abs.code 1 (some .int)) (by simp [zPw]))) (by omega) (by have := zRm (B := B) (ext := ext) hbl; omega) (by have := (hle _ _ _ _ h).1; omega) (by have := (hle _ _ _ _ h).2; omega) hd ?_
      have hw := hk _ _ _ _ _ _ _ _ _ h hI hS hl hc hs
      rw [hn] at hw
      exact hw
    · exact h.elim
  · simp only at ho
    obtain ⟨⟨o, i, k, is⟩, hq, he⟩ := List.any_eq_true.mp ho
    simp only [Bool.and_eq_true, beq_iff_eq] at he
    obtain ⟨⟨rfl, rfl⟩, rfl⟩ := he
    have hws := zHasL_in (List.all_eq_true.mp zPC_ok _ hq)
    split at h
    · rename_i nn dp b sp a st
      cases hs0 : μ.1[a]? with
      | none => rw [hs0] at h; exact h.elim
      | some s0 =>
      rw [hs0] at h
      simp only [Option.elim_some] at h
      cases hz0 : μ.1[b]? with
      | none => rw [hz0] at h; exact h.elim
      | some z0 =>
      rw [hz0] at h
      simp only [Option.elim_some] at h
      have ra := zFr hI hs0
      have rb := zFr hI hz0
      obtain ⟨t0, n0⟩ := s0
      obtain ⟨t1, n1⟩ := z0
      cases hbl : (t0 == 20 && t1 == 20 && Nat.ble st.length 4) with
      | false => rw [hbl] at h; exact h.elim
      | true =>
      rw [hbl] at h
      simp only [Bool.and_eq_true, beq_iff_eq, Nat.ble_eq] at hbl
      obtain ⟨⟨rfl, rfl⟩, hbl⟩ := hbl
      obtain ⟨g1, g2, g3, g4, g5, h⟩ := h
      simp only [List.map_cons]
      rw [zc_r ra, zc_r rb]
      have hnw : nativeFrameWords "java/lang/System" "arraycopy" 5 ≤ 100 := by decide
      have he0 := zW_get (B := B) (cA := cA) hs0
      have he1 := zW_get (B := B) (cA := cA) hz0
      rw [zEn_i] at he0 he1
      refine zCopy hx hb (hml.trans hl.1.symm) hown (hts _ (hws _ (by simp [zPw]))) (hts _ (hws (.native arraycopyName) (by simp [zPw]))) (hts _ (hws (.static arraycopyName) (by simp [zPw]))) (hts _ (hws (.initialized "java/lang/System") (by simp [zPw]))) hK hI.2.1 hS he0 he1 g1 g2 g3 g4 g5 (by omega) (by have := zRm (B := B) (ext := ext) hbl; omega) hd fun H1 locs1 e1 z1 oq hS1 => ?_
      have hw := hk _ _ _ _ _ _ _ _ _ h (zIv_arr hI hz0 (Or.inl rfl) e1 z1 oq) hS1 hl hc hs
      rw [hn] at hw
      exact hw
    · exact h.elim
  · exact h.elim

end ZS
end
section
/-! length() AND charAt ON THE STRING CONSTANTS: the JDK's own methods; written by a program (mk10s.py) -/
def zJws : List Cond := [.code yJ0_length_8abf5 cJ0_length_8abf5 1 (some .int), .code yJ0_charAt_5068e cJ0_charAt_5068e 2 (some .char), .code yJ0_coder_7d493 cJ0_coder_7d493 1 (some .byte), .code yJ0_isLatin1_aae02 cJ0_isLatin1_aae02 1 (some .boolean), .code yJ0_checkIndex_df160 cJ0_checkIndex_df160 2 none, .code yJ1_charAt_3b067 cJ1_charAt_3b067 2 (some .char), .code yJ3_checkIndex_8e157 cJ3_checkIndex_8e157 3 (some .int), .fieldLink RJ0 38 "java/lang/String" "COMPACT_STRINGS" "Z", .fieldLink RJ0 15 "java/lang/String" "coder" "B", .fieldLink RJ0 9 "java/lang/String" "value" "[B", .fieldLink RJ0 1053 "jdk/internal/util/Preconditions" "SIOOBE_FORMATTER" "Ljava/util/function/BiFunction;", .methodLink RJ0 335 yJ0_coder_7d493, .methodLink RJ0 492 yJ0_isLatin1_aae02, .methodLink RJ0 495 yJ1_charAt_3b067, .methodLink RJ1 9 yJ0_checkIndex_df160, .methodLink RJ0 1059 yJ3_checkIndex_8e157, .methodLink RX11 84 yJ0_length_8abf5, .methodLink RX11 90 yJ0_charAt_5068e, .methodLink RX7 82 yJ0_length_8abf5, .methodLink RX7 88 yJ0_charAt_5068e, .instanceMethod yJ0_length_8abf5, .selects RJ0 yJ0_length_8abf5 yJ0_length_8abf5, .instanceMethod yJ0_charAt_5068e, .selects RJ0 yJ0_charAt_5068e yJ0_charAt_5068e, .instanceMethod yJ0_coder_7d493, .selects RJ0 yJ0_coder_7d493 yJ0_coder_7d493, .instanceMethod yJ0_isLatin1_aae02, .selects RJ0 yJ0_isLatin1_aae02 yJ0_isLatin1_aae02, .static yJ1_charAt_3b067, .static yJ0_checkIndex_df160, .static yJ3_checkIndex_8e157, .initialized RJ0, .initialized RJ1, .initialized RJ3]
theorem zJws_ok : zHasL [245, 255, 249, 259, 265, 262, 270, 250, 1465, 1464, 266, 246, 256, 260, 263, 268, 242, 252, 310, 311, 243, 244, 253, 254, 247, 248, 257, 258, 261, 264, 269, 81, 82, 83] zJws = true := by decide +kernel
theorem zJw_in {w : Cond} (h : w ∈ zJws) : w ∈ zTb := zHasL_in zJws_ok w h
def zJw (B : Nat) (ext adV : Nat → Nat) (U : State) (H : Heap) : Prop := vk_S 2 zLenS zBytS (fun i => ext (1000000 + i)) adV (fun q => B ≤ q) U H ∧ va_Z "java/lang/String" "COMPACT_STRINGS" "Z" (.int 1) (fun q => B ≤ q) U H ∧ va_Zq "jdk/internal/util/Preconditions" "SIOOBE_FORMATTER" "Ljava/util/function/BiFunction;" (fun q => B ≤ q) U H
theorem zJw.moved {B : Nat} {ext adV : Nat → Nat} {u U : State} {H : Heap} (hvm : u.vm.Alike U.vm) (h : zJw B ext adV u H) : zJw B ext adV U H := ⟨vk_S.moved hvm h.1, va_Z.moved hvm h.2.1, va_Zq.moved hvm h.2.2⟩
theorem zJw.kept {B : Nat} {ext adV : Nat → Nat} {U : State} {H H1 : Heap} (h : zJw B ext adV U H) (hq : ∀ a : Nat, a < H.size → ¬ B ≤ a → H1[a]? = H[a]?) : zJw B ext adV U H1 := ⟨h.1.kept hq, h.2.1.kept hq, h.2.2.kept hq⟩
theorem zJw_blind {B : Nat} {ext adV : Nat → Nat} {av : List Value} : FrameBlind (va_Pc av (fun U => zJw B ext adV U U.heap)) := by
  intro a U g mk h
  exact ⟨h.1, zJw.moved (u := U) (U := U.calling g mk a) (Vm.Alike.refl U.vm) h.2⟩
theorem zNo_blind {av : List Value} : FrameBlind (va_Pc av (fun _ => True)) := fun a U g mk h => h
def zQs (v : Option Value) : Array Value → State → Outcome → State → Prop := fun _ st o t => o = .returned v ∧ t.heap = st.heap
theorem zStrL : ∀ i, i < 2 → zLenS.getD i 0 = (zStr i).length ∧ (zStr i).length < 100 := by decide +kernel
theorem zStrC : ∀ i, i < 2 → ∀ k, k < (zStr i).length → (((zBytS.getD i []).getD k 0 &&& 255).toUInt32 % 65536).toInt32 = Int32.ofNat ((zStr i).getD k 0) ∧ (zStr i).getD k 0 < 256 := by decide +kernel
theorem zNarC : ∀ k, k < 256 → narrow .char (.int (Int32.ofNat k)) = .int (Int32.ofNat k) := by decide +kernel
theorem zShr0 : ∀ k, k < 100 → Int32.ofNat k >>> ((0 : Int32) &&& 31) = Int32.ofNat k := by decide +kernel
theorem zGoodS {own : String} {idx : Nat} {y : MethodName} {w0 : Cond} (h1 : Cond.methodLink own idx y ∈ zTb) (h2 : Cond.static y ∈ zTb) (h3 : Cond.initialized y.cls ∈ zTb) (h4 : w0 ∈ zTb) : GoodIn zTb (va_wsS own idx y (w0 :: zTb)) := zGood fun w hw => by
  rcases List.mem_append.mp hw with h | h
  · simp only [List.mem_cons, List.not_mem_nil, or_false] at h
    rcases h with rfl | rfl | rfl
    · exact h1
    · exact h2
    · exact h3
  · rcases List.mem_cons.mp h with rfl | h
    · exact h4
    · exact h
theorem zGoodV {own C : String} {idx : Nat} {y : MethodName} {w0 : Cond} (h1 : Cond.methodLink own idx y ∈ zTb) (h2 : Cond.instanceMethod y ∈ zTb) (h3 : Cond.selects C y y ∈ zTb) (h5 : Cond.initialized C ∈ zTb) (h4 : w0 ∈ zTb) : GoodIn zTb (wsV own idx C y (w0 :: zTb)) := zGood fun w hw => by
  rcases List.mem_append.mp hw with h | h
  · simp only [List.mem_cons, List.not_mem_nil, or_false] at h
    rcases h with rfl | rfl | rfl | rfl
    · exact h1
    · exact h2
    · exact h3
    · exact h5
  · rcases List.mem_cons.mp h with rfl | h
    · exact h4
    · exact h
section ZSS
variable {p : Program} {l : Launch} {ev : Env} {R : Room} {s : State} {m : MethodId} {args : Array Value} {below : List Frame} {meth : Method} {c : Code} {Q : State → Prop} {B : Nat} {H : Heap} {locs : List Loc} {cells slots : Nat}
theorem zContS {pc : Nat} {lsA : Array Slot} {st0 rest : List Value} {v : Option Value} {a : Array Value} (hr : va_Run p l ev R s m args below meth c H locs cells slots 0 0 (F0 m pc lsA st0) rest (zQs v a) (fun q => B ≤ q)) (hS : va_S (fun q => B ≤ q) s.heap H locs)
    (kk : ∀ locs1 : List Loc, va_S (fun q => B ≤ q) s.heap H locs1 → W p l ev R s m args below meth c H locs1 cells slots Q (F0 m (pc + 3) lsA (v.toList ++ rest))) : W p l ev R s m args below meth c H locs cells slots Q (F0 m pc lsA st0) := by
  intro T hT X
  obtain ⟨v1, st₀, t, T', L', h0, X', hL, e1, e2, ⟨hv, hh⟩, st⟩ := hr T hT X
  have hv : v1 = v := by injection hv
  subst hv
  have hT1 : T'.heap = H := by rw [e1, hh, h0]
  have hS1 : va_S (fun q => B ≤ q) s.heap H (locs ++ L') := by
    refine ⟨hS.1, hS.2.1, fun q hq => ?_⟩
    rcases List.mem_append.mp hq with h | h
    · exact hS.2.2 q h
    · exact hL q h
  obtain ⟨t2, a1, b1⟩ := kk (locs ++ L') hS1 T' hT1 X'
  exact ⟨t2, st t2 a1, b1⟩
end ZSS
theorem d_len_0 : decode cJ0_length_8abf5 0 = .ok (.aload_n 0, 1) := by decide +kernel
theorem d_len_1 : decode cJ0_length_8abf5 1 = .ok (.getfield 9, 3) := by decide +kernel
theorem d_len_4 : decode cJ0_length_8abf5 4 = .ok (.arraylength, 1) := by decide +kernel
theorem d_len_5 : decode cJ0_length_8abf5 5 = .ok (.aload_n 0, 1) := by decide +kernel
theorem d_len_6 : decode cJ0_length_8abf5 6 = .ok (.invokevirtual 335, 3) := by decide +kernel
theorem d_len_9 : decode cJ0_length_8abf5 9 = .ok (.ishr, 1) := by decide +kernel
theorem d_len_10 : decode cJ0_length_8abf5 10 = .ok (.ireturn, 1) := by decide +kernel
theorem d_ch_0 : decode cJ0_charAt_5068e 0 = .ok (.aload_n 0, 1) := by decide +kernel
theorem d_ch_1 : decode cJ0_charAt_5068e 1 = .ok (.invokevirtual 492, 3) := by decide +kernel
theorem d_ch_4 : decode cJ0_charAt_5068e 4 = .ok (.ifCond .eq 12, 3) := by decide +kernel
theorem d_ch_7 : decode cJ0_charAt_5068e 7 = .ok (.aload_n 0, 1) := by decide +kernel
theorem d_ch_8 : decode cJ0_charAt_5068e 8 = .ok (.getfield 9, 3) := by decide +kernel
theorem d_ch_11 : decode cJ0_charAt_5068e 11 = .ok (.iload_n 1, 1) := by decide +kernel
theorem d_ch_12 : decode cJ0_charAt_5068e 12 = .ok (.invokestatic 495, 3) := by decide +kernel
theorem d_ch_15 : decode cJ0_charAt_5068e 15 = .ok (.ireturn, 1) := by decide +kernel
theorem d_ch_16 : decode cJ0_charAt_5068e 16 = .ok (.aload_n 0, 1) := by decide +kernel
theorem d_ch_17 : decode cJ0_charAt_5068e 17 = .ok (.getfield 9, 3) := by decide +kernel
theorem d_ch_20 : decode cJ0_charAt_5068e 20 = .ok (.iload_n 1, 1) := by decide +kernel
theorem d_ch_21 : decode cJ0_charAt_5068e 21 = .ok (.invokestatic 498, 3) := by decide +kernel
theorem d_ch_24 : decode cJ0_charAt_5068e 24 = .ok (.ireturn, 1) := by decide +kernel
theorem d_cod_0 : decode cJ0_coder_7d493 0 = .ok (.getstatic 38, 3) := by decide +kernel
theorem d_cod_3 : decode cJ0_coder_7d493 3 = .ok (.ifCond .eq 10, 3) := by decide +kernel
theorem d_cod_6 : decode cJ0_coder_7d493 6 = .ok (.aload_n 0, 1) := by decide +kernel
theorem d_cod_7 : decode cJ0_coder_7d493 7 = .ok (.getfield 15, 3) := by decide +kernel
theorem d_cod_10 : decode cJ0_coder_7d493 10 = .ok (.goto 4, 3) := by decide +kernel
theorem d_cod_13 : decode cJ0_coder_7d493 13 = .ok (.iconst 1, 1) := by decide +kernel
theorem d_cod_14 : decode cJ0_coder_7d493 14 = .ok (.ireturn, 1) := by decide +kernel
theorem d_lat_0 : decode cJ0_isLatin1_aae02 0 = .ok (.getstatic 38, 3) := by decide +kernel
theorem d_lat_3 : decode cJ0_isLatin1_aae02 3 = .ok (.ifCond .eq 14, 3) := by decide +kernel
theorem d_lat_6 : decode cJ0_isLatin1_aae02 6 = .ok (.aload_n 0, 1) := by decide +kernel
theorem d_lat_7 : decode cJ0_isLatin1_aae02 7 = .ok (.getfield 15, 3) := by decide +kernel
theorem d_lat_10 : decode cJ0_isLatin1_aae02 10 = .ok (.ifCond .ne 7, 3) := by decide +kernel
theorem d_lat_13 : decode cJ0_isLatin1_aae02 13 = .ok (.iconst 1, 1) := by decide +kernel
theorem d_lat_14 : decode cJ0_isLatin1_aae02 14 = .ok (.goto 4, 3) := by decide +kernel
theorem d_lat_17 : decode cJ0_isLatin1_aae02 17 = .ok (.iconst 0, 1) := by decide +kernel
theorem d_lat_18 : decode cJ0_isLatin1_aae02 18 = .ok (.ireturn, 1) := by decide +kernel
theorem d_ck_0 : decode cJ0_checkIndex_df160 0 = .ok (.iload_n 0, 1) := by decide +kernel
theorem d_ck_1 : decode cJ0_checkIndex_df160 1 = .ok (.iload_n 1, 1) := by decide +kernel
theorem d_ck_2 : decode cJ0_checkIndex_df160 2 = .ok (.getstatic 1053, 3) := by decide +kernel
theorem d_ck_5 : decode cJ0_checkIndex_df160 5 = .ok (.invokestatic 1059, 3) := by decide +kernel
theorem d_ck_8 : decode cJ0_checkIndex_df160 8 = .ok (.pop, 1) := by decide +kernel
theorem d_ck_9 : decode cJ0_checkIndex_df160 9 = .ok (.return_, 1) := by decide +kernel
theorem d_l1_0 : decode cJ1_charAt_3b067 0 = .ok (.iload_n 1, 1) := by decide +kernel
theorem d_l1_1 : decode cJ1_charAt_3b067 1 = .ok (.aload_n 0, 1) := by decide +kernel
theorem d_l1_2 : decode cJ1_charAt_3b067 2 = .ok (.arraylength, 1) := by decide +kernel
theorem d_l1_3 : decode cJ1_charAt_3b067 3 = .ok (.invokestatic 9, 3) := by decide +kernel
theorem d_l1_6 : decode cJ1_charAt_3b067 6 = .ok (.aload_n 0, 1) := by decide +kernel
theorem d_l1_7 : decode cJ1_charAt_3b067 7 = .ok (.iload_n 1, 1) := by decide +kernel
theorem d_l1_8 : decode cJ1_charAt_3b067 8 = .ok (.baload, 1) := by decide +kernel
theorem d_l1_9 : decode cJ1_charAt_3b067 9 = .ok (.sipush 255, 3) := by decide +kernel
theorem d_l1_12 : decode cJ1_charAt_3b067 12 = .ok (.iand, 1) := by decide +kernel
theorem d_l1_13 : decode cJ1_charAt_3b067 13 = .ok (.i2c, 1) := by decide +kernel
theorem d_l1_14 : decode cJ1_charAt_3b067 14 = .ok (.ireturn, 1) := by decide +kernel
theorem d_pk_0 : decode cJ3_checkIndex_8e157 0 = .ok (.iload_n 0, 1) := by decide +kernel
theorem d_pk_1 : decode cJ3_checkIndex_8e157 1 = .ok (.ifCond .lt 8, 3) := by decide +kernel
theorem d_pk_4 : decode cJ3_checkIndex_8e157 4 = .ok (.iload_n 0, 1) := by decide +kernel
theorem d_pk_5 : decode cJ3_checkIndex_8e157 5 = .ok (.iload_n 1, 1) := by decide +kernel
theorem d_pk_6 : decode cJ3_checkIndex_8e157 6 = .ok (.if_icmp .lt 10, 3) := by decide +kernel
theorem d_pk_9 : decode cJ3_checkIndex_8e157 9 = .ok (.aload_n 2, 1) := by decide +kernel
theorem d_pk_10 : decode cJ3_checkIndex_8e157 10 = .ok (.iload_n 0, 1) := by decide +kernel
theorem d_pk_11 : decode cJ3_checkIndex_8e157 11 = .ok (.iload_n 1, 1) := by decide +kernel
theorem d_pk_12 : decode cJ3_checkIndex_8e157 12 = .ok (.invokestatic 95, 3) := by decide +kernel
theorem d_pk_15 : decode cJ3_checkIndex_8e157 15 = .ok (.athrow, 1) := by decide +kernel
theorem d_pk_16 : decode cJ3_checkIndex_8e157 16 = .ok (.iload_n 0, 1) := by decide +kernel
theorem d_pk_17 : decode cJ3_checkIndex_8e157 17 = .ok (.ireturn, 1) := by decide +kernel
set_option maxHeartbeats 1000000 in
theorem zsc_coder {l : Launch} {B : Nat} {ext adV : Nat → Nat} {i : Nat} (hi : i < 2) : Met l yJ0_coder_7d493 (.code yJ0_coder_7d493 cJ0_coder_7d493 1 (some .byte) :: zTb) { frames := 1, cells := 0, slots := 0, locals := 100 } (va_Pc [.ref (ext (1000000 + i))] (fun U => zJw B ext adV U U.heap)) (zQs (some (.int 0))) 0 0 (fun q => B ≤ q) := by
  refine Met.ofW (cc := cJ0_coder_7d493) (maxL := 1) (ret := some .byte) (by decide) rfl ?_
  intro p e s m args below meth c s₁ B0 hml hv
  obtain ⟨rfl, hE, hZ, hZq⟩ := hv
  have hts0 := atoms_spec (ws := .code yJ0_coder_7d493 cJ0_coder_7d493 1 (some .byte) :: zTb) B0.pre
  have hts : ∀ w ∈ zTb, w.before ([.ref (ext (1000000 + i))] : List Value).toArray s = true := fun w hw => hts0 w (List.mem_cons_of_mem _ hw)
  have hown : s.vm.findClass RJ0 = some m.cls := findClass_of_methodNamed B0.named
  have hx := B0.exec
  have hb := B0.bytes
  have hr := B0.returns
  have hlocks := B0.notSynchronized
  have hl := lv_entry [.ref (ext (1000000 + i))] (n := 1) (Nat.le_of_ble_eq_true rfl)
  rw [lg_entry_eq]
  generalize (lg_sl [.ref (ext (1000000 + i))] ++ List.replicate (1 - (lg_sl [.ref (ext (1000000 + i))]).length) Slot.unset).toArray = ls at hl ⊢
  have hl : lv_has ls 1 [(0, .ref (ext (1000000 + i)))] := hl
  refine va_gets (ref := "java/lang/String") hx hb hZ va_S.rf hown (hts _ (zJw_in (List.mem_of_getElem? (i := 7) rfl))) (fun _ h => h) (d_cod_0) ?_
  refine lv_if_eq (tgt := 13) hx hb (d_cod_3) (by decide) (fun h => absurd h (by decide)) (fun _ => ?_)
  refine lv_aload_n hx hb (d_cod_6) rfl (lv_at hl 0 rfl) ?_
  refine vk_getf (ref := "java/lang/String") hx hb (hE.1 i hi).2.1 va_S.rf hown (hts _ (zJw_in (List.mem_of_getElem? (i := 8) rfl))) (fun _ h => h) (d_cod_7) ?_
  refine lv_goto (tgt := 14) hx hb (d_cod_10) (by decide) ?_
  exact W.zret hx hb hr rfl (fun t ht _ => ⟨rfl, ht⟩) (fun _ h => by cases h) (d_cod_14) hlocks
set_option maxHeartbeats 1000000 in
theorem zsc_lat {l : Launch} {B : Nat} {ext adV : Nat → Nat} {i : Nat} (hi : i < 2) : Met l yJ0_isLatin1_aae02 (.code yJ0_isLatin1_aae02 cJ0_isLatin1_aae02 1 (some .boolean) :: zTb) { frames := 1, cells := 0, slots := 0, locals := 100 } (va_Pc [.ref (ext (1000000 + i))] (fun U => zJw B ext adV U U.heap)) (zQs (some (.int 1))) 0 0 (fun q => B ≤ q) := by
  refine Met.ofW (cc := cJ0_isLatin1_aae02) (maxL := 1) (ret := some .boolean) (by decide) rfl ?_
  intro p e s m args below meth c s₁ B0 hml hv
  obtain ⟨rfl, hE, hZ, hZq⟩ := hv
  have hts0 := atoms_spec (ws := .code yJ0_isLatin1_aae02 cJ0_isLatin1_aae02 1 (some .boolean) :: zTb) B0.pre
  have hts : ∀ w ∈ zTb, w.before ([.ref (ext (1000000 + i))] : List Value).toArray s = true := fun w hw => hts0 w (List.mem_cons_of_mem _ hw)
  have hown : s.vm.findClass RJ0 = some m.cls := findClass_of_methodNamed B0.named
  have hx := B0.exec
  have hb := B0.bytes
  have hr := B0.returns
  have hlocks := B0.notSynchronized
  have hl := lv_entry [.ref (ext (1000000 + i))] (n := 1) (Nat.le_of_ble_eq_true rfl)
  rw [lg_entry_eq]
  generalize (lg_sl [.ref (ext (1000000 + i))] ++ List.replicate (1 - (lg_sl [.ref (ext (1000000 + i))]).length) Slot.unset).toArray = ls at hl ⊢
  have hl : lv_has ls 1 [(0, .ref (ext (1000000 + i)))] := hl
  refine va_gets (ref := "java/lang/String") hx hb hZ va_S.rf hown (hts _ (zJw_in (List.mem_of_getElem? (i := 7) rfl))) (fun _ h => h) (d_lat_0) ?_
  refine lv_if_eq (tgt := 17) hx hb (d_lat_3) (by decide) (fun h => absurd h (by decide)) (fun _ => ?_)
  refine lv_aload_n hx hb (d_lat_6) rfl (lv_at hl 0 rfl) ?_
  refine vk_getf (ref := "java/lang/String") hx hb (hE.1 i hi).2.1 va_S.rf hown (hts _ (zJw_in (List.mem_of_getElem? (i := 8) rfl))) (fun _ h => h) (d_lat_7) ?_
  refine lv_if_ne (tgt := 17) hx hb (d_lat_10) (by decide) (fun h => absurd rfl h) (fun _ => ?_)
  refine lv_iconst (v := 1) hx hb (d_lat_13) rfl ?_
  refine lv_goto (tgt := 18) hx hb (d_lat_14) (by decide) ?_
  exact W.zret hx hb hr rfl (fun t ht _ => ⟨rfl, ht⟩) (fun _ h => by cases h) (d_lat_18) hlocks
theorem zInLt {k : Int32} {n : Nat} (h : vp_in k n) (hn : n < 100) : ¬ k < 0 ∧ k < Int32.ofNat n := by
  have h1 : ¬ k < 0 := fun q => h (Or.inl q)
  have h2 : k.toNatClampNeg < n := Nat.not_le.mp fun q => h (Or.inr q)
  refine ⟨h1, ?_⟩
  rw [Int32.lt_iff_toInt_lt, Int32.toInt_ofNat_of_lt (by omega)]
  have h3 : k.toNatClampNeg = k.toInt.toNat := rfl
  omega
set_option maxHeartbeats 1000000 in
theorem zsc_pkN {l : Launch} {B : Nat} {k : Int32} {n : Nat} (hin : vp_in k n) (hn : n < 100) : Met l yJ3_checkIndex_8e157 (.code yJ3_checkIndex_8e157 cJ3_checkIndex_8e157 3 (some .int) :: zTb) { frames := 1, cells := 0, slots := 0, locals := 100 } (va_Pc [.int k, .int (Int32.ofNat n), .null] (fun U => True)) (zQs (some (.int k))) 0 0 (fun q => B ≤ q) := by
  refine Met.ofW (cc := cJ3_checkIndex_8e157) (maxL := 3) (ret := some .int) (by decide) rfl ?_
  intro p e s m args below meth c s₁ B0 hml hv
  obtain ⟨rfl, -⟩ := hv
  have hts0 := atoms_spec (ws := .code yJ3_checkIndex_8e157 cJ3_checkIndex_8e157 3 (some .int) :: zTb) B0.pre
  have hts : ∀ w ∈ zTb, w.before ([.int k, .int (Int32.ofNat n), .null] : List Value).toArray s = true := fun w hw => hts0 w (List.mem_cons_of_mem _ hw)
  have hown : s.vm.findClass RJ3 = some m.cls := findClass_of_methodNamed B0.named
  have hx := B0.exec
  have hb := B0.bytes
  have hr := B0.returns
  have hlocks := B0.notSynchronized
  have hl := lv_entry [.int k, .int (Int32.ofNat n), .null] (n := 3) (Nat.le_of_ble_eq_true rfl)
  rw [lg_entry_eq]
  generalize (lg_sl [.int k, .int (Int32.ofNat n), .null] ++ List.replicate (3 - (lg_sl [.int k, .int (Int32.ofNat n), .null]).length) Slot.unset).toArray = ls at hl ⊢
  have hl : lv_has ls 3 [(0, .int k), (1, .int (Int32.ofNat n)), (2, .null)] := hl
  obtain ⟨h1, h2⟩ := zInLt hin hn
  refine lv_iload_n hx hb (d_pk_0) rfl (lv_at hl 0 rfl) ?_
  refine lv_if_lt (tgt := 9) hx hb (d_pk_1) (by decide) (fun h => absurd h h1) (fun _ => ?_)
  refine lv_iload_n hx hb (d_pk_4) rfl (lv_at hl 0 rfl) ?_
  refine lv_iload_n hx hb (d_pk_5) rfl (lv_at hl 1 rfl) ?_
  refine lv_icmp_lt (tgt := 16) hx hb (d_pk_6) (by decide) (fun _ => ?_) (fun h => absurd h2 h)
  refine lv_iload_n hx hb (d_pk_16) rfl (lv_at hl 0 rfl) ?_
  exact W.iret hx hb hr (fun t ht _ => ⟨rfl, ht⟩) (fun _ h => by cases h) (d_pk_17) hlocks
set_option maxHeartbeats 1000000 in
theorem zsc_pkR {l : Launch} {B : Nat} {k : Int32} {n t : Nat} (hin : vp_in k n) (hn : n < 100) : Met l yJ3_checkIndex_8e157 (.code yJ3_checkIndex_8e157 cJ3_checkIndex_8e157 3 (some .int) :: zTb) { frames := 1, cells := 0, slots := 0, locals := 100 } (va_Pc [.int k, .int (Int32.ofNat n), .ref t] (fun U => True)) (zQs (some (.int k))) 0 0 (fun q => B ≤ q) := by
  refine Met.ofW (cc := cJ3_checkIndex_8e157) (maxL := 3) (ret := some .int) (by decide) rfl ?_
  intro p e s m args below meth c s₁ B0 hml hv
  obtain ⟨rfl, -⟩ := hv
  have hts0 := atoms_spec (ws := .code yJ3_checkIndex_8e157 cJ3_checkIndex_8e157 3 (some .int) :: zTb) B0.pre
  have hts : ∀ w ∈ zTb, w.before ([.int k, .int (Int32.ofNat n), .ref t] : List Value).toArray s = true := fun w hw => hts0 w (List.mem_cons_of_mem _ hw)
  have hown : s.vm.findClass RJ3 = some m.cls := findClass_of_methodNamed B0.named
  have hx := B0.exec
  have hb := B0.bytes
  have hr := B0.returns
  have hlocks := B0.notSynchronized
  have hl := lv_entry [.int k, .int (Int32.ofNat n), .ref t] (n := 3) (Nat.le_of_ble_eq_true rfl)
  rw [lg_entry_eq]
  generalize (lg_sl [.int k, .int (Int32.ofNat n), .ref t] ++ List.replicate (3 - (lg_sl [.int k, .int (Int32.ofNat n), .ref t]).length) Slot.unset).toArray = ls at hl ⊢
  have hl : lv_has ls 3 [(0, .int k), (1, .int (Int32.ofNat n)), (2, .ref t)] := hl
  obtain ⟨h1, h2⟩ := zInLt hin hn
  refine lv_iload_n hx hb (d_pk_0) rfl (lv_at hl 0 rfl) ?_
  refine lv_if_lt (tgt := 9) hx hb (d_pk_1) (by decide) (fun h => absurd h h1) (fun _ => ?_)
  refine lv_iload_n hx hb (d_pk_4) rfl (lv_at hl 0 rfl) ?_
  refine lv_iload_n hx hb (d_pk_5) rfl (lv_at hl 1 rfl) ?_
  refine lv_icmp_lt (tgt := 16) hx hb (d_pk_6) (by decide) (fun _ => ?_) (fun h => absurd h2 h)
  refine lv_iload_n hx hb (d_pk_16) rfl (lv_at hl 0 rfl) ?_
  exact W.iret hx hb hr (fun t ht _ => ⟨rfl, ht⟩) (fun _ h => by cases h) (d_pk_17) hlocks
set_option maxHeartbeats 1000000 in
theorem zsc_ck {l : Launch} {B : Nat} {ext adV : Nat → Nat} {k : Int32} {n : Nat} (hin : vp_in k n) (hn : n < 100) : Met l yJ0_checkIndex_df160 (.code yJ0_checkIndex_df160 cJ0_checkIndex_df160 2 none :: zTb) { frames := 3, cells := 0, slots := 0, locals := 200 } (va_Pc [.int k, .int (Int32.ofNat n)] (fun U => zJw B ext adV U U.heap)) (zQs (none)) 0 0 (fun q => B ≤ q) := by
  refine Met.ofW (cc := cJ0_checkIndex_df160) (maxL := 2) (ret := none) (by decide) rfl ?_
  intro p e s m args below meth c s₁ B0 hml hv
  obtain ⟨rfl, hE, hZ, hZq⟩ := hv
  have hts0 := atoms_spec (ws := .code yJ0_checkIndex_df160 cJ0_checkIndex_df160 2 none :: zTb) B0.pre
  have hts : ∀ w ∈ zTb, w.before ([.int k, .int (Int32.ofNat n)] : List Value).toArray s = true := fun w hw => hts0 w (List.mem_cons_of_mem _ hw)
  have hown : s.vm.findClass RJ0 = some m.cls := findClass_of_methodNamed B0.named
  have hx := B0.exec
  have hb := B0.bytes
  have hr := B0.returns
  have hlocks := B0.notSynchronized
  have hl := lv_entry [.int k, .int (Int32.ofNat n)] (n := 2) (Nat.le_of_ble_eq_true rfl)
  rw [lg_entry_eq]
  generalize (lg_sl [.int k, .int (Int32.ofNat n)] ++ List.replicate (2 - (lg_sl [.int k, .int (Int32.ofNat n)]).length) Slot.unset).toArray = ls at hl ⊢
  have hl : lv_has ls 2 [(0, .int k), (1, .int (Int32.ofNat n))] := hl
  refine lv_iload_n hx hb (d_ck_0) rfl (lv_at hl 0 rfl) ?_
  refine lv_iload_n hx hb (d_ck_1) rfl (lv_at hl 1 rfl) ?_
  rcases hZq with hZq | ⟨t, hZq⟩
  · refine va_gets (ref := "jdk/internal/util/Preconditions") hx hb hZq va_S.rf hown (hts _ (zJw_in (List.mem_of_getElem? (i := 10) rfl))) (fun _ h => h) (d_ck_2) ?_
    refine zContS (va_runS (As := [.int k, .int (Int32.ofNat n), .null]) (rest := []) ⟨hx, hb, hml, hown, hts⟩ (zsc_pkN (B := B) hin hn) (va_cwS 3 hts (zGoodS (zJw_in (List.mem_of_getElem? (i := 15) rfl)) (zJw_in (List.mem_of_getElem? (i := 30) rfl)) (zJw_in (List.mem_of_getElem? (i := 33) rfl)) (zJw_in (List.mem_of_getElem? (i := 6) rfl))) rfl rfl rfl ⟨by decide, by decide, by decide +kernel⟩ ⟨Nat.le_of_ble_eq_true rfl, Nat.le_of_ble_eq_true rfl⟩) ⟨zNo_blind, (fun U hU hW => ⟨rfl, trivial⟩)⟩ rfl rfl hl.1 rfl (lv_room (Nat.le_of_ble_eq_true rfl)) (d_ck_5) ⟨Nat.le_of_ble_eq_true rfl, Nat.le_of_ble_eq_true rfl⟩) va_S.rf (fun locs1 hS1 => ?_)
    refine lv_pop (va := .int k) hx hb (d_ck_8) rfl ?_
    exact W.vret hx hb hr (fun t ht _ => ⟨rfl, ht⟩) hS1.2.2 (d_ck_9) hlocks
  · refine va_gets (ref := "jdk/internal/util/Preconditions") hx hb hZq va_S.rf hown (hts _ (zJw_in (List.mem_of_getElem? (i := 10) rfl))) (fun _ h => h) (d_ck_2) ?_
    refine zContS (va_runS (As := [.int k, .int (Int32.ofNat n), .ref t]) (rest := []) ⟨hx, hb, hml, hown, hts⟩ (zsc_pkR (B := B) hin hn) (va_cwS 3 hts (zGoodS (zJw_in (List.mem_of_getElem? (i := 15) rfl)) (zJw_in (List.mem_of_getElem? (i := 30) rfl)) (zJw_in (List.mem_of_getElem? (i := 33) rfl)) (zJw_in (List.mem_of_getElem? (i := 6) rfl))) rfl rfl rfl ⟨by decide, by decide, by decide +kernel⟩ ⟨Nat.le_of_ble_eq_true rfl, Nat.le_of_ble_eq_true rfl⟩) ⟨zNo_blind, (fun U hU hW => ⟨rfl, trivial⟩)⟩ rfl rfl hl.1 rfl (lv_room (Nat.le_of_ble_eq_true rfl)) (d_ck_5) ⟨Nat.le_of_ble_eq_true rfl, Nat.le_of_ble_eq_true rfl⟩) va_S.rf (fun locs1 hS1 => ?_)
    refine lv_pop (va := .int k) hx hb (d_ck_8) rfl ?_
    exact W.vret hx hb hr (fun t ht _ => ⟨rfl, ht⟩) hS1.2.2 (d_ck_9) hlocks
set_option maxHeartbeats 1000000 in
theorem zsc_l1 {l : Launch} {B : Nat} {ext adV : Nat → Nat} {i : Nat} {k : Int32} (hi : i < 2) (hin : vp_in k (zStr i).length) : Met l yJ1_charAt_3b067 (.code yJ1_charAt_3b067 cJ1_charAt_3b067 2 (some .char) :: zTb) { frames := 5, cells := 0, slots := 0, locals := 300 } (va_Pc [.ref (adV i), .int k] (fun U => zJw B ext adV U U.heap)) (zQs (some (.int (Int32.ofNat ((zStr i).getD k.toNatClampNeg 0))))) 0 0 (fun q => B ≤ q) := by
  refine Met.ofW (cc := cJ1_charAt_3b067) (maxL := 2) (ret := some .char) (by decide) rfl ?_
  intro p e s m args below meth c s₁ B0 hml hv
  obtain ⟨rfl, hSw⟩ := hv
  have hts0 := atoms_spec (ws := .code yJ1_charAt_3b067 cJ1_charAt_3b067 2 (some .char) :: zTb) B0.pre
  have hts : ∀ w ∈ zTb, w.before ([.ref (adV i), .int k] : List Value).toArray s = true := fun w hw => hts0 w (List.mem_cons_of_mem _ hw)
  have hown : s.vm.findClass RJ1 = some m.cls := findClass_of_methodNamed B0.named
  have hx := B0.exec
  have hb := B0.bytes
  have hr := B0.returns
  have hlocks := B0.notSynchronized
  have hl := lv_entry [.ref (adV i), .int k] (n := 2) (Nat.le_of_ble_eq_true rfl)
  rw [lg_entry_eq]
  generalize (lg_sl [.ref (adV i), .int k] ++ List.replicate (2 - (lg_sl [.ref (adV i), .int k]).length) Slot.unset).toArray = ls at hl ⊢
  have hl : lv_has ls 2 [(0, .ref (adV i)), (1, .int k)] := hl
  have hE := hSw.1
  obtain ⟨z1, z2⟩ := zStrL i hi
  have hT : va_T .byte (adV i) (zStr i).length (fun j => .int ((zBytS.getD i []).getD j 0)) (fun q => B ≤ q) s s.heap := by
    rw [← z1]
    exact (hE.1 i hi).2.2.2
  have hk : k.toNatClampNeg < (zStr i).length := Nat.not_le.mp fun q => hin (Or.inr q)
  obtain ⟨z3, z4⟩ := zStrC i hi _ hk
  have hS : va_S (fun q => B ≤ q) s.heap s.heap [] := va_S.rf
  refine lv_iload_n hx hb (d_l1_0) rfl (lv_at hl 1 rfl) ?_
  refine lv_aload_n hx hb (d_l1_1) rfl (lv_at hl 0 rfl) ?_
  refine va_tlen hx hb hT va_S.rf rfl (d_l1_2) ?_
  refine zContS (va_runS (As := [.int k, .int (Int32.ofNat (zStr i).length)]) (rest := []) ⟨hx, hb, hml, hown, hts⟩ (zsc_ck (B := B) (ext := ext) (adV := adV) hin z2) (va_cwS 2 hts (zGoodS (zJw_in (List.mem_of_getElem? (i := 14) rfl)) (zJw_in (List.mem_of_getElem? (i := 29) rfl)) (zJw_in (List.mem_of_getElem? (i := 31) rfl)) (zJw_in (List.mem_of_getElem? (i := 4) rfl))) rfl rfl rfl ⟨by decide, by decide, by decide +kernel⟩ ⟨Nat.le_of_ble_eq_true rfl, Nat.le_of_ble_eq_true rfl⟩) ⟨zJw_blind, (fun U hU hW => ⟨rfl, by show zJw B ext adV U U.heap; rw [hU]; exact (zJw.moved hW.alike hSw).kept hS.2.1⟩)⟩ rfl rfl hl.1 rfl (lv_room (Nat.le_of_ble_eq_true rfl)) (d_l1_3) ⟨Nat.le_of_ble_eq_true rfl, Nat.le_of_ble_eq_true rfl⟩) hS (fun locs1 hS1 => ?_)
  refine lv_aload_n hx hb (d_l1_6) rfl (lv_at hl 0 rfl) ?_
  refine lv_iload_n hx hb (d_l1_7) rfl (lv_at hl 1 rfl) ?_
  refine va_tb hx hb hT hS1 hin rfl (d_l1_8) ?_
  refine lv_sipush (v := 255) hx hb (d_l1_9) rfl ?_
  refine lv_iand hx hb (d_l1_12) ?_
  refine lv_i2c hx hb (d_l1_13) z3 ?_
  exact W.zret hx hb hr (zNarC _ z4) (fun t ht _ => ⟨rfl, ht⟩) hS1.2.2 (d_l1_14) hlocks
set_option maxHeartbeats 1000000 in
theorem zsc_len {l : Launch} {B : Nat} {ext adV : Nat → Nat} {i : Nat} (hi : i < 2) : Met l yJ0_length_8abf5 (.code yJ0_length_8abf5 cJ0_length_8abf5 1 (some .int) :: zTb) { frames := 3, cells := 0, slots := 0, locals := 200 } (va_Pc [.ref (ext (1000000 + i))] (fun U => zJw B ext adV U U.heap)) (zQs (some (.int (Int32.ofNat (zStr i).length)))) 0 0 (fun q => B ≤ q) := by
  refine Met.ofW (cc := cJ0_length_8abf5) (maxL := 1) (ret := some .int) (by decide) rfl ?_
  intro p e s m args below meth c s₁ B0 hml hv
  obtain ⟨rfl, hSw⟩ := hv
  have hts0 := atoms_spec (ws := .code yJ0_length_8abf5 cJ0_length_8abf5 1 (some .int) :: zTb) B0.pre
  have hts : ∀ w ∈ zTb, w.before ([.ref (ext (1000000 + i))] : List Value).toArray s = true := fun w hw => hts0 w (List.mem_cons_of_mem _ hw)
  have hown : s.vm.findClass RJ0 = some m.cls := findClass_of_methodNamed B0.named
  have hx := B0.exec
  have hb := B0.bytes
  have hr := B0.returns
  have hlocks := B0.notSynchronized
  have hl := lv_entry [.ref (ext (1000000 + i))] (n := 1) (Nat.le_of_ble_eq_true rfl)
  rw [lg_entry_eq]
  generalize (lg_sl [.ref (ext (1000000 + i))] ++ List.replicate (1 - (lg_sl [.ref (ext (1000000 + i))]).length) Slot.unset).toArray = ls at hl ⊢
  have hl : lv_has ls 1 [(0, .ref (ext (1000000 + i)))] := hl
  have hE := hSw.1
  obtain ⟨z1, z2⟩ := zStrL i hi
  have hT : va_T .byte (adV i) (zStr i).length (fun j => .int ((zBytS.getD i []).getD j 0)) (fun q => B ≤ q) s s.heap := by
    rw [← z1]
    exact (hE.1 i hi).2.2.2
  have hS : va_S (fun q => B ≤ q) s.heap s.heap [] := va_S.rf
  refine lv_aload_n hx hb (d_len_0) rfl (lv_at hl 0 rfl) ?_
  refine vk_getf (ref := "java/lang/String") hx hb (hE.1 i hi).2.2.1 va_S.rf hown (hts _ (zJw_in (List.mem_of_getElem? (i := 9) rfl))) (fun _ h => h) (d_len_1) ?_
  refine va_tlen hx hb hT va_S.rf rfl (d_len_4) ?_
  refine lv_aload_n hx hb (d_len_5) rfl (lv_at hl 0 rfl) ?_
  refine zContS (va_runV (C := RJ0) (As := []) (rest := [.int (Int32.ofNat (zStr i).length)]) ⟨hx, hb, hml, hown, hts⟩ (zsc_coder (B := B) (ext := ext) (adV := adV) hi) (cwV 0 hts (zGoodV (zJw_in (List.mem_of_getElem? (i := 11) rfl)) (zJw_in (List.mem_of_getElem? (i := 24) rfl)) (zJw_in (List.mem_of_getElem? (i := 25) rfl)) (zJw_in (List.mem_of_getElem? (i := 31) rfl)) (zJw_in (List.mem_of_getElem? (i := 2) rfl))) rfl rfl rfl ⟨rfl, ⟨by decide, by decide, by decide +kernel⟩⟩ ⟨Nat.le_of_ble_eq_true rfl, Nat.le_of_ble_eq_true rfl⟩) ⟨zJw_blind, (vk_recv (adK := fun i => ext (1000000 + i)) hE hi hS), (fun U hU hW => ⟨rfl, by show zJw B ext adV U U.heap; rw [hU]; exact (zJw.moved hW.alike hSw).kept hS.2.1⟩)⟩ rfl rfl hl.1 rfl (lv_room (Nat.le_of_ble_eq_true rfl)) (d_len_6) ⟨Nat.le_of_ble_eq_true rfl, Nat.le_of_ble_eq_true rfl⟩) hS (fun locs1 hS1 => ?_)
  refine lv_ishr hx hb (d_len_9) ?_
  rw [zShr0 _ z2]
  exact W.iret hx hb hr (fun t ht _ => ⟨rfl, ht⟩) hS1.2.2 (d_len_10) hlocks
set_option maxHeartbeats 1000000 in
theorem zsc_ch {l : Launch} {B : Nat} {ext adV : Nat → Nat} {i : Nat} {k : Int32} (hi : i < 2) (hin : vp_in k (zStr i).length) : Met l yJ0_charAt_5068e (.code yJ0_charAt_5068e cJ0_charAt_5068e 2 (some .char) :: zTb) { frames := 7, cells := 0, slots := 0, locals := 400 } (va_Pc [.ref (ext (1000000 + i)), .int k] (fun U => zJw B ext adV U U.heap)) (zQs (some (.int (Int32.ofNat ((zStr i).getD k.toNatClampNeg 0))))) 0 0 (fun q => B ≤ q) := by
  refine Met.ofW (cc := cJ0_charAt_5068e) (maxL := 2) (ret := some .char) (by decide) rfl ?_
  intro p e s m args below meth c s₁ B0 hml hv
  obtain ⟨rfl, hSw⟩ := hv
  have hts0 := atoms_spec (ws := .code yJ0_charAt_5068e cJ0_charAt_5068e 2 (some .char) :: zTb) B0.pre
  have hts : ∀ w ∈ zTb, w.before ([.ref (ext (1000000 + i)), .int k] : List Value).toArray s = true := fun w hw => hts0 w (List.mem_cons_of_mem _ hw)
  have hown : s.vm.findClass RJ0 = some m.cls := findClass_of_methodNamed B0.named
  have hx := B0.exec
  have hb := B0.bytes
  have hr := B0.returns
  have hlocks := B0.notSynchronized
  have hl := lv_entry [.ref (ext (1000000 + i)), .int k] (n := 2) (Nat.le_of_ble_eq_true rfl)
  rw [lg_entry_eq]
  generalize (lg_sl [.ref (ext (1000000 + i)), .int k] ++ List.replicate (2 - (lg_sl [.ref (ext (1000000 + i)), .int k]).length) Slot.unset).toArray = ls at hl ⊢
  have hl : lv_has ls 2 [(0, .ref (ext (1000000 + i))), (1, .int k)] := hl
  have hE := hSw.1
  have hk : k.toNatClampNeg < (zStr i).length := Nat.not_le.mp fun q => hin (Or.inr q)
  obtain ⟨z3, z4⟩ := zStrC i hi _ hk
  have hS : va_S (fun q => B ≤ q) s.heap s.heap [] := va_S.rf
  refine lv_aload_n hx hb (d_ch_0) rfl (lv_at hl 0 rfl) ?_
  refine zContS (va_runV (C := RJ0) (As := []) (rest := []) ⟨hx, hb, hml, hown, hts⟩ (zsc_lat (B := B) (ext := ext) (adV := adV) hi) (cwV 0 hts (zGoodV (zJw_in (List.mem_of_getElem? (i := 12) rfl)) (zJw_in (List.mem_of_getElem? (i := 26) rfl)) (zJw_in (List.mem_of_getElem? (i := 27) rfl)) (zJw_in (List.mem_of_getElem? (i := 31) rfl)) (zJw_in (List.mem_of_getElem? (i := 3) rfl))) rfl rfl rfl ⟨rfl, ⟨by decide, by decide, by decide +kernel⟩⟩ ⟨Nat.le_of_ble_eq_true rfl, Nat.le_of_ble_eq_true rfl⟩) ⟨zJw_blind, (vk_recv (adK := fun i => ext (1000000 + i)) hE hi hS), (fun U hU hW => ⟨rfl, by show zJw B ext adV U U.heap; rw [hU]; exact (zJw.moved hW.alike hSw).kept hS.2.1⟩)⟩ rfl rfl hl.1 rfl (lv_room (Nat.le_of_ble_eq_true rfl)) (d_ch_1) ⟨Nat.le_of_ble_eq_true rfl, Nat.le_of_ble_eq_true rfl⟩) hS (fun locs1 hS => ?_)
  refine lv_if_eq (tgt := 16) hx hb (d_ch_4) (by decide) (fun h => absurd h (by decide)) (fun _ => ?_)
  refine lv_aload_n hx hb (d_ch_7) rfl (lv_at hl 0 rfl) ?_
  refine vk_getf (ref := "java/lang/String") hx hb (hE.1 i hi).2.2.1 hS hown (hts _ (zJw_in (List.mem_of_getElem? (i := 9) rfl))) (fun _ h => h) (d_ch_8) ?_
  refine lv_iload_n hx hb (d_ch_11) rfl (lv_at hl 1 rfl) ?_
  refine zContS (va_runS (As := [.ref (adV i), .int k]) (rest := []) ⟨hx, hb, hml, hown, hts⟩ (zsc_l1 (B := B) (ext := ext) (adV := adV) hi hin) (va_cwS 2 hts (zGoodS (zJw_in (List.mem_of_getElem? (i := 13) rfl)) (zJw_in (List.mem_of_getElem? (i := 28) rfl)) (zJw_in (List.mem_of_getElem? (i := 32) rfl)) (zJw_in (List.mem_of_getElem? (i := 5) rfl))) rfl rfl rfl ⟨by decide, by decide, by decide +kernel⟩ ⟨Nat.le_of_ble_eq_true rfl, Nat.le_of_ble_eq_true rfl⟩) ⟨zJw_blind, (fun U hU hW => ⟨rfl, by show zJw B ext adV U U.heap; rw [hU]; exact (zJw.moved hW.alike hSw).kept hS.2.1⟩)⟩ rfl rfl hl.1 rfl (lv_room (Nat.le_of_ble_eq_true rfl)) (d_ch_12) ⟨Nat.le_of_ble_eq_true rfl, Nat.le_of_ble_eq_true rfl⟩) hS (fun locs1 hS1 => ?_)
  exact W.zret hx hb hr (zNarC _ z4) (fun t ht _ => ⟨rfl, ht⟩) hS1.2.2 (d_ch_15) hlocks
section ZS
variable {p : Program} {l : Launch} {ev : Env} {R : Room} {s : State} {m : MethodId} {args : Array Value} {below : List Frame} {meth : Method} {c : Code} {Q : State → Prop}
variable {cc : ByteArray} {own nL : Nat} {ret : Option FieldType} {init : Bool} {cd : List zE} {B : Nat} {D : va_G} {cA : Nat → ClassId} {ext : Nat → Nat} {L : Nat} {xs : Nat → Int32} {d : Nat} {Rr : zOr}
variable {L0 S0 : Nat} {μF : zM} {H : Heap} {locs : List Loc} {cells slots : Nat}
theorem zc_ext {i : Nat} : zc B ext (.ref (1000000 + i)) = .ref (ext (1000000 + i)) := by
  show Value.ref (if 1000000 + i < 1000000 then B + (1000000 + i) else ext (1000000 + i)) = _
  rw [if_neg (by omega)]
theorem zStrA {a : Nat} (h : a = 1000000 ∨ a = 1000001) : ∃ i, i < 2 ∧ a = 1000000 + i := by
  rcases h with h | h
  · exact ⟨0, by omega, h⟩
  · exact ⟨1, by omega, h⟩
set_option maxHeartbeats 1000000 in
theorem zs_string {n pc x y : Nat} {w : Int32} : zOne p l ev R s m args below meth c Q cc own nL ret init cd B D cA ext L xs d Rr μF L0 S0 (pc, .invokevirtual n, x, y, w, []) := by
  intro C hR ip ls st μ H locs lsA cells slots K Z hd hn0 ho h hI hS hl hc hs hF hFs hle hk hz
  obtain ⟨hx, hb, hml, hown, hts, hK, hX, hch, hin, hfr, hlo⟩ := C
  have hn : zPc cd (ip + 1) = pc + 3 := hn0 rfl
  replace ho : ((x == 0 && ((own == 11 && n == 84) || (own == 7 && n == 82))) || (x == 1 && ((own == 11 && n == 90) || (own == 7 && n == 88)))) = true := ho
  simp only [Bool.or_eq_true, Bool.and_eq_true, beq_iff_eq] at ho
  simp only [zStep] at h
  obtain ⟨-, -, -, -, -, -, -, -, adV, hE, hZ, hZq⟩ := hX
  have hSw : zJw B ext adV s s.heap := ⟨hE, hZ, hZq⟩
  split at h
  · rename_i a st
    split at h
    · rename_i hcond
      obtain ⟨h1, hst⟩ := hcond
      obtain ⟨i, hi, rfl⟩ := zStrA h1
      rw [show 1000000 + i - 1000000 = i by omega] at h
      have hlk : Cond.methodLink (zRn own) n yJ0_length_8abf5 ∈ zTb := by
        rcases ho with ⟨-, ⟨rfl, rfl⟩ | ⟨rfl, rfl⟩⟩ | ⟨h0, -⟩
        · exact (zJw_in (List.mem_of_getElem? (i := 16) rfl))
        · exact (zJw_in (List.mem_of_getElem? (i := 18) rfl))
        · cases h0
      have f1 : cells ≤ R.cells := by have := (hle _ _ _ _ h).1; omega
      have f2 : slots ≤ R.slots := by have := (hle _ _ _ _ h).2; omega
      rw [List.map_cons, zc_ext]
      refine zContS (va_runV (C := RJ0) (As := []) (rest := st.map (zc B ext)) ⟨hx, hb, hml, hown, hts⟩ (zsc_len (B := B) (ext := ext) (adV := adV) hi) (cwV 0 hts (zGoodV hlk (zJw_in (List.mem_of_getElem? (i := 20) rfl)) (zJw_in (List.mem_of_getElem? (i := 21) rfl)) (zJw_in (List.mem_of_getElem? (i := 31) rfl)) (zJw_in (List.mem_of_getElem? (i := 0) rfl))) rfl rfl rfl ⟨rfl, ⟨by decide, by decide, by decide +kernel⟩⟩ ⟨by show 3 + 1 ≤ R.frames; omega, by show 8 + (1 + 11) + 200 ≤ R.locals; omega⟩) ⟨zJw_blind, vk_recv (adK := fun i => ext (1000000 + i)) hE hi hS, fun U hU hW => ⟨rfl, by show zJw B ext adV U U.heap; rw [hU]; exact (zJw.moved hW.alike hSw).kept hS.2.1⟩⟩ rfl rfl hl.1 rfl (lv_room (zRm hst)) hd ⟨f1, f2⟩) hS fun locs1 hS1 => ?_
      have hw := hk _ _ _ _ _ _ _ _ _ h hI hS1 hl hc hs
      rw [hn] at hw
      exact hw
    · exact h.elim
  · rename_i k a st
    split at h
    · rename_i hcond
      obtain ⟨h1, hst⟩ := hcond
      obtain ⟨i, hi, rfl⟩ := zStrA h1
      rw [show 1000000 + i - 1000000 = i by omega] at h
      obtain ⟨hin2, h⟩ := h
      have hlk : Cond.methodLink (zRn own) n yJ0_charAt_5068e ∈ zTb := by
        rcases ho with ⟨h0, -⟩ | ⟨-, ⟨rfl, rfl⟩ | ⟨rfl, rfl⟩⟩
        · cases h0
        · exact (zJw_in (List.mem_of_getElem? (i := 17) rfl))
        · exact (zJw_in (List.mem_of_getElem? (i := 19) rfl))
      have f1 : cells ≤ R.cells := by have := (hle _ _ _ _ h).1; omega
      have f2 : slots ≤ R.slots := by have := (hle _ _ _ _ h).2; omega
      rw [List.map_cons, List.map_cons, zc_ext]
      refine zContS (va_runV (C := RJ0) (As := [.int k]) (rest := st.map (zc B ext)) ⟨hx, hb, hml, hown, hts⟩ (zsc_ch (B := B) (ext := ext) (adV := adV) hi hin2) (cwV 1 hts (zGoodV hlk (zJw_in (List.mem_of_getElem? (i := 22) rfl)) (zJw_in (List.mem_of_getElem? (i := 23) rfl)) (zJw_in (List.mem_of_getElem? (i := 31) rfl)) (zJw_in (List.mem_of_getElem? (i := 1) rfl))) rfl rfl rfl ⟨rfl, ⟨by decide, by decide, by decide +kernel⟩⟩ ⟨by show 7 + 1 ≤ R.frames; omega, by show 8 + (2 + 11) + 400 ≤ R.locals; omega⟩) ⟨zJw_blind, vk_recv (adK := fun i => ext (1000000 + i)) hE hi hS, fun U hU hW => ⟨rfl, by show zJw B ext adV U U.heap; rw [hU]; exact (zJw.moved hW.alike hSw).kept hS.2.1⟩⟩ rfl rfl hl.1 rfl (lv_room (zRm hst)) hd ⟨f1, f2⟩) hS fun locs1 hS1 => ?_
      have hw := hk _ _ _ _ _ _ _ _ _ h hI hS1 hl hc hs
      rw [hn] at hw
      exact hw
    · exact h.elim
  · exact h.elim
end ZS
end
