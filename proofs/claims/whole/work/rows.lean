section
-- ===== PART A: goes FIRST, ahead of the names: the tables' words, and 'selects' of the private methods out of them =====
/-- a private method of a class that the tables say can be made, by its rows of tables_1 -/
def lw_okq (q : MethodName × Nat) : Prop := (q.1.cls ≠ "java/lang/invoke/MethodHandle" ∧ q.1.cls ≠ "java/lang/invoke/VarHandle") ∧ Cond.instantiable q.1.cls q.2 ∈ tables_1 ∧ Cond.privateMethod q.1 ∈ tables_1 ∧ Cond.instanceMethod q.1 ∈ tables_1
theorem lw_p0 : lw_okq (⟨"PuppetTurns", "recorded", "(I)I"⟩, 9) := ⟨⟨by decide +kernel, by decide +kernel⟩, List.mem_of_getElem? (i := 18) (by decide +kernel), List.mem_of_getElem? (i := 365) (by decide +kernel), List.mem_of_getElem? (i := 366) (by decide +kernel)⟩
theorem lw_p1 : lw_okq (⟨"PuppetTurns$History", "newestSlot", "()LPuppetTurns$Scene;"⟩, 3) := ⟨⟨by decide +kernel, by decide +kernel⟩, List.mem_of_getElem? (i := 164) (by decide +kernel), List.mem_of_getElem? (i := 374) (by decide +kernel), List.mem_of_getElem? (i := 375) (by decide +kernel)⟩
theorem lw_p2 : lw_okq (⟨"PuppetTurns$Scene", "putAt", "(II)I"⟩, 9) := ⟨⟨by decide +kernel, by decide +kernel⟩, List.mem_of_getElem? (i := 26) (by decide +kernel), List.mem_of_getElem? (i := 406) (by decide +kernel), List.mem_of_getElem? (i := 407) (by decide +kernel)⟩
theorem lw_p3 : lw_okq (⟨"PuppetTurns$Scene", "shiftInOrder", "(II)V"⟩, 9) := ⟨⟨by decide +kernel, by decide +kernel⟩, List.mem_of_getElem? (i := 26) (by decide +kernel), List.mem_of_getElem? (i := 418) (by decide +kernel), List.mem_of_getElem? (i := 419) (by decide +kernel)⟩
theorem lw_p4 : lw_okq (⟨"PuppetTurns$Scene", "countHidden", "(ILPuppetTurns$Survey;)V"⟩, 9) := ⟨⟨by decide +kernel, by decide +kernel⟩, List.mem_of_getElem? (i := 26) (by decide +kernel), List.mem_of_getElem? (i := 505) (by decide +kernel), List.mem_of_getElem? (i := 506) (by decide +kernel)⟩
theorem lw_p5 : lw_okq (⟨"PuppetTurns$Scene", "rotate", "()V"⟩, 9) := ⟨⟨by decide +kernel, by decide +kernel⟩, List.mem_of_getElem? (i := 26) (by decide +kernel), List.mem_of_getElem? (i := 513) (by decide +kernel), List.mem_of_getElem? (i := 514) (by decide +kernel)⟩
theorem lw_p6 : lw_okq (⟨"PuppetTurns$Scene", "bringHidden", "(LPuppetTurns$Survey;)V"⟩, 9) := ⟨⟨by decide +kernel, by decide +kernel⟩, List.mem_of_getElem? (i := 26) (by decide +kernel), List.mem_of_getElem? (i := 517) (by decide +kernel), List.mem_of_getElem? (i := 518) (by decide +kernel)⟩
theorem lw_p7 : lw_okq (⟨"PuppetTurns$Reader", "readNext", "()V"⟩, 6) := ⟨⟨by decide +kernel, by decide +kernel⟩, List.mem_of_getElem? (i := 184) (by decide +kernel), List.mem_of_getElem? (i := 556) (by decide +kernel), List.mem_of_getElem? (i := 557) (by decide +kernel)⟩
theorem lw_p8 : lw_okq (⟨"PuppetTurns$Reader", "readRepeatedGroup", "()V"⟩, 6) := ⟨⟨by decide +kernel, by decide +kernel⟩, List.mem_of_getElem? (i := 184) (by decide +kernel), List.mem_of_getElem? (i := 569) (by decide +kernel), List.mem_of_getElem? (i := 570) (by decide +kernel)⟩
theorem lw_p9 : lw_okq (⟨"PuppetTurns$Reader", "readNumber", "(Z)I"⟩, 6) := ⟨⟨by decide +kernel, by decide +kernel⟩, List.mem_of_getElem? (i := 184) (by decide +kernel), List.mem_of_getElem? (i := 573) (by decide +kernel), List.mem_of_getElem? (i := 574) (by decide +kernel)⟩
theorem lw_p10 : lw_okq (⟨"PuppetTurns$Reader", "fail", "(I)V"⟩, 6) := ⟨⟨by decide +kernel, by decide +kernel⟩, List.mem_of_getElem? (i := 184) (by decide +kernel), List.mem_of_getElem? (i := 577) (by decide +kernel), List.mem_of_getElem? (i := 578) (by decide +kernel)⟩
theorem lw_p11 : lw_okq (⟨"PuppetTurns$Reader", "openGroup", "(I)V"⟩, 6) := ⟨⟨by decide +kernel, by decide +kernel⟩, List.mem_of_getElem? (i := 184) (by decide +kernel), List.mem_of_getElem? (i := 581) (by decide +kernel), List.mem_of_getElem? (i := 582) (by decide +kernel)⟩
theorem lw_p12 : lw_okq (⟨"PuppetTurns$Reader", "closeGroup", "()V"⟩, 6) := ⟨⟨by decide +kernel, by decide +kernel⟩, List.mem_of_getElem? (i := 184) (by decide +kernel), List.mem_of_getElem? (i := 592) (by decide +kernel), List.mem_of_getElem? (i := 593) (by decide +kernel)⟩
theorem lw_p13 : lw_okq (⟨"PuppetTurns$Reader", "readAct", "(I)V"⟩, 6) := ⟨⟨by decide +kernel, by decide +kernel⟩, List.mem_of_getElem? (i := 184) (by decide +kernel), List.mem_of_getElem? (i := 597) (by decide +kernel), List.mem_of_getElem? (i := 598) (by decide +kernel)⟩
theorem lw_p14 : lw_okq (⟨"PuppetTurns$Reader", "expect", "(I)V"⟩, 6) := ⟨⟨by decide +kernel, by decide +kernel⟩, List.mem_of_getElem? (i := 184) (by decide +kernel), List.mem_of_getElem? (i := 604) (by decide +kernel), List.mem_of_getElem? (i := 605) (by decide +kernel)⟩
theorem lw_p15 : lw_okq (⟨"PuppetTurns$Schedule", "take", "(LPuppetTurns$Steps;I)I"⟩, 5) := ⟨⟨by decide +kernel, by decide +kernel⟩, List.mem_of_getElem? (i := 252) (by decide +kernel), List.mem_of_getElem? (i := 617) (by decide +kernel), List.mem_of_getElem? (i := 618) (by decide +kernel)⟩
def lw_privs_1 : List (MethodName × Nat) := [(⟨"PuppetTurns", "recorded", "(I)I"⟩, 9), (⟨"PuppetTurns$History", "newestSlot", "()LPuppetTurns$Scene;"⟩, 3), (⟨"PuppetTurns$Scene", "putAt", "(II)I"⟩, 9), (⟨"PuppetTurns$Scene", "shiftInOrder", "(II)V"⟩, 9), (⟨"PuppetTurns$Scene", "countHidden", "(ILPuppetTurns$Survey;)V"⟩, 9), (⟨"PuppetTurns$Scene", "rotate", "()V"⟩, 9), (⟨"PuppetTurns$Scene", "bringHidden", "(LPuppetTurns$Survey;)V"⟩, 9), (⟨"PuppetTurns$Reader", "readNext", "()V"⟩, 6), (⟨"PuppetTurns$Reader", "readRepeatedGroup", "()V"⟩, 6), (⟨"PuppetTurns$Reader", "readNumber", "(Z)I"⟩, 6), (⟨"PuppetTurns$Reader", "fail", "(I)V"⟩, 6), (⟨"PuppetTurns$Reader", "openGroup", "(I)V"⟩, 6), (⟨"PuppetTurns$Reader", "closeGroup", "()V"⟩, 6), (⟨"PuppetTurns$Reader", "readAct", "(I)V"⟩, 6), (⟨"PuppetTurns$Reader", "expect", "(I)V"⟩, 6), (⟨"PuppetTurns$Schedule", "take", "(LPuppetTurns$Steps;I)I"⟩, 5)]
theorem lw_r1 : ∀ q ∈ lw_privs_1, lw_okq q := List.forall_mem_cons.mpr ⟨lw_p0, List.forall_mem_cons.mpr ⟨lw_p1, List.forall_mem_cons.mpr ⟨lw_p2, List.forall_mem_cons.mpr ⟨lw_p3, List.forall_mem_cons.mpr ⟨lw_p4, List.forall_mem_cons.mpr ⟨lw_p5, List.forall_mem_cons.mpr ⟨lw_p6, List.forall_mem_cons.mpr ⟨lw_p7, List.forall_mem_cons.mpr ⟨lw_p8, List.forall_mem_cons.mpr ⟨lw_p9, List.forall_mem_cons.mpr ⟨lw_p10, List.forall_mem_cons.mpr ⟨lw_p11, List.forall_mem_cons.mpr ⟨lw_p12, List.forall_mem_cons.mpr ⟨lw_p13, List.forall_mem_cons.mpr ⟨lw_p14, List.forall_mem_cons.mpr ⟨lw_p15, fun _ h => absurd h List.not_mem_nil⟩⟩⟩⟩⟩⟩⟩⟩⟩⟩⟩⟩⟩⟩⟩⟩
theorem lw_p16 : lw_okq (⟨"PuppetTurns$Schedule", "takeClosing", "(LPuppetTurns$Steps;I)I"⟩, 5) := ⟨⟨by decide +kernel, by decide +kernel⟩, List.mem_of_getElem? (i := 252) (by decide +kernel), List.mem_of_getElem? (i := 623) (by decide +kernel), List.mem_of_getElem? (i := 624) (by decide +kernel)⟩
theorem lw_p17 : lw_okq (⟨"PuppetTurns$Schedule", "plan", "(I)V"⟩, 5) := ⟨⟨by decide +kernel, by decide +kernel⟩, List.mem_of_getElem? (i := 252) (by decide +kernel), List.mem_of_getElem? (i := 629) (by decide +kernel), List.mem_of_getElem? (i := 630) (by decide +kernel)⟩
theorem lw_p18 : lw_okq (⟨"PuppetTurns", "failedAt", "(IIII)I"⟩, 9) := ⟨⟨by decide +kernel, by decide +kernel⟩, List.mem_of_getElem? (i := 18) (by decide +kernel), List.mem_of_getElem? (i := 633) (by decide +kernel), List.mem_of_getElem? (i := 634) (by decide +kernel)⟩
theorem lw_p19 : lw_okq (⟨"PuppetTurns", "performAll", "()I"⟩, 9) := ⟨⟨by decide +kernel, by decide +kernel⟩, List.mem_of_getElem? (i := 18) (by decide +kernel), List.mem_of_getElem? (i := 638) (by decide +kernel), List.mem_of_getElem? (i := 639) (by decide +kernel)⟩
theorem lw_p20 : lw_okq (⟨"PuppetTurns", "perform", "(I)I"⟩, 9) := ⟨⟨by decide +kernel, by decide +kernel⟩, List.mem_of_getElem? (i := 18) (by decide +kernel), List.mem_of_getElem? (i := 643) (by decide +kernel), List.mem_of_getElem? (i := 644) (by decide +kernel)⟩
theorem lw_p21 : lw_okq (⟨"PuppetTurns$Sight", "clashesOn", "(LPuppetTurns$Scene;II)J"⟩, 2) := ⟨⟨by decide +kernel, by decide +kernel⟩, List.mem_of_getElem? (i := 117) (by decide +kernel), List.mem_of_getElem? (i := 738) (by decide +kernel), List.mem_of_getElem? (i := 739) (by decide +kernel)⟩
theorem lw_p22 : lw_okq (⟨"PuppetTurns$Sight", "firstOther", "(LPuppetTurns$Scene;III)I"⟩, 2) := ⟨⟨by decide +kernel, by decide +kernel⟩, List.mem_of_getElem? (i := 117) (by decide +kernel), List.mem_of_getElem? (i := 749) (by decide +kernel), List.mem_of_getElem? (i := 750) (by decide +kernel)⟩
theorem lw_p23 : lw_okq (⟨"PuppetTurns$Forecast", "hiddenSince", "(LPuppetTurns$Scene;I)I"⟩, 5) := ⟨⟨by decide +kernel, by decide +kernel⟩, List.mem_of_getElem? (i := 134) (by decide +kernel), List.mem_of_getElem? (i := 764) (by decide +kernel), List.mem_of_getElem? (i := 765) (by decide +kernel)⟩
theorem lw_p24 : lw_okq (⟨"PuppetTurns$Forecast", "allShownWithin", "(LPuppetTurns$Scene;I)Z"⟩, 5) := ⟨⟨by decide +kernel, by decide +kernel⟩, List.mem_of_getElem? (i := 134) (by decide +kernel), List.mem_of_getElem? (i := 777) (by decide +kernel), List.mem_of_getElem? (i := 778) (by decide +kernel)⟩
theorem lw_p25 : lw_okq (⟨"PuppetTurns$Forecast", "noteHiddenByTurns", "(LPuppetTurns$Scene;)V"⟩, 5) := ⟨⟨by decide +kernel, by decide +kernel⟩, List.mem_of_getElem? (i := 134) (by decide +kernel), List.mem_of_getElem? (i := 790) (by decide +kernel), List.mem_of_getElem? (i := 791) (by decide +kernel)⟩
theorem lw_p26 : lw_okq (⟨"PuppetTurns$Forecast", "greatestWith", "(LPuppetTurns$Scene;I)I"⟩, 5) := ⟨⟨by decide +kernel, by decide +kernel⟩, List.mem_of_getElem? (i := 134) (by decide +kernel), List.mem_of_getElem? (i := 799) (by decide +kernel), List.mem_of_getElem? (i := 800) (by decide +kernel)⟩
theorem lw_p27 : lw_okq (⟨"PuppetTurns$Forecast", "framesHidden", "(III)I"⟩, 5) := ⟨⟨by decide +kernel, by decide +kernel⟩, List.mem_of_getElem? (i := 134) (by decide +kernel), List.mem_of_getElem? (i := 803) (by decide +kernel), List.mem_of_getElem? (i := 804) (by decide +kernel)⟩
theorem lw_p28 : lw_okq (⟨"PuppetTurnsModel", "act", "()V"⟩, 26) := ⟨⟨by decide +kernel, by decide +kernel⟩, List.mem_of_getElem? (i := 816) (by decide +kernel), List.mem_of_getElem? (i := 908) (by decide +kernel), List.mem_of_getElem? (i := 909) (by decide +kernel)⟩
theorem lw_p29 : lw_okq (⟨"PuppetTurnsModel", "put", "(III)V"⟩, 26) := ⟨⟨by decide +kernel, by decide +kernel⟩, List.mem_of_getElem? (i := 816) (by decide +kernel), List.mem_of_getElem? (i := 919) (by decide +kernel), List.mem_of_getElem? (i := 920) (by decide +kernel)⟩
theorem lw_p30 : lw_okq (⟨"PuppetTurnsModel", "isThere", "(I)Z"⟩, 26) := ⟨⟨by decide +kernel, by decide +kernel⟩, List.mem_of_getElem? (i := 816) (by decide +kernel), List.mem_of_getElem? (i := 927) (by decide +kernel), List.mem_of_getElem? (i := 928) (by decide +kernel)⟩
theorem lw_p31 : lw_okq (⟨"PuppetTurnsModel", "positionOf", "(I)I"⟩, 26) := ⟨⟨by decide +kernel, by decide +kernel⟩, List.mem_of_getElem? (i := 816) (by decide +kernel), List.mem_of_getElem? (i := 931) (by decide +kernel), List.mem_of_getElem? (i := 932) (by decide +kernel)⟩
def lw_privs_2 : List (MethodName × Nat) := [(⟨"PuppetTurns$Schedule", "takeClosing", "(LPuppetTurns$Steps;I)I"⟩, 5), (⟨"PuppetTurns$Schedule", "plan", "(I)V"⟩, 5), (⟨"PuppetTurns", "failedAt", "(IIII)I"⟩, 9), (⟨"PuppetTurns", "performAll", "()I"⟩, 9), (⟨"PuppetTurns", "perform", "(I)I"⟩, 9), (⟨"PuppetTurns$Sight", "clashesOn", "(LPuppetTurns$Scene;II)J"⟩, 2), (⟨"PuppetTurns$Sight", "firstOther", "(LPuppetTurns$Scene;III)I"⟩, 2), (⟨"PuppetTurns$Forecast", "hiddenSince", "(LPuppetTurns$Scene;I)I"⟩, 5), (⟨"PuppetTurns$Forecast", "allShownWithin", "(LPuppetTurns$Scene;I)Z"⟩, 5), (⟨"PuppetTurns$Forecast", "noteHiddenByTurns", "(LPuppetTurns$Scene;)V"⟩, 5), (⟨"PuppetTurns$Forecast", "greatestWith", "(LPuppetTurns$Scene;I)I"⟩, 5), (⟨"PuppetTurns$Forecast", "framesHidden", "(III)I"⟩, 5), (⟨"PuppetTurnsModel", "act", "()V"⟩, 26), (⟨"PuppetTurnsModel", "put", "(III)V"⟩, 26), (⟨"PuppetTurnsModel", "isThere", "(I)Z"⟩, 26), (⟨"PuppetTurnsModel", "positionOf", "(I)I"⟩, 26)]
theorem lw_r2 : ∀ q ∈ lw_privs_2, lw_okq q := List.forall_mem_cons.mpr ⟨lw_p16, List.forall_mem_cons.mpr ⟨lw_p17, List.forall_mem_cons.mpr ⟨lw_p18, List.forall_mem_cons.mpr ⟨lw_p19, List.forall_mem_cons.mpr ⟨lw_p20, List.forall_mem_cons.mpr ⟨lw_p21, List.forall_mem_cons.mpr ⟨lw_p22, List.forall_mem_cons.mpr ⟨lw_p23, List.forall_mem_cons.mpr ⟨lw_p24, List.forall_mem_cons.mpr ⟨lw_p25, List.forall_mem_cons.mpr ⟨lw_p26, List.forall_mem_cons.mpr ⟨lw_p27, List.forall_mem_cons.mpr ⟨lw_p28, List.forall_mem_cons.mpr ⟨lw_p29, List.forall_mem_cons.mpr ⟨lw_p30, List.forall_mem_cons.mpr ⟨lw_p31, fun _ h => absurd h List.not_mem_nil⟩⟩⟩⟩⟩⟩⟩⟩⟩⟩⟩⟩⟩⟩⟩⟩
theorem lw_p32 : lw_okq (⟨"PuppetTurnsModel", "takeOut", "(I)V"⟩, 26) := ⟨⟨by decide +kernel, by decide +kernel⟩, List.mem_of_getElem? (i := 816) (by decide +kernel), List.mem_of_getElem? (i := 935) (by decide +kernel), List.mem_of_getElem? (i := 936) (by decide +kernel)⟩
theorem lw_p33 : lw_okq (⟨"PuppetTurnsModel", "moveCode", "(III)I"⟩, 26) := ⟨⟨by decide +kernel, by decide +kernel⟩, List.mem_of_getElem? (i := 816) (by decide +kernel), List.mem_of_getElem? (i := 943) (by decide +kernel), List.mem_of_getElem? (i := 944) (by decide +kernel)⟩
theorem lw_p34 : lw_okq (⟨"PuppetTurnsModel", "moveNow", "(III)I"⟩, 26) := ⟨⟨by decide +kernel, by decide +kernel⟩, List.mem_of_getElem? (i := 816) (by decide +kernel), List.mem_of_getElem? (i := 947) (by decide +kernel), List.mem_of_getElem? (i := 948) (by decide +kernel)⟩
theorem lw_p35 : lw_okq (⟨"PuppetTurnsModel", "linesOf", "(I)I"⟩, 26) := ⟨⟨by decide +kernel, by decide +kernel⟩, List.mem_of_getElem? (i := 816) (by decide +kernel), List.mem_of_getElem? (i := 951) (by decide +kernel), List.mem_of_getElem? (i := 952) (by decide +kernel)⟩
theorem lw_p36 : lw_okq (⟨"PuppetTurnsModel", "stands", "(II)Z"⟩, 26) := ⟨⟨by decide +kernel, by decide +kernel⟩, List.mem_of_getElem? (i := 816) (by decide +kernel), List.mem_of_getElem? (i := 955) (by decide +kernel), List.mem_of_getElem? (i := 956) (by decide +kernel)⟩
theorem lw_p37 : lw_okq (⟨"PuppetTurnsModel", "of", "(II)I"⟩, 26) := ⟨⟨by decide +kernel, by decide +kernel⟩, List.mem_of_getElem? (i := 816) (by decide +kernel), List.mem_of_getElem? (i := 959) (by decide +kernel), List.mem_of_getElem? (i := 960) (by decide +kernel)⟩
theorem lw_p38 : lw_okq (⟨"PuppetTurnsModel", "highOf", "(I)I"⟩, 26) := ⟨⟨by decide +kernel, by decide +kernel⟩, List.mem_of_getElem? (i := 816) (by decide +kernel), List.mem_of_getElem? (i := 963) (by decide +kernel), List.mem_of_getElem? (i := 964) (by decide +kernel)⟩
theorem lw_p39 : lw_okq (⟨"PuppetTurnsModel", "turnCode", "(II)I"⟩, 26) := ⟨⟨by decide +kernel, by decide +kernel⟩, List.mem_of_getElem? (i := 816) (by decide +kernel), List.mem_of_getElem? (i := 971) (by decide +kernel), List.mem_of_getElem? (i := 972) (by decide +kernel)⟩
theorem lw_p40 : lw_okq (⟨"PuppetTurnsModel", "turnNow", "(II)I"⟩, 26) := ⟨⟨by decide +kernel, by decide +kernel⟩, List.mem_of_getElem? (i := 816) (by decide +kernel), List.mem_of_getElem? (i := 975) (by decide +kernel), List.mem_of_getElem? (i := 976) (by decide +kernel)⟩
theorem lw_p41 : lw_okq (⟨"PuppetTurnsModel", "thereCode", "(I)I"⟩, 26) := ⟨⟨by decide +kernel, by decide +kernel⟩, List.mem_of_getElem? (i := 816) (by decide +kernel), List.mem_of_getElem? (i := 983) (by decide +kernel), List.mem_of_getElem? (i := 984) (by decide +kernel)⟩
theorem lw_p42 : lw_okq (⟨"PuppetTurnsModel", "liftNow", "(I)I"⟩, 26) := ⟨⟨by decide +kernel, by decide +kernel⟩, List.mem_of_getElem? (i := 816) (by decide +kernel), List.mem_of_getElem? (i := 987) (by decide +kernel), List.mem_of_getElem? (i := 988) (by decide +kernel)⟩
theorem lw_p43 : lw_okq (⟨"PuppetTurnsModel", "lowerNow", "(I)I"⟩, 26) := ⟨⟨by decide +kernel, by decide +kernel⟩, List.mem_of_getElem? (i := 816) (by decide +kernel), List.mem_of_getElem? (i := 995) (by decide +kernel), List.mem_of_getElem? (i := 996) (by decide +kernel)⟩
theorem lw_p44 : lw_okq (⟨"PuppetTurnsModel", "limitNow", "(I)I"⟩, 26) := ⟨⟨by decide +kernel, by decide +kernel⟩, List.mem_of_getElem? (i := 816) (by decide +kernel), List.mem_of_getElem? (i := 1006) (by decide +kernel), List.mem_of_getElem? (i := 1007) (by decide +kernel)⟩
theorem lw_p45 : lw_okq (⟨"PuppetTurnsModel", "frameCode", "()I"⟩, 26) := ⟨⟨by decide +kernel, by decide +kernel⟩, List.mem_of_getElem? (i := 816) (by decide +kernel), List.mem_of_getElem? (i := 1018) (by decide +kernel), List.mem_of_getElem? (i := 1019) (by decide +kernel)⟩
theorem lw_p46 : lw_okq (⟨"PuppetTurnsModel", "frameNow", "()I"⟩, 26) := ⟨⟨by decide +kernel, by decide +kernel⟩, List.mem_of_getElem? (i := 816) (by decide +kernel), List.mem_of_getElem? (i := 1022) (by decide +kernel), List.mem_of_getElem? (i := 1023) (by decide +kernel)⟩
theorem lw_p47 : lw_okq (⟨"PuppetTurnsModel", "hidden", "([II)I"⟩, 26) := ⟨⟨by decide +kernel, by decide +kernel⟩, List.mem_of_getElem? (i := 816) (by decide +kernel), List.mem_of_getElem? (i := 1026) (by decide +kernel), List.mem_of_getElem? (i := 1027) (by decide +kernel)⟩
def lw_privs_3 : List (MethodName × Nat) := [(⟨"PuppetTurnsModel", "takeOut", "(I)V"⟩, 26), (⟨"PuppetTurnsModel", "moveCode", "(III)I"⟩, 26), (⟨"PuppetTurnsModel", "moveNow", "(III)I"⟩, 26), (⟨"PuppetTurnsModel", "linesOf", "(I)I"⟩, 26), (⟨"PuppetTurnsModel", "stands", "(II)Z"⟩, 26), (⟨"PuppetTurnsModel", "of", "(II)I"⟩, 26), (⟨"PuppetTurnsModel", "highOf", "(I)I"⟩, 26), (⟨"PuppetTurnsModel", "turnCode", "(II)I"⟩, 26), (⟨"PuppetTurnsModel", "turnNow", "(II)I"⟩, 26), (⟨"PuppetTurnsModel", "thereCode", "(I)I"⟩, 26), (⟨"PuppetTurnsModel", "liftNow", "(I)I"⟩, 26), (⟨"PuppetTurnsModel", "lowerNow", "(I)I"⟩, 26), (⟨"PuppetTurnsModel", "limitNow", "(I)I"⟩, 26), (⟨"PuppetTurnsModel", "frameCode", "()I"⟩, 26), (⟨"PuppetTurnsModel", "frameNow", "()I"⟩, 26), (⟨"PuppetTurnsModel", "hidden", "([II)I"⟩, 26)]
theorem lw_r3 : ∀ q ∈ lw_privs_3, lw_okq q := List.forall_mem_cons.mpr ⟨lw_p32, List.forall_mem_cons.mpr ⟨lw_p33, List.forall_mem_cons.mpr ⟨lw_p34, List.forall_mem_cons.mpr ⟨lw_p35, List.forall_mem_cons.mpr ⟨lw_p36, List.forall_mem_cons.mpr ⟨lw_p37, List.forall_mem_cons.mpr ⟨lw_p38, List.forall_mem_cons.mpr ⟨lw_p39, List.forall_mem_cons.mpr ⟨lw_p40, List.forall_mem_cons.mpr ⟨lw_p41, List.forall_mem_cons.mpr ⟨lw_p42, List.forall_mem_cons.mpr ⟨lw_p43, List.forall_mem_cons.mpr ⟨lw_p44, List.forall_mem_cons.mpr ⟨lw_p45, List.forall_mem_cons.mpr ⟨lw_p46, List.forall_mem_cons.mpr ⟨lw_p47, fun _ h => absurd h List.not_mem_nil⟩⟩⟩⟩⟩⟩⟩⟩⟩⟩⟩⟩⟩⟩⟩⟩
theorem lw_p48 : lw_okq (⟨"PuppetTurnsModel", "takeTurn", "([IIIII)V"⟩, 26) := ⟨⟨by decide +kernel, by decide +kernel⟩, List.mem_of_getElem? (i := 816) (by decide +kernel), List.mem_of_getElem? (i := 1030) (by decide +kernel), List.mem_of_getElem? (i := 1031) (by decide +kernel)⟩
theorem lw_p49 : lw_okq (⟨"PuppetTurnsModel", "readPlay", "()V"⟩, 26) := ⟨⟨by decide +kernel, by decide +kernel⟩, List.mem_of_getElem? (i := 816) (by decide +kernel), List.mem_of_getElem? (i := 1053) (by decide +kernel), List.mem_of_getElem? (i := 1054) (by decide +kernel)⟩
theorem lw_p50 : lw_okq (⟨"PuppetTurnsModel", "readOne", "()V"⟩, 26) := ⟨⟨by decide +kernel, by decide +kernel⟩, List.mem_of_getElem? (i := 816) (by decide +kernel), List.mem_of_getElem? (i := 1057) (by decide +kernel), List.mem_of_getElem? (i := 1058) (by decide +kernel)⟩
theorem lw_p51 : lw_okq (⟨"PuppetTurnsModel", "at", "(I)I"⟩, 26) := ⟨⟨by decide +kernel, by decide +kernel⟩, List.mem_of_getElem? (i := 816) (by decide +kernel), List.mem_of_getElem? (i := 1061) (by decide +kernel), List.mem_of_getElem? (i := 1062) (by decide +kernel)⟩
theorem lw_p52 : lw_okq (⟨"PuppetTurnsModel", "code", "(IIIII)V"⟩, 26) := ⟨⟨by decide +kernel, by decide +kernel⟩, List.mem_of_getElem? (i := 816) (by decide +kernel), List.mem_of_getElem? (i := 1065) (by decide +kernel), List.mem_of_getElem? (i := 1066) (by decide +kernel)⟩
theorem lw_p53 : lw_okq (⟨"PuppetTurnsModel", "readGroup", "()V"⟩, 26) := ⟨⟨by decide +kernel, by decide +kernel⟩, List.mem_of_getElem? (i := 816) (by decide +kernel), List.mem_of_getElem? (i := 1069) (by decide +kernel), List.mem_of_getElem? (i := 1070) (by decide +kernel)⟩
theorem lw_p54 : lw_okq (⟨"PuppetTurnsModel", "isDigit", "()Z"⟩, 26) := ⟨⟨by decide +kernel, by decide +kernel⟩, List.mem_of_getElem? (i := 816) (by decide +kernel), List.mem_of_getElem? (i := 1073) (by decide +kernel), List.mem_of_getElem? (i := 1074) (by decide +kernel)⟩
theorem lw_p55 : lw_okq (⟨"PuppetTurnsModel", "number", "()I"⟩, 26) := ⟨⟨by decide +kernel, by decide +kernel⟩, List.mem_of_getElem? (i := 816) (by decide +kernel), List.mem_of_getElem? (i := 1077) (by decide +kernel), List.mem_of_getElem? (i := 1078) (by decide +kernel)⟩
theorem lw_p56 : lw_okq (⟨"PuppetTurnsModel", "wrong", "(I)V"⟩, 26) := ⟨⟨by decide +kernel, by decide +kernel⟩, List.mem_of_getElem? (i := 816) (by decide +kernel), List.mem_of_getElem? (i := 1081) (by decide +kernel), List.mem_of_getElem? (i := 1082) (by decide +kernel)⟩
theorem lw_p57 : lw_okq (⟨"PuppetTurnsModel", "fail", "(IIIII)V"⟩, 26) := ⟨⟨by decide +kernel, by decide +kernel⟩, List.mem_of_getElem? (i := 816) (by decide +kernel), List.mem_of_getElem? (i := 1085) (by decide +kernel), List.mem_of_getElem? (i := 1086) (by decide +kernel)⟩
theorem lw_p58 : lw_okq (⟨"PuppetTurnsModel", "readAct", "()V"⟩, 26) := ⟨⟨by decide +kernel, by decide +kernel⟩, List.mem_of_getElem? (i := 816) (by decide +kernel), List.mem_of_getElem? (i := 1092) (by decide +kernel), List.mem_of_getElem? (i := 1093) (by decide +kernel)⟩
theorem lw_p59 : lw_okq (⟨"PuppetTurnsModel", "runPlay", "(Z)I"⟩, 26) := ⟨⟨by decide +kernel, by decide +kernel⟩, List.mem_of_getElem? (i := 816) (by decide +kernel), List.mem_of_getElem? (i := 1096) (by decide +kernel), List.mem_of_getElem? (i := 1097) (by decide +kernel)⟩
theorem lw_p60 : lw_okq (⟨"PuppetTurnsModel", "runAct", "(IIZ)I"⟩, 26) := ⟨⟨by decide +kernel, by decide +kernel⟩, List.mem_of_getElem? (i := 816) (by decide +kernel), List.mem_of_getElem? (i := 1100) (by decide +kernel), List.mem_of_getElem? (i := 1101) (by decide +kernel)⟩
theorem lw_p61 : lw_okq (⟨"PuppetTurnsModel", "codeOf", "(IIII)I"⟩, 26) := ⟨⟨by decide +kernel, by decide +kernel⟩, List.mem_of_getElem? (i := 816) (by decide +kernel), List.mem_of_getElem? (i := 1104) (by decide +kernel), List.mem_of_getElem? (i := 1105) (by decide +kernel)⟩
theorem lw_p62 : lw_okq (⟨"PuppetTurnsModel", "carry", "(IIII)I"⟩, 26) := ⟨⟨by decide +kernel, by decide +kernel⟩, List.mem_of_getElem? (i := 816) (by decide +kernel), List.mem_of_getElem? (i := 1108) (by decide +kernel), List.mem_of_getElem? (i := 1109) (by decide +kernel)⟩
theorem lw_p63 : lw_okq (⟨"PuppetTurnsModel", "allDots", "()I"⟩, 26) := ⟨⟨by decide +kernel, by decide +kernel⟩, List.mem_of_getElem? (i := 816) (by decide +kernel), List.mem_of_getElem? (i := 1120) (by decide +kernel), List.mem_of_getElem? (i := 1121) (by decide +kernel)⟩
def lw_privs_4 : List (MethodName × Nat) := [(⟨"PuppetTurnsModel", "takeTurn", "([IIIII)V"⟩, 26), (⟨"PuppetTurnsModel", "readPlay", "()V"⟩, 26), (⟨"PuppetTurnsModel", "readOne", "()V"⟩, 26), (⟨"PuppetTurnsModel", "at", "(I)I"⟩, 26), (⟨"PuppetTurnsModel", "code", "(IIIII)V"⟩, 26), (⟨"PuppetTurnsModel", "readGroup", "()V"⟩, 26), (⟨"PuppetTurnsModel", "isDigit", "()Z"⟩, 26), (⟨"PuppetTurnsModel", "number", "()I"⟩, 26), (⟨"PuppetTurnsModel", "wrong", "(I)V"⟩, 26), (⟨"PuppetTurnsModel", "fail", "(IIIII)V"⟩, 26), (⟨"PuppetTurnsModel", "readAct", "()V"⟩, 26), (⟨"PuppetTurnsModel", "runPlay", "(Z)I"⟩, 26), (⟨"PuppetTurnsModel", "runAct", "(IIZ)I"⟩, 26), (⟨"PuppetTurnsModel", "codeOf", "(IIII)I"⟩, 26), (⟨"PuppetTurnsModel", "carry", "(IIII)I"⟩, 26), (⟨"PuppetTurnsModel", "allDots", "()I"⟩, 26)]
theorem lw_r4 : ∀ q ∈ lw_privs_4, lw_okq q := List.forall_mem_cons.mpr ⟨lw_p48, List.forall_mem_cons.mpr ⟨lw_p49, List.forall_mem_cons.mpr ⟨lw_p50, List.forall_mem_cons.mpr ⟨lw_p51, List.forall_mem_cons.mpr ⟨lw_p52, List.forall_mem_cons.mpr ⟨lw_p53, List.forall_mem_cons.mpr ⟨lw_p54, List.forall_mem_cons.mpr ⟨lw_p55, List.forall_mem_cons.mpr ⟨lw_p56, List.forall_mem_cons.mpr ⟨lw_p57, List.forall_mem_cons.mpr ⟨lw_p58, List.forall_mem_cons.mpr ⟨lw_p59, List.forall_mem_cons.mpr ⟨lw_p60, List.forall_mem_cons.mpr ⟨lw_p61, List.forall_mem_cons.mpr ⟨lw_p62, List.forall_mem_cons.mpr ⟨lw_p63, fun _ h => absurd h List.not_mem_nil⟩⟩⟩⟩⟩⟩⟩⟩⟩⟩⟩⟩⟩⟩⟩⟩
theorem lw_p64 : lw_okq (⟨"PuppetTurnsModel", "dotsOn", "(I)I"⟩, 26) := ⟨⟨by decide +kernel, by decide +kernel⟩, List.mem_of_getElem? (i := 816) (by decide +kernel), List.mem_of_getElem? (i := 1124) (by decide +kernel), List.mem_of_getElem? (i := 1125) (by decide +kernel)⟩
theorem lw_p65 : lw_okq (⟨"PuppetTurnsModel", "colorAt", "(II)I"⟩, 26) := ⟨⟨by decide +kernel, by decide +kernel⟩, List.mem_of_getElem? (i := 816) (by decide +kernel), List.mem_of_getElem? (i := 1128) (by decide +kernel), List.mem_of_getElem? (i := 1129) (by decide +kernel)⟩
theorem lw_p66 : lw_okq (⟨"PuppetTurnsModel", "firstAt", "(III)I"⟩, 26) := ⟨⟨by decide +kernel, by decide +kernel⟩, List.mem_of_getElem? (i := 816) (by decide +kernel), List.mem_of_getElem? (i := 1132) (by decide +kernel), List.mem_of_getElem? (i := 1133) (by decide +kernel)⟩
theorem lw_p67 : lw_okq (⟨"PuppetTurnsModel", "shownOn", "(II)I"⟩, 26) := ⟨⟨by decide +kernel, by decide +kernel⟩, List.mem_of_getElem? (i := 816) (by decide +kernel), List.mem_of_getElem? (i := 1136) (by decide +kernel), List.mem_of_getElem? (i := 1137) (by decide +kernel)⟩
theorem lw_p68 : lw_okq (⟨"PuppetTurnsModel", "isSet", "(III)Z"⟩, 26) := ⟨⟨by decide +kernel, by decide +kernel⟩, List.mem_of_getElem? (i := 816) (by decide +kernel), List.mem_of_getElem? (i := 1140) (by decide +kernel), List.mem_of_getElem? (i := 1141) (by decide +kernel)⟩
theorem lw_p69 : lw_okq (⟨"PuppetTurnsModel", "hero", "()I"⟩, 26) := ⟨⟨by decide +kernel, by decide +kernel⟩, List.mem_of_getElem? (i := 816) (by decide +kernel), List.mem_of_getElem? (i := 1144) (by decide +kernel), List.mem_of_getElem? (i := 1145) (by decide +kernel)⟩
theorem lw_p70 : lw_okq (⟨"PuppetTurnsModel", "hiddenLinesOf", "(I)I"⟩, 26) := ⟨⟨by decide +kernel, by decide +kernel⟩, List.mem_of_getElem? (i := 816) (by decide +kernel), List.mem_of_getElem? (i := 1152) (by decide +kernel), List.mem_of_getElem? (i := 1153) (by decide +kernel)⟩
theorem lw_p71 : lw_okq (⟨"PuppetTurnsModel", "standing", "(I)I"⟩, 26) := ⟨⟨by decide +kernel, by decide +kernel⟩, List.mem_of_getElem? (i := 816) (by decide +kernel), List.mem_of_getElem? (i := 1160) (by decide +kernel), List.mem_of_getElem? (i := 1161) (by decide +kernel)⟩
theorem lw_p72 : lw_okq (⟨"PuppetTurnsModel", "clashing", "(III)I"⟩, 26) := ⟨⟨by decide +kernel, by decide +kernel⟩, List.mem_of_getElem? (i := 816) (by decide +kernel), List.mem_of_getElem? (i := 1176) (by decide +kernel), List.mem_of_getElem? (i := 1177) (by decide +kernel)⟩
theorem lw_p73 : lw_okq (⟨"PuppetTurnsModel", "isShown", "(II)Z"⟩, 26) := ⟨⟨by decide +kernel, by decide +kernel⟩, List.mem_of_getElem? (i := 816) (by decide +kernel), List.mem_of_getElem? (i := 1180) (by decide +kernel), List.mem_of_getElem? (i := 1181) (by decide +kernel)⟩
theorem lw_p74 : lw_okq (⟨"PuppetTurnsModel", "beginTrial", "()V"⟩, 26) := ⟨⟨by decide +kernel, by decide +kernel⟩, List.mem_of_getElem? (i := 816) (by decide +kernel), List.mem_of_getElem? (i := 1188) (by decide +kernel), List.mem_of_getElem? (i := 1189) (by decide +kernel)⟩
theorem lw_p75 : lw_okq (⟨"PuppetTurnsModel", "tryFrame", "(II)I"⟩, 26) := ⟨⟨by decide +kernel, by decide +kernel⟩, List.mem_of_getElem? (i := 816) (by decide +kernel), List.mem_of_getElem? (i := 1192) (by decide +kernel), List.mem_of_getElem? (i := 1193) (by decide +kernel)⟩
theorem lw_p76 : lw_okq (⟨"PuppetTurnsModel", "greatestBy", "(I)I"⟩, 26) := ⟨⟨by decide +kernel, by decide +kernel⟩, List.mem_of_getElem? (i := 816) (by decide +kernel), List.mem_of_getElem? (i := 1204) (by decide +kernel), List.mem_of_getElem? (i := 1205) (by decide +kernel)⟩
def lw_privs_5 : List (MethodName × Nat) := [(⟨"PuppetTurnsModel", "dotsOn", "(I)I"⟩, 26), (⟨"PuppetTurnsModel", "colorAt", "(II)I"⟩, 26), (⟨"PuppetTurnsModel", "firstAt", "(III)I"⟩, 26), (⟨"PuppetTurnsModel", "shownOn", "(II)I"⟩, 26), (⟨"PuppetTurnsModel", "isSet", "(III)Z"⟩, 26), (⟨"PuppetTurnsModel", "hero", "()I"⟩, 26), (⟨"PuppetTurnsModel", "hiddenLinesOf", "(I)I"⟩, 26), (⟨"PuppetTurnsModel", "standing", "(I)I"⟩, 26), (⟨"PuppetTurnsModel", "clashing", "(III)I"⟩, 26), (⟨"PuppetTurnsModel", "isShown", "(II)Z"⟩, 26), (⟨"PuppetTurnsModel", "beginTrial", "()V"⟩, 26), (⟨"PuppetTurnsModel", "tryFrame", "(II)I"⟩, 26), (⟨"PuppetTurnsModel", "greatestBy", "(I)I"⟩, 26)]
theorem lw_r5 : ∀ q ∈ lw_privs_5, lw_okq q := List.forall_mem_cons.mpr ⟨lw_p64, List.forall_mem_cons.mpr ⟨lw_p65, List.forall_mem_cons.mpr ⟨lw_p66, List.forall_mem_cons.mpr ⟨lw_p67, List.forall_mem_cons.mpr ⟨lw_p68, List.forall_mem_cons.mpr ⟨lw_p69, List.forall_mem_cons.mpr ⟨lw_p70, List.forall_mem_cons.mpr ⟨lw_p71, List.forall_mem_cons.mpr ⟨lw_p72, List.forall_mem_cons.mpr ⟨lw_p73, List.forall_mem_cons.mpr ⟨lw_p74, List.forall_mem_cons.mpr ⟨lw_p75, List.forall_mem_cons.mpr ⟨lw_p76, fun _ h => absurd h List.not_mem_nil⟩⟩⟩⟩⟩⟩⟩⟩⟩⟩⟩⟩⟩
def lw_privs : List (MethodName × Nat) := lw_privs_1 ++ (lw_privs_2 ++ (lw_privs_3 ++ (lw_privs_4 ++ (lw_privs_5))))
def lw_tbl : List Cond := k2_sels lw_privs ++ tables_1
theorem lw_privs_ok : ∀ q ∈ lw_privs, lw_okq q := by
  show ∀ q ∈ lw_privs_1 ++ (lw_privs_2 ++ (lw_privs_3 ++ (lw_privs_4 ++ (lw_privs_5)))), lw_okq q
  exact List.forall_mem_append.mpr ⟨lw_r1, List.forall_mem_append.mpr ⟨lw_r2, List.forall_mem_append.mpr ⟨lw_r3, List.forall_mem_append.mpr ⟨lw_r4, lw_r5⟩⟩⟩⟩
end
section
def T_0 : u_T := fun k => match k with
  | 0 => ("PuppetTurns$Cells", "cells", "[I", true)
  | _ => ("PuppetTurns$Cells", "width", "I", true)
def ty_0 : Nat → FieldType := fun k => match k with
  | 0 => .array .int
  | _ => .int
def T_1 : u_T := fun k => match k with
  | 0 => ("PuppetTurns$Failure", "known", "Z", false)
  | 1 => ("PuppetTurns$Failure", "kind", "I", false)
  | 2 => ("PuppetTurns$Failure", "place", "I", false)
  | 3 => ("PuppetTurns$Failure", "depth", "I", false)
  | 4 => ("PuppetTurns$Failure", "acts", "I", false)
  | _ => ("PuppetTurns$Failure", "code", "I", false)
def ty_1 : Nat → FieldType := fun k => match k with
  | 0 => .boolean
  | 1 => .int
  | 2 => .int
  | 3 => .int
  | 4 => .int
  | _ => .int
def T_2 : u_T := fun k => match k with
  | 0 => ("PuppetTurns$Forecast", "future", "LPuppetTurns$Scene;", true)
  | 1 => ("PuppetTurns$Forecast", "survey", "LPuppetTurns$Survey;", true)
  | 2 => ("PuppetTurns$Forecast", "hiddenByTurns", "LPuppetTurns$Cells;", true)
  | 3 => ("PuppetTurns$Forecast", "step", "I", false)
  | _ => ("PuppetTurns$Forecast", "greatest", "I", false)
def ty_2 : Nat → FieldType := fun k => match k with
  | 0 => .object "PuppetTurns$Scene"
  | 1 => .object "PuppetTurns$Survey"
  | 2 => .object "PuppetTurns$Cells"
  | 3 => .int
  | _ => .int
def T_3 : u_T := fun k => match k with
  | 0 => ("PuppetTurns$History", "slots", "[LPuppetTurns$Scene;", true)
  | 1 => ("PuppetTurns$History", "newest", "I", false)
  | _ => ("PuppetTurns$History", "size", "I", false)
def ty_3 : Nat → FieldType := fun k => match k with
  | 0 => .array (.object "PuppetTurns$Scene")
  | 1 => .int
  | _ => .int
def T_4 : u_T := fun k => match k with
  | 0 => ("PuppetTurns$Reader", "script", "LPuppetTurns$Script;", true)
  | 1 => ("PuppetTurns$Reader", "steps", "LPuppetTurns$Steps;", true)
  | 2 => ("PuppetTurns$Reader", "opened", "LPuppetTurns$Cells;", true)
  | 3 => ("PuppetTurns$Reader", "place", "I", false)
  | 4 => ("PuppetTurns$Reader", "depth", "I", false)
  | _ => ("PuppetTurns$Reader", "fault", "I", false)
def ty_4 : Nat → FieldType := fun k => match k with
  | 0 => .object "PuppetTurns$Script"
  | 1 => .object "PuppetTurns$Steps"
  | 2 => .object "PuppetTurns$Cells"
  | 3 => .int
  | 4 => .int
  | _ => .int
def T_5 : u_T := fun k => match k with
  | 0 => ("PuppetTurns$Scene", "pictures", "LPuppetTurns$Cells;", true)
  | 1 => ("PuppetTurns$Scene", "puppets", "LPuppetTurns$Cells;", true)
  | 2 => ("PuppetTurns$Scene", "order", "LPuppetTurns$Cells;", true)
  | 3 => ("PuppetTurns$Scene", "there", "I", false)
  | 4 => ("PuppetTurns$Scene", "arrived", "I", false)
  | 5 => ("PuppetTurns$Scene", "limit", "I", false)
  | 6 => ("PuppetTurns$Scene", "rule", "I", false)
  | 7 => ("PuppetTurns$Scene", "step", "I", false)
  | _ => ("PuppetTurns$Scene", "frames", "I", false)
def ty_5 : Nat → FieldType := fun k => match k with
  | 0 => .object "PuppetTurns$Cells"
  | 1 => .object "PuppetTurns$Cells"
  | 2 => .object "PuppetTurns$Cells"
  | 3 => .int
  | 4 => .int
  | 5 => .int
  | 6 => .int
  | 7 => .int
  | _ => .int
def T_6 : u_T := fun k => match k with
  | 0 => ("PuppetTurns$Schedule", "acts", "LPuppetTurns$Cells;", true)
  | 1 => ("PuppetTurns$Schedule", "timesLeft", "LPuppetTurns$Cells;", true)
  | 2 => ("PuppetTurns$Schedule", "size", "I", false)
  | 3 => ("PuppetTurns$Schedule", "depth", "I", false)
  | _ => ("PuppetTurns$Schedule", "excess", "I", false)
def ty_6 : Nat → FieldType := fun k => match k with
  | 0 => .object "PuppetTurns$Cells"
  | 1 => .object "PuppetTurns$Cells"
  | 2 => .int
  | 3 => .int
  | _ => .int
def T_7 : u_T := fun k => match k with
  | 0 => ("PuppetTurns$Script", "characters", "LPuppetTurns$Cells;", true)
  | _ => ("PuppetTurns$Script", "length", "I", false)
def ty_7 : Nat → FieldType := fun k => match k with
  | 0 => .object "PuppetTurns$Cells"
  | _ => .int
def T_8 : u_T := fun k => match k with
  | 0 => ("PuppetTurns$Sight", "shownPuppets", "LPuppetTurns$Cells;", true)
  | _ => ("PuppetTurns$Sight", "size", "I", false)
def ty_8 : Nat → FieldType := fun k => match k with
  | 0 => .object "PuppetTurns$Cells"
  | _ => .int
def T_9 : u_T := fun k => match k with
  | 0 => ("PuppetTurns$Steps", "parts", "LPuppetTurns$Cells;", true)
  | _ => ("PuppetTurns$Steps", "length", "I", false)
def ty_9 : Nat → FieldType := fun k => match k with
  | 0 => .object "PuppetTurns$Cells"
  | _ => .int
def T_10 : u_T := fun k => match k with
  | 0 => ("PuppetTurns$Survey", "standing", "LPuppetTurns$Cells;", true)
  | _ => ("PuppetTurns$Survey", "hiddenLines", "LPuppetTurns$Cells;", true)
def ty_10 : Nat → FieldType := fun k => match k with
  | 0 => .object "PuppetTurns$Cells"
  | _ => .object "PuppetTurns$Cells"
def T_11 : u_T := fun k => match k with
  | 0 => ("PuppetTurns", "scene", "LPuppetTurns$Scene;", true)
  | 1 => ("PuppetTurns", "before", "LPuppetTurns$Scene;", true)
  | 2 => ("PuppetTurns", "survey", "LPuppetTurns$Survey;", true)
  | 3 => ("PuppetTurns", "sight", "LPuppetTurns$Sight;", true)
  | 4 => ("PuppetTurns", "forecast", "LPuppetTurns$Forecast;", true)
  | 5 => ("PuppetTurns", "history", "LPuppetTurns$History;", true)
  | 6 => ("PuppetTurns", "reader", "LPuppetTurns$Reader;", true)
  | 7 => ("PuppetTurns", "schedule", "LPuppetTurns$Schedule;", true)
  | _ => ("PuppetTurns", "latest", "LPuppetTurns$Failure;", true)
def ty_11 : Nat → FieldType := fun k => match k with
  | 0 => .object "PuppetTurns$Scene"
  | 1 => .object "PuppetTurns$Scene"
  | 2 => .object "PuppetTurns$Survey"
  | 3 => .object "PuppetTurns$Sight"
  | 4 => .object "PuppetTurns$Forecast"
  | 5 => .object "PuppetTurns$History"
  | 6 => .object "PuppetTurns$Reader"
  | 7 => .object "PuppetTurns$Schedule"
  | _ => .object "PuppetTurns$Failure"
def T_12 : u_T := fun k => match k with
  | 0 => ("PuppetTurnsModel", "thrown", "I", false)
  | 1 => ("PuppetTurnsModel", "s", "[I", true)
  | 2 => ("PuppetTurnsModel", "aside", "[I", true)
  | 3 => ("PuppetTurnsModel", "saved", "[I", true)
  | 4 => ("PuppetTurnsModel", "savedMany", "I", false)
  | 5 => ("PuppetTurnsModel", "text", "[I", true)
  | 6 => ("PuppetTurnsModel", "length", "I", false)
  | 7 => ("PuppetTurnsModel", "trial", "[I", true)
  | 8 => ("PuppetTurnsModel", "moved", "[I", true)
  | 9 => ("PuppetTurnsModel", "often", "[I", true)
  | 10 => ("PuppetTurnsModel", "hiddenLines", "[I", true)
  | 11 => ("PuppetTurnsModel", "kind", "[I", true)
  | 12 => ("PuppetTurnsModel", "placeOf", "[I", true)
  | 13 => ("PuppetTurnsModel", "depthOf", "[I", true)
  | 14 => ("PuppetTurnsModel", "one", "[I", true)
  | 15 => ("PuppetTurnsModel", "two", "[I", true)
  | 16 => ("PuppetTurnsModel", "three", "[I", true)
  | 17 => ("PuppetTurnsModel", "codes", "I", false)
  | 18 => ("PuppetTurnsModel", "openAt", "[I", true)
  | 19 => ("PuppetTurnsModel", "left", "[I", true)
  | 20 => ("PuppetTurnsModel", "numbers", "[I", true)
  | 21 => ("PuppetTurnsModel", "hasFailed", "Z", false)
  | 22 => ("PuppetTurnsModel", "failed", "[I", true)
  | 23 => ("PuppetTurnsModel", "next", "I", false)
  | 24 => ("PuppetTurnsModel", "depth", "I", false)
  | _ => ("PuppetTurnsModel", "isWell", "Z", false)
def ty_12 : Nat → FieldType := fun k => match k with
  | 0 => .int
  | 1 => .array .int
  | 2 => .array .int
  | 3 => .array .int
  | 4 => .int
  | 5 => .array .int
  | 6 => .int
  | 7 => .array .int
  | 8 => .array .int
  | 9 => .array .int
  | 10 => .array .int
  | 11 => .array .int
  | 12 => .array .int
  | 13 => .array .int
  | 14 => .array .int
  | 15 => .array .int
  | 16 => .array .int
  | 17 => .int
  | 18 => .array .int
  | 19 => .array .int
  | 20 => .array .int
  | 21 => .boolean
  | 22 => .array .int
  | 23 => .int
  | 24 => .int
  | _ => .boolean
/-- a class: its name, fields, how many, their types -/
def e_ct : Nat → String × u_T × Nat × (Nat → FieldType) := fun k => (bif Nat.ble 6 k then (bif Nat.ble 9 k then (bif Nat.ble 11 k then (bif Nat.ble 12 k then ("PuppetTurnsModel", T_12, 26, ty_12) else ("PuppetTurns", T_11, 9, ty_11)) else (bif Nat.ble 10 k then ("PuppetTurns$Survey", T_10, 2, ty_10) else ("PuppetTurns$Steps", T_9, 2, ty_9))) else (bif Nat.ble 7 k then (bif Nat.ble 8 k then ("PuppetTurns$Sight", T_8, 2, ty_8) else ("PuppetTurns$Script", T_7, 2, ty_7)) else ("PuppetTurns$Schedule", T_6, 5, ty_6))) else (bif Nat.ble 3 k then (bif Nat.ble 4 k then (bif Nat.ble 5 k then ("PuppetTurns$Scene", T_5, 9, ty_5) else ("PuppetTurns$Reader", T_4, 6, ty_4)) else ("PuppetTurns$History", T_3, 3, ty_3)) else (bif Nat.ble 1 k then (bif Nat.ble 2 k then ("PuppetTurns$Forecast", T_2, 5, ty_2) else ("PuppetTurns$Failure", T_1, 6, ty_1)) else ("PuppetTurns$Cells", T_0, 2, ty_0))))
abbrev XO : Type := Instr × Nat × Nat × Nat × Bool × List Nat × List (Int32 × Nat)
abbrev XM : Type := MethodName × ByteArray × Nat × Option FieldType × Room × Nat × List (Nat × XO)
def mt_0 : XM := (⟨"PuppetTurns$Cells", "<init>", "(II)V"⟩, prog_2_method_1_code, 3, (Option.none : Option Jvm.ClassFile.FieldType), { frames := 1, cells := 1, slots := 600, locals := 60 }, 0, [
(0, .aload_n 0, 1, 0, 0, false, [], []),
  (1, .invokespecial 1, 3, 1000, 0, false, [113, 100, 101], []),
  (4, .aload_n 0, 1, 0, 0, false, [], []),
  (5, .iload_n 1, 1, 0, 0, false, [], []),
  (6, .iload_n 2, 1, 0, 0, false, [], []),
  (7, .imul, 1, 0, 0, false, [], []),
  (8, .iconst 0, 1, 0, 0, false, [], [(0, 0)]),
  (9, .invokestatic 7, 3, 203, 2, false, [114, 81, 116, 115], []),
  (12, .newarray .int, 2, 0, 0, false, [124], []),
  (14, .putfield 13, 3, 0, 0, false, [117], []),
  (17, .aload_n 0, 1, 0, 0, false, [], []),
  (18, .iload_n 2, 1, 0, 0, false, [], []),
  (19, .putfield 19, 3, 0, 1, false, [118], []),
  (22, .return_, 1, 0, 0, false, [], [])])
def mt_1 : XM := (⟨"PuppetTurns$Cells", "get", "(I)I"⟩, prog_2_method_2_code, 2, (Option.some Jvm.ClassFile.FieldType.int), { frames := 0, cells := 0, slots := 0, locals := 0 }, 0, [
(0, .iload_n 1, 1, 0, 0, false, [], []),
  (1, .ifCond .lt 21, 3, 22, 0, false, [], []),
  (4, .iload_n 1, 1, 0, 0, false, [], []),
  (5, .aload_n 0, 1, 0, 0, false, [], []),
  (6, .getfield 13, 3, 0, 0, false, [117], []),
  (9, .arraylength, 1, 0, 0, false, [], []),
  (10, .if_icmp .ge 12, 3, 22, 0, false, [], []),
  (13, .aload_n 0, 1, 0, 0, false, [], []),
  (14, .getfield 13, 3, 0, 0, false, [117], []),
  (17, .iload_n 1, 1, 0, 0, false, [], []),
  (18, .iaload, 1, 0, 0, false, [], []),
  (19, .goto 4, 3, 23, 0, false, [], []),
  (22, .iconst 0, 1, 0, 0, false, [], [(0, 0)]),
  (23, .ireturn, 1, 0, 0, false, [], [])])
def mt_2 : XM := (⟨"PuppetTurns$Cells", "get", "(II)I"⟩, prog_2_method_3_code, 4, (Option.some Jvm.ClassFile.FieldType.int), { frames := 0, cells := 0, slots := 0, locals := 0 }, 0, [
(0, .iload_n 1, 1, 0, 0, false, [], []),
  (1, .aload_n 0, 1, 0, 0, false, [], []),
  (2, .getfield 19, 3, 0, 1, false, [118], []),
  (5, .imul, 1, 0, 0, false, [], []),
  (6, .iload_n 2, 1, 0, 0, false, [], []),
  (7, .iadd, 1, 0, 0, false, [], []),
  (8, .istore_n 3, 1, 0, 0, false, [], []),
  (9, .iload_n 3, 1, 0, 0, false, [], []),
  (10, .ifCond .lt 21, 3, 31, 0, false, [], []),
  (13, .iload_n 3, 1, 0, 0, false, [], []),
  (14, .aload_n 0, 1, 0, 0, false, [], []),
  (15, .getfield 13, 3, 0, 0, false, [117], []),
  (18, .arraylength, 1, 0, 0, false, [], []),
  (19, .if_icmp .ge 12, 3, 31, 0, false, [], []),
  (22, .aload_n 0, 1, 0, 0, false, [], []),
  (23, .getfield 13, 3, 0, 0, false, [117], []),
  (26, .iload_n 3, 1, 0, 0, false, [], []),
  (27, .iaload, 1, 0, 0, false, [], []),
  (28, .goto 4, 3, 32, 0, false, [], []),
  (31, .iconst 0, 1, 0, 0, false, [], [(0, 0)]),
  (32, .ireturn, 1, 0, 0, false, [], [])])
def mt_3 : XM := (⟨"PuppetTurns$Cells", "set", "(II)V"⟩, prog_2_method_4_code, 3, (Option.none : Option Jvm.ClassFile.FieldType), { frames := 0, cells := 0, slots := 0, locals := 0 }, 0, [
(0, .iload_n 1, 1, 0, 0, false, [], []),
  (1, .ifCond .lt 19, 3, 20, 0, false, [], []),
  (4, .iload_n 1, 1, 0, 0, false, [], []),
  (5, .aload_n 0, 1, 0, 0, false, [], []),
  (6, .getfield 13, 3, 0, 0, false, [117], []),
  (9, .arraylength, 1, 0, 0, false, [], []),
  (10, .if_icmp .ge 10, 3, 20, 0, false, [], []),
  (13, .aload_n 0, 1, 0, 0, false, [], []),
  (14, .getfield 13, 3, 0, 0, false, [117], []),
  (17, .iload_n 1, 1, 0, 0, false, [], []),
  (18, .iload_n 2, 1, 0, 0, false, [], []),
  (19, .iastore, 1, 0, 0, false, [], []),
  (20, .return_, 1, 0, 0, false, [], [])])
def mt_4 : XM := (⟨"PuppetTurns$Cells", "set", "(III)V"⟩, prog_2_method_5_code, 5, (Option.none : Option Jvm.ClassFile.FieldType), { frames := 0, cells := 0, slots := 0, locals := 0 }, 0, [
(0, .iload_n 1, 1, 0, 0, false, [], []),
  (1, .aload_n 0, 1, 0, 0, false, [], []),
  (2, .getfield 19, 3, 0, 1, false, [118], []),
  (5, .imul, 1, 0, 0, false, [], []),
  (6, .iload_n 2, 1, 0, 0, false, [], []),
  (7, .iadd, 1, 0, 0, false, [], []),
  (8, .istore 4, 2, 0, 0, false, [], []),
  (10, .iload 4, 2, 0, 0, false, [], []),
  (12, .ifCond .lt 21, 3, 33, 0, false, [], []),
  (15, .iload 4, 2, 0, 0, false, [], []),
  (17, .aload_n 0, 1, 0, 0, false, [], []),
  (18, .getfield 13, 3, 0, 0, false, [117], []),
  (21, .arraylength, 1, 0, 0, false, [], []),
  (22, .if_icmp .ge 11, 3, 33, 0, false, [], []),
  (25, .aload_n 0, 1, 0, 0, false, [], []),
  (26, .getfield 13, 3, 0, 0, false, [117], []),
  (29, .iload 4, 2, 0, 0, false, [], []),
  (31, .iload_n 3, 1, 0, 0, false, [], []),
  (32, .iastore, 1, 0, 0, false, [], []),
  (33, .return_, 1, 0, 0, false, [], [])])
def mt_5 : XM := (⟨"PuppetTurns$Cells", "add", "(II)V"⟩, prog_2_method_6_code, 3, (Option.none : Option Jvm.ClassFile.FieldType), { frames := 0, cells := 0, slots := 0, locals := 0 }, 0, [
(0, .iload_n 1, 1, 0, 0, false, [], []),
  (1, .ifCond .lt 22, 3, 23, 0, false, [], []),
  (4, .iload_n 1, 1, 0, 0, false, [], []),
  (5, .aload_n 0, 1, 0, 0, false, [], []),
  (6, .getfield 13, 3, 0, 0, false, [117], []),
  (9, .arraylength, 1, 0, 0, false, [], []),
  (10, .if_icmp .ge 13, 3, 23, 0, false, [], []),
  (13, .aload_n 0, 1, 0, 0, false, [], []),
  (14, .getfield 13, 3, 0, 0, false, [117], []),
  (17, .iload_n 1, 1, 0, 0, false, [], []),
  (18, .dup2, 1, 0, 0, false, [], []),
  (19, .iaload, 1, 0, 0, false, [], []),
  (20, .iload_n 2, 1, 0, 0, false, [], []),
  (21, .iadd, 1, 0, 0, false, [], []),
  (22, .iastore, 1, 0, 0, false, [], []),
  (23, .return_, 1, 0, 0, false, [], [])])
def mt_6 : XM := (⟨"PuppetTurns$Cells", "fill", "(I)V"⟩, prog_2_method_7_code, 3, (Option.none : Option Jvm.ClassFile.FieldType), { frames := 0, cells := 0, slots := 0, locals := 0 }, 0, [
(0, .iconst 0, 1, 0, 0, false, [], [(0, 0)]),
  (1, .istore_n 2, 1, 0, 0, false, [], []),
  (2, .iload_n 2, 1, 0, 0, false, [], []),
  (3, .aload_n 0, 1, 0, 0, false, [], []),
  (4, .getfield 13, 3, 0, 0, false, [117], []),
  (7, .arraylength, 1, 0, 0, false, [], []),
  (8, .if_icmp .ge 16, 3, 24, 0, false, [], []),
  (11, .aload_n 0, 1, 0, 0, false, [], []),
  (12, .getfield 13, 3, 0, 0, false, [117], []),
  (15, .iload_n 2, 1, 0, 0, false, [], []),
  (16, .iload_n 1, 1, 0, 0, false, [], []),
  (17, .iastore, 1, 0, 0, false, [], []),
  (18, .iinc 2 1, 3, 0, 0, false, [], [(1, 0)]),
  (21, .goto (-19), 3, 2, 0, false, [], []),
  (24, .return_, 1, 0, 0, false, [], [])])
def mt_7 : XM := (⟨"PuppetTurns$Cells", "copyFrom", "(LPuppetTurns$Cells;)V"⟩, prog_2_method_8_code, 2, (Option.none : Option Jvm.ClassFile.FieldType), { frames := 1, cells := 0, slots := 0, locals := 60 }, 0, [
(0, .aload_n 1, 1, 0, 0, false, [], []),
  (1, .getfield 13, 3, 0, 0, false, [117], []),
  (4, .iconst 0, 1, 0, 0, false, [], [(0, 0)]),
  (5, .aload_n 0, 1, 0, 0, false, [], []),
  (6, .getfield 13, 3, 0, 0, false, [117], []),
  (9, .iconst 0, 1, 0, 0, false, [], [(0, 0)]),
  (10, .aload_n 1, 1, 0, 0, false, [], []),
  (11, .getfield 13, 3, 0, 0, false, [117], []),
  (14, .arraylength, 1, 0, 0, false, [], []),
  (15, .aload_n 0, 1, 0, 0, false, [], []),
  (16, .getfield 13, 3, 0, 0, false, [117], []),
  (19, .arraylength, 1, 0, 0, false, [], []),
  (20, .invokestatic 23, 3, 204, 2, false, [420, 81, 422, 421], []),
  (23, .invokestatic 26, 3, 1001, 0, false, [423, 425, 424, 92], []),
  (26, .return_, 1, 0, 0, false, [], [])])
def mt_8 : XM := (⟨"PuppetTurns$Failure", "<init>", "()V"⟩, prog_3_method_1_code, 1, (Option.none : Option Jvm.ClassFile.FieldType), { frames := 1, cells := 0, slots := 0, locals := 60 }, 1, [
(0, .aload_n 0, 1, 0, 0, false, [], []),
  (1, .invokespecial 3, 3, 1000, 0, false, [360, 100, 101], []),
  (4, .aload_n 0, 1, 0, 0, false, [], []),
  (5, .iconst 0, 1, 0, 0, false, [], [(0, 0)]),
  (6, .putfield 9, 3, 1, 0, false, [361], []),
  (9, .aload_n 0, 1, 0, 0, false, [], []),
  (10, .iconst 0, 1, 0, 0, false, [], [(0, 0)]),
  (11, .putfield 15, 3, 1, 1, false, [362], []),
  (14, .aload_n 0, 1, 0, 0, false, [], []),
  (15, .iconst 0, 1, 0, 0, false, [], [(0, 0)]),
  (16, .putfield 19, 3, 1, 2, false, [363], []),
  (19, .aload_n 0, 1, 0, 0, false, [], []),
  (20, .iconst 0, 1, 0, 0, false, [], [(0, 0)]),
  (21, .putfield 22, 3, 1, 3, false, [364], []),
  (24, .aload_n 0, 1, 0, 0, false, [], []),
  (25, .iconst 0, 1, 0, 0, false, [], [(0, 0)]),
  (26, .putfield 25, 3, 1, 4, false, [365], []),
  (29, .aload_n 0, 1, 0, 0, false, [], []),
  (30, .bipush (-109), 2, 0, 0, false, [], [((-109), 0)]),
  (32, .putfield 28, 3, 1, 5, false, [366], []),
  (35, .return_, 1, 0, 0, false, [], [])])
def mt_9 : XM := (⟨"PuppetTurns$Failure", "set", "(IIIII)V"⟩, prog_3_method_2_code, 6, (Option.none : Option Jvm.ClassFile.FieldType), { frames := 0, cells := 0, slots := 0, locals := 0 }, 1, [
(0, .aload_n 0, 1, 0, 0, false, [], []),
  (1, .iconst 1, 1, 0, 0, false, [], [(1, 0)]),
  (2, .putfield 9, 3, 1, 0, false, [361], []),
  (5, .aload_n 0, 1, 0, 0, false, [], []),
  (6, .iload_n 1, 1, 0, 0, false, [], []),
  (7, .putfield 15, 3, 1, 1, false, [362], []),
  (10, .aload_n 0, 1, 0, 0, false, [], []),
  (11, .iload_n 2, 1, 0, 0, false, [], []),
  (12, .putfield 19, 3, 1, 2, false, [363], []),
  (15, .aload_n 0, 1, 0, 0, false, [], []),
  (16, .iload_n 3, 1, 0, 0, false, [], []),
  (17, .putfield 22, 3, 1, 3, false, [364], []),
  (20, .aload_n 0, 1, 0, 0, false, [], []),
  (21, .iload 4, 2, 0, 0, false, [], []),
  (23, .putfield 25, 3, 1, 4, false, [365], []),
  (26, .aload_n 0, 1, 0, 0, false, [], []),
  (27, .iload 5, 2, 0, 0, false, [], []),
  (29, .putfield 28, 3, 1, 5, false, [366], []),
  (32, .return_, 1, 0, 0, false, [], [])])
def mt_10 : XM := (⟨"PuppetTurns$Failure", "part", "(I)I"⟩, prog_3_method_3_code, 2, (Option.some Jvm.ClassFile.FieldType.int), { frames := 0, cells := 0, slots := 0, locals := 0 }, 1, [
(0, .aload_n 0, 1, 0, 0, false, [], []),
  (1, .getfield 9, 3, 1, 0, false, [361], []),
  (4, .ifCond .ne 6, 3, 10, 0, false, [], []),
  (7, .bipush (-109), 2, 0, 0, false, [], [((-109), 0)]),
  (9, .ireturn, 1, 0, 0, false, [], []),
  (10, .iload_n 1, 1, 0, 0, false, [], []),
  (11, .tableswitch 49 0 3 #[29, 34, 39, 44], 29, 60, 0, false, [], [(0, 40), (1, 45), (2, 50), (3, 55)]),
  (40, .aload_n 0, 1, 0, 0, false, [], []),
  (41, .getfield 15, 3, 1, 1, false, [362], []),
  (44, .ireturn, 1, 0, 0, false, [], []),
  (45, .aload_n 0, 1, 0, 0, false, [], []),
  (46, .getfield 19, 3, 1, 2, false, [363], []),
  (49, .ireturn, 1, 0, 0, false, [], []),
  (50, .aload_n 0, 1, 0, 0, false, [], []),
  (51, .getfield 22, 3, 1, 3, false, [364], []),
  (54, .ireturn, 1, 0, 0, false, [], []),
  (55, .aload_n 0, 1, 0, 0, false, [], []),
  (56, .getfield 25, 3, 1, 4, false, [365], []),
  (59, .ireturn, 1, 0, 0, false, [], []),
  (60, .aload_n 0, 1, 0, 0, false, [], []),
  (61, .getfield 28, 3, 1, 5, false, [366], []),
  (64, .ireturn, 1, 0, 0, false, [], [])])
def mt_11 : XM := (⟨"PuppetTurns$Forecast", "<init>", "()V"⟩, prog_4_method_1_code, 1, (Option.none : Option Jvm.ClassFile.FieldType), { frames := 3, cells := 14, slots := 3623, locals := 102 }, 2, [
(0, .aload_n 0, 1, 0, 0, false, [], []),
  (1, .invokespecial 3, 3, 1000, 0, false, [215, 100, 101], []),
  (4, .aload_n 0, 1, 0, 0, false, [], []),
  (5, .new 9, 3, 5, 0, false, [216, 103, 79], []),
  (8, .dup, 1, 0, 0, false, [], []),
  (9, .invokespecial 11, 3, 36, 0, false, [217, 79, 106, 105], []),
  (12, .putfield 12, 3, 2, 0, false, [222], []),
  (15, .aload_n 0, 1, 0, 0, false, [], []),
  (16, .new 18, 3, 10, 0, false, [218, 177, 82], []),
  (19, .dup, 1, 0, 0, false, [], []),
  (20, .invokespecial 20, 3, 85, 0, true, [219, 82, 180, 179], []),
  (23, .putfield 21, 3, 2, 1, false, [223], []),
  (26, .aload_n 0, 1, 0, 0, false, [], []),
  (27, .new 25, 3, 0, 0, false, [220, 109, 80], []),
  (30, .dup, 1, 0, 0, false, [], []),
  (31, .bipush 20, 2, 0, 0, false, [], [(20, 0)]),
  (33, .iconst 1, 1, 0, 0, false, [], [(1, 0)]),
  (34, .invokespecial 27, 3, 0, 2, false, [221, 80, 112, 111], []),
  (37, .putfield 30, 3, 2, 2, false, [224], []),
  (40, .aload_n 0, 1, 0, 0, false, [], []),
  (41, .iconst 1, 1, 0, 0, false, [], [(1, 0)]),
  (42, .putfield 34, 3, 2, 3, false, [225], []),
  (45, .aload_n 0, 1, 0, 0, false, [], []),
  (46, .iconst 0, 1, 0, 0, false, [], [(0, 0)]),
  (47, .putfield 38, 3, 2, 4, false, [227], []),
  (50, .return_, 1, 0, 0, false, [], [])])
def mt_12 : XM := (⟨"PuppetTurns$Forecast", "hiddenSince", "(LPuppetTurns$Scene;I)I"⟩, prog_4_method_2_code, 3, (Option.some Jvm.ClassFile.FieldType.int), { frames := 1, cells := 0, slots := 0, locals := 23 }, 2, [
(0, .aload_n 0, 1, 0, 0, false, [], []),
  (1, .getfield 12, 3, 2, 0, false, [222], []),
  (4, .getfield 41, 3, 5, 1, true, [131], []),
  (7, .iload_n 2, 1, 0, 0, false, [], []),
  (8, .bipush 7, 2, 0, 0, false, [], [(7, 0)]),
  (10, .invokevirtual 44, 3, 2, 2, false, [844, 80, 436, 434, 435], []),
  (13, .aload_n 1, 1, 0, 0, false, [], []),
  (14, .getfield 41, 3, 5, 1, true, [131], []),
  (17, .iload_n 2, 1, 0, 0, false, [], []),
  (18, .bipush 7, 2, 0, 0, false, [], [(7, 0)]),
  (20, .invokevirtual 44, 3, 2, 2, false, [844, 80, 436, 434, 435], []),
  (23, .isub, 1, 0, 0, false, [], []),
  (24, .ireturn, 1, 0, 0, false, [], [])])
def mt_13 : XM := (⟨"PuppetTurns$Forecast", "hiddenFrames", "(LPuppetTurns$Scene;II)I"⟩, prog_4_method_3_code, 5, (Option.some Jvm.ClassFile.FieldType.int), { frames := 4, cells := 0, slots := 0, locals := 102 }, 2, [
(0, .aload_n 0, 1, 0, 0, false, [], []),
  (1, .getfield 12, 3, 2, 0, false, [222], []),
  (4, .aload_n 1, 1, 0, 0, false, [], []),
  (5, .invokevirtual 48, 3, 37, 1, false, [837, 79, 415, 413, 414], []),
  (8, .iconst 0, 1, 0, 0, false, [], [(0, 0)]),
  (9, .istore 4, 2, 0, 0, false, [], []),
  (11, .iload 4, 2, 0, 0, false, [], []),
  (13, .iload_n 3, 1, 0, 0, false, [], []),
  (14, .if_icmp .ge 23, 3, 37, 0, false, [], []),
  (17, .aload_n 0, 1, 0, 0, false, [], []),
  (18, .getfield 12, 3, 2, 0, false, [222], []),
  (21, .aload_n 0, 1, 0, 0, false, [], []),
  (22, .getfield 21, 3, 2, 1, false, [223], []),
  (25, .ldc 52, 2, 0, 0, false, [838], [(1000000, 0)]),
  (27, .invokevirtual 53, 3, 60, 2, false, [839, 79, 568, 566, 567], []),
  (30, .pop, 1, 0, 0, false, [], []),
  (31, .iinc 4 1, 3, 0, 0, false, [], [(1, 0)]),
  (34, .goto (-23), 3, 11, 0, false, [], []),
  (37, .aload_n 0, 1, 0, 0, false, [], []),
  (38, .aload_n 1, 1, 0, 0, false, [], []),
  (39, .iload_n 2, 1, 0, 0, false, [], []),
  (40, .invokevirtual 57, 3, 12, 2, false, [840, 84, 843, 842, 23], []),
  (43, .ireturn, 1, 0, 0, false, [], [])])
def mt_14 : XM := (⟨"PuppetTurns$Forecast", "framesUntilAllShown", "(LPuppetTurns$Scene;)I"⟩, prog_4_method_4_code, 3, (Option.some Jvm.ClassFile.FieldType.int), { frames := 4, cells := 0, slots := 0, locals := 102 }, 2, [
(0, .aload_n 1, 1, 0, 0, false, [], []),
  (1, .getfield 61, 3, 5, 3, true, [141], []),
  (4, .ifCond .ne 5, 3, 9, 0, false, [], []),
  (7, .iconst 0, 1, 0, 0, false, [], [(0, 0)]),
  (8, .ireturn, 1, 0, 0, false, [], []),
  (9, .aload_n 0, 1, 0, 0, false, [], []),
  (10, .getfield 12, 3, 2, 0, false, [222], []),
  (13, .aload_n 1, 1, 0, 0, false, [], []),
  (14, .invokevirtual 48, 3, 37, 1, false, [837, 79, 415, 413, 414], []),
  (17, .iconst 1, 1, 0, 0, false, [], [(1, 0)]),
  (18, .istore_n 2, 1, 0, 0, false, [], []),
  (19, .iload_n 2, 1, 0, 0, false, [], []),
  (20, .bipush 60, 2, 0, 0, false, [], [(60, 0)]),
  (22, .if_icmp .gt 34, 3, 56, 0, false, [], []),
  (25, .aload_n 0, 1, 0, 0, false, [], []),
  (26, .getfield 12, 3, 2, 0, false, [222], []),
  (29, .aload_n 0, 1, 0, 0, false, [], []),
  (30, .getfield 21, 3, 2, 1, false, [223], []),
  (33, .ldc 52, 2, 0, 0, false, [838], [(1000000, 0)]),
  (35, .invokevirtual 53, 3, 60, 2, false, [839, 79, 568, 566, 567], []),
  (38, .pop, 1, 0, 0, false, [], []),
  (39, .aload_n 0, 1, 0, 0, false, [], []),
  (40, .aload_n 1, 1, 0, 0, false, [], []),
  (41, .iload_n 2, 1, 0, 0, false, [], []),
  (42, .invokevirtual 64, 3, 15, 2, false, [853, 84, 856, 855, 24], []),
  (45, .ifCond .eq 5, 3, 50, 0, false, [], []),
  (48, .iload_n 2, 1, 0, 0, false, [], []),
  (49, .ireturn, 1, 0, 0, false, [], []),
  (50, .iinc 2 1, 3, 0, 0, false, [], [(1, 0)]),
  (53, .goto (-34), 3, 19, 0, false, [], []),
  (56, .bipush (-109), 2, 0, 0, false, [], [((-109), 0)]),
  (58, .ireturn, 1, 0, 0, false, [], [])])
def mt_15 : XM := (⟨"PuppetTurns$Forecast", "allShownWithin", "(LPuppetTurns$Scene;I)Z"⟩, prog_4_method_5_code, 4, (Option.some Jvm.ClassFile.FieldType.boolean), { frames := 2, cells := 0, slots := 0, locals := 45 }, 2, [
(0, .iconst 0, 1, 0, 0, false, [], [(0, 0)]),
  (1, .istore_n 3, 1, 0, 0, false, [], []),
  (2, .iload_n 3, 1, 0, 0, false, [], []),
  (3, .aload_n 1, 1, 0, 0, false, [], []),
  (4, .getfield 61, 3, 5, 3, true, [141], []),
  (7, .if_icmp .ge 28, 3, 35, 0, false, [], []),
  (10, .aload_n 0, 1, 0, 0, false, [], []),
  (11, .aload_n 1, 1, 0, 0, false, [], []),
  (12, .aload_n 1, 1, 0, 0, false, [], []),
  (13, .getfield 68, 3, 5, 2, true, [137], []),
  (16, .iload_n 3, 1, 0, 0, false, [], []),
  (17, .invokevirtual 71, 3, 1, 1, false, [857, 80, 493, 491, 492], []),
  (20, .invokevirtual 57, 3, 12, 2, false, [840, 84, 843, 842, 23], []),
  (23, .iload_n 2, 1, 0, 0, false, [], []),
  (24, .if_icmp .lt 5, 3, 29, 0, false, [], []),
  (27, .iconst 0, 1, 0, 0, false, [], [(0, 0)]),
  (28, .ireturn, 1, 0, 0, false, [], []),
  (29, .iinc 3 1, 3, 0, 0, false, [], [(1, 0)]),
  (32, .goto (-30), 3, 2, 0, false, [], []),
  (35, .iconst 1, 1, 0, 0, false, [], [(1, 0)]),
  (36, .ireturn, 1, 0, 0, false, [], [])])
def mt_16 : XM := (⟨"PuppetTurns$Forecast", "findStep", "(LPuppetTurns$Scene;)V"⟩, prog_4_method_6_code, 4, (Option.none : Option Jvm.ClassFile.FieldType), { frames := 5, cells := 0, slots := 0, locals := 124 }, 2, [
(0, .aload_n 0, 1, 0, 0, false, [], []),
  (1, .aload_n 1, 1, 0, 0, false, [], []),
  (2, .invokevirtual 74, 3, 17, 1, false, [866, 84, 869, 868, 25], []),
  (5, .aload_n 0, 1, 0, 0, false, [], []),
  (6, .iconst 1, 1, 0, 0, false, [], [(1, 0)]),
  (7, .putfield 34, 3, 2, 3, false, [225], []),
  (10, .aload_n 0, 1, 0, 0, false, [], []),
  (11, .aload_n 0, 1, 0, 0, false, [], []),
  (12, .aload_n 1, 1, 0, 0, false, [], []),
  (13, .iconst 1, 1, 0, 0, false, [], [(1, 0)]),
  (14, .invokevirtual 77, 3, 18, 2, false, [875, 84, 878, 877, 26], []),
  (17, .putfield 38, 3, 2, 4, false, [227], []),
  (20, .iconst 2, 1, 0, 0, false, [], [(2, 0)]),
  (21, .istore_n 2, 1, 0, 0, false, [], []),
  (22, .iload_n 2, 1, 0, 0, false, [], []),
  (23, .bipush 19, 2, 0, 0, false, [], [(19, 0)]),
  (25, .if_icmp .gt 34, 3, 59, 0, false, [], []),
  (28, .aload_n 0, 1, 0, 0, false, [], []),
  (29, .aload_n 1, 1, 0, 0, false, [], []),
  (30, .iload_n 2, 1, 0, 0, false, [], []),
  (31, .invokevirtual 77, 3, 18, 2, false, [875, 84, 878, 877, 26], []),
  (34, .istore_n 3, 1, 0, 0, false, [], []),
  (35, .iload_n 3, 1, 0, 0, false, [], []),
  (36, .aload_n 0, 1, 0, 0, false, [], []),
  (37, .getfield 38, 3, 2, 4, false, [227], []),
  (40, .if_icmp .ge 13, 3, 53, 0, false, [], []),
  (43, .aload_n 0, 1, 0, 0, false, [], []),
  (44, .iload_n 2, 1, 0, 0, false, [], []),
  (45, .putfield 34, 3, 2, 3, false, [225], []),
  (48, .aload_n 0, 1, 0, 0, false, [], []),
  (49, .iload_n 3, 1, 0, 0, false, [], []),
  (50, .putfield 38, 3, 2, 4, false, [227], []),
  (53, .iinc 2 1, 3, 0, 0, false, [], [(1, 0)]),
  (56, .goto (-34), 3, 22, 0, false, [], []),
  (59, .return_, 1, 0, 0, false, [], [])])
def mt_17 : XM := (⟨"PuppetTurns$Forecast", "noteHiddenByTurns", "(LPuppetTurns$Scene;)V"⟩, prog_4_method_7_code, 3, (Option.none : Option Jvm.ClassFile.FieldType), { frames := 4, cells := 0, slots := 0, locals := 102 }, 2, [
(0, .aload_n 0, 1, 0, 0, false, [], []),
  (1, .getfield 12, 3, 2, 0, false, [222], []),
  (4, .aload_n 1, 1, 0, 0, false, [], []),
  (5, .invokevirtual 48, 3, 37, 1, false, [837, 79, 415, 413, 414], []),
  (8, .aload_n 0, 1, 0, 0, false, [], []),
  (9, .getfield 12, 3, 2, 0, false, [222], []),
  (12, .iconst 1, 1, 0, 0, false, [], [(1, 0)]),
  (13, .putfield 80, 3, 5, 6, true, [150], []),
  (16, .aload_n 0, 1, 0, 0, false, [], []),
  (17, .getfield 12, 3, 2, 0, false, [222], []),
  (20, .iconst 1, 1, 0, 0, false, [], [(1, 0)]),
  (21, .putfield 83, 3, 5, 7, true, [153], []),
  (24, .iconst 0, 1, 0, 0, false, [], [(0, 0)]),
  (25, .istore_n 2, 1, 0, 0, false, [], []),
  (26, .iload_n 2, 1, 0, 0, false, [], []),
  (27, .aload_n 1, 1, 0, 0, false, [], []),
  (28, .getfield 61, 3, 5, 3, true, [141], []),
  (31, .if_icmp .ge 38, 3, 69, 0, false, [], []),
  (34, .aload_n 0, 1, 0, 0, false, [], []),
  (35, .getfield 12, 3, 2, 0, false, [222], []),
  (38, .aload_n 0, 1, 0, 0, false, [], []),
  (39, .getfield 21, 3, 2, 1, false, [223], []),
  (42, .ldc 52, 2, 0, 0, false, [838], [(1000000, 0)]),
  (44, .invokevirtual 53, 3, 60, 2, false, [839, 79, 568, 566, 567], []),
  (47, .pop, 1, 0, 0, false, [], []),
  (48, .aload_n 0, 1, 0, 0, false, [], []),
  (49, .getfield 30, 3, 2, 2, false, [224], []),
  (52, .iload_n 2, 1, 0, 0, false, [], []),
  (53, .aload_n 0, 1, 0, 0, false, [], []),
  (54, .getfield 21, 3, 2, 1, false, [223], []),
  (57, .invokevirtual 84, 3, 89, 0, false, [870, 82, 873, 871, 872], []),
  (60, .invokevirtual 88, 3, 3, 2, false, [874, 80, 469, 467, 468], []),
  (63, .iinc 2 1, 3, 0, 0, false, [], [(1, 0)]),
  (66, .goto (-40), 3, 26, 0, false, [], []),
  (69, .return_, 1, 0, 0, false, [], [])])
def mt_18 : XM := (⟨"PuppetTurns$Forecast", "greatestWith", "(LPuppetTurns$Scene;I)I"⟩, prog_4_method_8_code, 5, (Option.some Jvm.ClassFile.FieldType.int), { frames := 2, cells := 0, slots := 0, locals := 47 }, 2, [
(0, .iconst 0, 1, 0, 0, false, [], [(0, 0)]),
  (1, .istore_n 3, 1, 0, 0, false, [], []),
  (2, .iconst 0, 1, 0, 0, false, [], [(0, 0)]),
  (3, .istore 4, 2, 0, 0, false, [], []),
  (5, .iload 4, 2, 0, 0, false, [], []),
  (7, .aload_n 1, 1, 0, 0, false, [], []),
  (8, .getfield 61, 3, 5, 3, true, [141], []),
  (11, .if_icmp .ge 32, 3, 43, 0, false, [], []),
  (14, .iload_n 3, 1, 0, 0, false, [], []),
  (15, .aload_n 0, 1, 0, 0, false, [], []),
  (16, .aload_n 1, 1, 0, 0, false, [], []),
  (17, .getfield 68, 3, 5, 2, true, [137], []),
  (20, .iload 4, 2, 0, 0, false, [], []),
  (22, .invokevirtual 71, 3, 1, 1, false, [857, 80, 493, 491, 492], []),
  (25, .iload_n 2, 1, 0, 0, false, [], []),
  (26, .aload_n 1, 1, 0, 0, false, [], []),
  (27, .getfield 61, 3, 5, 3, true, [141], []),
  (30, .invokevirtual 91, 3, 19, 3, false, [879, 84, 882, 881, 27], []),
  (33, .invokestatic 95, 3, 203, 2, false, [883, 81, 116, 115], []),
  (36, .istore_n 3, 1, 0, 0, false, [], []),
  (37, .iinc 4 1, 3, 0, 0, false, [], [(1, 0)]),
  (40, .goto (-35), 3, 5, 0, false, [], []),
  (43, .iload_n 3, 1, 0, 0, false, [], []),
  (44, .ireturn, 1, 0, 0, false, [], [])])
def mt_19 : XM := (⟨"PuppetTurns$Forecast", "framesHidden", "(III)I"⟩, prog_4_method_9_code, 7, (Option.some Jvm.ClassFile.FieldType.int), { frames := 1, cells := 0, slots := 0, locals := 21 }, 2, [
(0, .iconst 0, 1, 0, 0, false, [], [(0, 0)]),
  (1, .istore 4, 2, 0, 0, false, [], []),
  (3, .iconst 0, 1, 0, 0, false, [], [(0, 0)]),
  (4, .istore 5, 2, 0, 0, false, [], []),
  (6, .iload 5, 2, 0, 0, false, [], []),
  (8, .bipush 20, 2, 0, 0, false, [], [(20, 0)]),
  (10, .if_icmp .ge 43, 3, 53, 0, false, [], []),
  (13, .iload_n 3, 1, 0, 0, false, [], []),
  (14, .ifCond .le 12, 3, 26, 0, false, [], []),
  (17, .iload 5, 2, 0, 0, false, [], []),
  (19, .iload_n 2, 1, 0, 0, false, [], []),
  (20, .imul, 1, 0, 0, false, [], []),
  (21, .iload_n 3, 1, 0, 0, false, [], []),
  (22, .irem, 1, 0, 0, false, [], []),
  (23, .goto 4, 3, 27, 0, false, [], []),
  (26, .iconst 0, 1, 0, 0, false, [], [(0, 0)]),
  (27, .istore 6, 2, 0, 0, false, [], []),
  (29, .iload 4, 2, 0, 0, false, [], []),
  (31, .aload_n 0, 1, 0, 0, false, [], []),
  (32, .getfield 30, 3, 2, 2, false, [224], []),
  (35, .iload 6, 2, 0, 0, false, [], []),
  (37, .invokevirtual 71, 3, 1, 1, false, [857, 80, 493, 491, 492], []),
  (40, .iload_n 1, 1, 0, 0, false, [], []),
  (41, .ishr, 1, 0, 0, false, [], []),
  (42, .iconst 1, 1, 0, 0, false, [], [(1, 0)]),
  (43, .iand, 1, 0, 0, false, [], []),
  (44, .iadd, 1, 0, 0, false, [], []),
  (45, .istore 4, 2, 0, 0, false, [], []),
  (47, .iinc 5 1, 3, 0, 0, false, [], [(1, 0)]),
  (50, .goto (-44), 3, 6, 0, false, [], []),
  (53, .iload 4, 2, 0, 0, false, [], []),
  (55, .ireturn, 1, 0, 0, false, [], [])])
def mt_20 : XM := (⟨"PuppetTurns$History", "<init>", "()V"⟩, prog_5_method_1_code, 2, (Option.none : Option Jvm.ClassFile.FieldType), { frames := 3, cells := 36, slots := 9080, locals := 102 }, 3, [
(0, .aload_n 0, 1, 0, 0, false, [], []),
  (1, .invokespecial 3, 3, 1000, 0, false, [245, 100, 101], []),
  (4, .aload_n 0, 1, 0, 0, false, [], []),
  (5, .iconst 5, 1, 0, 0, false, [], [(5, 0)]),
  (6, .anewarray 9, 3, 0, 0, false, [246, 247], []),
  (9, .putfield 11, 3, 3, 0, false, [249], []),
  (12, .aload_n 0, 1, 0, 0, false, [], []),
  (13, .iconst 0, 1, 0, 0, false, [], [(0, 0)]),
  (14, .putfield 17, 3, 3, 1, false, [250], []),
  (17, .aload_n 0, 1, 0, 0, false, [], []),
  (18, .iconst 0, 1, 0, 0, false, [], [(0, 0)]),
  (19, .putfield 21, 3, 3, 2, false, [251], []),
  (22, .iconst 0, 1, 0, 0, false, [], [(0, 0)]),
  (23, .istore_n 1, 1, 0, 0, false, [], []),
  (24, .iload_n 1, 1, 0, 0, false, [], []),
  (25, .aload_n 0, 1, 0, 0, false, [], []),
  (26, .getfield 11, 3, 3, 0, false, [249], []),
  (29, .arraylength, 1, 0, 0, false, [], []),
  (30, .if_icmp .ge 22, 3, 52, 0, false, [], []),
  (33, .aload_n 0, 1, 0, 0, false, [], []),
  (34, .getfield 11, 3, 3, 0, false, [249], []),
  (37, .iload_n 1, 1, 0, 0, false, [], []),
  (38, .new 9, 3, 5, 0, false, [246, 103, 79], []),
  (41, .dup, 1, 0, 0, false, [], []),
  (42, .invokespecial 24, 3, 36, 0, false, [248, 79, 106, 105], []),
  (45, .aastore, 1, 0, 0, false, [], []),
  (46, .iinc 1 1, 3, 0, 0, false, [], [(1, 0)]),
  (49, .goto (-25), 3, 24, 0, false, [], []),
  (52, .return_, 1, 0, 0, false, [], [])])
def mt_21 : XM := (⟨"PuppetTurns$History", "newestSlot", "()LPuppetTurns$Scene;"⟩, prog_5_method_2_code, 1, (Option.some (Jvm.ClassFile.FieldType.object "PuppetTurns$Scene")), { frames := 0, cells := 0, slots := 0, locals := 0 }, 3, [
(0, .aload_n 0, 1, 0, 0, false, [], []),
  (1, .getfield 17, 3, 3, 1, false, [250], []),
  (4, .ifCond .lt 27, 3, 31, 0, false, [], []),
  (7, .aload_n 0, 1, 0, 0, false, [], []),
  (8, .getfield 17, 3, 3, 1, false, [250], []),
  (11, .aload_n 0, 1, 0, 0, false, [], []),
  (12, .getfield 11, 3, 3, 0, false, [249], []),
  (15, .arraylength, 1, 0, 0, false, [], []),
  (16, .if_icmp .ge 15, 3, 31, 0, false, [], []),
  (19, .aload_n 0, 1, 0, 0, false, [], []),
  (20, .getfield 11, 3, 3, 0, false, [249], []),
  (23, .aload_n 0, 1, 0, 0, false, [], []),
  (24, .getfield 17, 3, 3, 1, false, [250], []),
  (27, .aaload, 1, 0, 0, false, [], []),
  (28, .goto 4, 3, 32, 0, false, [], []),
  (31, .aconst_null, 1, 0, 0, false, [], []),
  (32, .areturn, 1, 0, 0, false, [], [])])
def mt_22 : XM := (⟨"PuppetTurns$History", "record", "(LPuppetTurns$Scene;)V"⟩, prog_5_method_3_code, 3, (Option.none : Option Jvm.ClassFile.FieldType), { frames := 3, cells := 0, slots := 0, locals := 102 }, 3, [
(0, .aload_n 0, 1, 0, 0, false, [], []),
  (1, .aload_n 0, 1, 0, 0, false, [], []),
  (2, .getfield 17, 3, 3, 1, false, [250], []),
  (5, .iconst 1, 1, 0, 0, false, [], [(1, 0)]),
  (6, .iadd, 1, 0, 0, false, [], []),
  (7, .iconst 5, 1, 0, 0, false, [], [(5, 0)]),
  (8, .irem, 1, 0, 0, false, [], []),
  (9, .putfield 17, 3, 3, 1, false, [250], []),
  (12, .aload_n 0, 1, 0, 0, false, [], []),
  (13, .aload_n 0, 1, 0, 0, false, [], []),
  (14, .getfield 21, 3, 3, 2, false, [251], []),
  (17, .iconst 1, 1, 0, 0, false, [], [(1, 0)]),
  (18, .iadd, 1, 0, 0, false, [], []),
  (19, .iconst 5, 1, 0, 0, false, [], [(5, 0)]),
  (20, .invokestatic 25, 3, 204, 2, false, [449, 81, 422, 421], []),
  (23, .putfield 21, 3, 3, 2, false, [251], []),
  (26, .aload_n 0, 1, 0, 0, false, [], []),
  (27, .invokevirtual 31, 3, 21, 0, false, [450, 85, 453, 452, 1], []),
  (30, .astore_n 2, 1, 0, 0, false, [], []),
  (31, .aload_n 2, 1, 0, 0, false, [], []),
  (32, .ifnull 8, 3, 40, 0, false, [], []),
  (35, .aload_n 2, 1, 0, 0, false, [], []),
  (36, .aload_n 1, 1, 0, 0, false, [], []),
  (37, .invokevirtual 35, 3, 37, 1, false, [454, 79, 415, 413, 414], []),
  (40, .return_, 1, 0, 0, false, [], [])])
def mt_23 : XM := (⟨"PuppetTurns$History", "restore", "(LPuppetTurns$Scene;)V"⟩, prog_5_method_4_code, 3, (Option.none : Option Jvm.ClassFile.FieldType), { frames := 3, cells := 0, slots := 0, locals := 102 }, 3, [
(0, .aload_n 0, 1, 0, 0, false, [], []),
  (1, .invokevirtual 31, 3, 21, 0, false, [450, 85, 453, 452, 1], []),
  (4, .astore_n 2, 1, 0, 0, false, [], []),
  (5, .aload_n 2, 1, 0, 0, false, [], []),
  (6, .ifnull 8, 3, 14, 0, false, [], []),
  (9, .aload_n 1, 1, 0, 0, false, [], []),
  (10, .aload_n 2, 1, 0, 0, false, [], []),
  (11, .invokevirtual 35, 3, 37, 1, false, [454, 79, 415, 413, 414], []),
  (14, .aload_n 0, 1, 0, 0, false, [], []),
  (15, .aload_n 0, 1, 0, 0, false, [], []),
  (16, .getfield 17, 3, 3, 1, false, [250], []),
  (19, .iconst 5, 1, 0, 0, false, [], [(5, 0)]),
  (20, .iadd, 1, 0, 0, false, [], []),
  (21, .iconst 1, 1, 0, 0, false, [], [(1, 0)]),
  (22, .isub, 1, 0, 0, false, [], []),
  (23, .iconst 5, 1, 0, 0, false, [], [(5, 0)]),
  (24, .irem, 1, 0, 0, false, [], []),
  (25, .putfield 17, 3, 3, 1, false, [250], []),
  (28, .aload_n 0, 1, 0, 0, false, [], []),
  (29, .dup, 1, 0, 0, false, [], []),
  (30, .getfield 21, 3, 3, 2, false, [251], []),
  (33, .iconst 1, 1, 0, 0, false, [], [(1, 0)]),
  (34, .isub, 1, 0, 0, false, [], []),
  (35, .putfield 21, 3, 3, 2, false, [251], []),
  (38, .return_, 1, 0, 0, false, [], [])])
def mt_24 : XM := (⟨"PuppetTurns$Reader", "<init>", "()V"⟩, prog_6_method_1_code, 1, (Option.none : Option Jvm.ClassFile.FieldType), { frames := 3, cells := 8, slots := 1810, locals := 102 }, 4, [
(0, .aload_n 0, 1, 0, 0, false, [], []),
  (1, .invokespecial 3, 3, 1000, 0, false, [265, 100, 101], []),
  (4, .aload_n 0, 1, 0, 0, false, [], []),
  (5, .new 9, 3, 7, 0, false, [266, 267, 87], []),
  (8, .dup, 1, 0, 0, false, [], []),
  (9, .invokespecial 11, 3, 69, 0, true, [268, 87, 270, 269], []),
  (12, .putfield 12, 3, 4, 0, false, [305], []),
  (15, .aload_n 0, 1, 0, 0, false, [], []),
  (16, .new 18, 3, 9, 0, false, [283, 284, 88], []),
  (19, .dup, 1, 0, 0, false, [], []),
  (20, .invokespecial 20, 3, 83, 0, true, [285, 88, 287, 286], []),
  (23, .putfield 21, 3, 4, 1, false, [307], []),
  (26, .aload_n 0, 1, 0, 0, false, [], []),
  (27, .new 25, 3, 0, 0, false, [303, 109, 80], []),
  (30, .dup, 1, 0, 0, false, [], []),
  (31, .iconst 4, 1, 0, 0, false, [], [(4, 0)]),
  (32, .iconst 1, 1, 0, 0, false, [], [(1, 0)]),
  (33, .invokespecial 27, 3, 0, 2, false, [304, 80, 112, 111], []),
  (36, .putfield 30, 3, 4, 2, false, [309], []),
  (39, .aload_n 0, 1, 0, 0, false, [], []),
  (40, .iconst 0, 1, 0, 0, false, [], [(0, 0)]),
  (41, .putfield 34, 3, 4, 3, false, [310], []),
  (44, .aload_n 0, 1, 0, 0, false, [], []),
  (45, .iconst 0, 1, 0, 0, false, [], [(0, 0)]),
  (46, .putfield 38, 3, 4, 4, false, [311], []),
  (49, .aload_n 0, 1, 0, 0, false, [], []),
  (50, .iconst (-1), 1, 0, 0, false, [], [((-1), 0)]),
  (51, .putfield 41, 3, 4, 5, false, [313], []),
  (54, .return_, 1, 0, 0, false, [], [])])
def mt_25 : XM := (⟨"PuppetTurns$Reader", "read", "()Z"⟩, prog_6_method_2_code, 2, (Option.some Jvm.ClassFile.FieldType.boolean), { frames := 5, cells := 0, slots := 0, locals := 113 }, 4, [
(0, .aload_n 0, 1, 0, 0, false, [], []),
  (1, .getfield 21, 3, 4, 1, false, [307], []),
  (4, .iconst 0, 1, 0, 0, false, [], [(0, 0)]),
  (5, .putfield 44, 3, 9, 1, true, [296], []),
  (8, .aload_n 0, 1, 0, 0, false, [], []),
  (9, .iconst 0, 1, 0, 0, false, [], [(0, 0)]),
  (10, .putfield 34, 3, 4, 3, false, [310], []),
  (13, .aload_n 0, 1, 0, 0, false, [], []),
  (14, .iconst 0, 1, 0, 0, false, [], [(0, 0)]),
  (15, .putfield 38, 3, 4, 4, false, [311], []),
  (18, .aload_n 0, 1, 0, 0, false, [], []),
  (19, .iconst (-1), 1, 0, 0, false, [], [((-1), 0)]),
  (20, .putfield 41, 3, 4, 5, false, [313], []),
  (23, .iconst 0, 1, 0, 0, false, [], [(0, 0)]),
  (24, .istore_n 1, 1, 0, 0, false, [], []),
  (25, .iload_n 1, 1, 0, 0, false, [], []),
  (26, .bipush 100, 2, 0, 0, false, [], [(100, 0)]),
  (28, .if_icmp .ge 34, 3, 62, 0, false, [], []),
  (31, .aload_n 0, 1, 0, 0, false, [], []),
  (32, .getfield 34, 3, 4, 3, false, [310], []),
  (35, .aload_n 0, 1, 0, 0, false, [], []),
  (36, .getfield 12, 3, 4, 0, false, [305], []),
  (39, .getfield 47, 3, 7, 1, true, [276], []),
  (42, .if_icmp .ge 20, 3, 62, 0, false, [], []),
  (45, .aload_n 0, 1, 0, 0, false, [], []),
  (46, .getfield 41, 3, 4, 5, false, [313], []),
  (49, .ifCond .ge 13, 3, 62, 0, false, [], []),
  (52, .aload_n 0, 1, 0, 0, false, [], []),
  (53, .invokevirtual 48, 3, 27, 0, false, [632, 86, 635, 634, 7], []),
  (56, .iinc 1 1, 3, 0, 0, false, [], [(1, 0)]),
  (59, .goto (-34), 3, 25, 0, false, [], []),
  (62, .aload_n 0, 1, 0, 0, false, [], []),
  (63, .getfield 38, 3, 4, 4, false, [311], []),
  (66, .ifCond .le 11, 3, 77, 0, false, [], []),
  (69, .aload_n 0, 1, 0, 0, false, [], []),
  (70, .aload_n 0, 1, 0, 0, false, [], []),
  (71, .getfield 34, 3, 4, 3, false, [310], []),
  (74, .invokevirtual 51, 3, 26, 1, false, [653, 86, 656, 655, 10], []),
  (77, .aload_n 0, 1, 0, 0, false, [], []),
  (78, .getfield 41, 3, 4, 5, false, [313], []),
  (81, .ifCond .ge 7, 3, 88, 0, false, [], []),
  (84, .iconst 1, 1, 0, 0, false, [], [(1, 0)]),
  (85, .goto 4, 3, 89, 0, false, [], []),
  (88, .iconst 0, 1, 0, 0, false, [], [(0, 0)]),
  (89, .ireturn, 1, 0, 0, false, [], [])])
def mt_26 : XM := (⟨"PuppetTurns$Reader", "fail", "(I)V"⟩, prog_6_method_3_code, 2, (Option.none : Option Jvm.ClassFile.FieldType), { frames := 0, cells := 0, slots := 0, locals := 0 }, 4, [
(0, .aload_n 0, 1, 0, 0, false, [], []),
  (1, .getfield 41, 3, 4, 5, false, [313], []),
  (4, .ifCond .ge 8, 3, 12, 0, false, [], []),
  (7, .aload_n 0, 1, 0, 0, false, [], []),
  (8, .iload_n 1, 1, 0, 0, false, [], []),
  (9, .putfield 41, 3, 4, 5, false, [313], []),
  (12, .return_, 1, 0, 0, false, [], [])])
def mt_27 : XM := (⟨"PuppetTurns$Reader", "readNext", "()V"⟩, prog_6_method_4_code, 2, (Option.none : Option Jvm.ClassFile.FieldType), { frames := 4, cells := 0, slots := 0, locals := 92 }, 4, [
(0, .aload_n 0, 1, 0, 0, false, [], []),
  (1, .getfield 12, 3, 4, 0, false, [305], []),
  (4, .aload_n 0, 1, 0, 0, false, [], []),
  (5, .getfield 34, 3, 4, 3, false, [310], []),
  (8, .invokevirtual 55, 3, 71, 1, false, [636, 87, 639, 637, 638], []),
  (11, .istore_n 1, 1, 0, 0, false, [], []),
  (12, .iload_n 1, 1, 0, 0, false, [], []),
  (13, .invokestatic 59, 3, 28, 1, false, [641, 86, 643, 642], []),
  (16, .ifCond .eq 10, 3, 26, 0, false, [], []),
  (19, .aload_n 0, 1, 0, 0, false, [], []),
  (20, .invokevirtual 63, 3, 29, 0, false, [645, 86, 648, 647, 8], []),
  (23, .goto 35, 3, 58, 0, false, [], []),
  (26, .iload_n 1, 1, 0, 0, false, [], []),
  (27, .bipush 40, 2, 0, 0, false, [], [(40, 0)]),
  (29, .if_icmp .ne 11, 3, 40, 0, false, [], []),
  (32, .aload_n 0, 1, 0, 0, false, [], []),
  (33, .iconst 1, 1, 0, 0, false, [], [(1, 0)]),
  (34, .invokevirtual 66, 3, 30, 1, false, [657, 86, 660, 659, 11], []),
  (37, .goto 21, 3, 58, 0, false, [], []),
  (40, .iload_n 1, 1, 0, 0, false, [], []),
  (41, .bipush 41, 2, 0, 0, false, [], [(41, 0)]),
  (43, .if_icmp .ne 10, 3, 53, 0, false, [], []),
  (46, .aload_n 0, 1, 0, 0, false, [], []),
  (47, .invokevirtual 69, 3, 31, 0, false, [668, 86, 671, 670, 12], []),
  (50, .goto 8, 3, 58, 0, false, [], []),
  (53, .aload_n 0, 1, 0, 0, false, [], []),
  (54, .iload_n 1, 1, 0, 0, false, [], []),
  (55, .invokevirtual 72, 3, 32, 1, false, [673, 86, 676, 675, 13], []),
  (58, .return_, 1, 0, 0, false, [], [])])
def mt_28 : XM := (⟨"PuppetTurns$Reader", "isDigit", "(I)Z"⟩, prog_6_method_5_code, 1, (Option.some Jvm.ClassFile.FieldType.boolean), { frames := 1, cells := 0, slots := 0, locals := 22 }, 4, [
(0, .iload_n 0, 1, 0, 0, false, [], []),
  (1, .bipush 48, 2, 0, 0, false, [], [(48, 0)]),
  (3, .bipush 57, 2, 0, 0, false, [], [(57, 0)]),
  (5, .invokestatic 75, 3, 117, 3, true, [644, 78, 432, 431], []),
  (8, .ireturn, 1, 0, 0, false, [], [])])
def mt_29 : XM := (⟨"PuppetTurns$Reader", "readRepeatedGroup", "()V"⟩, prog_6_method_6_code, 3, (Option.none : Option Jvm.ClassFile.FieldType), { frames := 3, cells := 0, slots := 0, locals := 70 }, 4, [
(0, .aload_n 0, 1, 0, 0, false, [], []),
  (1, .getfield 34, 3, 4, 3, false, [310], []),
  (4, .istore_n 1, 1, 0, 0, false, [], []),
  (5, .aload_n 0, 1, 0, 0, false, [], []),
  (6, .iconst 0, 1, 0, 0, false, [], [(0, 0)]),
  (7, .invokevirtual 79, 3, 35, 1, false, [649, 86, 652, 651, 9], []),
  (10, .istore_n 2, 1, 0, 0, false, [], []),
  (11, .iload_n 2, 1, 0, 0, false, [], []),
  (12, .iconst 1, 1, 0, 0, false, [], [(1, 0)]),
  (13, .bipush 9, 2, 0, 0, false, [], [(9, 0)]),
  (15, .invokestatic 75, 3, 117, 3, true, [644, 78, 432, 431], []),
  (18, .ifCond .ne 11, 3, 29, 0, false, [], []),
  (21, .aload_n 0, 1, 0, 0, false, [], []),
  (22, .iload_n 1, 1, 0, 0, false, [], []),
  (23, .invokevirtual 51, 3, 26, 1, false, [653, 86, 656, 655, 10], []),
  (26, .goto 35, 3, 61, 0, false, [], []),
  (29, .aload_n 0, 1, 0, 0, false, [], []),
  (30, .getfield 12, 3, 4, 0, false, [305], []),
  (33, .aload_n 0, 1, 0, 0, false, [], []),
  (34, .getfield 34, 3, 4, 3, false, [310], []),
  (37, .invokevirtual 55, 3, 71, 1, false, [636, 87, 639, 637, 638], []),
  (40, .bipush 40, 2, 0, 0, false, [], [(40, 0)]),
  (42, .if_icmp .ne 11, 3, 53, 0, false, [], []),
  (45, .aload_n 0, 1, 0, 0, false, [], []),
  (46, .iload_n 2, 1, 0, 0, false, [], []),
  (47, .invokevirtual 66, 3, 30, 1, false, [657, 86, 660, 659, 11], []),
  (50, .goto 11, 3, 61, 0, false, [], []),
  (53, .aload_n 0, 1, 0, 0, false, [], []),
  (54, .aload_n 0, 1, 0, 0, false, [], []),
  (55, .getfield 34, 3, 4, 3, false, [310], []),
  (58, .invokevirtual 51, 3, 26, 1, false, [653, 86, 656, 655, 10], []),
  (61, .return_, 1, 0, 0, false, [], [])])
def mt_30 : XM := (⟨"PuppetTurns$Reader", "openGroup", "(I)V"⟩, prog_6_method_7_code, 3, (Option.none : Option Jvm.ClassFile.FieldType), { frames := 2, cells := 0, slots := 0, locals := 48 }, 4, [
(0, .aload_n 0, 1, 0, 0, false, [], []),
  (1, .getfield 38, 3, 4, 4, false, [311], []),
  (4, .iconst 4, 1, 0, 0, false, [], [(4, 0)]),
  (5, .if_icmp .lt 12, 3, 17, 0, false, [], []),
  (8, .aload_n 0, 1, 0, 0, false, [], []),
  (9, .aload_n 0, 1, 0, 0, false, [], []),
  (10, .getfield 34, 3, 4, 3, false, [310], []),
  (13, .invokevirtual 51, 3, 26, 1, false, [653, 86, 656, 655, 10], []),
  (16, .return_, 1, 0, 0, false, [], []),
  (17, .aload_n 0, 1, 0, 0, false, [], []),
  (18, .getfield 21, 3, 4, 1, false, [307], []),
  (21, .bipush 40, 2, 0, 0, false, [], [(40, 0)]),
  (23, .aload_n 0, 1, 0, 0, false, [], []),
  (24, .getfield 34, 3, 4, 3, false, [310], []),
  (27, .aload_n 0, 1, 0, 0, false, [], []),
  (28, .getfield 38, 3, 4, 4, false, [311], []),
  (31, .iconst 1, 1, 0, 0, false, [], [(1, 0)]),
  (32, .iadd, 1, 0, 0, false, [], []),
  (33, .invokevirtual 83, 3, 84, 3, false, [661, 88, 664, 662, 663], []),
  (36, .istore_n 2, 1, 0, 0, false, [], []),
  (37, .aload_n 0, 1, 0, 0, false, [], []),
  (38, .getfield 21, 3, 4, 1, false, [307], []),
  (41, .getfield 87, 3, 9, 0, true, [293], []),
  (44, .iload_n 2, 1, 0, 0, false, [], []),
  (45, .iconst 3, 1, 0, 0, false, [], [(3, 0)]),
  (46, .iload_n 1, 1, 0, 0, false, [], []),
  (47, .invokevirtual 90, 3, 4, 3, false, [666, 80, 440, 438, 439], []),
  (50, .aload_n 0, 1, 0, 0, false, [], []),
  (51, .getfield 30, 3, 4, 2, false, [309], []),
  (54, .aload_n 0, 1, 0, 0, false, [], []),
  (55, .getfield 38, 3, 4, 4, false, [311], []),
  (58, .iload_n 2, 1, 0, 0, false, [], []),
  (59, .invokevirtual 94, 3, 3, 2, false, [667, 80, 469, 467, 468], []),
  (62, .aload_n 0, 1, 0, 0, false, [], []),
  (63, .dup, 1, 0, 0, false, [], []),
  (64, .getfield 38, 3, 4, 4, false, [311], []),
  (67, .iconst 1, 1, 0, 0, false, [], [(1, 0)]),
  (68, .iadd, 1, 0, 0, false, [], []),
  (69, .putfield 38, 3, 4, 4, false, [311], []),
  (72, .aload_n 0, 1, 0, 0, false, [], []),
  (73, .dup, 1, 0, 0, false, [], []),
  (74, .getfield 34, 3, 4, 3, false, [310], []),
  (77, .iconst 1, 1, 0, 0, false, [], [(1, 0)]),
  (78, .iadd, 1, 0, 0, false, [], []),
  (79, .putfield 34, 3, 4, 3, false, [310], []),
  (82, .return_, 1, 0, 0, false, [], [])])
def mt_31 : XM := (⟨"PuppetTurns$Reader", "closeGroup", "()V"⟩, prog_6_method_8_code, 3, (Option.none : Option Jvm.ClassFile.FieldType), { frames := 2, cells := 0, slots := 0, locals := 48 }, 4, [
(0, .aload_n 0, 1, 0, 0, false, [], []),
  (1, .getfield 38, 3, 4, 4, false, [311], []),
  (4, .ifCond .ne 12, 3, 16, 0, false, [], []),
  (7, .aload_n 0, 1, 0, 0, false, [], []),
  (8, .aload_n 0, 1, 0, 0, false, [], []),
  (9, .getfield 34, 3, 4, 3, false, [310], []),
  (12, .invokevirtual 51, 3, 26, 1, false, [653, 86, 656, 655, 10], []),
  (15, .return_, 1, 0, 0, false, [], []),
  (16, .aload_n 0, 1, 0, 0, false, [], []),
  (17, .dup, 1, 0, 0, false, [], []),
  (18, .getfield 38, 3, 4, 4, false, [311], []),
  (21, .iconst 1, 1, 0, 0, false, [], [(1, 0)]),
  (22, .isub, 1, 0, 0, false, [], []),
  (23, .putfield 38, 3, 4, 4, false, [311], []),
  (26, .aload_n 0, 1, 0, 0, false, [], []),
  (27, .getfield 30, 3, 4, 2, false, [309], []),
  (30, .aload_n 0, 1, 0, 0, false, [], []),
  (31, .getfield 38, 3, 4, 4, false, [311], []),
  (34, .invokevirtual 96, 3, 1, 1, false, [672, 80, 493, 491, 492], []),
  (37, .istore_n 1, 1, 0, 0, false, [], []),
  (38, .aload_n 0, 1, 0, 0, false, [], []),
  (39, .getfield 21, 3, 4, 1, false, [307], []),
  (42, .getfield 44, 3, 9, 1, true, [296], []),
  (45, .iload_n 1, 1, 0, 0, false, [], []),
  (46, .iconst 1, 1, 0, 0, false, [], [(1, 0)]),
  (47, .iadd, 1, 0, 0, false, [], []),
  (48, .if_icmp .ne 14, 3, 62, 0, false, [], []),
  (51, .aload_n 0, 1, 0, 0, false, [], []),
  (52, .getfield 21, 3, 4, 1, false, [307], []),
  (55, .iload_n 1, 1, 0, 0, false, [], []),
  (56, .putfield 44, 3, 9, 1, true, [296], []),
  (59, .goto 36, 3, 95, 0, false, [], []),
  (62, .aload_n 0, 1, 0, 0, false, [], []),
  (63, .getfield 21, 3, 4, 1, false, [307], []),
  (66, .bipush 41, 2, 0, 0, false, [], [(41, 0)]),
  (68, .aload_n 0, 1, 0, 0, false, [], []),
  (69, .getfield 34, 3, 4, 3, false, [310], []),
  (72, .aload_n 0, 1, 0, 0, false, [], []),
  (73, .getfield 38, 3, 4, 4, false, [311], []),
  (76, .iconst 1, 1, 0, 0, false, [], [(1, 0)]),
  (77, .iadd, 1, 0, 0, false, [], []),
  (78, .invokevirtual 83, 3, 84, 3, false, [661, 88, 664, 662, 663], []),
  (81, .istore_n 2, 1, 0, 0, false, [], []),
  (82, .aload_n 0, 1, 0, 0, false, [], []),
  (83, .getfield 21, 3, 4, 1, false, [307], []),
  (86, .getfield 87, 3, 9, 0, true, [293], []),
  (89, .iload_n 2, 1, 0, 0, false, [], []),
  (90, .iconst 3, 1, 0, 0, false, [], [(3, 0)]),
  (91, .iload_n 1, 1, 0, 0, false, [], []),
  (92, .invokevirtual 90, 3, 4, 3, false, [666, 80, 440, 438, 439], []),
  (95, .aload_n 0, 1, 0, 0, false, [], []),
  (96, .dup, 1, 0, 0, false, [], []),
  (97, .getfield 34, 3, 4, 3, false, [310], []),
  (100, .iconst 1, 1, 0, 0, false, [], [(1, 0)]),
  (101, .iadd, 1, 0, 0, false, [], []),
  (102, .putfield 34, 3, 4, 3, false, [310], []),
  (105, .return_, 1, 0, 0, false, [], [])])
def mt_32 : XM := (⟨"PuppetTurns$Reader", "readAct", "(I)V"⟩, prog_6_method_9_code, 6, (Option.none : Option Jvm.ClassFile.FieldType), { frames := 3, cells := 0, slots := 0, locals := 66 }, 4, [
(0, .iload_n 1, 1, 0, 0, false, [], []),
  (1, .invokestatic 99, 3, 33, 1, false, [677, 86, 679, 678], []),
  (4, .istore_n 2, 1, 0, 0, false, [], []),
  (5, .iload_n 2, 1, 0, 0, false, [], []),
  (6, .ifCond .ge 12, 3, 18, 0, false, [], []),
  (9, .aload_n 0, 1, 0, 0, false, [], []),
  (10, .aload_n 0, 1, 0, 0, false, [], []),
  (11, .getfield 34, 3, 4, 3, false, [310], []),
  (14, .invokevirtual 51, 3, 26, 1, false, [653, 86, 656, 655, 10], []),
  (17, .return_, 1, 0, 0, false, [], []),
  (18, .aload_n 0, 1, 0, 0, false, [], []),
  (19, .getfield 21, 3, 4, 1, false, [307], []),
  (22, .iload_n 1, 1, 0, 0, false, [], []),
  (23, .aload_n 0, 1, 0, 0, false, [], []),
  (24, .getfield 34, 3, 4, 3, false, [310], []),
  (27, .aload_n 0, 1, 0, 0, false, [], []),
  (28, .getfield 38, 3, 4, 4, false, [311], []),
  (31, .iconst 1, 1, 0, 0, false, [], [(1, 0)]),
  (32, .iadd, 1, 0, 0, false, [], []),
  (33, .invokevirtual 83, 3, 84, 3, false, [661, 88, 664, 662, 663], []),
  (36, .istore_n 3, 1, 0, 0, false, [], []),
  (37, .aload_n 0, 1, 0, 0, false, [], []),
  (38, .dup, 1, 0, 0, false, [], []),
  (39, .getfield 34, 3, 4, 3, false, [310], []),
  (42, .iconst 1, 1, 0, 0, false, [], [(1, 0)]),
  (43, .iadd, 1, 0, 0, false, [], []),
  (44, .putfield 34, 3, 4, 3, false, [310], []),
  (47, .iconst 0, 1, 0, 0, false, [], [(0, 0)]),
  (48, .istore 4, 2, 0, 0, false, [], []),
  (50, .iload 4, 2, 0, 0, false, [], []),
  (52, .iload_n 2, 1, 0, 0, false, [], []),
  (53, .if_icmp .ge 59, 3, 112, 0, false, [], []),
  (56, .iload 4, 2, 0, 0, false, [], []),
  (58, .ifCond .le 9, 3, 67, 0, false, [], []),
  (61, .aload_n 0, 1, 0, 0, false, [], []),
  (62, .bipush 44, 2, 0, 0, false, [], [(44, 0)]),
  (64, .invokevirtual 102, 3, 34, 1, false, [680, 86, 683, 682, 14], []),
  (67, .iload_n 1, 1, 0, 0, false, [], []),
  (68, .bipush 109, 2, 0, 0, false, [], [(109, 0)]),
  (70, .if_icmp .ne 12, 3, 82, 0, false, [], []),
  (73, .iload 4, 2, 0, 0, false, [], []),
  (75, .ifCond .le 7, 3, 82, 0, false, [], []),
  (78, .iconst 1, 1, 0, 0, false, [], [(1, 0)]),
  (79, .goto 4, 3, 83, 0, false, [], []),
  (82, .iconst 0, 1, 0, 0, false, [], [(0, 0)]),
  (83, .istore 5, 2, 0, 0, false, [], []),
  (85, .aload_n 0, 1, 0, 0, false, [], []),
  (86, .getfield 21, 3, 4, 1, false, [307], []),
  (89, .getfield 87, 3, 9, 0, true, [293], []),
  (92, .iload_n 3, 1, 0, 0, false, [], []),
  (93, .iconst 3, 1, 0, 0, false, [], [(3, 0)]),
  (94, .iload 4, 2, 0, 0, false, [], []),
  (96, .iadd, 1, 0, 0, false, [], []),
  (97, .aload_n 0, 1, 0, 0, false, [], []),
  (98, .iload 5, 2, 0, 0, false, [], []),
  (100, .invokevirtual 79, 3, 35, 1, false, [649, 86, 652, 651, 9], []),
  (103, .invokevirtual 90, 3, 4, 3, false, [666, 80, 440, 438, 439], []),
  (106, .iinc 4 1, 3, 0, 0, false, [], [(1, 0)]),
  (109, .goto (-59), 3, 50, 0, false, [], []),
  (112, .aload_n 0, 1, 0, 0, false, [], []),
  (113, .bipush 59, 2, 0, 0, false, [], [(59, 0)]),
  (115, .invokevirtual 102, 3, 34, 1, false, [680, 86, 683, 682, 14], []),
  (118, .return_, 1, 0, 0, false, [], [])])
def mt_33 : XM := (⟨"PuppetTurns$Reader", "numbersOf", "(I)I"⟩, prog_6_method_10_code, 1, (Option.some Jvm.ClassFile.FieldType.int), { frames := 0, cells := 0, slots := 0, locals := 0 }, 4, [
(0, .iload_n 0, 1, 0, 0, false, [], []),
  (1, .tableswitch 95 100 117 #[89, 95, 87, 95, 95, 95, 95, 95, 89, 93, 95, 95, 95, 95, 95, 95, 91, 89], 87, 96, 0, false, [], [(100, 90), (101, 96), (102, 88), (103, 96), (104, 96), (105, 96), (106, 96), (107, 96), (108, 90), (109, 94), (110, 96), (111, 96), (112, 96), (113, 96), (114, 96), (115, 96), (116, 92), (117, 90)]),
  (88, .iconst 0, 1, 0, 0, false, [], [(0, 0)]),
  (89, .ireturn, 1, 0, 0, false, [], []),
  (90, .iconst 1, 1, 0, 0, false, [], [(1, 0)]),
  (91, .ireturn, 1, 0, 0, false, [], []),
  (92, .iconst 2, 1, 0, 0, false, [], [(2, 0)]),
  (93, .ireturn, 1, 0, 0, false, [], []),
  (94, .iconst 3, 1, 0, 0, false, [], [(3, 0)]),
  (95, .ireturn, 1, 0, 0, false, [], []),
  (96, .iconst (-1), 1, 0, 0, false, [], [((-1), 0)]),
  (97, .ireturn, 1, 0, 0, false, [], [])])
def mt_34 : XM := (⟨"PuppetTurns$Reader", "expect", "(I)V"⟩, prog_6_method_11_code, 2, (Option.none : Option Jvm.ClassFile.FieldType), { frames := 2, cells := 0, slots := 0, locals := 42 }, 4, [
(0, .aload_n 0, 1, 0, 0, false, [], []),
  (1, .getfield 12, 3, 4, 0, false, [305], []),
  (4, .aload_n 0, 1, 0, 0, false, [], []),
  (5, .getfield 34, 3, 4, 3, false, [310], []),
  (8, .invokevirtual 55, 3, 71, 1, false, [636, 87, 639, 637, 638], []),
  (11, .iload_n 1, 1, 0, 0, false, [], []),
  (12, .if_icmp .ne 16, 3, 28, 0, false, [], []),
  (15, .aload_n 0, 1, 0, 0, false, [], []),
  (16, .dup, 1, 0, 0, false, [], []),
  (17, .getfield 34, 3, 4, 3, false, [310], []),
  (20, .iconst 1, 1, 0, 0, false, [], [(1, 0)]),
  (21, .iadd, 1, 0, 0, false, [], []),
  (22, .putfield 34, 3, 4, 3, false, [310], []),
  (25, .goto 11, 3, 36, 0, false, [], []),
  (28, .aload_n 0, 1, 0, 0, false, [], []),
  (29, .aload_n 0, 1, 0, 0, false, [], []),
  (30, .getfield 34, 3, 4, 3, false, [310], []),
  (33, .invokevirtual 51, 3, 26, 1, false, [653, 86, 656, 655, 10], []),
  (36, .return_, 1, 0, 0, false, [], [])])
def mt_35 : XM := (⟨"PuppetTurns$Reader", "readNumber", "(Z)I"⟩, prog_6_method_12_code, 5, (Option.some Jvm.ClassFile.FieldType.int), { frames := 2, cells := 0, slots := 0, locals := 42 }, 4, [
(0, .iconst 1, 1, 0, 0, false, [], [(1, 0)]),
  (1, .istore_n 2, 1, 0, 0, false, [], []),
  (2, .iload_n 1, 1, 0, 0, false, [], []),
  (3, .ifCond .eq 31, 3, 34, 0, false, [], []),
  (6, .aload_n 0, 1, 0, 0, false, [], []),
  (7, .getfield 12, 3, 4, 0, false, [305], []),
  (10, .aload_n 0, 1, 0, 0, false, [], []),
  (11, .getfield 34, 3, 4, 3, false, [310], []),
  (14, .invokevirtual 55, 3, 71, 1, false, [636, 87, 639, 637, 638], []),
  (17, .bipush 45, 2, 0, 0, false, [], [(45, 0)]),
  (19, .if_icmp .ne 15, 3, 34, 0, false, [], []),
  (22, .iconst (-1), 1, 0, 0, false, [], [((-1), 0)]),
  (23, .istore_n 2, 1, 0, 0, false, [], []),
  (24, .aload_n 0, 1, 0, 0, false, [], []),
  (25, .dup, 1, 0, 0, false, [], []),
  (26, .getfield 34, 3, 4, 3, false, [310], []),
  (29, .iconst 1, 1, 0, 0, false, [], [(1, 0)]),
  (30, .iadd, 1, 0, 0, false, [], []),
  (31, .putfield 34, 3, 4, 3, false, [310], []),
  (34, .iconst 0, 1, 0, 0, false, [], [(0, 0)]),
  (35, .istore_n 3, 1, 0, 0, false, [], []),
  (36, .iconst 0, 1, 0, 0, false, [], [(0, 0)]),
  (37, .istore 4, 2, 0, 0, false, [], []),
  (39, .iload 4, 2, 0, 0, false, [], []),
  (41, .iconst 3, 1, 0, 0, false, [], [(3, 0)]),
  (42, .if_icmp .ge 65, 3, 107, 0, false, [], []),
  (45, .aload_n 0, 1, 0, 0, false, [], []),
  (46, .getfield 12, 3, 4, 0, false, [305], []),
  (49, .aload_n 0, 1, 0, 0, false, [], []),
  (50, .getfield 34, 3, 4, 3, false, [310], []),
  (53, .invokevirtual 55, 3, 71, 1, false, [636, 87, 639, 637, 638], []),
  (56, .invokestatic 59, 3, 28, 1, false, [641, 86, 643, 642], []),
  (59, .ifCond .eq 48, 3, 107, 0, false, [], []),
  (62, .iload 4, 2, 0, 0, false, [], []),
  (64, .ifCond .eq 7, 3, 71, 0, false, [], []),
  (67, .iload_n 3, 1, 0, 0, false, [], []),
  (68, .ifCond .le 39, 3, 107, 0, false, [], []),
  (71, .iload_n 3, 1, 0, 0, false, [], []),
  (72, .bipush 10, 2, 0, 0, false, [], [(10, 0)]),
  (74, .imul, 1, 0, 0, false, [], []),
  (75, .aload_n 0, 1, 0, 0, false, [], []),
  (76, .getfield 12, 3, 4, 0, false, [305], []),
  (79, .aload_n 0, 1, 0, 0, false, [], []),
  (80, .getfield 34, 3, 4, 3, false, [310], []),
  (83, .invokevirtual 55, 3, 71, 1, false, [636, 87, 639, 637, 638], []),
  (86, .iadd, 1, 0, 0, false, [], []),
  (87, .bipush 48, 2, 0, 0, false, [], [(48, 0)]),
  (89, .isub, 1, 0, 0, false, [], []),
  (90, .istore_n 3, 1, 0, 0, false, [], []),
  (91, .iinc 4 1, 3, 0, 0, false, [], [(1, 0)]),
  (94, .aload_n 0, 1, 0, 0, false, [], []),
  (95, .dup, 1, 0, 0, false, [], []),
  (96, .getfield 34, 3, 4, 3, false, [310], []),
  (99, .iconst 1, 1, 0, 0, false, [], [(1, 0)]),
  (100, .iadd, 1, 0, 0, false, [], []),
  (101, .putfield 34, 3, 4, 3, false, [310], []),
  (104, .goto (-65), 3, 39, 0, false, [], []),
  (107, .iload 4, 2, 0, 0, false, [], []),
  (109, .ifCond .eq 20, 3, 129, 0, false, [], []),
  (112, .aload_n 0, 1, 0, 0, false, [], []),
  (113, .getfield 12, 3, 4, 0, false, [305], []),
  (116, .aload_n 0, 1, 0, 0, false, [], []),
  (117, .getfield 34, 3, 4, 3, false, [310], []),
  (120, .invokevirtual 55, 3, 71, 1, false, [636, 87, 639, 637, 638], []),
  (123, .invokestatic 59, 3, 28, 1, false, [641, 86, 643, 642], []),
  (126, .ifCond .eq 11, 3, 137, 0, false, [], []),
  (129, .aload_n 0, 1, 0, 0, false, [], []),
  (130, .aload_n 0, 1, 0, 0, false, [], []),
  (131, .getfield 34, 3, 4, 3, false, [310], []),
  (134, .invokevirtual 51, 3, 26, 1, false, [653, 86, 656, 655, 10], []),
  (137, .iload_n 2, 1, 0, 0, false, [], []),
  (138, .iload_n 3, 1, 0, 0, false, [], []),
  (139, .imul, 1, 0, 0, false, [], []),
  (140, .ireturn, 1, 0, 0, false, [], [])])
def mt_36 : XM := (⟨"PuppetTurns$Scene", "<init>", "()V"⟩, prog_7_method_1_code, 1, (Option.none : Option Jvm.ClassFile.FieldType), { frames := 2, cells := 6, slots := 1806, locals := 82 }, 5, [
(0, .aload_n 0, 1, 0, 0, false, [], []),
  (1, .invokespecial 3, 3, 1000, 0, false, [107, 100, 101], []),
  (4, .aload_n 0, 1, 0, 0, false, [], []),
  (5, .new 9, 3, 0, 0, false, [108, 109, 80], []),
  (8, .dup, 1, 0, 0, false, [], []),
  (9, .bipush 8, 2, 0, 0, false, [], [(8, 0)]),
  (11, .bipush 8, 2, 0, 0, false, [], [(8, 0)]),
  (13, .invokespecial 11, 3, 0, 2, false, [110, 80, 112, 111], []),
  (16, .putfield 14, 3, 5, 0, false, [129], []),
  (19, .aload_n 0, 1, 0, 0, false, [], []),
  (20, .new 9, 3, 0, 0, false, [108, 109, 80], []),
  (23, .dup, 1, 0, 0, false, [], []),
  (24, .bipush 20, 2, 0, 0, false, [], [(20, 0)]),
  (26, .bipush 10, 2, 0, 0, false, [], [(10, 0)]),
  (28, .invokespecial 11, 3, 0, 2, false, [110, 80, 112, 111], []),
  (31, .putfield 20, 3, 5, 1, false, [130], []),
  (34, .aload_n 0, 1, 0, 0, false, [], []),
  (35, .new 9, 3, 0, 0, false, [108, 109, 80], []),
  (38, .dup, 1, 0, 0, false, [], []),
  (39, .bipush 20, 2, 0, 0, false, [], [(20, 0)]),
  (41, .iconst 1, 1, 0, 0, false, [], [(1, 0)]),
  (42, .invokespecial 11, 3, 0, 2, false, [110, 80, 112, 111], []),
  (45, .putfield 23, 3, 5, 2, false, [134], []),
  (48, .aload_n 0, 1, 0, 0, false, [], []),
  (49, .iconst 0, 1, 0, 0, false, [], [(0, 0)]),
  (50, .putfield 26, 3, 5, 3, false, [138], []),
  (53, .aload_n 0, 1, 0, 0, false, [], []),
  (54, .iconst 0, 1, 0, 0, false, [], [(0, 0)]),
  (55, .putfield 30, 3, 5, 4, false, [143], []),
  (58, .aload_n 0, 1, 0, 0, false, [], []),
  (59, .bipush 8, 2, 0, 0, false, [], [(8, 0)]),
  (61, .putfield 33, 3, 5, 5, false, [145], []),
  (64, .aload_n 0, 1, 0, 0, false, [], []),
  (65, .iconst 0, 1, 0, 0, false, [], [(0, 0)]),
  (66, .putfield 36, 3, 5, 6, false, [149], []),
  (69, .aload_n 0, 1, 0, 0, false, [], []),
  (70, .iconst 1, 1, 0, 0, false, [], [(1, 0)]),
  (71, .putfield 39, 3, 5, 7, false, [152], []),
  (74, .aload_n 0, 1, 0, 0, false, [], []),
  (75, .iconst 0, 1, 0, 0, false, [], [(0, 0)]),
  (76, .putfield 42, 3, 5, 8, false, [155], []),
  (79, .aload_n 0, 1, 0, 0, false, [], []),
  (80, .getfield 14, 3, 5, 0, false, [129], []),
  (83, .sipush 255, 3, 0, 0, false, [], [(255, 0)]),
  (86, .invokevirtual 45, 3, 6, 1, false, [125, 80, 128, 126, 127], []),
  (89, .return_, 1, 0, 0, false, [], [])])
def mt_37 : XM := (⟨"PuppetTurns$Scene", "copyFrom", "(LPuppetTurns$Scene;)V"⟩, prog_7_method_2_code, 2, (Option.none : Option Jvm.ClassFile.FieldType), { frames := 2, cells := 0, slots := 0, locals := 81 }, 5, [
(0, .aload_n 0, 1, 0, 0, false, [], []),
  (1, .getfield 14, 3, 5, 0, false, [129], []),
  (4, .aload_n 1, 1, 0, 0, false, [], []),
  (5, .getfield 14, 3, 5, 0, false, [129], []),
  (8, .invokevirtual 49, 3, 7, 1, false, [416, 80, 419, 417, 418], []),
  (11, .aload_n 0, 1, 0, 0, false, [], []),
  (12, .getfield 20, 3, 5, 1, false, [130], []),
  (15, .aload_n 1, 1, 0, 0, false, [], []),
  (16, .getfield 20, 3, 5, 1, false, [130], []),
  (19, .invokevirtual 49, 3, 7, 1, false, [416, 80, 419, 417, 418], []),
  (22, .aload_n 0, 1, 0, 0, false, [], []),
  (23, .getfield 23, 3, 5, 2, false, [134], []),
  (26, .aload_n 1, 1, 0, 0, false, [], []),
  (27, .getfield 23, 3, 5, 2, false, [134], []),
  (30, .invokevirtual 49, 3, 7, 1, false, [416, 80, 419, 417, 418], []),
  (33, .aload_n 0, 1, 0, 0, false, [], []),
  (34, .aload_n 1, 1, 0, 0, false, [], []),
  (35, .getfield 26, 3, 5, 3, false, [138], []),
  (38, .putfield 26, 3, 5, 3, false, [138], []),
  (41, .aload_n 0, 1, 0, 0, false, [], []),
  (42, .aload_n 1, 1, 0, 0, false, [], []),
  (43, .getfield 30, 3, 5, 4, false, [143], []),
  (46, .putfield 30, 3, 5, 4, false, [143], []),
  (49, .aload_n 0, 1, 0, 0, false, [], []),
  (50, .aload_n 1, 1, 0, 0, false, [], []),
  (51, .getfield 33, 3, 5, 5, false, [145], []),
  (54, .putfield 33, 3, 5, 5, false, [145], []),
  (57, .aload_n 0, 1, 0, 0, false, [], []),
  (58, .aload_n 1, 1, 0, 0, false, [], []),
  (59, .getfield 36, 3, 5, 6, false, [149], []),
  (62, .putfield 36, 3, 5, 6, false, [149], []),
  (65, .aload_n 0, 1, 0, 0, false, [], []),
  (66, .aload_n 1, 1, 0, 0, false, [], []),
  (67, .getfield 39, 3, 5, 7, false, [152], []),
  (70, .putfield 39, 3, 5, 7, false, [152], []),
  (73, .aload_n 0, 1, 0, 0, false, [], []),
  (74, .aload_n 1, 1, 0, 0, false, [], []),
  (75, .getfield 42, 3, 5, 8, false, [155], []),
  (78, .putfield 42, 3, 5, 8, false, [155], []),
  (81, .return_, 1, 0, 0, false, [], [])])
def mt_38 : XM := (⟨"PuppetTurns$Scene", "position", "(I)I"⟩, prog_7_method_3_code, 3, (Option.some Jvm.ClassFile.FieldType.int), { frames := 1, cells := 0, slots := 0, locals := 21 }, 5, [
(0, .iconst 0, 1, 0, 0, false, [], [(0, 0)]),
  (1, .istore_n 2, 1, 0, 0, false, [], []),
  (2, .iload_n 2, 1, 0, 0, false, [], []),
  (3, .aload_n 0, 1, 0, 0, false, [], []),
  (4, .getfield 26, 3, 5, 3, false, [138], []),
  (7, .if_icmp .ge 23, 3, 30, 0, false, [], []),
  (10, .aload_n 0, 1, 0, 0, false, [], []),
  (11, .getfield 23, 3, 5, 2, false, [134], []),
  (14, .iload_n 2, 1, 0, 0, false, [], []),
  (15, .invokevirtual 53, 3, 1, 1, false, [490, 80, 493, 491, 492], []),
  (18, .iload_n 1, 1, 0, 0, false, [], []),
  (19, .if_icmp .ne 5, 3, 24, 0, false, [], []),
  (22, .iload_n 2, 1, 0, 0, false, [], []),
  (23, .ireturn, 1, 0, 0, false, [], []),
  (24, .iinc 2 1, 3, 0, 0, false, [], [(1, 0)]),
  (27, .goto (-25), 3, 2, 0, false, [], []),
  (30, .iconst (-1), 1, 0, 0, false, [], [((-1), 0)]),
  (31, .ireturn, 1, 0, 0, false, [], [])])
def mt_39 : XM := (⟨"PuppetTurns$Scene", "exists", "(I)Z"⟩, prog_7_method_4_code, 2, (Option.some Jvm.ClassFile.FieldType.boolean), { frames := 2, cells := 0, slots := 0, locals := 43 }, 5, [
(0, .aload_n 0, 1, 0, 0, false, [], []),
  (1, .iload_n 1, 1, 0, 0, false, [], []),
  (2, .invokevirtual 57, 3, 38, 1, false, [486, 79, 489, 487, 488], []),
  (5, .ifCond .lt 7, 3, 12, 0, false, [], []),
  (8, .iconst 1, 1, 0, 0, false, [], [(1, 0)]),
  (9, .goto 4, 3, 13, 0, false, [], []),
  (12, .iconst 0, 1, 0, 0, false, [], [(0, 0)]),
  (13, .ireturn, 1, 0, 0, false, [], [])])
def mt_40 : XM := (⟨"PuppetTurns$Scene", "hero", "()I"⟩, prog_7_method_5_code, 2, (Option.some Jvm.ClassFile.FieldType.int), { frames := 3, cells := 0, slots := 0, locals := 64 }, 5, [
(0, .iconst 0, 1, 0, 0, false, [], [(0, 0)]),
  (1, .istore_n 1, 1, 0, 0, false, [], []),
  (2, .iload_n 1, 1, 0, 0, false, [], []),
  (3, .aload_n 0, 1, 0, 0, false, [], []),
  (4, .getfield 30, 3, 5, 4, false, [143], []),
  (7, .if_icmp .ge 19, 3, 26, 0, false, [], []),
  (10, .aload_n 0, 1, 0, 0, false, [], []),
  (11, .iload_n 1, 1, 0, 0, false, [], []),
  (12, .invokevirtual 60, 3, 39, 1, false, [506, 79, 509, 507, 508], []),
  (15, .ifCond .eq 5, 3, 20, 0, false, [], []),
  (18, .iload_n 1, 1, 0, 0, false, [], []),
  (19, .ireturn, 1, 0, 0, false, [], []),
  (20, .iinc 1 1, 3, 0, 0, false, [], [(1, 0)]),
  (23, .goto (-21), 3, 2, 0, false, [], []),
  (26, .bipush (-109), 2, 0, 0, false, [], [((-109), 0)]),
  (28, .ireturn, 1, 0, 0, false, [], [])])
def mt_41 : XM := (⟨"PuppetTurns$Scene", "firstLine", "(I)I"⟩, prog_7_method_6_code, 2, (Option.some Jvm.ClassFile.FieldType.int), { frames := 1, cells := 0, slots := 0, locals := 23 }, 5, [
(0, .aload_n 0, 1, 0, 0, false, [], []),
  (1, .getfield 20, 3, 5, 1, false, [130], []),
  (4, .iload_n 1, 1, 0, 0, false, [], []),
  (5, .iconst 1, 1, 0, 0, false, [], [(1, 0)]),
  (6, .invokevirtual 64, 3, 2, 2, false, [433, 80, 436, 434, 435], []),
  (9, .iconst 0, 1, 0, 0, false, [], [(0, 0)]),
  (10, .invokestatic 67, 3, 203, 2, false, [523, 81, 116, 115], []),
  (13, .ireturn, 1, 0, 0, false, [], [])])
def mt_42 : XM := (⟨"PuppetTurns$Scene", "lastLine", "(I)I"⟩, prog_7_method_7_code, 2, (Option.some Jvm.ClassFile.FieldType.int), { frames := 1, cells := 0, slots := 0, locals := 23 }, 5, [
(0, .aload_n 0, 1, 0, 0, false, [], []),
  (1, .getfield 20, 3, 5, 1, false, [130], []),
  (4, .iload_n 1, 1, 0, 0, false, [], []),
  (5, .iconst 1, 1, 0, 0, false, [], [(1, 0)]),
  (6, .invokevirtual 64, 3, 2, 2, false, [433, 80, 436, 434, 435], []),
  (9, .aload_n 0, 1, 0, 0, false, [], []),
  (10, .getfield 20, 3, 5, 1, false, [130], []),
  (13, .iload_n 1, 1, 0, 0, false, [], []),
  (14, .bipush 6, 2, 0, 0, false, [], [(6, 0)]),
  (16, .invokevirtual 64, 3, 2, 2, false, [433, 80, 436, 434, 435], []),
  (19, .iadd, 1, 0, 0, false, [], []),
  (20, .bipush 48, 2, 0, 0, false, [], [(48, 0)]),
  (22, .invokestatic 72, 3, 204, 2, false, [518, 81, 422, 421], []),
  (25, .iconst 1, 1, 0, 0, false, [], [(1, 0)]),
  (26, .isub, 1, 0, 0, false, [], []),
  (27, .ireturn, 1, 0, 0, false, [], [])])
def mt_43 : XM := (⟨"PuppetTurns$Scene", "linesOf", "(I)I"⟩, prog_7_method_8_code, 2, (Option.some Jvm.ClassFile.FieldType.int), { frames := 2, cells := 0, slots := 0, locals := 44 }, 5, [
(0, .aload_n 0, 1, 0, 0, false, [], []),
  (1, .iload_n 1, 1, 0, 0, false, [], []),
  (2, .invokevirtual 75, 3, 42, 1, false, [514, 79, 517, 515, 516], []),
  (5, .aload_n 0, 1, 0, 0, false, [], []),
  (6, .iload_n 1, 1, 0, 0, false, [], []),
  (7, .invokevirtual 78, 3, 41, 1, false, [519, 79, 522, 520, 521], []),
  (10, .isub, 1, 0, 0, false, [], []),
  (11, .iconst 1, 1, 0, 0, false, [], [(1, 0)]),
  (12, .iadd, 1, 0, 0, false, [], []),
  (13, .iconst 0, 1, 0, 0, false, [], [(0, 0)]),
  (14, .invokestatic 67, 3, 203, 2, false, [523, 81, 116, 115], []),
  (17, .ireturn, 1, 0, 0, false, [], [])])
def mt_44 : XM := (⟨"PuppetTurns$Scene", "standsOn", "(II)Z"⟩, prog_7_method_9_code, 3, (Option.some Jvm.ClassFile.FieldType.boolean), { frames := 2, cells := 0, slots := 0, locals := 44 }, 5, [
(0, .iload_n 2, 1, 0, 0, false, [], []),
  (1, .aload_n 0, 1, 0, 0, false, [], []),
  (2, .iload_n 1, 1, 0, 0, false, [], []),
  (3, .invokevirtual 78, 3, 41, 1, false, [519, 79, 522, 520, 521], []),
  (6, .aload_n 0, 1, 0, 0, false, [], []),
  (7, .iload_n 1, 1, 0, 0, false, [], []),
  (8, .invokevirtual 75, 3, 42, 1, false, [514, 79, 517, 515, 516], []),
  (11, .invokestatic 81, 3, 117, 3, true, [430, 78, 432, 431], []),
  (14, .ireturn, 1, 0, 0, false, [], [])])
def mt_45 : XM := (⟨"PuppetTurns$Scene", "dotsOn", "(II)J"⟩, prog_7_method_10_code, 8, (Option.some Jvm.ClassFile.FieldType.long), { frames := 1, cells := 0, slots := 0, locals := 23 }, 5, [
(0, .aload_n 0, 1, 0, 0, false, [], []),
  (1, .getfield 20, 3, 5, 1, false, [130], []),
  (4, .iload_n 1, 1, 0, 0, false, [], []),
  (5, .bipush 6, 2, 0, 0, false, [], [(6, 0)]),
  (7, .invokevirtual 64, 3, 2, 2, false, [433, 80, 436, 434, 435], []),
  (10, .istore_n 3, 1, 0, 0, false, [], []),
  (11, .iload_n 2, 1, 0, 0, false, [], []),
  (12, .aload_n 0, 1, 0, 0, false, [], []),
  (13, .getfield 20, 3, 5, 1, false, [130], []),
  (16, .iload_n 1, 1, 0, 0, false, [], []),
  (17, .iconst 1, 1, 0, 0, false, [], [(1, 0)]),
  (18, .invokevirtual 64, 3, 2, 2, false, [433, 80, 436, 434, 435], []),
  (21, .isub, 1, 0, 0, false, [], []),
  (22, .istore 4, 2, 0, 0, false, [], []),
  (24, .iload 4, 2, 0, 0, false, [], []),
  (26, .iconst 0, 1, 0, 0, false, [], [(0, 0)]),
  (27, .iload_n 3, 1, 0, 0, false, [], []),
  (28, .iconst 1, 1, 0, 0, false, [], [(1, 0)]),
  (29, .isub, 1, 0, 0, false, [], []),
  (30, .invokestatic 81, 3, 117, 3, true, [430, 78, 432, 431], []),
  (33, .ifCond .ne 5, 3, 38, 0, false, [], []),
  (36, .lconst 0, 1, 0, 0, false, [], []),
  (37, .lreturn, 1, 0, 0, false, [], []),
  (38, .aload_n 0, 1, 0, 0, false, [], []),
  (39, .getfield 20, 3, 5, 1, false, [130], []),
  (42, .iload_n 1, 1, 0, 0, false, [], []),
  (43, .iconst 5, 1, 0, 0, false, [], [(5, 0)]),
  (44, .invokevirtual 64, 3, 2, 2, false, [433, 80, 436, 434, 435], []),
  (47, .istore 5, 2, 0, 0, false, [], []),
  (49, .iload 5, 2, 0, 0, false, [], []),
  (51, .iconst 2, 1, 0, 0, false, [], [(2, 0)]),
  (52, .iand, 1, 0, 0, false, [], []),
  (53, .ifCond .eq 11, 3, 64, 0, false, [], []),
  (56, .iload_n 3, 1, 0, 0, false, [], []),
  (57, .iconst 1, 1, 0, 0, false, [], [(1, 0)]),
  (58, .isub, 1, 0, 0, false, [], []),
  (59, .iload 4, 2, 0, 0, false, [], []),
  (61, .isub, 1, 0, 0, false, [], []),
  (62, .istore 4, 2, 0, 0, false, [], []),
  (64, .aload_n 0, 1, 0, 0, false, [], []),
  (65, .getfield 20, 3, 5, 1, false, [130], []),
  (68, .iload_n 1, 1, 0, 0, false, [], []),
  (69, .iconst 3, 1, 0, 0, false, [], [(3, 0)]),
  (70, .invokevirtual 64, 3, 2, 2, false, [433, 80, 436, 434, 435], []),
  (73, .iload 4, 2, 0, 0, false, [], []),
  (75, .bipush 8, 2, 0, 0, false, [], [(8, 0)]),
  (77, .idiv, 1, 0, 0, false, [], []),
  (78, .iadd, 1, 0, 0, false, [], []),
  (79, .bipush 8, 2, 0, 0, false, [], [(8, 0)]),
  (81, .irem, 1, 0, 0, false, [], []),
  (82, .istore 6, 2, 0, 0, false, [], []),
  (84, .aload_n 0, 1, 0, 0, false, [], []),
  (85, .getfield 14, 3, 5, 0, false, [129], []),
  (88, .iload 6, 2, 0, 0, false, [], []),
  (90, .iload 4, 2, 0, 0, false, [], []),
  (92, .bipush 8, 2, 0, 0, false, [], [(8, 0)]),
  (94, .irem, 1, 0, 0, false, [], []),
  (95, .invokevirtual 64, 3, 2, 2, false, [433, 80, 436, 434, 435], []),
  (98, .istore 7, 2, 0, 0, false, [], []),
  (100, .iload 5, 2, 0, 0, false, [], []),
  (102, .iconst 1, 1, 0, 0, false, [], [(1, 0)]),
  (103, .iand, 1, 0, 0, false, [], []),
  (104, .ifCond .eq 10, 3, 114, 0, false, [], []),
  (107, .iload 7, 2, 0, 0, false, [], []),
  (109, .invokestatic 85, 3, 46, 1, false, [760, 79, 762, 761], []),
  (112, .istore 7, 2, 0, 0, false, [], []),
  (114, .iload 7, 2, 0, 0, false, [], []),
  (116, .aload_n 0, 1, 0, 0, false, [], []),
  (117, .getfield 20, 3, 5, 1, false, [130], []),
  (120, .iload_n 1, 1, 0, 0, false, [], []),
  (121, .iconst 0, 1, 0, 0, false, [], [(0, 0)]),
  (122, .invokevirtual 64, 3, 2, 2, false, [433, 80, 436, 434, 435], []),
  (125, .invokestatic 88, 3, 47, 2, false, [763, 79, 765, 764], []),
  (128, .lreturn, 1, 0, 0, false, [], [])])
def mt_46 : XM := (⟨"PuppetTurns$Scene", "mirrored", "(I)I"⟩, prog_7_method_11_code, 3, (Option.some Jvm.ClassFile.FieldType.int), { frames := 0, cells := 0, slots := 0, locals := 0 }, 5, [
(0, .iconst 0, 1, 0, 0, false, [], [(0, 0)]),
  (1, .istore_n 1, 1, 0, 0, false, [], []),
  (2, .iconst 0, 1, 0, 0, false, [], [(0, 0)]),
  (3, .istore_n 2, 1, 0, 0, false, [], []),
  (4, .iload_n 2, 1, 0, 0, false, [], []),
  (5, .bipush 8, 2, 0, 0, false, [], [(8, 0)]),
  (7, .if_icmp .ge 19, 3, 26, 0, false, [], []),
  (10, .iload_n 1, 1, 0, 0, false, [], []),
  (11, .iconst 1, 1, 0, 0, false, [], [(1, 0)]),
  (12, .ishl, 1, 0, 0, false, [], []),
  (13, .iload_n 0, 1, 0, 0, false, [], []),
  (14, .iload_n 2, 1, 0, 0, false, [], []),
  (15, .ishr, 1, 0, 0, false, [], []),
  (16, .iconst 1, 1, 0, 0, false, [], [(1, 0)]),
  (17, .iand, 1, 0, 0, false, [], []),
  (18, .ior, 1, 0, 0, false, [], []),
  (19, .istore_n 1, 1, 0, 0, false, [], []),
  (20, .iinc 2 1, 3, 0, 0, false, [], [(1, 0)]),
  (23, .goto (-19), 3, 4, 0, false, [], []),
  (26, .iload_n 1, 1, 0, 0, false, [], []),
  (27, .ireturn, 1, 0, 0, false, [], [])])
def mt_47 : XM := (⟨"PuppetTurns$Scene", "placed", "(II)J"⟩, prog_7_method_12_code, 3, (Option.some Jvm.ClassFile.FieldType.long), { frames := 0, cells := 0, slots := 0, locals := 0 }, 5, [
(0, .bipush 56, 2, 0, 0, false, [], [(56, 0)]),
  (2, .iload_n 1, 1, 0, 0, false, [], []),
  (3, .isub, 1, 0, 0, false, [], []),
  (4, .istore_n 2, 1, 0, 0, false, [], []),
  (5, .iload_n 2, 1, 0, 0, false, [], []),
  (6, .bipush 64, 2, 0, 0, false, [], [(64, 0)]),
  (8, .if_icmp .lt 5, 3, 13, 0, false, [], []),
  (11, .lconst 0, 1, 0, 0, false, [], []),
  (12, .lreturn, 1, 0, 0, false, [], []),
  (13, .iload_n 2, 1, 0, 0, false, [], []),
  (14, .ifCond .lt 10, 3, 24, 0, false, [], []),
  (17, .iload_n 0, 1, 0, 0, false, [], []),
  (18, .i2l, 1, 0, 0, false, [], []),
  (19, .iload_n 2, 1, 0, 0, false, [], []),
  (20, .lshl, 1, 0, 0, false, [], []),
  (21, .goto 8, 3, 29, 0, false, [], []),
  (24, .iload_n 0, 1, 0, 0, false, [], []),
  (25, .iload_n 2, 1, 0, 0, false, [], []),
  (26, .ineg, 1, 0, 0, false, [], []),
  (27, .ishr, 1, 0, 0, false, [], []),
  (28, .i2l, 1, 0, 0, false, [], []),
  (29, .lreturn, 1, 0, 0, false, [], [])])
def mt_48 : XM := (⟨"PuppetTurns$Scene", "redraw", "(III)I"⟩, prog_7_method_13_code, 5, (Option.some Jvm.ClassFile.FieldType.int), { frames := 1, cells := 0, slots := 0, locals := 24 }, 5, [
(0, .iload_n 1, 1, 0, 0, false, [], []),
  (1, .iconst 0, 1, 0, 0, false, [], [(0, 0)]),
  (2, .bipush 7, 2, 0, 0, false, [], [(7, 0)]),
  (4, .invokestatic 81, 3, 117, 3, true, [430, 78, 432, 431], []),
  (7, .ifCond .eq 24, 3, 31, 0, false, [], []),
  (10, .iload_n 2, 1, 0, 0, false, [], []),
  (11, .iconst 0, 1, 0, 0, false, [], [(0, 0)]),
  (12, .bipush 7, 2, 0, 0, false, [], [(7, 0)]),
  (14, .invokestatic 81, 3, 117, 3, true, [430, 78, 432, 431], []),
  (17, .ifCond .eq 14, 3, 31, 0, false, [], []),
  (20, .iload_n 3, 1, 0, 0, false, [], []),
  (21, .iconst 0, 1, 0, 0, false, [], [(0, 0)]),
  (22, .sipush 255, 3, 0, 0, false, [], [(255, 0)]),
  (25, .invokestatic 81, 3, 117, 3, true, [430, 78, 432, 431], []),
  (28, .ifCond .ne 6, 3, 34, 0, false, [], []),
  (31, .bipush (-101), 2, 0, 0, false, [], [((-101), 0)]),
  (33, .ireturn, 1, 0, 0, false, [], []),
  (34, .aload_n 0, 1, 0, 0, false, [], []),
  (35, .getfield 14, 3, 5, 0, false, [129], []),
  (38, .iload_n 1, 1, 0, 0, false, [], []),
  (39, .iload_n 2, 1, 0, 0, false, [], []),
  (40, .invokevirtual 64, 3, 2, 2, false, [433, 80, 436, 434, 435], []),
  (43, .istore 4, 2, 0, 0, false, [], []),
  (45, .aload_n 0, 1, 0, 0, false, [], []),
  (46, .getfield 14, 3, 5, 0, false, [129], []),
  (49, .iload_n 1, 1, 0, 0, false, [], []),
  (50, .iload_n 2, 1, 0, 0, false, [], []),
  (51, .iload_n 3, 1, 0, 0, false, [], []),
  (52, .invokevirtual 92, 3, 4, 3, false, [437, 80, 440, 438, 439], []),
  (55, .iload 4, 2, 0, 0, false, [], []),
  (57, .ireturn, 1, 0, 0, false, [], [])])
def mt_49 : XM := (⟨"PuppetTurns$Scene", "isPlace", "(II)Z"⟩, prog_7_method_14_code, 2, (Option.some Jvm.ClassFile.FieldType.boolean), { frames := 1, cells := 0, slots := 0, locals := 22 }, 5, [
(0, .iload_n 0, 1, 0, 0, false, [], []),
  (1, .bipush (-15), 2, 0, 0, false, [], [((-15), 0)]),
  (3, .bipush 63, 2, 0, 0, false, [], [(63, 0)]),
  (5, .invokestatic 81, 3, 117, 3, true, [430, 78, 432, 431], []),
  (8, .ifCond .eq 18, 3, 26, 0, false, [], []),
  (11, .iload_n 1, 1, 0, 0, false, [], []),
  (12, .bipush (-15), 2, 0, 0, false, [], [((-15), 0)]),
  (14, .bipush 47, 2, 0, 0, false, [], [(47, 0)]),
  (16, .invokestatic 81, 3, 117, 3, true, [430, 78, 432, 431], []),
  (19, .ifCond .eq 7, 3, 26, 0, false, [], []),
  (22, .iconst 1, 1, 0, 0, false, [], [(1, 0)]),
  (23, .goto 4, 3, 27, 0, false, [], []),
  (26, .iconst 0, 1, 0, 0, false, [], [(0, 0)]),
  (27, .ireturn, 1, 0, 0, false, [], [])])
def mt_50 : XM := (⟨"PuppetTurns$Scene", "admit", "(IIIII)I"⟩, prog_7_method_15_code, 7, (Option.some Jvm.ClassFile.FieldType.int), { frames := 2, cells := 0, slots := 0, locals := 43 }, 5, [
(0, .iload_n 1, 1, 0, 0, false, [], []),
  (1, .iload_n 2, 1, 0, 0, false, [], []),
  (2, .invokestatic 96, 3, 49, 2, false, [463, 79, 465, 464], []),
  (5, .ifCond .eq 34, 3, 39, 0, false, [], []),
  (8, .iload_n 3, 1, 0, 0, false, [], []),
  (9, .iconst 0, 1, 0, 0, false, [], [(0, 0)]),
  (10, .iconst 1, 1, 0, 0, false, [], [(1, 0)]),
  (11, .invokestatic 81, 3, 117, 3, true, [430, 78, 432, 431], []),
  (14, .ifCond .eq 25, 3, 39, 0, false, [], []),
  (17, .iload 4, 2, 0, 0, false, [], []),
  (19, .iconst 0, 1, 0, 0, false, [], [(0, 0)]),
  (20, .bipush 7, 2, 0, 0, false, [], [(7, 0)]),
  (22, .invokestatic 81, 3, 117, 3, true, [430, 78, 432, 431], []),
  (25, .ifCond .eq 14, 3, 39, 0, false, [], []),
  (28, .iload 5, 2, 0, 0, false, [], []),
  (30, .iconst 1, 1, 0, 0, false, [], [(1, 0)]),
  (31, .bipush 9, 2, 0, 0, false, [], [(9, 0)]),
  (33, .invokestatic 81, 3, 117, 3, true, [430, 78, 432, 431], []),
  (36, .ifCond .ne 6, 3, 42, 0, false, [], []),
  (39, .bipush (-101), 2, 0, 0, false, [], [((-101), 0)]),
  (41, .ireturn, 1, 0, 0, false, [], []),
  (42, .aload_n 0, 1, 0, 0, false, [], []),
  (43, .getfield 30, 3, 5, 4, false, [143], []),
  (46, .bipush 20, 2, 0, 0, false, [], [(20, 0)]),
  (48, .if_icmp .lt 6, 3, 54, 0, false, [], []),
  (51, .bipush (-103), 2, 0, 0, false, [], [((-103), 0)]),
  (53, .ireturn, 1, 0, 0, false, [], []),
  (54, .aload_n 0, 1, 0, 0, false, [], []),
  (55, .getfield 30, 3, 5, 4, false, [143], []),
  (58, .istore 6, 2, 0, 0, false, [], []),
  (60, .aload_n 0, 1, 0, 0, false, [], []),
  (61, .dup, 1, 0, 0, false, [], []),
  (62, .getfield 30, 3, 5, 4, false, [143], []),
  (65, .iconst 1, 1, 0, 0, false, [], [(1, 0)]),
  (66, .iadd, 1, 0, 0, false, [], []),
  (67, .putfield 30, 3, 5, 4, false, [143], []),
  (70, .aload_n 0, 1, 0, 0, false, [], []),
  (71, .getfield 23, 3, 5, 2, false, [134], []),
  (74, .aload_n 0, 1, 0, 0, false, [], []),
  (75, .getfield 26, 3, 5, 3, false, [138], []),
  (78, .iload 6, 2, 0, 0, false, [], []),
  (80, .invokevirtual 100, 3, 3, 2, false, [466, 80, 469, 467, 468], []),
  (83, .aload_n 0, 1, 0, 0, false, [], []),
  (84, .dup, 1, 0, 0, false, [], []),
  (85, .getfield 26, 3, 5, 3, false, [138], []),
  (88, .iconst 1, 1, 0, 0, false, [], [(1, 0)]),
  (89, .iadd, 1, 0, 0, false, [], []),
  (90, .putfield 26, 3, 5, 3, false, [138], []),
  (93, .aload_n 0, 1, 0, 0, false, [], []),
  (94, .getfield 20, 3, 5, 1, false, [130], []),
  (97, .iload 6, 2, 0, 0, false, [], []),
  (99, .iconst 0, 1, 0, 0, false, [], [(0, 0)]),
  (100, .iload_n 1, 1, 0, 0, false, [], []),
  (101, .invokevirtual 92, 3, 4, 3, false, [437, 80, 440, 438, 439], []),
  (104, .aload_n 0, 1, 0, 0, false, [], []),
  (105, .getfield 20, 3, 5, 1, false, [130], []),
  (108, .iload 6, 2, 0, 0, false, [], []),
  (110, .iconst 1, 1, 0, 0, false, [], [(1, 0)]),
  (111, .iload_n 2, 1, 0, 0, false, [], []),
  (112, .invokevirtual 92, 3, 4, 3, false, [437, 80, 440, 438, 439], []),
  (115, .aload_n 0, 1, 0, 0, false, [], []),
  (116, .getfield 20, 3, 5, 1, false, [130], []),
  (119, .iload 6, 2, 0, 0, false, [], []),
  (121, .iconst 2, 1, 0, 0, false, [], [(2, 0)]),
  (122, .iload_n 3, 1, 0, 0, false, [], []),
  (123, .invokevirtual 92, 3, 4, 3, false, [437, 80, 440, 438, 439], []),
  (126, .aload_n 0, 1, 0, 0, false, [], []),
  (127, .getfield 20, 3, 5, 1, false, [130], []),
  (130, .iload 6, 2, 0, 0, false, [], []),
  (132, .bipush 6, 2, 0, 0, false, [], [(6, 0)]),
  (134, .iload_n 3, 1, 0, 0, false, [], []),
  (135, .iconst 1, 1, 0, 0, false, [], [(1, 0)]),
  (136, .if_icmp .ne 8, 3, 144, 0, false, [], []),
  (139, .bipush 16, 2, 0, 0, false, [], [(16, 0)]),
  (141, .goto 5, 3, 146, 0, false, [], []),
  (144, .bipush 8, 2, 0, 0, false, [], [(8, 0)]),
  (146, .invokevirtual 92, 3, 4, 3, false, [437, 80, 440, 438, 439], []),
  (149, .aload_n 0, 1, 0, 0, false, [], []),
  (150, .getfield 20, 3, 5, 1, false, [130], []),
  (153, .iload 6, 2, 0, 0, false, [], []),
  (155, .iconst 3, 1, 0, 0, false, [], [(3, 0)]),
  (156, .iload 4, 2, 0, 0, false, [], []),
  (158, .invokevirtual 92, 3, 4, 3, false, [437, 80, 440, 438, 439], []),
  (161, .aload_n 0, 1, 0, 0, false, [], []),
  (162, .getfield 20, 3, 5, 1, false, [130], []),
  (165, .iload 6, 2, 0, 0, false, [], []),
  (167, .iconst 4, 1, 0, 0, false, [], [(4, 0)]),
  (168, .iload 5, 2, 0, 0, false, [], []),
  (170, .invokevirtual 92, 3, 4, 3, false, [437, 80, 440, 438, 439], []),
  (173, .iload 6, 2, 0, 0, false, [], []),
  (175, .ireturn, 1, 0, 0, false, [], [])])
def mt_51 : XM := (⟨"PuppetTurns$Scene", "dismiss", "(I)I"⟩, prog_7_method_16_code, 3, (Option.some Jvm.ClassFile.FieldType.int), { frames := 4, cells := 0, slots := 0, locals := 90 }, 5, [
(0, .aload_n 0, 1, 0, 0, false, [], []),
  (1, .iload_n 1, 1, 0, 0, false, [], []),
  (2, .invokevirtual 102, 3, 55, 1, false, [478, 79, 481, 479, 480], []),
  (5, .istore_n 2, 1, 0, 0, false, [], []),
  (6, .iload_n 2, 1, 0, 0, false, [], []),
  (7, .ifCond .lt 13, 3, 20, 0, false, [], []),
  (10, .aload_n 0, 1, 0, 0, false, [], []),
  (11, .dup, 1, 0, 0, false, [], []),
  (12, .getfield 26, 3, 5, 3, false, [138], []),
  (15, .iconst 1, 1, 0, 0, false, [], [(1, 0)]),
  (16, .isub, 1, 0, 0, false, [], []),
  (17, .putfield 26, 3, 5, 3, false, [138], []),
  (20, .iload_n 2, 1, 0, 0, false, [], []),
  (21, .ireturn, 1, 0, 0, false, [], [])])
def mt_52 : XM := (⟨"PuppetTurns$Scene", "relocate", "(III)I"⟩, prog_7_method_17_code, 4, (Option.some Jvm.ClassFile.FieldType.int), { frames := 3, cells := 0, slots := 0, locals := 65 }, 5, [
(0, .aload_n 0, 1, 0, 0, false, [], []),
  (1, .iload_n 1, 1, 0, 0, false, [], []),
  (2, .invokevirtual 60, 3, 39, 1, false, [506, 79, 509, 507, 508], []),
  (5, .ifCond .eq 11, 3, 16, 0, false, [], []),
  (8, .iload_n 2, 1, 0, 0, false, [], []),
  (9, .iload_n 3, 1, 0, 0, false, [], []),
  (10, .invokestatic 96, 3, 49, 2, false, [463, 79, 465, 464], []),
  (13, .ifCond .ne 6, 3, 19, 0, false, [], []),
  (16, .bipush (-101), 2, 0, 0, false, [], [((-101), 0)]),
  (18, .ireturn, 1, 0, 0, false, [], []),
  (19, .aload_n 0, 1, 0, 0, false, [], []),
  (20, .getfield 20, 3, 5, 1, false, [130], []),
  (23, .iload_n 1, 1, 0, 0, false, [], []),
  (24, .iconst 0, 1, 0, 0, false, [], [(0, 0)]),
  (25, .iload_n 2, 1, 0, 0, false, [], []),
  (26, .invokevirtual 92, 3, 4, 3, false, [437, 80, 440, 438, 439], []),
  (29, .aload_n 0, 1, 0, 0, false, [], []),
  (30, .getfield 20, 3, 5, 1, false, [130], []),
  (33, .iload_n 1, 1, 0, 0, false, [], []),
  (34, .iconst 1, 1, 0, 0, false, [], [(1, 0)]),
  (35, .iload_n 3, 1, 0, 0, false, [], []),
  (36, .invokevirtual 92, 3, 4, 3, false, [437, 80, 440, 438, 439], []),
  (39, .aload_n 0, 1, 0, 0, false, [], []),
  (40, .iload_n 1, 1, 0, 0, false, [], []),
  (41, .invokevirtual 105, 3, 43, 1, false, [510, 79, 513, 511, 512], []),
  (44, .ireturn, 1, 0, 0, false, [], [])])
def mt_53 : XM := (⟨"PuppetTurns$Scene", "flip", "(II)I"⟩, prog_7_method_18_code, 4, (Option.some Jvm.ClassFile.FieldType.int), { frames := 3, cells := 0, slots := 0, locals := 64 }, 5, [
(0, .aload_n 0, 1, 0, 0, false, [], []),
  (1, .iload_n 1, 1, 0, 0, false, [], []),
  (2, .invokevirtual 60, 3, 39, 1, false, [506, 79, 509, 507, 508], []),
  (5, .ifCond .eq 12, 3, 17, 0, false, [], []),
  (8, .iload_n 2, 1, 0, 0, false, [], []),
  (9, .iconst 0, 1, 0, 0, false, [], [(0, 0)]),
  (10, .iconst 3, 1, 0, 0, false, [], [(3, 0)]),
  (11, .invokestatic 81, 3, 117, 3, true, [430, 78, 432, 431], []),
  (14, .ifCond .ne 6, 3, 20, 0, false, [], []),
  (17, .bipush (-101), 2, 0, 0, false, [], [((-101), 0)]),
  (19, .ireturn, 1, 0, 0, false, [], []),
  (20, .aload_n 0, 1, 0, 0, false, [], []),
  (21, .getfield 20, 3, 5, 1, false, [130], []),
  (24, .iload_n 1, 1, 0, 0, false, [], []),
  (25, .iconst 5, 1, 0, 0, false, [], [(5, 0)]),
  (26, .invokevirtual 64, 3, 2, 2, false, [433, 80, 436, 434, 435], []),
  (29, .istore_n 3, 1, 0, 0, false, [], []),
  (30, .aload_n 0, 1, 0, 0, false, [], []),
  (31, .getfield 20, 3, 5, 1, false, [130], []),
  (34, .iload_n 1, 1, 0, 0, false, [], []),
  (35, .iconst 5, 1, 0, 0, false, [], [(5, 0)]),
  (36, .iload_n 2, 1, 0, 0, false, [], []),
  (37, .invokevirtual 92, 3, 4, 3, false, [437, 80, 440, 438, 439], []),
  (40, .iload_n 3, 1, 0, 0, false, [], []),
  (41, .ireturn, 1, 0, 0, false, [], [])])
def mt_54 : XM := (⟨"PuppetTurns$Scene", "putFirst", "(I)I"⟩, prog_7_method_19_code, 2, (Option.some Jvm.ClassFile.FieldType.int), { frames := 3, cells := 0, slots := 0, locals := 69 }, 5, [
(0, .aload_n 0, 1, 0, 0, false, [], []),
  (1, .iload_n 1, 1, 0, 0, false, [], []),
  (2, .iconst 0, 1, 0, 0, false, [], [(0, 0)]),
  (3, .invokevirtual 108, 3, 56, 2, false, [482, 79, 485, 484, 2], []),
  (6, .ireturn, 1, 0, 0, false, [], [])])
def mt_55 : XM := (⟨"PuppetTurns$Scene", "putLast", "(I)I"⟩, prog_7_method_20_code, 2, (Option.some Jvm.ClassFile.FieldType.int), { frames := 3, cells := 0, slots := 0, locals := 69 }, 5, [
(0, .aload_n 0, 1, 0, 0, false, [], []),
  (1, .iload_n 1, 1, 0, 0, false, [], []),
  (2, .aload_n 0, 1, 0, 0, false, [], []),
  (3, .getfield 26, 3, 5, 3, false, [138], []),
  (6, .iconst 1, 1, 0, 0, false, [], [(1, 0)]),
  (7, .isub, 1, 0, 0, false, [], []),
  (8, .invokevirtual 108, 3, 56, 2, false, [482, 79, 485, 484, 2], []),
  (11, .ireturn, 1, 0, 0, false, [], [])])
def mt_56 : XM := (⟨"PuppetTurns$Scene", "putAt", "(II)I"⟩, prog_7_method_21_code, 4, (Option.some Jvm.ClassFile.FieldType.int), { frames := 2, cells := 0, slots := 0, locals := 46 }, 5, [
(0, .aload_n 0, 1, 0, 0, false, [], []),
  (1, .iload_n 1, 1, 0, 0, false, [], []),
  (2, .invokevirtual 57, 3, 38, 1, false, [486, 79, 489, 487, 488], []),
  (5, .istore_n 3, 1, 0, 0, false, [], []),
  (6, .iload_n 3, 1, 0, 0, false, [], []),
  (7, .ifCond .ge 6, 3, 13, 0, false, [], []),
  (10, .bipush (-101), 2, 0, 0, false, [], [((-101), 0)]),
  (12, .ireturn, 1, 0, 0, false, [], []),
  (13, .aload_n 0, 1, 0, 0, false, [], []),
  (14, .iload_n 3, 1, 0, 0, false, [], []),
  (15, .iload_n 2, 1, 0, 0, false, [], []),
  (16, .invokevirtual 111, 3, 57, 2, false, [494, 79, 497, 496, 3], []),
  (19, .iload_n 3, 1, 0, 0, false, [], []),
  (20, .ireturn, 1, 0, 0, false, [], [])])
def mt_57 : XM := (⟨"PuppetTurns$Scene", "shiftInOrder", "(II)V"⟩, prog_7_method_22_code, 5, (Option.none : Option Jvm.ClassFile.FieldType), { frames := 1, cells := 0, slots := 0, locals := 22 }, 5, [
(0, .aload_n 0, 1, 0, 0, false, [], []),
  (1, .getfield 23, 3, 5, 2, false, [134], []),
  (4, .iload_n 1, 1, 0, 0, false, [], []),
  (5, .invokevirtual 53, 3, 1, 1, false, [490, 80, 493, 491, 492], []),
  (8, .istore_n 3, 1, 0, 0, false, [], []),
  (9, .iload_n 1, 1, 0, 0, false, [], []),
  (10, .istore 4, 2, 0, 0, false, [], []),
  (12, .iload 4, 2, 0, 0, false, [], []),
  (14, .iload_n 2, 1, 0, 0, false, [], []),
  (15, .if_icmp .ge 29, 3, 44, 0, false, [], []),
  (18, .aload_n 0, 1, 0, 0, false, [], []),
  (19, .getfield 23, 3, 5, 2, false, [134], []),
  (22, .iload 4, 2, 0, 0, false, [], []),
  (24, .aload_n 0, 1, 0, 0, false, [], []),
  (25, .getfield 23, 3, 5, 2, false, [134], []),
  (28, .iload 4, 2, 0, 0, false, [], []),
  (30, .iconst 1, 1, 0, 0, false, [], [(1, 0)]),
  (31, .iadd, 1, 0, 0, false, [], []),
  (32, .invokevirtual 53, 3, 1, 1, false, [490, 80, 493, 491, 492], []),
  (35, .invokevirtual 100, 3, 3, 2, false, [466, 80, 469, 467, 468], []),
  (38, .iinc 4 1, 3, 0, 0, false, [], [(1, 0)]),
  (41, .goto (-29), 3, 12, 0, false, [], []),
  (44, .iload_n 1, 1, 0, 0, false, [], []),
  (45, .istore 4, 2, 0, 0, false, [], []),
  (47, .iload 4, 2, 0, 0, false, [], []),
  (49, .iload_n 2, 1, 0, 0, false, [], []),
  (50, .if_icmp .le 29, 3, 79, 0, false, [], []),
  (53, .aload_n 0, 1, 0, 0, false, [], []),
  (54, .getfield 23, 3, 5, 2, false, [134], []),
  (57, .iload 4, 2, 0, 0, false, [], []),
  (59, .aload_n 0, 1, 0, 0, false, [], []),
  (60, .getfield 23, 3, 5, 2, false, [134], []),
  (63, .iload 4, 2, 0, 0, false, [], []),
  (65, .iconst 1, 1, 0, 0, false, [], [(1, 0)]),
  (66, .isub, 1, 0, 0, false, [], []),
  (67, .invokevirtual 53, 3, 1, 1, false, [490, 80, 493, 491, 492], []),
  (70, .invokevirtual 100, 3, 3, 2, false, [466, 80, 469, 467, 468], []),
  (73, .iinc 4 (-1), 3, 0, 0, false, [], [((-1), 0)]),
  (76, .goto (-29), 3, 47, 0, false, [], []),
  (79, .aload_n 0, 1, 0, 0, false, [], []),
  (80, .getfield 23, 3, 5, 2, false, [134], []),
  (83, .iload_n 2, 1, 0, 0, false, [], []),
  (84, .iload_n 3, 1, 0, 0, false, [], []),
  (85, .invokevirtual 100, 3, 3, 2, false, [466, 80, 469, 467, 468], []),
  (88, .return_, 1, 0, 0, false, [], [])])
def mt_58 : XM := (⟨"PuppetTurns$Scene", "changeLimit", "(I)I"⟩, prog_7_method_23_code, 3, (Option.some Jvm.ClassFile.FieldType.int), { frames := 1, cells := 0, slots := 0, locals := 22 }, 5, [
(0, .iload_n 1, 1, 0, 0, false, [], []),
  (1, .iconst 1, 1, 0, 0, false, [], [(1, 0)]),
  (2, .bipush 8, 2, 0, 0, false, [], [(8, 0)]),
  (4, .invokestatic 81, 3, 117, 3, true, [430, 78, 432, 431], []),
  (7, .ifCond .ne 6, 3, 13, 0, false, [], []),
  (10, .bipush (-101), 2, 0, 0, false, [], [((-101), 0)]),
  (12, .ireturn, 1, 0, 0, false, [], []),
  (13, .aload_n 0, 1, 0, 0, false, [], []),
  (14, .getfield 33, 3, 5, 5, false, [145], []),
  (17, .istore_n 2, 1, 0, 0, false, [], []),
  (18, .aload_n 0, 1, 0, 0, false, [], []),
  (19, .iload_n 1, 1, 0, 0, false, [], []),
  (20, .putfield 33, 3, 5, 5, false, [145], []),
  (23, .iload_n 2, 1, 0, 0, false, [], []),
  (24, .ireturn, 1, 0, 0, false, [], [])])
def mt_59 : XM := (⟨"PuppetTurns$Scene", "changeRule", "(II)I"⟩, prog_7_method_24_code, 4, (Option.some Jvm.ClassFile.FieldType.int), { frames := 1, cells := 0, slots := 0, locals := 22 }, 5, [
(0, .iload_n 1, 1, 0, 0, false, [], []),
  (1, .iconst 0, 1, 0, 0, false, [], [(0, 0)]),
  (2, .iconst 2, 1, 0, 0, false, [], [(2, 0)]),
  (3, .invokestatic 81, 3, 117, 3, true, [430, 78, 432, 431], []),
  (6, .ifCond .eq 13, 3, 19, 0, false, [], []),
  (9, .iload_n 2, 1, 0, 0, false, [], []),
  (10, .iconst 1, 1, 0, 0, false, [], [(1, 0)]),
  (11, .bipush 19, 2, 0, 0, false, [], [(19, 0)]),
  (13, .invokestatic 81, 3, 117, 3, true, [430, 78, 432, 431], []),
  (16, .ifCond .ne 6, 3, 22, 0, false, [], []),
  (19, .bipush (-101), 2, 0, 0, false, [], [((-101), 0)]),
  (21, .ireturn, 1, 0, 0, false, [], []),
  (22, .aload_n 0, 1, 0, 0, false, [], []),
  (23, .getfield 36, 3, 5, 6, false, [149], []),
  (26, .istore_n 3, 1, 0, 0, false, [], []),
  (27, .aload_n 0, 1, 0, 0, false, [], []),
  (28, .iload_n 1, 1, 0, 0, false, [], []),
  (29, .putfield 36, 3, 5, 6, false, [149], []),
  (32, .aload_n 0, 1, 0, 0, false, [], []),
  (33, .iload_n 2, 1, 0, 0, false, [], []),
  (34, .putfield 39, 3, 5, 7, false, [152], []),
  (37, .iload_n 3, 1, 0, 0, false, [], []),
  (38, .ireturn, 1, 0, 0, false, [], [])])
def mt_60 : XM := (⟨"PuppetTurns$Scene", "makeFrame", "(LPuppetTurns$Survey;I)I"⟩, prog_7_method_25_code, 4, (Option.some Jvm.ClassFile.FieldType.int), { frames := 3, cells := 0, slots := 0, locals := 69 }, 5, [
(0, .aload_n 0, 1, 0, 0, false, [], []),
  (1, .getfield 42, 3, 5, 8, false, [155], []),
  (4, .iload_n 2, 1, 0, 0, false, [], []),
  (5, .if_icmp .lt 6, 3, 11, 0, false, [], []),
  (8, .bipush (-103), 2, 0, 0, false, [], [((-103), 0)]),
  (10, .ireturn, 1, 0, 0, false, [], []),
  (11, .aload_n 1, 1, 0, 0, false, [], []),
  (12, .aload_n 0, 1, 0, 0, false, [], []),
  (13, .invokevirtual 114, 3, 86, 1, false, [569, 82, 572, 570, 571], []),
  (16, .iconst 0, 1, 0, 0, false, [], [(0, 0)]),
  (17, .istore_n 3, 1, 0, 0, false, [], []),
  (18, .iload_n 3, 1, 0, 0, false, [], []),
  (19, .aload_n 0, 1, 0, 0, false, [], []),
  (20, .getfield 26, 3, 5, 3, false, [138], []),
  (23, .if_icmp .ge 22, 3, 45, 0, false, [], []),
  (26, .aload_n 0, 1, 0, 0, false, [], []),
  (27, .aload_n 0, 1, 0, 0, false, [], []),
  (28, .getfield 23, 3, 5, 2, false, [134], []),
  (31, .iload_n 3, 1, 0, 0, false, [], []),
  (32, .invokevirtual 53, 3, 1, 1, false, [490, 80, 493, 491, 492], []),
  (35, .aload_n 1, 1, 0, 0, false, [], []),
  (36, .invokevirtual 120, 3, 61, 2, false, [581, 79, 584, 583, 4], []),
  (39, .iinc 3 1, 3, 0, 0, false, [], [(1, 0)]),
  (42, .goto (-24), 3, 18, 0, false, [], []),
  (45, .aload_n 0, 1, 0, 0, false, [], []),
  (46, .getfield 36, 3, 5, 6, false, [149], []),
  (49, .iconst 1, 1, 0, 0, false, [], [(1, 0)]),
  (50, .if_icmp .ne 10, 3, 60, 0, false, [], []),
  (53, .aload_n 0, 1, 0, 0, false, [], []),
  (54, .invokevirtual 124, 3, 62, 0, false, [589, 79, 592, 591, 5], []),
  (57, .goto 16, 3, 73, 0, false, [], []),
  (60, .aload_n 0, 1, 0, 0, false, [], []),
  (61, .getfield 36, 3, 5, 6, false, [149], []),
  (64, .iconst 2, 1, 0, 0, false, [], [(2, 0)]),
  (65, .if_icmp .ne 8, 3, 73, 0, false, [], []),
  (68, .aload_n 0, 1, 0, 0, false, [], []),
  (69, .aload_n 1, 1, 0, 0, false, [], []),
  (70, .invokevirtual 127, 3, 63, 1, false, [593, 79, 596, 595, 6], []),
  (73, .aload_n 0, 1, 0, 0, false, [], []),
  (74, .dup, 1, 0, 0, false, [], []),
  (75, .getfield 42, 3, 5, 8, false, [155], []),
  (78, .iconst 1, 1, 0, 0, false, [], [(1, 0)]),
  (79, .iadd, 1, 0, 0, false, [], []),
  (80, .putfield 42, 3, 5, 8, false, [155], []),
  (83, .aload_n 1, 1, 0, 0, false, [], []),
  (84, .invokevirtual 131, 3, 88, 0, false, [597, 82, 600, 598, 599], []),
  (87, .ireturn, 1, 0, 0, false, [], [])])
def mt_61 : XM := (⟨"PuppetTurns$Scene", "countHidden", "(ILPuppetTurns$Survey;)V"⟩, prog_7_method_26_code, 4, (Option.none : Option Jvm.ClassFile.FieldType), { frames := 2, cells := 0, slots := 0, locals := 42 }, 5, [
(0, .aload_n 2, 1, 0, 0, false, [], []),
  (1, .iload_n 1, 1, 0, 0, false, [], []),
  (2, .invokevirtual 135, 3, 87, 1, false, [585, 82, 588, 586, 587], []),
  (5, .ifCond .ne 15, 3, 20, 0, false, [], []),
  (8, .aload_n 0, 1, 0, 0, false, [], []),
  (9, .getfield 20, 3, 5, 1, false, [130], []),
  (12, .iload_n 1, 1, 0, 0, false, [], []),
  (13, .bipush 8, 2, 0, 0, false, [], [(8, 0)]),
  (15, .iconst 0, 1, 0, 0, false, [], [(0, 0)]),
  (16, .invokevirtual 92, 3, 4, 3, false, [437, 80, 440, 438, 439], []),
  (19, .return_, 1, 0, 0, false, [], []),
  (20, .aload_n 0, 1, 0, 0, false, [], []),
  (21, .getfield 20, 3, 5, 1, false, [130], []),
  (24, .iload_n 1, 1, 0, 0, false, [], []),
  (25, .bipush 8, 2, 0, 0, false, [], [(8, 0)]),
  (27, .invokevirtual 64, 3, 2, 2, false, [433, 80, 436, 434, 435], []),
  (30, .iconst 1, 1, 0, 0, false, [], [(1, 0)]),
  (31, .iadd, 1, 0, 0, false, [], []),
  (32, .istore_n 3, 1, 0, 0, false, [], []),
  (33, .aload_n 0, 1, 0, 0, false, [], []),
  (34, .getfield 20, 3, 5, 1, false, [130], []),
  (37, .iload_n 1, 1, 0, 0, false, [], []),
  (38, .bipush 8, 2, 0, 0, false, [], [(8, 0)]),
  (40, .iload_n 3, 1, 0, 0, false, [], []),
  (41, .invokevirtual 92, 3, 4, 3, false, [437, 80, 440, 438, 439], []),
  (44, .aload_n 0, 1, 0, 0, false, [], []),
  (45, .getfield 20, 3, 5, 1, false, [130], []),
  (48, .iload_n 1, 1, 0, 0, false, [], []),
  (49, .bipush 9, 2, 0, 0, false, [], [(9, 0)]),
  (51, .aload_n 0, 1, 0, 0, false, [], []),
  (52, .getfield 20, 3, 5, 1, false, [130], []),
  (55, .iload_n 1, 1, 0, 0, false, [], []),
  (56, .bipush 9, 2, 0, 0, false, [], [(9, 0)]),
  (58, .invokevirtual 64, 3, 2, 2, false, [433, 80, 436, 434, 435], []),
  (61, .iload_n 3, 1, 0, 0, false, [], []),
  (62, .invokestatic 67, 3, 203, 2, false, [523, 81, 116, 115], []),
  (65, .invokevirtual 92, 3, 4, 3, false, [437, 80, 440, 438, 439], []),
  (68, .aload_n 0, 1, 0, 0, false, [], []),
  (69, .getfield 20, 3, 5, 1, false, [130], []),
  (72, .iload_n 1, 1, 0, 0, false, [], []),
  (73, .bipush 7, 2, 0, 0, false, [], [(7, 0)]),
  (75, .aload_n 0, 1, 0, 0, false, [], []),
  (76, .getfield 20, 3, 5, 1, false, [130], []),
  (79, .iload_n 1, 1, 0, 0, false, [], []),
  (80, .bipush 7, 2, 0, 0, false, [], [(7, 0)]),
  (82, .invokevirtual 64, 3, 2, 2, false, [433, 80, 436, 434, 435], []),
  (85, .iconst 1, 1, 0, 0, false, [], [(1, 0)]),
  (86, .iadd, 1, 0, 0, false, [], []),
  (87, .invokevirtual 92, 3, 4, 3, false, [437, 80, 440, 438, 439], []),
  (90, .return_, 1, 0, 0, false, [], [])])
def mt_62 : XM := (⟨"PuppetTurns$Scene", "rotate", "()V"⟩, prog_7_method_27_code, 3, (Option.none : Option Jvm.ClassFile.FieldType), { frames := 2, cells := 0, slots := 0, locals := 46 }, 5, [
(0, .aload_n 0, 1, 0, 0, false, [], []),
  (1, .getfield 26, 3, 5, 3, false, [138], []),
  (4, .ifCond .le 15, 3, 19, 0, false, [], []),
  (7, .aload_n 0, 1, 0, 0, false, [], []),
  (8, .getfield 39, 3, 5, 7, false, [152], []),
  (11, .aload_n 0, 1, 0, 0, false, [], []),
  (12, .getfield 26, 3, 5, 3, false, [138], []),
  (15, .irem, 1, 0, 0, false, [], []),
  (16, .goto 4, 3, 20, 0, false, [], []),
  (19, .iconst 0, 1, 0, 0, false, [], [(0, 0)]),
  (20, .istore_n 1, 1, 0, 0, false, [], []),
  (21, .iconst 0, 1, 0, 0, false, [], [(0, 0)]),
  (22, .istore_n 2, 1, 0, 0, false, [], []),
  (23, .iload_n 2, 1, 0, 0, false, [], []),
  (24, .iload_n 1, 1, 0, 0, false, [], []),
  (25, .if_icmp .ge 20, 3, 45, 0, false, [], []),
  (28, .aload_n 0, 1, 0, 0, false, [], []),
  (29, .iconst 0, 1, 0, 0, false, [], [(0, 0)]),
  (30, .aload_n 0, 1, 0, 0, false, [], []),
  (31, .getfield 26, 3, 5, 3, false, [138], []),
  (34, .iconst 1, 1, 0, 0, false, [], [(1, 0)]),
  (35, .isub, 1, 0, 0, false, [], []),
  (36, .invokevirtual 111, 3, 57, 2, false, [494, 79, 497, 496, 3], []),
  (39, .iinc 2 1, 3, 0, 0, false, [], [(1, 0)]),
  (42, .goto (-19), 3, 23, 0, false, [], []),
  (45, .return_, 1, 0, 0, false, [], [])])
def mt_63 : XM := (⟨"PuppetTurns$Scene", "bringHidden", "(LPuppetTurns$Survey;)V"⟩, prog_7_method_28_code, 4, (Option.none : Option Jvm.ClassFile.FieldType), { frames := 2, cells := 0, slots := 0, locals := 46 }, 5, [
(0, .iconst 0, 1, 0, 0, false, [], [(0, 0)]),
  (1, .istore_n 2, 1, 0, 0, false, [], []),
  (2, .iconst 0, 1, 0, 0, false, [], [(0, 0)]),
  (3, .istore_n 3, 1, 0, 0, false, [], []),
  (4, .iload_n 3, 1, 0, 0, false, [], []),
  (5, .aload_n 0, 1, 0, 0, false, [], []),
  (6, .getfield 26, 3, 5, 3, false, [138], []),
  (9, .if_icmp .ge 33, 3, 42, 0, false, [], []),
  (12, .aload_n 1, 1, 0, 0, false, [], []),
  (13, .aload_n 0, 1, 0, 0, false, [], []),
  (14, .getfield 23, 3, 5, 2, false, [134], []),
  (17, .iload_n 3, 1, 0, 0, false, [], []),
  (18, .invokevirtual 53, 3, 1, 1, false, [490, 80, 493, 491, 492], []),
  (21, .invokevirtual 135, 3, 87, 1, false, [585, 82, 588, 586, 587], []),
  (24, .ifCond .eq 12, 3, 36, 0, false, [], []),
  (27, .aload_n 0, 1, 0, 0, false, [], []),
  (28, .iload_n 3, 1, 0, 0, false, [], []),
  (29, .iload_n 2, 1, 0, 0, false, [], []),
  (30, .invokevirtual 111, 3, 57, 2, false, [494, 79, 497, 496, 3], []),
  (33, .iinc 2 1, 3, 0, 0, false, [], [(1, 0)]),
  (36, .iinc 3 1, 3, 0, 0, false, [], [(1, 0)]),
  (39, .goto (-35), 3, 4, 0, false, [], []),
  (42, .return_, 1, 0, 0, false, [], [])])
def mt_64 : XM := (⟨"PuppetTurns$Schedule", "<init>", "()V"⟩, prog_8_method_1_code, 1, (Option.none : Option Jvm.ClassFile.FieldType), { frames := 2, cells := 4, slots := 1204, locals := 82 }, 6, [
(0, .aload_n 0, 1, 0, 0, false, [], []),
  (1, .invokespecial 3, 3, 1000, 0, false, [333, 100, 101], []),
  (4, .aload_n 0, 1, 0, 0, false, [], []),
  (5, .new 9, 3, 0, 0, false, [334, 109, 80], []),
  (8, .dup, 1, 0, 0, false, [], []),
  (9, .sipush 200, 3, 0, 0, false, [], [(200, 0)]),
  (12, .iconst 1, 1, 0, 0, false, [], [(1, 0)]),
  (13, .invokespecial 11, 3, 0, 2, false, [335, 80, 112, 111], []),
  (16, .putfield 14, 3, 6, 0, false, [336], []),
  (19, .aload_n 0, 1, 0, 0, false, [], []),
  (20, .new 9, 3, 0, 0, false, [334, 109, 80], []),
  (23, .dup, 1, 0, 0, false, [], []),
  (24, .iconst 4, 1, 0, 0, false, [], [(4, 0)]),
  (25, .iconst 1, 1, 0, 0, false, [], [(1, 0)]),
  (26, .invokespecial 11, 3, 0, 2, false, [335, 80, 112, 111], []),
  (29, .putfield 20, 3, 6, 1, false, [338], []),
  (32, .aload_n 0, 1, 0, 0, false, [], []),
  (33, .iconst 0, 1, 0, 0, false, [], [(0, 0)]),
  (34, .putfield 23, 3, 6, 2, false, [339], []),
  (37, .aload_n 0, 1, 0, 0, false, [], []),
  (38, .iconst 0, 1, 0, 0, false, [], [(0, 0)]),
  (39, .putfield 27, 3, 6, 3, false, [341], []),
  (42, .aload_n 0, 1, 0, 0, false, [], []),
  (43, .iconst (-1), 1, 0, 0, false, [], [((-1), 0)]),
  (44, .putfield 30, 3, 6, 4, false, [342], []),
  (47, .return_, 1, 0, 0, false, [], [])])
def mt_65 : XM := (⟨"PuppetTurns$Schedule", "unroll", "(LPuppetTurns$Steps;)V"⟩, prog_8_method_2_code, 4, (Option.none : Option Jvm.ClassFile.FieldType), { frames := 3, cells := 0, slots := 0, locals := 67 }, 6, [
(0, .aload_n 0, 1, 0, 0, false, [], []),
  (1, .iconst 0, 1, 0, 0, false, [], [(0, 0)]),
  (2, .putfield 23, 3, 6, 2, false, [339], []),
  (5, .aload_n 0, 1, 0, 0, false, [], []),
  (6, .iconst 0, 1, 0, 0, false, [], [(0, 0)]),
  (7, .putfield 27, 3, 6, 3, false, [341], []),
  (10, .aload_n 0, 1, 0, 0, false, [], []),
  (11, .iconst (-1), 1, 0, 0, false, [], [((-1), 0)]),
  (12, .putfield 30, 3, 6, 4, false, [342], []),
  (15, .iconst 0, 1, 0, 0, false, [], [(0, 0)]),
  (16, .istore_n 2, 1, 0, 0, false, [], []),
  (17, .iconst 0, 1, 0, 0, false, [], [(0, 0)]),
  (18, .istore_n 3, 1, 0, 0, false, [], []),
  (19, .iload_n 3, 1, 0, 0, false, [], []),
  (20, .ldc 33, 2, 0, 0, false, [692], [(100000, 0)]),
  (22, .if_icmp .ge 31, 3, 53, 0, false, [], []),
  (25, .iload_n 2, 1, 0, 0, false, [], []),
  (26, .aload_n 1, 1, 0, 0, false, [], []),
  (27, .getfield 34, 3, 9, 1, true, [297], []),
  (30, .if_icmp .ge 23, 3, 53, 0, false, [], []),
  (33, .aload_n 0, 1, 0, 0, false, [], []),
  (34, .getfield 30, 3, 6, 4, false, [342], []),
  (37, .ifCond .ge 16, 3, 53, 0, false, [], []),
  (40, .aload_n 0, 1, 0, 0, false, [], []),
  (41, .aload_n 1, 1, 0, 0, false, [], []),
  (42, .iload_n 2, 1, 0, 0, false, [], []),
  (43, .invokevirtual 39, 3, 66, 2, false, [693, 89, 696, 695, 15], []),
  (46, .istore_n 2, 1, 0, 0, false, [], []),
  (47, .iinc 3 1, 3, 0, 0, false, [], [(1, 0)]),
  (50, .goto (-31), 3, 19, 0, false, [], []),
  (53, .return_, 1, 0, 0, false, [], [])])
def mt_66 : XM := (⟨"PuppetTurns$Schedule", "take", "(LPuppetTurns$Steps;I)I"⟩, prog_8_method_3_code, 3, (Option.some Jvm.ClassFile.FieldType.int), { frames := 2, cells := 0, slots := 0, locals := 45 }, 6, [
(0, .aload_n 1, 1, 0, 0, false, [], []),
  (1, .getfield 43, 3, 9, 0, true, [292], []),
  (4, .iload_n 2, 1, 0, 0, false, [], []),
  (5, .iconst 0, 1, 0, 0, false, [], [(0, 0)]),
  (6, .invokevirtual 46, 3, 2, 2, false, [697, 80, 436, 434, 435], []),
  (9, .lookupswitch 68 #[(40, 27), (41, 61)], 27, 77, 0, false, [], [(40, 36), (41, 70)]),
  (36, .aload_n 0, 1, 0, 0, false, [], []),
  (37, .getfield 20, 3, 6, 1, false, [338], []),
  (40, .aload_n 0, 1, 0, 0, false, [], []),
  (41, .getfield 27, 3, 6, 3, false, [341], []),
  (44, .aload_n 1, 1, 0, 0, false, [], []),
  (45, .getfield 43, 3, 9, 0, true, [292], []),
  (48, .iload_n 2, 1, 0, 0, false, [], []),
  (49, .iconst 3, 1, 0, 0, false, [], [(3, 0)]),
  (50, .invokevirtual 46, 3, 2, 2, false, [697, 80, 436, 434, 435], []),
  (53, .invokevirtual 50, 3, 3, 2, false, [698, 80, 469, 467, 468], []),
  (56, .aload_n 0, 1, 0, 0, false, [], []),
  (57, .dup, 1, 0, 0, false, [], []),
  (58, .getfield 27, 3, 6, 3, false, [341], []),
  (61, .iconst 1, 1, 0, 0, false, [], [(1, 0)]),
  (62, .iadd, 1, 0, 0, false, [], []),
  (63, .putfield 27, 3, 6, 3, false, [341], []),
  (66, .iload_n 2, 1, 0, 0, false, [], []),
  (67, .iconst 1, 1, 0, 0, false, [], [(1, 0)]),
  (68, .iadd, 1, 0, 0, false, [], []),
  (69, .ireturn, 1, 0, 0, false, [], []),
  (70, .aload_n 0, 1, 0, 0, false, [], []),
  (71, .aload_n 1, 1, 0, 0, false, [], []),
  (72, .iload_n 2, 1, 0, 0, false, [], []),
  (73, .invokevirtual 53, 3, 67, 2, false, [699, 89, 702, 701, 16], []),
  (76, .ireturn, 1, 0, 0, false, [], []),
  (77, .aload_n 0, 1, 0, 0, false, [], []),
  (78, .iload_n 2, 1, 0, 0, false, [], []),
  (79, .invokevirtual 56, 3, 68, 1, false, [705, 89, 708, 707, 17], []),
  (82, .iload_n 2, 1, 0, 0, false, [], []),
  (83, .iconst 1, 1, 0, 0, false, [], [(1, 0)]),
  (84, .iadd, 1, 0, 0, false, [], []),
  (85, .ireturn, 1, 0, 0, false, [], [])])
def mt_67 : XM := (⟨"PuppetTurns$Schedule", "takeClosing", "(LPuppetTurns$Steps;I)I"⟩, prog_8_method_4_code, 3, (Option.some Jvm.ClassFile.FieldType.int), { frames := 1, cells := 0, slots := 0, locals := 23 }, 6, [
(0, .aload_n 0, 1, 0, 0, false, [], []),
  (1, .getfield 20, 3, 6, 1, false, [338], []),
  (4, .aload_n 0, 1, 0, 0, false, [], []),
  (5, .getfield 27, 3, 6, 3, false, [341], []),
  (8, .iconst 1, 1, 0, 0, false, [], [(1, 0)]),
  (9, .isub, 1, 0, 0, false, [], []),
  (10, .iconst (-1), 1, 0, 0, false, [], [((-1), 0)]),
  (11, .invokevirtual 60, 3, 5, 2, false, [703, 80, 580, 578, 579], []),
  (14, .aload_n 0, 1, 0, 0, false, [], []),
  (15, .getfield 20, 3, 6, 1, false, [338], []),
  (18, .aload_n 0, 1, 0, 0, false, [], []),
  (19, .getfield 27, 3, 6, 3, false, [341], []),
  (22, .iconst 1, 1, 0, 0, false, [], [(1, 0)]),
  (23, .isub, 1, 0, 0, false, [], []),
  (24, .invokevirtual 63, 3, 1, 1, false, [704, 80, 493, 491, 492], []),
  (27, .ifCond .le 15, 3, 42, 0, false, [], []),
  (30, .aload_n 1, 1, 0, 0, false, [], []),
  (31, .getfield 43, 3, 9, 0, true, [292], []),
  (34, .iload_n 2, 1, 0, 0, false, [], []),
  (35, .iconst 3, 1, 0, 0, false, [], [(3, 0)]),
  (36, .invokevirtual 46, 3, 2, 2, false, [697, 80, 436, 434, 435], []),
  (39, .iconst 1, 1, 0, 0, false, [], [(1, 0)]),
  (40, .iadd, 1, 0, 0, false, [], []),
  (41, .ireturn, 1, 0, 0, false, [], []),
  (42, .aload_n 0, 1, 0, 0, false, [], []),
  (43, .dup, 1, 0, 0, false, [], []),
  (44, .getfield 27, 3, 6, 3, false, [341], []),
  (47, .iconst 1, 1, 0, 0, false, [], [(1, 0)]),
  (48, .isub, 1, 0, 0, false, [], []),
  (49, .putfield 27, 3, 6, 3, false, [341], []),
  (52, .iload_n 2, 1, 0, 0, false, [], []),
  (53, .iconst 1, 1, 0, 0, false, [], [(1, 0)]),
  (54, .iadd, 1, 0, 0, false, [], []),
  (55, .ireturn, 1, 0, 0, false, [], [])])
def mt_68 : XM := (⟨"PuppetTurns$Schedule", "plan", "(I)V"⟩, prog_8_method_5_code, 2, (Option.none : Option Jvm.ClassFile.FieldType), { frames := 1, cells := 0, slots := 0, locals := 22 }, 6, [
(0, .aload_n 0, 1, 0, 0, false, [], []),
  (1, .getfield 23, 3, 6, 2, false, [339], []),
  (4, .sipush 200, 3, 0, 0, false, [], [(200, 0)]),
  (7, .if_icmp .ge 28, 3, 35, 0, false, [], []),
  (10, .aload_n 0, 1, 0, 0, false, [], []),
  (11, .getfield 14, 3, 6, 0, false, [336], []),
  (14, .aload_n 0, 1, 0, 0, false, [], []),
  (15, .getfield 23, 3, 6, 2, false, [339], []),
  (18, .iload_n 1, 1, 0, 0, false, [], []),
  (19, .invokevirtual 50, 3, 3, 2, false, [698, 80, 469, 467, 468], []),
  (22, .aload_n 0, 1, 0, 0, false, [], []),
  (23, .dup, 1, 0, 0, false, [], []),
  (24, .getfield 23, 3, 6, 2, false, [339], []),
  (27, .iconst 1, 1, 0, 0, false, [], [(1, 0)]),
  (28, .iadd, 1, 0, 0, false, [], []),
  (29, .putfield 23, 3, 6, 2, false, [339], []),
  (32, .goto 8, 3, 40, 0, false, [], []),
  (35, .aload_n 0, 1, 0, 0, false, [], []),
  (36, .iload_n 1, 1, 0, 0, false, [], []),
  (37, .putfield 30, 3, 6, 4, false, [342], []),
  (40, .return_, 1, 0, 0, false, [], [])])
def mt_69 : XM := (⟨"PuppetTurns$Script", "<init>", "()V"⟩, prog_9_method_1_code, 1, (Option.none : Option Jvm.ClassFile.FieldType), { frames := 2, cells := 2, slots := 602, locals := 82 }, 7, [
(0, .aload_n 0, 1, 0, 0, false, [], []),
  (1, .invokespecial 3, 3, 1000, 0, false, [271, 100, 101], []),
  (4, .aload_n 0, 1, 0, 0, false, [], []),
  (5, .new 9, 3, 0, 0, false, [272, 109, 80], []),
  (8, .dup, 1, 0, 0, false, [], []),
  (9, .bipush 100, 2, 0, 0, false, [], [(100, 0)]),
  (11, .iconst 1, 1, 0, 0, false, [], [(1, 0)]),
  (12, .invokespecial 11, 3, 0, 2, false, [273, 80, 112, 111], []),
  (15, .putfield 14, 3, 7, 0, false, [274], []),
  (18, .aload_n 0, 1, 0, 0, false, [], []),
  (19, .iconst 0, 1, 0, 0, false, [], [(0, 0)]),
  (20, .putfield 20, 3, 7, 1, false, [275], []),
  (23, .return_, 1, 0, 0, false, [], [])])
def mt_70 : XM := (⟨"PuppetTurns$Script", "add", "(I)I"⟩, prog_9_method_2_code, 2, (Option.some Jvm.ClassFile.FieldType.int), { frames := 1, cells := 0, slots := 0, locals := 22 }, 7, [
(0, .iload_n 1, 1, 0, 0, false, [], []),
  (1, .iconst 1, 1, 0, 0, false, [], [(1, 0)]),
  (2, .sipush 255, 3, 0, 0, false, [], [(255, 0)]),
  (5, .invokestatic 24, 3, 117, 3, true, [618, 78, 432, 431], []),
  (8, .ifCond .ne 6, 3, 14, 0, false, [], []),
  (11, .bipush (-101), 2, 0, 0, false, [], [((-101), 0)]),
  (13, .ireturn, 1, 0, 0, false, [], []),
  (14, .aload_n 0, 1, 0, 0, false, [], []),
  (15, .getfield 20, 3, 7, 1, false, [275], []),
  (18, .bipush 100, 2, 0, 0, false, [], [(100, 0)]),
  (20, .if_icmp .lt 6, 3, 26, 0, false, [], []),
  (23, .bipush (-103), 2, 0, 0, false, [], [((-103), 0)]),
  (25, .ireturn, 1, 0, 0, false, [], []),
  (26, .aload_n 0, 1, 0, 0, false, [], []),
  (27, .getfield 14, 3, 7, 0, false, [274], []),
  (30, .aload_n 0, 1, 0, 0, false, [], []),
  (31, .getfield 20, 3, 7, 1, false, [275], []),
  (34, .iload_n 1, 1, 0, 0, false, [], []),
  (35, .invokevirtual 28, 3, 3, 2, false, [619, 80, 469, 467, 468], []),
  (38, .aload_n 0, 1, 0, 0, false, [], []),
  (39, .dup, 1, 0, 0, false, [], []),
  (40, .getfield 20, 3, 7, 1, false, [275], []),
  (43, .iconst 1, 1, 0, 0, false, [], [(1, 0)]),
  (44, .iadd, 1, 0, 0, false, [], []),
  (45, .putfield 20, 3, 7, 1, false, [275], []),
  (48, .aload_n 0, 1, 0, 0, false, [], []),
  (49, .getfield 20, 3, 7, 1, false, [275], []),
  (52, .ireturn, 1, 0, 0, false, [], [])])
def mt_71 : XM := (⟨"PuppetTurns$Script", "at", "(I)I"⟩, prog_9_method_3_code, 2, (Option.some Jvm.ClassFile.FieldType.int), { frames := 1, cells := 0, slots := 0, locals := 21 }, 7, [
(0, .iload_n 1, 1, 0, 0, false, [], []),
  (1, .aload_n 0, 1, 0, 0, false, [], []),
  (2, .getfield 20, 3, 7, 1, false, [275], []),
  (5, .if_icmp .ge 14, 3, 19, 0, false, [], []),
  (8, .aload_n 0, 1, 0, 0, false, [], []),
  (9, .getfield 14, 3, 7, 0, false, [274], []),
  (12, .iload_n 1, 1, 0, 0, false, [], []),
  (13, .invokevirtual 31, 3, 1, 1, false, [640, 80, 493, 491, 492], []),
  (16, .goto 4, 3, 20, 0, false, [], []),
  (19, .iconst 0, 1, 0, 0, false, [], [(0, 0)]),
  (20, .ireturn, 1, 0, 0, false, [], [])])
def mt_72 : XM := (⟨"PuppetTurns$Sight", "<init>", "()V"⟩, prog_10_method_1_code, 1, (Option.none : Option Jvm.ClassFile.FieldType), { frames := 2, cells := 2, slots := 602, locals := 82 }, 8, [
(0, .aload_n 0, 1, 0, 0, false, [], []),
  (1, .invokespecial 3, 3, 1000, 0, false, [198, 100, 101], []),
  (4, .aload_n 0, 1, 0, 0, false, [], []),
  (5, .new 9, 3, 0, 0, false, [199, 109, 80], []),
  (8, .dup, 1, 0, 0, false, [], []),
  (9, .bipush 8, 2, 0, 0, false, [], [(8, 0)]),
  (11, .iconst 1, 1, 0, 0, false, [], [(1, 0)]),
  (12, .invokespecial 11, 3, 0, 2, false, [200, 80, 112, 111], []),
  (15, .putfield 14, 3, 8, 0, false, [201], []),
  (18, .aload_n 0, 1, 0, 0, false, [], []),
  (19, .iconst 0, 1, 0, 0, false, [], [(0, 0)]),
  (20, .putfield 20, 3, 8, 1, false, [203], []),
  (23, .return_, 1, 0, 0, false, [], [])])
def mt_73 : XM := (⟨"PuppetTurns$Sight", "look", "(LPuppetTurns$Scene;I)V"⟩, prog_10_method_2_code, 5, (Option.none : Option Jvm.ClassFile.FieldType), { frames := 3, cells := 0, slots := 0, locals := 66 }, 8, [
(0, .aload_n 0, 1, 0, 0, false, [], []),
  (1, .iconst 0, 1, 0, 0, false, [], [(0, 0)]),
  (2, .putfield 20, 3, 8, 1, false, [203], []),
  (5, .iconst 0, 1, 0, 0, false, [], [(0, 0)]),
  (6, .istore_n 3, 1, 0, 0, false, [], []),
  (7, .iload_n 3, 1, 0, 0, false, [], []),
  (8, .aload_n 1, 1, 0, 0, false, [], []),
  (9, .getfield 24, 3, 5, 3, true, [139], []),
  (12, .if_icmp .ge 63, 3, 75, 0, false, [], []),
  (15, .aload_n 0, 1, 0, 0, false, [], []),
  (16, .getfield 20, 3, 8, 1, false, [203], []),
  (19, .aload_n 1, 1, 0, 0, false, [], []),
  (20, .getfield 29, 3, 5, 5, true, [146], []),
  (23, .if_icmp .ge 52, 3, 75, 0, false, [], []),
  (26, .aload_n 1, 1, 0, 0, false, [], []),
  (27, .getfield 32, 3, 5, 2, true, [136], []),
  (30, .iload_n 3, 1, 0, 0, false, [], []),
  (31, .invokevirtual 35, 3, 1, 1, false, [750, 80, 493, 491, 492], []),
  (34, .istore 4, 2, 0, 0, false, [], []),
  (36, .aload_n 1, 1, 0, 0, false, [], []),
  (37, .iload 4, 2, 0, 0, false, [], []),
  (39, .iload_n 2, 1, 0, 0, false, [], []),
  (40, .invokevirtual 39, 3, 44, 2, false, [751, 79, 754, 752, 753], []),
  (43, .ifCond .eq 26, 3, 69, 0, false, [], []),
  (46, .aload_n 0, 1, 0, 0, false, [], []),
  (47, .getfield 14, 3, 8, 0, false, [201], []),
  (50, .aload_n 0, 1, 0, 0, false, [], []),
  (51, .getfield 20, 3, 8, 1, false, [203], []),
  (54, .iload 4, 2, 0, 0, false, [], []),
  (56, .invokevirtual 43, 3, 3, 2, false, [755, 80, 469, 467, 468], []),
  (59, .aload_n 0, 1, 0, 0, false, [], []),
  (60, .dup, 1, 0, 0, false, [], []),
  (61, .getfield 20, 3, 8, 1, false, [203], []),
  (64, .iconst 1, 1, 0, 0, false, [], [(1, 0)]),
  (65, .iadd, 1, 0, 0, false, [], []),
  (66, .putfield 20, 3, 8, 1, false, [203], []),
  (69, .iinc 3 1, 3, 0, 0, false, [], [(1, 0)]),
  (72, .goto (-65), 3, 7, 0, false, [], []),
  (75, .return_, 1, 0, 0, false, [], [])])
def mt_74 : XM := (⟨"PuppetTurns$Sight", "bitOf", "(I)J"⟩, prog_10_method_3_code, 1, (Option.some Jvm.ClassFile.FieldType.long), { frames := 0, cells := 0, slots := 0, locals := 0 }, 8, [
(0, .lconst 1, 1, 0, 0, false, [], []),
  (1, .bipush 63, 2, 0, 0, false, [], [(63, 0)]),
  (3, .iload_n 0, 1, 0, 0, false, [], []),
  (4, .isub, 1, 0, 0, false, [], []),
  (5, .lshl, 1, 0, 0, false, [], []),
  (6, .lreturn, 1, 0, 0, false, [], [])])
def mt_75 : XM := (⟨"PuppetTurns$Sight", "colorAt", "(LPuppetTurns$Scene;II)I"⟩, prog_10_method_4_code, 6, (Option.some Jvm.ClassFile.FieldType.int), { frames := 4, cells := 0, slots := 0, locals := 90 }, 8, [
(0, .aload_n 0, 1, 0, 0, false, [], []),
  (1, .aload_n 1, 1, 0, 0, false, [], []),
  (2, .iload_n 3, 1, 0, 0, false, [], []),
  (3, .invokevirtual 46, 3, 73, 2, false, [746, 83, 749, 747, 748], []),
  (6, .iconst 0, 1, 0, 0, false, [], [(0, 0)]),
  (7, .istore 4, 2, 0, 0, false, [], []),
  (9, .iload 4, 2, 0, 0, false, [], []),
  (11, .aload_n 0, 1, 0, 0, false, [], []),
  (12, .getfield 20, 3, 8, 1, false, [203], []),
  (15, .if_icmp .ge 48, 3, 63, 0, false, [], []),
  (18, .aload_n 0, 1, 0, 0, false, [], []),
  (19, .getfield 14, 3, 8, 0, false, [201], []),
  (22, .iload 4, 2, 0, 0, false, [], []),
  (24, .invokevirtual 35, 3, 1, 1, false, [750, 80, 493, 491, 492], []),
  (27, .istore 5, 2, 0, 0, false, [], []),
  (29, .aload_n 1, 1, 0, 0, false, [], []),
  (30, .iload 5, 2, 0, 0, false, [], []),
  (32, .iload_n 3, 1, 0, 0, false, [], []),
  (33, .invokevirtual 50, 3, 45, 2, false, [756, 79, 759, 757, 758], []),
  (36, .iload_n 2, 1, 0, 0, false, [], []),
  (37, .invokestatic 54, 3, 74, 1, false, [801, 83, 803, 802], []),
  (40, .land, 1, 0, 0, false, [], []),
  (41, .lconst 0, 1, 0, 0, false, [], []),
  (42, .lcmp, 1, 0, 0, false, [], []),
  (43, .ifCond .eq 14, 3, 57, 0, false, [], []),
  (46, .aload_n 1, 1, 0, 0, false, [], []),
  (47, .getfield 58, 3, 5, 1, true, [132], []),
  (50, .iload 5, 2, 0, 0, false, [], []),
  (52, .iconst 4, 1, 0, 0, false, [], [(4, 0)]),
  (53, .invokevirtual 61, 3, 2, 2, false, [804, 80, 436, 434, 435], []),
  (56, .ireturn, 1, 0, 0, false, [], []),
  (57, .iinc 4 1, 3, 0, 0, false, [], [(1, 0)]),
  (60, .goto (-51), 3, 9, 0, false, [], []),
  (63, .iconst 0, 1, 0, 0, false, [], [(0, 0)]),
  (64, .ireturn, 1, 0, 0, false, [], [])])
def mt_76 : XM := (⟨"PuppetTurns$Sight", "dotsOnLine", "(LPuppetTurns$Scene;I)I"⟩, prog_10_method_5_code, 6, (Option.some Jvm.ClassFile.FieldType.int), { frames := 4, cells := 0, slots := 0, locals := 90 }, 8, [
(0, .aload_n 0, 1, 0, 0, false, [], []),
  (1, .aload_n 1, 1, 0, 0, false, [], []),
  (2, .iload_n 2, 1, 0, 0, false, [], []),
  (3, .invokevirtual 46, 3, 73, 2, false, [746, 83, 749, 747, 748], []),
  (6, .lconst 0, 1, 0, 0, false, [], []),
  (7, .lstore_n 3, 1, 0, 0, false, [], []),
  (8, .iconst 0, 1, 0, 0, false, [], [(0, 0)]),
  (9, .istore 5, 2, 0, 0, false, [], []),
  (11, .iload 5, 2, 0, 0, false, [], []),
  (13, .aload_n 0, 1, 0, 0, false, [], []),
  (14, .getfield 20, 3, 8, 1, false, [203], []),
  (17, .if_icmp .ge 26, 3, 43, 0, false, [], []),
  (20, .lload_n 3, 1, 0, 0, false, [], []),
  (21, .aload_n 1, 1, 0, 0, false, [], []),
  (22, .aload_n 0, 1, 0, 0, false, [], []),
  (23, .getfield 14, 3, 8, 0, false, [201], []),
  (26, .iload 5, 2, 0, 0, false, [], []),
  (28, .invokevirtual 35, 3, 1, 1, false, [750, 80, 493, 491, 492], []),
  (31, .iload_n 2, 1, 0, 0, false, [], []),
  (32, .invokevirtual 50, 3, 45, 2, false, [756, 79, 759, 757, 758], []),
  (35, .lor, 1, 0, 0, false, [], []),
  (36, .lstore_n 3, 1, 0, 0, false, [], []),
  (37, .iinc 5 1, 3, 0, 0, false, [], [(1, 0)]),
  (40, .goto (-29), 3, 11, 0, false, [], []),
  (43, .lload_n 3, 1, 0, 0, false, [], []),
  (44, .invokestatic 64, 3, 202, 1, false, [766, 93, 768, 767], []),
  (47, .ireturn, 1, 0, 0, false, [], [])])
def mt_77 : XM := (⟨"PuppetTurns$Sight", "allDots", "(LPuppetTurns$Scene;)I"⟩, prog_10_method_6_code, 4, (Option.some Jvm.ClassFile.FieldType.int), { frames := 5, cells := 0, slots := 0, locals := 115 }, 8, [
(0, .iconst 0, 1, 0, 0, false, [], [(0, 0)]),
  (1, .istore_n 2, 1, 0, 0, false, [], []),
  (2, .iconst 0, 1, 0, 0, false, [], [(0, 0)]),
  (3, .istore_n 3, 1, 0, 0, false, [], []),
  (4, .iload_n 3, 1, 0, 0, false, [], []),
  (5, .bipush 48, 2, 0, 0, false, [], [(48, 0)]),
  (7, .if_icmp .ge 18, 3, 25, 0, false, [], []),
  (10, .iload_n 2, 1, 0, 0, false, [], []),
  (11, .aload_n 0, 1, 0, 0, false, [], []),
  (12, .aload_n 1, 1, 0, 0, false, [], []),
  (13, .iload_n 3, 1, 0, 0, false, [], []),
  (14, .invokevirtual 70, 3, 76, 2, false, [742, 83, 745, 743, 744], []),
  (17, .iadd, 1, 0, 0, false, [], []),
  (18, .istore_n 2, 1, 0, 0, false, [], []),
  (19, .iinc 3 1, 3, 0, 0, false, [], [(1, 0)]),
  (22, .goto (-18), 3, 4, 0, false, [], []),
  (25, .iload_n 2, 1, 0, 0, false, [], []),
  (26, .ireturn, 1, 0, 0, false, [], [])])
def mt_78 : XM := (⟨"PuppetTurns$Sight", "clashesOn", "(LPuppetTurns$Scene;II)J"⟩, prog_10_method_7_code, 10, (Option.some Jvm.ClassFile.FieldType.long), { frames := 4, cells := 0, slots := 0, locals := 90 }, 8, [
(0, .aload_n 0, 1, 0, 0, false, [], []),
  (1, .aload_n 1, 1, 0, 0, false, [], []),
  (2, .iload_n 3, 1, 0, 0, false, [], []),
  (3, .invokevirtual 46, 3, 73, 2, false, [746, 83, 749, 747, 748], []),
  (6, .lconst 0, 1, 0, 0, false, [], []),
  (7, .lstore 4, 2, 0, 0, false, [], []),
  (9, .lconst 0, 1, 0, 0, false, [], []),
  (10, .lstore 6, 2, 0, 0, false, [], []),
  (12, .iconst 0, 1, 0, 0, false, [], [(0, 0)]),
  (13, .istore 8, 2, 0, 0, false, [], []),
  (15, .iload 8, 2, 0, 0, false, [], []),
  (17, .aload_n 0, 1, 0, 0, false, [], []),
  (18, .getfield 20, 3, 8, 1, false, [203], []),
  (21, .if_icmp .ge 50, 3, 71, 0, false, [], []),
  (24, .aload_n 0, 1, 0, 0, false, [], []),
  (25, .getfield 14, 3, 8, 0, false, [201], []),
  (28, .iload 8, 2, 0, 0, false, [], []),
  (30, .invokevirtual 35, 3, 1, 1, false, [750, 80, 493, 491, 492], []),
  (33, .istore 9, 2, 0, 0, false, [], []),
  (35, .iload 9, 2, 0, 0, false, [], []),
  (37, .iload_n 2, 1, 0, 0, false, [], []),
  (38, .if_icmp .ne 15, 3, 53, 0, false, [], []),
  (41, .aload_n 1, 1, 0, 0, false, [], []),
  (42, .iload 9, 2, 0, 0, false, [], []),
  (44, .iload_n 3, 1, 0, 0, false, [], []),
  (45, .invokevirtual 50, 3, 45, 2, false, [756, 79, 759, 757, 758], []),
  (48, .lstore 4, 2, 0, 0, false, [], []),
  (50, .goto 15, 3, 65, 0, false, [], []),
  (53, .lload 6, 2, 0, 0, false, [], []),
  (55, .aload_n 1, 1, 0, 0, false, [], []),
  (56, .iload 9, 2, 0, 0, false, [], []),
  (58, .iload_n 3, 1, 0, 0, false, [], []),
  (59, .invokevirtual 50, 3, 45, 2, false, [756, 79, 759, 757, 758], []),
  (62, .lor, 1, 0, 0, false, [], []),
  (63, .lstore 6, 2, 0, 0, false, [], []),
  (65, .iinc 8 1, 3, 0, 0, false, [], [(1, 0)]),
  (68, .goto (-53), 3, 15, 0, false, [], []),
  (71, .lload 4, 2, 0, 0, false, [], []),
  (73, .lload 6, 2, 0, 0, false, [], []),
  (75, .land, 1, 0, 0, false, [], []),
  (76, .lreturn, 1, 0, 0, false, [], [])])
def mt_79 : XM := (⟨"PuppetTurns$Sight", "allClashes", "(LPuppetTurns$Scene;)I"⟩, prog_10_method_8_code, 5, (Option.some Jvm.ClassFile.FieldType.int), { frames := 5, cells := 0, slots := 0, locals := 119 }, 8, [
(0, .aload_n 1, 1, 0, 0, false, [], []),
  (1, .invokevirtual 74, 3, 40, 0, false, [813, 79, 775, 773, 774], []),
  (4, .istore_n 2, 1, 0, 0, false, [], []),
  (5, .iconst 0, 1, 0, 0, false, [], [(0, 0)]),
  (6, .istore_n 3, 1, 0, 0, false, [], []),
  (7, .iconst 0, 1, 0, 0, false, [], [(0, 0)]),
  (8, .istore 4, 2, 0, 0, false, [], []),
  (10, .iload 4, 2, 0, 0, false, [], []),
  (12, .bipush 48, 2, 0, 0, false, [], [(48, 0)]),
  (14, .if_icmp .ge 23, 3, 37, 0, false, [], []),
  (17, .iload_n 3, 1, 0, 0, false, [], []),
  (18, .aload_n 0, 1, 0, 0, false, [], []),
  (19, .aload_n 1, 1, 0, 0, false, [], []),
  (20, .iload_n 2, 1, 0, 0, false, [], []),
  (21, .iload 4, 2, 0, 0, false, [], []),
  (23, .invokevirtual 78, 3, 78, 3, false, [814, 83, 817, 816, 21], []),
  (26, .invokestatic 64, 3, 202, 1, false, [766, 93, 768, 767], []),
  (29, .iadd, 1, 0, 0, false, [], []),
  (30, .istore_n 3, 1, 0, 0, false, [], []),
  (31, .iinc 4 1, 3, 0, 0, false, [], [(1, 0)]),
  (34, .goto (-24), 3, 10, 0, false, [], []),
  (37, .iload_n 3, 1, 0, 0, false, [], []),
  (38, .ireturn, 1, 0, 0, false, [], [])])
def mt_80 : XM := (⟨"PuppetTurns$Sight", "firstClash", "(LPuppetTurns$Scene;I)I"⟩, prog_10_method_9_code, 8, (Option.some Jvm.ClassFile.FieldType.int), { frames := 5, cells := 0, slots := 0, locals := 119 }, 8, [
(0, .aload_n 1, 1, 0, 0, false, [], []),
  (1, .invokevirtual 74, 3, 40, 0, false, [813, 79, 775, 773, 774], []),
  (4, .istore_n 3, 1, 0, 0, false, [], []),
  (5, .iconst 0, 1, 0, 0, false, [], [(0, 0)]),
  (6, .istore 4, 2, 0, 0, false, [], []),
  (8, .iload 4, 2, 0, 0, false, [], []),
  (10, .bipush 48, 2, 0, 0, false, [], [(48, 0)]),
  (12, .if_icmp .ge 64, 3, 76, 0, false, [], []),
  (15, .aload_n 0, 1, 0, 0, false, [], []),
  (16, .aload_n 1, 1, 0, 0, false, [], []),
  (17, .iload_n 3, 1, 0, 0, false, [], []),
  (18, .iload 4, 2, 0, 0, false, [], []),
  (20, .invokevirtual 78, 3, 78, 3, false, [814, 83, 817, 816, 21], []),
  (23, .lstore 5, 2, 0, 0, false, [], []),
  (25, .lload 5, 2, 0, 0, false, [], []),
  (27, .lconst 0, 1, 0, 0, false, [], []),
  (28, .lcmp, 1, 0, 0, false, [], []),
  (29, .ifCond .eq 41, 3, 70, 0, false, [], []),
  (32, .lload 5, 2, 0, 0, false, [], []),
  (34, .invokestatic 82, 3, 81, 1, false, [822, 83, 824, 823], []),
  (37, .istore 7, 2, 0, 0, false, [], []),
  (39, .iload_n 2, 1, 0, 0, false, [], []),
  (40, .iconst 1, 1, 0, 0, false, [], [(1, 0)]),
  (41, .if_icmp .ne 8, 3, 49, 0, false, [], []),
  (44, .iload 7, 2, 0, 0, false, [], []),
  (46, .goto 23, 3, 69, 0, false, [], []),
  (49, .iload_n 2, 1, 0, 0, false, [], []),
  (50, .iconst 2, 1, 0, 0, false, [], [(2, 0)]),
  (51, .if_icmp .ne 8, 3, 59, 0, false, [], []),
  (54, .iload 4, 2, 0, 0, false, [], []),
  (56, .goto 13, 3, 69, 0, false, [], []),
  (59, .aload_n 0, 1, 0, 0, false, [], []),
  (60, .aload_n 1, 1, 0, 0, false, [], []),
  (61, .iload_n 3, 1, 0, 0, false, [], []),
  (62, .iload 7, 2, 0, 0, false, [], []),
  (64, .iload 4, 2, 0, 0, false, [], []),
  (66, .invokevirtual 85, 3, 82, 4, false, [825, 83, 828, 827, 22], []),
  (69, .ireturn, 1, 0, 0, false, [], []),
  (70, .iinc 4 1, 3, 0, 0, false, [], [(1, 0)]),
  (73, .goto (-65), 3, 8, 0, false, [], []),
  (76, .bipush (-109), 2, 0, 0, false, [], [((-109), 0)]),
  (78, .ireturn, 1, 0, 0, false, [], [])])
def mt_81 : XM := (⟨"PuppetTurns$Sight", "firstColumn", "(J)I"⟩, prog_10_method_10_code, 3, (Option.some Jvm.ClassFile.FieldType.int), { frames := 1, cells := 0, slots := 0, locals := 20 }, 8, [
(0, .iconst 0, 1, 0, 0, false, [], [(0, 0)]),
  (1, .istore_n 2, 1, 0, 0, false, [], []),
  (2, .iload_n 2, 1, 0, 0, false, [], []),
  (3, .bipush 63, 2, 0, 0, false, [], [(63, 0)]),
  (5, .if_icmp .ge 20, 3, 25, 0, false, [], []),
  (8, .lload_n 0, 1, 0, 0, false, [], []),
  (9, .iload_n 2, 1, 0, 0, false, [], []),
  (10, .invokestatic 54, 3, 74, 1, false, [801, 83, 803, 802], []),
  (13, .land, 1, 0, 0, false, [], []),
  (14, .lconst 0, 1, 0, 0, false, [], []),
  (15, .lcmp, 1, 0, 0, false, [], []),
  (16, .ifCond .ne 9, 3, 25, 0, false, [], []),
  (19, .iinc 2 1, 3, 0, 0, false, [], [(1, 0)]),
  (22, .goto (-20), 3, 2, 0, false, [], []),
  (25, .iload_n 2, 1, 0, 0, false, [], []),
  (26, .ireturn, 1, 0, 0, false, [], [])])
def mt_82 : XM := (⟨"PuppetTurns$Sight", "firstOther", "(LPuppetTurns$Scene;III)I"⟩, prog_10_method_11_code, 7, (Option.some Jvm.ClassFile.FieldType.int), { frames := 2, cells := 0, slots := 0, locals := 50 }, 8, [
(0, .iconst 0, 1, 0, 0, false, [], [(0, 0)]),
  (1, .istore 5, 2, 0, 0, false, [], []),
  (3, .iload 5, 2, 0, 0, false, [], []),
  (5, .aload_n 0, 1, 0, 0, false, [], []),
  (6, .getfield 20, 3, 8, 1, false, [203], []),
  (9, .if_icmp .ge 47, 3, 56, 0, false, [], []),
  (12, .aload_n 0, 1, 0, 0, false, [], []),
  (13, .getfield 14, 3, 8, 0, false, [201], []),
  (16, .iload 5, 2, 0, 0, false, [], []),
  (18, .invokevirtual 35, 3, 1, 1, false, [750, 80, 493, 491, 492], []),
  (21, .istore 6, 2, 0, 0, false, [], []),
  (23, .iload 6, 2, 0, 0, false, [], []),
  (25, .iload_n 2, 1, 0, 0, false, [], []),
  (26, .if_icmp .eq 24, 3, 50, 0, false, [], []),
  (29, .aload_n 1, 1, 0, 0, false, [], []),
  (30, .iload 6, 2, 0, 0, false, [], []),
  (32, .iload 4, 2, 0, 0, false, [], []),
  (34, .invokevirtual 50, 3, 45, 2, false, [756, 79, 759, 757, 758], []),
  (37, .iload_n 3, 1, 0, 0, false, [], []),
  (38, .invokestatic 54, 3, 74, 1, false, [801, 83, 803, 802], []),
  (41, .land, 1, 0, 0, false, [], []),
  (42, .lconst 0, 1, 0, 0, false, [], []),
  (43, .lcmp, 1, 0, 0, false, [], []),
  (44, .ifCond .eq 6, 3, 50, 0, false, [], []),
  (47, .iload 6, 2, 0, 0, false, [], []),
  (49, .ireturn, 1, 0, 0, false, [], []),
  (50, .iinc 5 1, 3, 0, 0, false, [], [(1, 0)]),
  (53, .goto (-50), 3, 3, 0, false, [], []),
  (56, .bipush (-109), 2, 0, 0, false, [], [((-109), 0)]),
  (58, .ireturn, 1, 0, 0, false, [], [])])
def mt_83 : XM := (⟨"PuppetTurns$Steps", "<init>", "()V"⟩, prog_11_method_1_code, 1, (Option.none : Option Jvm.ClassFile.FieldType), { frames := 2, cells := 2, slots := 602, locals := 82 }, 9, [
(0, .aload_n 0, 1, 0, 0, false, [], []),
  (1, .invokespecial 3, 3, 1000, 0, false, [288, 100, 101], []),
  (4, .aload_n 0, 1, 0, 0, false, [], []),
  (5, .new 9, 3, 0, 0, false, [289, 109, 80], []),
  (8, .dup, 1, 0, 0, false, [], []),
  (9, .bipush 100, 2, 0, 0, false, [], [(100, 0)]),
  (11, .bipush 6, 2, 0, 0, false, [], [(6, 0)]),
  (13, .invokespecial 11, 3, 0, 2, false, [290, 80, 112, 111], []),
  (16, .putfield 14, 3, 9, 0, false, [291], []),
  (19, .aload_n 0, 1, 0, 0, false, [], []),
  (20, .iconst 0, 1, 0, 0, false, [], [(0, 0)]),
  (21, .putfield 20, 3, 9, 1, false, [295], []),
  (24, .return_, 1, 0, 0, false, [], [])])
def mt_84 : XM := (⟨"PuppetTurns$Steps", "add", "(III)I"⟩, prog_11_method_2_code, 5, (Option.some Jvm.ClassFile.FieldType.int), { frames := 1, cells := 0, slots := 0, locals := 24 }, 9, [
(0, .aload_n 0, 1, 0, 0, false, [], []),
  (1, .getfield 20, 3, 9, 1, false, [295], []),
  (4, .istore 4, 2, 0, 0, false, [], []),
  (6, .aload_n 0, 1, 0, 0, false, [], []),
  (7, .dup, 1, 0, 0, false, [], []),
  (8, .getfield 20, 3, 9, 1, false, [295], []),
  (11, .iconst 1, 1, 0, 0, false, [], [(1, 0)]),
  (12, .iadd, 1, 0, 0, false, [], []),
  (13, .putfield 20, 3, 9, 1, false, [295], []),
  (16, .aload_n 0, 1, 0, 0, false, [], []),
  (17, .getfield 14, 3, 9, 0, false, [291], []),
  (20, .iload 4, 2, 0, 0, false, [], []),
  (22, .iconst 0, 1, 0, 0, false, [], [(0, 0)]),
  (23, .iload_n 1, 1, 0, 0, false, [], []),
  (24, .invokevirtual 24, 3, 4, 3, false, [665, 80, 440, 438, 439], []),
  (27, .aload_n 0, 1, 0, 0, false, [], []),
  (28, .getfield 14, 3, 9, 0, false, [291], []),
  (31, .iload 4, 2, 0, 0, false, [], []),
  (33, .iconst 1, 1, 0, 0, false, [], [(1, 0)]),
  (34, .iload_n 2, 1, 0, 0, false, [], []),
  (35, .invokevirtual 24, 3, 4, 3, false, [665, 80, 440, 438, 439], []),
  (38, .aload_n 0, 1, 0, 0, false, [], []),
  (39, .getfield 14, 3, 9, 0, false, [291], []),
  (42, .iload 4, 2, 0, 0, false, [], []),
  (44, .iconst 2, 1, 0, 0, false, [], [(2, 0)]),
  (45, .iload_n 3, 1, 0, 0, false, [], []),
  (46, .invokevirtual 24, 3, 4, 3, false, [665, 80, 440, 438, 439], []),
  (49, .iload 4, 2, 0, 0, false, [], []),
  (51, .ireturn, 1, 0, 0, false, [], [])])
def mt_85 : XM := (⟨"PuppetTurns$Survey", "<init>", "()V"⟩, prog_12_method_1_code, 1, (Option.none : Option Jvm.ClassFile.FieldType), { frames := 2, cells := 4, slots := 1204, locals := 82 }, 10, [
(0, .aload_n 0, 1, 0, 0, false, [], []),
  (1, .invokespecial 3, 3, 1000, 0, false, [181, 100, 101], []),
  (4, .aload_n 0, 1, 0, 0, false, [], []),
  (5, .new 9, 3, 0, 0, false, [182, 109, 80], []),
  (8, .dup, 1, 0, 0, false, [], []),
  (9, .bipush 48, 2, 0, 0, false, [], [(48, 0)]),
  (11, .iconst 1, 1, 0, 0, false, [], [(1, 0)]),
  (12, .invokespecial 11, 3, 0, 2, false, [183, 80, 112, 111], []),
  (15, .putfield 14, 3, 10, 0, false, [184], []),
  (18, .aload_n 0, 1, 0, 0, false, [], []),
  (19, .new 9, 3, 0, 0, false, [182, 109, 80], []),
  (22, .dup, 1, 0, 0, false, [], []),
  (23, .bipush 20, 2, 0, 0, false, [], [(20, 0)]),
  (25, .iconst 1, 1, 0, 0, false, [], [(1, 0)]),
  (26, .invokespecial 11, 3, 0, 2, false, [183, 80, 112, 111], []),
  (29, .putfield 20, 3, 10, 1, false, [186], []),
  (32, .return_, 1, 0, 0, false, [], [])])
def mt_86 : XM := (⟨"PuppetTurns$Survey", "look", "(LPuppetTurns$Scene;)V"⟩, prog_12_method_2_code, 6, (Option.none : Option Jvm.ClassFile.FieldType), { frames := 2, cells := 0, slots := 0, locals := 44 }, 10, [
(0, .aload_n 0, 1, 0, 0, false, [], []),
  (1, .getfield 14, 3, 10, 0, false, [184], []),
  (4, .iconst 0, 1, 0, 0, false, [], [(0, 0)]),
  (5, .invokevirtual 23, 3, 6, 1, false, [573, 80, 128, 126, 127], []),
  (8, .aload_n 0, 1, 0, 0, false, [], []),
  (9, .getfield 20, 3, 10, 1, false, [186], []),
  (12, .iconst 0, 1, 0, 0, false, [], [(0, 0)]),
  (13, .invokevirtual 23, 3, 6, 1, false, [573, 80, 128, 126, 127], []),
  (16, .iconst 0, 1, 0, 0, false, [], [(0, 0)]),
  (17, .istore_n 2, 1, 0, 0, false, [], []),
  (18, .iload_n 2, 1, 0, 0, false, [], []),
  (19, .aload_n 1, 1, 0, 0, false, [], []),
  (20, .getfield 27, 3, 5, 3, true, [140], []),
  (23, .if_icmp .ge 80, 3, 103, 0, false, [], []),
  (26, .aload_n 1, 1, 0, 0, false, [], []),
  (27, .getfield 33, 3, 5, 2, true, [135], []),
  (30, .iload_n 2, 1, 0, 0, false, [], []),
  (31, .invokevirtual 36, 3, 1, 1, false, [574, 80, 493, 491, 492], []),
  (34, .istore_n 3, 1, 0, 0, false, [], []),
  (35, .aload_n 1, 1, 0, 0, false, [], []),
  (36, .iload_n 3, 1, 0, 0, false, [], []),
  (37, .invokevirtual 40, 3, 42, 1, false, [575, 79, 517, 515, 516], []),
  (40, .istore 4, 2, 0, 0, false, [], []),
  (42, .aload_n 1, 1, 0, 0, false, [], []),
  (43, .iload_n 3, 1, 0, 0, false, [], []),
  (44, .invokevirtual 43, 3, 41, 1, false, [576, 79, 522, 520, 521], []),
  (47, .istore 5, 2, 0, 0, false, [], []),
  (49, .iload 5, 2, 0, 0, false, [], []),
  (51, .iload 4, 2, 0, 0, false, [], []),
  (53, .if_icmp .gt 44, 3, 97, 0, false, [], []),
  (56, .aload_n 0, 1, 0, 0, false, [], []),
  (57, .getfield 14, 3, 10, 0, false, [184], []),
  (60, .iload 5, 2, 0, 0, false, [], []),
  (62, .invokevirtual 36, 3, 1, 1, false, [574, 80, 493, 491, 492], []),
  (65, .aload_n 1, 1, 0, 0, false, [], []),
  (66, .getfield 46, 3, 5, 5, true, [147], []),
  (69, .if_icmp .lt 12, 3, 81, 0, false, [], []),
  (72, .aload_n 0, 1, 0, 0, false, [], []),
  (73, .getfield 20, 3, 10, 1, false, [186], []),
  (76, .iload_n 3, 1, 0, 0, false, [], []),
  (77, .iconst 1, 1, 0, 0, false, [], [(1, 0)]),
  (78, .invokevirtual 49, 3, 5, 2, false, [577, 80, 580, 578, 579], []),
  (81, .aload_n 0, 1, 0, 0, false, [], []),
  (82, .getfield 14, 3, 10, 0, false, [184], []),
  (85, .iload 5, 2, 0, 0, false, [], []),
  (87, .iconst 1, 1, 0, 0, false, [], [(1, 0)]),
  (88, .invokevirtual 49, 3, 5, 2, false, [577, 80, 580, 578, 579], []),
  (91, .iinc 5 1, 3, 0, 0, false, [], [(1, 0)]),
  (94, .goto (-45), 3, 49, 0, false, [], []),
  (97, .iinc 2 1, 3, 0, 0, false, [], [(1, 0)]),
  (100, .goto (-82), 3, 18, 0, false, [], []),
  (103, .return_, 1, 0, 0, false, [], [])])
def mt_87 : XM := (⟨"PuppetTurns$Survey", "isHidden", "(I)Z"⟩, prog_12_method_3_code, 2, (Option.some Jvm.ClassFile.FieldType.boolean), { frames := 1, cells := 0, slots := 0, locals := 21 }, 10, [
(0, .aload_n 0, 1, 0, 0, false, [], []),
  (1, .getfield 20, 3, 10, 1, false, [186], []),
  (4, .iload_n 1, 1, 0, 0, false, [], []),
  (5, .invokevirtual 36, 3, 1, 1, false, [574, 80, 493, 491, 492], []),
  (8, .ifCond .le 7, 3, 15, 0, false, [], []),
  (11, .iconst 1, 1, 0, 0, false, [], [(1, 0)]),
  (12, .goto 4, 3, 16, 0, false, [], []),
  (15, .iconst 0, 1, 0, 0, false, [], [(0, 0)]),
  (16, .ireturn, 1, 0, 0, false, [], [])])
def mt_88 : XM := (⟨"PuppetTurns$Survey", "hiddenPuppets", "()I"⟩, prog_12_method_4_code, 3, (Option.some Jvm.ClassFile.FieldType.int), { frames := 2, cells := 0, slots := 0, locals := 42 }, 10, [
(0, .iconst 0, 1, 0, 0, false, [], [(0, 0)]),
  (1, .istore_n 1, 1, 0, 0, false, [], []),
  (2, .iconst 0, 1, 0, 0, false, [], [(0, 0)]),
  (3, .istore_n 2, 1, 0, 0, false, [], []),
  (4, .iload_n 2, 1, 0, 0, false, [], []),
  (5, .bipush 20, 2, 0, 0, false, [], [(20, 0)]),
  (7, .if_icmp .ge 20, 3, 27, 0, false, [], []),
  (10, .aload_n 0, 1, 0, 0, false, [], []),
  (11, .iload_n 2, 1, 0, 0, false, [], []),
  (12, .invokevirtual 52, 3, 87, 1, false, [601, 82, 588, 586, 587], []),
  (15, .ifCond .eq 6, 3, 21, 0, false, [], []),
  (18, .iinc 1 1, 3, 0, 0, false, [], [(1, 0)]),
  (21, .iinc 2 1, 3, 0, 0, false, [], [(1, 0)]),
  (24, .goto (-20), 3, 4, 0, false, [], []),
  (27, .iload_n 1, 1, 0, 0, false, [], []),
  (28, .ireturn, 1, 0, 0, false, [], [])])
def mt_89 : XM := (⟨"PuppetTurns$Survey", "hiddenBits", "()I"⟩, prog_12_method_5_code, 3, (Option.some Jvm.ClassFile.FieldType.int), { frames := 2, cells := 0, slots := 0, locals := 42 }, 10, [
(0, .iconst 0, 1, 0, 0, false, [], [(0, 0)]),
  (1, .istore_n 1, 1, 0, 0, false, [], []),
  (2, .iconst 0, 1, 0, 0, false, [], [(0, 0)]),
  (3, .istore_n 2, 1, 0, 0, false, [], []),
  (4, .iload_n 2, 1, 0, 0, false, [], []),
  (5, .bipush 20, 2, 0, 0, false, [], [(20, 0)]),
  (7, .if_icmp .ge 23, 3, 30, 0, false, [], []),
  (10, .aload_n 0, 1, 0, 0, false, [], []),
  (11, .iload_n 2, 1, 0, 0, false, [], []),
  (12, .invokevirtual 52, 3, 87, 1, false, [601, 82, 588, 586, 587], []),
  (15, .ifCond .eq 9, 3, 24, 0, false, [], []),
  (18, .iload_n 1, 1, 0, 0, false, [], []),
  (19, .iconst 1, 1, 0, 0, false, [], [(1, 0)]),
  (20, .iload_n 2, 1, 0, 0, false, [], []),
  (21, .ishl, 1, 0, 0, false, [], []),
  (22, .ior, 1, 0, 0, false, [], []),
  (23, .istore_n 1, 1, 0, 0, false, [], []),
  (24, .iinc 2 1, 3, 0, 0, false, [], [(1, 0)]),
  (27, .goto (-23), 3, 4, 0, false, [], []),
  (30, .iload_n 1, 1, 0, 0, false, [], []),
  (31, .ireturn, 1, 0, 0, false, [], [])])
def mt_90 : XM := (⟨"PuppetTurns$Survey", "lineWithMostHidden", "(I)I"⟩, prog_12_method_6_code, 5, (Option.some Jvm.ClassFile.FieldType.int), { frames := 1, cells := 0, slots := 0, locals := 21 }, 10, [
(0, .iload_n 1, 1, 0, 0, false, [], []),
  (1, .istore_n 2, 1, 0, 0, false, [], []),
  (2, .bipush (-109), 2, 0, 0, false, [], [((-109), 0)]),
  (4, .istore_n 3, 1, 0, 0, false, [], []),
  (5, .iconst 0, 1, 0, 0, false, [], [(0, 0)]),
  (6, .istore 4, 2, 0, 0, false, [], []),
  (8, .iload 4, 2, 0, 0, false, [], []),
  (10, .bipush 48, 2, 0, 0, false, [], [(48, 0)]),
  (12, .if_icmp .ge 35, 3, 47, 0, false, [], []),
  (15, .aload_n 0, 1, 0, 0, false, [], []),
  (16, .getfield 14, 3, 10, 0, false, [184], []),
  (19, .iload 4, 2, 0, 0, false, [], []),
  (21, .invokevirtual 36, 3, 1, 1, false, [574, 80, 493, 491, 492], []),
  (24, .iload_n 2, 1, 0, 0, false, [], []),
  (25, .if_icmp .le 16, 3, 41, 0, false, [], []),
  (28, .aload_n 0, 1, 0, 0, false, [], []),
  (29, .getfield 14, 3, 10, 0, false, [184], []),
  (32, .iload 4, 2, 0, 0, false, [], []),
  (34, .invokevirtual 36, 3, 1, 1, false, [574, 80, 493, 491, 492], []),
  (37, .istore_n 2, 1, 0, 0, false, [], []),
  (38, .iload 4, 2, 0, 0, false, [], []),
  (40, .istore_n 3, 1, 0, 0, false, [], []),
  (41, .iinc 4 1, 3, 0, 0, false, [], [(1, 0)]),
  (44, .goto (-36), 3, 8, 0, false, [], []),
  (47, .iload_n 3, 1, 0, 0, false, [], []),
  (48, .ireturn, 1, 0, 0, false, [], [])])
def mt_91 : XM := (⟨"PuppetTurns", "<init>", "()V"⟩, prog_1_method_1_code, 1, (Option.none : Option Jvm.ClassFile.FieldType), { frames := 4, cells := 89, slots := 21182, locals := 123 }, 11, [
(0, .aload_n 0, 1, 0, 0, false, [], []),
  (1, .invokespecial 1, 3, 1000, 0, false, [99, 100, 101], []),
  (4, .aload_n 0, 1, 0, 0, false, [], []),
  (5, .new 7, 3, 5, 0, false, [102, 103, 79], []),
  (8, .dup, 1, 0, 0, false, [], []),
  (9, .invokespecial 9, 3, 36, 0, false, [104, 79, 106, 105], []),
  (12, .putfield 10, 3, 11, 0, false, [380], []),
  (15, .aload_n 0, 1, 0, 0, false, [], []),
  (16, .new 7, 3, 5, 0, false, [102, 103, 79], []),
  (19, .dup, 1, 0, 0, false, [], []),
  (20, .invokespecial 9, 3, 36, 0, false, [104, 79, 106, 105], []),
  (23, .putfield 16, 3, 11, 1, false, [381], []),
  (26, .aload_n 0, 1, 0, 0, false, [], []),
  (27, .new 19, 3, 10, 0, false, [176, 177, 82], []),
  (30, .dup, 1, 0, 0, false, [], []),
  (31, .invokespecial 21, 3, 85, 0, true, [178, 82, 180, 179], []),
  (34, .putfield 22, 3, 11, 2, false, [382], []),
  (37, .aload_n 0, 1, 0, 0, false, [], []),
  (38, .new 26, 3, 8, 0, false, [193, 194, 83], []),
  (41, .dup, 1, 0, 0, false, [], []),
  (42, .invokespecial 28, 3, 72, 0, true, [195, 83, 197, 196], []),
  (45, .putfield 29, 3, 11, 3, false, [383], []),
  (48, .aload_n 0, 1, 0, 0, false, [], []),
  (49, .new 33, 3, 2, 0, false, [210, 211, 84], []),
  (52, .dup, 1, 0, 0, false, [], []),
  (53, .invokespecial 35, 3, 11, 0, true, [212, 84, 214, 213], []),
  (56, .putfield 36, 3, 11, 4, false, [384], []),
  (59, .aload_n 0, 1, 0, 0, false, [], []),
  (60, .new 40, 3, 3, 0, false, [240, 241, 85], []),
  (63, .dup, 1, 0, 0, false, [], []),
  (64, .invokespecial 42, 3, 20, 0, false, [242, 85, 244, 243], []),
  (67, .putfield 43, 3, 11, 5, false, [385], []),
  (70, .aload_n 0, 1, 0, 0, false, [], []),
  (71, .new 47, 3, 4, 0, false, [260, 261, 86], []),
  (74, .dup, 1, 0, 0, false, [], []),
  (75, .invokespecial 49, 3, 24, 0, true, [262, 86, 264, 263], []),
  (78, .putfield 50, 3, 11, 6, false, [386], []),
  (81, .aload_n 0, 1, 0, 0, false, [], []),
  (82, .new 54, 3, 6, 0, false, [328, 329, 89], []),
  (85, .dup, 1, 0, 0, false, [], []),
  (86, .invokespecial 56, 3, 64, 0, true, [330, 89, 332, 331], []),
  (89, .putfield 57, 3, 11, 7, false, [387], []),
  (92, .aload_n 0, 1, 0, 0, false, [], []),
  (93, .new 61, 3, 1, 0, false, [355, 356, 90], []),
  (96, .dup, 1, 0, 0, false, [], []),
  (97, .invokespecial 63, 3, 8, 0, true, [357, 90, 359, 358], []),
  (100, .putfield 64, 3, 11, 8, false, [388], []),
  (103, .return_, 1, 0, 0, false, [], [])])
def mt_92 : XM := (⟨"PuppetTurns", "setRow", "(III)I"⟩, prog_1_method_2_code, 4, (Option.some Jvm.ClassFile.FieldType.int), { frames := 5, cells := 0, slots := 0, locals := 145 }, 11, [
(0, .aload_n 0, 1, 0, 0, false, [], []),
  (1, .getfield 16, 3, 11, 1, false, [381], []),
  (4, .aload_n 0, 1, 0, 0, false, [], []),
  (5, .getfield 10, 3, 11, 0, false, [380], []),
  (8, .invokevirtual 68, 3, 37, 1, false, [412, 79, 415, 413, 414], []),
  (11, .aload_n 0, 1, 0, 0, false, [], []),
  (12, .aload_n 0, 1, 0, 0, false, [], []),
  (13, .getfield 10, 3, 11, 0, false, [380], []),
  (16, .iload_n 1, 1, 0, 0, false, [], []),
  (17, .iload_n 2, 1, 0, 0, false, [], []),
  (18, .iload_n 3, 1, 0, 0, false, [], []),
  (19, .invokevirtual 72, 3, 48, 3, false, [426, 79, 429, 427, 428], []),
  (22, .invokevirtual 76, 3, 118, 1, false, [441, 78, 444, 443, 0], []),
  (25, .ireturn, 1, 0, 0, false, [], [])])
def mt_93 : XM := (⟨"PuppetTurns", "come", "(IIIII)I"⟩, prog_1_method_3_code, 6, (Option.some Jvm.ClassFile.FieldType.int), { frames := 5, cells := 0, slots := 0, locals := 145 }, 11, [
(0, .aload_n 0, 1, 0, 0, false, [], []),
  (1, .getfield 16, 3, 11, 1, false, [381], []),
  (4, .aload_n 0, 1, 0, 0, false, [], []),
  (5, .getfield 10, 3, 11, 0, false, [380], []),
  (8, .invokevirtual 68, 3, 37, 1, false, [412, 79, 415, 413, 414], []),
  (11, .aload_n 0, 1, 0, 0, false, [], []),
  (12, .aload_n 0, 1, 0, 0, false, [], []),
  (13, .getfield 10, 3, 11, 0, false, [380], []),
  (16, .iload_n 1, 1, 0, 0, false, [], []),
  (17, .iload_n 2, 1, 0, 0, false, [], []),
  (18, .iload_n 3, 1, 0, 0, false, [], []),
  (19, .iload 4, 2, 0, 0, false, [], []),
  (21, .iload 5, 2, 0, 0, false, [], []),
  (23, .invokevirtual 80, 3, 50, 5, false, [459, 79, 462, 460, 461], []),
  (26, .invokevirtual 76, 3, 118, 1, false, [441, 78, 444, 443, 0], []),
  (29, .ireturn, 1, 0, 0, false, [], [])])
def mt_94 : XM := (⟨"PuppetTurns", "leave", "(I)I"⟩, prog_1_method_4_code, 2, (Option.some Jvm.ClassFile.FieldType.int), { frames := 5, cells := 0, slots := 0, locals := 145 }, 11, [
(0, .aload_n 0, 1, 0, 0, false, [], []),
  (1, .getfield 16, 3, 11, 1, false, [381], []),
  (4, .aload_n 0, 1, 0, 0, false, [], []),
  (5, .getfield 10, 3, 11, 0, false, [380], []),
  (8, .invokevirtual 68, 3, 37, 1, false, [412, 79, 415, 413, 414], []),
  (11, .aload_n 0, 1, 0, 0, false, [], []),
  (12, .aload_n 0, 1, 0, 0, false, [], []),
  (13, .getfield 10, 3, 11, 0, false, [380], []),
  (16, .iload_n 1, 1, 0, 0, false, [], []),
  (17, .invokevirtual 84, 3, 51, 1, false, [474, 79, 477, 475, 476], []),
  (20, .invokevirtual 76, 3, 118, 1, false, [441, 78, 444, 443, 0], []),
  (23, .ireturn, 1, 0, 0, false, [], [])])
def mt_95 : XM := (⟨"PuppetTurns", "move", "(III)I"⟩, prog_1_method_5_code, 4, (Option.some Jvm.ClassFile.FieldType.int), { frames := 5, cells := 0, slots := 0, locals := 145 }, 11, [
(0, .aload_n 0, 1, 0, 0, false, [], []),
  (1, .getfield 16, 3, 11, 1, false, [381], []),
  (4, .aload_n 0, 1, 0, 0, false, [], []),
  (5, .getfield 10, 3, 11, 0, false, [380], []),
  (8, .invokevirtual 68, 3, 37, 1, false, [412, 79, 415, 413, 414], []),
  (11, .aload_n 0, 1, 0, 0, false, [], []),
  (12, .aload_n 0, 1, 0, 0, false, [], []),
  (13, .getfield 10, 3, 11, 0, false, [380], []),
  (16, .iload_n 1, 1, 0, 0, false, [], []),
  (17, .iload_n 2, 1, 0, 0, false, [], []),
  (18, .iload_n 3, 1, 0, 0, false, [], []),
  (19, .invokevirtual 87, 3, 52, 3, false, [502, 79, 505, 503, 504], []),
  (22, .invokevirtual 76, 3, 118, 1, false, [441, 78, 444, 443, 0], []),
  (25, .ireturn, 1, 0, 0, false, [], [])])
def mt_96 : XM := (⟨"PuppetTurns", "turn", "(II)I"⟩, prog_1_method_6_code, 3, (Option.some Jvm.ClassFile.FieldType.int), { frames := 5, cells := 0, slots := 0, locals := 145 }, 11, [
(0, .aload_n 0, 1, 0, 0, false, [], []),
  (1, .getfield 16, 3, 11, 1, false, [381], []),
  (4, .aload_n 0, 1, 0, 0, false, [], []),
  (5, .getfield 10, 3, 11, 0, false, [380], []),
  (8, .invokevirtual 68, 3, 37, 1, false, [412, 79, 415, 413, 414], []),
  (11, .aload_n 0, 1, 0, 0, false, [], []),
  (12, .aload_n 0, 1, 0, 0, false, [], []),
  (13, .getfield 10, 3, 11, 0, false, [380], []),
  (16, .iload_n 1, 1, 0, 0, false, [], []),
  (17, .iload_n 2, 1, 0, 0, false, [], []),
  (18, .invokevirtual 90, 3, 53, 2, false, [528, 79, 531, 529, 530], []),
  (21, .invokevirtual 76, 3, 118, 1, false, [441, 78, 444, 443, 0], []),
  (24, .ireturn, 1, 0, 0, false, [], [])])
def mt_97 : XM := (⟨"PuppetTurns", "lift", "(I)I"⟩, prog_1_method_7_code, 2, (Option.some Jvm.ClassFile.FieldType.int), { frames := 5, cells := 0, slots := 0, locals := 145 }, 11, [
(0, .aload_n 0, 1, 0, 0, false, [], []),
  (1, .getfield 16, 3, 11, 1, false, [381], []),
  (4, .aload_n 0, 1, 0, 0, false, [], []),
  (5, .getfield 10, 3, 11, 0, false, [380], []),
  (8, .invokevirtual 68, 3, 37, 1, false, [412, 79, 415, 413, 414], []),
  (11, .aload_n 0, 1, 0, 0, false, [], []),
  (12, .aload_n 0, 1, 0, 0, false, [], []),
  (13, .getfield 10, 3, 11, 0, false, [380], []),
  (16, .iload_n 1, 1, 0, 0, false, [], []),
  (17, .invokevirtual 94, 3, 54, 1, false, [536, 79, 539, 537, 538], []),
  (20, .invokevirtual 76, 3, 118, 1, false, [441, 78, 444, 443, 0], []),
  (23, .ireturn, 1, 0, 0, false, [], [])])
def mt_98 : XM := (⟨"PuppetTurns", "lower", "(I)I"⟩, prog_1_method_8_code, 2, (Option.some Jvm.ClassFile.FieldType.int), { frames := 5, cells := 0, slots := 0, locals := 145 }, 11, [
(0, .aload_n 0, 1, 0, 0, false, [], []),
  (1, .getfield 16, 3, 11, 1, false, [381], []),
  (4, .aload_n 0, 1, 0, 0, false, [], []),
  (5, .getfield 10, 3, 11, 0, false, [380], []),
  (8, .invokevirtual 68, 3, 37, 1, false, [412, 79, 415, 413, 414], []),
  (11, .aload_n 0, 1, 0, 0, false, [], []),
  (12, .aload_n 0, 1, 0, 0, false, [], []),
  (13, .getfield 10, 3, 11, 0, false, [380], []),
  (16, .iload_n 1, 1, 0, 0, false, [], []),
  (17, .invokevirtual 97, 3, 55, 1, false, [544, 79, 481, 479, 480], []),
  (20, .invokevirtual 76, 3, 118, 1, false, [441, 78, 444, 443, 0], []),
  (23, .ireturn, 1, 0, 0, false, [], [])])
def mt_99 : XM := (⟨"PuppetTurns", "setLimit", "(I)I"⟩, prog_1_method_9_code, 2, (Option.some Jvm.ClassFile.FieldType.int), { frames := 5, cells := 0, slots := 0, locals := 145 }, 11, [
(0, .aload_n 0, 1, 0, 0, false, [], []),
  (1, .getfield 16, 3, 11, 1, false, [381], []),
  (4, .aload_n 0, 1, 0, 0, false, [], []),
  (5, .getfield 10, 3, 11, 0, false, [380], []),
  (8, .invokevirtual 68, 3, 37, 1, false, [412, 79, 415, 413, 414], []),
  (11, .aload_n 0, 1, 0, 0, false, [], []),
  (12, .aload_n 0, 1, 0, 0, false, [], []),
  (13, .getfield 10, 3, 11, 0, false, [380], []),
  (16, .iload_n 1, 1, 0, 0, false, [], []),
  (17, .invokevirtual 100, 3, 58, 1, false, [549, 79, 552, 550, 551], []),
  (20, .invokevirtual 76, 3, 118, 1, false, [441, 78, 444, 443, 0], []),
  (23, .ireturn, 1, 0, 0, false, [], [])])
def mt_100 : XM := (⟨"PuppetTurns", "setRule", "(II)I"⟩, prog_1_method_10_code, 3, (Option.some Jvm.ClassFile.FieldType.int), { frames := 5, cells := 0, slots := 0, locals := 145 }, 11, [
(0, .aload_n 0, 1, 0, 0, false, [], []),
  (1, .getfield 16, 3, 11, 1, false, [381], []),
  (4, .aload_n 0, 1, 0, 0, false, [], []),
  (5, .getfield 10, 3, 11, 0, false, [380], []),
  (8, .invokevirtual 68, 3, 37, 1, false, [412, 79, 415, 413, 414], []),
  (11, .aload_n 0, 1, 0, 0, false, [], []),
  (12, .aload_n 0, 1, 0, 0, false, [], []),
  (13, .getfield 10, 3, 11, 0, false, [380], []),
  (16, .iload_n 1, 1, 0, 0, false, [], []),
  (17, .iload_n 2, 1, 0, 0, false, [], []),
  (18, .invokevirtual 103, 3, 59, 2, false, [557, 79, 560, 558, 559], []),
  (21, .invokevirtual 76, 3, 118, 1, false, [441, 78, 444, 443, 0], []),
  (24, .ireturn, 1, 0, 0, false, [], [])])
def mt_101 : XM := (⟨"PuppetTurns", "frame", "()I"⟩, prog_1_method_11_code, 1, (Option.some Jvm.ClassFile.FieldType.int), { frames := 5, cells := 0, slots := 0, locals := 145 }, 11, [
(0, .aload_n 0, 1, 0, 0, false, [], []),
  (1, .getfield 16, 3, 11, 1, false, [381], []),
  (4, .aload_n 0, 1, 0, 0, false, [], []),
  (5, .getfield 10, 3, 11, 0, false, [380], []),
  (8, .invokevirtual 68, 3, 37, 1, false, [412, 79, 415, 413, 414], []),
  (11, .aload_n 0, 1, 0, 0, false, [], []),
  (12, .aload_n 0, 1, 0, 0, false, [], []),
  (13, .getfield 10, 3, 11, 0, false, [380], []),
  (16, .aload_n 0, 1, 0, 0, false, [], []),
  (17, .getfield 22, 3, 11, 2, false, [382], []),
  (20, .sipush 9999, 3, 0, 0, false, [], [(9999, 0)]),
  (23, .invokevirtual 106, 3, 60, 2, false, [565, 79, 568, 566, 567], []),
  (26, .invokevirtual 76, 3, 118, 1, false, [441, 78, 444, 443, 0], []),
  (29, .ireturn, 1, 0, 0, false, [], [])])
def mt_102 : XM := (⟨"PuppetTurns", "undo", "()I"⟩, prog_1_method_12_code, 1, (Option.some Jvm.ClassFile.FieldType.int), { frames := 4, cells := 0, slots := 0, locals := 124 }, 11, [
(0, .aload_n 0, 1, 0, 0, false, [], []),
  (1, .getfield 43, 3, 11, 5, false, [385], []),
  (4, .getfield 110, 3, 3, 2, true, [252], []),
  (7, .ifCond .ne 6, 3, 13, 0, false, [], []),
  (10, .bipush (-102), 2, 0, 0, false, [], [((-102), 0)]),
  (12, .ireturn, 1, 0, 0, false, [], []),
  (13, .aload_n 0, 1, 0, 0, false, [], []),
  (14, .getfield 43, 3, 11, 5, false, [385], []),
  (17, .aload_n 0, 1, 0, 0, false, [], []),
  (18, .getfield 10, 3, 11, 0, false, [380], []),
  (21, .invokevirtual 114, 3, 23, 1, false, [606, 85, 609, 607, 608], []),
  (24, .aload_n 0, 1, 0, 0, false, [], []),
  (25, .getfield 43, 3, 11, 5, false, [385], []),
  (28, .getfield 110, 3, 3, 2, true, [252], []),
  (31, .ireturn, 1, 0, 0, false, [], [])])
def mt_103 : XM := (⟨"PuppetTurns", "append", "(I)I"⟩, prog_1_method_13_code, 2, (Option.some Jvm.ClassFile.FieldType.int), { frames := 2, cells := 0, slots := 0, locals := 43 }, 11, [
(0, .aload_n 0, 1, 0, 0, false, [], []),
  (1, .getfield 50, 3, 11, 6, false, [386], []),
  (4, .getfield 117, 3, 4, 0, true, [306], []),
  (7, .iload_n 1, 1, 0, 0, false, [], []),
  (8, .invokevirtual 121, 3, 70, 1, false, [614, 87, 617, 615, 616], []),
  (11, .ireturn, 1, 0, 0, false, [], [])])
def mt_104 : XM := (⟨"PuppetTurns", "clearText", "()I"⟩, prog_1_method_14_code, 2, (Option.some Jvm.ClassFile.FieldType.int), { frames := 0, cells := 0, slots := 0, locals := 0 }, 11, [
(0, .aload_n 0, 1, 0, 0, false, [], []),
  (1, .getfield 50, 3, 11, 6, false, [386], []),
  (4, .getfield 117, 3, 4, 0, true, [306], []),
  (7, .getfield 126, 3, 7, 1, true, [277], []),
  (10, .istore_n 1, 1, 0, 0, false, [], []),
  (11, .aload_n 0, 1, 0, 0, false, [], []),
  (12, .getfield 50, 3, 11, 6, false, [386], []),
  (15, .getfield 117, 3, 4, 0, true, [306], []),
  (18, .iconst 0, 1, 0, 0, false, [], [(0, 0)]),
  (19, .putfield 126, 3, 7, 1, true, [277], []),
  (22, .iload_n 1, 1, 0, 0, false, [], []),
  (23, .ireturn, 1, 0, 0, false, [], [])])
def mt_105 : XM := (⟨"PuppetTurns", "run", "()I"⟩, prog_1_method_15_code, 1, (Option.some Jvm.ClassFile.FieldType.int), { frames := 6, cells := 0, slots := 0, locals := 147 }, 11, [
(0, .aload_n 0, 1, 0, 0, false, [], []),
  (1, .getfield 50, 3, 11, 6, false, [386], []),
  (4, .invokevirtual 129, 3, 25, 0, false, [628, 86, 631, 629, 630], []),
  (7, .ifCond .ne 42, 3, 49, 0, false, [], []),
  (10, .aload_n 0, 1, 0, 0, false, [], []),
  (11, .getfield 64, 3, 11, 8, false, [388], []),
  (14, .iconst 1, 1, 0, 0, false, [], [(1, 0)]),
  (15, .aload_n 0, 1, 0, 0, false, [], []),
  (16, .getfield 50, 3, 11, 6, false, [386], []),
  (19, .getfield 133, 3, 4, 5, true, [314], []),
  (22, .aload_n 0, 1, 0, 0, false, [], []),
  (23, .getfield 50, 3, 11, 6, false, [386], []),
  (26, .getfield 136, 3, 4, 4, true, [312], []),
  (29, .iconst 1, 1, 0, 0, false, [], [(1, 0)]),
  (30, .iadd, 1, 0, 0, false, [], []),
  (31, .iconst 0, 1, 0, 0, false, [], [(0, 0)]),
  (32, .bipush (-109), 2, 0, 0, false, [], [((-109), 0)]),
  (34, .invokevirtual 139, 3, 9, 5, false, [684, 90, 687, 685, 686], []),
  (37, .sipush (-1000), 3, 0, 0, false, [], [((-1000), 0)]),
  (40, .aload_n 0, 1, 0, 0, false, [], []),
  (41, .getfield 50, 3, 11, 6, false, [386], []),
  (44, .getfield 133, 3, 4, 5, true, [314], []),
  (47, .isub, 1, 0, 0, false, [], []),
  (48, .ireturn, 1, 0, 0, false, [], []),
  (49, .aload_n 0, 1, 0, 0, false, [], []),
  (50, .getfield 57, 3, 11, 7, false, [387], []),
  (53, .aload_n 0, 1, 0, 0, false, [], []),
  (54, .getfield 50, 3, 11, 6, false, [386], []),
  (57, .getfield 143, 3, 4, 1, true, [308], []),
  (60, .invokevirtual 147, 3, 65, 1, false, [688, 89, 691, 689, 690], []),
  (63, .aload_n 0, 1, 0, 0, false, [], []),
  (64, .getfield 57, 3, 11, 7, false, [387], []),
  (67, .getfield 151, 3, 6, 4, true, [343], []),
  (70, .ifCond .lt 19, 3, 89, 0, false, [], []),
  (73, .aload_n 0, 1, 0, 0, false, [], []),
  (74, .aload_n 0, 1, 0, 0, false, [], []),
  (75, .getfield 57, 3, 11, 7, false, [387], []),
  (78, .getfield 151, 3, 6, 4, true, [343], []),
  (81, .iconst 3, 1, 0, 0, false, [], [(3, 0)]),
  (82, .iconst 0, 1, 0, 0, false, [], [(0, 0)]),
  (83, .bipush (-109), 2, 0, 0, false, [], [((-109), 0)]),
  (85, .invokevirtual 154, 3, 121, 4, false, [709, 78, 712, 711, 18], []),
  (88, .ireturn, 1, 0, 0, false, [], []),
  (89, .aload_n 0, 1, 0, 0, false, [], []),
  (90, .invokevirtual 158, 3, 119, 0, false, [714, 78, 717, 716, 19], []),
  (93, .ireturn, 1, 0, 0, false, [], [])])
def mt_106 : XM := (⟨"PuppetTurns", "failure", "(I)I"⟩, prog_1_method_16_code, 2, (Option.some Jvm.ClassFile.FieldType.int), { frames := 1, cells := 0, slots := 0, locals := 22 }, 11, [
(0, .iload_n 1, 1, 0, 0, false, [], []),
  (1, .iconst 0, 1, 0, 0, false, [], [(0, 0)]),
  (2, .iconst 4, 1, 0, 0, false, [], [(4, 0)]),
  (3, .invokestatic 162, 3, 117, 3, false, [727, 78, 432, 431], []),
  (6, .ifCond .ne 6, 3, 12, 0, false, [], []),
  (9, .bipush (-101), 2, 0, 0, false, [], [((-101), 0)]),
  (11, .ireturn, 1, 0, 0, false, [], []),
  (12, .aload_n 0, 1, 0, 0, false, [], []),
  (13, .getfield 64, 3, 11, 8, false, [388], []),
  (16, .iload_n 1, 1, 0, 0, false, [], []),
  (17, .invokevirtual 166, 3, 10, 1, false, [728, 90, 731, 729, 730], []),
  (20, .ireturn, 1, 0, 0, false, [], [])])
def mt_107 : XM := (⟨"PuppetTurns", "count", "(I)I"⟩, prog_1_method_17_code, 2, (Option.some Jvm.ClassFile.FieldType.int), { frames := 6, cells := 0, slots := 0, locals := 138 }, 11, [
(0, .iload_n 1, 1, 0, 0, false, [], []),
  (1, .tableswitch 165 0 10 #[59, 67, 75, 83, 91, 99, 107, 126, 138, 146, 154], 59, 166, 0, false, [], [(0, 60), (1, 68), (2, 76), (3, 84), (4, 92), (5, 100), (6, 108), (7, 127), (8, 139), (9, 147), (10, 155)]),
  (60, .aload_n 0, 1, 0, 0, false, [], []),
  (61, .getfield 10, 3, 11, 0, false, [380], []),
  (64, .getfield 169, 3, 5, 3, true, [142], []),
  (67, .ireturn, 1, 0, 0, false, [], []),
  (68, .aload_n 0, 1, 0, 0, false, [], []),
  (69, .getfield 10, 3, 11, 0, false, [380], []),
  (72, .getfield 172, 3, 5, 4, true, [144], []),
  (75, .ireturn, 1, 0, 0, false, [], []),
  (76, .aload_n 0, 1, 0, 0, false, [], []),
  (77, .getfield 10, 3, 11, 0, false, [380], []),
  (80, .getfield 175, 3, 5, 5, true, [148], []),
  (83, .ireturn, 1, 0, 0, false, [], []),
  (84, .aload_n 0, 1, 0, 0, false, [], []),
  (85, .getfield 10, 3, 11, 0, false, [380], []),
  (88, .getfield 178, 3, 5, 6, true, [151], []),
  (91, .ireturn, 1, 0, 0, false, [], []),
  (92, .aload_n 0, 1, 0, 0, false, [], []),
  (93, .getfield 10, 3, 11, 0, false, [380], []),
  (96, .getfield 181, 3, 5, 7, true, [154], []),
  (99, .ireturn, 1, 0, 0, false, [], []),
  (100, .aload_n 0, 1, 0, 0, false, [], []),
  (101, .getfield 10, 3, 11, 0, false, [380], []),
  (104, .getfield 184, 3, 5, 8, true, [156], []),
  (107, .ireturn, 1, 0, 0, false, [], []),
  (108, .aload_n 0, 1, 0, 0, false, [], []),
  (109, .getfield 22, 3, 11, 2, false, [382], []),
  (112, .aload_n 0, 1, 0, 0, false, [], []),
  (113, .getfield 10, 3, 11, 0, false, [380], []),
  (116, .invokevirtual 187, 3, 86, 1, false, [736, 82, 572, 570, 571], []),
  (119, .aload_n 0, 1, 0, 0, false, [], []),
  (120, .getfield 22, 3, 11, 2, false, [382], []),
  (123, .invokevirtual 190, 3, 88, 0, false, [737, 82, 600, 598, 599], []),
  (126, .ireturn, 1, 0, 0, false, [], []),
  (127, .aload_n 0, 1, 0, 0, false, [], []),
  (128, .getfield 29, 3, 11, 3, false, [383], []),
  (131, .aload_n 0, 1, 0, 0, false, [], []),
  (132, .getfield 10, 3, 11, 0, false, [380], []),
  (135, .invokevirtual 193, 3, 77, 1, false, [738, 83, 741, 739, 740], []),
  (138, .ireturn, 1, 0, 0, false, [], []),
  (139, .aload_n 0, 1, 0, 0, false, [], []),
  (140, .getfield 10, 3, 11, 0, false, [380], []),
  (143, .invokevirtual 197, 3, 40, 0, false, [772, 79, 775, 773, 774], []),
  (146, .ireturn, 1, 0, 0, false, [], []),
  (147, .aload_n 0, 1, 0, 0, false, [], []),
  (148, .getfield 43, 3, 11, 5, false, [385], []),
  (151, .getfield 110, 3, 3, 2, true, [252], []),
  (154, .ireturn, 1, 0, 0, false, [], []),
  (155, .aload_n 0, 1, 0, 0, false, [], []),
  (156, .getfield 50, 3, 11, 6, false, [386], []),
  (159, .getfield 117, 3, 4, 0, true, [306], []),
  (162, .getfield 126, 3, 7, 1, true, [277], []),
  (165, .ireturn, 1, 0, 0, false, [], []),
  (166, .bipush (-101), 2, 0, 0, false, [], [((-101), 0)]),
  (168, .ireturn, 1, 0, 0, false, [], [])])
def mt_108 : XM := (⟨"PuppetTurns", "puppet", "(II)I"⟩, prog_1_method_18_code, 3, (Option.some Jvm.ClassFile.FieldType.int), { frames := 3, cells := 0, slots := 0, locals := 69 }, 11, [
(0, .aload_n 0, 1, 0, 0, false, [], []),
  (1, .getfield 10, 3, 11, 0, false, [380], []),
  (4, .iload_n 1, 1, 0, 0, false, [], []),
  (5, .invokevirtual 200, 3, 39, 1, false, [780, 79, 509, 507, 508], []),
  (8, .ifCond .ne 6, 3, 14, 0, false, [], []),
  (11, .bipush (-101), 2, 0, 0, false, [], [((-101), 0)]),
  (13, .ireturn, 1, 0, 0, false, [], []),
  (14, .iload_n 2, 1, 0, 0, false, [], []),
  (15, .iconst 0, 1, 0, 0, false, [], [(0, 0)]),
  (16, .iconst 5, 1, 0, 0, false, [], [(5, 0)]),
  (17, .invokestatic 162, 3, 117, 3, false, [727, 78, 432, 431], []),
  (20, .ifCond .eq 16, 3, 36, 0, false, [], []),
  (23, .aload_n 0, 1, 0, 0, false, [], []),
  (24, .getfield 10, 3, 11, 0, false, [380], []),
  (27, .getfield 204, 3, 5, 1, true, [133], []),
  (30, .iload_n 1, 1, 0, 0, false, [], []),
  (31, .iload_n 2, 1, 0, 0, false, [], []),
  (32, .invokevirtual 208, 3, 2, 2, false, [713, 80, 436, 434, 435], []),
  (35, .ireturn, 1, 0, 0, false, [], []),
  (36, .iload_n 2, 1, 0, 0, false, [], []),
  (37, .tableswitch 122 6 11 #[39, 48, 57, 80, 94, 108], 39, 159, 0, false, [], [(6, 76), (7, 85), (8, 94), (9, 117), (10, 131), (11, 145)]),
  (76, .aload_n 0, 1, 0, 0, false, [], []),
  (77, .getfield 10, 3, 11, 0, false, [380], []),
  (80, .iload_n 1, 1, 0, 0, false, [], []),
  (81, .invokevirtual 213, 3, 38, 1, false, [781, 79, 489, 487, 488], []),
  (84, .ireturn, 1, 0, 0, false, [], []),
  (85, .aload_n 0, 1, 0, 0, false, [], []),
  (86, .getfield 10, 3, 11, 0, false, [380], []),
  (89, .iload_n 1, 1, 0, 0, false, [], []),
  (90, .invokevirtual 216, 3, 43, 1, false, [782, 79, 513, 511, 512], []),
  (93, .ireturn, 1, 0, 0, false, [], []),
  (94, .aload_n 0, 1, 0, 0, false, [], []),
  (95, .getfield 22, 3, 11, 2, false, [382], []),
  (98, .aload_n 0, 1, 0, 0, false, [], []),
  (99, .getfield 10, 3, 11, 0, false, [380], []),
  (102, .invokevirtual 187, 3, 86, 1, false, [736, 82, 572, 570, 571], []),
  (105, .aload_n 0, 1, 0, 0, false, [], []),
  (106, .getfield 22, 3, 11, 2, false, [382], []),
  (109, .getfield 219, 3, 10, 1, true, [187], []),
  (112, .iload_n 1, 1, 0, 0, false, [], []),
  (113, .invokevirtual 222, 3, 1, 1, false, [718, 80, 493, 491, 492], []),
  (116, .ireturn, 1, 0, 0, false, [], []),
  (117, .aload_n 0, 1, 0, 0, false, [], []),
  (118, .getfield 10, 3, 11, 0, false, [380], []),
  (121, .getfield 204, 3, 5, 1, true, [133], []),
  (124, .iload_n 1, 1, 0, 0, false, [], []),
  (125, .bipush 7, 2, 0, 0, false, [], [(7, 0)]),
  (127, .invokevirtual 208, 3, 2, 2, false, [713, 80, 436, 434, 435], []),
  (130, .ireturn, 1, 0, 0, false, [], []),
  (131, .aload_n 0, 1, 0, 0, false, [], []),
  (132, .getfield 10, 3, 11, 0, false, [380], []),
  (135, .getfield 204, 3, 5, 1, true, [133], []),
  (138, .iload_n 1, 1, 0, 0, false, [], []),
  (139, .bipush 8, 2, 0, 0, false, [], [(8, 0)]),
  (141, .invokevirtual 208, 3, 2, 2, false, [713, 80, 436, 434, 435], []),
  (144, .ireturn, 1, 0, 0, false, [], []),
  (145, .aload_n 0, 1, 0, 0, false, [], []),
  (146, .getfield 10, 3, 11, 0, false, [380], []),
  (149, .getfield 204, 3, 5, 1, true, [133], []),
  (152, .iload_n 1, 1, 0, 0, false, [], []),
  (153, .bipush 9, 2, 0, 0, false, [], [(9, 0)]),
  (155, .invokevirtual 208, 3, 2, 2, false, [713, 80, 436, 434, 435], []),
  (158, .ireturn, 1, 0, 0, false, [], []),
  (159, .bipush (-101), 2, 0, 0, false, [], [((-101), 0)]),
  (161, .ireturn, 1, 0, 0, false, [], [])])
def mt_109 : XM := (⟨"PuppetTurns", "line", "(II)I"⟩, prog_1_method_19_code, 3, (Option.some Jvm.ClassFile.FieldType.int), { frames := 5, cells := 0, slots := 0, locals := 115 }, 11, [
(0, .iload_n 1, 1, 0, 0, false, [], []),
  (1, .iconst 0, 1, 0, 0, false, [], [(0, 0)]),
  (2, .bipush 47, 2, 0, 0, false, [], [(47, 0)]),
  (4, .invokestatic 162, 3, 117, 3, false, [727, 78, 432, 431], []),
  (7, .ifCond .ne 6, 3, 13, 0, false, [], []),
  (10, .bipush (-101), 2, 0, 0, false, [], [((-101), 0)]),
  (12, .ireturn, 1, 0, 0, false, [], []),
  (13, .iload_n 2, 1, 0, 0, false, [], []),
  (14, .tableswitch 82 0 2 #[26, 49, 69], 26, 96, 0, false, [], [(0, 40), (1, 63), (2, 83)]),
  (40, .aload_n 0, 1, 0, 0, false, [], []),
  (41, .getfield 22, 3, 11, 2, false, [382], []),
  (44, .aload_n 0, 1, 0, 0, false, [], []),
  (45, .getfield 10, 3, 11, 0, false, [380], []),
  (48, .invokevirtual 187, 3, 86, 1, false, [736, 82, 572, 570, 571], []),
  (51, .aload_n 0, 1, 0, 0, false, [], []),
  (52, .getfield 22, 3, 11, 2, false, [382], []),
  (55, .getfield 224, 3, 10, 0, true, [185], []),
  (58, .iload_n 1, 1, 0, 0, false, [], []),
  (59, .invokevirtual 222, 3, 1, 1, false, [718, 80, 493, 491, 492], []),
  (62, .ireturn, 1, 0, 0, false, [], []),
  (63, .aload_n 0, 1, 0, 0, false, [], []),
  (64, .getfield 29, 3, 11, 3, false, [383], []),
  (67, .aload_n 0, 1, 0, 0, false, [], []),
  (68, .getfield 10, 3, 11, 0, false, [380], []),
  (71, .iload_n 1, 1, 0, 0, false, [], []),
  (72, .invokevirtual 227, 3, 73, 2, false, [787, 83, 749, 747, 748], []),
  (75, .aload_n 0, 1, 0, 0, false, [], []),
  (76, .getfield 29, 3, 11, 3, false, [383], []),
  (79, .getfield 230, 3, 8, 1, true, [204], []),
  (82, .ireturn, 1, 0, 0, false, [], []),
  (83, .aload_n 0, 1, 0, 0, false, [], []),
  (84, .getfield 29, 3, 11, 3, false, [383], []),
  (87, .aload_n 0, 1, 0, 0, false, [], []),
  (88, .getfield 10, 3, 11, 0, false, [380], []),
  (91, .iload_n 1, 1, 0, 0, false, [], []),
  (92, .invokevirtual 231, 3, 76, 2, false, [788, 83, 745, 743, 744], []),
  (95, .ireturn, 1, 0, 0, false, [], []),
  (96, .bipush (-101), 2, 0, 0, false, [], [((-101), 0)]),
  (98, .ireturn, 1, 0, 0, false, [], [])])
def mt_110 : XM := (⟨"PuppetTurns", "shown", "(II)I"⟩, prog_1_method_20_code, 3, (Option.some Jvm.ClassFile.FieldType.int), { frames := 4, cells := 0, slots := 0, locals := 90 }, 11, [
(0, .iload_n 1, 1, 0, 0, false, [], []),
  (1, .iconst 0, 1, 0, 0, false, [], [(0, 0)]),
  (2, .bipush 47, 2, 0, 0, false, [], [(47, 0)]),
  (4, .invokestatic 162, 3, 117, 3, false, [727, 78, 432, 431], []),
  (7, .ifCond .eq 7, 3, 14, 0, false, [], []),
  (10, .iload_n 2, 1, 0, 0, false, [], []),
  (11, .ifCond .ge 6, 3, 17, 0, false, [], []),
  (14, .bipush (-101), 2, 0, 0, false, [], [((-101), 0)]),
  (16, .ireturn, 1, 0, 0, false, [], []),
  (17, .aload_n 0, 1, 0, 0, false, [], []),
  (18, .getfield 29, 3, 11, 3, false, [383], []),
  (21, .aload_n 0, 1, 0, 0, false, [], []),
  (22, .getfield 10, 3, 11, 0, false, [380], []),
  (25, .iload_n 1, 1, 0, 0, false, [], []),
  (26, .invokevirtual 227, 3, 73, 2, false, [787, 83, 749, 747, 748], []),
  (29, .iload_n 2, 1, 0, 0, false, [], []),
  (30, .aload_n 0, 1, 0, 0, false, [], []),
  (31, .getfield 29, 3, 11, 3, false, [383], []),
  (34, .getfield 230, 3, 8, 1, true, [204], []),
  (37, .if_icmp .ge 17, 3, 54, 0, false, [], []),
  (40, .aload_n 0, 1, 0, 0, false, [], []),
  (41, .getfield 29, 3, 11, 3, false, [383], []),
  (44, .getfield 235, 3, 8, 0, true, [202], []),
  (47, .iload_n 2, 1, 0, 0, false, [], []),
  (48, .invokevirtual 222, 3, 1, 1, false, [718, 80, 493, 491, 492], []),
  (51, .goto 5, 3, 56, 0, false, [], []),
  (54, .bipush (-109), 2, 0, 0, false, [], [((-109), 0)]),
  (56, .ireturn, 1, 0, 0, false, [], [])])
def mt_111 : XM := (⟨"PuppetTurns", "dot", "(II)I"⟩, prog_1_method_21_code, 3, (Option.some Jvm.ClassFile.FieldType.int), { frames := 5, cells := 0, slots := 0, locals := 115 }, 11, [
(0, .iload_n 1, 1, 0, 0, false, [], []),
  (1, .iconst 0, 1, 0, 0, false, [], [(0, 0)]),
  (2, .bipush 63, 2, 0, 0, false, [], [(63, 0)]),
  (4, .invokestatic 162, 3, 117, 3, false, [727, 78, 432, 431], []),
  (7, .ifCond .eq 13, 3, 20, 0, false, [], []),
  (10, .iload_n 2, 1, 0, 0, false, [], []),
  (11, .iconst 0, 1, 0, 0, false, [], [(0, 0)]),
  (12, .bipush 47, 2, 0, 0, false, [], [(47, 0)]),
  (14, .invokestatic 162, 3, 117, 3, false, [727, 78, 432, 431], []),
  (17, .ifCond .ne 6, 3, 23, 0, false, [], []),
  (20, .bipush (-101), 2, 0, 0, false, [], [((-101), 0)]),
  (22, .ireturn, 1, 0, 0, false, [], []),
  (23, .aload_n 0, 1, 0, 0, false, [], []),
  (24, .getfield 29, 3, 11, 3, false, [383], []),
  (27, .aload_n 0, 1, 0, 0, false, [], []),
  (28, .getfield 10, 3, 11, 0, false, [380], []),
  (31, .iload_n 1, 1, 0, 0, false, [], []),
  (32, .iload_n 2, 1, 0, 0, false, [], []),
  (33, .invokevirtual 238, 3, 75, 3, false, [797, 83, 800, 798, 799], []),
  (36, .ireturn, 1, 0, 0, false, [], [])])
def mt_112 : XM := (⟨"PuppetTurns", "clash", "(I)I"⟩, prog_1_method_22_code, 2, (Option.some Jvm.ClassFile.FieldType.int), { frames := 6, cells := 0, slots := 0, locals := 146 }, 11, [
(0, .iload_n 1, 1, 0, 0, false, [], []),
  (1, .iconst 0, 1, 0, 0, false, [], [(0, 0)]),
  (2, .iconst 3, 1, 0, 0, false, [], [(3, 0)]),
  (3, .invokestatic 162, 3, 117, 3, false, [727, 78, 432, 431], []),
  (6, .ifCond .ne 6, 3, 12, 0, false, [], []),
  (9, .bipush (-101), 2, 0, 0, false, [], [((-101), 0)]),
  (11, .ireturn, 1, 0, 0, false, [], []),
  (12, .iload_n 1, 1, 0, 0, false, [], []),
  (13, .ifCond .ne 17, 3, 30, 0, false, [], []),
  (16, .aload_n 0, 1, 0, 0, false, [], []),
  (17, .getfield 29, 3, 11, 3, false, [383], []),
  (20, .aload_n 0, 1, 0, 0, false, [], []),
  (21, .getfield 10, 3, 11, 0, false, [380], []),
  (24, .invokevirtual 242, 3, 79, 1, false, [809, 83, 812, 810, 811], []),
  (27, .goto 15, 3, 42, 0, false, [], []),
  (30, .aload_n 0, 1, 0, 0, false, [], []),
  (31, .getfield 29, 3, 11, 3, false, [383], []),
  (34, .aload_n 0, 1, 0, 0, false, [], []),
  (35, .getfield 10, 3, 11, 0, false, [380], []),
  (38, .iload_n 1, 1, 0, 0, false, [], []),
  (39, .invokevirtual 245, 3, 80, 2, false, [818, 83, 821, 819, 820], []),
  (42, .ireturn, 1, 0, 0, false, [], [])])
def mt_113 : XM := (⟨"PuppetTurns", "hiddenIn", "(II)I"⟩, prog_1_method_23_code, 3, (Option.some Jvm.ClassFile.FieldType.int), { frames := 5, cells := 0, slots := 0, locals := 126 }, 11, [
(0, .aload_n 0, 1, 0, 0, false, [], []),
  (1, .getfield 10, 3, 11, 0, false, [380], []),
  (4, .iload_n 1, 1, 0, 0, false, [], []),
  (5, .invokevirtual 200, 3, 39, 1, false, [780, 79, 509, 507, 508], []),
  (8, .ifCond .eq 13, 3, 21, 0, false, [], []),
  (11, .iload_n 2, 1, 0, 0, false, [], []),
  (12, .iconst 1, 1, 0, 0, false, [], [(1, 0)]),
  (13, .bipush 60, 2, 0, 0, false, [], [(60, 0)]),
  (15, .invokestatic 162, 3, 117, 3, false, [727, 78, 432, 431], []),
  (18, .ifCond .ne 6, 3, 24, 0, false, [], []),
  (21, .bipush (-101), 2, 0, 0, false, [], [((-101), 0)]),
  (23, .ireturn, 1, 0, 0, false, [], []),
  (24, .aload_n 0, 1, 0, 0, false, [], []),
  (25, .getfield 36, 3, 11, 4, false, [384], []),
  (28, .aload_n 0, 1, 0, 0, false, [], []),
  (29, .getfield 10, 3, 11, 0, false, [380], []),
  (32, .iload_n 1, 1, 0, 0, false, [], []),
  (33, .iload_n 2, 1, 0, 0, false, [], []),
  (34, .invokevirtual 248, 3, 13, 3, false, [833, 84, 836, 834, 835], []),
  (37, .ireturn, 1, 0, 0, false, [], [])])
def mt_114 : XM := (⟨"PuppetTurns", "allShownIn", "()I"⟩, prog_1_method_24_code, 1, (Option.some Jvm.ClassFile.FieldType.int), { frames := 5, cells := 0, slots := 0, locals := 124 }, 11, [
(0, .aload_n 0, 1, 0, 0, false, [], []),
  (1, .getfield 36, 3, 11, 4, false, [384], []),
  (4, .aload_n 0, 1, 0, 0, false, [], []),
  (5, .getfield 10, 3, 11, 0, false, [380], []),
  (8, .invokevirtual 251, 3, 14, 1, false, [849, 84, 852, 850, 851], []),
  (11, .ireturn, 1, 0, 0, false, [], [])])
def mt_115 : XM := (⟨"PuppetTurns", "bestStep", "(I)I"⟩, prog_1_method_25_code, 2, (Option.some Jvm.ClassFile.FieldType.int), { frames := 6, cells := 0, slots := 0, locals := 147 }, 11, [
(0, .iload_n 1, 1, 0, 0, false, [], []),
  (1, .iconst 0, 1, 0, 0, false, [], [(0, 0)]),
  (2, .iconst 1, 1, 0, 0, false, [], [(1, 0)]),
  (3, .invokestatic 162, 3, 117, 3, false, [727, 78, 432, 431], []),
  (6, .ifCond .ne 6, 3, 12, 0, false, [], []),
  (9, .bipush (-101), 2, 0, 0, false, [], [((-101), 0)]),
  (11, .ireturn, 1, 0, 0, false, [], []),
  (12, .aload_n 0, 1, 0, 0, false, [], []),
  (13, .getfield 36, 3, 11, 4, false, [384], []),
  (16, .aload_n 0, 1, 0, 0, false, [], []),
  (17, .getfield 10, 3, 11, 0, false, [380], []),
  (20, .invokevirtual 254, 3, 16, 1, false, [862, 84, 865, 863, 864], []),
  (23, .iload_n 1, 1, 0, 0, false, [], []),
  (24, .ifCond .ne 13, 3, 37, 0, false, [], []),
  (27, .aload_n 0, 1, 0, 0, false, [], []),
  (28, .getfield 36, 3, 11, 4, false, [384], []),
  (31, .getfield 257, 3, 2, 3, true, [226], []),
  (34, .goto 10, 3, 44, 0, false, [], []),
  (37, .aload_n 0, 1, 0, 0, false, [], []),
  (38, .getfield 36, 3, 11, 4, false, [384], []),
  (41, .getfield 258, 3, 2, 4, true, [228], []),
  (44, .ireturn, 1, 0, 0, false, [], [])])
def mt_116 : XM := (⟨"PuppetTurns", "worstLine", "()I"⟩, prog_1_method_26_code, 1, (Option.some Jvm.ClassFile.FieldType.int), { frames := 3, cells := 0, slots := 0, locals := 69 }, 11, [
(0, .aload_n 0, 1, 0, 0, false, [], []),
  (1, .getfield 22, 3, 11, 2, false, [382], []),
  (4, .aload_n 0, 1, 0, 0, false, [], []),
  (5, .getfield 10, 3, 11, 0, false, [380], []),
  (8, .invokevirtual 187, 3, 86, 1, false, [736, 82, 572, 570, 571], []),
  (11, .aload_n 0, 1, 0, 0, false, [], []),
  (12, .getfield 22, 3, 11, 2, false, [382], []),
  (15, .aload_n 0, 1, 0, 0, false, [], []),
  (16, .getfield 10, 3, 11, 0, false, [380], []),
  (19, .getfield 175, 3, 5, 5, true, [148], []),
  (22, .invokevirtual 261, 3, 90, 1, false, [888, 82, 891, 889, 890], []),
  (25, .ireturn, 1, 0, 0, false, [], [])])
def mt_117 : XM := (⟨"PuppetTurns", "within", "(III)Z"⟩, prog_1_method_27_code, 3, (Option.some Jvm.ClassFile.FieldType.boolean), { frames := 0, cells := 0, slots := 0, locals := 0 }, 11, [
(0, .iload_n 0, 1, 0, 0, false, [], []),
  (1, .iload_n 1, 1, 0, 0, false, [], []),
  (2, .if_icmp .lt 12, 3, 14, 0, false, [], []),
  (5, .iload_n 0, 1, 0, 0, false, [], []),
  (6, .iload_n 2, 1, 0, 0, false, [], []),
  (7, .if_icmp .gt 7, 3, 14, 0, false, [], []),
  (10, .iconst 1, 1, 0, 0, false, [], [(1, 0)]),
  (11, .goto 4, 3, 15, 0, false, [], []),
  (14, .iconst 0, 1, 0, 0, false, [], [(0, 0)]),
  (15, .ireturn, 1, 0, 0, false, [], [])])
def mt_118 : XM := (⟨"PuppetTurns", "recorded", "(I)I"⟩, prog_1_method_28_code, 2, (Option.some Jvm.ClassFile.FieldType.int), { frames := 4, cells := 0, slots := 0, locals := 124 }, 11, [
(0, .iload_n 1, 1, 0, 0, false, [], []),
  (1, .ifCond .lt 14, 3, 15, 0, false, [], []),
  (4, .aload_n 0, 1, 0, 0, false, [], []),
  (5, .getfield 43, 3, 11, 5, false, [385], []),
  (8, .aload_n 0, 1, 0, 0, false, [], []),
  (9, .getfield 16, 3, 11, 1, false, [381], []),
  (12, .invokevirtual 264, 3, 22, 1, false, [445, 85, 448, 446, 447], []),
  (15, .iload_n 1, 1, 0, 0, false, [], []),
  (16, .ireturn, 1, 0, 0, false, [], [])])
def mt_119 : XM := (⟨"PuppetTurns", "performAll", "()I"⟩, prog_1_method_29_code, 4, (Option.some Jvm.ClassFile.FieldType.int), { frames := 5, cells := 0, slots := 0, locals := 124 }, 11, [
(0, .aload_n 0, 1, 0, 0, false, [], []),
  (1, .getfield 16, 3, 11, 1, false, [381], []),
  (4, .aload_n 0, 1, 0, 0, false, [], []),
  (5, .getfield 10, 3, 11, 0, false, [380], []),
  (8, .invokevirtual 68, 3, 37, 1, false, [412, 79, 415, 413, 414], []),
  (11, .iconst 0, 1, 0, 0, false, [], [(0, 0)]),
  (12, .istore_n 1, 1, 0, 0, false, [], []),
  (13, .iload_n 1, 1, 0, 0, false, [], []),
  (14, .aload_n 0, 1, 0, 0, false, [], []),
  (15, .getfield 57, 3, 11, 7, false, [387], []),
  (18, .getfield 267, 3, 6, 2, true, [340], []),
  (21, .if_icmp .ge 51, 3, 72, 0, false, [], []),
  (24, .aload_n 0, 1, 0, 0, false, [], []),
  (25, .getfield 57, 3, 11, 7, false, [387], []),
  (28, .getfield 268, 3, 6, 0, true, [337], []),
  (31, .iload_n 1, 1, 0, 0, false, [], []),
  (32, .invokevirtual 222, 3, 1, 1, false, [718, 80, 493, 491, 492], []),
  (35, .istore_n 2, 1, 0, 0, false, [], []),
  (36, .aload_n 0, 1, 0, 0, false, [], []),
  (37, .iload_n 2, 1, 0, 0, false, [], []),
  (38, .invokevirtual 271, 3, 120, 1, false, [719, 78, 722, 721, 20], []),
  (41, .istore_n 3, 1, 0, 0, false, [], []),
  (42, .iload_n 3, 1, 0, 0, false, [], []),
  (43, .ifCond .ge 23, 3, 66, 0, false, [], []),
  (46, .aload_n 0, 1, 0, 0, false, [], []),
  (47, .getfield 10, 3, 11, 0, false, [380], []),
  (50, .aload_n 0, 1, 0, 0, false, [], []),
  (51, .getfield 16, 3, 11, 1, false, [381], []),
  (54, .invokevirtual 68, 3, 37, 1, false, [412, 79, 415, 413, 414], []),
  (57, .aload_n 0, 1, 0, 0, false, [], []),
  (58, .iload_n 2, 1, 0, 0, false, [], []),
  (59, .iconst 2, 1, 0, 0, false, [], [(2, 0)]),
  (60, .iload_n 1, 1, 0, 0, false, [], []),
  (61, .iload_n 3, 1, 0, 0, false, [], []),
  (62, .invokevirtual 154, 3, 121, 4, false, [709, 78, 712, 711, 18], []),
  (65, .ireturn, 1, 0, 0, false, [], []),
  (66, .iinc 1 1, 3, 0, 0, false, [], [(1, 0)]),
  (69, .goto (-56), 3, 13, 0, false, [], []),
  (72, .aload_n 0, 1, 0, 0, false, [], []),
  (73, .getfield 43, 3, 11, 5, false, [385], []),
  (76, .aload_n 0, 1, 0, 0, false, [], []),
  (77, .getfield 16, 3, 11, 1, false, [381], []),
  (80, .invokevirtual 264, 3, 22, 1, false, [445, 85, 448, 446, 447], []),
  (83, .aload_n 0, 1, 0, 0, false, [], []),
  (84, .getfield 57, 3, 11, 7, false, [387], []),
  (87, .getfield 267, 3, 6, 2, true, [340], []),
  (90, .ireturn, 1, 0, 0, false, [], [])])
def mt_120 : XM := (⟨"PuppetTurns", "perform", "(I)I"⟩, prog_1_method_30_code, 5, (Option.some Jvm.ClassFile.FieldType.int), { frames := 4, cells := 0, slots := 0, locals := 92 }, 11, [
(0, .aload_n 0, 1, 0, 0, false, [], []),
  (1, .getfield 50, 3, 11, 6, false, [386], []),
  (4, .getfield 143, 3, 4, 1, true, [308], []),
  (7, .getfield 274, 3, 9, 0, true, [294], []),
  (10, .astore_n 2, 1, 0, 0, false, [], []),
  (11, .aload_n 2, 1, 0, 0, false, [], []),
  (12, .iload_n 1, 1, 0, 0, false, [], []),
  (13, .iconst 3, 1, 0, 0, false, [], [(3, 0)]),
  (14, .invokevirtual 208, 3, 2, 2, false, [713, 80, 436, 434, 435], []),
  (17, .istore_n 3, 1, 0, 0, false, [], []),
  (18, .aload_n 2, 1, 0, 0, false, [], []),
  (19, .iload_n 1, 1, 0, 0, false, [], []),
  (20, .iconst 4, 1, 0, 0, false, [], [(4, 0)]),
  (21, .invokevirtual 208, 3, 2, 2, false, [713, 80, 436, 434, 435], []),
  (24, .istore 4, 2, 0, 0, false, [], []),
  (26, .aload_n 2, 1, 0, 0, false, [], []),
  (27, .iload_n 1, 1, 0, 0, false, [], []),
  (28, .iconst 0, 1, 0, 0, false, [], [(0, 0)]),
  (29, .invokevirtual 208, 3, 2, 2, false, [713, 80, 436, 434, 435], []),
  (32, .lookupswitch 113 #[(100, 104), (102, 52), (109, 67), (116, 84), (117, 95)], 52, 145, 0, false, [], [(100, 136), (102, 84), (109, 99), (116, 116), (117, 127)]),
  (84, .aload_n 0, 1, 0, 0, false, [], []),
  (85, .getfield 10, 3, 11, 0, false, [380], []),
  (88, .aload_n 0, 1, 0, 0, false, [], []),
  (89, .getfield 22, 3, 11, 2, false, [382], []),
  (92, .sipush 9999, 3, 0, 0, false, [], [(9999, 0)]),
  (95, .invokevirtual 106, 3, 60, 2, false, [565, 79, 568, 566, 567], []),
  (98, .ireturn, 1, 0, 0, false, [], []),
  (99, .aload_n 0, 1, 0, 0, false, [], []),
  (100, .getfield 10, 3, 11, 0, false, [380], []),
  (103, .iload_n 3, 1, 0, 0, false, [], []),
  (104, .iload 4, 2, 0, 0, false, [], []),
  (106, .aload_n 2, 1, 0, 0, false, [], []),
  (107, .iload_n 1, 1, 0, 0, false, [], []),
  (108, .iconst 5, 1, 0, 0, false, [], [(5, 0)]),
  (109, .invokevirtual 208, 3, 2, 2, false, [713, 80, 436, 434, 435], []),
  (112, .invokevirtual 87, 3, 52, 3, false, [502, 79, 505, 503, 504], []),
  (115, .ireturn, 1, 0, 0, false, [], []),
  (116, .aload_n 0, 1, 0, 0, false, [], []),
  (117, .getfield 10, 3, 11, 0, false, [380], []),
  (120, .iload_n 3, 1, 0, 0, false, [], []),
  (121, .iload 4, 2, 0, 0, false, [], []),
  (123, .invokevirtual 90, 3, 53, 2, false, [528, 79, 531, 529, 530], []),
  (126, .ireturn, 1, 0, 0, false, [], []),
  (127, .aload_n 0, 1, 0, 0, false, [], []),
  (128, .getfield 10, 3, 11, 0, false, [380], []),
  (131, .iload_n 3, 1, 0, 0, false, [], []),
  (132, .invokevirtual 94, 3, 54, 1, false, [536, 79, 539, 537, 538], []),
  (135, .ireturn, 1, 0, 0, false, [], []),
  (136, .aload_n 0, 1, 0, 0, false, [], []),
  (137, .getfield 10, 3, 11, 0, false, [380], []),
  (140, .iload_n 3, 1, 0, 0, false, [], []),
  (141, .invokevirtual 97, 3, 55, 1, false, [544, 79, 481, 479, 480], []),
  (144, .ireturn, 1, 0, 0, false, [], []),
  (145, .aload_n 0, 1, 0, 0, false, [], []),
  (146, .getfield 10, 3, 11, 0, false, [380], []),
  (149, .iload_n 3, 1, 0, 0, false, [], []),
  (150, .invokevirtual 100, 3, 58, 1, false, [549, 79, 552, 550, 551], []),
  (153, .ireturn, 1, 0, 0, false, [], [])])
def mt_121 : XM := (⟨"PuppetTurns", "failedAt", "(IIII)I"⟩, prog_1_method_31_code, 6, (Option.some Jvm.ClassFile.FieldType.int), { frames := 1, cells := 0, slots := 0, locals := 25 }, 11, [
(0, .aload_n 0, 1, 0, 0, false, [], []),
  (1, .getfield 50, 3, 11, 6, false, [386], []),
  (4, .getfield 143, 3, 4, 1, true, [308], []),
  (7, .getfield 274, 3, 9, 0, true, [294], []),
  (10, .iload_n 1, 1, 0, 0, false, [], []),
  (11, .iconst 1, 1, 0, 0, false, [], [(1, 0)]),
  (12, .invokevirtual 208, 3, 2, 2, false, [713, 80, 436, 434, 435], []),
  (15, .istore 5, 2, 0, 0, false, [], []),
  (17, .aload_n 0, 1, 0, 0, false, [], []),
  (18, .getfield 64, 3, 11, 8, false, [388], []),
  (21, .iload_n 2, 1, 0, 0, false, [], []),
  (22, .iload 5, 2, 0, 0, false, [], []),
  (24, .aload_n 0, 1, 0, 0, false, [], []),
  (25, .getfield 50, 3, 11, 6, false, [386], []),
  (28, .getfield 143, 3, 4, 1, true, [308], []),
  (31, .getfield 274, 3, 9, 0, true, [294], []),
  (34, .iload_n 1, 1, 0, 0, false, [], []),
  (35, .iconst 2, 1, 0, 0, false, [], [(2, 0)]),
  (36, .invokevirtual 208, 3, 2, 2, false, [713, 80, 436, 434, 435], []),
  (39, .iload_n 3, 1, 0, 0, false, [], []),
  (40, .iload 4, 2, 0, 0, false, [], []),
  (42, .invokevirtual 139, 3, 9, 5, false, [684, 90, 687, 685, 686], []),
  (45, .sipush (-1000), 3, 0, 0, false, [], [((-1000), 0)]),
  (48, .iload 5, 2, 0, 0, false, [], []),
  (50, .isub, 1, 0, 0, false, [], []),
  (51, .ireturn, 1, 0, 0, false, [], [])])
def mt_122 : XM := (⟨"PuppetTurnsModel", "<init>", "()V"⟩, prog_14_method_1_code, 2, (Option.none : Option Jvm.ClassFile.FieldType), { frames := 1, cells := 18, slots := 2688, locals := 60 }, 12, [
(0, .aload_n 0, 1, 0, 0, false, [], []),
  (1, .invokespecial 1, 3, 1000, 0, false, [897, 100, 101], []),
  (4, .aload_n 0, 1, 0, 0, false, [], []),
  (5, .sipush 270, 3, 0, 0, false, [], [(270, 0)]),
  (8, .newarray .int, 2, 0, 0, false, [124], []),
  (10, .putfield 7, 3, 12, 1, false, [899], []),
  (13, .aload_n 0, 1, 0, 0, false, [], []),
  (14, .sipush 270, 3, 0, 0, false, [], [(270, 0)]),
  (17, .newarray .int, 2, 0, 0, false, [124], []),
  (19, .putfield 13, 3, 12, 2, false, [900], []),
  (22, .aload_n 0, 1, 0, 0, false, [], []),
  (23, .sipush 1350, 3, 0, 0, false, [], [(1350, 0)]),
  (26, .newarray .int, 2, 0, 0, false, [124], []),
  (28, .putfield 16, 3, 12, 3, false, [901], []),
  (31, .aload_n 0, 1, 0, 0, false, [], []),
  (32, .bipush 100, 2, 0, 0, false, [], [(100, 0)]),
  (34, .newarray .int, 2, 0, 0, false, [124], []),
  (36, .putfield 19, 3, 12, 5, false, [903], []),
  (39, .aload_n 0, 1, 0, 0, false, [], []),
  (40, .bipush 20, 2, 0, 0, false, [], [(20, 0)]),
  (42, .newarray .int, 2, 0, 0, false, [124], []),
  (44, .putfield 22, 3, 12, 7, false, [905], []),
  (47, .aload_n 0, 1, 0, 0, false, [], []),
  (48, .bipush 20, 2, 0, 0, false, [], [(20, 0)]),
  (50, .newarray .int, 2, 0, 0, false, [124], []),
  (52, .putfield 25, 3, 12, 8, false, [906], []),
  (55, .aload_n 0, 1, 0, 0, false, [], []),
  (56, .bipush 20, 2, 0, 0, false, [], [(20, 0)]),
  (58, .newarray .int, 2, 0, 0, false, [124], []),
  (60, .putfield 28, 3, 12, 9, false, [907], []),
  (63, .aload_n 0, 1, 0, 0, false, [], []),
  (64, .bipush 20, 2, 0, 0, false, [], [(20, 0)]),
  (66, .newarray .int, 2, 0, 0, false, [124], []),
  (68, .putfield 31, 3, 12, 10, false, [908], []),
  (71, .aload_n 0, 1, 0, 0, false, [], []),
  (72, .bipush 100, 2, 0, 0, false, [], [(100, 0)]),
  (74, .newarray .int, 2, 0, 0, false, [124], []),
  (76, .putfield 34, 3, 12, 11, false, [909], []),
  (79, .aload_n 0, 1, 0, 0, false, [], []),
  (80, .bipush 100, 2, 0, 0, false, [], [(100, 0)]),
  (82, .newarray .int, 2, 0, 0, false, [124], []),
  (84, .putfield 37, 3, 12, 12, false, [910], []),
  (87, .aload_n 0, 1, 0, 0, false, [], []),
  (88, .bipush 100, 2, 0, 0, false, [], [(100, 0)]),
  (90, .newarray .int, 2, 0, 0, false, [124], []),
  (92, .putfield 40, 3, 12, 13, false, [911], []),
  (95, .aload_n 0, 1, 0, 0, false, [], []),
  (96, .bipush 100, 2, 0, 0, false, [], [(100, 0)]),
  (98, .newarray .int, 2, 0, 0, false, [124], []),
  (100, .putfield 43, 3, 12, 14, false, [912], []),
  (103, .aload_n 0, 1, 0, 0, false, [], []),
  (104, .bipush 100, 2, 0, 0, false, [], [(100, 0)]),
  (106, .newarray .int, 2, 0, 0, false, [124], []),
  (108, .putfield 46, 3, 12, 15, false, [913], []),
  (111, .aload_n 0, 1, 0, 0, false, [], []),
  (112, .bipush 100, 2, 0, 0, false, [], [(100, 0)]),
  (114, .newarray .int, 2, 0, 0, false, [124], []),
  (116, .putfield 49, 3, 12, 16, false, [914], []),
  (119, .aload_n 0, 1, 0, 0, false, [], []),
  (120, .iconst 5, 1, 0, 0, false, [], [(5, 0)]),
  (121, .newarray .int, 2, 0, 0, false, [124], []),
  (123, .putfield 52, 3, 12, 18, false, [916], []),
  (126, .aload_n 0, 1, 0, 0, false, [], []),
  (127, .iconst 5, 1, 0, 0, false, [], [(5, 0)]),
  (128, .newarray .int, 2, 0, 0, false, [124], []),
  (130, .putfield 55, 3, 12, 19, false, [917], []),
  (133, .aload_n 0, 1, 0, 0, false, [], []),
  (134, .iconst 3, 1, 0, 0, false, [], [(3, 0)]),
  (135, .newarray .int, 2, 0, 0, false, [124], []),
  (137, .putfield 58, 3, 12, 20, false, [918], []),
  (140, .aload_n 0, 1, 0, 0, false, [], []),
  (141, .iconst 5, 1, 0, 0, false, [], [(5, 0)]),
  (142, .newarray .int, 2, 0, 0, false, [124], []),
  (144, .putfield 61, 3, 12, 22, false, [920], []),
  (147, .aload_n 0, 1, 0, 0, false, [], []),
  (148, .iconst 0, 1, 0, 0, false, [], [(0, 0)]),
  (149, .putfield 64, 3, 12, 0, false, [898], []),
  (152, .aload_n 0, 1, 0, 0, false, [], []),
  (153, .getfield 7, 3, 12, 1, false, [899], []),
  (156, .iconst 2, 1, 0, 0, false, [], [(2, 0)]),
  (157, .bipush 8, 2, 0, 0, false, [], [(8, 0)]),
  (159, .iastore, 1, 0, 0, false, [], []),
  (160, .aload_n 0, 1, 0, 0, false, [], []),
  (161, .getfield 7, 3, 12, 1, false, [899], []),
  (164, .iconst 4, 1, 0, 0, false, [], [(4, 0)]),
  (165, .iconst 1, 1, 0, 0, false, [], [(1, 0)]),
  (166, .iastore, 1, 0, 0, false, [], []),
  (167, .iconst 0, 1, 0, 0, false, [], [(0, 0)]),
  (168, .istore_n 1, 1, 0, 0, false, [], []),
  (169, .iload_n 1, 1, 0, 0, false, [], []),
  (170, .bipush 64, 2, 0, 0, false, [], [(64, 0)]),
  (172, .if_icmp .ge 22, 3, 194, 0, false, [], []),
  (175, .aload_n 0, 1, 0, 0, false, [], []),
  (176, .getfield 7, 3, 12, 1, false, [899], []),
  (179, .sipush 206, 3, 0, 0, false, [], [(206, 0)]),
  (182, .iload_n 1, 1, 0, 0, false, [], []),
  (183, .iadd, 1, 0, 0, false, [], []),
  (184, .sipush 255, 3, 0, 0, false, [], [(255, 0)]),
  (187, .iastore, 1, 0, 0, false, [], []),
  (188, .iinc 1 1, 3, 0, 0, false, [], [(1, 0)]),
  (191, .goto (-22), 3, 169, 0, false, [], []),
  (194, .return_, 1, 0, 0, false, [], [])])
def mt_123 : XM := (⟨"PuppetTurnsModel", "in", "(III)Z"⟩, prog_14_method_3_code, 3, (Option.some Jvm.ClassFile.FieldType.boolean), { frames := 0, cells := 0, slots := 0, locals := 0 }, 12, [
(0, .iload_n 0, 1, 0, 0, false, [], []),
  (1, .iload_n 1, 1, 0, 0, false, [], []),
  (2, .if_icmp .lt 12, 3, 14, 0, false, [], []),
  (5, .iload_n 0, 1, 0, 0, false, [], []),
  (6, .iload_n 2, 1, 0, 0, false, [], []),
  (7, .if_icmp .gt 7, 3, 14, 0, false, [], []),
  (10, .iconst 1, 1, 0, 0, false, [], [(1, 0)]),
  (11, .goto 4, 3, 15, 0, false, [], []),
  (14, .iconst 0, 1, 0, 0, false, [], [(0, 0)]),
  (15, .ireturn, 1, 0, 0, false, [], [])])
def mt_124 : XM := (⟨"PuppetTurnsModel", "act", "()V"⟩, prog_14_method_4_code, 2, (Option.none : Option Jvm.ClassFile.FieldType), { frames := 0, cells := 0, slots := 0, locals := 0 }, 12, [
(0, .aload_n 0, 1, 0, 0, false, [], []),
  (1, .getfield 68, 3, 12, 4, false, [902], []),
  (4, .iconst 5, 1, 0, 0, false, [], [(5, 0)]),
  (5, .if_icmp .ne 44, 3, 49, 0, false, [], []),
  (8, .iconst 0, 1, 0, 0, false, [], [(0, 0)]),
  (9, .istore_n 1, 1, 0, 0, false, [], []),
  (10, .iload_n 1, 1, 0, 0, false, [], []),
  (11, .sipush 1080, 3, 0, 0, false, [], [(1080, 0)]),
  (14, .if_icmp .ge 25, 3, 39, 0, false, [], []),
  (17, .aload_n 0, 1, 0, 0, false, [], []),
  (18, .getfield 16, 3, 12, 3, false, [901], []),
  (21, .iload_n 1, 1, 0, 0, false, [], []),
  (22, .aload_n 0, 1, 0, 0, false, [], []),
  (23, .getfield 16, 3, 12, 3, false, [901], []),
  (26, .iload_n 1, 1, 0, 0, false, [], []),
  (27, .sipush 270, 3, 0, 0, false, [], [(270, 0)]),
  (30, .iadd, 1, 0, 0, false, [], []),
  (31, .iaload, 1, 0, 0, false, [], []),
  (32, .iastore, 1, 0, 0, false, [], []),
  (33, .iinc 1 1, 3, 0, 0, false, [], [(1, 0)]),
  (36, .goto (-26), 3, 10, 0, false, [], []),
  (39, .aload_n 0, 1, 0, 0, false, [], []),
  (40, .dup, 1, 0, 0, false, [], []),
  (41, .getfield 68, 3, 12, 4, false, [902], []),
  (44, .iconst 1, 1, 0, 0, false, [], [(1, 0)]),
  (45, .isub, 1, 0, 0, false, [], []),
  (46, .putfield 68, 3, 12, 4, false, [902], []),
  (49, .iconst 0, 1, 0, 0, false, [], [(0, 0)]),
  (50, .istore_n 1, 1, 0, 0, false, [], []),
  (51, .iload_n 1, 1, 0, 0, false, [], []),
  (52, .sipush 270, 3, 0, 0, false, [], [(270, 0)]),
  (55, .if_icmp .ge 30, 3, 85, 0, false, [], []),
  (58, .aload_n 0, 1, 0, 0, false, [], []),
  (59, .getfield 16, 3, 12, 3, false, [901], []),
  (62, .sipush 270, 3, 0, 0, false, [], [(270, 0)]),
  (65, .aload_n 0, 1, 0, 0, false, [], []),
  (66, .getfield 68, 3, 12, 4, false, [902], []),
  (69, .imul, 1, 0, 0, false, [], []),
  (70, .iload_n 1, 1, 0, 0, false, [], []),
  (71, .iadd, 1, 0, 0, false, [], []),
  (72, .aload_n 0, 1, 0, 0, false, [], []),
  (73, .getfield 7, 3, 12, 1, false, [899], []),
  (76, .iload_n 1, 1, 0, 0, false, [], []),
  (77, .iaload, 1, 0, 0, false, [], []),
  (78, .iastore, 1, 0, 0, false, [], []),
  (79, .iinc 1 1, 3, 0, 0, false, [], [(1, 0)]),
  (82, .goto (-31), 3, 51, 0, false, [], []),
  (85, .aload_n 0, 1, 0, 0, false, [], []),
  (86, .dup, 1, 0, 0, false, [], []),
  (87, .getfield 68, 3, 12, 4, false, [902], []),
  (90, .iconst 1, 1, 0, 0, false, [], [(1, 0)]),
  (91, .iadd, 1, 0, 0, false, [], []),
  (92, .putfield 68, 3, 12, 4, false, [902], []),
  (95, .return_, 1, 0, 0, false, [], [])])
def mt_125 : XM := (⟨"PuppetTurnsModel", "of", "(II)I"⟩, prog_14_method_5_code, 3, (Option.some Jvm.ClassFile.FieldType.int), { frames := 0, cells := 0, slots := 0, locals := 0 }, 12, [
(0, .aload_n 0, 1, 0, 0, false, [], []),
  (1, .getfield 7, 3, 12, 1, false, [899], []),
  (4, .bipush 26, 2, 0, 0, false, [], [(26, 0)]),
  (6, .bipush 9, 2, 0, 0, false, [], [(9, 0)]),
  (8, .iload_n 1, 1, 0, 0, false, [], []),
  (9, .imul, 1, 0, 0, false, [], []),
  (10, .iadd, 1, 0, 0, false, [], []),
  (11, .iload_n 2, 1, 0, 0, false, [], []),
  (12, .iadd, 1, 0, 0, false, [], []),
  (13, .iaload, 1, 0, 0, false, [], []),
  (14, .ireturn, 1, 0, 0, false, [], [])])
def mt_126 : XM := (⟨"PuppetTurnsModel", "put", "(III)V"⟩, prog_14_method_6_code, 4, (Option.none : Option Jvm.ClassFile.FieldType), { frames := 0, cells := 0, slots := 0, locals := 0 }, 12, [
(0, .aload_n 0, 1, 0, 0, false, [], []),
  (1, .getfield 7, 3, 12, 1, false, [899], []),
  (4, .bipush 26, 2, 0, 0, false, [], [(26, 0)]),
  (6, .bipush 9, 2, 0, 0, false, [], [(9, 0)]),
  (8, .iload_n 1, 1, 0, 0, false, [], []),
  (9, .imul, 1, 0, 0, false, [], []),
  (10, .iadd, 1, 0, 0, false, [], []),
  (11, .iload_n 2, 1, 0, 0, false, [], []),
  (12, .iadd, 1, 0, 0, false, [], []),
  (13, .iload_n 3, 1, 0, 0, false, [], []),
  (14, .iastore, 1, 0, 0, false, [], []),
  (15, .return_, 1, 0, 0, false, [], [])])
def mt_127 : XM := (⟨"PuppetTurnsModel", "positionOf", "(I)I"⟩, prog_14_method_7_code, 4, (Option.some Jvm.ClassFile.FieldType.int), { frames := 0, cells := 0, slots := 0, locals := 0 }, 12, [
(0, .bipush (-109), 2, 0, 0, false, [], [((-109), 0)]),
  (2, .istore_n 2, 1, 0, 0, false, [], []),
  (3, .iconst 0, 1, 0, 0, false, [], [(0, 0)]),
  (4, .istore_n 3, 1, 0, 0, false, [], []),
  (5, .iload_n 3, 1, 0, 0, false, [], []),
  (6, .aload_n 0, 1, 0, 0, false, [], []),
  (7, .getfield 7, 3, 12, 1, false, [899], []),
  (10, .iconst 1, 1, 0, 0, false, [], [(1, 0)]),
  (11, .iaload, 1, 0, 0, false, [], []),
  (12, .if_icmp .ge 28, 3, 40, 0, false, [], []),
  (15, .aload_n 0, 1, 0, 0, false, [], []),
  (16, .getfield 7, 3, 12, 1, false, [899], []),
  (19, .bipush 6, 2, 0, 0, false, [], [(6, 0)]),
  (21, .iload_n 3, 1, 0, 0, false, [], []),
  (22, .iadd, 1, 0, 0, false, [], []),
  (23, .iaload, 1, 0, 0, false, [], []),
  (24, .iload_n 1, 1, 0, 0, false, [], []),
  (25, .if_icmp .ne 7, 3, 32, 0, false, [], []),
  (28, .iload_n 3, 1, 0, 0, false, [], []),
  (29, .goto 4, 3, 33, 0, false, [], []),
  (32, .iload_n 2, 1, 0, 0, false, [], []),
  (33, .istore_n 2, 1, 0, 0, false, [], []),
  (34, .iinc 3 1, 3, 0, 0, false, [], [(1, 0)]),
  (37, .goto (-32), 3, 5, 0, false, [], []),
  (40, .iload_n 2, 1, 0, 0, false, [], []),
  (41, .ireturn, 1, 0, 0, false, [], [])])
def mt_128 : XM := (⟨"PuppetTurnsModel", "isThere", "(I)Z"⟩, prog_14_method_8_code, 2, (Option.some Jvm.ClassFile.FieldType.boolean), { frames := 1, cells := 0, slots := 0, locals := 23 }, 12, [
(0, .iload_n 1, 1, 0, 0, false, [], []),
  (1, .iconst 0, 1, 0, 0, false, [], [(0, 0)]),
  (2, .aload_n 0, 1, 0, 0, false, [], []),
  (3, .getfield 7, 3, 12, 1, false, [899], []),
  (6, .iconst 0, 1, 0, 0, false, [], [(0, 0)]),
  (7, .iaload, 1, 0, 0, false, [], []),
  (8, .iconst 1, 1, 0, 0, false, [], [(1, 0)]),
  (9, .isub, 1, 0, 0, false, [], []),
  (10, .invokestatic 71, 3, 123, 3, false, [981, 91, 983, 982], []),
  (13, .ifCond .eq 17, 3, 30, 0, false, [], []),
  (16, .aload_n 0, 1, 0, 0, false, [], []),
  (17, .iload_n 1, 1, 0, 0, false, [], []),
  (18, .invokevirtual 75, 3, 127, 1, false, [1007, 91, 1010, 1009, 31], []),
  (21, .bipush (-109), 2, 0, 0, false, [], [((-109), 0)]),
  (23, .if_icmp .eq 7, 3, 30, 0, false, [], []),
  (26, .iconst 1, 1, 0, 0, false, [], [(1, 0)]),
  (27, .goto 4, 3, 31, 0, false, [], []),
  (30, .iconst 0, 1, 0, 0, false, [], [(0, 0)]),
  (31, .ireturn, 1, 0, 0, false, [], [])])
def mt_129 : XM := (⟨"PuppetTurnsModel", "isPlace", "(II)Z"⟩, prog_14_method_9_code, 2, (Option.some Jvm.ClassFile.FieldType.boolean), { frames := 1, cells := 0, slots := 0, locals := 22 }, 12, [
(0, .iload_n 0, 1, 0, 0, false, [], []),
  (1, .bipush (-15), 2, 0, 0, false, [], [((-15), 0)]),
  (3, .bipush 63, 2, 0, 0, false, [], [(63, 0)]),
  (5, .invokestatic 71, 3, 123, 3, false, [981, 91, 983, 982], []),
  (8, .ifCond .eq 18, 3, 26, 0, false, [], []),
  (11, .iload_n 1, 1, 0, 0, false, [], []),
  (12, .bipush (-15), 2, 0, 0, false, [], [((-15), 0)]),
  (14, .bipush 47, 2, 0, 0, false, [], [(47, 0)]),
  (16, .invokestatic 71, 3, 123, 3, false, [981, 91, 983, 982], []),
  (19, .ifCond .eq 7, 3, 26, 0, false, [], []),
  (22, .iconst 1, 1, 0, 0, false, [], [(1, 0)]),
  (23, .goto 4, 3, 27, 0, false, [], []),
  (26, .iconst 0, 1, 0, 0, false, [], [(0, 0)]),
  (27, .ireturn, 1, 0, 0, false, [], [])])
def mt_130 : XM := (⟨"PuppetTurnsModel", "highOf", "(I)I"⟩, prog_14_method_10_code, 2, (Option.some Jvm.ClassFile.FieldType.int), { frames := 1, cells := 0, slots := 0, locals := 22 }, 12, [
(0, .aload_n 0, 1, 0, 0, false, [], []),
  (1, .iload_n 1, 1, 0, 0, false, [], []),
  (2, .iconst 2, 1, 0, 0, false, [], [(2, 0)]),
  (3, .invokevirtual 79, 3, 125, 2, false, [1035, 91, 1038, 1037, 37], []),
  (6, .iconst 1, 1, 0, 0, false, [], [(1, 0)]),
  (7, .if_icmp .ne 8, 3, 15, 0, false, [], []),
  (10, .bipush 16, 2, 0, 0, false, [], [(16, 0)]),
  (12, .goto 5, 3, 17, 0, false, [], []),
  (15, .bipush 8, 2, 0, 0, false, [], [(8, 0)]),
  (17, .ireturn, 1, 0, 0, false, [], [])])
def mt_131 : XM := (⟨"PuppetTurnsModel", "stands", "(II)Z"⟩, prog_14_method_11_code, 3, (Option.some Jvm.ClassFile.FieldType.boolean), { frames := 2, cells := 0, slots := 0, locals := 43 }, 12, [
(0, .iload_n 2, 1, 0, 0, false, [], []),
  (1, .aload_n 0, 1, 0, 0, false, [], []),
  (2, .iload_n 1, 1, 0, 0, false, [], []),
  (3, .iconst 1, 1, 0, 0, false, [], [(1, 0)]),
  (4, .invokevirtual 79, 3, 125, 2, false, [1035, 91, 1038, 1037, 37], []),
  (7, .aload_n 0, 1, 0, 0, false, [], []),
  (8, .iload_n 1, 1, 0, 0, false, [], []),
  (9, .iconst 1, 1, 0, 0, false, [], [(1, 0)]),
  (10, .invokevirtual 79, 3, 125, 2, false, [1035, 91, 1038, 1037, 37], []),
  (13, .aload_n 0, 1, 0, 0, false, [], []),
  (14, .iload_n 1, 1, 0, 0, false, [], []),
  (15, .invokevirtual 83, 3, 130, 1, false, [1039, 91, 1042, 1041, 38], []),
  (18, .iadd, 1, 0, 0, false, [], []),
  (19, .iconst 1, 1, 0, 0, false, [], [(1, 0)]),
  (20, .isub, 1, 0, 0, false, [], []),
  (21, .invokestatic 71, 3, 123, 3, false, [981, 91, 983, 982], []),
  (24, .ireturn, 1, 0, 0, false, [], [])])
def mt_132 : XM := (⟨"PuppetTurnsModel", "linesOf", "(I)I"⟩, prog_14_method_12_code, 4, (Option.some Jvm.ClassFile.FieldType.int), { frames := 3, cells := 0, slots := 0, locals := 65 }, 12, [
(0, .iconst 0, 1, 0, 0, false, [], [(0, 0)]),
  (1, .istore_n 2, 1, 0, 0, false, [], []),
  (2, .iconst 0, 1, 0, 0, false, [], [(0, 0)]),
  (3, .istore_n 3, 1, 0, 0, false, [], []),
  (4, .iload_n 3, 1, 0, 0, false, [], []),
  (5, .bipush 48, 2, 0, 0, false, [], [(48, 0)]),
  (7, .if_icmp .ge 26, 3, 33, 0, false, [], []),
  (10, .iload_n 2, 1, 0, 0, false, [], []),
  (11, .aload_n 0, 1, 0, 0, false, [], []),
  (12, .iload_n 1, 1, 0, 0, false, [], []),
  (13, .iload_n 3, 1, 0, 0, false, [], []),
  (14, .invokevirtual 86, 3, 131, 2, false, [1031, 91, 1034, 1033, 36], []),
  (17, .ifCond .eq 7, 3, 24, 0, false, [], []),
  (20, .iconst 1, 1, 0, 0, false, [], [(1, 0)]),
  (21, .goto 4, 3, 25, 0, false, [], []),
  (24, .iconst 0, 1, 0, 0, false, [], [(0, 0)]),
  (25, .iadd, 1, 0, 0, false, [], []),
  (26, .istore_n 2, 1, 0, 0, false, [], []),
  (27, .iinc 3 1, 3, 0, 0, false, [], [(1, 0)]),
  (30, .goto (-26), 3, 4, 0, false, [], []),
  (33, .iload_n 2, 1, 0, 0, false, [], []),
  (34, .ireturn, 1, 0, 0, false, [], [])])
def mt_133 : XM := (⟨"PuppetTurnsModel", "hidden", "([II)I"⟩, prog_14_method_13_code, 8, (Option.some Jvm.ClassFile.FieldType.int), { frames := 3, cells := 0, slots := 0, locals := 65 }, 12, [
(0, .iconst 0, 1, 0, 0, false, [], [(0, 0)]),
  (1, .istore_n 3, 1, 0, 0, false, [], []),
  (2, .iconst 0, 1, 0, 0, false, [], [(0, 0)]),
  (3, .istore 4, 2, 0, 0, false, [], []),
  (5, .iload 4, 2, 0, 0, false, [], []),
  (7, .bipush 20, 2, 0, 0, false, [], [(20, 0)]),
  (9, .if_icmp .ge 17, 3, 26, 0, false, [], []),
  (12, .aload_n 0, 1, 0, 0, false, [], []),
  (13, .getfield 31, 3, 12, 10, false, [908], []),
  (16, .iload 4, 2, 0, 0, false, [], []),
  (18, .iconst 0, 1, 0, 0, false, [], [(0, 0)]),
  (19, .iastore, 1, 0, 0, false, [], []),
  (20, .iinc 4 1, 3, 0, 0, false, [], [(1, 0)]),
  (23, .goto (-18), 3, 5, 0, false, [], []),
  (26, .iconst 0, 1, 0, 0, false, [], [(0, 0)]),
  (27, .istore 4, 2, 0, 0, false, [], []),
  (29, .iload 4, 2, 0, 0, false, [], []),
  (31, .bipush 48, 2, 0, 0, false, [], [(48, 0)]),
  (33, .if_icmp .ge 102, 3, 135, 0, false, [], []),
  (36, .iconst 0, 1, 0, 0, false, [], [(0, 0)]),
  (37, .istore 5, 2, 0, 0, false, [], []),
  (39, .iconst 0, 1, 0, 0, false, [], [(0, 0)]),
  (40, .istore 6, 2, 0, 0, false, [], []),
  (42, .iload 6, 2, 0, 0, false, [], []),
  (44, .aload_n 0, 1, 0, 0, false, [], []),
  (45, .getfield 7, 3, 12, 1, false, [899], []),
  (48, .iconst 1, 1, 0, 0, false, [], [(1, 0)]),
  (49, .iaload, 1, 0, 0, false, [], []),
  (50, .if_icmp .ge 79, 3, 129, 0, false, [], []),
  (53, .aload_n 1, 1, 0, 0, false, [], []),
  (54, .iload_n 2, 1, 0, 0, false, [], []),
  (55, .iload 6, 2, 0, 0, false, [], []),
  (57, .iadd, 1, 0, 0, false, [], []),
  (58, .iaload, 1, 0, 0, false, [], []),
  (59, .istore 7, 2, 0, 0, false, [], []),
  (61, .aload_n 0, 1, 0, 0, false, [], []),
  (62, .iload 7, 2, 0, 0, false, [], []),
  (64, .iload 4, 2, 0, 0, false, [], []),
  (66, .invokevirtual 86, 3, 131, 2, false, [1031, 91, 1034, 1033, 36], []),
  (69, .ifCond .eq 54, 3, 123, 0, false, [], []),
  (72, .iinc 5 1, 3, 0, 0, false, [], [(1, 0)]),
  (75, .aload_n 0, 1, 0, 0, false, [], []),
  (76, .getfield 31, 3, 12, 10, false, [908], []),
  (79, .iload 7, 2, 0, 0, false, [], []),
  (81, .dup2, 1, 0, 0, false, [], []),
  (82, .iaload, 1, 0, 0, false, [], []),
  (83, .iload 5, 2, 0, 0, false, [], []),
  (85, .aload_n 0, 1, 0, 0, false, [], []),
  (86, .getfield 7, 3, 12, 1, false, [899], []),
  (89, .iconst 2, 1, 0, 0, false, [], [(2, 0)]),
  (90, .iaload, 1, 0, 0, false, [], []),
  (91, .if_icmp .le 7, 3, 98, 0, false, [], []),
  (94, .iconst 1, 1, 0, 0, false, [], [(1, 0)]),
  (95, .goto 4, 3, 99, 0, false, [], []),
  (98, .iconst 0, 1, 0, 0, false, [], [(0, 0)]),
  (99, .iadd, 1, 0, 0, false, [], []),
  (100, .iastore, 1, 0, 0, false, [], []),
  (101, .iload_n 3, 1, 0, 0, false, [], []),
  (102, .iload 5, 2, 0, 0, false, [], []),
  (104, .aload_n 0, 1, 0, 0, false, [], []),
  (105, .getfield 7, 3, 12, 1, false, [899], []),
  (108, .iconst 2, 1, 0, 0, false, [], [(2, 0)]),
  (109, .iaload, 1, 0, 0, false, [], []),
  (110, .if_icmp .le 10, 3, 120, 0, false, [], []),
  (113, .iconst 1, 1, 0, 0, false, [], [(1, 0)]),
  (114, .iload 7, 2, 0, 0, false, [], []),
  (116, .ishl, 1, 0, 0, false, [], []),
  (117, .goto 4, 3, 121, 0, false, [], []),
  (120, .iconst 0, 1, 0, 0, false, [], [(0, 0)]),
  (121, .ior, 1, 0, 0, false, [], []),
  (122, .istore_n 3, 1, 0, 0, false, [], []),
  (123, .iinc 6 1, 3, 0, 0, false, [], [(1, 0)]),
  (126, .goto (-84), 3, 42, 0, false, [], []),
  (129, .iinc 4 1, 3, 0, 0, false, [], [(1, 0)]),
  (132, .goto (-103), 3, 29, 0, false, [], []),
  (135, .iload_n 3, 1, 0, 0, false, [], []),
  (136, .ireturn, 1, 0, 0, false, [], [])])
def mt_134 : XM := (⟨"PuppetTurnsModel", "ones", "(I)I"⟩, prog_14_method_14_code, 3, (Option.some Jvm.ClassFile.FieldType.int), { frames := 0, cells := 0, slots := 0, locals := 0 }, 12, [
(0, .iconst 0, 1, 0, 0, false, [], [(0, 0)]),
  (1, .istore_n 1, 1, 0, 0, false, [], []),
  (2, .iconst 0, 1, 0, 0, false, [], [(0, 0)]),
  (3, .istore_n 2, 1, 0, 0, false, [], []),
  (4, .iload_n 2, 1, 0, 0, false, [], []),
  (5, .bipush 20, 2, 0, 0, false, [], [(20, 0)]),
  (7, .if_icmp .ge 17, 3, 24, 0, false, [], []),
  (10, .iload_n 1, 1, 0, 0, false, [], []),
  (11, .iload_n 0, 1, 0, 0, false, [], []),
  (12, .iload_n 2, 1, 0, 0, false, [], []),
  (13, .ishr, 1, 0, 0, false, [], []),
  (14, .iconst 1, 1, 0, 0, false, [], [(1, 0)]),
  (15, .iand, 1, 0, 0, false, [], []),
  (16, .iadd, 1, 0, 0, false, [], []),
  (17, .istore_n 1, 1, 0, 0, false, [], []),
  (18, .iinc 2 1, 3, 0, 0, false, [], [(1, 0)]),
  (21, .goto (-17), 3, 4, 0, false, [], []),
  (24, .iload_n 1, 1, 0, 0, false, [], []),
  (25, .ireturn, 1, 0, 0, false, [], [])])
def mt_135 : XM := (⟨"PuppetTurnsModel", "standing", "(I)I"⟩, prog_14_method_15_code, 4, (Option.some Jvm.ClassFile.FieldType.int), { frames := 3, cells := 0, slots := 0, locals := 65 }, 12, [
(0, .iconst 0, 1, 0, 0, false, [], [(0, 0)]),
  (1, .istore_n 2, 1, 0, 0, false, [], []),
  (2, .iconst 0, 1, 0, 0, false, [], [(0, 0)]),
  (3, .istore_n 3, 1, 0, 0, false, [], []),
  (4, .iload_n 3, 1, 0, 0, false, [], []),
  (5, .aload_n 0, 1, 0, 0, false, [], []),
  (6, .getfield 7, 3, 12, 1, false, [899], []),
  (9, .iconst 1, 1, 0, 0, false, [], [(1, 0)]),
  (10, .iaload, 1, 0, 0, false, [], []),
  (11, .if_icmp .ge 34, 3, 45, 0, false, [], []),
  (14, .iload_n 2, 1, 0, 0, false, [], []),
  (15, .aload_n 0, 1, 0, 0, false, [], []),
  (16, .aload_n 0, 1, 0, 0, false, [], []),
  (17, .getfield 7, 3, 12, 1, false, [899], []),
  (20, .bipush 6, 2, 0, 0, false, [], [(6, 0)]),
  (22, .iload_n 3, 1, 0, 0, false, [], []),
  (23, .iadd, 1, 0, 0, false, [], []),
  (24, .iaload, 1, 0, 0, false, [], []),
  (25, .iload_n 1, 1, 0, 0, false, [], []),
  (26, .invokevirtual 86, 3, 131, 2, false, [1031, 91, 1034, 1033, 36], []),
  (29, .ifCond .eq 7, 3, 36, 0, false, [], []),
  (32, .iconst 1, 1, 0, 0, false, [], [(1, 0)]),
  (33, .goto 4, 3, 37, 0, false, [], []),
  (36, .iconst 0, 1, 0, 0, false, [], [(0, 0)]),
  (37, .iadd, 1, 0, 0, false, [], []),
  (38, .istore_n 2, 1, 0, 0, false, [], []),
  (39, .iinc 3 1, 3, 0, 0, false, [], [(1, 0)]),
  (42, .goto (-38), 3, 4, 0, false, [], []),
  (45, .iload_n 2, 1, 0, 0, false, [], []),
  (46, .ireturn, 1, 0, 0, false, [], [])])
def mt_136 : XM := (⟨"PuppetTurnsModel", "shownOn", "(II)I"⟩, prog_14_method_16_code, 5, (Option.some Jvm.ClassFile.FieldType.int), { frames := 3, cells := 0, slots := 0, locals := 65 }, 12, [
(0, .iconst 0, 1, 0, 0, false, [], [(0, 0)]),
  (1, .istore_n 3, 1, 0, 0, false, [], []),
  (2, .iconst 0, 1, 0, 0, false, [], [(0, 0)]),
  (3, .istore 4, 2, 0, 0, false, [], []),
  (5, .iload 4, 2, 0, 0, false, [], []),
  (7, .aload_n 0, 1, 0, 0, false, [], []),
  (8, .getfield 7, 3, 12, 1, false, [899], []),
  (11, .iconst 1, 1, 0, 0, false, [], [(1, 0)]),
  (12, .iaload, 1, 0, 0, false, [], []),
  (13, .if_icmp .ge 56, 3, 69, 0, false, [], []),
  (16, .iload_n 3, 1, 0, 0, false, [], []),
  (17, .aload_n 0, 1, 0, 0, false, [], []),
  (18, .getfield 7, 3, 12, 1, false, [899], []),
  (21, .iconst 2, 1, 0, 0, false, [], [(2, 0)]),
  (22, .iaload, 1, 0, 0, false, [], []),
  (23, .if_icmp .ge 46, 3, 69, 0, false, [], []),
  (26, .aload_n 0, 1, 0, 0, false, [], []),
  (27, .aload_n 0, 1, 0, 0, false, [], []),
  (28, .getfield 7, 3, 12, 1, false, [899], []),
  (31, .bipush 6, 2, 0, 0, false, [], [(6, 0)]),
  (33, .iload 4, 2, 0, 0, false, [], []),
  (35, .iadd, 1, 0, 0, false, [], []),
  (36, .iaload, 1, 0, 0, false, [], []),
  (37, .iload_n 1, 1, 0, 0, false, [], []),
  (38, .invokevirtual 86, 3, 131, 2, false, [1031, 91, 1034, 1033, 36], []),
  (41, .ifCond .eq 22, 3, 63, 0, false, [], []),
  (44, .iload_n 3, 1, 0, 0, false, [], []),
  (45, .iload_n 2, 1, 0, 0, false, [], []),
  (46, .if_icmp .ne 14, 3, 60, 0, false, [], []),
  (49, .aload_n 0, 1, 0, 0, false, [], []),
  (50, .getfield 7, 3, 12, 1, false, [899], []),
  (53, .bipush 6, 2, 0, 0, false, [], [(6, 0)]),
  (55, .iload 4, 2, 0, 0, false, [], []),
  (57, .iadd, 1, 0, 0, false, [], []),
  (58, .iaload, 1, 0, 0, false, [], []),
  (59, .ireturn, 1, 0, 0, false, [], []),
  (60, .iinc 3 1, 3, 0, 0, false, [], [(1, 0)]),
  (63, .iinc 4 1, 3, 0, 0, false, [], [(1, 0)]),
  (66, .goto (-61), 3, 5, 0, false, [], []),
  (69, .bipush (-109), 2, 0, 0, false, [], [((-109), 0)]),
  (71, .ireturn, 1, 0, 0, false, [], [])])
def mt_137 : XM := (⟨"PuppetTurnsModel", "isSet", "(III)Z"⟩, prog_14_method_17_code, 11, (Option.some Jvm.ClassFile.FieldType.boolean), { frames := 2, cells := 0, slots := 0, locals := 43 }, 12, [
(0, .iload_n 2, 1, 0, 0, false, [], []),
  (1, .aload_n 0, 1, 0, 0, false, [], []),
  (2, .iload_n 1, 1, 0, 0, false, [], []),
  (3, .iconst 0, 1, 0, 0, false, [], [(0, 0)]),
  (4, .invokevirtual 79, 3, 125, 2, false, [1035, 91, 1038, 1037, 37], []),
  (7, .isub, 1, 0, 0, false, [], []),
  (8, .istore 4, 2, 0, 0, false, [], []),
  (10, .iload_n 3, 1, 0, 0, false, [], []),
  (11, .aload_n 0, 1, 0, 0, false, [], []),
  (12, .iload_n 1, 1, 0, 0, false, [], []),
  (13, .iconst 1, 1, 0, 0, false, [], [(1, 0)]),
  (14, .invokevirtual 79, 3, 125, 2, false, [1035, 91, 1038, 1037, 37], []),
  (17, .isub, 1, 0, 0, false, [], []),
  (18, .istore 5, 2, 0, 0, false, [], []),
  (20, .aload_n 0, 1, 0, 0, false, [], []),
  (21, .iload_n 1, 1, 0, 0, false, [], []),
  (22, .invokevirtual 83, 3, 130, 1, false, [1039, 91, 1042, 1041, 38], []),
  (25, .istore 6, 2, 0, 0, false, [], []),
  (27, .iload 4, 2, 0, 0, false, [], []),
  (29, .iconst 0, 1, 0, 0, false, [], [(0, 0)]),
  (30, .bipush 7, 2, 0, 0, false, [], [(7, 0)]),
  (32, .invokestatic 71, 3, 123, 3, false, [981, 91, 983, 982], []),
  (35, .ifCond .eq 16, 3, 51, 0, false, [], []),
  (38, .iload 5, 2, 0, 0, false, [], []),
  (40, .iconst 0, 1, 0, 0, false, [], [(0, 0)]),
  (41, .iload 6, 2, 0, 0, false, [], []),
  (43, .iconst 1, 1, 0, 0, false, [], [(1, 0)]),
  (44, .isub, 1, 0, 0, false, [], []),
  (45, .invokestatic 71, 3, 123, 3, false, [981, 91, 983, 982], []),
  (48, .ifCond .ne 5, 3, 53, 0, false, [], []),
  (51, .iconst 0, 1, 0, 0, false, [], [(0, 0)]),
  (52, .ireturn, 1, 0, 0, false, [], []),
  (53, .aload_n 0, 1, 0, 0, false, [], []),
  (54, .iload_n 1, 1, 0, 0, false, [], []),
  (55, .iconst 5, 1, 0, 0, false, [], [(5, 0)]),
  (56, .invokevirtual 79, 3, 125, 2, false, [1035, 91, 1038, 1037, 37], []),
  (59, .istore 7, 2, 0, 0, false, [], []),
  (61, .iload 7, 2, 0, 0, false, [], []),
  (63, .iconst 1, 1, 0, 0, false, [], [(1, 0)]),
  (64, .iand, 1, 0, 0, false, [], []),
  (65, .iconst 1, 1, 0, 0, false, [], [(1, 0)]),
  (66, .if_icmp .ne 11, 3, 77, 0, false, [], []),
  (69, .bipush 7, 2, 0, 0, false, [], [(7, 0)]),
  (71, .iload 4, 2, 0, 0, false, [], []),
  (73, .isub, 1, 0, 0, false, [], []),
  (74, .goto 5, 3, 79, 0, false, [], []),
  (77, .iload 4, 2, 0, 0, false, [], []),
  (79, .istore 8, 2, 0, 0, false, [], []),
  (81, .iload 7, 2, 0, 0, false, [], []),
  (83, .iconst 2, 1, 0, 0, false, [], [(2, 0)]),
  (84, .iand, 1, 0, 0, false, [], []),
  (85, .iconst 2, 1, 0, 0, false, [], [(2, 0)]),
  (86, .if_icmp .ne 13, 3, 99, 0, false, [], []),
  (89, .iload 6, 2, 0, 0, false, [], []),
  (91, .iconst 1, 1, 0, 0, false, [], [(1, 0)]),
  (92, .isub, 1, 0, 0, false, [], []),
  (93, .iload 5, 2, 0, 0, false, [], []),
  (95, .isub, 1, 0, 0, false, [], []),
  (96, .goto 5, 3, 101, 0, false, [], []),
  (99, .iload 5, 2, 0, 0, false, [], []),
  (101, .istore 9, 2, 0, 0, false, [], []),
  (103, .aload_n 0, 1, 0, 0, false, [], []),
  (104, .iload_n 1, 1, 0, 0, false, [], []),
  (105, .iconst 3, 1, 0, 0, false, [], [(3, 0)]),
  (106, .invokevirtual 79, 3, 125, 2, false, [1035, 91, 1038, 1037, 37], []),
  (109, .iload 9, 2, 0, 0, false, [], []),
  (111, .bipush 8, 2, 0, 0, false, [], [(8, 0)]),
  (113, .idiv, 1, 0, 0, false, [], []),
  (114, .iadd, 1, 0, 0, false, [], []),
  (115, .bipush 8, 2, 0, 0, false, [], [(8, 0)]),
  (117, .irem, 1, 0, 0, false, [], []),
  (118, .istore 10, 2, 0, 0, false, [], []),
  (120, .aload_n 0, 1, 0, 0, false, [], []),
  (121, .getfield 7, 3, 12, 1, false, [899], []),
  (124, .sipush 206, 3, 0, 0, false, [], [(206, 0)]),
  (127, .bipush 8, 2, 0, 0, false, [], [(8, 0)]),
  (129, .iload 10, 2, 0, 0, false, [], []),
  (131, .imul, 1, 0, 0, false, [], []),
  (132, .iadd, 1, 0, 0, false, [], []),
  (133, .iload 9, 2, 0, 0, false, [], []),
  (135, .bipush 8, 2, 0, 0, false, [], [(8, 0)]),
  (137, .irem, 1, 0, 0, false, [], []),
  (138, .iadd, 1, 0, 0, false, [], []),
  (139, .iaload, 1, 0, 0, false, [], []),
  (140, .iload 8, 2, 0, 0, false, [], []),
  (142, .ishl, 1, 0, 0, false, [], []),
  (143, .sipush 128, 3, 0, 0, false, [], [(128, 0)]),
  (146, .iand, 1, 0, 0, false, [], []),
  (147, .ifCond .eq 7, 3, 154, 0, false, [], []),
  (150, .iconst 1, 1, 0, 0, false, [], [(1, 0)]),
  (151, .goto 4, 3, 155, 0, false, [], []),
  (154, .iconst 0, 1, 0, 0, false, [], [(0, 0)]),
  (155, .ireturn, 1, 0, 0, false, [], [])])
def mt_138 : XM := (⟨"PuppetTurnsModel", "firstAt", "(III)I"⟩, prog_14_method_18_code, 7, (Option.some Jvm.ClassFile.FieldType.int), { frames := 4, cells := 0, slots := 0, locals := 89 }, 12, [
(0, .bipush (-109), 2, 0, 0, false, [], [((-109), 0)]),
  (2, .istore 4, 2, 0, 0, false, [], []),
  (4, .iconst 0, 1, 0, 0, false, [], [(0, 0)]),
  (5, .istore 5, 2, 0, 0, false, [], []),
  (7, .iload 5, 2, 0, 0, false, [], []),
  (9, .aload_n 0, 1, 0, 0, false, [], []),
  (10, .getfield 7, 3, 12, 1, false, [899], []),
  (13, .iconst 2, 1, 0, 0, false, [], [(2, 0)]),
  (14, .iaload, 1, 0, 0, false, [], []),
  (15, .if_icmp .ge 58, 3, 73, 0, false, [], []),
  (18, .iload 4, 2, 0, 0, false, [], []),
  (20, .bipush (-109), 2, 0, 0, false, [], [((-109), 0)]),
  (22, .if_icmp .ne 51, 3, 73, 0, false, [], []),
  (25, .aload_n 0, 1, 0, 0, false, [], []),
  (26, .iload_n 2, 1, 0, 0, false, [], []),
  (27, .iload 5, 2, 0, 0, false, [], []),
  (29, .invokevirtual 90, 3, 136, 2, false, [1212, 91, 1215, 1214, 67], []),
  (32, .istore 6, 2, 0, 0, false, [], []),
  (34, .iload 6, 2, 0, 0, false, [], []),
  (36, .bipush (-109), 2, 0, 0, false, [], [((-109), 0)]),
  (38, .if_icmp .eq 25, 3, 63, 0, false, [], []),
  (41, .iload 6, 2, 0, 0, false, [], []),
  (43, .iload_n 3, 1, 0, 0, false, [], []),
  (44, .if_icmp .eq 19, 3, 63, 0, false, [], []),
  (47, .aload_n 0, 1, 0, 0, false, [], []),
  (48, .iload 6, 2, 0, 0, false, [], []),
  (50, .iload_n 1, 1, 0, 0, false, [], []),
  (51, .iload_n 2, 1, 0, 0, false, [], []),
  (52, .invokevirtual 93, 3, 137, 3, false, [1216, 91, 1219, 1218, 68], []),
  (55, .ifCond .eq 8, 3, 63, 0, false, [], []),
  (58, .iload 6, 2, 0, 0, false, [], []),
  (60, .goto 5, 3, 65, 0, false, [], []),
  (63, .iload 4, 2, 0, 0, false, [], []),
  (65, .istore 4, 2, 0, 0, false, [], []),
  (67, .iinc 5 1, 3, 0, 0, false, [], [(1, 0)]),
  (70, .goto (-63), 3, 7, 0, false, [], []),
  (73, .iload 4, 2, 0, 0, false, [], []),
  (75, .ireturn, 1, 0, 0, false, [], [])])
def mt_139 : XM := (⟨"PuppetTurnsModel", "colorAt", "(II)I"⟩, prog_14_method_19_code, 4, (Option.some Jvm.ClassFile.FieldType.int), { frames := 5, cells := 0, slots := 0, locals := 115 }, 12, [
(0, .aload_n 0, 1, 0, 0, false, [], []),
  (1, .iload_n 1, 1, 0, 0, false, [], []),
  (2, .iload_n 2, 1, 0, 0, false, [], []),
  (3, .bipush (-109), 2, 0, 0, false, [], [((-109), 0)]),
  (5, .invokevirtual 96, 3, 138, 3, false, [1208, 91, 1211, 1210, 66], []),
  (8, .istore_n 3, 1, 0, 0, false, [], []),
  (9, .iload_n 3, 1, 0, 0, false, [], []),
  (10, .bipush (-109), 2, 0, 0, false, [], [((-109), 0)]),
  (12, .if_icmp .ne 7, 3, 19, 0, false, [], []),
  (15, .iconst 0, 1, 0, 0, false, [], [(0, 0)]),
  (16, .goto 9, 3, 25, 0, false, [], []),
  (19, .aload_n 0, 1, 0, 0, false, [], []),
  (20, .iload_n 3, 1, 0, 0, false, [], []),
  (21, .iconst 4, 1, 0, 0, false, [], [(4, 0)]),
  (22, .invokevirtual 79, 3, 125, 2, false, [1035, 91, 1038, 1037, 37], []),
  (25, .ireturn, 1, 0, 0, false, [], [])])
def mt_140 : XM := (⟨"PuppetTurnsModel", "dotsOn", "(I)I"⟩, prog_14_method_20_code, 4, (Option.some Jvm.ClassFile.FieldType.int), { frames := 6, cells := 0, slots := 0, locals := 138 }, 12, [
(0, .iconst 0, 1, 0, 0, false, [], [(0, 0)]),
  (1, .istore_n 2, 1, 0, 0, false, [], []),
  (2, .iconst 0, 1, 0, 0, false, [], [(0, 0)]),
  (3, .istore_n 3, 1, 0, 0, false, [], []),
  (4, .iload_n 3, 1, 0, 0, false, [], []),
  (5, .bipush 64, 2, 0, 0, false, [], [(64, 0)]),
  (7, .if_icmp .ge 26, 3, 33, 0, false, [], []),
  (10, .iload_n 2, 1, 0, 0, false, [], []),
  (11, .aload_n 0, 1, 0, 0, false, [], []),
  (12, .iload_n 3, 1, 0, 0, false, [], []),
  (13, .iload_n 1, 1, 0, 0, false, [], []),
  (14, .invokevirtual 100, 3, 139, 2, false, [1204, 91, 1207, 1206, 65], []),
  (17, .ifCond .le 7, 3, 24, 0, false, [], []),
  (20, .iconst 1, 1, 0, 0, false, [], [(1, 0)]),
  (21, .goto 4, 3, 25, 0, false, [], []),
  (24, .iconst 0, 1, 0, 0, false, [], [(0, 0)]),
  (25, .iadd, 1, 0, 0, false, [], []),
  (26, .istore_n 2, 1, 0, 0, false, [], []),
  (27, .iinc 3 1, 3, 0, 0, false, [], [(1, 0)]),
  (30, .goto (-26), 3, 4, 0, false, [], []),
  (33, .iload_n 2, 1, 0, 0, false, [], []),
  (34, .ireturn, 1, 0, 0, false, [], [])])
def mt_141 : XM := (⟨"PuppetTurnsModel", "hero", "()I"⟩, prog_14_method_21_code, 3, (Option.some Jvm.ClassFile.FieldType.int), { frames := 0, cells := 0, slots := 0, locals := 0 }, 12, [
(0, .bipush (-109), 2, 0, 0, false, [], [((-109), 0)]),
  (2, .istore_n 1, 1, 0, 0, false, [], []),
  (3, .iconst 0, 1, 0, 0, false, [], [(0, 0)]),
  (4, .istore_n 2, 1, 0, 0, false, [], []),
  (5, .iload_n 2, 1, 0, 0, false, [], []),
  (6, .aload_n 0, 1, 0, 0, false, [], []),
  (7, .getfield 7, 3, 12, 1, false, [899], []),
  (10, .iconst 1, 1, 0, 0, false, [], [(1, 0)]),
  (11, .iaload, 1, 0, 0, false, [], []),
  (12, .if_icmp .ge 42, 3, 54, 0, false, [], []),
  (15, .iload_n 1, 1, 0, 0, false, [], []),
  (16, .bipush (-109), 2, 0, 0, false, [], [((-109), 0)]),
  (18, .if_icmp .eq 16, 3, 34, 0, false, [], []),
  (21, .aload_n 0, 1, 0, 0, false, [], []),
  (22, .getfield 7, 3, 12, 1, false, [899], []),
  (25, .bipush 6, 2, 0, 0, false, [], [(6, 0)]),
  (27, .iload_n 2, 1, 0, 0, false, [], []),
  (28, .iadd, 1, 0, 0, false, [], []),
  (29, .iaload, 1, 0, 0, false, [], []),
  (30, .iload_n 1, 1, 0, 0, false, [], []),
  (31, .if_icmp .ge 15, 3, 46, 0, false, [], []),
  (34, .aload_n 0, 1, 0, 0, false, [], []),
  (35, .getfield 7, 3, 12, 1, false, [899], []),
  (38, .bipush 6, 2, 0, 0, false, [], [(6, 0)]),
  (40, .iload_n 2, 1, 0, 0, false, [], []),
  (41, .iadd, 1, 0, 0, false, [], []),
  (42, .iaload, 1, 0, 0, false, [], []),
  (43, .goto 4, 3, 47, 0, false, [], []),
  (46, .iload_n 1, 1, 0, 0, false, [], []),
  (47, .istore_n 1, 1, 0, 0, false, [], []),
  (48, .iinc 2 1, 3, 0, 0, false, [], [(1, 0)]),
  (51, .goto (-46), 3, 5, 0, false, [], []),
  (54, .iload_n 1, 1, 0, 0, false, [], []),
  (55, .ireturn, 1, 0, 0, false, [], [])])
def mt_142 : XM := (⟨"PuppetTurnsModel", "isShown", "(II)Z"⟩, prog_14_method_22_code, 5, (Option.some Jvm.ClassFile.FieldType.boolean), { frames := 4, cells := 0, slots := 0, locals := 89 }, 12, [
(0, .iconst 0, 1, 0, 0, false, [], [(0, 0)]),
  (1, .istore_n 3, 1, 0, 0, false, [], []),
  (2, .iconst 0, 1, 0, 0, false, [], [(0, 0)]),
  (3, .istore 4, 2, 0, 0, false, [], []),
  (5, .iload 4, 2, 0, 0, false, [], []),
  (7, .aload_n 0, 1, 0, 0, false, [], []),
  (8, .getfield 7, 3, 12, 1, false, [899], []),
  (11, .iconst 2, 1, 0, 0, false, [], [(2, 0)]),
  (12, .iaload, 1, 0, 0, false, [], []),
  (13, .if_icmp .ge 36, 3, 49, 0, false, [], []),
  (16, .iload_n 3, 1, 0, 0, false, [], []),
  (17, .ifCond .ne 20, 3, 37, 0, false, [], []),
  (20, .iload_n 1, 1, 0, 0, false, [], []),
  (21, .bipush (-109), 2, 0, 0, false, [], [((-109), 0)]),
  (23, .if_icmp .eq 18, 3, 41, 0, false, [], []),
  (26, .aload_n 0, 1, 0, 0, false, [], []),
  (27, .iload_n 2, 1, 0, 0, false, [], []),
  (28, .iload 4, 2, 0, 0, false, [], []),
  (30, .invokevirtual 90, 3, 136, 2, false, [1212, 91, 1215, 1214, 67], []),
  (33, .iload_n 1, 1, 0, 0, false, [], []),
  (34, .if_icmp .ne 7, 3, 41, 0, false, [], []),
  (37, .iconst 1, 1, 0, 0, false, [], [(1, 0)]),
  (38, .goto 4, 3, 42, 0, false, [], []),
  (41, .iconst 0, 1, 0, 0, false, [], [(0, 0)]),
  (42, .istore_n 3, 1, 0, 0, false, [], []),
  (43, .iinc 4 1, 3, 0, 0, false, [], [(1, 0)]),
  (46, .goto (-41), 3, 5, 0, false, [], []),
  (49, .iload_n 3, 1, 0, 0, false, [], []),
  (50, .ireturn, 1, 0, 0, false, [], [])])
def mt_143 : XM := (⟨"PuppetTurnsModel", "setRow", "(III)I"⟩, prog_14_method_23_code, 5, (Option.some Jvm.ClassFile.FieldType.int), { frames := 1, cells := 0, slots := 0, locals := 22 }, 12, [
(0, .aload_n 0, 1, 0, 0, false, [], []),
  (1, .iconst 0, 1, 0, 0, false, [], [(0, 0)]),
  (2, .putfield 64, 3, 12, 0, false, [898], []),
  (5, .iload_n 1, 1, 0, 0, false, [], []),
  (6, .iconst 0, 1, 0, 0, false, [], [(0, 0)]),
  (7, .bipush 7, 2, 0, 0, false, [], [(7, 0)]),
  (9, .invokestatic 71, 3, 123, 3, false, [981, 91, 983, 982], []),
  (12, .ifCond .eq 24, 3, 36, 0, false, [], []),
  (15, .iload_n 2, 1, 0, 0, false, [], []),
  (16, .iconst 0, 1, 0, 0, false, [], [(0, 0)]),
  (17, .bipush 7, 2, 0, 0, false, [], [(7, 0)]),
  (19, .invokestatic 71, 3, 123, 3, false, [981, 91, 983, 982], []),
  (22, .ifCond .eq 14, 3, 36, 0, false, [], []),
  (25, .iload_n 3, 1, 0, 0, false, [], []),
  (26, .iconst 0, 1, 0, 0, false, [], [(0, 0)]),
  (27, .sipush 255, 3, 0, 0, false, [], [(255, 0)]),
  (30, .invokestatic 71, 3, 123, 3, false, [981, 91, 983, 982], []),
  (33, .ifCond .ne 6, 3, 39, 0, false, [], []),
  (36, .bipush (-101), 2, 0, 0, false, [], [((-101), 0)]),
  (38, .ireturn, 1, 0, 0, false, [], []),
  (39, .aload_n 0, 1, 0, 0, false, [], []),
  (40, .invokevirtual 103, 3, 124, 0, false, [984, 91, 987, 986, 28], []),
  (43, .aload_n 0, 1, 0, 0, false, [], []),
  (44, .getfield 7, 3, 12, 1, false, [899], []),
  (47, .sipush 206, 3, 0, 0, false, [], [(206, 0)]),
  (50, .bipush 8, 2, 0, 0, false, [], [(8, 0)]),
  (52, .iload_n 1, 1, 0, 0, false, [], []),
  (53, .imul, 1, 0, 0, false, [], []),
  (54, .iadd, 1, 0, 0, false, [], []),
  (55, .iload_n 2, 1, 0, 0, false, [], []),
  (56, .iadd, 1, 0, 0, false, [], []),
  (57, .iaload, 1, 0, 0, false, [], []),
  (58, .istore 4, 2, 0, 0, false, [], []),
  (60, .aload_n 0, 1, 0, 0, false, [], []),
  (61, .getfield 7, 3, 12, 1, false, [899], []),
  (64, .sipush 206, 3, 0, 0, false, [], [(206, 0)]),
  (67, .bipush 8, 2, 0, 0, false, [], [(8, 0)]),
  (69, .iload_n 1, 1, 0, 0, false, [], []),
  (70, .imul, 1, 0, 0, false, [], []),
  (71, .iadd, 1, 0, 0, false, [], []),
  (72, .iload_n 2, 1, 0, 0, false, [], []),
  (73, .iadd, 1, 0, 0, false, [], []),
  (74, .iload_n 3, 1, 0, 0, false, [], []),
  (75, .iastore, 1, 0, 0, false, [], []),
  (76, .iload 4, 2, 0, 0, false, [], []),
  (78, .ireturn, 1, 0, 0, false, [], [])])
def mt_144 : XM := (⟨"PuppetTurnsModel", "come", "(IIIII)I"⟩, prog_14_method_24_code, 8, (Option.some Jvm.ClassFile.FieldType.int), { frames := 2, cells := 0, slots := 0, locals := 43 }, 12, [
(0, .aload_n 0, 1, 0, 0, false, [], []),
  (1, .iconst 0, 1, 0, 0, false, [], [(0, 0)]),
  (2, .putfield 64, 3, 12, 0, false, [898], []),
  (5, .iload_n 1, 1, 0, 0, false, [], []),
  (6, .iload_n 2, 1, 0, 0, false, [], []),
  (7, .invokestatic 106, 3, 129, 2, false, [992, 91, 994, 993], []),
  (10, .ifCond .eq 34, 3, 44, 0, false, [], []),
  (13, .iload_n 3, 1, 0, 0, false, [], []),
  (14, .iconst 0, 1, 0, 0, false, [], [(0, 0)]),
  (15, .iconst 1, 1, 0, 0, false, [], [(1, 0)]),
  (16, .invokestatic 71, 3, 123, 3, false, [981, 91, 983, 982], []),
  (19, .ifCond .eq 25, 3, 44, 0, false, [], []),
  (22, .iload 4, 2, 0, 0, false, [], []),
  (24, .iconst 0, 1, 0, 0, false, [], [(0, 0)]),
  (25, .bipush 7, 2, 0, 0, false, [], [(7, 0)]),
  (27, .invokestatic 71, 3, 123, 3, false, [981, 91, 983, 982], []),
  (30, .ifCond .eq 14, 3, 44, 0, false, [], []),
  (33, .iload 5, 2, 0, 0, false, [], []),
  (35, .iconst 1, 1, 0, 0, false, [], [(1, 0)]),
  (36, .bipush 9, 2, 0, 0, false, [], [(9, 0)]),
  (38, .invokestatic 71, 3, 123, 3, false, [981, 91, 983, 982], []),
  (41, .ifCond .ne 6, 3, 47, 0, false, [], []),
  (44, .bipush (-101), 2, 0, 0, false, [], [((-101), 0)]),
  (46, .ireturn, 1, 0, 0, false, [], []),
  (47, .aload_n 0, 1, 0, 0, false, [], []),
  (48, .getfield 7, 3, 12, 1, false, [899], []),
  (51, .iconst 0, 1, 0, 0, false, [], [(0, 0)]),
  (52, .iaload, 1, 0, 0, false, [], []),
  (53, .bipush 20, 2, 0, 0, false, [], [(20, 0)]),
  (55, .if_icmp .ne 6, 3, 61, 0, false, [], []),
  (58, .bipush (-103), 2, 0, 0, false, [], [((-103), 0)]),
  (60, .ireturn, 1, 0, 0, false, [], []),
  (61, .aload_n 0, 1, 0, 0, false, [], []),
  (62, .invokevirtual 103, 3, 124, 0, false, [984, 91, 987, 986, 28], []),
  (65, .aload_n 0, 1, 0, 0, false, [], []),
  (66, .getfield 7, 3, 12, 1, false, [899], []),
  (69, .iconst 0, 1, 0, 0, false, [], [(0, 0)]),
  (70, .iaload, 1, 0, 0, false, [], []),
  (71, .istore 6, 2, 0, 0, false, [], []),
  (73, .aload_n 0, 1, 0, 0, false, [], []),
  (74, .getfield 7, 3, 12, 1, false, [899], []),
  (77, .iconst 0, 1, 0, 0, false, [], [(0, 0)]),
  (78, .dup2, 1, 0, 0, false, [], []),
  (79, .iaload, 1, 0, 0, false, [], []),
  (80, .iconst 1, 1, 0, 0, false, [], [(1, 0)]),
  (81, .iadd, 1, 0, 0, false, [], []),
  (82, .iastore, 1, 0, 0, false, [], []),
  (83, .aload_n 0, 1, 0, 0, false, [], []),
  (84, .getfield 7, 3, 12, 1, false, [899], []),
  (87, .bipush 6, 2, 0, 0, false, [], [(6, 0)]),
  (89, .aload_n 0, 1, 0, 0, false, [], []),
  (90, .getfield 7, 3, 12, 1, false, [899], []),
  (93, .iconst 1, 1, 0, 0, false, [], [(1, 0)]),
  (94, .iaload, 1, 0, 0, false, [], []),
  (95, .iadd, 1, 0, 0, false, [], []),
  (96, .iload 6, 2, 0, 0, false, [], []),
  (98, .iastore, 1, 0, 0, false, [], []),
  (99, .aload_n 0, 1, 0, 0, false, [], []),
  (100, .getfield 7, 3, 12, 1, false, [899], []),
  (103, .iconst 1, 1, 0, 0, false, [], [(1, 0)]),
  (104, .dup2, 1, 0, 0, false, [], []),
  (105, .iaload, 1, 0, 0, false, [], []),
  (106, .iconst 1, 1, 0, 0, false, [], [(1, 0)]),
  (107, .iadd, 1, 0, 0, false, [], []),
  (108, .iastore, 1, 0, 0, false, [], []),
  (109, .iconst 0, 1, 0, 0, false, [], [(0, 0)]),
  (110, .istore 7, 2, 0, 0, false, [], []),
  (112, .iload 7, 2, 0, 0, false, [], []),
  (114, .bipush 9, 2, 0, 0, false, [], [(9, 0)]),
  (116, .if_icmp .ge 18, 3, 134, 0, false, [], []),
  (119, .aload_n 0, 1, 0, 0, false, [], []),
  (120, .iload 6, 2, 0, 0, false, [], []),
  (122, .iload 7, 2, 0, 0, false, [], []),
  (124, .iconst 0, 1, 0, 0, false, [], [(0, 0)]),
  (125, .invokevirtual 109, 3, 126, 3, false, [995, 91, 998, 997, 29], []),
  (128, .iinc 7 1, 3, 0, 0, false, [], [(1, 0)]),
  (131, .goto (-19), 3, 112, 0, false, [], []),
  (134, .aload_n 0, 1, 0, 0, false, [], []),
  (135, .iload 6, 2, 0, 0, false, [], []),
  (137, .iconst 0, 1, 0, 0, false, [], [(0, 0)]),
  (138, .iload_n 1, 1, 0, 0, false, [], []),
  (139, .invokevirtual 109, 3, 126, 3, false, [995, 91, 998, 997, 29], []),
  (142, .aload_n 0, 1, 0, 0, false, [], []),
  (143, .iload 6, 2, 0, 0, false, [], []),
  (145, .iconst 1, 1, 0, 0, false, [], [(1, 0)]),
  (146, .iload_n 2, 1, 0, 0, false, [], []),
  (147, .invokevirtual 109, 3, 126, 3, false, [995, 91, 998, 997, 29], []),
  (150, .aload_n 0, 1, 0, 0, false, [], []),
  (151, .iload 6, 2, 0, 0, false, [], []),
  (153, .iconst 2, 1, 0, 0, false, [], [(2, 0)]),
  (154, .iload_n 3, 1, 0, 0, false, [], []),
  (155, .invokevirtual 109, 3, 126, 3, false, [995, 91, 998, 997, 29], []),
  (158, .aload_n 0, 1, 0, 0, false, [], []),
  (159, .iload 6, 2, 0, 0, false, [], []),
  (161, .iconst 3, 1, 0, 0, false, [], [(3, 0)]),
  (162, .iload 4, 2, 0, 0, false, [], []),
  (164, .invokevirtual 109, 3, 126, 3, false, [995, 91, 998, 997, 29], []),
  (167, .aload_n 0, 1, 0, 0, false, [], []),
  (168, .iload 6, 2, 0, 0, false, [], []),
  (170, .iconst 4, 1, 0, 0, false, [], [(4, 0)]),
  (171, .iload 5, 2, 0, 0, false, [], []),
  (173, .invokevirtual 109, 3, 126, 3, false, [995, 91, 998, 997, 29], []),
  (176, .iload 6, 2, 0, 0, false, [], []),
  (178, .ireturn, 1, 0, 0, false, [], [])])
def mt_145 : XM := (⟨"PuppetTurnsModel", "takeOut", "(I)V"⟩, prog_14_method_25_code, 3, (Option.none : Option Jvm.ClassFile.FieldType), { frames := 0, cells := 0, slots := 0, locals := 0 }, 12, [
(0, .aload_n 0, 1, 0, 0, false, [], []),
  (1, .getfield 7, 3, 12, 1, false, [899], []),
  (4, .iconst 1, 1, 0, 0, false, [], [(1, 0)]),
  (5, .dup2, 1, 0, 0, false, [], []),
  (6, .iaload, 1, 0, 0, false, [], []),
  (7, .iconst 1, 1, 0, 0, false, [], [(1, 0)]),
  (8, .isub, 1, 0, 0, false, [], []),
  (9, .iastore, 1, 0, 0, false, [], []),
  (10, .iload_n 1, 1, 0, 0, false, [], []),
  (11, .istore_n 2, 1, 0, 0, false, [], []),
  (12, .iload_n 2, 1, 0, 0, false, [], []),
  (13, .aload_n 0, 1, 0, 0, false, [], []),
  (14, .getfield 7, 3, 12, 1, false, [899], []),
  (17, .iconst 1, 1, 0, 0, false, [], [(1, 0)]),
  (18, .iaload, 1, 0, 0, false, [], []),
  (19, .if_icmp .ge 29, 3, 48, 0, false, [], []),
  (22, .aload_n 0, 1, 0, 0, false, [], []),
  (23, .getfield 7, 3, 12, 1, false, [899], []),
  (26, .bipush 6, 2, 0, 0, false, [], [(6, 0)]),
  (28, .iload_n 2, 1, 0, 0, false, [], []),
  (29, .iadd, 1, 0, 0, false, [], []),
  (30, .aload_n 0, 1, 0, 0, false, [], []),
  (31, .getfield 7, 3, 12, 1, false, [899], []),
  (34, .bipush 6, 2, 0, 0, false, [], [(6, 0)]),
  (36, .iload_n 2, 1, 0, 0, false, [], []),
  (37, .iadd, 1, 0, 0, false, [], []),
  (38, .iconst 1, 1, 0, 0, false, [], [(1, 0)]),
  (39, .iadd, 1, 0, 0, false, [], []),
  (40, .iaload, 1, 0, 0, false, [], []),
  (41, .iastore, 1, 0, 0, false, [], []),
  (42, .iinc 2 1, 3, 0, 0, false, [], [(1, 0)]),
  (45, .goto (-33), 3, 12, 0, false, [], []),
  (48, .return_, 1, 0, 0, false, [], [])])
def mt_146 : XM := (⟨"PuppetTurnsModel", "leave", "(I)I"⟩, prog_14_method_26_code, 3, (Option.some Jvm.ClassFile.FieldType.int), { frames := 2, cells := 0, slots := 0, locals := 44 }, 12, [
(0, .aload_n 0, 1, 0, 0, false, [], []),
  (1, .iconst 0, 1, 0, 0, false, [], [(0, 0)]),
  (2, .putfield 64, 3, 12, 0, false, [898], []),
  (5, .aload_n 0, 1, 0, 0, false, [], []),
  (6, .iload_n 1, 1, 0, 0, false, [], []),
  (7, .invokevirtual 113, 3, 128, 1, false, [1003, 91, 1006, 1005, 30], []),
  (10, .ifCond .ne 6, 3, 16, 0, false, [], []),
  (13, .bipush (-101), 2, 0, 0, false, [], [((-101), 0)]),
  (15, .ireturn, 1, 0, 0, false, [], []),
  (16, .aload_n 0, 1, 0, 0, false, [], []),
  (17, .invokevirtual 103, 3, 124, 0, false, [984, 91, 987, 986, 28], []),
  (20, .aload_n 0, 1, 0, 0, false, [], []),
  (21, .iload_n 1, 1, 0, 0, false, [], []),
  (22, .invokevirtual 75, 3, 127, 1, false, [1007, 91, 1010, 1009, 31], []),
  (25, .istore_n 2, 1, 0, 0, false, [], []),
  (26, .aload_n 0, 1, 0, 0, false, [], []),
  (27, .iload_n 2, 1, 0, 0, false, [], []),
  (28, .invokevirtual 117, 3, 145, 1, false, [1011, 91, 1014, 1013, 32], []),
  (31, .iload_n 2, 1, 0, 0, false, [], []),
  (32, .ireturn, 1, 0, 0, false, [], [])])
def mt_147 : XM := (⟨"PuppetTurnsModel", "thereCode", "(I)I"⟩, prog_14_method_27_code, 2, (Option.some Jvm.ClassFile.FieldType.int), { frames := 2, cells := 0, slots := 0, locals := 44 }, 12, [
(0, .aload_n 0, 1, 0, 0, false, [], []),
  (1, .iload_n 1, 1, 0, 0, false, [], []),
  (2, .invokevirtual 113, 3, 128, 1, false, [1003, 91, 1006, 1005, 30], []),
  (5, .ifCond .eq 7, 3, 12, 0, false, [], []),
  (8, .iconst 0, 1, 0, 0, false, [], [(0, 0)]),
  (9, .goto 5, 3, 14, 0, false, [], []),
  (12, .bipush (-101), 2, 0, 0, false, [], [((-101), 0)]),
  (14, .ireturn, 1, 0, 0, false, [], [])])
def mt_148 : XM := (⟨"PuppetTurnsModel", "moveCode", "(III)I"⟩, prog_14_method_28_code, 4, (Option.some Jvm.ClassFile.FieldType.int), { frames := 2, cells := 0, slots := 0, locals := 44 }, 12, [
(0, .aload_n 0, 1, 0, 0, false, [], []),
  (1, .iload_n 1, 1, 0, 0, false, [], []),
  (2, .invokevirtual 113, 3, 128, 1, false, [1003, 91, 1006, 1005, 30], []),
  (5, .ifCond .eq 15, 3, 20, 0, false, [], []),
  (8, .iload_n 2, 1, 0, 0, false, [], []),
  (9, .iload_n 3, 1, 0, 0, false, [], []),
  (10, .invokestatic 106, 3, 129, 2, false, [992, 91, 994, 993], []),
  (13, .ifCond .eq 7, 3, 20, 0, false, [], []),
  (16, .iconst 0, 1, 0, 0, false, [], [(0, 0)]),
  (17, .goto 5, 3, 22, 0, false, [], []),
  (20, .bipush (-101), 2, 0, 0, false, [], [((-101), 0)]),
  (22, .ireturn, 1, 0, 0, false, [], [])])
def mt_149 : XM := (⟨"PuppetTurnsModel", "moveNow", "(III)I"⟩, prog_14_method_29_code, 4, (Option.some Jvm.ClassFile.FieldType.int), { frames := 4, cells := 0, slots := 0, locals := 88 }, 12, [
(0, .aload_n 0, 1, 0, 0, false, [], []),
  (1, .iload_n 1, 1, 0, 0, false, [], []),
  (2, .iconst 0, 1, 0, 0, false, [], [(0, 0)]),
  (3, .iload_n 2, 1, 0, 0, false, [], []),
  (4, .invokevirtual 109, 3, 126, 3, false, [995, 91, 998, 997, 29], []),
  (7, .aload_n 0, 1, 0, 0, false, [], []),
  (8, .iload_n 1, 1, 0, 0, false, [], []),
  (9, .iconst 1, 1, 0, 0, false, [], [(1, 0)]),
  (10, .iload_n 3, 1, 0, 0, false, [], []),
  (11, .invokevirtual 109, 3, 126, 3, false, [995, 91, 998, 997, 29], []),
  (14, .aload_n 0, 1, 0, 0, false, [], []),
  (15, .iload_n 1, 1, 0, 0, false, [], []),
  (16, .invokevirtual 121, 3, 132, 1, false, [1027, 91, 1030, 1029, 35], []),
  (19, .ireturn, 1, 0, 0, false, [], [])])
def mt_150 : XM := (⟨"PuppetTurnsModel", "move", "(III)I"⟩, prog_14_method_30_code, 5, (Option.some Jvm.ClassFile.FieldType.int), { frames := 5, cells := 0, slots := 0, locals := 111 }, 12, [
(0, .aload_n 0, 1, 0, 0, false, [], []),
  (1, .iconst 0, 1, 0, 0, false, [], [(0, 0)]),
  (2, .putfield 64, 3, 12, 0, false, [898], []),
  (5, .aload_n 0, 1, 0, 0, false, [], []),
  (6, .iload_n 1, 1, 0, 0, false, [], []),
  (7, .iload_n 2, 1, 0, 0, false, [], []),
  (8, .iload_n 3, 1, 0, 0, false, [], []),
  (9, .invokevirtual 124, 3, 148, 3, false, [1019, 91, 1022, 1021, 33], []),
  (12, .istore 4, 2, 0, 0, false, [], []),
  (14, .iload 4, 2, 0, 0, false, [], []),
  (16, .ifCond .ge 6, 3, 22, 0, false, [], []),
  (19, .iload 4, 2, 0, 0, false, [], []),
  (21, .ireturn, 1, 0, 0, false, [], []),
  (22, .aload_n 0, 1, 0, 0, false, [], []),
  (23, .invokevirtual 103, 3, 124, 0, false, [984, 91, 987, 986, 28], []),
  (26, .aload_n 0, 1, 0, 0, false, [], []),
  (27, .iload_n 1, 1, 0, 0, false, [], []),
  (28, .iload_n 2, 1, 0, 0, false, [], []),
  (29, .iload_n 3, 1, 0, 0, false, [], []),
  (30, .invokevirtual 127, 3, 149, 3, false, [1023, 91, 1026, 1025, 34], []),
  (33, .ireturn, 1, 0, 0, false, [], [])])
def mt_151 : XM := (⟨"PuppetTurnsModel", "turnCode", "(II)I"⟩, prog_14_method_31_code, 3, (Option.some Jvm.ClassFile.FieldType.int), { frames := 2, cells := 0, slots := 0, locals := 44 }, 12, [
(0, .aload_n 0, 1, 0, 0, false, [], []),
  (1, .iload_n 1, 1, 0, 0, false, [], []),
  (2, .invokevirtual 113, 3, 128, 1, false, [1003, 91, 1006, 1005, 30], []),
  (5, .ifCond .eq 16, 3, 21, 0, false, [], []),
  (8, .iload_n 2, 1, 0, 0, false, [], []),
  (9, .iconst 0, 1, 0, 0, false, [], [(0, 0)]),
  (10, .iconst 3, 1, 0, 0, false, [], [(3, 0)]),
  (11, .invokestatic 71, 3, 123, 3, false, [981, 91, 983, 982], []),
  (14, .ifCond .eq 7, 3, 21, 0, false, [], []),
  (17, .iconst 0, 1, 0, 0, false, [], [(0, 0)]),
  (18, .goto 5, 3, 23, 0, false, [], []),
  (21, .bipush (-101), 2, 0, 0, false, [], [((-101), 0)]),
  (23, .ireturn, 1, 0, 0, false, [], [])])
def mt_152 : XM := (⟨"PuppetTurnsModel", "turnNow", "(II)I"⟩, prog_14_method_32_code, 4, (Option.some Jvm.ClassFile.FieldType.int), { frames := 1, cells := 0, slots := 0, locals := 23 }, 12, [
(0, .aload_n 0, 1, 0, 0, false, [], []),
  (1, .iload_n 1, 1, 0, 0, false, [], []),
  (2, .iconst 5, 1, 0, 0, false, [], [(5, 0)]),
  (3, .invokevirtual 79, 3, 125, 2, false, [1035, 91, 1038, 1037, 37], []),
  (6, .istore_n 3, 1, 0, 0, false, [], []),
  (7, .aload_n 0, 1, 0, 0, false, [], []),
  (8, .iload_n 1, 1, 0, 0, false, [], []),
  (9, .iconst 5, 1, 0, 0, false, [], [(5, 0)]),
  (10, .iload_n 2, 1, 0, 0, false, [], []),
  (11, .invokevirtual 109, 3, 126, 3, false, [995, 91, 998, 997, 29], []),
  (14, .iload_n 3, 1, 0, 0, false, [], []),
  (15, .ireturn, 1, 0, 0, false, [], [])])
def mt_153 : XM := (⟨"PuppetTurnsModel", "turn", "(II)I"⟩, prog_14_method_33_code, 4, (Option.some Jvm.ClassFile.FieldType.int), { frames := 3, cells := 0, slots := 0, locals := 66 }, 12, [
(0, .aload_n 0, 1, 0, 0, false, [], []),
  (1, .iconst 0, 1, 0, 0, false, [], [(0, 0)]),
  (2, .putfield 64, 3, 12, 0, false, [898], []),
  (5, .aload_n 0, 1, 0, 0, false, [], []),
  (6, .iload_n 1, 1, 0, 0, false, [], []),
  (7, .iload_n 2, 1, 0, 0, false, [], []),
  (8, .invokevirtual 130, 3, 151, 2, false, [1047, 91, 1050, 1049, 39], []),
  (11, .istore_n 3, 1, 0, 0, false, [], []),
  (12, .iload_n 3, 1, 0, 0, false, [], []),
  (13, .ifCond .ge 5, 3, 18, 0, false, [], []),
  (16, .iload_n 3, 1, 0, 0, false, [], []),
  (17, .ireturn, 1, 0, 0, false, [], []),
  (18, .aload_n 0, 1, 0, 0, false, [], []),
  (19, .invokevirtual 103, 3, 124, 0, false, [984, 91, 987, 986, 28], []),
  (22, .aload_n 0, 1, 0, 0, false, [], []),
  (23, .iload_n 1, 1, 0, 0, false, [], []),
  (24, .iload_n 2, 1, 0, 0, false, [], []),
  (25, .invokevirtual 133, 3, 152, 2, false, [1051, 91, 1054, 1053, 40], []),
  (28, .ireturn, 1, 0, 0, false, [], [])])
def mt_154 : XM := (⟨"PuppetTurnsModel", "liftNow", "(I)I"⟩, prog_14_method_34_code, 4, (Option.some Jvm.ClassFile.FieldType.int), { frames := 1, cells := 0, slots := 0, locals := 23 }, 12, [
(0, .aload_n 0, 1, 0, 0, false, [], []),
  (1, .iload_n 1, 1, 0, 0, false, [], []),
  (2, .invokevirtual 75, 3, 127, 1, false, [1007, 91, 1010, 1009, 31], []),
  (5, .istore_n 2, 1, 0, 0, false, [], []),
  (6, .iload_n 2, 1, 0, 0, false, [], []),
  (7, .istore_n 3, 1, 0, 0, false, [], []),
  (8, .iload_n 3, 1, 0, 0, false, [], []),
  (9, .ifCond .le 29, 3, 38, 0, false, [], []),
  (12, .aload_n 0, 1, 0, 0, false, [], []),
  (13, .getfield 7, 3, 12, 1, false, [899], []),
  (16, .bipush 6, 2, 0, 0, false, [], [(6, 0)]),
  (18, .iload_n 3, 1, 0, 0, false, [], []),
  (19, .iadd, 1, 0, 0, false, [], []),
  (20, .aload_n 0, 1, 0, 0, false, [], []),
  (21, .getfield 7, 3, 12, 1, false, [899], []),
  (24, .bipush 6, 2, 0, 0, false, [], [(6, 0)]),
  (26, .iload_n 3, 1, 0, 0, false, [], []),
  (27, .iadd, 1, 0, 0, false, [], []),
  (28, .iconst 1, 1, 0, 0, false, [], [(1, 0)]),
  (29, .isub, 1, 0, 0, false, [], []),
  (30, .iaload, 1, 0, 0, false, [], []),
  (31, .iastore, 1, 0, 0, false, [], []),
  (32, .iinc 3 (-1), 3, 0, 0, false, [], [((-1), 0)]),
  (35, .goto (-27), 3, 8, 0, false, [], []),
  (38, .aload_n 0, 1, 0, 0, false, [], []),
  (39, .getfield 7, 3, 12, 1, false, [899], []),
  (42, .bipush 6, 2, 0, 0, false, [], [(6, 0)]),
  (44, .iload_n 1, 1, 0, 0, false, [], []),
  (45, .iastore, 1, 0, 0, false, [], []),
  (46, .iload_n 2, 1, 0, 0, false, [], []),
  (47, .ireturn, 1, 0, 0, false, [], [])])
def mt_155 : XM := (⟨"PuppetTurnsModel", "lift", "(I)I"⟩, prog_14_method_35_code, 3, (Option.some Jvm.ClassFile.FieldType.int), { frames := 3, cells := 0, slots := 0, locals := 65 }, 12, [
(0, .aload_n 0, 1, 0, 0, false, [], []),
  (1, .iconst 0, 1, 0, 0, false, [], [(0, 0)]),
  (2, .putfield 64, 3, 12, 0, false, [898], []),
  (5, .aload_n 0, 1, 0, 0, false, [], []),
  (6, .iload_n 1, 1, 0, 0, false, [], []),
  (7, .invokevirtual 136, 3, 147, 1, false, [1059, 91, 1062, 1061, 41], []),
  (10, .istore_n 2, 1, 0, 0, false, [], []),
  (11, .iload_n 2, 1, 0, 0, false, [], []),
  (12, .ifCond .ge 5, 3, 17, 0, false, [], []),
  (15, .iload_n 2, 1, 0, 0, false, [], []),
  (16, .ireturn, 1, 0, 0, false, [], []),
  (17, .aload_n 0, 1, 0, 0, false, [], []),
  (18, .invokevirtual 103, 3, 124, 0, false, [984, 91, 987, 986, 28], []),
  (21, .aload_n 0, 1, 0, 0, false, [], []),
  (22, .iload_n 1, 1, 0, 0, false, [], []),
  (23, .invokevirtual 139, 3, 154, 1, false, [1063, 91, 1066, 1065, 42], []),
  (26, .ireturn, 1, 0, 0, false, [], [])])
def mt_156 : XM := (⟨"PuppetTurnsModel", "lowerNow", "(I)I"⟩, prog_14_method_36_code, 3, (Option.some Jvm.ClassFile.FieldType.int), { frames := 1, cells := 0, slots := 0, locals := 23 }, 12, [
(0, .aload_n 0, 1, 0, 0, false, [], []),
  (1, .iload_n 1, 1, 0, 0, false, [], []),
  (2, .invokevirtual 75, 3, 127, 1, false, [1007, 91, 1010, 1009, 31], []),
  (5, .istore_n 2, 1, 0, 0, false, [], []),
  (6, .aload_n 0, 1, 0, 0, false, [], []),
  (7, .iload_n 2, 1, 0, 0, false, [], []),
  (8, .invokevirtual 117, 3, 145, 1, false, [1011, 91, 1014, 1013, 32], []),
  (11, .aload_n 0, 1, 0, 0, false, [], []),
  (12, .getfield 7, 3, 12, 1, false, [899], []),
  (15, .bipush 6, 2, 0, 0, false, [], [(6, 0)]),
  (17, .aload_n 0, 1, 0, 0, false, [], []),
  (18, .getfield 7, 3, 12, 1, false, [899], []),
  (21, .iconst 1, 1, 0, 0, false, [], [(1, 0)]),
  (22, .iaload, 1, 0, 0, false, [], []),
  (23, .iadd, 1, 0, 0, false, [], []),
  (24, .iload_n 1, 1, 0, 0, false, [], []),
  (25, .iastore, 1, 0, 0, false, [], []),
  (26, .aload_n 0, 1, 0, 0, false, [], []),
  (27, .getfield 7, 3, 12, 1, false, [899], []),
  (30, .iconst 1, 1, 0, 0, false, [], [(1, 0)]),
  (31, .dup2, 1, 0, 0, false, [], []),
  (32, .iaload, 1, 0, 0, false, [], []),
  (33, .iconst 1, 1, 0, 0, false, [], [(1, 0)]),
  (34, .iadd, 1, 0, 0, false, [], []),
  (35, .iastore, 1, 0, 0, false, [], []),
  (36, .iload_n 2, 1, 0, 0, false, [], []),
  (37, .ireturn, 1, 0, 0, false, [], [])])
def mt_157 : XM := (⟨"PuppetTurnsModel", "lower", "(I)I"⟩, prog_14_method_37_code, 3, (Option.some Jvm.ClassFile.FieldType.int), { frames := 3, cells := 0, slots := 0, locals := 65 }, 12, [
(0, .aload_n 0, 1, 0, 0, false, [], []),
  (1, .iconst 0, 1, 0, 0, false, [], [(0, 0)]),
  (2, .putfield 64, 3, 12, 0, false, [898], []),
  (5, .aload_n 0, 1, 0, 0, false, [], []),
  (6, .iload_n 1, 1, 0, 0, false, [], []),
  (7, .invokevirtual 136, 3, 147, 1, false, [1059, 91, 1062, 1061, 41], []),
  (10, .istore_n 2, 1, 0, 0, false, [], []),
  (11, .iload_n 2, 1, 0, 0, false, [], []),
  (12, .ifCond .ge 5, 3, 17, 0, false, [], []),
  (15, .iload_n 2, 1, 0, 0, false, [], []),
  (16, .ireturn, 1, 0, 0, false, [], []),
  (17, .aload_n 0, 1, 0, 0, false, [], []),
  (18, .invokevirtual 103, 3, 124, 0, false, [984, 91, 987, 986, 28], []),
  (21, .aload_n 0, 1, 0, 0, false, [], []),
  (22, .iload_n 1, 1, 0, 0, false, [], []),
  (23, .invokevirtual 142, 3, 156, 1, false, [1071, 91, 1074, 1073, 43], []),
  (26, .ireturn, 1, 0, 0, false, [], [])])
def mt_158 : XM := (⟨"PuppetTurnsModel", "limitCode", "(I)I"⟩, prog_14_method_38_code, 1, (Option.some Jvm.ClassFile.FieldType.int), { frames := 1, cells := 0, slots := 0, locals := 22 }, 12, [
(0, .iload_n 0, 1, 0, 0, false, [], []),
  (1, .iconst 1, 1, 0, 0, false, [], [(1, 0)]),
  (2, .bipush 8, 2, 0, 0, false, [], [(8, 0)]),
  (4, .invokestatic 71, 3, 123, 3, false, [981, 91, 983, 982], []),
  (7, .ifCond .eq 7, 3, 14, 0, false, [], []),
  (10, .iconst 0, 1, 0, 0, false, [], [(0, 0)]),
  (11, .goto 5, 3, 16, 0, false, [], []),
  (14, .bipush (-101), 2, 0, 0, false, [], [((-101), 0)]),
  (16, .ireturn, 1, 0, 0, false, [], [])])
def mt_159 : XM := (⟨"PuppetTurnsModel", "limitNow", "(I)I"⟩, prog_14_method_39_code, 3, (Option.some Jvm.ClassFile.FieldType.int), { frames := 0, cells := 0, slots := 0, locals := 0 }, 12, [
(0, .aload_n 0, 1, 0, 0, false, [], []),
  (1, .getfield 7, 3, 12, 1, false, [899], []),
  (4, .iconst 2, 1, 0, 0, false, [], [(2, 0)]),
  (5, .iaload, 1, 0, 0, false, [], []),
  (6, .istore_n 2, 1, 0, 0, false, [], []),
  (7, .aload_n 0, 1, 0, 0, false, [], []),
  (8, .getfield 7, 3, 12, 1, false, [899], []),
  (11, .iconst 2, 1, 0, 0, false, [], [(2, 0)]),
  (12, .iload_n 1, 1, 0, 0, false, [], []),
  (13, .iastore, 1, 0, 0, false, [], []),
  (14, .iload_n 2, 1, 0, 0, false, [], []),
  (15, .ireturn, 1, 0, 0, false, [], [])])
def mt_160 : XM := (⟨"PuppetTurnsModel", "setLimit", "(I)I"⟩, prog_14_method_40_code, 3, (Option.some Jvm.ClassFile.FieldType.int), { frames := 2, cells := 0, slots := 0, locals := 42 }, 12, [
(0, .aload_n 0, 1, 0, 0, false, [], []),
  (1, .iconst 0, 1, 0, 0, false, [], [(0, 0)]),
  (2, .putfield 64, 3, 12, 0, false, [898], []),
  (5, .iload_n 1, 1, 0, 0, false, [], []),
  (6, .invokestatic 145, 3, 158, 1, false, [1079, 91, 1081, 1080], []),
  (9, .istore_n 2, 1, 0, 0, false, [], []),
  (10, .iload_n 2, 1, 0, 0, false, [], []),
  (11, .ifCond .ge 5, 3, 16, 0, false, [], []),
  (14, .iload_n 2, 1, 0, 0, false, [], []),
  (15, .ireturn, 1, 0, 0, false, [], []),
  (16, .aload_n 0, 1, 0, 0, false, [], []),
  (17, .invokevirtual 103, 3, 124, 0, false, [984, 91, 987, 986, 28], []),
  (20, .aload_n 0, 1, 0, 0, false, [], []),
  (21, .iload_n 1, 1, 0, 0, false, [], []),
  (22, .invokevirtual 148, 3, 159, 1, false, [1082, 91, 1085, 1084, 44], []),
  (25, .ireturn, 1, 0, 0, false, [], [])])
def mt_161 : XM := (⟨"PuppetTurnsModel", "setRule", "(II)I"⟩, prog_14_method_41_code, 4, (Option.some Jvm.ClassFile.FieldType.int), { frames := 1, cells := 0, slots := 0, locals := 22 }, 12, [
(0, .aload_n 0, 1, 0, 0, false, [], []),
  (1, .iconst 0, 1, 0, 0, false, [], [(0, 0)]),
  (2, .putfield 64, 3, 12, 0, false, [898], []),
  (5, .iload_n 1, 1, 0, 0, false, [], []),
  (6, .iconst 0, 1, 0, 0, false, [], [(0, 0)]),
  (7, .iconst 2, 1, 0, 0, false, [], [(2, 0)]),
  (8, .invokestatic 71, 3, 123, 3, false, [981, 91, 983, 982], []),
  (11, .ifCond .eq 13, 3, 24, 0, false, [], []),
  (14, .iload_n 2, 1, 0, 0, false, [], []),
  (15, .iconst 1, 1, 0, 0, false, [], [(1, 0)]),
  (16, .bipush 19, 2, 0, 0, false, [], [(19, 0)]),
  (18, .invokestatic 71, 3, 123, 3, false, [981, 91, 983, 982], []),
  (21, .ifCond .ne 6, 3, 27, 0, false, [], []),
  (24, .bipush (-101), 2, 0, 0, false, [], [((-101), 0)]),
  (26, .ireturn, 1, 0, 0, false, [], []),
  (27, .aload_n 0, 1, 0, 0, false, [], []),
  (28, .invokevirtual 103, 3, 124, 0, false, [984, 91, 987, 986, 28], []),
  (31, .aload_n 0, 1, 0, 0, false, [], []),
  (32, .getfield 7, 3, 12, 1, false, [899], []),
  (35, .iconst 3, 1, 0, 0, false, [], [(3, 0)]),
  (36, .iaload, 1, 0, 0, false, [], []),
  (37, .istore_n 3, 1, 0, 0, false, [], []),
  (38, .aload_n 0, 1, 0, 0, false, [], []),
  (39, .getfield 7, 3, 12, 1, false, [899], []),
  (42, .iconst 3, 1, 0, 0, false, [], [(3, 0)]),
  (43, .iload_n 1, 1, 0, 0, false, [], []),
  (44, .iastore, 1, 0, 0, false, [], []),
  (45, .aload_n 0, 1, 0, 0, false, [], []),
  (46, .getfield 7, 3, 12, 1, false, [899], []),
  (49, .iconst 4, 1, 0, 0, false, [], [(4, 0)]),
  (50, .iload_n 2, 1, 0, 0, false, [], []),
  (51, .iastore, 1, 0, 0, false, [], []),
  (52, .iload_n 3, 1, 0, 0, false, [], []),
  (53, .ireturn, 1, 0, 0, false, [], [])])
def mt_162 : XM := (⟨"PuppetTurnsModel", "takeTurn", "([IIIII)V"⟩, prog_14_method_42_code, 10, (Option.none : Option Jvm.ClassFile.FieldType), { frames := 0, cells := 0, slots := 0, locals := 0 }, 12, [
(0, .aload_n 0, 1, 0, 0, false, [], []),
  (1, .getfield 7, 3, 12, 1, false, [899], []),
  (4, .iconst 1, 1, 0, 0, false, [], [(1, 0)]),
  (5, .iaload, 1, 0, 0, false, [], []),
  (6, .istore 6, 2, 0, 0, false, [], []),
  (8, .iconst 0, 1, 0, 0, false, [], [(0, 0)]),
  (9, .istore 7, 2, 0, 0, false, [], []),
  (11, .iconst 0, 1, 0, 0, false, [], [(0, 0)]),
  (12, .istore 8, 2, 0, 0, false, [], []),
  (14, .iload 8, 2, 0, 0, false, [], []),
  (16, .iconst 2, 1, 0, 0, false, [], [(2, 0)]),
  (17, .if_icmp .ge 64, 3, 81, 0, false, [], []),
  (20, .iload_n 3, 1, 0, 0, false, [], []),
  (21, .iconst 2, 1, 0, 0, false, [], [(2, 0)]),
  (22, .if_icmp .ne 59, 3, 81, 0, false, [], []),
  (25, .iconst 0, 1, 0, 0, false, [], [(0, 0)]),
  (26, .istore 9, 2, 0, 0, false, [], []),
  (28, .iload 9, 2, 0, 0, false, [], []),
  (30, .iload 6, 2, 0, 0, false, [], []),
  (32, .if_icmp .ge 43, 3, 75, 0, false, [], []),
  (35, .iload 5, 2, 0, 0, false, [], []),
  (37, .aload_n 1, 1, 0, 0, false, [], []),
  (38, .iload_n 2, 1, 0, 0, false, [], []),
  (39, .iload 9, 2, 0, 0, false, [], []),
  (41, .iadd, 1, 0, 0, false, [], []),
  (42, .iaload, 1, 0, 0, false, [], []),
  (43, .ishr, 1, 0, 0, false, [], []),
  (44, .iconst 1, 1, 0, 0, false, [], [(1, 0)]),
  (45, .iand, 1, 0, 0, false, [], []),
  (46, .iconst 1, 1, 0, 0, false, [], [(1, 0)]),
  (47, .iload 8, 2, 0, 0, false, [], []),
  (49, .isub, 1, 0, 0, false, [], []),
  (50, .if_icmp .ne 19, 3, 69, 0, false, [], []),
  (53, .aload_n 0, 1, 0, 0, false, [], []),
  (54, .getfield 25, 3, 12, 8, false, [906], []),
  (57, .iload 7, 2, 0, 0, false, [], []),
  (59, .aload_n 1, 1, 0, 0, false, [], []),
  (60, .iload_n 2, 1, 0, 0, false, [], []),
  (61, .iload 9, 2, 0, 0, false, [], []),
  (63, .iadd, 1, 0, 0, false, [], []),
  (64, .iaload, 1, 0, 0, false, [], []),
  (65, .iastore, 1, 0, 0, false, [], []),
  (66, .iinc 7 1, 3, 0, 0, false, [], [(1, 0)]),
  (69, .iinc 9 1, 3, 0, 0, false, [], [(1, 0)]),
  (72, .goto (-44), 3, 28, 0, false, [], []),
  (75, .iinc 8 1, 3, 0, 0, false, [], [(1, 0)]),
  (78, .goto (-64), 3, 14, 0, false, [], []),
  (81, .iconst 0, 1, 0, 0, false, [], [(0, 0)]),
  (82, .istore 8, 2, 0, 0, false, [], []),
  (84, .iload 8, 2, 0, 0, false, [], []),
  (86, .iload 6, 2, 0, 0, false, [], []),
  (88, .if_icmp .ge 43, 3, 131, 0, false, [], []),
  (91, .iload_n 3, 1, 0, 0, false, [], []),
  (92, .iconst 2, 1, 0, 0, false, [], [(2, 0)]),
  (93, .if_icmp .ge 38, 3, 131, 0, false, [], []),
  (96, .aload_n 0, 1, 0, 0, false, [], []),
  (97, .getfield 25, 3, 12, 8, false, [906], []),
  (100, .iload 8, 2, 0, 0, false, [], []),
  (102, .aload_n 1, 1, 0, 0, false, [], []),
  (103, .iload_n 2, 1, 0, 0, false, [], []),
  (104, .iload_n 3, 1, 0, 0, false, [], []),
  (105, .iconst 1, 1, 0, 0, false, [], [(1, 0)]),
  (106, .if_icmp .ne 14, 3, 120, 0, false, [], []),
  (109, .iload 8, 2, 0, 0, false, [], []),
  (111, .iload 4, 2, 0, 0, false, [], []),
  (113, .iadd, 1, 0, 0, false, [], []),
  (114, .iload 6, 2, 0, 0, false, [], []),
  (116, .irem, 1, 0, 0, false, [], []),
  (117, .goto 5, 3, 122, 0, false, [], []),
  (120, .iload 8, 2, 0, 0, false, [], []),
  (122, .iadd, 1, 0, 0, false, [], []),
  (123, .iaload, 1, 0, 0, false, [], []),
  (124, .iastore, 1, 0, 0, false, [], []),
  (125, .iinc 8 1, 3, 0, 0, false, [], [(1, 0)]),
  (128, .goto (-44), 3, 84, 0, false, [], []),
  (131, .iconst 0, 1, 0, 0, false, [], [(0, 0)]),
  (132, .istore 8, 2, 0, 0, false, [], []),
  (134, .iload 8, 2, 0, 0, false, [], []),
  (136, .iload 6, 2, 0, 0, false, [], []),
  (138, .if_icmp .ge 22, 3, 160, 0, false, [], []),
  (141, .aload_n 1, 1, 0, 0, false, [], []),
  (142, .iload_n 2, 1, 0, 0, false, [], []),
  (143, .iload 8, 2, 0, 0, false, [], []),
  (145, .iadd, 1, 0, 0, false, [], []),
  (146, .aload_n 0, 1, 0, 0, false, [], []),
  (147, .getfield 25, 3, 12, 8, false, [906], []),
  (150, .iload 8, 2, 0, 0, false, [], []),
  (152, .iaload, 1, 0, 0, false, [], []),
  (153, .iastore, 1, 0, 0, false, [], []),
  (154, .iinc 8 1, 3, 0, 0, false, [], [(1, 0)]),
  (157, .goto (-23), 3, 134, 0, false, [], []),
  (160, .return_, 1, 0, 0, false, [], [])])
def mt_163 : XM := (⟨"PuppetTurnsModel", "frameCode", "()I"⟩, prog_14_method_43_code, 1, (Option.some Jvm.ClassFile.FieldType.int), { frames := 0, cells := 0, slots := 0, locals := 0 }, 12, [
(0, .aload_n 0, 1, 0, 0, false, [], []),
  (1, .getfield 7, 3, 12, 1, false, [899], []),
  (4, .iconst 5, 1, 0, 0, false, [], [(5, 0)]),
  (5, .iaload, 1, 0, 0, false, [], []),
  (6, .sipush 9999, 3, 0, 0, false, [], [(9999, 0)]),
  (9, .if_icmp .ne 8, 3, 17, 0, false, [], []),
  (12, .bipush (-103), 2, 0, 0, false, [], [((-103), 0)]),
  (14, .goto 4, 3, 18, 0, false, [], []),
  (17, .iconst 0, 1, 0, 0, false, [], [(0, 0)]),
  (18, .ireturn, 1, 0, 0, false, [], [])])
def mt_164 : XM := (⟨"PuppetTurnsModel", "frameNow", "()I"⟩, prog_14_method_44_code, 5, (Option.some Jvm.ClassFile.FieldType.int), { frames := 4, cells := 0, slots := 0, locals := 92 }, 12, [
(0, .aload_n 0, 1, 0, 0, false, [], []),
  (1, .aload_n 0, 1, 0, 0, false, [], []),
  (2, .getfield 7, 3, 12, 1, false, [899], []),
  (5, .bipush 6, 2, 0, 0, false, [], [(6, 0)]),
  (7, .invokevirtual 151, 3, 133, 2, false, [1102, 91, 1105, 1104, 47], []),
  (10, .istore_n 1, 1, 0, 0, false, [], []),
  (11, .iconst 0, 1, 0, 0, false, [], [(0, 0)]),
  (12, .istore_n 2, 1, 0, 0, false, [], []),
  (13, .iload_n 2, 1, 0, 0, false, [], []),
  (14, .aload_n 0, 1, 0, 0, false, [], []),
  (15, .getfield 7, 3, 12, 1, false, [899], []),
  (18, .iconst 1, 1, 0, 0, false, [], [(1, 0)]),
  (19, .iaload, 1, 0, 0, false, [], []),
  (20, .if_icmp .ge 126, 3, 146, 0, false, [], []),
  (23, .aload_n 0, 1, 0, 0, false, [], []),
  (24, .getfield 7, 3, 12, 1, false, [899], []),
  (27, .bipush 6, 2, 0, 0, false, [], [(6, 0)]),
  (29, .iload_n 2, 1, 0, 0, false, [], []),
  (30, .iadd, 1, 0, 0, false, [], []),
  (31, .iaload, 1, 0, 0, false, [], []),
  (32, .istore_n 3, 1, 0, 0, false, [], []),
  (33, .iload_n 1, 1, 0, 0, false, [], []),
  (34, .iload_n 3, 1, 0, 0, false, [], []),
  (35, .ishr, 1, 0, 0, false, [], []),
  (36, .iconst 1, 1, 0, 0, false, [], [(1, 0)]),
  (37, .iand, 1, 0, 0, false, [], []),
  (38, .iconst 1, 1, 0, 0, false, [], [(1, 0)]),
  (39, .if_icmp .ne 7, 3, 46, 0, false, [], []),
  (42, .iconst 1, 1, 0, 0, false, [], [(1, 0)]),
  (43, .goto 4, 3, 47, 0, false, [], []),
  (46, .iconst 0, 1, 0, 0, false, [], [(0, 0)]),
  (47, .istore 4, 2, 0, 0, false, [], []),
  (49, .aload_n 0, 1, 0, 0, false, [], []),
  (50, .iload_n 3, 1, 0, 0, false, [], []),
  (51, .bipush 6, 2, 0, 0, false, [], [(6, 0)]),
  (53, .aload_n 0, 1, 0, 0, false, [], []),
  (54, .iload_n 3, 1, 0, 0, false, [], []),
  (55, .bipush 6, 2, 0, 0, false, [], [(6, 0)]),
  (57, .invokevirtual 79, 3, 125, 2, false, [1035, 91, 1038, 1037, 37], []),
  (60, .iload 4, 2, 0, 0, false, [], []),
  (62, .ifCond .eq 7, 3, 69, 0, false, [], []),
  (65, .iconst 1, 1, 0, 0, false, [], [(1, 0)]),
  (66, .goto 4, 3, 70, 0, false, [], []),
  (69, .iconst 0, 1, 0, 0, false, [], [(0, 0)]),
  (70, .iadd, 1, 0, 0, false, [], []),
  (71, .invokevirtual 109, 3, 126, 3, false, [995, 91, 998, 997, 29], []),
  (74, .aload_n 0, 1, 0, 0, false, [], []),
  (75, .iload_n 3, 1, 0, 0, false, [], []),
  (76, .bipush 7, 2, 0, 0, false, [], [(7, 0)]),
  (78, .iload 4, 2, 0, 0, false, [], []),
  (80, .ifCond .eq 15, 3, 95, 0, false, [], []),
  (83, .aload_n 0, 1, 0, 0, false, [], []),
  (84, .iload_n 3, 1, 0, 0, false, [], []),
  (85, .bipush 7, 2, 0, 0, false, [], [(7, 0)]),
  (87, .invokevirtual 79, 3, 125, 2, false, [1035, 91, 1038, 1037, 37], []),
  (90, .iconst 1, 1, 0, 0, false, [], [(1, 0)]),
  (91, .iadd, 1, 0, 0, false, [], []),
  (92, .goto 4, 3, 96, 0, false, [], []),
  (95, .iconst 0, 1, 0, 0, false, [], [(0, 0)]),
  (96, .invokevirtual 109, 3, 126, 3, false, [995, 91, 998, 997, 29], []),
  (99, .aload_n 0, 1, 0, 0, false, [], []),
  (100, .iload_n 3, 1, 0, 0, false, [], []),
  (101, .bipush 8, 2, 0, 0, false, [], [(8, 0)]),
  (103, .aload_n 0, 1, 0, 0, false, [], []),
  (104, .iload_n 3, 1, 0, 0, false, [], []),
  (105, .bipush 7, 2, 0, 0, false, [], [(7, 0)]),
  (107, .invokevirtual 79, 3, 125, 2, false, [1035, 91, 1038, 1037, 37], []),
  (110, .aload_n 0, 1, 0, 0, false, [], []),
  (111, .iload_n 3, 1, 0, 0, false, [], []),
  (112, .bipush 8, 2, 0, 0, false, [], [(8, 0)]),
  (114, .invokevirtual 79, 3, 125, 2, false, [1035, 91, 1038, 1037, 37], []),
  (117, .if_icmp .le 13, 3, 130, 0, false, [], []),
  (120, .aload_n 0, 1, 0, 0, false, [], []),
  (121, .iload_n 3, 1, 0, 0, false, [], []),
  (122, .bipush 7, 2, 0, 0, false, [], [(7, 0)]),
  (124, .invokevirtual 79, 3, 125, 2, false, [1035, 91, 1038, 1037, 37], []),
  (127, .goto 10, 3, 137, 0, false, [], []),
  (130, .aload_n 0, 1, 0, 0, false, [], []),
  (131, .iload_n 3, 1, 0, 0, false, [], []),
  (132, .bipush 8, 2, 0, 0, false, [], [(8, 0)]),
  (134, .invokevirtual 79, 3, 125, 2, false, [1035, 91, 1038, 1037, 37], []),
  (137, .invokevirtual 109, 3, 126, 3, false, [995, 91, 998, 997, 29], []),
  (140, .iinc 2 1, 3, 0, 0, false, [], [(1, 0)]),
  (143, .goto (-130), 3, 13, 0, false, [], []),
  (146, .aload_n 0, 1, 0, 0, false, [], []),
  (147, .aload_n 0, 1, 0, 0, false, [], []),
  (148, .getfield 7, 3, 12, 1, false, [899], []),
  (151, .bipush 6, 2, 0, 0, false, [], [(6, 0)]),
  (153, .aload_n 0, 1, 0, 0, false, [], []),
  (154, .getfield 7, 3, 12, 1, false, [899], []),
  (157, .iconst 3, 1, 0, 0, false, [], [(3, 0)]),
  (158, .iaload, 1, 0, 0, false, [], []),
  (159, .aload_n 0, 1, 0, 0, false, [], []),
  (160, .getfield 7, 3, 12, 1, false, [899], []),
  (163, .iconst 4, 1, 0, 0, false, [], [(4, 0)]),
  (164, .iaload, 1, 0, 0, false, [], []),
  (165, .iload_n 1, 1, 0, 0, false, [], []),
  (166, .invokevirtual 155, 3, 162, 5, false, [1106, 91, 1109, 1108, 48], []),
  (169, .aload_n 0, 1, 0, 0, false, [], []),
  (170, .getfield 7, 3, 12, 1, false, [899], []),
  (173, .iconst 5, 1, 0, 0, false, [], [(5, 0)]),
  (174, .dup2, 1, 0, 0, false, [], []),
  (175, .iaload, 1, 0, 0, false, [], []),
  (176, .iconst 1, 1, 0, 0, false, [], [(1, 0)]),
  (177, .iadd, 1, 0, 0, false, [], []),
  (178, .iastore, 1, 0, 0, false, [], []),
  (179, .iload_n 1, 1, 0, 0, false, [], []),
  (180, .invokestatic 159, 3, 134, 1, false, [1110, 91, 1112, 1111], []),
  (183, .ireturn, 1, 0, 0, false, [], [])])
def mt_165 : XM := (⟨"PuppetTurnsModel", "frame", "()I"⟩, prog_14_method_45_code, 2, (Option.some Jvm.ClassFile.FieldType.int), { frames := 5, cells := 0, slots := 0, locals := 116 }, 12, [
(0, .aload_n 0, 1, 0, 0, false, [], []),
  (1, .iconst 0, 1, 0, 0, false, [], [(0, 0)]),
  (2, .putfield 64, 3, 12, 0, false, [898], []),
  (5, .aload_n 0, 1, 0, 0, false, [], []),
  (6, .invokevirtual 162, 3, 163, 0, false, [1094, 91, 1097, 1096, 45], []),
  (9, .istore_n 1, 1, 0, 0, false, [], []),
  (10, .iload_n 1, 1, 0, 0, false, [], []),
  (11, .ifCond .ge 5, 3, 16, 0, false, [], []),
  (14, .iload_n 1, 1, 0, 0, false, [], []),
  (15, .ireturn, 1, 0, 0, false, [], []),
  (16, .aload_n 0, 1, 0, 0, false, [], []),
  (17, .invokevirtual 103, 3, 124, 0, false, [984, 91, 987, 986, 28], []),
  (20, .aload_n 0, 1, 0, 0, false, [], []),
  (21, .invokevirtual 166, 3, 164, 0, false, [1098, 91, 1101, 1100, 46], []),
  (24, .ireturn, 1, 0, 0, false, [], [])])
def mt_166 : XM := (⟨"PuppetTurnsModel", "undo", "()I"⟩, prog_14_method_46_code, 2, (Option.some Jvm.ClassFile.FieldType.int), { frames := 0, cells := 0, slots := 0, locals := 0 }, 12, [
(0, .aload_n 0, 1, 0, 0, false, [], []),
  (1, .iconst 0, 1, 0, 0, false, [], [(0, 0)]),
  (2, .putfield 64, 3, 12, 0, false, [898], []),
  (5, .aload_n 0, 1, 0, 0, false, [], []),
  (6, .getfield 68, 3, 12, 4, false, [902], []),
  (9, .ifCond .ne 6, 3, 15, 0, false, [], []),
  (12, .bipush (-102), 2, 0, 0, false, [], [((-102), 0)]),
  (14, .ireturn, 1, 0, 0, false, [], []),
  (15, .aload_n 0, 1, 0, 0, false, [], []),
  (16, .dup, 1, 0, 0, false, [], []),
  (17, .getfield 68, 3, 12, 4, false, [902], []),
  (20, .iconst 1, 1, 0, 0, false, [], [(1, 0)]),
  (21, .isub, 1, 0, 0, false, [], []),
  (22, .putfield 68, 3, 12, 4, false, [902], []),
  (25, .iconst 0, 1, 0, 0, false, [], [(0, 0)]),
  (26, .istore_n 1, 1, 0, 0, false, [], []),
  (27, .iload_n 1, 1, 0, 0, false, [], []),
  (28, .sipush 270, 3, 0, 0, false, [], [(270, 0)]),
  (31, .if_icmp .ge 30, 3, 61, 0, false, [], []),
  (34, .aload_n 0, 1, 0, 0, false, [], []),
  (35, .getfield 7, 3, 12, 1, false, [899], []),
  (38, .iload_n 1, 1, 0, 0, false, [], []),
  (39, .aload_n 0, 1, 0, 0, false, [], []),
  (40, .getfield 16, 3, 12, 3, false, [901], []),
  (43, .sipush 270, 3, 0, 0, false, [], [(270, 0)]),
  (46, .aload_n 0, 1, 0, 0, false, [], []),
  (47, .getfield 68, 3, 12, 4, false, [902], []),
  (50, .imul, 1, 0, 0, false, [], []),
  (51, .iload_n 1, 1, 0, 0, false, [], []),
  (52, .iadd, 1, 0, 0, false, [], []),
  (53, .iaload, 1, 0, 0, false, [], []),
  (54, .iastore, 1, 0, 0, false, [], []),
  (55, .iinc 1 1, 3, 0, 0, false, [], [(1, 0)]),
  (58, .goto (-31), 3, 27, 0, false, [], []),
  (61, .aload_n 0, 1, 0, 0, false, [], []),
  (62, .getfield 68, 3, 12, 4, false, [902], []),
  (65, .ireturn, 1, 0, 0, false, [], [])])
def mt_167 : XM := (⟨"PuppetTurnsModel", "append", "(I)I"⟩, prog_14_method_47_code, 2, (Option.some Jvm.ClassFile.FieldType.int), { frames := 1, cells := 0, slots := 0, locals := 22 }, 12, [
(0, .aload_n 0, 1, 0, 0, false, [], []),
  (1, .iconst 0, 1, 0, 0, false, [], [(0, 0)]),
  (2, .putfield 64, 3, 12, 0, false, [898], []),
  (5, .iload_n 1, 1, 0, 0, false, [], []),
  (6, .iconst 1, 1, 0, 0, false, [], [(1, 0)]),
  (7, .sipush 255, 3, 0, 0, false, [], [(255, 0)]),
  (10, .invokestatic 71, 3, 123, 3, false, [981, 91, 983, 982], []),
  (13, .ifCond .ne 6, 3, 19, 0, false, [], []),
  (16, .bipush (-101), 2, 0, 0, false, [], [((-101), 0)]),
  (18, .ireturn, 1, 0, 0, false, [], []),
  (19, .aload_n 0, 1, 0, 0, false, [], []),
  (20, .getfield 169, 3, 12, 6, false, [904], []),
  (23, .bipush 100, 2, 0, 0, false, [], [(100, 0)]),
  (25, .if_icmp .ne 6, 3, 31, 0, false, [], []),
  (28, .bipush (-103), 2, 0, 0, false, [], [((-103), 0)]),
  (30, .ireturn, 1, 0, 0, false, [], []),
  (31, .aload_n 0, 1, 0, 0, false, [], []),
  (32, .getfield 19, 3, 12, 5, false, [903], []),
  (35, .aload_n 0, 1, 0, 0, false, [], []),
  (36, .getfield 169, 3, 12, 6, false, [904], []),
  (39, .iload_n 1, 1, 0, 0, false, [], []),
  (40, .iastore, 1, 0, 0, false, [], []),
  (41, .aload_n 0, 1, 0, 0, false, [], []),
  (42, .dup, 1, 0, 0, false, [], []),
  (43, .getfield 169, 3, 12, 6, false, [904], []),
  (46, .iconst 1, 1, 0, 0, false, [], [(1, 0)]),
  (47, .iadd, 1, 0, 0, false, [], []),
  (48, .putfield 169, 3, 12, 6, false, [904], []),
  (51, .aload_n 0, 1, 0, 0, false, [], []),
  (52, .getfield 169, 3, 12, 6, false, [904], []),
  (55, .ireturn, 1, 0, 0, false, [], [])])
def mt_168 : XM := (⟨"PuppetTurnsModel", "clearText", "()I"⟩, prog_14_method_48_code, 2, (Option.some Jvm.ClassFile.FieldType.int), { frames := 0, cells := 0, slots := 0, locals := 0 }, 12, [
(0, .aload_n 0, 1, 0, 0, false, [], []),
  (1, .iconst 0, 1, 0, 0, false, [], [(0, 0)]),
  (2, .putfield 64, 3, 12, 0, false, [898], []),
  (5, .aload_n 0, 1, 0, 0, false, [], []),
  (6, .getfield 169, 3, 12, 6, false, [904], []),
  (9, .istore_n 1, 1, 0, 0, false, [], []),
  (10, .aload_n 0, 1, 0, 0, false, [], []),
  (11, .iconst 0, 1, 0, 0, false, [], [(0, 0)]),
  (12, .putfield 169, 3, 12, 6, false, [904], []),
  (15, .iload_n 1, 1, 0, 0, false, [], []),
  (16, .ireturn, 1, 0, 0, false, [], [])])
def mt_169 : XM := (⟨"PuppetTurnsModel", "at", "(I)I"⟩, prog_14_method_49_code, 2, (Option.some Jvm.ClassFile.FieldType.int), { frames := 0, cells := 0, slots := 0, locals := 0 }, 12, [
(0, .iload_n 1, 1, 0, 0, false, [], []),
  (1, .aload_n 0, 1, 0, 0, false, [], []),
  (2, .getfield 169, 3, 12, 6, false, [904], []),
  (5, .if_icmp .ge 12, 3, 17, 0, false, [], []),
  (8, .aload_n 0, 1, 0, 0, false, [], []),
  (9, .getfield 19, 3, 12, 5, false, [903], []),
  (12, .iload_n 1, 1, 0, 0, false, [], []),
  (13, .iaload, 1, 0, 0, false, [], []),
  (14, .goto 4, 3, 18, 0, false, [], []),
  (17, .iconst (-1), 1, 0, 0, false, [], [((-1), 0)]),
  (18, .ireturn, 1, 0, 0, false, [], [])])
def mt_170 : XM := (⟨"PuppetTurnsModel", "isDigit", "()Z"⟩, prog_14_method_50_code, 1, (Option.some Jvm.ClassFile.FieldType.boolean), { frames := 1, cells := 0, slots := 0, locals := 22 }, 12, [
(0, .aload_n 0, 1, 0, 0, false, [], []),
  (1, .aload_n 0, 1, 0, 0, false, [], []),
  (2, .getfield 172, 3, 12, 23, false, [921], []),
  (5, .invokevirtual 175, 3, 169, 1, false, [1137, 91, 1140, 1139, 51], []),
  (8, .bipush 48, 2, 0, 0, false, [], [(48, 0)]),
  (10, .bipush 57, 2, 0, 0, false, [], [(57, 0)]),
  (12, .invokestatic 71, 3, 123, 3, false, [981, 91, 983, 982], []),
  (15, .ireturn, 1, 0, 0, false, [], [])])
def mt_171 : XM := (⟨"PuppetTurnsModel", "fail", "(IIIII)V"⟩, prog_14_method_51_code, 6, (Option.none : Option Jvm.ClassFile.FieldType), { frames := 0, cells := 0, slots := 0, locals := 0 }, 12, [
(0, .aload_n 0, 1, 0, 0, false, [], []),
  (1, .iconst 0, 1, 0, 0, false, [], [(0, 0)]),
  (2, .putfield 178, 3, 12, 25, false, [923], []),
  (5, .aload_n 0, 1, 0, 0, false, [], []),
  (6, .iconst 1, 1, 0, 0, false, [], [(1, 0)]),
  (7, .putfield 182, 3, 12, 21, false, [919], []),
  (10, .aload_n 0, 1, 0, 0, false, [], []),
  (11, .getfield 61, 3, 12, 22, false, [920], []),
  (14, .iconst 0, 1, 0, 0, false, [], [(0, 0)]),
  (15, .iload_n 1, 1, 0, 0, false, [], []),
  (16, .iastore, 1, 0, 0, false, [], []),
  (17, .aload_n 0, 1, 0, 0, false, [], []),
  (18, .getfield 61, 3, 12, 22, false, [920], []),
  (21, .iconst 1, 1, 0, 0, false, [], [(1, 0)]),
  (22, .iload_n 2, 1, 0, 0, false, [], []),
  (23, .iastore, 1, 0, 0, false, [], []),
  (24, .aload_n 0, 1, 0, 0, false, [], []),
  (25, .getfield 61, 3, 12, 22, false, [920], []),
  (28, .iconst 2, 1, 0, 0, false, [], [(2, 0)]),
  (29, .iload_n 3, 1, 0, 0, false, [], []),
  (30, .iastore, 1, 0, 0, false, [], []),
  (31, .aload_n 0, 1, 0, 0, false, [], []),
  (32, .getfield 61, 3, 12, 22, false, [920], []),
  (35, .iconst 3, 1, 0, 0, false, [], [(3, 0)]),
  (36, .iload 4, 2, 0, 0, false, [], []),
  (38, .iastore, 1, 0, 0, false, [], []),
  (39, .aload_n 0, 1, 0, 0, false, [], []),
  (40, .getfield 61, 3, 12, 22, false, [920], []),
  (43, .iconst 4, 1, 0, 0, false, [], [(4, 0)]),
  (44, .iload 5, 2, 0, 0, false, [], []),
  (46, .iastore, 1, 0, 0, false, [], []),
  (47, .return_, 1, 0, 0, false, [], [])])
def mt_172 : XM := (⟨"PuppetTurnsModel", "wrong", "(I)V"⟩, prog_14_method_52_code, 2, (Option.none : Option Jvm.ClassFile.FieldType), { frames := 1, cells := 0, slots := 0, locals := 25 }, 12, [
(0, .aload_n 0, 1, 0, 0, false, [], []),
  (1, .getfield 178, 3, 12, 25, false, [923], []),
  (4, .ifCond .eq 18, 3, 22, 0, false, [], []),
  (7, .aload_n 0, 1, 0, 0, false, [], []),
  (8, .iconst 1, 1, 0, 0, false, [], [(1, 0)]),
  (9, .iload_n 1, 1, 0, 0, false, [], []),
  (10, .aload_n 0, 1, 0, 0, false, [], []),
  (11, .getfield 185, 3, 12, 24, false, [922], []),
  (14, .iconst 1, 1, 0, 0, false, [], [(1, 0)]),
  (15, .iadd, 1, 0, 0, false, [], []),
  (16, .iconst 0, 1, 0, 0, false, [], [(0, 0)]),
  (17, .bipush (-109), 2, 0, 0, false, [], [((-109), 0)]),
  (19, .invokevirtual 188, 3, 171, 5, false, [1161, 91, 1164, 1163, 57], []),
  (22, .return_, 1, 0, 0, false, [], [])])
def mt_173 : XM := (⟨"PuppetTurnsModel", "number", "()I"⟩, prog_14_method_53_code, 3, (Option.some Jvm.ClassFile.FieldType.int), { frames := 2, cells := 0, slots := 0, locals := 46 }, 12, [
(0, .aload_n 0, 1, 0, 0, false, [], []),
  (1, .invokevirtual 192, 3, 170, 0, false, [1149, 91, 1152, 1151, 54], []),
  (4, .ifCond .ne 13, 3, 17, 0, false, [], []),
  (7, .aload_n 0, 1, 0, 0, false, [], []),
  (8, .aload_n 0, 1, 0, 0, false, [], []),
  (9, .getfield 172, 3, 12, 23, false, [921], []),
  (12, .invokevirtual 196, 3, 172, 1, false, [1157, 91, 1160, 1159, 56], []),
  (15, .iconst 0, 1, 0, 0, false, [], [(0, 0)]),
  (16, .ireturn, 1, 0, 0, false, [], []),
  (17, .aload_n 0, 1, 0, 0, false, [], []),
  (18, .getfield 172, 3, 12, 23, false, [921], []),
  (21, .istore_n 1, 1, 0, 0, false, [], []),
  (22, .aload_n 0, 1, 0, 0, false, [], []),
  (23, .aload_n 0, 1, 0, 0, false, [], []),
  (24, .getfield 172, 3, 12, 23, false, [921], []),
  (27, .invokevirtual 175, 3, 169, 1, false, [1137, 91, 1140, 1139, 51], []),
  (30, .bipush 48, 2, 0, 0, false, [], [(48, 0)]),
  (32, .isub, 1, 0, 0, false, [], []),
  (33, .istore_n 2, 1, 0, 0, false, [], []),
  (34, .aload_n 0, 1, 0, 0, false, [], []),
  (35, .dup, 1, 0, 0, false, [], []),
  (36, .getfield 172, 3, 12, 23, false, [921], []),
  (39, .iconst 1, 1, 0, 0, false, [], [(1, 0)]),
  (40, .iadd, 1, 0, 0, false, [], []),
  (41, .putfield 172, 3, 12, 23, false, [921], []),
  (44, .aload_n 0, 1, 0, 0, false, [], []),
  (45, .invokevirtual 192, 3, 170, 0, false, [1149, 91, 1152, 1151, 54], []),
  (48, .ifCond .eq 47, 3, 95, 0, false, [], []),
  (51, .iload_n 2, 1, 0, 0, false, [], []),
  (52, .ifCond .le 43, 3, 95, 0, false, [], []),
  (55, .aload_n 0, 1, 0, 0, false, [], []),
  (56, .getfield 172, 3, 12, 23, false, [921], []),
  (59, .iload_n 1, 1, 0, 0, false, [], []),
  (60, .isub, 1, 0, 0, false, [], []),
  (61, .iconst 3, 1, 0, 0, false, [], [(3, 0)]),
  (62, .if_icmp .ge 33, 3, 95, 0, false, [], []),
  (65, .bipush 10, 2, 0, 0, false, [], [(10, 0)]),
  (67, .iload_n 2, 1, 0, 0, false, [], []),
  (68, .imul, 1, 0, 0, false, [], []),
  (69, .aload_n 0, 1, 0, 0, false, [], []),
  (70, .aload_n 0, 1, 0, 0, false, [], []),
  (71, .getfield 172, 3, 12, 23, false, [921], []),
  (74, .invokevirtual 175, 3, 169, 1, false, [1137, 91, 1140, 1139, 51], []),
  (77, .iadd, 1, 0, 0, false, [], []),
  (78, .bipush 48, 2, 0, 0, false, [], [(48, 0)]),
  (80, .isub, 1, 0, 0, false, [], []),
  (81, .istore_n 2, 1, 0, 0, false, [], []),
  (82, .aload_n 0, 1, 0, 0, false, [], []),
  (83, .dup, 1, 0, 0, false, [], []),
  (84, .getfield 172, 3, 12, 23, false, [921], []),
  (87, .iconst 1, 1, 0, 0, false, [], [(1, 0)]),
  (88, .iadd, 1, 0, 0, false, [], []),
  (89, .putfield 172, 3, 12, 23, false, [921], []),
  (92, .goto (-48), 3, 44, 0, false, [], []),
  (95, .iload_n 2, 1, 0, 0, false, [], []),
  (96, .ireturn, 1, 0, 0, false, [], [])])
def mt_174 : XM := (⟨"PuppetTurnsModel", "code", "(IIIII)V"⟩, prog_14_method_54_code, 6, (Option.none : Option Jvm.ClassFile.FieldType), { frames := 0, cells := 0, slots := 0, locals := 0 }, 12, [
(0, .aload_n 0, 1, 0, 0, false, [], []),
  (1, .getfield 34, 3, 12, 11, false, [909], []),
  (4, .aload_n 0, 1, 0, 0, false, [], []),
  (5, .getfield 199, 3, 12, 17, false, [915], []),
  (8, .iload_n 1, 1, 0, 0, false, [], []),
  (9, .iastore, 1, 0, 0, false, [], []),
  (10, .aload_n 0, 1, 0, 0, false, [], []),
  (11, .getfield 37, 3, 12, 12, false, [910], []),
  (14, .aload_n 0, 1, 0, 0, false, [], []),
  (15, .getfield 199, 3, 12, 17, false, [915], []),
  (18, .iload_n 2, 1, 0, 0, false, [], []),
  (19, .iastore, 1, 0, 0, false, [], []),
  (20, .aload_n 0, 1, 0, 0, false, [], []),
  (21, .getfield 40, 3, 12, 13, false, [911], []),
  (24, .aload_n 0, 1, 0, 0, false, [], []),
  (25, .getfield 199, 3, 12, 17, false, [915], []),
  (28, .aload_n 0, 1, 0, 0, false, [], []),
  (29, .getfield 185, 3, 12, 24, false, [922], []),
  (32, .iconst 1, 1, 0, 0, false, [], [(1, 0)]),
  (33, .iadd, 1, 0, 0, false, [], []),
  (34, .iastore, 1, 0, 0, false, [], []),
  (35, .aload_n 0, 1, 0, 0, false, [], []),
  (36, .getfield 43, 3, 12, 14, false, [912], []),
  (39, .aload_n 0, 1, 0, 0, false, [], []),
  (40, .getfield 199, 3, 12, 17, false, [915], []),
  (43, .iload_n 3, 1, 0, 0, false, [], []),
  (44, .iastore, 1, 0, 0, false, [], []),
  (45, .aload_n 0, 1, 0, 0, false, [], []),
  (46, .getfield 46, 3, 12, 15, false, [913], []),
  (49, .aload_n 0, 1, 0, 0, false, [], []),
  (50, .getfield 199, 3, 12, 17, false, [915], []),
  (53, .iload 4, 2, 0, 0, false, [], []),
  (55, .iastore, 1, 0, 0, false, [], []),
  (56, .aload_n 0, 1, 0, 0, false, [], []),
  (57, .getfield 49, 3, 12, 16, false, [914], []),
  (60, .aload_n 0, 1, 0, 0, false, [], []),
  (61, .getfield 199, 3, 12, 17, false, [915], []),
  (64, .iload 5, 2, 0, 0, false, [], []),
  (66, .iastore, 1, 0, 0, false, [], []),
  (67, .aload_n 0, 1, 0, 0, false, [], []),
  (68, .dup, 1, 0, 0, false, [], []),
  (69, .getfield 199, 3, 12, 17, false, [915], []),
  (72, .iconst 1, 1, 0, 0, false, [], [(1, 0)]),
  (73, .iadd, 1, 0, 0, false, [], []),
  (74, .putfield 199, 3, 12, 17, false, [915], []),
  (77, .return_, 1, 0, 0, false, [], [])])
def mt_175 : XM := (⟨"PuppetTurnsModel", "numbersOf", "(I)I"⟩, prog_14_method_55_code, 1, (Option.some Jvm.ClassFile.FieldType.int), { frames := 0, cells := 0, slots := 0, locals := 0 }, 12, [
(0, .iload_n 0, 1, 0, 0, false, [], []),
  (1, .tableswitch 95 100 117 #[93, 95, 87, 95, 95, 95, 95, 95, 93, 89, 95, 95, 95, 95, 95, 95, 91, 93], 87, 96, 0, false, [], [(100, 94), (101, 96), (102, 88), (103, 96), (104, 96), (105, 96), (106, 96), (107, 96), (108, 94), (109, 90), (110, 96), (111, 96), (112, 96), (113, 96), (114, 96), (115, 96), (116, 92), (117, 94)]),
  (88, .iconst 0, 1, 0, 0, false, [], [(0, 0)]),
  (89, .ireturn, 1, 0, 0, false, [], []),
  (90, .iconst 3, 1, 0, 0, false, [], [(3, 0)]),
  (91, .ireturn, 1, 0, 0, false, [], []),
  (92, .iconst 2, 1, 0, 0, false, [], [(2, 0)]),
  (93, .ireturn, 1, 0, 0, false, [], []),
  (94, .iconst 1, 1, 0, 0, false, [], [(1, 0)]),
  (95, .ireturn, 1, 0, 0, false, [], []),
  (96, .bipush (-109), 2, 0, 0, false, [], [((-109), 0)]),
  (98, .ireturn, 1, 0, 0, false, [], [])])
def mt_176 : XM := (⟨"PuppetTurnsModel", "readAct", "()V"⟩, prog_14_method_56_code, 7, (Option.none : Option Jvm.ClassFile.FieldType), { frames := 3, cells := 0, slots := 0, locals := 68 }, 12, [
(0, .aload_n 0, 1, 0, 0, false, [], []),
  (1, .getfield 172, 3, 12, 23, false, [921], []),
  (4, .istore_n 1, 1, 0, 0, false, [], []),
  (5, .aload_n 0, 1, 0, 0, false, [], []),
  (6, .aload_n 0, 1, 0, 0, false, [], []),
  (7, .getfield 172, 3, 12, 23, false, [921], []),
  (10, .invokevirtual 175, 3, 169, 1, false, [1137, 91, 1140, 1139, 51], []),
  (13, .istore_n 2, 1, 0, 0, false, [], []),
  (14, .iload_n 2, 1, 0, 0, false, [], []),
  (15, .invokestatic 202, 3, 175, 1, false, [1165, 91, 1167, 1166], []),
  (18, .istore_n 3, 1, 0, 0, false, [], []),
  (19, .aload_n 0, 1, 0, 0, false, [], []),
  (20, .dup, 1, 0, 0, false, [], []),
  (21, .getfield 172, 3, 12, 23, false, [921], []),
  (24, .iconst 1, 1, 0, 0, false, [], [(1, 0)]),
  (25, .iadd, 1, 0, 0, false, [], []),
  (26, .putfield 172, 3, 12, 23, false, [921], []),
  (29, .iconst 0, 1, 0, 0, false, [], [(0, 0)]),
  (30, .istore 4, 2, 0, 0, false, [], []),
  (32, .iload 4, 2, 0, 0, false, [], []),
  (34, .iload_n 3, 1, 0, 0, false, [], []),
  (35, .if_icmp .ge 146, 3, 181, 0, false, [], []),
  (38, .aload_n 0, 1, 0, 0, false, [], []),
  (39, .getfield 178, 3, 12, 25, false, [923], []),
  (42, .ifCond .eq 139, 3, 181, 0, false, [], []),
  (45, .iload 4, 2, 0, 0, false, [], []),
  (47, .ifCond .le 34, 3, 81, 0, false, [], []),
  (50, .aload_n 0, 1, 0, 0, false, [], []),
  (51, .aload_n 0, 1, 0, 0, false, [], []),
  (52, .getfield 172, 3, 12, 23, false, [921], []),
  (55, .invokevirtual 175, 3, 169, 1, false, [1137, 91, 1140, 1139, 51], []),
  (58, .bipush 44, 2, 0, 0, false, [], [(44, 0)]),
  (60, .if_icmp .eq 11, 3, 71, 0, false, [], []),
  (63, .aload_n 0, 1, 0, 0, false, [], []),
  (64, .aload_n 0, 1, 0, 0, false, [], []),
  (65, .getfield 172, 3, 12, 23, false, [921], []),
  (68, .invokevirtual 196, 3, 172, 1, false, [1157, 91, 1160, 1159, 56], []),
  (71, .aload_n 0, 1, 0, 0, false, [], []),
  (72, .dup, 1, 0, 0, false, [], []),
  (73, .getfield 172, 3, 12, 23, false, [921], []),
  (76, .iconst 1, 1, 0, 0, false, [], [(1, 0)]),
  (77, .iadd, 1, 0, 0, false, [], []),
  (78, .putfield 172, 3, 12, 23, false, [921], []),
  (81, .iload_n 2, 1, 0, 0, false, [], []),
  (82, .bipush 109, 2, 0, 0, false, [], [(109, 0)]),
  (84, .if_icmp .ne 32, 3, 116, 0, false, [], []),
  (87, .iload 4, 2, 0, 0, false, [], []),
  (89, .ifCond .le 27, 3, 116, 0, false, [], []),
  (92, .aload_n 0, 1, 0, 0, false, [], []),
  (93, .getfield 178, 3, 12, 25, false, [923], []),
  (96, .ifCond .eq 20, 3, 116, 0, false, [], []),
  (99, .aload_n 0, 1, 0, 0, false, [], []),
  (100, .aload_n 0, 1, 0, 0, false, [], []),
  (101, .getfield 172, 3, 12, 23, false, [921], []),
  (104, .invokevirtual 175, 3, 169, 1, false, [1137, 91, 1140, 1139, 51], []),
  (107, .bipush 45, 2, 0, 0, false, [], [(45, 0)]),
  (109, .if_icmp .ne 7, 3, 116, 0, false, [], []),
  (112, .iconst 1, 1, 0, 0, false, [], [(1, 0)]),
  (113, .goto 4, 3, 117, 0, false, [], []),
  (116, .iconst 0, 1, 0, 0, false, [], [(0, 0)]),
  (117, .istore 5, 2, 0, 0, false, [], []),
  (119, .aload_n 0, 1, 0, 0, false, [], []),
  (120, .dup, 1, 0, 0, false, [], []),
  (121, .getfield 172, 3, 12, 23, false, [921], []),
  (124, .iload 5, 2, 0, 0, false, [], []),
  (126, .ifCond .eq 7, 3, 133, 0, false, [], []),
  (129, .iconst 1, 1, 0, 0, false, [], [(1, 0)]),
  (130, .goto 4, 3, 134, 0, false, [], []),
  (133, .iconst 0, 1, 0, 0, false, [], [(0, 0)]),
  (134, .iadd, 1, 0, 0, false, [], []),
  (135, .putfield 172, 3, 12, 23, false, [921], []),
  (138, .aload_n 0, 1, 0, 0, false, [], []),
  (139, .getfield 178, 3, 12, 25, false, [923], []),
  (142, .ifCond .eq 10, 3, 152, 0, false, [], []),
  (145, .aload_n 0, 1, 0, 0, false, [], []),
  (146, .invokevirtual 205, 3, 173, 0, false, [1153, 91, 1156, 1155, 55], []),
  (149, .goto 4, 3, 153, 0, false, [], []),
  (152, .iconst 0, 1, 0, 0, false, [], [(0, 0)]),
  (153, .istore 6, 2, 0, 0, false, [], []),
  (155, .aload_n 0, 1, 0, 0, false, [], []),
  (156, .getfield 58, 3, 12, 20, false, [918], []),
  (159, .iload 4, 2, 0, 0, false, [], []),
  (161, .iload 5, 2, 0, 0, false, [], []),
  (163, .ifCond .eq 9, 3, 172, 0, false, [], []),
  (166, .iload 6, 2, 0, 0, false, [], []),
  (168, .ineg, 1, 0, 0, false, [], []),
  (169, .goto 5, 3, 174, 0, false, [], []),
  (172, .iload 6, 2, 0, 0, false, [], []),
  (174, .iastore, 1, 0, 0, false, [], []),
  (175, .iinc 4 1, 3, 0, 0, false, [], [(1, 0)]),
  (178, .goto (-146), 3, 32, 0, false, [], []),
  (181, .aload_n 0, 1, 0, 0, false, [], []),
  (182, .aload_n 0, 1, 0, 0, false, [], []),
  (183, .getfield 172, 3, 12, 23, false, [921], []),
  (186, .invokevirtual 175, 3, 169, 1, false, [1137, 91, 1140, 1139, 51], []),
  (189, .bipush 59, 2, 0, 0, false, [], [(59, 0)]),
  (191, .if_icmp .eq 11, 3, 202, 0, false, [], []),
  (194, .aload_n 0, 1, 0, 0, false, [], []),
  (195, .aload_n 0, 1, 0, 0, false, [], []),
  (196, .getfield 172, 3, 12, 23, false, [921], []),
  (199, .invokevirtual 196, 3, 172, 1, false, [1157, 91, 1160, 1159, 56], []),
  (202, .aload_n 0, 1, 0, 0, false, [], []),
  (203, .dup, 1, 0, 0, false, [], []),
  (204, .getfield 172, 3, 12, 23, false, [921], []),
  (207, .iconst 1, 1, 0, 0, false, [], [(1, 0)]),
  (208, .iadd, 1, 0, 0, false, [], []),
  (209, .putfield 172, 3, 12, 23, false, [921], []),
  (212, .aload_n 0, 1, 0, 0, false, [], []),
  (213, .iconst 0, 1, 0, 0, false, [], [(0, 0)]),
  (214, .iload_n 1, 1, 0, 0, false, [], []),
  (215, .aload_n 0, 1, 0, 0, false, [], []),
  (216, .getfield 58, 3, 12, 20, false, [918], []),
  (219, .iconst 0, 1, 0, 0, false, [], [(0, 0)]),
  (220, .iaload, 1, 0, 0, false, [], []),
  (221, .aload_n 0, 1, 0, 0, false, [], []),
  (222, .getfield 58, 3, 12, 20, false, [918], []),
  (225, .iconst 1, 1, 0, 0, false, [], [(1, 0)]),
  (226, .iaload, 1, 0, 0, false, [], []),
  (227, .aload_n 0, 1, 0, 0, false, [], []),
  (228, .getfield 58, 3, 12, 20, false, [918], []),
  (231, .iconst 2, 1, 0, 0, false, [], [(2, 0)]),
  (232, .iaload, 1, 0, 0, false, [], []),
  (233, .invokevirtual 208, 3, 174, 5, false, [1141, 91, 1144, 1143, 52], []),
  (236, .return_, 1, 0, 0, false, [], [])])
def mt_177 : XM := (⟨"PuppetTurnsModel", "readGroup", "()V"⟩, prog_14_method_57_code, 3, (Option.none : Option Jvm.ClassFile.FieldType), { frames := 3, cells := 0, slots := 0, locals := 68 }, 12, [
(0, .aload_n 0, 1, 0, 0, false, [], []),
  (1, .getfield 172, 3, 12, 23, false, [921], []),
  (4, .istore_n 1, 1, 0, 0, false, [], []),
  (5, .iconst 1, 1, 0, 0, false, [], [(1, 0)]),
  (6, .istore_n 2, 1, 0, 0, false, [], []),
  (7, .aload_n 0, 1, 0, 0, false, [], []),
  (8, .invokevirtual 192, 3, 170, 0, false, [1149, 91, 1152, 1151, 54], []),
  (11, .ifCond .eq 38, 3, 49, 0, false, [], []),
  (14, .aload_n 0, 1, 0, 0, false, [], []),
  (15, .invokevirtual 205, 3, 173, 0, false, [1153, 91, 1156, 1155, 55], []),
  (18, .istore_n 2, 1, 0, 0, false, [], []),
  (19, .aload_n 0, 1, 0, 0, false, [], []),
  (20, .invokevirtual 192, 3, 170, 0, false, [1149, 91, 1152, 1151, 54], []),
  (23, .ifCond .eq 11, 3, 34, 0, false, [], []),
  (26, .aload_n 0, 1, 0, 0, false, [], []),
  (27, .aload_n 0, 1, 0, 0, false, [], []),
  (28, .getfield 172, 3, 12, 23, false, [921], []),
  (31, .invokevirtual 196, 3, 172, 1, false, [1157, 91, 1160, 1159, 56], []),
  (34, .iload_n 2, 1, 0, 0, false, [], []),
  (35, .iconst 1, 1, 0, 0, false, [], [(1, 0)]),
  (36, .bipush 9, 2, 0, 0, false, [], [(9, 0)]),
  (38, .invokestatic 71, 3, 123, 3, false, [981, 91, 983, 982], []),
  (41, .ifCond .ne 8, 3, 49, 0, false, [], []),
  (44, .aload_n 0, 1, 0, 0, false, [], []),
  (45, .iload_n 1, 1, 0, 0, false, [], []),
  (46, .invokevirtual 196, 3, 172, 1, false, [1157, 91, 1160, 1159, 56], []),
  (49, .aload_n 0, 1, 0, 0, false, [], []),
  (50, .aload_n 0, 1, 0, 0, false, [], []),
  (51, .getfield 172, 3, 12, 23, false, [921], []),
  (54, .invokevirtual 175, 3, 169, 1, false, [1137, 91, 1140, 1139, 51], []),
  (57, .bipush 40, 2, 0, 0, false, [], [(40, 0)]),
  (59, .if_icmp .ne 11, 3, 70, 0, false, [], []),
  (62, .aload_n 0, 1, 0, 0, false, [], []),
  (63, .getfield 185, 3, 12, 24, false, [922], []),
  (66, .iconst 4, 1, 0, 0, false, [], [(4, 0)]),
  (67, .if_icmp .ne 11, 3, 78, 0, false, [], []),
  (70, .aload_n 0, 1, 0, 0, false, [], []),
  (71, .aload_n 0, 1, 0, 0, false, [], []),
  (72, .getfield 172, 3, 12, 23, false, [921], []),
  (75, .invokevirtual 196, 3, 172, 1, false, [1157, 91, 1160, 1159, 56], []),
  (78, .aload_n 0, 1, 0, 0, false, [], []),
  (79, .getfield 178, 3, 12, 25, false, [923], []),
  (82, .ifCond .eq 48, 3, 130, 0, false, [], []),
  (85, .aload_n 0, 1, 0, 0, false, [], []),
  (86, .getfield 52, 3, 12, 18, false, [916], []),
  (89, .aload_n 0, 1, 0, 0, false, [], []),
  (90, .getfield 185, 3, 12, 24, false, [922], []),
  (93, .aload_n 0, 1, 0, 0, false, [], []),
  (94, .getfield 199, 3, 12, 17, false, [915], []),
  (97, .iastore, 1, 0, 0, false, [], []),
  (98, .aload_n 0, 1, 0, 0, false, [], []),
  (99, .iconst 1, 1, 0, 0, false, [], [(1, 0)]),
  (100, .aload_n 0, 1, 0, 0, false, [], []),
  (101, .getfield 172, 3, 12, 23, false, [921], []),
  (104, .iload_n 2, 1, 0, 0, false, [], []),
  (105, .iconst 0, 1, 0, 0, false, [], [(0, 0)]),
  (106, .iconst 0, 1, 0, 0, false, [], [(0, 0)]),
  (107, .invokevirtual 208, 3, 174, 5, false, [1141, 91, 1144, 1143, 52], []),
  (110, .aload_n 0, 1, 0, 0, false, [], []),
  (111, .dup, 1, 0, 0, false, [], []),
  (112, .getfield 185, 3, 12, 24, false, [922], []),
  (115, .iconst 1, 1, 0, 0, false, [], [(1, 0)]),
  (116, .iadd, 1, 0, 0, false, [], []),
  (117, .putfield 185, 3, 12, 24, false, [922], []),
  (120, .aload_n 0, 1, 0, 0, false, [], []),
  (121, .dup, 1, 0, 0, false, [], []),
  (122, .getfield 172, 3, 12, 23, false, [921], []),
  (125, .iconst 1, 1, 0, 0, false, [], [(1, 0)]),
  (126, .iadd, 1, 0, 0, false, [], []),
  (127, .putfield 172, 3, 12, 23, false, [921], []),
  (130, .return_, 1, 0, 0, false, [], [])])
def mt_178 : XM := (⟨"PuppetTurnsModel", "readOne", "()V"⟩, prog_14_method_58_code, 2, (Option.none : Option Jvm.ClassFile.FieldType), { frames := 4, cells := 0, slots := 0, locals := 94 }, 12, [
(0, .aload_n 0, 1, 0, 0, false, [], []),
  (1, .aload_n 0, 1, 0, 0, false, [], []),
  (2, .getfield 172, 3, 12, 23, false, [921], []),
  (5, .invokevirtual 175, 3, 169, 1, false, [1137, 91, 1140, 1139, 51], []),
  (8, .istore_n 1, 1, 0, 0, false, [], []),
  (9, .iload_n 1, 1, 0, 0, false, [], []),
  (10, .bipush 41, 2, 0, 0, false, [], [(41, 0)]),
  (12, .if_icmp .ne 53, 3, 65, 0, false, [], []),
  (15, .aload_n 0, 1, 0, 0, false, [], []),
  (16, .getfield 185, 3, 12, 24, false, [922], []),
  (19, .ifCond .le 46, 3, 65, 0, false, [], []),
  (22, .aload_n 0, 1, 0, 0, false, [], []),
  (23, .dup, 1, 0, 0, false, [], []),
  (24, .getfield 185, 3, 12, 24, false, [922], []),
  (27, .iconst 1, 1, 0, 0, false, [], [(1, 0)]),
  (28, .isub, 1, 0, 0, false, [], []),
  (29, .putfield 185, 3, 12, 24, false, [922], []),
  (32, .aload_n 0, 1, 0, 0, false, [], []),
  (33, .iconst 2, 1, 0, 0, false, [], [(2, 0)]),
  (34, .aload_n 0, 1, 0, 0, false, [], []),
  (35, .getfield 172, 3, 12, 23, false, [921], []),
  (38, .aload_n 0, 1, 0, 0, false, [], []),
  (39, .getfield 52, 3, 12, 18, false, [916], []),
  (42, .aload_n 0, 1, 0, 0, false, [], []),
  (43, .getfield 185, 3, 12, 24, false, [922], []),
  (46, .iaload, 1, 0, 0, false, [], []),
  (47, .iconst 0, 1, 0, 0, false, [], [(0, 0)]),
  (48, .iconst 0, 1, 0, 0, false, [], [(0, 0)]),
  (49, .invokevirtual 208, 3, 174, 5, false, [1141, 91, 1144, 1143, 52], []),
  (52, .aload_n 0, 1, 0, 0, false, [], []),
  (53, .dup, 1, 0, 0, false, [], []),
  (54, .getfield 172, 3, 12, 23, false, [921], []),
  (57, .iconst 1, 1, 0, 0, false, [], [(1, 0)]),
  (58, .iadd, 1, 0, 0, false, [], []),
  (59, .putfield 172, 3, 12, 23, false, [921], []),
  (62, .goto 51, 3, 113, 0, false, [], []),
  (65, .iload_n 1, 1, 0, 0, false, [], []),
  (66, .bipush 40, 2, 0, 0, false, [], [(40, 0)]),
  (68, .if_icmp .eq 14, 3, 82, 0, false, [], []),
  (71, .iload_n 1, 1, 0, 0, false, [], []),
  (72, .bipush 48, 2, 0, 0, false, [], [(48, 0)]),
  (74, .bipush 57, 2, 0, 0, false, [], [(57, 0)]),
  (76, .invokestatic 71, 3, 123, 3, false, [981, 91, 983, 982], []),
  (79, .ifCond .eq 10, 3, 89, 0, false, [], []),
  (82, .aload_n 0, 1, 0, 0, false, [], []),
  (83, .invokevirtual 211, 3, 177, 0, false, [1145, 91, 1148, 1147, 53], []),
  (86, .goto 27, 3, 113, 0, false, [], []),
  (89, .iload_n 1, 1, 0, 0, false, [], []),
  (90, .invokestatic 202, 3, 175, 1, false, [1165, 91, 1167, 1166], []),
  (93, .bipush (-109), 2, 0, 0, false, [], [((-109), 0)]),
  (95, .if_icmp .eq 10, 3, 105, 0, false, [], []),
  (98, .aload_n 0, 1, 0, 0, false, [], []),
  (99, .invokevirtual 214, 3, 176, 0, false, [1168, 91, 1171, 1170, 58], []),
  (102, .goto 11, 3, 113, 0, false, [], []),
  (105, .aload_n 0, 1, 0, 0, false, [], []),
  (106, .aload_n 0, 1, 0, 0, false, [], []),
  (107, .getfield 172, 3, 12, 23, false, [921], []),
  (110, .invokevirtual 196, 3, 172, 1, false, [1157, 91, 1160, 1159, 56], []),
  (113, .return_, 1, 0, 0, false, [], [])])
def mt_179 : XM := (⟨"PuppetTurnsModel", "readPlay", "()V"⟩, prog_14_method_59_code, 1, (Option.none : Option Jvm.ClassFile.FieldType), { frames := 5, cells := 0, slots := 0, locals := 115 }, 12, [
(0, .aload_n 0, 1, 0, 0, false, [], []),
  (1, .iconst 0, 1, 0, 0, false, [], [(0, 0)]),
  (2, .putfield 172, 3, 12, 23, false, [921], []),
  (5, .aload_n 0, 1, 0, 0, false, [], []),
  (6, .iconst 0, 1, 0, 0, false, [], [(0, 0)]),
  (7, .putfield 185, 3, 12, 24, false, [922], []),
  (10, .aload_n 0, 1, 0, 0, false, [], []),
  (11, .iconst 0, 1, 0, 0, false, [], [(0, 0)]),
  (12, .putfield 199, 3, 12, 17, false, [915], []),
  (15, .aload_n 0, 1, 0, 0, false, [], []),
  (16, .iconst 1, 1, 0, 0, false, [], [(1, 0)]),
  (17, .putfield 178, 3, 12, 25, false, [923], []),
  (20, .aload_n 0, 1, 0, 0, false, [], []),
  (21, .getfield 178, 3, 12, 25, false, [923], []),
  (24, .ifCond .eq 21, 3, 45, 0, false, [], []),
  (27, .aload_n 0, 1, 0, 0, false, [], []),
  (28, .getfield 172, 3, 12, 23, false, [921], []),
  (31, .aload_n 0, 1, 0, 0, false, [], []),
  (32, .getfield 169, 3, 12, 6, false, [904], []),
  (35, .if_icmp .ge 10, 3, 45, 0, false, [], []),
  (38, .aload_n 0, 1, 0, 0, false, [], []),
  (39, .invokevirtual 217, 3, 178, 0, false, [1133, 91, 1136, 1135, 50], []),
  (42, .goto (-22), 3, 20, 0, false, [], []),
  (45, .aload_n 0, 1, 0, 0, false, [], []),
  (46, .getfield 185, 3, 12, 24, false, [922], []),
  (49, .ifCond .le 11, 3, 60, 0, false, [], []),
  (52, .aload_n 0, 1, 0, 0, false, [], []),
  (53, .aload_n 0, 1, 0, 0, false, [], []),
  (54, .getfield 169, 3, 12, 6, false, [904], []),
  (57, .invokevirtual 196, 3, 172, 1, false, [1157, 91, 1160, 1159, 56], []),
  (60, .return_, 1, 0, 0, false, [], [])])
def mt_180 : XM := (⟨"PuppetTurnsModel", "codeOf", "(IIII)I"⟩, prog_14_method_60_code, 5, (Option.some Jvm.ClassFile.FieldType.int), { frames := 3, cells := 0, slots := 0, locals := 67 }, 12, [
(0, .iload_n 1, 1, 0, 0, false, [], []),
  (1, .lookupswitch 69 #[(102, 43), (108, 64), (109, 48), (116, 57)], 43, 70, 0, false, [], [(102, 44), (108, 65), (109, 49), (116, 58)]),
  (44, .aload_n 0, 1, 0, 0, false, [], []),
  (45, .invokevirtual 162, 3, 163, 0, false, [1094, 91, 1097, 1096, 45], []),
  (48, .ireturn, 1, 0, 0, false, [], []),
  (49, .aload_n 0, 1, 0, 0, false, [], []),
  (50, .iload_n 2, 1, 0, 0, false, [], []),
  (51, .iload_n 3, 1, 0, 0, false, [], []),
  (52, .iload 4, 2, 0, 0, false, [], []),
  (54, .invokevirtual 124, 3, 148, 3, false, [1019, 91, 1022, 1021, 33], []),
  (57, .ireturn, 1, 0, 0, false, [], []),
  (58, .aload_n 0, 1, 0, 0, false, [], []),
  (59, .iload_n 2, 1, 0, 0, false, [], []),
  (60, .iload_n 3, 1, 0, 0, false, [], []),
  (61, .invokevirtual 130, 3, 151, 2, false, [1047, 91, 1050, 1049, 39], []),
  (64, .ireturn, 1, 0, 0, false, [], []),
  (65, .iload_n 2, 1, 0, 0, false, [], []),
  (66, .invokestatic 145, 3, 158, 1, false, [1079, 91, 1081, 1080], []),
  (69, .ireturn, 1, 0, 0, false, [], []),
  (70, .aload_n 0, 1, 0, 0, false, [], []),
  (71, .iload_n 2, 1, 0, 0, false, [], []),
  (72, .invokevirtual 136, 3, 147, 1, false, [1059, 91, 1062, 1061, 41], []),
  (75, .ireturn, 1, 0, 0, false, [], [])])
def mt_181 : XM := (⟨"PuppetTurnsModel", "carry", "(IIII)I"⟩, prog_14_method_61_code, 5, (Option.some Jvm.ClassFile.FieldType.int), { frames := 5, cells := 0, slots := 0, locals := 116 }, 12, [
(0, .iload_n 1, 1, 0, 0, false, [], []),
  (1, .lookupswitch 84 #[(102, 51), (108, 72), (109, 56), (116, 65), (117, 78)], 51, 85, 0, false, [], [(102, 52), (108, 73), (109, 57), (116, 66), (117, 79)]),
  (52, .aload_n 0, 1, 0, 0, false, [], []),
  (53, .invokevirtual 166, 3, 164, 0, false, [1098, 91, 1101, 1100, 46], []),
  (56, .ireturn, 1, 0, 0, false, [], []),
  (57, .aload_n 0, 1, 0, 0, false, [], []),
  (58, .iload_n 2, 1, 0, 0, false, [], []),
  (59, .iload_n 3, 1, 0, 0, false, [], []),
  (60, .iload 4, 2, 0, 0, false, [], []),
  (62, .invokevirtual 127, 3, 149, 3, false, [1023, 91, 1026, 1025, 34], []),
  (65, .ireturn, 1, 0, 0, false, [], []),
  (66, .aload_n 0, 1, 0, 0, false, [], []),
  (67, .iload_n 2, 1, 0, 0, false, [], []),
  (68, .iload_n 3, 1, 0, 0, false, [], []),
  (69, .invokevirtual 133, 3, 152, 2, false, [1051, 91, 1054, 1053, 40], []),
  (72, .ireturn, 1, 0, 0, false, [], []),
  (73, .aload_n 0, 1, 0, 0, false, [], []),
  (74, .iload_n 2, 1, 0, 0, false, [], []),
  (75, .invokevirtual 148, 3, 159, 1, false, [1082, 91, 1085, 1084, 44], []),
  (78, .ireturn, 1, 0, 0, false, [], []),
  (79, .aload_n 0, 1, 0, 0, false, [], []),
  (80, .iload_n 2, 1, 0, 0, false, [], []),
  (81, .invokevirtual 139, 3, 154, 1, false, [1063, 91, 1066, 1065, 42], []),
  (84, .ireturn, 1, 0, 0, false, [], []),
  (85, .aload_n 0, 1, 0, 0, false, [], []),
  (86, .iload_n 2, 1, 0, 0, false, [], []),
  (87, .invokevirtual 142, 3, 156, 1, false, [1071, 91, 1074, 1073, 43], []),
  (90, .ireturn, 1, 0, 0, false, [], [])])
def mt_182 : XM := (⟨"PuppetTurnsModel", "runAct", "(IIZ)I"⟩, prog_14_method_62_code, 7, (Option.some Jvm.ClassFile.FieldType.int), { frames := 6, cells := 0, slots := 0, locals := 140 }, 12, [
(0, .aload_n 0, 1, 0, 0, false, [], []),
  (1, .getfield 19, 3, 12, 5, false, [903], []),
  (4, .aload_n 0, 1, 0, 0, false, [], []),
  (5, .getfield 37, 3, 12, 12, false, [910], []),
  (8, .iload_n 1, 1, 0, 0, false, [], []),
  (9, .iaload, 1, 0, 0, false, [], []),
  (10, .iaload, 1, 0, 0, false, [], []),
  (11, .istore 4, 2, 0, 0, false, [], []),
  (13, .iload_n 2, 1, 0, 0, false, [], []),
  (14, .sipush 200, 3, 0, 0, false, [], [(200, 0)]),
  (17, .if_icmp .ne 25, 3, 42, 0, false, [], []),
  (20, .aload_n 0, 1, 0, 0, false, [], []),
  (21, .iconst 3, 1, 0, 0, false, [], [(3, 0)]),
  (22, .aload_n 0, 1, 0, 0, false, [], []),
  (23, .getfield 37, 3, 12, 12, false, [910], []),
  (26, .iload_n 1, 1, 0, 0, false, [], []),
  (27, .iaload, 1, 0, 0, false, [], []),
  (28, .aload_n 0, 1, 0, 0, false, [], []),
  (29, .getfield 40, 3, 12, 13, false, [911], []),
  (32, .iload_n 1, 1, 0, 0, false, [], []),
  (33, .iaload, 1, 0, 0, false, [], []),
  (34, .iconst 0, 1, 0, 0, false, [], [(0, 0)]),
  (35, .bipush (-109), 2, 0, 0, false, [], [((-109), 0)]),
  (37, .invokevirtual 188, 3, 171, 5, false, [1161, 91, 1164, 1163, 57], []),
  (40, .iload_n 2, 1, 0, 0, false, [], []),
  (41, .ireturn, 1, 0, 0, false, [], []),
  (42, .iload_n 3, 1, 0, 0, false, [], []),
  (43, .ifCond .eq 7, 3, 50, 0, false, [], []),
  (46, .iload_n 2, 1, 0, 0, false, [], []),
  (47, .iconst 1, 1, 0, 0, false, [], [(1, 0)]),
  (48, .iadd, 1, 0, 0, false, [], []),
  (49, .ireturn, 1, 0, 0, false, [], []),
  (50, .aload_n 0, 1, 0, 0, false, [], []),
  (51, .iload 4, 2, 0, 0, false, [], []),
  (53, .aload_n 0, 1, 0, 0, false, [], []),
  (54, .getfield 43, 3, 12, 14, false, [912], []),
  (57, .iload_n 1, 1, 0, 0, false, [], []),
  (58, .iaload, 1, 0, 0, false, [], []),
  (59, .aload_n 0, 1, 0, 0, false, [], []),
  (60, .getfield 46, 3, 12, 15, false, [913], []),
  (63, .iload_n 1, 1, 0, 0, false, [], []),
  (64, .iaload, 1, 0, 0, false, [], []),
  (65, .aload_n 0, 1, 0, 0, false, [], []),
  (66, .getfield 49, 3, 12, 16, false, [914], []),
  (69, .iload_n 1, 1, 0, 0, false, [], []),
  (70, .iaload, 1, 0, 0, false, [], []),
  (71, .invokevirtual 220, 3, 180, 4, false, [1180, 91, 1183, 1182, 61], []),
  (74, .istore 5, 2, 0, 0, false, [], []),
  (76, .iload 5, 2, 0, 0, false, [], []),
  (78, .ifCond .ge 25, 3, 103, 0, false, [], []),
  (81, .aload_n 0, 1, 0, 0, false, [], []),
  (82, .iconst 2, 1, 0, 0, false, [], [(2, 0)]),
  (83, .aload_n 0, 1, 0, 0, false, [], []),
  (84, .getfield 37, 3, 12, 12, false, [910], []),
  (87, .iload_n 1, 1, 0, 0, false, [], []),
  (88, .iaload, 1, 0, 0, false, [], []),
  (89, .aload_n 0, 1, 0, 0, false, [], []),
  (90, .getfield 40, 3, 12, 13, false, [911], []),
  (93, .iload_n 1, 1, 0, 0, false, [], []),
  (94, .iaload, 1, 0, 0, false, [], []),
  (95, .iload_n 2, 1, 0, 0, false, [], []),
  (96, .iload 5, 2, 0, 0, false, [], []),
  (98, .invokevirtual 188, 3, 171, 5, false, [1161, 91, 1164, 1163, 57], []),
  (101, .iload_n 2, 1, 0, 0, false, [], []),
  (102, .ireturn, 1, 0, 0, false, [], []),
  (103, .aload_n 0, 1, 0, 0, false, [], []),
  (104, .iload 4, 2, 0, 0, false, [], []),
  (106, .aload_n 0, 1, 0, 0, false, [], []),
  (107, .getfield 43, 3, 12, 14, false, [912], []),
  (110, .iload_n 1, 1, 0, 0, false, [], []),
  (111, .iaload, 1, 0, 0, false, [], []),
  (112, .aload_n 0, 1, 0, 0, false, [], []),
  (113, .getfield 46, 3, 12, 15, false, [913], []),
  (116, .iload_n 1, 1, 0, 0, false, [], []),
  (117, .iaload, 1, 0, 0, false, [], []),
  (118, .aload_n 0, 1, 0, 0, false, [], []),
  (119, .getfield 49, 3, 12, 16, false, [914], []),
  (122, .iload_n 1, 1, 0, 0, false, [], []),
  (123, .iaload, 1, 0, 0, false, [], []),
  (124, .invokevirtual 224, 3, 181, 4, false, [1184, 91, 1187, 1186, 62], []),
  (127, .istore 6, 2, 0, 0, false, [], []),
  (129, .iload 6, 2, 0, 0, false, [], []),
  (131, .ifCond .ge 7, 3, 138, 0, false, [], []),
  (134, .iload_n 2, 1, 0, 0, false, [], []),
  (135, .goto 6, 3, 141, 0, false, [], []),
  (138, .iload_n 2, 1, 0, 0, false, [], []),
  (139, .iconst 1, 1, 0, 0, false, [], [(1, 0)]),
  (140, .iadd, 1, 0, 0, false, [], []),
  (141, .ireturn, 1, 0, 0, false, [], [])])
def mt_183 : XM := (⟨"PuppetTurnsModel", "runPlay", "(Z)I"⟩, prog_14_method_63_code, 6, (Option.some Jvm.ClassFile.FieldType.int), { frames := 7, cells := 0, slots := 0, locals := 166 }, 12, [
(0, .iconst 0, 1, 0, 0, false, [], [(0, 0)]),
  (1, .istore_n 2, 1, 0, 0, false, [], []),
  (2, .iconst 0, 1, 0, 0, false, [], [(0, 0)]),
  (3, .istore_n 3, 1, 0, 0, false, [], []),
  (4, .iconst 0, 1, 0, 0, false, [], [(0, 0)]),
  (5, .istore 4, 2, 0, 0, false, [], []),
  (7, .aload_n 0, 1, 0, 0, false, [], []),
  (8, .getfield 178, 3, 12, 25, false, [923], []),
  (11, .ifCond .eq 139, 3, 150, 0, false, [], []),
  (14, .iload 4, 2, 0, 0, false, [], []),
  (16, .aload_n 0, 1, 0, 0, false, [], []),
  (17, .getfield 199, 3, 12, 17, false, [915], []),
  (20, .if_icmp .ge 130, 3, 150, 0, false, [], []),
  (23, .aload_n 0, 1, 0, 0, false, [], []),
  (24, .getfield 34, 3, 12, 11, false, [909], []),
  (27, .iload 4, 2, 0, 0, false, [], []),
  (29, .iaload, 1, 0, 0, false, [], []),
  (30, .ifCond .ne 18, 3, 48, 0, false, [], []),
  (33, .aload_n 0, 1, 0, 0, false, [], []),
  (34, .iload 4, 2, 0, 0, false, [], []),
  (36, .iload_n 2, 1, 0, 0, false, [], []),
  (37, .iload_n 1, 1, 0, 0, false, [], []),
  (38, .invokevirtual 227, 3, 182, 3, false, [1176, 91, 1179, 1178, 60], []),
  (41, .istore_n 2, 1, 0, 0, false, [], []),
  (42, .iinc 4 1, 3, 0, 0, false, [], [(1, 0)]),
  (45, .goto (-38), 3, 7, 0, false, [], []),
  (48, .aload_n 0, 1, 0, 0, false, [], []),
  (49, .getfield 34, 3, 12, 11, false, [909], []),
  (52, .iload 4, 2, 0, 0, false, [], []),
  (54, .iaload, 1, 0, 0, false, [], []),
  (55, .iconst 1, 1, 0, 0, false, [], [(1, 0)]),
  (56, .if_icmp .ne 25, 3, 81, 0, false, [], []),
  (59, .aload_n 0, 1, 0, 0, false, [], []),
  (60, .getfield 55, 3, 12, 19, false, [917], []),
  (63, .iload_n 3, 1, 0, 0, false, [], []),
  (64, .aload_n 0, 1, 0, 0, false, [], []),
  (65, .getfield 43, 3, 12, 14, false, [912], []),
  (68, .iload 4, 2, 0, 0, false, [], []),
  (70, .iaload, 1, 0, 0, false, [], []),
  (71, .iastore, 1, 0, 0, false, [], []),
  (72, .iinc 3 1, 3, 0, 0, false, [], [(1, 0)]),
  (75, .iinc 4 1, 3, 0, 0, false, [], [(1, 0)]),
  (78, .goto (-71), 3, 7, 0, false, [], []),
  (81, .aload_n 0, 1, 0, 0, false, [], []),
  (82, .getfield 55, 3, 12, 19, false, [917], []),
  (85, .iload_n 3, 1, 0, 0, false, [], []),
  (86, .iconst 1, 1, 0, 0, false, [], [(1, 0)]),
  (87, .isub, 1, 0, 0, false, [], []),
  (88, .dup2, 1, 0, 0, false, [], []),
  (89, .iaload, 1, 0, 0, false, [], []),
  (90, .iconst 1, 1, 0, 0, false, [], [(1, 0)]),
  (91, .isub, 1, 0, 0, false, [], []),
  (92, .iastore, 1, 0, 0, false, [], []),
  (93, .aload_n 0, 1, 0, 0, false, [], []),
  (94, .getfield 55, 3, 12, 19, false, [917], []),
  (97, .iload_n 3, 1, 0, 0, false, [], []),
  (98, .iconst 1, 1, 0, 0, false, [], [(1, 0)]),
  (99, .isub, 1, 0, 0, false, [], []),
  (100, .iaload, 1, 0, 0, false, [], []),
  (101, .ifCond .le 7, 3, 108, 0, false, [], []),
  (104, .iconst 1, 1, 0, 0, false, [], [(1, 0)]),
  (105, .goto 4, 3, 109, 0, false, [], []),
  (108, .iconst 0, 1, 0, 0, false, [], [(0, 0)]),
  (109, .istore 5, 2, 0, 0, false, [], []),
  (111, .iload_n 3, 1, 0, 0, false, [], []),
  (112, .iload 5, 2, 0, 0, false, [], []),
  (114, .ifCond .eq 7, 3, 121, 0, false, [], []),
  (117, .iconst 0, 1, 0, 0, false, [], [(0, 0)]),
  (118, .goto 4, 3, 122, 0, false, [], []),
  (121, .iconst 1, 1, 0, 0, false, [], [(1, 0)]),
  (122, .isub, 1, 0, 0, false, [], []),
  (123, .istore_n 3, 1, 0, 0, false, [], []),
  (124, .iload 5, 2, 0, 0, false, [], []),
  (126, .ifCond .eq 15, 3, 141, 0, false, [], []),
  (129, .aload_n 0, 1, 0, 0, false, [], []),
  (130, .getfield 43, 3, 12, 14, false, [912], []),
  (133, .iload 4, 2, 0, 0, false, [], []),
  (135, .iaload, 1, 0, 0, false, [], []),
  (136, .iconst 1, 1, 0, 0, false, [], [(1, 0)]),
  (137, .iadd, 1, 0, 0, false, [], []),
  (138, .goto 7, 3, 145, 0, false, [], []),
  (141, .iload 4, 2, 0, 0, false, [], []),
  (143, .iconst 1, 1, 0, 0, false, [], [(1, 0)]),
  (144, .iadd, 1, 0, 0, false, [], []),
  (145, .istore 4, 2, 0, 0, false, [], []),
  (147, .goto (-140), 3, 7, 0, false, [], []),
  (150, .iload_n 2, 1, 0, 0, false, [], []),
  (151, .ireturn, 1, 0, 0, false, [], [])])
def mt_184 : XM := (⟨"PuppetTurnsModel", "run", "()I"⟩, prog_14_method_64_code, 4, (Option.some Jvm.ClassFile.FieldType.int), { frames := 8, cells := 0, slots := 0, locals := 191 }, 12, [
(0, .aload_n 0, 1, 0, 0, false, [], []),
  (1, .iconst 0, 1, 0, 0, false, [], [(0, 0)]),
  (2, .putfield 64, 3, 12, 0, false, [898], []),
  (5, .aload_n 0, 1, 0, 0, false, [], []),
  (6, .invokevirtual 231, 3, 179, 0, false, [1129, 91, 1132, 1131, 49], []),
  (9, .aload_n 0, 1, 0, 0, false, [], []),
  (10, .getfield 178, 3, 12, 25, false, [923], []),
  (13, .ifCond .eq 9, 3, 22, 0, false, [], []),
  (16, .aload_n 0, 1, 0, 0, false, [], []),
  (17, .iconst 1, 1, 0, 0, false, [], [(1, 0)]),
  (18, .invokevirtual 234, 3, 183, 1, false, [1172, 91, 1175, 1174, 59], []),
  (21, .pop, 1, 0, 0, false, [], []),
  (22, .aload_n 0, 1, 0, 0, false, [], []),
  (23, .getfield 178, 3, 12, 25, false, [923], []),
  (26, .ifCond .ne 14, 3, 40, 0, false, [], []),
  (29, .sipush (-1000), 3, 0, 0, false, [], [((-1000), 0)]),
  (32, .aload_n 0, 1, 0, 0, false, [], []),
  (33, .getfield 61, 3, 12, 22, false, [920], []),
  (36, .iconst 1, 1, 0, 0, false, [], [(1, 0)]),
  (37, .iaload, 1, 0, 0, false, [], []),
  (38, .isub, 1, 0, 0, false, [], []),
  (39, .ireturn, 1, 0, 0, false, [], []),
  (40, .iconst 0, 1, 0, 0, false, [], [(0, 0)]),
  (41, .istore_n 1, 1, 0, 0, false, [], []),
  (42, .iload_n 1, 1, 0, 0, false, [], []),
  (43, .sipush 270, 3, 0, 0, false, [], [(270, 0)]),
  (46, .if_icmp .ge 21, 3, 67, 0, false, [], []),
  (49, .aload_n 0, 1, 0, 0, false, [], []),
  (50, .getfield 13, 3, 12, 2, false, [900], []),
  (53, .iload_n 1, 1, 0, 0, false, [], []),
  (54, .aload_n 0, 1, 0, 0, false, [], []),
  (55, .getfield 7, 3, 12, 1, false, [899], []),
  (58, .iload_n 1, 1, 0, 0, false, [], []),
  (59, .iaload, 1, 0, 0, false, [], []),
  (60, .iastore, 1, 0, 0, false, [], []),
  (61, .iinc 1 1, 3, 0, 0, false, [], [(1, 0)]),
  (64, .goto (-22), 3, 42, 0, false, [], []),
  (67, .aload_n 0, 1, 0, 0, false, [], []),
  (68, .iconst 0, 1, 0, 0, false, [], [(0, 0)]),
  (69, .invokevirtual 234, 3, 183, 1, false, [1172, 91, 1175, 1174, 59], []),
  (72, .istore_n 1, 1, 0, 0, false, [], []),
  (73, .iconst 0, 1, 0, 0, false, [], [(0, 0)]),
  (74, .istore_n 2, 1, 0, 0, false, [], []),
  (75, .iload_n 2, 1, 0, 0, false, [], []),
  (76, .sipush 270, 3, 0, 0, false, [], [(270, 0)]),
  (79, .if_icmp .ge 35, 3, 114, 0, false, [], []),
  (82, .aload_n 0, 1, 0, 0, false, [], []),
  (83, .getfield 7, 3, 12, 1, false, [899], []),
  (86, .iload_n 2, 1, 0, 0, false, [], []),
  (87, .iaload, 1, 0, 0, false, [], []),
  (88, .istore_n 3, 1, 0, 0, false, [], []),
  (89, .aload_n 0, 1, 0, 0, false, [], []),
  (90, .getfield 7, 3, 12, 1, false, [899], []),
  (93, .iload_n 2, 1, 0, 0, false, [], []),
  (94, .aload_n 0, 1, 0, 0, false, [], []),
  (95, .getfield 13, 3, 12, 2, false, [900], []),
  (98, .iload_n 2, 1, 0, 0, false, [], []),
  (99, .iaload, 1, 0, 0, false, [], []),
  (100, .iastore, 1, 0, 0, false, [], []),
  (101, .aload_n 0, 1, 0, 0, false, [], []),
  (102, .getfield 13, 3, 12, 2, false, [900], []),
  (105, .iload_n 2, 1, 0, 0, false, [], []),
  (106, .iload_n 3, 1, 0, 0, false, [], []),
  (107, .iastore, 1, 0, 0, false, [], []),
  (108, .iinc 2 1, 3, 0, 0, false, [], [(1, 0)]),
  (111, .goto (-36), 3, 75, 0, false, [], []),
  (114, .aload_n 0, 1, 0, 0, false, [], []),
  (115, .getfield 178, 3, 12, 25, false, [923], []),
  (118, .ifCond .ne 14, 3, 132, 0, false, [], []),
  (121, .sipush (-1000), 3, 0, 0, false, [], [((-1000), 0)]),
  (124, .aload_n 0, 1, 0, 0, false, [], []),
  (125, .getfield 61, 3, 12, 22, false, [920], []),
  (128, .iconst 1, 1, 0, 0, false, [], [(1, 0)]),
  (129, .iaload, 1, 0, 0, false, [], []),
  (130, .isub, 1, 0, 0, false, [], []),
  (131, .ireturn, 1, 0, 0, false, [], []),
  (132, .aload_n 0, 1, 0, 0, false, [], []),
  (133, .invokevirtual 103, 3, 124, 0, false, [984, 91, 987, 986, 28], []),
  (136, .iconst 0, 1, 0, 0, false, [], [(0, 0)]),
  (137, .istore_n 2, 1, 0, 0, false, [], []),
  (138, .iload_n 2, 1, 0, 0, false, [], []),
  (139, .sipush 270, 3, 0, 0, false, [], [(270, 0)]),
  (142, .if_icmp .ge 21, 3, 163, 0, false, [], []),
  (145, .aload_n 0, 1, 0, 0, false, [], []),
  (146, .getfield 7, 3, 12, 1, false, [899], []),
  (149, .iload_n 2, 1, 0, 0, false, [], []),
  (150, .aload_n 0, 1, 0, 0, false, [], []),
  (151, .getfield 13, 3, 12, 2, false, [900], []),
  (154, .iload_n 2, 1, 0, 0, false, [], []),
  (155, .iaload, 1, 0, 0, false, [], []),
  (156, .iastore, 1, 0, 0, false, [], []),
  (157, .iinc 2 1, 3, 0, 0, false, [], [(1, 0)]),
  (160, .goto (-22), 3, 138, 0, false, [], []),
  (163, .iload_n 1, 1, 0, 0, false, [], []),
  (164, .ireturn, 1, 0, 0, false, [], [])])
def mt_185 : XM := (⟨"PuppetTurnsModel", "failure", "(I)I"⟩, prog_14_method_65_code, 2, (Option.some Jvm.ClassFile.FieldType.int), { frames := 1, cells := 0, slots := 0, locals := 22 }, 12, [
(0, .aload_n 0, 1, 0, 0, false, [], []),
  (1, .iconst 0, 1, 0, 0, false, [], [(0, 0)]),
  (2, .putfield 64, 3, 12, 0, false, [898], []),
  (5, .iload_n 1, 1, 0, 0, false, [], []),
  (6, .iconst 0, 1, 0, 0, false, [], [(0, 0)]),
  (7, .iconst 4, 1, 0, 0, false, [], [(4, 0)]),
  (8, .invokestatic 71, 3, 123, 3, false, [981, 91, 983, 982], []),
  (11, .ifCond .ne 8, 3, 19, 0, false, [], []),
  (14, .bipush (-101), 2, 0, 0, false, [], [((-101), 0)]),
  (16, .goto 21, 3, 37, 0, false, [], []),
  (19, .aload_n 0, 1, 0, 0, false, [], []),
  (20, .getfield 182, 3, 12, 21, false, [919], []),
  (23, .ifCond .eq 12, 3, 35, 0, false, [], []),
  (26, .aload_n 0, 1, 0, 0, false, [], []),
  (27, .getfield 61, 3, 12, 22, false, [920], []),
  (30, .iload_n 1, 1, 0, 0, false, [], []),
  (31, .iaload, 1, 0, 0, false, [], []),
  (32, .goto 5, 3, 37, 0, false, [], []),
  (35, .bipush (-109), 2, 0, 0, false, [], [((-109), 0)]),
  (37, .ireturn, 1, 0, 0, false, [], [])])
def mt_186 : XM := (⟨"PuppetTurnsModel", "allDots", "()I"⟩, prog_14_method_66_code, 3, (Option.some Jvm.ClassFile.FieldType.int), { frames := 7, cells := 0, slots := 0, locals := 161 }, 12, [
(0, .iconst 0, 1, 0, 0, false, [], [(0, 0)]),
  (1, .istore_n 1, 1, 0, 0, false, [], []),
  (2, .iconst 0, 1, 0, 0, false, [], [(0, 0)]),
  (3, .istore_n 2, 1, 0, 0, false, [], []),
  (4, .iload_n 2, 1, 0, 0, false, [], []),
  (5, .bipush 48, 2, 0, 0, false, [], [(48, 0)]),
  (7, .if_icmp .ge 17, 3, 24, 0, false, [], []),
  (10, .iload_n 1, 1, 0, 0, false, [], []),
  (11, .aload_n 0, 1, 0, 0, false, [], []),
  (12, .iload_n 2, 1, 0, 0, false, [], []),
  (13, .invokevirtual 238, 3, 140, 1, false, [1200, 91, 1203, 1202, 64], []),
  (16, .iadd, 1, 0, 0, false, [], []),
  (17, .istore_n 1, 1, 0, 0, false, [], []),
  (18, .iinc 2 1, 3, 0, 0, false, [], [(1, 0)]),
  (21, .goto (-17), 3, 4, 0, false, [], []),
  (24, .iload_n 1, 1, 0, 0, false, [], []),
  (25, .ireturn, 1, 0, 0, false, [], [])])
def mt_187 : XM := (⟨"PuppetTurnsModel", "count", "(I)I"⟩, prog_14_method_67_code, 2, (Option.some Jvm.ClassFile.FieldType.int), { frames := 8, cells := 0, slots := 0, locals := 183 }, 12, [
(0, .aload_n 0, 1, 0, 0, false, [], []),
  (1, .iconst 0, 1, 0, 0, false, [], [(0, 0)]),
  (2, .putfield 64, 3, 12, 0, false, [898], []),
  (5, .iload_n 1, 1, 0, 0, false, [], []),
  (6, .tableswitch 134 0 10 #[58, 65, 72, 79, 86, 93, 100, 114, 119, 124, 129], 58, 140, 0, false, [], [(0, 64), (1, 71), (2, 78), (3, 85), (4, 92), (5, 99), (6, 106), (7, 120), (8, 125), (9, 130), (10, 135)]),
  (64, .aload_n 0, 1, 0, 0, false, [], []),
  (65, .getfield 7, 3, 12, 1, false, [899], []),
  (68, .iconst 1, 1, 0, 0, false, [], [(1, 0)]),
  (69, .iaload, 1, 0, 0, false, [], []),
  (70, .ireturn, 1, 0, 0, false, [], []),
  (71, .aload_n 0, 1, 0, 0, false, [], []),
  (72, .getfield 7, 3, 12, 1, false, [899], []),
  (75, .iconst 0, 1, 0, 0, false, [], [(0, 0)]),
  (76, .iaload, 1, 0, 0, false, [], []),
  (77, .ireturn, 1, 0, 0, false, [], []),
  (78, .aload_n 0, 1, 0, 0, false, [], []),
  (79, .getfield 7, 3, 12, 1, false, [899], []),
  (82, .iconst 2, 1, 0, 0, false, [], [(2, 0)]),
  (83, .iaload, 1, 0, 0, false, [], []),
  (84, .ireturn, 1, 0, 0, false, [], []),
  (85, .aload_n 0, 1, 0, 0, false, [], []),
  (86, .getfield 7, 3, 12, 1, false, [899], []),
  (89, .iconst 3, 1, 0, 0, false, [], [(3, 0)]),
  (90, .iaload, 1, 0, 0, false, [], []),
  (91, .ireturn, 1, 0, 0, false, [], []),
  (92, .aload_n 0, 1, 0, 0, false, [], []),
  (93, .getfield 7, 3, 12, 1, false, [899], []),
  (96, .iconst 4, 1, 0, 0, false, [], [(4, 0)]),
  (97, .iaload, 1, 0, 0, false, [], []),
  (98, .ireturn, 1, 0, 0, false, [], []),
  (99, .aload_n 0, 1, 0, 0, false, [], []),
  (100, .getfield 7, 3, 12, 1, false, [899], []),
  (103, .iconst 5, 1, 0, 0, false, [], [(5, 0)]),
  (104, .iaload, 1, 0, 0, false, [], []),
  (105, .ireturn, 1, 0, 0, false, [], []),
  (106, .aload_n 0, 1, 0, 0, false, [], []),
  (107, .aload_n 0, 1, 0, 0, false, [], []),
  (108, .getfield 7, 3, 12, 1, false, [899], []),
  (111, .bipush 6, 2, 0, 0, false, [], [(6, 0)]),
  (113, .invokevirtual 151, 3, 133, 2, false, [1102, 91, 1105, 1104, 47], []),
  (116, .invokestatic 159, 3, 134, 1, false, [1110, 91, 1112, 1111], []),
  (119, .ireturn, 1, 0, 0, false, [], []),
  (120, .aload_n 0, 1, 0, 0, false, [], []),
  (121, .invokevirtual 241, 3, 186, 0, false, [1196, 91, 1199, 1198, 63], []),
  (124, .ireturn, 1, 0, 0, false, [], []),
  (125, .aload_n 0, 1, 0, 0, false, [], []),
  (126, .invokevirtual 244, 3, 141, 0, false, [1220, 91, 1223, 1222, 69], []),
  (129, .ireturn, 1, 0, 0, false, [], []),
  (130, .aload_n 0, 1, 0, 0, false, [], []),
  (131, .getfield 68, 3, 12, 4, false, [902], []),
  (134, .ireturn, 1, 0, 0, false, [], []),
  (135, .aload_n 0, 1, 0, 0, false, [], []),
  (136, .getfield 169, 3, 12, 6, false, [904], []),
  (139, .ireturn, 1, 0, 0, false, [], []),
  (140, .bipush (-101), 2, 0, 0, false, [], [((-101), 0)]),
  (142, .ireturn, 1, 0, 0, false, [], [])])
def mt_188 : XM := (⟨"PuppetTurnsModel", "hiddenLinesOf", "(I)I"⟩, prog_14_method_68_code, 3, (Option.some Jvm.ClassFile.FieldType.int), { frames := 4, cells := 0, slots := 0, locals := 92 }, 12, [
(0, .aload_n 0, 1, 0, 0, false, [], []),
  (1, .aload_n 0, 1, 0, 0, false, [], []),
  (2, .getfield 7, 3, 12, 1, false, [899], []),
  (5, .bipush 6, 2, 0, 0, false, [], [(6, 0)]),
  (7, .invokevirtual 151, 3, 133, 2, false, [1102, 91, 1105, 1104, 47], []),
  (10, .istore_n 2, 1, 0, 0, false, [], []),
  (11, .iload_n 2, 1, 0, 0, false, [], []),
  (12, .ifCond .ne 7, 3, 19, 0, false, [], []),
  (15, .iconst 0, 1, 0, 0, false, [], [(0, 0)]),
  (16, .goto 9, 3, 25, 0, false, [], []),
  (19, .aload_n 0, 1, 0, 0, false, [], []),
  (20, .getfield 31, 3, 12, 10, false, [908], []),
  (23, .iload_n 1, 1, 0, 0, false, [], []),
  (24, .iaload, 1, 0, 0, false, [], []),
  (25, .ireturn, 1, 0, 0, false, [], [])])
def mt_189 : XM := (⟨"PuppetTurnsModel", "puppet", "(II)I"⟩, prog_14_method_69_code, 3, (Option.some Jvm.ClassFile.FieldType.int), { frames := 5, cells := 0, slots := 0, locals := 114 }, 12, [
(0, .aload_n 0, 1, 0, 0, false, [], []),
  (1, .iconst 0, 1, 0, 0, false, [], [(0, 0)]),
  (2, .putfield 64, 3, 12, 0, false, [898], []),
  (5, .aload_n 0, 1, 0, 0, false, [], []),
  (6, .iload_n 1, 1, 0, 0, false, [], []),
  (7, .invokevirtual 113, 3, 128, 1, false, [1003, 91, 1006, 1005, 30], []),
  (10, .ifCond .eq 13, 3, 23, 0, false, [], []),
  (13, .iload_n 2, 1, 0, 0, false, [], []),
  (14, .iconst 0, 1, 0, 0, false, [], [(0, 0)]),
  (15, .bipush 11, 2, 0, 0, false, [], [(11, 0)]),
  (17, .invokestatic 71, 3, 123, 3, false, [981, 91, 983, 982], []),
  (20, .ifCond .ne 6, 3, 26, 0, false, [], []),
  (23, .bipush (-101), 2, 0, 0, false, [], [((-101), 0)]),
  (25, .ireturn, 1, 0, 0, false, [], []),
  (26, .iload_n 2, 1, 0, 0, false, [], []),
  (27, .tableswitch 79 6 11 #[37, 43, 49, 55, 63, 71], 37, 106, 0, false, [], [(6, 64), (7, 70), (8, 76), (9, 82), (10, 90), (11, 98)]),
  (64, .aload_n 0, 1, 0, 0, false, [], []),
  (65, .iload_n 1, 1, 0, 0, false, [], []),
  (66, .invokevirtual 75, 3, 127, 1, false, [1007, 91, 1010, 1009, 31], []),
  (69, .ireturn, 1, 0, 0, false, [], []),
  (70, .aload_n 0, 1, 0, 0, false, [], []),
  (71, .iload_n 1, 1, 0, 0, false, [], []),
  (72, .invokevirtual 121, 3, 132, 1, false, [1027, 91, 1030, 1029, 35], []),
  (75, .ireturn, 1, 0, 0, false, [], []),
  (76, .aload_n 0, 1, 0, 0, false, [], []),
  (77, .iload_n 1, 1, 0, 0, false, [], []),
  (78, .invokevirtual 247, 3, 188, 1, false, [1228, 91, 1231, 1230, 70], []),
  (81, .ireturn, 1, 0, 0, false, [], []),
  (82, .aload_n 0, 1, 0, 0, false, [], []),
  (83, .iload_n 1, 1, 0, 0, false, [], []),
  (84, .bipush 6, 2, 0, 0, false, [], [(6, 0)]),
  (86, .invokevirtual 79, 3, 125, 2, false, [1035, 91, 1038, 1037, 37], []),
  (89, .ireturn, 1, 0, 0, false, [], []),
  (90, .aload_n 0, 1, 0, 0, false, [], []),
  (91, .iload_n 1, 1, 0, 0, false, [], []),
  (92, .bipush 7, 2, 0, 0, false, [], [(7, 0)]),
  (94, .invokevirtual 79, 3, 125, 2, false, [1035, 91, 1038, 1037, 37], []),
  (97, .ireturn, 1, 0, 0, false, [], []),
  (98, .aload_n 0, 1, 0, 0, false, [], []),
  (99, .iload_n 1, 1, 0, 0, false, [], []),
  (100, .bipush 8, 2, 0, 0, false, [], [(8, 0)]),
  (102, .invokevirtual 79, 3, 125, 2, false, [1035, 91, 1038, 1037, 37], []),
  (105, .ireturn, 1, 0, 0, false, [], []),
  (106, .aload_n 0, 1, 0, 0, false, [], []),
  (107, .iload_n 1, 1, 0, 0, false, [], []),
  (108, .iload_n 2, 1, 0, 0, false, [], []),
  (109, .invokevirtual 79, 3, 125, 2, false, [1035, 91, 1038, 1037, 37], []),
  (112, .ireturn, 1, 0, 0, false, [], [])])
def mt_190 : XM := (⟨"PuppetTurnsModel", "line", "(II)I"⟩, prog_14_method_70_code, 4, (Option.some Jvm.ClassFile.FieldType.int), { frames := 7, cells := 0, slots := 0, locals := 161 }, 12, [
(0, .aload_n 0, 1, 0, 0, false, [], []),
  (1, .iconst 0, 1, 0, 0, false, [], [(0, 0)]),
  (2, .putfield 64, 3, 12, 0, false, [898], []),
  (5, .iload_n 1, 1, 0, 0, false, [], []),
  (6, .iconst 0, 1, 0, 0, false, [], [(0, 0)]),
  (7, .bipush 47, 2, 0, 0, false, [], [(47, 0)]),
  (9, .invokestatic 71, 3, 123, 3, false, [981, 91, 983, 982], []),
  (12, .ifCond .eq 12, 3, 24, 0, false, [], []),
  (15, .iload_n 2, 1, 0, 0, false, [], []),
  (16, .iconst 0, 1, 0, 0, false, [], [(0, 0)]),
  (17, .iconst 2, 1, 0, 0, false, [], [(2, 0)]),
  (18, .invokestatic 71, 3, 123, 3, false, [981, 91, 983, 982], []),
  (21, .ifCond .ne 6, 3, 27, 0, false, [], []),
  (24, .bipush (-101), 2, 0, 0, false, [], [((-101), 0)]),
  (26, .ireturn, 1, 0, 0, false, [], []),
  (27, .aload_n 0, 1, 0, 0, false, [], []),
  (28, .iload_n 1, 1, 0, 0, false, [], []),
  (29, .invokevirtual 250, 3, 135, 1, false, [1236, 91, 1239, 1238, 71], []),
  (32, .istore_n 3, 1, 0, 0, false, [], []),
  (33, .iload_n 2, 1, 0, 0, false, [], []),
  (34, .ifCond .ne 7, 3, 41, 0, false, [], []),
  (37, .iload_n 3, 1, 0, 0, false, [], []),
  (38, .goto 36, 3, 74, 0, false, [], []),
  (41, .iload_n 2, 1, 0, 0, false, [], []),
  (42, .iconst 2, 1, 0, 0, false, [], [(2, 0)]),
  (43, .if_icmp .ne 11, 3, 54, 0, false, [], []),
  (46, .aload_n 0, 1, 0, 0, false, [], []),
  (47, .iload_n 1, 1, 0, 0, false, [], []),
  (48, .invokevirtual 238, 3, 140, 1, false, [1200, 91, 1203, 1202, 64], []),
  (51, .goto 23, 3, 74, 0, false, [], []),
  (54, .iload_n 3, 1, 0, 0, false, [], []),
  (55, .aload_n 0, 1, 0, 0, false, [], []),
  (56, .getfield 7, 3, 12, 1, false, [899], []),
  (59, .iconst 2, 1, 0, 0, false, [], [(2, 0)]),
  (60, .iaload, 1, 0, 0, false, [], []),
  (61, .if_icmp .ge 7, 3, 68, 0, false, [], []),
  (64, .iload_n 3, 1, 0, 0, false, [], []),
  (65, .goto 9, 3, 74, 0, false, [], []),
  (68, .aload_n 0, 1, 0, 0, false, [], []),
  (69, .getfield 7, 3, 12, 1, false, [899], []),
  (72, .iconst 2, 1, 0, 0, false, [], [(2, 0)]),
  (73, .iaload, 1, 0, 0, false, [], []),
  (74, .ireturn, 1, 0, 0, false, [], [])])
def mt_191 : XM := (⟨"PuppetTurnsModel", "shown", "(II)I"⟩, prog_14_method_71_code, 3, (Option.some Jvm.ClassFile.FieldType.int), { frames := 4, cells := 0, slots := 0, locals := 89 }, 12, [
(0, .aload_n 0, 1, 0, 0, false, [], []),
  (1, .iconst 0, 1, 0, 0, false, [], [(0, 0)]),
  (2, .putfield 64, 3, 12, 0, false, [898], []),
  (5, .iload_n 1, 1, 0, 0, false, [], []),
  (6, .iconst 0, 1, 0, 0, false, [], [(0, 0)]),
  (7, .bipush 47, 2, 0, 0, false, [], [(47, 0)]),
  (9, .invokestatic 71, 3, 123, 3, false, [981, 91, 983, 982], []),
  (12, .ifCond .eq 7, 3, 19, 0, false, [], []),
  (15, .iload_n 2, 1, 0, 0, false, [], []),
  (16, .ifCond .ge 8, 3, 24, 0, false, [], []),
  (19, .bipush (-101), 2, 0, 0, false, [], [((-101), 0)]),
  (21, .goto 9, 3, 30, 0, false, [], []),
  (24, .aload_n 0, 1, 0, 0, false, [], []),
  (25, .iload_n 1, 1, 0, 0, false, [], []),
  (26, .iload_n 2, 1, 0, 0, false, [], []),
  (27, .invokevirtual 90, 3, 136, 2, false, [1212, 91, 1215, 1214, 67], []),
  (30, .ireturn, 1, 0, 0, false, [], [])])
def mt_192 : XM := (⟨"PuppetTurnsModel", "dot", "(II)I"⟩, prog_14_method_72_code, 3, (Option.some Jvm.ClassFile.FieldType.int), { frames := 6, cells := 0, slots := 0, locals := 138 }, 12, [
(0, .aload_n 0, 1, 0, 0, false, [], []),
  (1, .iconst 0, 1, 0, 0, false, [], [(0, 0)]),
  (2, .putfield 64, 3, 12, 0, false, [898], []),
  (5, .iload_n 1, 1, 0, 0, false, [], []),
  (6, .iconst 0, 1, 0, 0, false, [], [(0, 0)]),
  (7, .bipush 63, 2, 0, 0, false, [], [(63, 0)]),
  (9, .invokestatic 71, 3, 123, 3, false, [981, 91, 983, 982], []),
  (12, .ifCond .eq 22, 3, 34, 0, false, [], []),
  (15, .iload_n 2, 1, 0, 0, false, [], []),
  (16, .iconst 0, 1, 0, 0, false, [], [(0, 0)]),
  (17, .bipush 47, 2, 0, 0, false, [], [(47, 0)]),
  (19, .invokestatic 71, 3, 123, 3, false, [981, 91, 983, 982], []),
  (22, .ifCond .eq 12, 3, 34, 0, false, [], []),
  (25, .aload_n 0, 1, 0, 0, false, [], []),
  (26, .iload_n 1, 1, 0, 0, false, [], []),
  (27, .iload_n 2, 1, 0, 0, false, [], []),
  (28, .invokevirtual 100, 3, 139, 2, false, [1204, 91, 1207, 1206, 65], []),
  (31, .goto 5, 3, 36, 0, false, [], []),
  (34, .bipush (-101), 2, 0, 0, false, [], [((-101), 0)]),
  (36, .ireturn, 1, 0, 0, false, [], [])])
def mt_193 : XM := (⟨"PuppetTurnsModel", "clashing", "(III)I"⟩, prog_14_method_73_code, 4, (Option.some Jvm.ClassFile.FieldType.int), { frames := 5, cells := 0, slots := 0, locals := 115 }, 12, [
(0, .iload_n 1, 1, 0, 0, false, [], []),
  (1, .bipush (-109), 2, 0, 0, false, [], [((-109), 0)]),
  (3, .if_icmp .eq 32, 3, 35, 0, false, [], []),
  (6, .aload_n 0, 1, 0, 0, false, [], []),
  (7, .iload_n 1, 1, 0, 0, false, [], []),
  (8, .iload_n 2, 1, 0, 0, false, [], []),
  (9, .iload_n 3, 1, 0, 0, false, [], []),
  (10, .invokevirtual 93, 3, 137, 3, false, [1216, 91, 1219, 1218, 68], []),
  (13, .ifCond .eq 22, 3, 35, 0, false, [], []),
  (16, .aload_n 0, 1, 0, 0, false, [], []),
  (17, .iload_n 1, 1, 0, 0, false, [], []),
  (18, .iload_n 3, 1, 0, 0, false, [], []),
  (19, .invokevirtual 253, 3, 142, 2, false, [1256, 91, 1259, 1258, 73], []),
  (22, .ifCond .eq 13, 3, 35, 0, false, [], []),
  (25, .aload_n 0, 1, 0, 0, false, [], []),
  (26, .iload_n 2, 1, 0, 0, false, [], []),
  (27, .iload_n 3, 1, 0, 0, false, [], []),
  (28, .iload_n 1, 1, 0, 0, false, [], []),
  (29, .invokevirtual 96, 3, 138, 3, false, [1208, 91, 1211, 1210, 66], []),
  (32, .goto 5, 3, 37, 0, false, [], []),
  (35, .bipush (-109), 2, 0, 0, false, [], [((-109), 0)]),
  (37, .ireturn, 1, 0, 0, false, [], [])])
def mt_194 : XM := (⟨"PuppetTurnsModel", "clash", "(I)I"⟩, prog_14_method_74_code, 6, (Option.some Jvm.ClassFile.FieldType.int), { frames := 6, cells := 0, slots := 0, locals := 138 }, 12, [
(0, .aload_n 0, 1, 0, 0, false, [], []),
  (1, .iconst 0, 1, 0, 0, false, [], [(0, 0)]),
  (2, .putfield 64, 3, 12, 0, false, [898], []),
  (5, .iload_n 1, 1, 0, 0, false, [], []),
  (6, .iconst 0, 1, 0, 0, false, [], [(0, 0)]),
  (7, .iconst 3, 1, 0, 0, false, [], [(3, 0)]),
  (8, .invokestatic 71, 3, 123, 3, false, [981, 91, 983, 982], []),
  (11, .ifCond .ne 6, 3, 17, 0, false, [], []),
  (14, .bipush (-101), 2, 0, 0, false, [], [((-101), 0)]),
  (16, .ireturn, 1, 0, 0, false, [], []),
  (17, .aload_n 0, 1, 0, 0, false, [], []),
  (18, .invokevirtual 244, 3, 141, 0, false, [1220, 91, 1223, 1222, 69], []),
  (21, .istore_n 2, 1, 0, 0, false, [], []),
  (22, .iconst 0, 1, 0, 0, false, [], [(0, 0)]),
  (23, .istore_n 3, 1, 0, 0, false, [], []),
  (24, .iconst 0, 1, 0, 0, false, [], [(0, 0)]),
  (25, .istore 4, 2, 0, 0, false, [], []),
  (27, .iload 4, 2, 0, 0, false, [], []),
  (29, .sipush 3072, 3, 0, 0, false, [], [(3072, 0)]),
  (32, .if_icmp .ge 69, 3, 101, 0, false, [], []),
  (35, .aload_n 0, 1, 0, 0, false, [], []),
  (36, .iload_n 2, 1, 0, 0, false, [], []),
  (37, .iload 4, 2, 0, 0, false, [], []),
  (39, .bipush 64, 2, 0, 0, false, [], [(64, 0)]),
  (41, .irem, 1, 0, 0, false, [], []),
  (42, .iload 4, 2, 0, 0, false, [], []),
  (44, .bipush 64, 2, 0, 0, false, [], [(64, 0)]),
  (46, .idiv, 1, 0, 0, false, [], []),
  (47, .invokevirtual 256, 3, 193, 3, false, [1252, 91, 1255, 1254, 72], []),
  (50, .istore 5, 2, 0, 0, false, [], []),
  (52, .iload 5, 2, 0, 0, false, [], []),
  (54, .bipush (-109), 2, 0, 0, false, [], [((-109), 0)]),
  (56, .if_icmp .eq 39, 3, 95, 0, false, [], []),
  (59, .iload_n 1, 1, 0, 0, false, [], []),
  (60, .ifCond .le 32, 3, 92, 0, false, [], []),
  (63, .iload_n 1, 1, 0, 0, false, [], []),
  (64, .iconst 1, 1, 0, 0, false, [], [(1, 0)]),
  (65, .if_icmp .ne 11, 3, 76, 0, false, [], []),
  (68, .iload 4, 2, 0, 0, false, [], []),
  (70, .bipush 64, 2, 0, 0, false, [], [(64, 0)]),
  (72, .irem, 1, 0, 0, false, [], []),
  (73, .goto 18, 3, 91, 0, false, [], []),
  (76, .iload_n 1, 1, 0, 0, false, [], []),
  (77, .iconst 2, 1, 0, 0, false, [], [(2, 0)]),
  (78, .if_icmp .ne 11, 3, 89, 0, false, [], []),
  (81, .iload 4, 2, 0, 0, false, [], []),
  (83, .bipush 64, 2, 0, 0, false, [], [(64, 0)]),
  (85, .idiv, 1, 0, 0, false, [], []),
  (86, .goto 5, 3, 91, 0, false, [], []),
  (89, .iload 5, 2, 0, 0, false, [], []),
  (91, .ireturn, 1, 0, 0, false, [], []),
  (92, .iinc 3 1, 3, 0, 0, false, [], [(1, 0)]),
  (95, .iinc 4 1, 3, 0, 0, false, [], [(1, 0)]),
  (98, .goto (-71), 3, 27, 0, false, [], []),
  (101, .iload_n 1, 1, 0, 0, false, [], []),
  (102, .ifCond .ne 7, 3, 109, 0, false, [], []),
  (105, .iload_n 3, 1, 0, 0, false, [], []),
  (106, .goto 5, 3, 111, 0, false, [], []),
  (109, .bipush (-109), 2, 0, 0, false, [], [((-109), 0)]),
  (111, .ireturn, 1, 0, 0, false, [], [])])
def mt_195 : XM := (⟨"PuppetTurnsModel", "beginTrial", "()V"⟩, prog_14_method_75_code, 2, (Option.none : Option Jvm.ClassFile.FieldType), { frames := 0, cells := 0, slots := 0, locals := 0 }, 12, [
(0, .iconst 0, 1, 0, 0, false, [], [(0, 0)]),
  (1, .istore_n 1, 1, 0, 0, false, [], []),
  (2, .iload_n 1, 1, 0, 0, false, [], []),
  (3, .aload_n 0, 1, 0, 0, false, [], []),
  (4, .getfield 7, 3, 12, 1, false, [899], []),
  (7, .iconst 1, 1, 0, 0, false, [], [(1, 0)]),
  (8, .iaload, 1, 0, 0, false, [], []),
  (9, .if_icmp .ge 24, 3, 33, 0, false, [], []),
  (12, .aload_n 0, 1, 0, 0, false, [], []),
  (13, .getfield 22, 3, 12, 7, false, [905], []),
  (16, .iload_n 1, 1, 0, 0, false, [], []),
  (17, .aload_n 0, 1, 0, 0, false, [], []),
  (18, .getfield 7, 3, 12, 1, false, [899], []),
  (21, .bipush 6, 2, 0, 0, false, [], [(6, 0)]),
  (23, .iload_n 1, 1, 0, 0, false, [], []),
  (24, .iadd, 1, 0, 0, false, [], []),
  (25, .iaload, 1, 0, 0, false, [], []),
  (26, .iastore, 1, 0, 0, false, [], []),
  (27, .iinc 1 1, 3, 0, 0, false, [], [(1, 0)]),
  (30, .goto (-28), 3, 2, 0, false, [], []),
  (33, .iconst 0, 1, 0, 0, false, [], [(0, 0)]),
  (34, .istore_n 1, 1, 0, 0, false, [], []),
  (35, .iload_n 1, 1, 0, 0, false, [], []),
  (36, .bipush 20, 2, 0, 0, false, [], [(20, 0)]),
  (38, .if_icmp .ge 16, 3, 54, 0, false, [], []),
  (41, .aload_n 0, 1, 0, 0, false, [], []),
  (42, .getfield 28, 3, 12, 9, false, [907], []),
  (45, .iload_n 1, 1, 0, 0, false, [], []),
  (46, .iconst 0, 1, 0, 0, false, [], [(0, 0)]),
  (47, .iastore, 1, 0, 0, false, [], []),
  (48, .iinc 1 1, 3, 0, 0, false, [], [(1, 0)]),
  (51, .goto (-16), 3, 35, 0, false, [], []),
  (54, .return_, 1, 0, 0, false, [], [])])
def mt_196 : XM := (⟨"PuppetTurnsModel", "tryFrame", "(II)I"⟩, prog_14_method_76_code, 5, (Option.some Jvm.ClassFile.FieldType.int), { frames := 4, cells := 0, slots := 0, locals := 92 }, 12, [
(0, .aload_n 0, 1, 0, 0, false, [], []),
  (1, .aload_n 0, 1, 0, 0, false, [], []),
  (2, .getfield 22, 3, 12, 7, false, [905], []),
  (5, .iconst 0, 1, 0, 0, false, [], [(0, 0)]),
  (6, .invokevirtual 151, 3, 133, 2, false, [1102, 91, 1105, 1104, 47], []),
  (9, .istore_n 3, 1, 0, 0, false, [], []),
  (10, .iconst 0, 1, 0, 0, false, [], [(0, 0)]),
  (11, .istore 4, 2, 0, 0, false, [], []),
  (13, .iload 4, 2, 0, 0, false, [], []),
  (15, .bipush 20, 2, 0, 0, false, [], [(20, 0)]),
  (17, .if_icmp .ge 25, 3, 42, 0, false, [], []),
  (20, .aload_n 0, 1, 0, 0, false, [], []),
  (21, .getfield 28, 3, 12, 9, false, [907], []),
  (24, .iload 4, 2, 0, 0, false, [], []),
  (26, .dup2, 1, 0, 0, false, [], []),
  (27, .iaload, 1, 0, 0, false, [], []),
  (28, .iload_n 3, 1, 0, 0, false, [], []),
  (29, .iload 4, 2, 0, 0, false, [], []),
  (31, .ishr, 1, 0, 0, false, [], []),
  (32, .iconst 1, 1, 0, 0, false, [], [(1, 0)]),
  (33, .iand, 1, 0, 0, false, [], []),
  (34, .iadd, 1, 0, 0, false, [], []),
  (35, .iastore, 1, 0, 0, false, [], []),
  (36, .iinc 4 1, 3, 0, 0, false, [], [(1, 0)]),
  (39, .goto (-26), 3, 13, 0, false, [], []),
  (42, .aload_n 0, 1, 0, 0, false, [], []),
  (43, .aload_n 0, 1, 0, 0, false, [], []),
  (44, .getfield 22, 3, 12, 7, false, [905], []),
  (47, .iconst 0, 1, 0, 0, false, [], [(0, 0)]),
  (48, .iload_n 1, 1, 0, 0, false, [], []),
  (49, .iload_n 2, 1, 0, 0, false, [], []),
  (50, .iload_n 3, 1, 0, 0, false, [], []),
  (51, .invokevirtual 155, 3, 162, 5, false, [1106, 91, 1109, 1108, 48], []),
  (54, .iload_n 3, 1, 0, 0, false, [], []),
  (55, .ireturn, 1, 0, 0, false, [], [])])
def mt_197 : XM := (⟨"PuppetTurnsModel", "hiddenIn", "(II)I"⟩, prog_14_method_77_code, 5, (Option.some Jvm.ClassFile.FieldType.int), { frames := 5, cells := 0, slots := 0, locals := 116 }, 12, [
(0, .aload_n 0, 1, 0, 0, false, [], []),
  (1, .iconst 0, 1, 0, 0, false, [], [(0, 0)]),
  (2, .putfield 64, 3, 12, 0, false, [898], []),
  (5, .aload_n 0, 1, 0, 0, false, [], []),
  (6, .iload_n 1, 1, 0, 0, false, [], []),
  (7, .invokevirtual 113, 3, 128, 1, false, [1003, 91, 1006, 1005, 30], []),
  (10, .ifCond .eq 13, 3, 23, 0, false, [], []),
  (13, .iload_n 2, 1, 0, 0, false, [], []),
  (14, .iconst 1, 1, 0, 0, false, [], [(1, 0)]),
  (15, .bipush 60, 2, 0, 0, false, [], [(60, 0)]),
  (17, .invokestatic 71, 3, 123, 3, false, [981, 91, 983, 982], []),
  (20, .ifCond .ne 6, 3, 26, 0, false, [], []),
  (23, .bipush (-101), 2, 0, 0, false, [], [((-101), 0)]),
  (25, .ireturn, 1, 0, 0, false, [], []),
  (26, .aload_n 0, 1, 0, 0, false, [], []),
  (27, .invokevirtual 259, 3, 195, 0, false, [1264, 91, 1267, 1266, 74], []),
  (30, .iconst 0, 1, 0, 0, false, [], [(0, 0)]),
  (31, .istore_n 3, 1, 0, 0, false, [], []),
  (32, .iconst 0, 1, 0, 0, false, [], [(0, 0)]),
  (33, .istore 4, 2, 0, 0, false, [], []),
  (35, .iload 4, 2, 0, 0, false, [], []),
  (37, .iload_n 2, 1, 0, 0, false, [], []),
  (38, .if_icmp .ge 28, 3, 66, 0, false, [], []),
  (41, .iload_n 3, 1, 0, 0, false, [], []),
  (42, .aload_n 0, 1, 0, 0, false, [], []),
  (43, .aload_n 0, 1, 0, 0, false, [], []),
  (44, .getfield 7, 3, 12, 1, false, [899], []),
  (47, .iconst 3, 1, 0, 0, false, [], [(3, 0)]),
  (48, .iaload, 1, 0, 0, false, [], []),
  (49, .aload_n 0, 1, 0, 0, false, [], []),
  (50, .getfield 7, 3, 12, 1, false, [899], []),
  (53, .iconst 4, 1, 0, 0, false, [], [(4, 0)]),
  (54, .iaload, 1, 0, 0, false, [], []),
  (55, .invokevirtual 262, 3, 196, 2, false, [1268, 91, 1271, 1270, 75], []),
  (58, .ior, 1, 0, 0, false, [], []),
  (59, .istore_n 3, 1, 0, 0, false, [], []),
  (60, .iinc 4 1, 3, 0, 0, false, [], [(1, 0)]),
  (63, .goto (-28), 3, 35, 0, false, [], []),
  (66, .iload_n 3, 1, 0, 0, false, [], []),
  (67, .ifCond .ne 7, 3, 74, 0, false, [], []),
  (70, .iconst 0, 1, 0, 0, false, [], [(0, 0)]),
  (71, .goto 9, 3, 80, 0, false, [], []),
  (74, .aload_n 0, 1, 0, 0, false, [], []),
  (75, .getfield 28, 3, 12, 9, false, [907], []),
  (78, .iload_n 1, 1, 0, 0, false, [], []),
  (79, .iaload, 1, 0, 0, false, [], []),
  (80, .ireturn, 1, 0, 0, false, [], [])])
def mt_198 : XM := (⟨"PuppetTurnsModel", "allShownIn", "()I"⟩, prog_14_method_78_code, 3, (Option.some Jvm.ClassFile.FieldType.int), { frames := 5, cells := 0, slots := 0, locals := 116 }, 12, [
(0, .aload_n 0, 1, 0, 0, false, [], []),
  (1, .iconst 0, 1, 0, 0, false, [], [(0, 0)]),
  (2, .putfield 64, 3, 12, 0, false, [898], []),
  (5, .aload_n 0, 1, 0, 0, false, [], []),
  (6, .invokevirtual 259, 3, 195, 0, false, [1264, 91, 1267, 1266, 74], []),
  (9, .iconst 0, 1, 0, 0, false, [], [(0, 0)]),
  (10, .istore_n 1, 1, 0, 0, false, [], []),
  (11, .iconst 0, 1, 0, 0, false, [], [(0, 0)]),
  (12, .istore_n 2, 1, 0, 0, false, [], []),
  (13, .iload_n 2, 1, 0, 0, false, [], []),
  (14, .aload_n 0, 1, 0, 0, false, [], []),
  (15, .getfield 7, 3, 12, 1, false, [899], []),
  (18, .iconst 1, 1, 0, 0, false, [], [(1, 0)]),
  (19, .iaload, 1, 0, 0, false, [], []),
  (20, .if_icmp .ge 23, 3, 43, 0, false, [], []),
  (23, .iload_n 1, 1, 0, 0, false, [], []),
  (24, .iconst 1, 1, 0, 0, false, [], [(1, 0)]),
  (25, .aload_n 0, 1, 0, 0, false, [], []),
  (26, .getfield 7, 3, 12, 1, false, [899], []),
  (29, .bipush 6, 2, 0, 0, false, [], [(6, 0)]),
  (31, .iload_n 2, 1, 0, 0, false, [], []),
  (32, .iadd, 1, 0, 0, false, [], []),
  (33, .iaload, 1, 0, 0, false, [], []),
  (34, .ishl, 1, 0, 0, false, [], []),
  (35, .ior, 1, 0, 0, false, [], []),
  (36, .istore_n 1, 1, 0, 0, false, [], []),
  (37, .iinc 2 1, 3, 0, 0, false, [], [(1, 0)]),
  (40, .goto (-27), 3, 13, 0, false, [], []),
  (43, .iconst 0, 1, 0, 0, false, [], [(0, 0)]),
  (44, .istore_n 2, 1, 0, 0, false, [], []),
  (45, .iload_n 1, 1, 0, 0, false, [], []),
  (46, .ifCond .eq 34, 3, 80, 0, false, [], []),
  (49, .iload_n 2, 1, 0, 0, false, [], []),
  (50, .bipush 60, 2, 0, 0, false, [], [(60, 0)]),
  (52, .if_icmp .ge 28, 3, 80, 0, false, [], []),
  (55, .iload_n 1, 1, 0, 0, false, [], []),
  (56, .aload_n 0, 1, 0, 0, false, [], []),
  (57, .aload_n 0, 1, 0, 0, false, [], []),
  (58, .getfield 7, 3, 12, 1, false, [899], []),
  (61, .iconst 3, 1, 0, 0, false, [], [(3, 0)]),
  (62, .iaload, 1, 0, 0, false, [], []),
  (63, .aload_n 0, 1, 0, 0, false, [], []),
  (64, .getfield 7, 3, 12, 1, false, [899], []),
  (67, .iconst 4, 1, 0, 0, false, [], [(4, 0)]),
  (68, .iaload, 1, 0, 0, false, [], []),
  (69, .invokevirtual 262, 3, 196, 2, false, [1268, 91, 1271, 1270, 75], []),
  (72, .iand, 1, 0, 0, false, [], []),
  (73, .istore_n 1, 1, 0, 0, false, [], []),
  (74, .iinc 2 1, 3, 0, 0, false, [], [(1, 0)]),
  (77, .goto (-32), 3, 45, 0, false, [], []),
  (80, .iload_n 1, 1, 0, 0, false, [], []),
  (81, .ifCond .ne 7, 3, 88, 0, false, [], []),
  (84, .iload_n 2, 1, 0, 0, false, [], []),
  (85, .goto 5, 3, 90, 0, false, [], []),
  (88, .bipush (-109), 2, 0, 0, false, [], [((-109), 0)]),
  (90, .ireturn, 1, 0, 0, false, [], [])])
def mt_199 : XM := (⟨"PuppetTurnsModel", "greatestBy", "(I)I"⟩, prog_14_method_79_code, 5, (Option.some Jvm.ClassFile.FieldType.int), { frames := 5, cells := 0, slots := 0, locals := 116 }, 12, [
(0, .aload_n 0, 1, 0, 0, false, [], []),
  (1, .invokevirtual 259, 3, 195, 0, false, [1264, 91, 1267, 1266, 74], []),
  (4, .iconst 0, 1, 0, 0, false, [], [(0, 0)]),
  (5, .istore_n 2, 1, 0, 0, false, [], []),
  (6, .iconst 0, 1, 0, 0, false, [], [(0, 0)]),
  (7, .istore_n 3, 1, 0, 0, false, [], []),
  (8, .iload_n 3, 1, 0, 0, false, [], []),
  (9, .bipush 20, 2, 0, 0, false, [], [(20, 0)]),
  (11, .if_icmp .ge 18, 3, 29, 0, false, [], []),
  (14, .iload_n 2, 1, 0, 0, false, [], []),
  (15, .aload_n 0, 1, 0, 0, false, [], []),
  (16, .iconst 1, 1, 0, 0, false, [], [(1, 0)]),
  (17, .iload_n 1, 1, 0, 0, false, [], []),
  (18, .invokevirtual 262, 3, 196, 2, false, [1268, 91, 1271, 1270, 75], []),
  (21, .ior, 1, 0, 0, false, [], []),
  (22, .istore_n 2, 1, 0, 0, false, [], []),
  (23, .iinc 3 1, 3, 0, 0, false, [], [(1, 0)]),
  (26, .goto (-18), 3, 8, 0, false, [], []),
  (29, .iconst 0, 1, 0, 0, false, [], [(0, 0)]),
  (30, .istore_n 3, 1, 0, 0, false, [], []),
  (31, .iconst 0, 1, 0, 0, false, [], [(0, 0)]),
  (32, .istore 4, 2, 0, 0, false, [], []),
  (34, .iload 4, 2, 0, 0, false, [], []),
  (36, .bipush 20, 2, 0, 0, false, [], [(20, 0)]),
  (38, .if_icmp .ge 36, 3, 74, 0, false, [], []),
  (41, .iload_n 2, 1, 0, 0, false, [], []),
  (42, .ifCond .eq 32, 3, 74, 0, false, [], []),
  (45, .aload_n 0, 1, 0, 0, false, [], []),
  (46, .getfield 28, 3, 12, 9, false, [907], []),
  (49, .iload 4, 2, 0, 0, false, [], []),
  (51, .iaload, 1, 0, 0, false, [], []),
  (52, .iload_n 3, 1, 0, 0, false, [], []),
  (53, .if_icmp .le 13, 3, 66, 0, false, [], []),
  (56, .aload_n 0, 1, 0, 0, false, [], []),
  (57, .getfield 28, 3, 12, 9, false, [907], []),
  (60, .iload 4, 2, 0, 0, false, [], []),
  (62, .iaload, 1, 0, 0, false, [], []),
  (63, .goto 4, 3, 67, 0, false, [], []),
  (66, .iload_n 3, 1, 0, 0, false, [], []),
  (67, .istore_n 3, 1, 0, 0, false, [], []),
  (68, .iinc 4 1, 3, 0, 0, false, [], [(1, 0)]),
  (71, .goto (-37), 3, 34, 0, false, [], []),
  (74, .iload_n 3, 1, 0, 0, false, [], []),
  (75, .ireturn, 1, 0, 0, false, [], [])])
def mt_200 : XM := (⟨"PuppetTurnsModel", "bestStep", "(I)I"⟩, prog_14_method_80_code, 6, (Option.some Jvm.ClassFile.FieldType.int), { frames := 6, cells := 0, slots := 0, locals := 140 }, 12, [
(0, .aload_n 0, 1, 0, 0, false, [], []),
  (1, .iconst 0, 1, 0, 0, false, [], [(0, 0)]),
  (2, .putfield 64, 3, 12, 0, false, [898], []),
  (5, .iload_n 1, 1, 0, 0, false, [], []),
  (6, .iconst 0, 1, 0, 0, false, [], [(0, 0)]),
  (7, .iconst 1, 1, 0, 0, false, [], [(1, 0)]),
  (8, .invokestatic 71, 3, 123, 3, false, [981, 91, 983, 982], []),
  (11, .ifCond .ne 6, 3, 17, 0, false, [], []),
  (14, .bipush (-101), 2, 0, 0, false, [], [((-101), 0)]),
  (16, .ireturn, 1, 0, 0, false, [], []),
  (17, .iconst 1, 1, 0, 0, false, [], [(1, 0)]),
  (18, .istore_n 2, 1, 0, 0, false, [], []),
  (19, .aload_n 0, 1, 0, 0, false, [], []),
  (20, .iconst 1, 1, 0, 0, false, [], [(1, 0)]),
  (21, .invokevirtual 265, 3, 199, 1, false, [1280, 91, 1283, 1282, 76], []),
  (24, .istore_n 3, 1, 0, 0, false, [], []),
  (25, .iconst 2, 1, 0, 0, false, [], [(2, 0)]),
  (26, .istore 4, 2, 0, 0, false, [], []),
  (28, .iload 4, 2, 0, 0, false, [], []),
  (30, .bipush 19, 2, 0, 0, false, [], [(19, 0)]),
  (32, .if_icmp .gt 43, 3, 75, 0, false, [], []),
  (35, .aload_n 0, 1, 0, 0, false, [], []),
  (36, .iload 4, 2, 0, 0, false, [], []),
  (38, .invokevirtual 265, 3, 199, 1, false, [1280, 91, 1283, 1282, 76], []),
  (41, .istore 5, 2, 0, 0, false, [], []),
  (43, .iload 5, 2, 0, 0, false, [], []),
  (45, .iload_n 3, 1, 0, 0, false, [], []),
  (46, .if_icmp .ge 8, 3, 54, 0, false, [], []),
  (49, .iload 4, 2, 0, 0, false, [], []),
  (51, .goto 4, 3, 55, 0, false, [], []),
  (54, .iload_n 2, 1, 0, 0, false, [], []),
  (55, .istore_n 2, 1, 0, 0, false, [], []),
  (56, .iload 5, 2, 0, 0, false, [], []),
  (58, .iload_n 3, 1, 0, 0, false, [], []),
  (59, .if_icmp .ge 8, 3, 67, 0, false, [], []),
  (62, .iload 5, 2, 0, 0, false, [], []),
  (64, .goto 4, 3, 68, 0, false, [], []),
  (67, .iload_n 3, 1, 0, 0, false, [], []),
  (68, .istore_n 3, 1, 0, 0, false, [], []),
  (69, .iinc 4 1, 3, 0, 0, false, [], [(1, 0)]),
  (72, .goto (-44), 3, 28, 0, false, [], []),
  (75, .iload_n 1, 1, 0, 0, false, [], []),
  (76, .ifCond .ne 7, 3, 83, 0, false, [], []),
  (79, .iload_n 2, 1, 0, 0, false, [], []),
  (80, .goto 4, 3, 84, 0, false, [], []),
  (83, .iload_n 3, 1, 0, 0, false, [], []),
  (84, .ireturn, 1, 0, 0, false, [], [])])
def mt_201 : XM := (⟨"PuppetTurnsModel", "worstLine", "()I"⟩, prog_14_method_81_code, 5, (Option.some Jvm.ClassFile.FieldType.int), { frames := 4, cells := 0, slots := 0, locals := 88 }, 12, [
(0, .aload_n 0, 1, 0, 0, false, [], []),
  (1, .iconst 0, 1, 0, 0, false, [], [(0, 0)]),
  (2, .putfield 64, 3, 12, 0, false, [898], []),
  (5, .bipush (-109), 2, 0, 0, false, [], [((-109), 0)]),
  (7, .istore_n 1, 1, 0, 0, false, [], []),
  (8, .iconst 0, 1, 0, 0, false, [], [(0, 0)]),
  (9, .istore_n 2, 1, 0, 0, false, [], []),
  (10, .iconst 0, 1, 0, 0, false, [], [(0, 0)]),
  (11, .istore_n 3, 1, 0, 0, false, [], []),
  (12, .iload_n 3, 1, 0, 0, false, [], []),
  (13, .bipush 48, 2, 0, 0, false, [], [(48, 0)]),
  (15, .if_icmp .ge 48, 3, 63, 0, false, [], []),
  (18, .aload_n 0, 1, 0, 0, false, [], []),
  (19, .iload_n 3, 1, 0, 0, false, [], []),
  (20, .invokevirtual 250, 3, 135, 1, false, [1236, 91, 1239, 1238, 71], []),
  (23, .aload_n 0, 1, 0, 0, false, [], []),
  (24, .getfield 7, 3, 12, 1, false, [899], []),
  (27, .iconst 2, 1, 0, 0, false, [], [(2, 0)]),
  (28, .iaload, 1, 0, 0, false, [], []),
  (29, .isub, 1, 0, 0, false, [], []),
  (30, .istore 4, 2, 0, 0, false, [], []),
  (32, .iload 4, 2, 0, 0, false, [], []),
  (34, .iload_n 2, 1, 0, 0, false, [], []),
  (35, .if_icmp .le 7, 3, 42, 0, false, [], []),
  (38, .iload_n 3, 1, 0, 0, false, [], []),
  (39, .goto 4, 3, 43, 0, false, [], []),
  (42, .iload_n 1, 1, 0, 0, false, [], []),
  (43, .istore_n 1, 1, 0, 0, false, [], []),
  (44, .iload 4, 2, 0, 0, false, [], []),
  (46, .iload_n 2, 1, 0, 0, false, [], []),
  (47, .if_icmp .le 8, 3, 55, 0, false, [], []),
  (50, .iload 4, 2, 0, 0, false, [], []),
  (52, .goto 4, 3, 56, 0, false, [], []),
  (55, .iload_n 2, 1, 0, 0, false, [], []),
  (56, .istore_n 2, 1, 0, 0, false, [], []),
  (57, .iinc 3 1, 3, 0, 0, false, [], [(1, 0)]),
  (60, .goto (-48), 3, 12, 0, false, [], []),
  (63, .iload_n 1, 1, 0, 0, false, [], []),
  (64, .ireturn, 1, 0, 0, false, [], [])])
def mt_202 : XM := (⟨"java/lang/Long", "bitCount", "(J)I"⟩, prog_15_method_50_code, 2, (Option.some Jvm.ClassFile.FieldType.int), { frames := 0, cells := 0, slots := 0, locals := 0 }, 99, [
(0, .lload_n 0, 1, 0, 0, false, [], []),
  (1, .lload_n 0, 1, 0, 0, false, [], []),
  (2, .iconst 1, 1, 0, 0, false, [], [(1, 0)]),
  (3, .lushr, 1, 0, 0, false, [], []),
  (4, .ldc2_w 314, 3, 6148914691236517205, 0, false, [769], []),
  (7, .land, 1, 0, 0, false, [], []),
  (8, .lsub, 1, 0, 0, false, [], []),
  (9, .lstore_n 0, 1, 0, 0, false, [], []),
  (10, .lload_n 0, 1, 0, 0, false, [], []),
  (11, .ldc2_w 316, 3, 3689348814741910323, 0, false, [770], []),
  (14, .land, 1, 0, 0, false, [], []),
  (15, .lload_n 0, 1, 0, 0, false, [], []),
  (16, .iconst 2, 1, 0, 0, false, [], [(2, 0)]),
  (17, .lushr, 1, 0, 0, false, [], []),
  (18, .ldc2_w 316, 3, 3689348814741910323, 0, false, [770], []),
  (21, .land, 1, 0, 0, false, [], []),
  (22, .ladd, 1, 0, 0, false, [], []),
  (23, .lstore_n 0, 1, 0, 0, false, [], []),
  (24, .lload_n 0, 1, 0, 0, false, [], []),
  (25, .lload_n 0, 1, 0, 0, false, [], []),
  (26, .iconst 4, 1, 0, 0, false, [], [(4, 0)]),
  (27, .lushr, 1, 0, 0, false, [], []),
  (28, .ladd, 1, 0, 0, false, [], []),
  (29, .ldc2_w 318, 3, 1085102592571150095, 0, false, [771], []),
  (32, .land, 1, 0, 0, false, [], []),
  (33, .lstore_n 0, 1, 0, 0, false, [], []),
  (34, .lload_n 0, 1, 0, 0, false, [], []),
  (35, .lload_n 0, 1, 0, 0, false, [], []),
  (36, .bipush 8, 2, 0, 0, false, [], [(8, 0)]),
  (38, .lushr, 1, 0, 0, false, [], []),
  (39, .ladd, 1, 0, 0, false, [], []),
  (40, .lstore_n 0, 1, 0, 0, false, [], []),
  (41, .lload_n 0, 1, 0, 0, false, [], []),
  (42, .lload_n 0, 1, 0, 0, false, [], []),
  (43, .bipush 16, 2, 0, 0, false, [], [(16, 0)]),
  (45, .lushr, 1, 0, 0, false, [], []),
  (46, .ladd, 1, 0, 0, false, [], []),
  (47, .lstore_n 0, 1, 0, 0, false, [], []),
  (48, .lload_n 0, 1, 0, 0, false, [], []),
  (49, .lload_n 0, 1, 0, 0, false, [], []),
  (50, .bipush 32, 2, 0, 0, false, [], [(32, 0)]),
  (52, .lushr, 1, 0, 0, false, [], []),
  (53, .ladd, 1, 0, 0, false, [], []),
  (54, .lstore_n 0, 1, 0, 0, false, [], []),
  (55, .lload_n 0, 1, 0, 0, false, [], []),
  (56, .l2i, 1, 0, 0, false, [], []),
  (57, .bipush 127, 2, 0, 0, false, [], [(127, 0)]),
  (59, .iand, 1, 0, 0, false, [], []),
  (60, .ireturn, 1, 0, 0, false, [], [])])
def mt_203 : XM := (⟨"java/lang/Math", "max", "(II)I"⟩, prog_16_method_65_code, 2, (Option.some Jvm.ClassFile.FieldType.int), { frames := 0, cells := 0, slots := 0, locals := 0 }, 99, [
(0, .iload_n 0, 1, 0, 0, false, [], []),
  (1, .iload_n 1, 1, 0, 0, false, [], []),
  (2, .if_icmp .lt 7, 3, 9, 0, false, [], []),
  (5, .iload_n 0, 1, 0, 0, false, [], []),
  (6, .goto 4, 3, 10, 0, false, [], []),
  (9, .iload_n 1, 1, 0, 0, false, [], []),
  (10, .ireturn, 1, 0, 0, false, [], [])])
def mt_204 : XM := (⟨"java/lang/Math", "min", "(II)I"⟩, prog_16_method_69_code, 2, (Option.some Jvm.ClassFile.FieldType.int), { frames := 0, cells := 0, slots := 0, locals := 0 }, 99, [
(0, .iload_n 0, 1, 0, 0, false, [], []),
  (1, .iload_n 1, 1, 0, 0, false, [], []),
  (2, .if_icmp .gt 7, 3, 9, 0, false, [], []),
  (5, .iload_n 0, 1, 0, 0, false, [], []),
  (6, .goto 4, 3, 10, 0, false, [], []),
  (9, .iload_n 1, 1, 0, 0, false, [], []),
  (10, .ireturn, 1, 0, 0, false, [], [])])
def mt_205 : XM := (⟨"PuppetTurnsLaw", "law", "([I)Z"⟩, code, 4, (Option.some Jvm.ClassFile.FieldType.boolean), { frames := 9, cells := 0, slots := 0, locals := 214 }, 99, [
(0, .new 7, 3, 11, 0, false, [94, 95, 78], []),
  (3, .dup, 1, 0, 0, false, [], []),
  (4, .invokespecial 9, 3, 91, 0, false, [96, 78, 98, 97], []),
  (7, .astore_n 1, 1, 0, 0, false, [], []),
  (8, .new 10, 3, 12, 0, false, [892, 893, 91], []),
  (11, .dup, 1, 0, 0, false, [], []),
  (12, .invokespecial 12, 3, 122, 0, false, [894, 91, 896, 895], []),
  (15, .astore_n 2, 1, 0, 0, false, [], []),
  (16, .iconst 0, 1, 0, 0, false, [], [(0, 0)]),
  (17, .istore_n 3, 1, 0, 0, false, [], []),
  (18, .iload_n 3, 1, 0, 0, false, [], []),
  (19, .aload_n 0, 1, 0, 0, false, [], []),
  (20, .arraylength, 1, 0, 0, false, [], []),
  (21, .bipush 6, 2, 0, 0, false, [], [(6, 0)]),
  (23, .isub, 1, 0, 0, false, [], []),
  (24, .if_icmp .gt 795, 3, 819, 0, false, [], []),
  (27, .aload_n 0, 1, 0, 0, false, [], []),
  (28, .iload_n 3, 1, 0, 0, false, [], []),
  (29, .iaload, 1, 0, 0, false, [], []),
  (30, .bipush 31, 2, 0, 0, false, [], [(31, 0)]),
  (32, .iand, 1, 0, 0, false, [], []),
  (33, .tableswitch 780 0 24 #[115, 158, 221, 244, 287, 320, 343, 366, 389, 422, 435, 448, 471, 484, 497, 520, 543, 576, 609, 642, 675, 698, 731, 744, 767], 115, 813, 0, false, [], [(0, 148), (1, 191), (2, 254), (3, 277), (4, 320), (5, 353), (6, 376), (7, 399), (8, 422), (9, 455), (10, 468), (11, 481), (12, 504), (13, 517), (14, 530), (15, 553), (16, 576), (17, 609), (18, 642), (19, 675), (20, 708), (21, 731), (22, 764), (23, 777), (24, 800)]),
  (148, .aload_n 1, 1, 0, 0, false, [], []),
  (149, .aload_n 0, 1, 0, 0, false, [], []),
  (150, .iload_n 3, 1, 0, 0, false, [], []),
  (151, .iconst 1, 1, 0, 0, false, [], [(1, 0)]),
  (152, .iadd, 1, 0, 0, false, [], []),
  (153, .iaload, 1, 0, 0, false, [], []),
  (154, .aload_n 0, 1, 0, 0, false, [], []),
  (155, .iload_n 3, 1, 0, 0, false, [], []),
  (156, .iconst 2, 1, 0, 0, false, [], [(2, 0)]),
  (157, .iadd, 1, 0, 0, false, [], []),
  (158, .iaload, 1, 0, 0, false, [], []),
  (159, .aload_n 0, 1, 0, 0, false, [], []),
  (160, .iload_n 3, 1, 0, 0, false, [], []),
  (161, .iconst 3, 1, 0, 0, false, [], [(3, 0)]),
  (162, .iadd, 1, 0, 0, false, [], []),
  (163, .iaload, 1, 0, 0, false, [], []),
  (164, .invokevirtual 13, 3, 92, 3, false, [408, 78, 411, 409, 410], []),
  (167, .aload_n 2, 1, 0, 0, false, [], []),
  (168, .aload_n 0, 1, 0, 0, false, [], []),
  (169, .iload_n 3, 1, 0, 0, false, [], []),
  (170, .iconst 1, 1, 0, 0, false, [], [(1, 0)]),
  (171, .iadd, 1, 0, 0, false, [], []),
  (172, .iaload, 1, 0, 0, false, [], []),
  (173, .aload_n 0, 1, 0, 0, false, [], []),
  (174, .iload_n 3, 1, 0, 0, false, [], []),
  (175, .iconst 2, 1, 0, 0, false, [], [(2, 0)]),
  (176, .iadd, 1, 0, 0, false, [], []),
  (177, .iaload, 1, 0, 0, false, [], []),
  (178, .aload_n 0, 1, 0, 0, false, [], []),
  (179, .iload_n 3, 1, 0, 0, false, [], []),
  (180, .iconst 3, 1, 0, 0, false, [], [(3, 0)]),
  (181, .iadd, 1, 0, 0, false, [], []),
  (182, .iaload, 1, 0, 0, false, [], []),
  (183, .invokevirtual 17, 3, 143, 3, false, [977, 91, 980, 978, 979], []),
  (186, .if_icmp .eq 627, 3, 813, 0, false, [], []),
  (189, .iconst 0, 1, 0, 0, false, [], [(0, 0)]),
  (190, .ireturn, 1, 0, 0, false, [], []),
  (191, .aload_n 1, 1, 0, 0, false, [], []),
  (192, .aload_n 0, 1, 0, 0, false, [], []),
  (193, .iload_n 3, 1, 0, 0, false, [], []),
  (194, .iconst 1, 1, 0, 0, false, [], [(1, 0)]),
  (195, .iadd, 1, 0, 0, false, [], []),
  (196, .iaload, 1, 0, 0, false, [], []),
  (197, .aload_n 0, 1, 0, 0, false, [], []),
  (198, .iload_n 3, 1, 0, 0, false, [], []),
  (199, .iconst 2, 1, 0, 0, false, [], [(2, 0)]),
  (200, .iadd, 1, 0, 0, false, [], []),
  (201, .iaload, 1, 0, 0, false, [], []),
  (202, .aload_n 0, 1, 0, 0, false, [], []),
  (203, .iload_n 3, 1, 0, 0, false, [], []),
  (204, .iconst 3, 1, 0, 0, false, [], [(3, 0)]),
  (205, .iadd, 1, 0, 0, false, [], []),
  (206, .iaload, 1, 0, 0, false, [], []),
  (207, .aload_n 0, 1, 0, 0, false, [], []),
  (208, .iload_n 3, 1, 0, 0, false, [], []),
  (209, .iconst 4, 1, 0, 0, false, [], [(4, 0)]),
  (210, .iadd, 1, 0, 0, false, [], []),
  (211, .iaload, 1, 0, 0, false, [], []),
  (212, .aload_n 0, 1, 0, 0, false, [], []),
  (213, .iload_n 3, 1, 0, 0, false, [], []),
  (214, .iconst 5, 1, 0, 0, false, [], [(5, 0)]),
  (215, .iadd, 1, 0, 0, false, [], []),
  (216, .iaload, 1, 0, 0, false, [], []),
  (217, .invokevirtual 18, 3, 93, 5, false, [455, 78, 458, 456, 457], []),
  (220, .aload_n 2, 1, 0, 0, false, [], []),
  (221, .aload_n 0, 1, 0, 0, false, [], []),
  (222, .iload_n 3, 1, 0, 0, false, [], []),
  (223, .iconst 1, 1, 0, 0, false, [], [(1, 0)]),
  (224, .iadd, 1, 0, 0, false, [], []),
  (225, .iaload, 1, 0, 0, false, [], []),
  (226, .aload_n 0, 1, 0, 0, false, [], []),
  (227, .iload_n 3, 1, 0, 0, false, [], []),
  (228, .iconst 2, 1, 0, 0, false, [], [(2, 0)]),
  (229, .iadd, 1, 0, 0, false, [], []),
  (230, .iaload, 1, 0, 0, false, [], []),
  (231, .aload_n 0, 1, 0, 0, false, [], []),
  (232, .iload_n 3, 1, 0, 0, false, [], []),
  (233, .iconst 3, 1, 0, 0, false, [], [(3, 0)]),
  (234, .iadd, 1, 0, 0, false, [], []),
  (235, .iaload, 1, 0, 0, false, [], []),
  (236, .aload_n 0, 1, 0, 0, false, [], []),
  (237, .iload_n 3, 1, 0, 0, false, [], []),
  (238, .iconst 4, 1, 0, 0, false, [], [(4, 0)]),
  (239, .iadd, 1, 0, 0, false, [], []),
  (240, .iaload, 1, 0, 0, false, [], []),
  (241, .aload_n 0, 1, 0, 0, false, [], []),
  (242, .iload_n 3, 1, 0, 0, false, [], []),
  (243, .iconst 5, 1, 0, 0, false, [], [(5, 0)]),
  (244, .iadd, 1, 0, 0, false, [], []),
  (245, .iaload, 1, 0, 0, false, [], []),
  (246, .invokevirtual 22, 3, 144, 5, false, [988, 91, 991, 989, 990], []),
  (249, .if_icmp .eq 564, 3, 813, 0, false, [], []),
  (252, .iconst 0, 1, 0, 0, false, [], [(0, 0)]),
  (253, .ireturn, 1, 0, 0, false, [], []),
  (254, .aload_n 1, 1, 0, 0, false, [], []),
  (255, .aload_n 0, 1, 0, 0, false, [], []),
  (256, .iload_n 3, 1, 0, 0, false, [], []),
  (257, .iconst 1, 1, 0, 0, false, [], [(1, 0)]),
  (258, .iadd, 1, 0, 0, false, [], []),
  (259, .iaload, 1, 0, 0, false, [], []),
  (260, .invokevirtual 23, 3, 94, 1, false, [470, 78, 473, 471, 472], []),
  (263, .aload_n 2, 1, 0, 0, false, [], []),
  (264, .aload_n 0, 1, 0, 0, false, [], []),
  (265, .iload_n 3, 1, 0, 0, false, [], []),
  (266, .iconst 1, 1, 0, 0, false, [], [(1, 0)]),
  (267, .iadd, 1, 0, 0, false, [], []),
  (268, .iaload, 1, 0, 0, false, [], []),
  (269, .invokevirtual 27, 3, 146, 1, false, [999, 91, 1002, 1000, 1001], []),
  (272, .if_icmp .eq 541, 3, 813, 0, false, [], []),
  (275, .iconst 0, 1, 0, 0, false, [], [(0, 0)]),
  (276, .ireturn, 1, 0, 0, false, [], []),
  (277, .aload_n 1, 1, 0, 0, false, [], []),
  (278, .aload_n 0, 1, 0, 0, false, [], []),
  (279, .iload_n 3, 1, 0, 0, false, [], []),
  (280, .iconst 1, 1, 0, 0, false, [], [(1, 0)]),
  (281, .iadd, 1, 0, 0, false, [], []),
  (282, .iaload, 1, 0, 0, false, [], []),
  (283, .aload_n 0, 1, 0, 0, false, [], []),
  (284, .iload_n 3, 1, 0, 0, false, [], []),
  (285, .iconst 2, 1, 0, 0, false, [], [(2, 0)]),
  (286, .iadd, 1, 0, 0, false, [], []),
  (287, .iaload, 1, 0, 0, false, [], []),
  (288, .aload_n 0, 1, 0, 0, false, [], []),
  (289, .iload_n 3, 1, 0, 0, false, [], []),
  (290, .iconst 3, 1, 0, 0, false, [], [(3, 0)]),
  (291, .iadd, 1, 0, 0, false, [], []),
  (292, .iaload, 1, 0, 0, false, [], []),
  (293, .invokevirtual 28, 3, 95, 3, false, [498, 78, 501, 499, 500], []),
  (296, .aload_n 2, 1, 0, 0, false, [], []),
  (297, .aload_n 0, 1, 0, 0, false, [], []),
  (298, .iload_n 3, 1, 0, 0, false, [], []),
  (299, .iconst 1, 1, 0, 0, false, [], [(1, 0)]),
  (300, .iadd, 1, 0, 0, false, [], []),
  (301, .iaload, 1, 0, 0, false, [], []),
  (302, .aload_n 0, 1, 0, 0, false, [], []),
  (303, .iload_n 3, 1, 0, 0, false, [], []),
  (304, .iconst 2, 1, 0, 0, false, [], [(2, 0)]),
  (305, .iadd, 1, 0, 0, false, [], []),
  (306, .iaload, 1, 0, 0, false, [], []),
  (307, .aload_n 0, 1, 0, 0, false, [], []),
  (308, .iload_n 3, 1, 0, 0, false, [], []),
  (309, .iconst 3, 1, 0, 0, false, [], [(3, 0)]),
  (310, .iadd, 1, 0, 0, false, [], []),
  (311, .iaload, 1, 0, 0, false, [], []),
  (312, .invokevirtual 31, 3, 150, 3, false, [1015, 91, 1018, 1016, 1017], []),
  (315, .if_icmp .eq 498, 3, 813, 0, false, [], []),
  (318, .iconst 0, 1, 0, 0, false, [], [(0, 0)]),
  (319, .ireturn, 1, 0, 0, false, [], []),
  (320, .aload_n 1, 1, 0, 0, false, [], []),
  (321, .aload_n 0, 1, 0, 0, false, [], []),
  (322, .iload_n 3, 1, 0, 0, false, [], []),
  (323, .iconst 1, 1, 0, 0, false, [], [(1, 0)]),
  (324, .iadd, 1, 0, 0, false, [], []),
  (325, .iaload, 1, 0, 0, false, [], []),
  (326, .aload_n 0, 1, 0, 0, false, [], []),
  (327, .iload_n 3, 1, 0, 0, false, [], []),
  (328, .iconst 2, 1, 0, 0, false, [], [(2, 0)]),
  (329, .iadd, 1, 0, 0, false, [], []),
  (330, .iaload, 1, 0, 0, false, [], []),
  (331, .invokevirtual 32, 3, 96, 2, false, [524, 78, 527, 525, 526], []),
  (334, .aload_n 2, 1, 0, 0, false, [], []),
  (335, .aload_n 0, 1, 0, 0, false, [], []),
  (336, .iload_n 3, 1, 0, 0, false, [], []),
  (337, .iconst 1, 1, 0, 0, false, [], [(1, 0)]),
  (338, .iadd, 1, 0, 0, false, [], []),
  (339, .iaload, 1, 0, 0, false, [], []),
  (340, .aload_n 0, 1, 0, 0, false, [], []),
  (341, .iload_n 3, 1, 0, 0, false, [], []),
  (342, .iconst 2, 1, 0, 0, false, [], [(2, 0)]),
  (343, .iadd, 1, 0, 0, false, [], []),
  (344, .iaload, 1, 0, 0, false, [], []),
  (345, .invokevirtual 36, 3, 153, 2, false, [1043, 91, 1046, 1044, 1045], []),
  (348, .if_icmp .eq 465, 3, 813, 0, false, [], []),
  (351, .iconst 0, 1, 0, 0, false, [], [(0, 0)]),
  (352, .ireturn, 1, 0, 0, false, [], []),
  (353, .aload_n 1, 1, 0, 0, false, [], []),
  (354, .aload_n 0, 1, 0, 0, false, [], []),
  (355, .iload_n 3, 1, 0, 0, false, [], []),
  (356, .iconst 1, 1, 0, 0, false, [], [(1, 0)]),
  (357, .iadd, 1, 0, 0, false, [], []),
  (358, .iaload, 1, 0, 0, false, [], []),
  (359, .invokevirtual 37, 3, 97, 1, false, [532, 78, 535, 533, 534], []),
  (362, .aload_n 2, 1, 0, 0, false, [], []),
  (363, .aload_n 0, 1, 0, 0, false, [], []),
  (364, .iload_n 3, 1, 0, 0, false, [], []),
  (365, .iconst 1, 1, 0, 0, false, [], [(1, 0)]),
  (366, .iadd, 1, 0, 0, false, [], []),
  (367, .iaload, 1, 0, 0, false, [], []),
  (368, .invokevirtual 40, 3, 155, 1, false, [1055, 91, 1058, 1056, 1057], []),
  (371, .if_icmp .eq 442, 3, 813, 0, false, [], []),
  (374, .iconst 0, 1, 0, 0, false, [], [(0, 0)]),
  (375, .ireturn, 1, 0, 0, false, [], []),
  (376, .aload_n 1, 1, 0, 0, false, [], []),
  (377, .aload_n 0, 1, 0, 0, false, [], []),
  (378, .iload_n 3, 1, 0, 0, false, [], []),
  (379, .iconst 1, 1, 0, 0, false, [], [(1, 0)]),
  (380, .iadd, 1, 0, 0, false, [], []),
  (381, .iaload, 1, 0, 0, false, [], []),
  (382, .invokevirtual 41, 3, 98, 1, false, [540, 78, 543, 541, 542], []),
  (385, .aload_n 2, 1, 0, 0, false, [], []),
  (386, .aload_n 0, 1, 0, 0, false, [], []),
  (387, .iload_n 3, 1, 0, 0, false, [], []),
  (388, .iconst 1, 1, 0, 0, false, [], [(1, 0)]),
  (389, .iadd, 1, 0, 0, false, [], []),
  (390, .iaload, 1, 0, 0, false, [], []),
  (391, .invokevirtual 44, 3, 157, 1, false, [1067, 91, 1070, 1068, 1069], []),
  (394, .if_icmp .eq 419, 3, 813, 0, false, [], []),
  (397, .iconst 0, 1, 0, 0, false, [], [(0, 0)]),
  (398, .ireturn, 1, 0, 0, false, [], []),
  (399, .aload_n 1, 1, 0, 0, false, [], []),
  (400, .aload_n 0, 1, 0, 0, false, [], []),
  (401, .iload_n 3, 1, 0, 0, false, [], []),
  (402, .iconst 1, 1, 0, 0, false, [], [(1, 0)]),
  (403, .iadd, 1, 0, 0, false, [], []),
  (404, .iaload, 1, 0, 0, false, [], []),
  (405, .invokevirtual 45, 3, 99, 1, false, [545, 78, 548, 546, 547], []),
  (408, .aload_n 2, 1, 0, 0, false, [], []),
  (409, .aload_n 0, 1, 0, 0, false, [], []),
  (410, .iload_n 3, 1, 0, 0, false, [], []),
  (411, .iconst 1, 1, 0, 0, false, [], [(1, 0)]),
  (412, .iadd, 1, 0, 0, false, [], []),
  (413, .iaload, 1, 0, 0, false, [], []),
  (414, .invokevirtual 48, 3, 160, 1, false, [1075, 91, 1078, 1076, 1077], []),
  (417, .if_icmp .eq 396, 3, 813, 0, false, [], []),
  (420, .iconst 0, 1, 0, 0, false, [], [(0, 0)]),
  (421, .ireturn, 1, 0, 0, false, [], []),
  (422, .aload_n 1, 1, 0, 0, false, [], []),
  (423, .aload_n 0, 1, 0, 0, false, [], []),
  (424, .iload_n 3, 1, 0, 0, false, [], []),
  (425, .iconst 1, 1, 0, 0, false, [], [(1, 0)]),
  (426, .iadd, 1, 0, 0, false, [], []),
  (427, .iaload, 1, 0, 0, false, [], []),
  (428, .aload_n 0, 1, 0, 0, false, [], []),
  (429, .iload_n 3, 1, 0, 0, false, [], []),
  (430, .iconst 2, 1, 0, 0, false, [], [(2, 0)]),
  (431, .iadd, 1, 0, 0, false, [], []),
  (432, .iaload, 1, 0, 0, false, [], []),
  (433, .invokevirtual 49, 3, 100, 2, false, [553, 78, 556, 554, 555], []),
  (436, .aload_n 2, 1, 0, 0, false, [], []),
  (437, .aload_n 0, 1, 0, 0, false, [], []),
  (438, .iload_n 3, 1, 0, 0, false, [], []),
  (439, .iconst 1, 1, 0, 0, false, [], [(1, 0)]),
  (440, .iadd, 1, 0, 0, false, [], []),
  (441, .iaload, 1, 0, 0, false, [], []),
  (442, .aload_n 0, 1, 0, 0, false, [], []),
  (443, .iload_n 3, 1, 0, 0, false, [], []),
  (444, .iconst 2, 1, 0, 0, false, [], [(2, 0)]),
  (445, .iadd, 1, 0, 0, false, [], []),
  (446, .iaload, 1, 0, 0, false, [], []),
  (447, .invokevirtual 52, 3, 161, 2, false, [1086, 91, 1089, 1087, 1088], []),
  (450, .if_icmp .eq 363, 3, 813, 0, false, [], []),
  (453, .iconst 0, 1, 0, 0, false, [], [(0, 0)]),
  (454, .ireturn, 1, 0, 0, false, [], []),
  (455, .aload_n 1, 1, 0, 0, false, [], []),
  (456, .invokevirtual 53, 3, 101, 0, false, [561, 78, 564, 562, 563], []),
  (459, .aload_n 2, 1, 0, 0, false, [], []),
  (460, .invokevirtual 57, 3, 165, 0, false, [1090, 91, 1093, 1091, 1092], []),
  (463, .if_icmp .eq 350, 3, 813, 0, false, [], []),
  (466, .iconst 0, 1, 0, 0, false, [], [(0, 0)]),
  (467, .ireturn, 1, 0, 0, false, [], []),
  (468, .aload_n 1, 1, 0, 0, false, [], []),
  (469, .invokevirtual 58, 3, 102, 0, false, [602, 78, 605, 603, 604], []),
  (472, .aload_n 2, 1, 0, 0, false, [], []),
  (473, .invokevirtual 61, 3, 166, 0, false, [1113, 91, 1116, 1114, 1115], []),
  (476, .if_icmp .eq 337, 3, 813, 0, false, [], []),
  (479, .iconst 0, 1, 0, 0, false, [], [(0, 0)]),
  (480, .ireturn, 1, 0, 0, false, [], []),
  (481, .aload_n 1, 1, 0, 0, false, [], []),
  (482, .aload_n 0, 1, 0, 0, false, [], []),
  (483, .iload_n 3, 1, 0, 0, false, [], []),
  (484, .iconst 1, 1, 0, 0, false, [], [(1, 0)]),
  (485, .iadd, 1, 0, 0, false, [], []),
  (486, .iaload, 1, 0, 0, false, [], []),
  (487, .invokevirtual 62, 3, 103, 1, false, [610, 78, 613, 611, 612], []),
  (490, .aload_n 2, 1, 0, 0, false, [], []),
  (491, .aload_n 0, 1, 0, 0, false, [], []),
  (492, .iload_n 3, 1, 0, 0, false, [], []),
  (493, .iconst 1, 1, 0, 0, false, [], [(1, 0)]),
  (494, .iadd, 1, 0, 0, false, [], []),
  (495, .iaload, 1, 0, 0, false, [], []),
  (496, .invokevirtual 65, 3, 167, 1, false, [1117, 91, 1120, 1118, 1119], []),
  (499, .if_icmp .eq 314, 3, 813, 0, false, [], []),
  (502, .iconst 0, 1, 0, 0, false, [], [(0, 0)]),
  (503, .ireturn, 1, 0, 0, false, [], []),
  (504, .aload_n 1, 1, 0, 0, false, [], []),
  (505, .invokevirtual 66, 3, 104, 0, false, [620, 78, 623, 621, 622], []),
  (508, .aload_n 2, 1, 0, 0, false, [], []),
  (509, .invokevirtual 69, 3, 168, 0, false, [1121, 91, 1124, 1122, 1123], []),
  (512, .if_icmp .eq 301, 3, 813, 0, false, [], []),
  (515, .iconst 0, 1, 0, 0, false, [], [(0, 0)]),
  (516, .ireturn, 1, 0, 0, false, [], []),
  (517, .aload_n 1, 1, 0, 0, false, [], []),
  (518, .invokevirtual 70, 3, 105, 0, false, [624, 78, 627, 625, 626], []),
  (521, .aload_n 2, 1, 0, 0, false, [], []),
  (522, .invokevirtual 73, 3, 184, 0, false, [1125, 91, 1128, 1126, 1127], []),
  (525, .if_icmp .eq 288, 3, 813, 0, false, [], []),
  (528, .iconst 0, 1, 0, 0, false, [], [(0, 0)]),
  (529, .ireturn, 1, 0, 0, false, [], []),
  (530, .aload_n 1, 1, 0, 0, false, [], []),
  (531, .aload_n 0, 1, 0, 0, false, [], []),
  (532, .iload_n 3, 1, 0, 0, false, [], []),
  (533, .iconst 1, 1, 0, 0, false, [], [(1, 0)]),
  (534, .iadd, 1, 0, 0, false, [], []),
  (535, .iaload, 1, 0, 0, false, [], []),
  (536, .invokevirtual 74, 3, 106, 1, false, [723, 78, 726, 724, 725], []),
  (539, .aload_n 2, 1, 0, 0, false, [], []),
  (540, .aload_n 0, 1, 0, 0, false, [], []),
  (541, .iload_n 3, 1, 0, 0, false, [], []),
  (542, .iconst 1, 1, 0, 0, false, [], [(1, 0)]),
  (543, .iadd, 1, 0, 0, false, [], []),
  (544, .iaload, 1, 0, 0, false, [], []),
  (545, .invokevirtual 77, 3, 185, 1, false, [1188, 91, 1191, 1189, 1190], []),
  (548, .if_icmp .eq 265, 3, 813, 0, false, [], []),
  (551, .iconst 0, 1, 0, 0, false, [], [(0, 0)]),
  (552, .ireturn, 1, 0, 0, false, [], []),
  (553, .aload_n 1, 1, 0, 0, false, [], []),
  (554, .aload_n 0, 1, 0, 0, false, [], []),
  (555, .iload_n 3, 1, 0, 0, false, [], []),
  (556, .iconst 1, 1, 0, 0, false, [], [(1, 0)]),
  (557, .iadd, 1, 0, 0, false, [], []),
  (558, .iaload, 1, 0, 0, false, [], []),
  (559, .invokevirtual 78, 3, 107, 1, false, [732, 78, 735, 733, 734], []),
  (562, .aload_n 2, 1, 0, 0, false, [], []),
  (563, .aload_n 0, 1, 0, 0, false, [], []),
  (564, .iload_n 3, 1, 0, 0, false, [], []),
  (565, .iconst 1, 1, 0, 0, false, [], [(1, 0)]),
  (566, .iadd, 1, 0, 0, false, [], []),
  (567, .iaload, 1, 0, 0, false, [], []),
  (568, .invokevirtual 81, 3, 187, 1, false, [1192, 91, 1195, 1193, 1194], []),
  (571, .if_icmp .eq 242, 3, 813, 0, false, [], []),
  (574, .iconst 0, 1, 0, 0, false, [], [(0, 0)]),
  (575, .ireturn, 1, 0, 0, false, [], []),
  (576, .aload_n 1, 1, 0, 0, false, [], []),
  (577, .aload_n 0, 1, 0, 0, false, [], []),
  (578, .iload_n 3, 1, 0, 0, false, [], []),
  (579, .iconst 1, 1, 0, 0, false, [], [(1, 0)]),
  (580, .iadd, 1, 0, 0, false, [], []),
  (581, .iaload, 1, 0, 0, false, [], []),
  (582, .aload_n 0, 1, 0, 0, false, [], []),
  (583, .iload_n 3, 1, 0, 0, false, [], []),
  (584, .iconst 2, 1, 0, 0, false, [], [(2, 0)]),
  (585, .iadd, 1, 0, 0, false, [], []),
  (586, .iaload, 1, 0, 0, false, [], []),
  (587, .invokevirtual 82, 3, 108, 2, false, [776, 78, 779, 777, 778], []),
  (590, .aload_n 2, 1, 0, 0, false, [], []),
  (591, .aload_n 0, 1, 0, 0, false, [], []),
  (592, .iload_n 3, 1, 0, 0, false, [], []),
  (593, .iconst 1, 1, 0, 0, false, [], [(1, 0)]),
  (594, .iadd, 1, 0, 0, false, [], []),
  (595, .iaload, 1, 0, 0, false, [], []),
  (596, .aload_n 0, 1, 0, 0, false, [], []),
  (597, .iload_n 3, 1, 0, 0, false, [], []),
  (598, .iconst 2, 1, 0, 0, false, [], [(2, 0)]),
  (599, .iadd, 1, 0, 0, false, [], []),
  (600, .iaload, 1, 0, 0, false, [], []),
  (601, .invokevirtual 85, 3, 189, 2, false, [1224, 91, 1227, 1225, 1226], []),
  (604, .if_icmp .eq 209, 3, 813, 0, false, [], []),
  (607, .iconst 0, 1, 0, 0, false, [], [(0, 0)]),
  (608, .ireturn, 1, 0, 0, false, [], []),
  (609, .aload_n 1, 1, 0, 0, false, [], []),
  (610, .aload_n 0, 1, 0, 0, false, [], []),
  (611, .iload_n 3, 1, 0, 0, false, [], []),
  (612, .iconst 1, 1, 0, 0, false, [], [(1, 0)]),
  (613, .iadd, 1, 0, 0, false, [], []),
  (614, .iaload, 1, 0, 0, false, [], []),
  (615, .aload_n 0, 1, 0, 0, false, [], []),
  (616, .iload_n 3, 1, 0, 0, false, [], []),
  (617, .iconst 2, 1, 0, 0, false, [], [(2, 0)]),
  (618, .iadd, 1, 0, 0, false, [], []),
  (619, .iaload, 1, 0, 0, false, [], []),
  (620, .invokevirtual 86, 3, 109, 2, false, [783, 78, 786, 784, 785], []),
  (623, .aload_n 2, 1, 0, 0, false, [], []),
  (624, .aload_n 0, 1, 0, 0, false, [], []),
  (625, .iload_n 3, 1, 0, 0, false, [], []),
  (626, .iconst 1, 1, 0, 0, false, [], [(1, 0)]),
  (627, .iadd, 1, 0, 0, false, [], []),
  (628, .iaload, 1, 0, 0, false, [], []),
  (629, .aload_n 0, 1, 0, 0, false, [], []),
  (630, .iload_n 3, 1, 0, 0, false, [], []),
  (631, .iconst 2, 1, 0, 0, false, [], [(2, 0)]),
  (632, .iadd, 1, 0, 0, false, [], []),
  (633, .iaload, 1, 0, 0, false, [], []),
  (634, .invokevirtual 89, 3, 190, 2, false, [1232, 91, 1235, 1233, 1234], []),
  (637, .if_icmp .eq 176, 3, 813, 0, false, [], []),
  (640, .iconst 0, 1, 0, 0, false, [], [(0, 0)]),
  (641, .ireturn, 1, 0, 0, false, [], []),
  (642, .aload_n 1, 1, 0, 0, false, [], []),
  (643, .aload_n 0, 1, 0, 0, false, [], []),
  (644, .iload_n 3, 1, 0, 0, false, [], []),
  (645, .iconst 1, 1, 0, 0, false, [], [(1, 0)]),
  (646, .iadd, 1, 0, 0, false, [], []),
  (647, .iaload, 1, 0, 0, false, [], []),
  (648, .aload_n 0, 1, 0, 0, false, [], []),
  (649, .iload_n 3, 1, 0, 0, false, [], []),
  (650, .iconst 2, 1, 0, 0, false, [], [(2, 0)]),
  (651, .iadd, 1, 0, 0, false, [], []),
  (652, .iaload, 1, 0, 0, false, [], []),
  (653, .invokevirtual 90, 3, 110, 2, false, [789, 78, 792, 790, 791], []),
  (656, .aload_n 2, 1, 0, 0, false, [], []),
  (657, .aload_n 0, 1, 0, 0, false, [], []),
  (658, .iload_n 3, 1, 0, 0, false, [], []),
  (659, .iconst 1, 1, 0, 0, false, [], [(1, 0)]),
  (660, .iadd, 1, 0, 0, false, [], []),
  (661, .iaload, 1, 0, 0, false, [], []),
  (662, .aload_n 0, 1, 0, 0, false, [], []),
  (663, .iload_n 3, 1, 0, 0, false, [], []),
  (664, .iconst 2, 1, 0, 0, false, [], [(2, 0)]),
  (665, .iadd, 1, 0, 0, false, [], []),
  (666, .iaload, 1, 0, 0, false, [], []),
  (667, .invokevirtual 93, 3, 191, 2, false, [1240, 91, 1243, 1241, 1242], []),
  (670, .if_icmp .eq 143, 3, 813, 0, false, [], []),
  (673, .iconst 0, 1, 0, 0, false, [], [(0, 0)]),
  (674, .ireturn, 1, 0, 0, false, [], []),
  (675, .aload_n 1, 1, 0, 0, false, [], []),
  (676, .aload_n 0, 1, 0, 0, false, [], []),
  (677, .iload_n 3, 1, 0, 0, false, [], []),
  (678, .iconst 1, 1, 0, 0, false, [], [(1, 0)]),
  (679, .iadd, 1, 0, 0, false, [], []),
  (680, .iaload, 1, 0, 0, false, [], []),
  (681, .aload_n 0, 1, 0, 0, false, [], []),
  (682, .iload_n 3, 1, 0, 0, false, [], []),
  (683, .iconst 2, 1, 0, 0, false, [], [(2, 0)]),
  (684, .iadd, 1, 0, 0, false, [], []),
  (685, .iaload, 1, 0, 0, false, [], []),
  (686, .invokevirtual 94, 3, 111, 2, false, [793, 78, 796, 794, 795], []),
  (689, .aload_n 2, 1, 0, 0, false, [], []),
  (690, .aload_n 0, 1, 0, 0, false, [], []),
  (691, .iload_n 3, 1, 0, 0, false, [], []),
  (692, .iconst 1, 1, 0, 0, false, [], [(1, 0)]),
  (693, .iadd, 1, 0, 0, false, [], []),
  (694, .iaload, 1, 0, 0, false, [], []),
  (695, .aload_n 0, 1, 0, 0, false, [], []),
  (696, .iload_n 3, 1, 0, 0, false, [], []),
  (697, .iconst 2, 1, 0, 0, false, [], [(2, 0)]),
  (698, .iadd, 1, 0, 0, false, [], []),
  (699, .iaload, 1, 0, 0, false, [], []),
  (700, .invokevirtual 97, 3, 192, 2, false, [1244, 91, 1247, 1245, 1246], []),
  (703, .if_icmp .eq 110, 3, 813, 0, false, [], []),
  (706, .iconst 0, 1, 0, 0, false, [], [(0, 0)]),
  (707, .ireturn, 1, 0, 0, false, [], []),
  (708, .aload_n 1, 1, 0, 0, false, [], []),
  (709, .aload_n 0, 1, 0, 0, false, [], []),
  (710, .iload_n 3, 1, 0, 0, false, [], []),
  (711, .iconst 1, 1, 0, 0, false, [], [(1, 0)]),
  (712, .iadd, 1, 0, 0, false, [], []),
  (713, .iaload, 1, 0, 0, false, [], []),
  (714, .invokevirtual 98, 3, 112, 1, false, [805, 78, 808, 806, 807], []),
  (717, .aload_n 2, 1, 0, 0, false, [], []),
  (718, .aload_n 0, 1, 0, 0, false, [], []),
  (719, .iload_n 3, 1, 0, 0, false, [], []),
  (720, .iconst 1, 1, 0, 0, false, [], [(1, 0)]),
  (721, .iadd, 1, 0, 0, false, [], []),
  (722, .iaload, 1, 0, 0, false, [], []),
  (723, .invokevirtual 101, 3, 194, 1, false, [1248, 91, 1251, 1249, 1250], []),
  (726, .if_icmp .eq 87, 3, 813, 0, false, [], []),
  (729, .iconst 0, 1, 0, 0, false, [], [(0, 0)]),
  (730, .ireturn, 1, 0, 0, false, [], []),
  (731, .aload_n 1, 1, 0, 0, false, [], []),
  (732, .aload_n 0, 1, 0, 0, false, [], []),
  (733, .iload_n 3, 1, 0, 0, false, [], []),
  (734, .iconst 1, 1, 0, 0, false, [], [(1, 0)]),
  (735, .iadd, 1, 0, 0, false, [], []),
  (736, .iaload, 1, 0, 0, false, [], []),
  (737, .aload_n 0, 1, 0, 0, false, [], []),
  (738, .iload_n 3, 1, 0, 0, false, [], []),
  (739, .iconst 2, 1, 0, 0, false, [], [(2, 0)]),
  (740, .iadd, 1, 0, 0, false, [], []),
  (741, .iaload, 1, 0, 0, false, [], []),
  (742, .invokevirtual 102, 3, 113, 2, false, [829, 78, 832, 830, 831], []),
  (745, .aload_n 2, 1, 0, 0, false, [], []),
  (746, .aload_n 0, 1, 0, 0, false, [], []),
  (747, .iload_n 3, 1, 0, 0, false, [], []),
  (748, .iconst 1, 1, 0, 0, false, [], [(1, 0)]),
  (749, .iadd, 1, 0, 0, false, [], []),
  (750, .iaload, 1, 0, 0, false, [], []),
  (751, .aload_n 0, 1, 0, 0, false, [], []),
  (752, .iload_n 3, 1, 0, 0, false, [], []),
  (753, .iconst 2, 1, 0, 0, false, [], [(2, 0)]),
  (754, .iadd, 1, 0, 0, false, [], []),
  (755, .iaload, 1, 0, 0, false, [], []),
  (756, .invokevirtual 105, 3, 197, 2, false, [1260, 91, 1263, 1261, 1262], []),
  (759, .if_icmp .eq 54, 3, 813, 0, false, [], []),
  (762, .iconst 0, 1, 0, 0, false, [], [(0, 0)]),
  (763, .ireturn, 1, 0, 0, false, [], []),
  (764, .aload_n 1, 1, 0, 0, false, [], []),
  (765, .invokevirtual 106, 3, 114, 0, false, [845, 78, 848, 846, 847], []),
  (768, .aload_n 2, 1, 0, 0, false, [], []),
  (769, .invokevirtual 109, 3, 198, 0, false, [1272, 91, 1275, 1273, 1274], []),
  (772, .if_icmp .eq 41, 3, 813, 0, false, [], []),
  (775, .iconst 0, 1, 0, 0, false, [], [(0, 0)]),
  (776, .ireturn, 1, 0, 0, false, [], []),
  (777, .aload_n 1, 1, 0, 0, false, [], []),
  (778, .aload_n 0, 1, 0, 0, false, [], []),
  (779, .iload_n 3, 1, 0, 0, false, [], []),
  (780, .iconst 1, 1, 0, 0, false, [], [(1, 0)]),
  (781, .iadd, 1, 0, 0, false, [], []),
  (782, .iaload, 1, 0, 0, false, [], []),
  (783, .invokevirtual 110, 3, 115, 1, false, [858, 78, 861, 859, 860], []),
  (786, .aload_n 2, 1, 0, 0, false, [], []),
  (787, .aload_n 0, 1, 0, 0, false, [], []),
  (788, .iload_n 3, 1, 0, 0, false, [], []),
  (789, .iconst 1, 1, 0, 0, false, [], [(1, 0)]),
  (790, .iadd, 1, 0, 0, false, [], []),
  (791, .iaload, 1, 0, 0, false, [], []),
  (792, .invokevirtual 113, 3, 200, 1, false, [1276, 91, 1279, 1277, 1278], []),
  (795, .if_icmp .eq 18, 3, 813, 0, false, [], []),
  (798, .iconst 0, 1, 0, 0, false, [], [(0, 0)]),
  (799, .ireturn, 1, 0, 0, false, [], []),
  (800, .aload_n 1, 1, 0, 0, false, [], []),
  (801, .invokevirtual 114, 3, 116, 0, false, [884, 78, 887, 885, 886], []),
  (804, .aload_n 2, 1, 0, 0, false, [], []),
  (805, .invokevirtual 117, 3, 201, 0, false, [1284, 91, 1287, 1285, 1286], []),
  (808, .if_icmp .eq 5, 3, 813, 0, false, [], []),
  (811, .iconst 0, 1, 0, 0, false, [], [(0, 0)]),
  (812, .ireturn, 1, 0, 0, false, [], []),
  (813, .iinc 3 6, 3, 0, 0, false, [], [(6, 0)]),
  (816, .goto (-798), 3, 18, 0, false, [], []),
  (819, .iconst 1, 1, 0, 0, false, [], [(1, 0)]),
  (820, .ireturn, 1, 0, 0, false, [], [])])
def e_mt : Nat → XM := fun k => (bif Nat.ble 103 k then (bif Nat.ble 154 k then (bif Nat.ble 180 k then (bif Nat.ble 193 k then (bif Nat.ble 199 k then (bif Nat.ble 202 k then (bif Nat.ble 204 k then (bif Nat.ble 205 k then mt_205 else mt_204) else (bif Nat.ble 203 k then mt_203 else mt_202)) else (bif Nat.ble 200 k then (bif Nat.ble 201 k then mt_201 else mt_200) else mt_199)) else (bif Nat.ble 196 k then (bif Nat.ble 197 k then (bif Nat.ble 198 k then mt_198 else mt_197) else mt_196) else (bif Nat.ble 194 k then (bif Nat.ble 195 k then mt_195 else mt_194) else mt_193))) else (bif Nat.ble 186 k then (bif Nat.ble 189 k then (bif Nat.ble 191 k then (bif Nat.ble 192 k then mt_192 else mt_191) else (bif Nat.ble 190 k then mt_190 else mt_189)) else (bif Nat.ble 187 k then (bif Nat.ble 188 k then mt_188 else mt_187) else mt_186)) else (bif Nat.ble 183 k then (bif Nat.ble 184 k then (bif Nat.ble 185 k then mt_185 else mt_184) else mt_183) else (bif Nat.ble 181 k then (bif Nat.ble 182 k then mt_182 else mt_181) else mt_180)))) else (bif Nat.ble 167 k then (bif Nat.ble 173 k then (bif Nat.ble 176 k then (bif Nat.ble 178 k then (bif Nat.ble 179 k then mt_179 else mt_178) else (bif Nat.ble 177 k then mt_177 else mt_176)) else (bif Nat.ble 174 k then (bif Nat.ble 175 k then mt_175 else mt_174) else mt_173)) else (bif Nat.ble 170 k then (bif Nat.ble 171 k then (bif Nat.ble 172 k then mt_172 else mt_171) else mt_170) else (bif Nat.ble 168 k then (bif Nat.ble 169 k then mt_169 else mt_168) else mt_167))) else (bif Nat.ble 160 k then (bif Nat.ble 163 k then (bif Nat.ble 165 k then (bif Nat.ble 166 k then mt_166 else mt_165) else (bif Nat.ble 164 k then mt_164 else mt_163)) else (bif Nat.ble 161 k then (bif Nat.ble 162 k then mt_162 else mt_161) else mt_160)) else (bif Nat.ble 157 k then (bif Nat.ble 158 k then (bif Nat.ble 159 k then mt_159 else mt_158) else mt_157) else (bif Nat.ble 155 k then (bif Nat.ble 156 k then mt_156 else mt_155) else mt_154))))) else (bif Nat.ble 128 k then (bif Nat.ble 141 k then (bif Nat.ble 147 k then (bif Nat.ble 150 k then (bif Nat.ble 152 k then (bif Nat.ble 153 k then mt_153 else mt_152) else (bif Nat.ble 151 k then mt_151 else mt_150)) else (bif Nat.ble 148 k then (bif Nat.ble 149 k then mt_149 else mt_148) else mt_147)) else (bif Nat.ble 144 k then (bif Nat.ble 145 k then (bif Nat.ble 146 k then mt_146 else mt_145) else mt_144) else (bif Nat.ble 142 k then (bif Nat.ble 143 k then mt_143 else mt_142) else mt_141))) else (bif Nat.ble 134 k then (bif Nat.ble 137 k then (bif Nat.ble 139 k then (bif Nat.ble 140 k then mt_140 else mt_139) else (bif Nat.ble 138 k then mt_138 else mt_137)) else (bif Nat.ble 135 k then (bif Nat.ble 136 k then mt_136 else mt_135) else mt_134)) else (bif Nat.ble 131 k then (bif Nat.ble 132 k then (bif Nat.ble 133 k then mt_133 else mt_132) else mt_131) else (bif Nat.ble 129 k then (bif Nat.ble 130 k then mt_130 else mt_129) else mt_128)))) else (bif Nat.ble 115 k then (bif Nat.ble 121 k then (bif Nat.ble 124 k then (bif Nat.ble 126 k then (bif Nat.ble 127 k then mt_127 else mt_126) else (bif Nat.ble 125 k then mt_125 else mt_124)) else (bif Nat.ble 122 k then (bif Nat.ble 123 k then mt_123 else mt_122) else mt_121)) else (bif Nat.ble 118 k then (bif Nat.ble 119 k then (bif Nat.ble 120 k then mt_120 else mt_119) else mt_118) else (bif Nat.ble 116 k then (bif Nat.ble 117 k then mt_117 else mt_116) else mt_115))) else (bif Nat.ble 109 k then (bif Nat.ble 112 k then (bif Nat.ble 113 k then (bif Nat.ble 114 k then mt_114 else mt_113) else mt_112) else (bif Nat.ble 110 k then (bif Nat.ble 111 k then mt_111 else mt_110) else mt_109)) else (bif Nat.ble 106 k then (bif Nat.ble 107 k then (bif Nat.ble 108 k then mt_108 else mt_107) else mt_106) else (bif Nat.ble 104 k then (bif Nat.ble 105 k then mt_105 else mt_104) else mt_103)))))) else (bif Nat.ble 51 k then (bif Nat.ble 77 k then (bif Nat.ble 90 k then (bif Nat.ble 96 k then (bif Nat.ble 99 k then (bif Nat.ble 101 k then (bif Nat.ble 102 k then mt_102 else mt_101) else (bif Nat.ble 100 k then mt_100 else mt_99)) else (bif Nat.ble 97 k then (bif Nat.ble 98 k then mt_98 else mt_97) else mt_96)) else (bif Nat.ble 93 k then (bif Nat.ble 94 k then (bif Nat.ble 95 k then mt_95 else mt_94) else mt_93) else (bif Nat.ble 91 k then (bif Nat.ble 92 k then mt_92 else mt_91) else mt_90))) else (bif Nat.ble 83 k then (bif Nat.ble 86 k then (bif Nat.ble 88 k then (bif Nat.ble 89 k then mt_89 else mt_88) else (bif Nat.ble 87 k then mt_87 else mt_86)) else (bif Nat.ble 84 k then (bif Nat.ble 85 k then mt_85 else mt_84) else mt_83)) else (bif Nat.ble 80 k then (bif Nat.ble 81 k then (bif Nat.ble 82 k then mt_82 else mt_81) else mt_80) else (bif Nat.ble 78 k then (bif Nat.ble 79 k then mt_79 else mt_78) else mt_77)))) else (bif Nat.ble 64 k then (bif Nat.ble 70 k then (bif Nat.ble 73 k then (bif Nat.ble 75 k then (bif Nat.ble 76 k then mt_76 else mt_75) else (bif Nat.ble 74 k then mt_74 else mt_73)) else (bif Nat.ble 71 k then (bif Nat.ble 72 k then mt_72 else mt_71) else mt_70)) else (bif Nat.ble 67 k then (bif Nat.ble 68 k then (bif Nat.ble 69 k then mt_69 else mt_68) else mt_67) else (bif Nat.ble 65 k then (bif Nat.ble 66 k then mt_66 else mt_65) else mt_64))) else (bif Nat.ble 57 k then (bif Nat.ble 60 k then (bif Nat.ble 62 k then (bif Nat.ble 63 k then mt_63 else mt_62) else (bif Nat.ble 61 k then mt_61 else mt_60)) else (bif Nat.ble 58 k then (bif Nat.ble 59 k then mt_59 else mt_58) else mt_57)) else (bif Nat.ble 54 k then (bif Nat.ble 55 k then (bif Nat.ble 56 k then mt_56 else mt_55) else mt_54) else (bif Nat.ble 52 k then (bif Nat.ble 53 k then mt_53 else mt_52) else mt_51))))) else (bif Nat.ble 25 k then (bif Nat.ble 38 k then (bif Nat.ble 44 k then (bif Nat.ble 47 k then (bif Nat.ble 49 k then (bif Nat.ble 50 k then mt_50 else mt_49) else (bif Nat.ble 48 k then mt_48 else mt_47)) else (bif Nat.ble 45 k then (bif Nat.ble 46 k then mt_46 else mt_45) else mt_44)) else (bif Nat.ble 41 k then (bif Nat.ble 42 k then (bif Nat.ble 43 k then mt_43 else mt_42) else mt_41) else (bif Nat.ble 39 k then (bif Nat.ble 40 k then mt_40 else mt_39) else mt_38))) else (bif Nat.ble 31 k then (bif Nat.ble 34 k then (bif Nat.ble 36 k then (bif Nat.ble 37 k then mt_37 else mt_36) else (bif Nat.ble 35 k then mt_35 else mt_34)) else (bif Nat.ble 32 k then (bif Nat.ble 33 k then mt_33 else mt_32) else mt_31)) else (bif Nat.ble 28 k then (bif Nat.ble 29 k then (bif Nat.ble 30 k then mt_30 else mt_29) else mt_28) else (bif Nat.ble 26 k then (bif Nat.ble 27 k then mt_27 else mt_26) else mt_25)))) else (bif Nat.ble 12 k then (bif Nat.ble 18 k then (bif Nat.ble 21 k then (bif Nat.ble 23 k then (bif Nat.ble 24 k then mt_24 else mt_23) else (bif Nat.ble 22 k then mt_22 else mt_21)) else (bif Nat.ble 19 k then (bif Nat.ble 20 k then mt_20 else mt_19) else mt_18)) else (bif Nat.ble 15 k then (bif Nat.ble 16 k then (bif Nat.ble 17 k then mt_17 else mt_16) else mt_15) else (bif Nat.ble 13 k then (bif Nat.ble 14 k then mt_14 else mt_13) else mt_12))) else (bif Nat.ble 6 k then (bif Nat.ble 9 k then (bif Nat.ble 10 k then (bif Nat.ble 11 k then mt_11 else mt_10) else mt_9) else (bif Nat.ble 7 k then (bif Nat.ble 8 k then mt_8 else mt_7) else mt_6)) else (bif Nat.ble 3 k then (bif Nat.ble 4 k then (bif Nat.ble 5 k then mt_5 else mt_4) else mt_3) else (bif Nat.ble 1 k then (bif Nat.ble 2 k then mt_2 else mt_1) else mt_0)))))))
abbrev y_Cells_init : Nat := 0
abbrev y_Cells_get1 : Nat := 1
abbrev y_Cells_get2 : Nat := 2
abbrev y_Cells_set2 : Nat := 3
abbrev y_Cells_set3 : Nat := 4
abbrev y_Cells_add : Nat := 5
abbrev y_Cells_fill : Nat := 6
abbrev y_Cells_copyFrom : Nat := 7
abbrev y_Fail_init : Nat := 8
abbrev y_Fail_set : Nat := 9
abbrev y_Fail_part : Nat := 10
abbrev y_Fore_init : Nat := 11
abbrev y_Fore_hiddenSince : Nat := 12
abbrev y_Fore_hiddenFrames : Nat := 13
abbrev y_Fore_framesUntilAllShown : Nat := 14
abbrev y_Fore_allShownWithin : Nat := 15
abbrev y_Fore_findStep : Nat := 16
abbrev y_Fore_noteHiddenByTurns : Nat := 17
abbrev y_Fore_greatestWith : Nat := 18
abbrev y_Fore_framesHidden : Nat := 19
abbrev y_Hist_init : Nat := 20
abbrev y_Hist_newestSlot : Nat := 21
abbrev y_Hist_record : Nat := 22
abbrev y_Hist_restore : Nat := 23
abbrev y_Read_init : Nat := 24
abbrev y_Read_read : Nat := 25
abbrev y_Read_fail : Nat := 26
abbrev y_Read_readNext : Nat := 27
abbrev y_Read_isDigit : Nat := 28
abbrev y_Read_readRepeatedGroup : Nat := 29
abbrev y_Read_openGroup : Nat := 30
abbrev y_Read_closeGroup : Nat := 31
abbrev y_Read_readAct : Nat := 32
abbrev y_Read_numbersOf : Nat := 33
abbrev y_Read_expect : Nat := 34
abbrev y_Read_readNumber : Nat := 35
abbrev y_Scene_init : Nat := 36
abbrev y_Scene_copyFrom : Nat := 37
abbrev y_Scene_position : Nat := 38
abbrev y_Scene_exists : Nat := 39
abbrev y_Scene_hero : Nat := 40
abbrev y_Scene_firstLine : Nat := 41
abbrev y_Scene_lastLine : Nat := 42
abbrev y_Scene_linesOf : Nat := 43
abbrev y_Scene_standsOn : Nat := 44
abbrev y_Scene_dotsOn : Nat := 45
abbrev y_Scene_mirrored : Nat := 46
abbrev y_Scene_placed : Nat := 47
abbrev y_Scene_redraw : Nat := 48
abbrev y_Scene_isPlace : Nat := 49
abbrev y_Scene_admit : Nat := 50
abbrev y_Scene_dismiss : Nat := 51
abbrev y_Scene_relocate : Nat := 52
abbrev y_Scene_flip : Nat := 53
abbrev y_Scene_putFirst : Nat := 54
abbrev y_Scene_putLast : Nat := 55
abbrev y_Scene_putAt : Nat := 56
abbrev y_Scene_shiftInOrder : Nat := 57
abbrev y_Scene_changeLimit : Nat := 58
abbrev y_Scene_changeRule : Nat := 59
abbrev y_Scene_makeFrame : Nat := 60
abbrev y_Scene_countHidden : Nat := 61
abbrev y_Scene_rotate : Nat := 62
abbrev y_Scene_bringHidden : Nat := 63
abbrev y_Sched_init : Nat := 64
abbrev y_Sched_unroll : Nat := 65
abbrev y_Sched_take : Nat := 66
abbrev y_Sched_takeClosing : Nat := 67
abbrev y_Sched_plan : Nat := 68
abbrev y_Script_init : Nat := 69
abbrev y_Script_add : Nat := 70
abbrev y_Script_at : Nat := 71
abbrev y_Sight_init : Nat := 72
abbrev y_Sight_look : Nat := 73
abbrev y_Sight_bitOf : Nat := 74
abbrev y_Sight_colorAt : Nat := 75
abbrev y_Sight_dotsOnLine : Nat := 76
abbrev y_Sight_allDots : Nat := 77
abbrev y_Sight_clashesOn : Nat := 78
abbrev y_Sight_allClashes : Nat := 79
abbrev y_Sight_firstClash : Nat := 80
abbrev y_Sight_firstColumn : Nat := 81
abbrev y_Sight_firstOther : Nat := 82
abbrev y_Steps_init : Nat := 83
abbrev y_Steps_add : Nat := 84
abbrev y_Surv_init : Nat := 85
abbrev y_Surv_look : Nat := 86
abbrev y_Surv_isHidden : Nat := 87
abbrev y_Surv_hiddenPuppets : Nat := 88
abbrev y_Surv_hiddenBits : Nat := 89
abbrev y_Surv_lineWithMostHidden : Nat := 90
abbrev y_P_init : Nat := 91
abbrev y_P_setRow : Nat := 92
abbrev y_P_come : Nat := 93
abbrev y_P_leave : Nat := 94
abbrev y_P_move : Nat := 95
abbrev y_P_turn : Nat := 96
abbrev y_P_lift : Nat := 97
abbrev y_P_lower : Nat := 98
abbrev y_P_setLimit : Nat := 99
abbrev y_P_setRule : Nat := 100
abbrev y_P_frame : Nat := 101
abbrev y_P_undo : Nat := 102
abbrev y_P_append : Nat := 103
abbrev y_P_clearText : Nat := 104
abbrev y_P_run : Nat := 105
abbrev y_P_failure : Nat := 106
abbrev y_P_count : Nat := 107
abbrev y_P_puppet : Nat := 108
abbrev y_P_line : Nat := 109
abbrev y_P_shown : Nat := 110
abbrev y_P_dot : Nat := 111
abbrev y_P_clash : Nat := 112
abbrev y_P_hiddenIn : Nat := 113
abbrev y_P_allShownIn : Nat := 114
abbrev y_P_bestStep : Nat := 115
abbrev y_P_worstLine : Nat := 116
abbrev y_P_within : Nat := 117
abbrev y_P_recorded : Nat := 118
abbrev y_P_performAll : Nat := 119
abbrev y_P_perform : Nat := 120
abbrev y_P_failedAt : Nat := 121
abbrev y_M_init : Nat := 122
abbrev y_M_in : Nat := 123
abbrev y_M_act : Nat := 124
abbrev y_M_of : Nat := 125
abbrev y_M_put : Nat := 126
abbrev y_M_positionOf : Nat := 127
abbrev y_M_isThere : Nat := 128
abbrev y_M_isPlace : Nat := 129
abbrev y_M_highOf : Nat := 130
abbrev y_M_stands : Nat := 131
abbrev y_M_linesOf : Nat := 132
abbrev y_M_hidden : Nat := 133
abbrev y_M_ones : Nat := 134
abbrev y_M_standing : Nat := 135
abbrev y_M_shownOn : Nat := 136
abbrev y_M_isSet : Nat := 137
abbrev y_M_firstAt : Nat := 138
abbrev y_M_colorAt : Nat := 139
abbrev y_M_dotsOn : Nat := 140
abbrev y_M_hero : Nat := 141
abbrev y_M_isShown : Nat := 142
abbrev y_M_setRow : Nat := 143
abbrev y_M_come : Nat := 144
abbrev y_M_takeOut : Nat := 145
abbrev y_M_leave : Nat := 146
abbrev y_M_thereCode : Nat := 147
abbrev y_M_moveCode : Nat := 148
abbrev y_M_moveNow : Nat := 149
abbrev y_M_move : Nat := 150
abbrev y_M_turnCode : Nat := 151
abbrev y_M_turnNow : Nat := 152
abbrev y_M_turn : Nat := 153
abbrev y_M_liftNow : Nat := 154
abbrev y_M_lift : Nat := 155
abbrev y_M_lowerNow : Nat := 156
abbrev y_M_lower : Nat := 157
abbrev y_M_limitCode : Nat := 158
abbrev y_M_limitNow : Nat := 159
abbrev y_M_setLimit : Nat := 160
abbrev y_M_setRule : Nat := 161
abbrev y_M_takeTurn : Nat := 162
abbrev y_M_frameCode : Nat := 163
abbrev y_M_frameNow : Nat := 164
abbrev y_M_frame : Nat := 165
abbrev y_M_undo : Nat := 166
abbrev y_M_append : Nat := 167
abbrev y_M_clearText : Nat := 168
abbrev y_M_at : Nat := 169
abbrev y_M_isDigit : Nat := 170
abbrev y_M_fail : Nat := 171
abbrev y_M_wrong : Nat := 172
abbrev y_M_number : Nat := 173
abbrev y_M_code : Nat := 174
abbrev y_M_numbersOf : Nat := 175
abbrev y_M_readAct : Nat := 176
abbrev y_M_readGroup : Nat := 177
abbrev y_M_readOne : Nat := 178
abbrev y_M_readPlay : Nat := 179
abbrev y_M_codeOf : Nat := 180
abbrev y_M_carry : Nat := 181
abbrev y_M_runAct : Nat := 182
abbrev y_M_runPlay : Nat := 183
abbrev y_M_run : Nat := 184
abbrev y_M_failure : Nat := 185
abbrev y_M_allDots : Nat := 186
abbrev y_M_count : Nat := 187
abbrev y_M_hiddenLinesOf : Nat := 188
abbrev y_M_puppet : Nat := 189
abbrev y_M_line : Nat := 190
abbrev y_M_shown : Nat := 191
abbrev y_M_dot : Nat := 192
abbrev y_M_clashing : Nat := 193
abbrev y_M_clash : Nat := 194
abbrev y_M_beginTrial : Nat := 195
abbrev y_M_tryFrame : Nat := 196
abbrev y_M_hiddenIn : Nat := 197
abbrev y_M_allShownIn : Nat := 198
abbrev y_M_greatestBy : Nat := 199
abbrev y_M_bestStep : Nat := 200
abbrev y_M_worstLine : Nat := 201
abbrev y_J_bitCount : Nat := 202
abbrev y_J_max : Nat := 203
abbrev y_J_min : Nat := 204
abbrev y_L_law : Nat := 205
/-- the objects that the law makes, by number: (class, 0), or (100, length) of an int array, (101, length) of an array of scenes -/
def e_SH : Nat → Nat × Nat := fun k => (bif Nat.ble 54 k then (bif Nat.ble 81 k then (bif Nat.ble 95 k then (bif Nat.ble 102 k then (bif Nat.ble 105 k then (bif Nat.ble 107 k then (bif Nat.ble 108 k then (100, 5) else (100, 3)) else (bif Nat.ble 106 k then (100, 5) else (100, 5))) else (bif Nat.ble 103 k then (bif Nat.ble 104 k then (100, 100) else (100, 100)) else (100, 100))) else (bif Nat.ble 98 k then (bif Nat.ble 100 k then (bif Nat.ble 101 k then (100, 100) else (100, 100)) else (bif Nat.ble 99 k then (100, 100) else (100, 20))) else (bif Nat.ble 96 k then (bif Nat.ble 97 k then (100, 20) else (100, 20)) else (100, 20)))) else (bif Nat.ble 88 k then (bif Nat.ble 91 k then (bif Nat.ble 93 k then (bif Nat.ble 94 k then (100, 100) else (100, 1350)) else (bif Nat.ble 92 k then (100, 270) else (100, 270))) else (bif Nat.ble 89 k then (bif Nat.ble 90 k then (12, 0) else (1, 0)) else (100, 4))) else (bif Nat.ble 84 k then (bif Nat.ble 86 k then (bif Nat.ble 87 k then (0, 0) else (100, 200)) else (bif Nat.ble 85 k then (0, 0) else (6, 0))) else (bif Nat.ble 82 k then (bif Nat.ble 83 k then (100, 4) else (0, 0)) else (100, 600))))) else (bif Nat.ble 67 k then (bif Nat.ble 74 k then (bif Nat.ble 77 k then (bif Nat.ble 79 k then (bif Nat.ble 80 k then (0, 0) else (9, 0)) else (bif Nat.ble 78 k then (100, 100) else (0, 0))) else (bif Nat.ble 75 k then (bif Nat.ble 76 k then (7, 0) else (4, 0)) else (100, 20))) else (bif Nat.ble 70 k then (bif Nat.ble 72 k then (bif Nat.ble 73 k then (0, 0) else (100, 200)) else (bif Nat.ble 71 k then (0, 0) else (100, 64))) else (bif Nat.ble 68 k then (bif Nat.ble 69 k then (0, 0) else (5, 0)) else (100, 20)))) else (bif Nat.ble 60 k then (bif Nat.ble 63 k then (bif Nat.ble 65 k then (bif Nat.ble 66 k then (0, 0) else (100, 200)) else (bif Nat.ble 64 k then (0, 0) else (100, 64))) else (bif Nat.ble 61 k then (bif Nat.ble 62 k then (0, 0) else (5, 0)) else (100, 20))) else (bif Nat.ble 57 k then (bif Nat.ble 58 k then (bif Nat.ble 59 k then (0, 0) else (100, 200)) else (0, 0)) else (bif Nat.ble 55 k then (bif Nat.ble 56 k then (100, 64) else (0, 0)) else (5, 0)))))) else (bif Nat.ble 27 k then (bif Nat.ble 40 k then (bif Nat.ble 47 k then (bif Nat.ble 50 k then (bif Nat.ble 52 k then (bif Nat.ble 53 k then (100, 20) else (0, 0)) else (bif Nat.ble 51 k then (100, 200) else (0, 0))) else (bif Nat.ble 48 k then (bif Nat.ble 49 k then (100, 64) else (0, 0)) else (5, 0))) else (bif Nat.ble 43 k then (bif Nat.ble 45 k then (bif Nat.ble 46 k then (100, 20) else (0, 0)) else (bif Nat.ble 44 k then (100, 200) else (0, 0))) else (bif Nat.ble 41 k then (bif Nat.ble 42 k then (100, 64) else (0, 0)) else (5, 0)))) else (bif Nat.ble 33 k then (bif Nat.ble 36 k then (bif Nat.ble 38 k then (bif Nat.ble 39 k then (101, 5) else (3, 0)) else (bif Nat.ble 37 k then (100, 20) else (0, 0))) else (bif Nat.ble 34 k then (bif Nat.ble 35 k then (100, 20) else (0, 0)) else (100, 48))) else (bif Nat.ble 30 k then (bif Nat.ble 31 k then (bif Nat.ble 32 k then (0, 0) else (10, 0)) else (100, 20)) else (bif Nat.ble 28 k then (bif Nat.ble 29 k then (0, 0) else (100, 200)) else (0, 0))))) else (bif Nat.ble 13 k then (bif Nat.ble 20 k then (bif Nat.ble 23 k then (bif Nat.ble 25 k then (bif Nat.ble 26 k then (100, 64) else (0, 0)) else (bif Nat.ble 24 k then (5, 0) else (2, 0))) else (bif Nat.ble 21 k then (bif Nat.ble 22 k then (100, 8) else (0, 0)) else (8, 0))) else (bif Nat.ble 16 k then (bif Nat.ble 18 k then (bif Nat.ble 19 k then (100, 20) else (0, 0)) else (bif Nat.ble 17 k then (100, 48) else (0, 0))) else (bif Nat.ble 14 k then (bif Nat.ble 15 k then (10, 0) else (100, 20)) else (0, 0)))) else (bif Nat.ble 6 k then (bif Nat.ble 9 k then (bif Nat.ble 11 k then (bif Nat.ble 12 k then (100, 200) else (0, 0)) else (bif Nat.ble 10 k then (100, 64) else (0, 0))) else (bif Nat.ble 7 k then (bif Nat.ble 8 k then (5, 0) else (100, 20)) else (0, 0))) else (bif Nat.ble 3 k then (bif Nat.ble 4 k then (bif Nat.ble 5 k then (100, 200) else (0, 0)) else (100, 64)) else (bif Nat.ble 1 k then (bif Nat.ble 2 k then (0, 0) else (5, 0)) else (11, 0)))))))
def e_GG : Nat → Nat → Option Nat := fun k j => (bif Nat.ble 54 k then (bif Nat.ble 81 k then (bif Nat.ble 95 k then (bif Nat.ble 102 k then (bif Nat.ble 105 k then (bif Nat.ble 107 k then (bif Nat.ble 108 k then none else none) else (bif Nat.ble 106 k then none else none)) else (bif Nat.ble 103 k then (bif Nat.ble 104 k then none else none) else none)) else (bif Nat.ble 98 k then (bif Nat.ble 100 k then (bif Nat.ble 101 k then none else none) else (bif Nat.ble 99 k then none else none)) else (bif Nat.ble 96 k then (bif Nat.ble 97 k then none else none) else none))) else (bif Nat.ble 88 k then (bif Nat.ble 91 k then (bif Nat.ble 93 k then (bif Nat.ble 94 k then none else none) else (bif Nat.ble 92 k then none else none)) else (bif Nat.ble 89 k then (bif Nat.ble 90 k then (bif Nat.ble 11 j then (bif Nat.ble 17 j then (bif Nat.ble 20 j then (bif Nat.ble 21 j then (bif Nat.ble 22 j then (some 108) else none) else (some 107)) else (bif Nat.ble 18 j then (bif Nat.ble 19 j then (some 106) else (some 105)) else none)) else (bif Nat.ble 14 j then (bif Nat.ble 15 j then (bif Nat.ble 16 j then (some 104) else (some 103)) else (some 102)) else (bif Nat.ble 12 j then (bif Nat.ble 13 j then (some 101) else (some 100)) else (some 99)))) else (bif Nat.ble 5 j then (bif Nat.ble 8 j then (bif Nat.ble 9 j then (bif Nat.ble 10 j then (some 98) else (some 97)) else (some 96)) else (bif Nat.ble 6 j then (bif Nat.ble 7 j then (some 95) else none) else (some 94))) else (bif Nat.ble 2 j then (bif Nat.ble 3 j then (bif Nat.ble 4 j then none else (some 93)) else (some 92)) else (bif Nat.ble 1 j then (some 91) else none)))) else none) else none)) else (bif Nat.ble 84 k then (bif Nat.ble 86 k then (bif Nat.ble 87 k then (some 88) else none) else (bif Nat.ble 85 k then (some 86) else (bif Nat.ble 1 j then (some 87) else (some 85)))) else (bif Nat.ble 82 k then (bif Nat.ble 83 k then none else (some 83)) else none)))) else (bif Nat.ble 67 k then (bif Nat.ble 74 k then (bif Nat.ble 77 k then (bif Nat.ble 79 k then (bif Nat.ble 80 k then (some 81) else (some 80)) else (bif Nat.ble 78 k then none else (some 78))) else (bif Nat.ble 75 k then (bif Nat.ble 76 k then (some 77) else (bif Nat.ble 1 j then (bif Nat.ble 2 j then (some 82) else (some 79)) else (some 76))) else none)) else (bif Nat.ble 70 k then (bif Nat.ble 72 k then (bif Nat.ble 73 k then (some 74) else none) else (bif Nat.ble 71 k then (some 72) else none)) else (bif Nat.ble 68 k then (bif Nat.ble 69 k then (some 70) else (bif Nat.ble 1 j then (bif Nat.ble 2 j then (some 73) else (some 71)) else (some 69))) else none))) else (bif Nat.ble 60 k then (bif Nat.ble 63 k then (bif Nat.ble 65 k then (bif Nat.ble 66 k then (some 67) else none) else (bif Nat.ble 64 k then (some 65) else none)) else (bif Nat.ble 61 k then (bif Nat.ble 62 k then (some 63) else (bif Nat.ble 1 j then (bif Nat.ble 2 j then (some 66) else (some 64)) else (some 62))) else none)) else (bif Nat.ble 57 k then (bif Nat.ble 58 k then (bif Nat.ble 59 k then (some 60) else none) else (some 58)) else (bif Nat.ble 55 k then (bif Nat.ble 56 k then none else (some 56)) else (bif Nat.ble 1 j then (bif Nat.ble 2 j then (some 59) else (some 57)) else (some 55))))))) else (bif Nat.ble 27 k then (bif Nat.ble 40 k then (bif Nat.ble 47 k then (bif Nat.ble 50 k then (bif Nat.ble 52 k then (bif Nat.ble 53 k then none else (some 53)) else (bif Nat.ble 51 k then none else (some 51))) else (bif Nat.ble 48 k then (bif Nat.ble 49 k then none else (some 49)) else (bif Nat.ble 1 j then (bif Nat.ble 2 j then (some 52) else (some 50)) else (some 48)))) else (bif Nat.ble 43 k then (bif Nat.ble 45 k then (bif Nat.ble 46 k then none else (some 46)) else (bif Nat.ble 44 k then none else (some 44))) else (bif Nat.ble 41 k then (bif Nat.ble 42 k then none else (some 42)) else (bif Nat.ble 1 j then (bif Nat.ble 2 j then (some 45) else (some 43)) else (some 41))))) else (bif Nat.ble 33 k then (bif Nat.ble 36 k then (bif Nat.ble 38 k then (bif Nat.ble 39 k then (bif Nat.ble 2 j then (bif Nat.ble 3 j then (bif Nat.ble 4 j then (some 68) else (some 61)) else (some 54)) else (bif Nat.ble 1 j then (some 47) else (some 40))) else (some 39)) else (bif Nat.ble 37 k then none else (some 37))) else (bif Nat.ble 34 k then (bif Nat.ble 35 k then none else (some 35)) else none)) else (bif Nat.ble 30 k then (bif Nat.ble 31 k then (bif Nat.ble 32 k then (some 33) else (bif Nat.ble 1 j then (some 34) else (some 32))) else none) else (bif Nat.ble 28 k then (bif Nat.ble 29 k then (some 30) else none) else (some 28))))) else (bif Nat.ble 13 k then (bif Nat.ble 20 k then (bif Nat.ble 23 k then (bif Nat.ble 25 k then (bif Nat.ble 26 k then none else (some 26)) else (bif Nat.ble 24 k then (bif Nat.ble 1 j then (bif Nat.ble 2 j then (some 29) else (some 27)) else (some 25)) else (bif Nat.ble 1 j then (bif Nat.ble 2 j then (some 36) else (some 31)) else (some 24)))) else (bif Nat.ble 21 k then (bif Nat.ble 22 k then none else (some 22)) else (some 21))) else (bif Nat.ble 16 k then (bif Nat.ble 18 k then (bif Nat.ble 19 k then none else (some 19)) else (bif Nat.ble 17 k then none else (some 17))) else (bif Nat.ble 14 k then (bif Nat.ble 15 k then (bif Nat.ble 1 j then (some 18) else (some 16)) else none) else (some 14)))) else (bif Nat.ble 6 k then (bif Nat.ble 9 k then (bif Nat.ble 11 k then (bif Nat.ble 12 k then none else (some 12)) else (bif Nat.ble 10 k then none else (some 10))) else (bif Nat.ble 7 k then (bif Nat.ble 8 k then (bif Nat.ble 1 j then (bif Nat.ble 2 j then (some 13) else (some 11)) else (some 9)) else none) else (some 7))) else (bif Nat.ble 3 k then (bif Nat.ble 4 k then (bif Nat.ble 5 k then none else (some 5)) else none) else (bif Nat.ble 1 k then (bif Nat.ble 2 k then (some 3) else (bif Nat.ble 1 j then (bif Nat.ble 2 j then (some 6) else (some 4)) else (some 2))) else (bif Nat.ble 4 j then (bif Nat.ble 6 j then (bif Nat.ble 7 j then (bif Nat.ble 8 j then (some 89) else (some 84)) else (some 75)) else (bif Nat.ble 5 j then (some 38) else (some 23))) else (bif Nat.ble 2 j then (bif Nat.ble 3 j then (some 20) else (some 15)) else (bif Nat.ble 1 j then (some 8) else (some 1))))))))))
def e_WD : Nat → Int32 := fun k => (bif Nat.ble 54 k then (bif Nat.ble 81 k then (bif Nat.ble 95 k then (bif Nat.ble 102 k then (bif Nat.ble 105 k then (bif Nat.ble 107 k then (bif Nat.ble 108 k then 0 else 0) else (bif Nat.ble 106 k then 0 else 0)) else (bif Nat.ble 103 k then (bif Nat.ble 104 k then 0 else 0) else 0)) else (bif Nat.ble 98 k then (bif Nat.ble 100 k then (bif Nat.ble 101 k then 0 else 0) else (bif Nat.ble 99 k then 0 else 0)) else (bif Nat.ble 96 k then (bif Nat.ble 97 k then 0 else 0) else 0))) else (bif Nat.ble 88 k then (bif Nat.ble 91 k then (bif Nat.ble 93 k then (bif Nat.ble 94 k then 0 else 0) else (bif Nat.ble 92 k then 0 else 0)) else (bif Nat.ble 89 k then (bif Nat.ble 90 k then 0 else 0) else 0)) else (bif Nat.ble 84 k then (bif Nat.ble 86 k then (bif Nat.ble 87 k then 1 else 0) else (bif Nat.ble 85 k then 1 else 0)) else (bif Nat.ble 82 k then (bif Nat.ble 83 k then 0 else 1) else 0)))) else (bif Nat.ble 67 k then (bif Nat.ble 74 k then (bif Nat.ble 77 k then (bif Nat.ble 79 k then (bif Nat.ble 80 k then 6 else 0) else (bif Nat.ble 78 k then 0 else 1)) else (bif Nat.ble 75 k then (bif Nat.ble 76 k then 0 else 0) else 0)) else (bif Nat.ble 70 k then (bif Nat.ble 72 k then (bif Nat.ble 73 k then 1 else 0) else (bif Nat.ble 71 k then 10 else 0)) else (bif Nat.ble 68 k then (bif Nat.ble 69 k then 8 else 0) else 0))) else (bif Nat.ble 60 k then (bif Nat.ble 63 k then (bif Nat.ble 65 k then (bif Nat.ble 66 k then 1 else 0) else (bif Nat.ble 64 k then 10 else 0)) else (bif Nat.ble 61 k then (bif Nat.ble 62 k then 8 else 0) else 0)) else (bif Nat.ble 57 k then (bif Nat.ble 58 k then (bif Nat.ble 59 k then 1 else 0) else 10) else (bif Nat.ble 55 k then (bif Nat.ble 56 k then 0 else 8) else 0))))) else (bif Nat.ble 27 k then (bif Nat.ble 40 k then (bif Nat.ble 47 k then (bif Nat.ble 50 k then (bif Nat.ble 52 k then (bif Nat.ble 53 k then 0 else 1) else (bif Nat.ble 51 k then 0 else 10)) else (bif Nat.ble 48 k then (bif Nat.ble 49 k then 0 else 8) else 0)) else (bif Nat.ble 43 k then (bif Nat.ble 45 k then (bif Nat.ble 46 k then 0 else 1) else (bif Nat.ble 44 k then 0 else 10)) else (bif Nat.ble 41 k then (bif Nat.ble 42 k then 0 else 8) else 0))) else (bif Nat.ble 33 k then (bif Nat.ble 36 k then (bif Nat.ble 38 k then (bif Nat.ble 39 k then 0 else 0) else (bif Nat.ble 37 k then 0 else 1)) else (bif Nat.ble 34 k then (bif Nat.ble 35 k then 0 else 1) else 0)) else (bif Nat.ble 30 k then (bif Nat.ble 31 k then (bif Nat.ble 32 k then 1 else 0) else 0) else (bif Nat.ble 28 k then (bif Nat.ble 29 k then 1 else 0) else 10)))) else (bif Nat.ble 13 k then (bif Nat.ble 20 k then (bif Nat.ble 23 k then (bif Nat.ble 25 k then (bif Nat.ble 26 k then 0 else 8) else (bif Nat.ble 24 k then 0 else 0)) else (bif Nat.ble 21 k then (bif Nat.ble 22 k then 0 else 1) else 0)) else (bif Nat.ble 16 k then (bif Nat.ble 18 k then (bif Nat.ble 19 k then 0 else 1) else (bif Nat.ble 17 k then 0 else 1)) else (bif Nat.ble 14 k then (bif Nat.ble 15 k then 0 else 0) else 1))) else (bif Nat.ble 6 k then (bif Nat.ble 9 k then (bif Nat.ble 11 k then (bif Nat.ble 12 k then 0 else 10) else (bif Nat.ble 10 k then 0 else 8)) else (bif Nat.ble 7 k then (bif Nat.ble 8 k then 0 else 0) else 1)) else (bif Nat.ble 3 k then (bif Nat.ble 4 k then (bif Nat.ble 5 k then 0 else 10) else 0) else (bif Nat.ble 1 k then (bif Nat.ble 2 k then 8 else 0) else 0))))))
abbrev e_NN : Nat := 109
end
section
/-! THE ENGINE: an abstract machine over numbered objects, its weakest preconditions by computation, and that they hold of the machine. -/
abbrev Sg : Type := (Nat × (Nat → Nat × Nat)) × (Nat → Nat → Option Nat) × (Nat → Nat → Int32) × (Nat → Nat → Int32)
def mNm (y : Nat) : MethodName := (e_mt y).1
def mBy (y : Nat) : ByteArray := (e_mt y).2.1
def mML (y : Nat) : Nat := (e_mt y).2.2.1
def mRet (y : Nat) : Option FieldType := (e_mt y).2.2.2.1
def mRm (y : Nat) : Room := (e_mt y).2.2.2.2.1
def mCi (y : Nat) : Nat := (e_mt y).2.2.2.2.2.1
def mOps (y : Nat) : List (Nat × XO) := (e_mt y).2.2.2.2.2.2
def e_find : List (Nat × XO) → Nat → Option XO
  | [], _ => none
  | (q, o) :: r, pc => bif Nat.beq q pc then some o else e_find r pc
def e_op (y pc : Nat) : Option XO := e_find (mOps y) pc
theorem e_find_mem {pc : Nat} {o : XO} : ∀ {l : List (Nat × XO)}, e_find l pc = some o → (pc, o) ∈ l
  | [], h => by cases h
  | (q, o') :: r, h => by
    unfold e_find at h
    cases hq : Nat.beq q pc with
    | true =>
      rw [hq] at h
      have e1 := Nat.eq_of_beq_eq_true hq
      cases h
      subst e1
      exact List.mem_cons_self
    | false =>
      rw [hq] at h
      exact List.mem_cons_of_mem _ (e_find_mem h)
def u1 {α : Type} (f : Nat → α) (k : Nat) (x : α) : Nat → α := fun j => if j = k then x else f j
def u2 {α : Type} (f : Nat → Nat → α) (o k : Nat) (x : α) : Nat → Nat → α := u1 f o (u1 (f o) k x)
theorem u1_s {α : Type} (f : Nat → α) (k : Nat) (x : α) : u1 f k x k = x := if_pos rfl
theorem u1_n {α : Type} (f : Nat → α) {k j : Nat} (x : α) (h : j ≠ k) : u1 f k x j = f j := if_neg h
def e_v (b : Nat) : Value → Value
  | .ref a => .ref (b + a)
  | v => v
def e_isI : FieldType → Bool
  | .int => true
  | .boolean => true
  | _ => false
def e_fty (c k : Nat) : FieldType := (e_ct c).2.2.2 k
def e_cls : List vw_C := (List.range 13).map (fun c => ((e_ct c).1, (e_ct c).2.1, (e_ct c).2.2.1))
theorem e_cls_at {c : Nat} (h : c < 13) : e_cls[c]? = some ((e_ct c).1, (e_ct c).2.1, (e_ct c).2.2.1) := by
  simp [e_cls, List.getElem?_map, List.getElem?_range h]
def e_fv (b : Nat) (σ : Sg) (c o k : Nat) : Value := bif e_isI (e_fty c k) then .int (σ.2.2.1 o k) else va_rf ((σ.2.1 o k).map (fun j => b + j))
def e_fl (b : Nat) (σ : Sg) (c o : Nat) : List Value := (List.range (e_ct c).2.2.1).map (e_fv b σ c o)
def e_ent (b : Nat) (cI cS : ClassId) (σ : Sg) (o : Nat) : va_E :=
  bif Nat.beq (σ.1.2 o).1 100 then .inl (cI, (σ.1.2 o).2, .inl (σ.2.2.2 o))
  else bif Nat.beq (σ.1.2 o).1 101 then .inl (cS, (σ.1.2 o).2, .inr (.inr (.inr (.inr (fun k => (σ.2.1 o k).map (fun j => b + j))))))
  else .inr ((σ.1.2 o).1, e_fl b σ (σ.1.2 o).1 o)
def e_Sim (D : va_G) (b : Nat) (cI cS : ClassId) (H0 : Heap) (σ : Sg) (H : Heap) : Prop :=
  H.size = b + σ.1.1 ∧ (∀ q : Nat, q < b → H[q]? = H0[q]?) ∧ ∀ o : Nat, o < σ.1.1 → va_at D e_cls (b + o, e_ent b cI cS σ o) H
abbrev e_tys (cI cS : ClassId) : List (ClassId × FieldType) := [(cI, .int), (cS, .object "PuppetTurns$Scene")]
/-! locals -/
def e_get : List (Option Value) → Nat → Option Value
  | [], _ => none
  | a :: _, 0 => a
  | _ :: r, n + 1 => e_get r n
def e_set : List (Option Value) → Nat → Option Value → List (Option Value)
  | [], _, _ => []
  | _ :: r, 0, v => v :: r
  | a :: r, n + 1, v => a :: e_set r n v
theorem e_set_len : ∀ (L : List (Option Value)) (k : Nat) (v : Option Value), (e_set L k v).length = L.length
  | [], _, _ => rfl
  | _ :: _, 0, _ => rfl
  | a :: r, n + 1, v => by simp [e_set, e_set_len r n v]
theorem e_set_get : ∀ (L : List (Option Value)) (k : Nat) (v : Option Value) (j : Nat) (w : Value), e_get (e_set L k v) j = some w → (j = k ∧ v = some w) ∨ (j ≠ k ∧ e_get L j = some w)
  | [], _, _, _, _, h => by cases h
  | _ :: _, 0, v, 0, w, h => Or.inl ⟨rfl, h⟩
  | _ :: _, 0, v, j + 1, w, h => Or.inr ⟨by omega, h⟩
  | a :: r, n + 1, v, 0, w, h => Or.inr ⟨by omega, h⟩
  | a :: r, n + 1, v, j + 1, w, h => by
    rcases e_set_get r n v j w h with ⟨h1, h2⟩ | ⟨h1, h2⟩
    · exact Or.inl ⟨by omega, h2⟩
    · exact Or.inr ⟨by omega, h2⟩
def e_below (L : List (Option Value)) : Nat → Bool
  | 0 => true
  | j + 1 => match e_get L j with
    | some w => Nat.beq w.category 1
    | none => true
def e_st1 (L : List (Option Value)) (k : Nat) (v : Value) : Option (List (Option Value)) := bif Nat.blt k L.length && e_below L k then some (e_set L k (some v)) else none
def e_st2 (L : List (Option Value)) (k : Nat) (v : Value) : Option (List (Option Value)) := bif Nat.blt (k + 1) L.length && e_below L k then some (e_set (e_set L k (some v)) (k + 1) none) else none
def e_LH (b : Nat) (ls : Array Slot) (nL : Nat) (L : List (Option Value)) : Prop := L.length = nL ∧ ∃ l, lv_has ls nL l ∧ ∀ (j : Nat) (w : Value), e_get L j = some w → (j, e_v b w) ∈ l
theorem e_v_cat (b : Nat) (v : Value) : (e_v b v).category = v.category := by cases v <;> rfl
theorem e_LH_get {b nL j : Nat} {ls : Array Slot} {L : List (Option Value)} {w : Value} (h : e_LH b ls nL L) (hg : e_get L j = some w) : ls[j]? = some (.val (e_v b w)) := by
  obtain ⟨-, l, hl, hm⟩ := h
  exact hl.2.2 _ (hm j w hg)
theorem e_below_ok {L : List (Option Value)} {k j : Nat} {w : Value} (hb : e_below L k = true) (hg : e_get L j = some w) (hc : w.category = 2) : j + 1 ≠ k := by
  intro hk
  subst hk
  simp only [e_below, hg] at hb
  have := Nat.eq_of_beq_eq_true hb
  omega
theorem e_LH_st1 {b nL k : Nat} {ls : Array Slot} {L L' : List (Option Value)} {v : Value} (h : e_LH b ls nL L) (hs : e_st1 L k v = some L') :
    k < nL ∧ ∃ l, lv_has ls nL l ∧ ∀ ls', lv_has ls' nL ((k, e_v b v) :: l.filter (fun q => !(q.1 == k) && !(q.1 + 1 == k && q.2.category == 2))) → e_LH b ls' nL L' := by
  obtain ⟨hn, l, hl, hm⟩ := h
  unfold e_st1 at hs
  cases hc : (Nat.blt k L.length && e_below L k) with
  | false => rw [hc] at hs; cases hs
  | true =>
    rw [hc] at hs
    cases hs
    rw [Bool.and_eq_true] at hc
    have hk : k < L.length := by simpa [Nat.blt_eq] using hc.1
    refine ⟨by omega, l, hl, fun ls' h' => ⟨by rw [e_set_len]; exact hn, _, h', fun j w hj => ?_⟩⟩
    rcases e_set_get L k (some v) j w hj with ⟨h1, h2⟩ | ⟨h1, h2⟩
    · cases h2
      rw [h1]
      exact List.mem_cons_self
    · refine List.mem_cons_of_mem _ (List.mem_filter.mpr ⟨hm j w h2, ?_⟩)
      have h3 : ¬ (w.category = 2 ∧ j + 1 = k) := fun z => e_below_ok hc.2 h2 z.1 z.2
      rcases lv_cat w with h4 | h4
      · simp [h1, e_v_cat, h4]
      · have : j + 1 ≠ k := fun z => h3 ⟨h4, z⟩
        simp [h1, this]
theorem e_LH_st2 {b nL k : Nat} {ls : Array Slot} {L L' : List (Option Value)} {v : Value} (h : e_LH b ls nL L) (hs : e_st2 L k v = some L') :
    k + 1 < nL ∧ ∃ l, lv_has ls nL l ∧ ∀ ls', lv_has ls' nL ((k, e_v b v) :: l.filter (fun q => !(q.1 == k) && (!(q.1 == k + 1) && !(q.1 + 1 == k && q.2.category == 2)))) → e_LH b ls' nL L' := by
  obtain ⟨hn, l, hl, hm⟩ := h
  unfold e_st2 at hs
  cases hc : (Nat.blt (k + 1) L.length && e_below L k) with
  | false => rw [hc] at hs; cases hs
  | true =>
    rw [hc] at hs
    cases hs
    rw [Bool.and_eq_true] at hc
    have hk : k + 1 < L.length := by simpa [Nat.blt_eq] using hc.1
    refine ⟨by omega, l, hl, fun ls' h' => ⟨by rw [e_set_len, e_set_len]; exact hn, _, h', fun j w hj => ?_⟩⟩
    rcases e_set_get _ (k + 1) none j w hj with ⟨-, h2⟩ | ⟨h0, h2⟩
    · cases h2
    · rcases e_set_get L k (some v) j w h2 with ⟨h1, h2⟩ | ⟨h1, h2⟩
      · cases h2
        rw [h1]
        exact List.mem_cons_self
      · refine List.mem_cons_of_mem _ (List.mem_filter.mpr ⟨hm j w h2, ?_⟩)
        have h3 : ¬ (w.category = 2 ∧ j + 1 = k) := fun z => e_below_ok hc.2 h2 z.1 z.2
        rcases lv_cat w with h4 | h4
        · simp [h0, h1, e_v_cat, h4]
        · have : j + 1 ≠ k := fun z => h3 ⟨h4, z⟩
          simp [h0, h1, this]
def e_args : List Value → List (Option Value)
  | [] => []
  | v :: r => bif Nat.beq v.category 2 then some v :: none :: e_args r else some v :: e_args r
def e_pad : Nat → List (Option Value)
  | 0 => []
  | n + 1 => none :: e_pad n
def e_L0 (as : List Value) (nL : Nat) : List (Option Value) := e_args as ++ e_pad (nL - (e_args as).length)
theorem e_pad_get : ∀ n j, e_get (e_pad n) j = none
  | 0, _ => rfl
  | n + 1, 0 => rfl
  | n + 1, j + 1 => e_pad_get n j
theorem e_pad_len : ∀ n, (e_pad n).length = n
  | 0 => rfl
  | n + 1 => by simp [e_pad, e_pad_len n]
theorem e_args_mem (b n : Nat) : ∀ (as : List Value) (i j : Nat) (w : Value), e_get (e_args as ++ e_pad n) j = some w → (i + j, e_v b w) ∈ lv_args i (as.map (e_v b))
  | [], i, j, w, h => by simp only [e_args, List.nil_append] at h; rw [e_pad_get] at h; cases h
  | v :: r, i, j, w, h => by
    simp only [e_args] at h
    simp only [List.map_cons, lv_args, e_v_cat]
    rcases lv_cat v with hc | hc
    · rw [hc] at h
      simp only [show Nat.beq 1 2 = false from rfl, cond_false, List.cons_append] at h
      rw [if_neg (by omega)]
      cases j with
      | zero => simp only [e_get] at h; cases h; exact List.mem_cons_self
      | succ j => exact List.mem_cons_of_mem _ (by have := e_args_mem b n r (i + 1) j w h; rwa [show i + 1 + j = i + (j + 1) by omega] at this)
    · rw [hc] at h
      simp only [show Nat.beq 2 2 = true from rfl, cond_true, List.cons_append] at h
      rw [if_pos hc]
      cases j with
      | zero => simp only [e_get] at h; cases h; exact List.mem_cons_self
      | succ j =>
        cases j with
        | zero => simp only [e_get] at h; cases h
        | succ j => exact List.mem_cons_of_mem _ (by have := e_args_mem b n r (i + 2) j w h; rwa [show i + 2 + j = i + (j + 1 + 1) by omega] at this)
theorem e_args_len (b : Nat) : ∀ as : List Value, (lg_sl (as.map (e_v b))).length = (e_args as).length
  | [] => rfl
  | v :: r => by
    have ih := e_args_len b r
    unfold lg_sl at ih ⊢
    rcases lv_cat v with hc | hc
    · simp [e_args, hc, e_v_cat, ih, show Nat.beq 1 2 = false from rfl]
    · simp [e_args, hc, e_v_cat, ih, show Nat.beq 2 2 = true from rfl]
theorem e_LH_entry (b nL : Nat) (as : List Value) (h : (e_args as).length ≤ nL) : e_LH b ((lg_sl (as.map (e_v b)) ++ List.replicate (nL - (lg_sl (as.map (e_v b))).length) Slot.unset).toArray) nL (e_L0 as nL) := by
  refine ⟨?_, _, lv_entry (as.map (e_v b)) (n := nL) (by rw [e_args_len]; exact h), fun j w hj => ?_⟩
  · simp [e_L0, e_pad_len]; omega
  · have := e_args_mem b _ as 0 j w hj
    rwa [Nat.zero_add] at this
end
section
/-! instructions that touch locals and stack alone -/
def e_pure (i : Instr) (sw : List (Int32 × Nat)) (r1 : Nat) (L : List (Option Value)) (st : List Value) : Option (List (Option Value) × List Value) :=
  match i with
  | .iconst _ | .bipush _ | .sipush _ | .ldc _ => match sw with
    | [(v, _)] => some (L, .int v :: st)
    | _ => none
  | .lconst c => some (L, .long (Int64.ofNat (c : Nat)) :: st)
  | .ldc2_w _ => some (L, .long (Int64.ofNat r1) :: st)
  | .iload k => match e_get L k with
    | some (.int x) => some (L, .int x :: st)
    | _ => none
  | .iload_n k => match e_get L (k : Nat) with
    | some (.int x) => some (L, .int x :: st)
    | _ => none
  | .aload k => match e_get L k with
    | some (.ref x) => some (L, .ref x :: st)
    | _ => none
  | .aload_n k => match e_get L (k : Nat) with
    | some (.ref x) => some (L, .ref x :: st)
    | _ => none
  | .lload k => match e_get L k with
    | some (.long x) => some (L, .long x :: st)
    | _ => none
  | .lload_n k => match e_get L (k : Nat) with
    | some (.long x) => some (L, .long x :: st)
    | _ => none
  | .istore k => match st with
    | .int x :: st' => (e_st1 L k (.int x)).map (fun L' => (L', st'))
    | _ => none
  | .istore_n k => match st with
    | .int x :: st' => (e_st1 L (k : Nat) (.int x)).map (fun L' => (L', st'))
    | _ => none
  | .astore_n k => match st with
    | .ref x :: st' => (e_st1 L (k : Nat) (.ref x)).map (fun L' => (L', st'))
    | _ => none
  | .lstore k => match st with
    | .long x :: st' => (e_st2 L k (.long x)).map (fun L' => (L', st'))
    | _ => none
  | .lstore_n k => match st with
    | .long x :: st' => (e_st2 L (k : Nat) (.long x)).map (fun L' => (L', st'))
    | _ => none
  | .iinc k _ => match sw with
    | [(v, _)] => match e_get L k with
      | some (.int x) => (e_st1 L k (.int (x + v))).map (fun L' => (L', st))
      | _ => none
    | _ => none
  | .iadd => match st with
    | .int y :: .int x :: st' => some (L, .int (x + y) :: st')
    | _ => none
  | .isub => match st with
    | .int y :: .int x :: st' => some (L, .int (x - y) :: st')
    | _ => none
  | .imul => match st with
    | .int y :: .int x :: st' => some (L, .int (x * y) :: st')
    | _ => none
  | .iand => match st with
    | .int y :: .int x :: st' => some (L, .int (x &&& y) :: st')
    | _ => none
  | .ior => match st with
    | .int y :: .int x :: st' => some (L, .int (x ||| y) :: st')
    | _ => none
  | .ineg => match st with
    | .int x :: st' => some (L, .int (-x) :: st')
    | _ => none
  | .ishl => match st with
    | .int y :: .int x :: st' => some (L, .int (x <<< (y &&& 31)) :: st')
    | _ => none
  | .ishr => match st with
    | .int y :: .int x :: st' => some (L, .int (x >>> (y &&& 31)) :: st')
    | _ => none
  | .ladd => match st with
    | .long y :: .long x :: st' => some (L, .long (x + y) :: st')
    | _ => none
  | .lsub => match st with
    | .long y :: .long x :: st' => some (L, .long (x - y) :: st')
    | _ => none
  | .land => match st with
    | .long y :: .long x :: st' => some (L, .long (x &&& y) :: st')
    | _ => none
  | .lor => match st with
    | .long y :: .long x :: st' => some (L, .long (x ||| y) :: st')
    | _ => none
  | .lshl => match st with
    | .int y :: .long x :: st' => some (L, .long (x <<< (y.toInt64 &&& 63)) :: st')
    | _ => none
  | .lushr => match st with
    | .int y :: .long x :: st' => some (L, .long (x.toUInt64 >>> (y.toInt64.toUInt64 &&& Int64.toUInt64 63)).toInt64 :: st')
    | _ => none
  | .l2i => match st with
    | .long x :: st' => some (L, .int x.toInt32 :: st')
    | _ => none
  | .i2l => match st with
    | .int x :: st' => some (L, .long x.toInt64 :: st')
    | _ => none
  | .lcmp => match st with
    | .long y :: .long x :: st' => some (L, .int (lg_cmp x y) :: st')
    | _ => none
  | .dup => match st with
    | v :: st' => bif Nat.beq v.category 1 then some (L, v :: v :: st') else none
    | _ => none
  | .dup2 => match st with
    | a :: b :: st' => bif Nat.beq a.category 1 && Nat.beq b.category 1 then some (L, a :: b :: a :: b :: st') else none
    | _ => none
  | .pop => match st with
    | v :: st' => bif Nat.beq v.category 1 then some (L, st') else none
    | _ => none
  | _ => none
/-- the lengths of the instructions that go on behind themselves -/
def e_len : Instr → Nat
  | .bipush _ | .iload _ | .aload _ | .lload _ | .istore _ | .lstore _ | .ldc _ | .newarray _ => 2
  | .sipush _ | .ldc2_w _ | .iinc _ _ | .goto _ | .if_icmp _ _ | .ifCond _ _ | .ifnull _ | .getfield _ | .putfield _ | .invokestatic _ | .invokevirtual _ | .invokespecial _ | .new _ | .anewarray _ => 3
  | _ => 1
/-- what constants an instruction means -/
def e_swOk (i : Instr) (sw : List (Int32 × Nat)) : Bool :=
  match i with
  | .iconst n => match sw with
    | [(v, _)] => decide (Int32.ofInt n = v)
    | _ => false
  | .bipush n => match sw with
    | [(v, _)] => decide ((Int8.ofInt n).toInt32 = v)
    | _ => false
  | .sipush n => match sw with
    | [(v, _)] => decide ((Int16.ofInt n).toInt32 = v)
    | _ => false
  | .iinc _ n => match sw with
    | [(v, _)] => decide (Int32.ofInt n = v)
    | _ => false
  | _ => true
def e_link (y r1 x : Nat) (nest : Bool) : Cond := bif nest then .methodLinkNest (mNm y).cls x (mNm r1) "PuppetTurns" else .methodLink (mNm y).cls x (mNm r1)
/-- the tables' words that an instruction needs -/
def e_need (y : Nat) (i : Instr) (r1 r2 : Nat) (nest : Bool) (sw : List (Int32 × Nat)) : List Cond :=
  match i with
  | .getfield x | .putfield x => [bif nest then .fieldLinkNest (mNm y).cls x ((e_ct r1).2.1 r2).1 ((e_ct r1).2.1 r2).2.1 ((e_ct r1).2.1 r2).2.2.1 "PuppetTurns" else .fieldLink (mNm y).cls x ((e_ct r1).2.1 r2).1 ((e_ct r1).2.1 r2).2.1 ((e_ct r1).2.1 r2).2.2.1]
  | .invokestatic x => bif Nat.beq r1 1001 then [.methodLink (mNm y).cls x arraycopyName, .native arraycopyName, .static arraycopyName, .initialized "java/lang/System"] else [e_link y r1 x nest, .initialized (mNm r1).cls, .code (mNm r1) (mBy r1) (mML r1) (mRet r1), .static (mNm r1)]
  | .invokevirtual x => [e_link y r1 x nest, .initialized (mNm r1).cls, .code (mNm r1) (mBy r1) (mML r1) (mRet r1), .instanceMethod (mNm r1), .selects (mNm r1).cls (mNm r1) (mNm r1)]
  | .invokespecial x => bif Nat.beq r1 1000 then [.methodLink (mNm y).cls x objectInit, .instanceMethod objectInit, .code objectInit ⟨#[0xb1]⟩ 1 none] else [e_link y r1 x nest, .initialized (mNm r1).cls, .code (mNm r1) (mBy r1) (mML r1) (mRet r1), .instanceMethod (mNm r1)]
  | .new x => [.classLink (mNm y).cls x (e_ct r1).1, .instantiable (e_ct r1).1 (e_ct r1).2.2.1, .initialized (e_ct r1).1]
  | .newarray _ => [.arrayClass .int]
  | .anewarray x => [.classLink (mNm y).cls x "PuppetTurns$Scene", .arrayOver (.object "PuppetTurns$Scene")]
  | .ldc x => match sw with
    | [(v, _)] => [.constant (mNm y).cls x v]
    | _ => []
  | .ldc2_w x => [.constantLong (mNm y).cls x (Int64.ofNat r1)]
  | _ => []
def e_callOk (y r1 n : Nat) : Bool :=
  decide ((mNm r1).cls ≠ "java/lang/invoke/MethodHandle") && decide ((mNm r1).cls ≠ "java/lang/invoke/VarHandle") && decide ((parseMethodDescriptor (mNm r1).desc).map (fun d => d.parameters.length) = some n)
    && Nat.ble ((mRm r1).frames + 1) (mRm y).frames && Nat.ble (8 + (mML r1 + 11) + (mRm r1).locals) (mRm y).locals && Nat.blt (mCi r1) 1000
def e_swT (pc : Nat) (lo hi : Int) (offs : Array Int) (sw : List (Int32 × Nat)) : Bool :=
  sw.all (fun q => decide (¬ q.1.toInt < lo) && decide (¬ hi < q.1.toInt) && decide (offs[(q.1.toInt - lo).toNat]? = some ((q.2 : Int) - pc)))
    && (List.range (hi + 1 - lo).toNat).all (fun j => sw.any (fun q => decide (q.1.toInt = lo + j)))
def e_swL (pc : Nat) (dflt : Int) (ps : Array (Int × Int)) (sw : List (Int32 × Nat)) : Bool :=
  sw.all (fun q => decide (Op.lookupswitch.offset ps.toList dflt q.1.toInt = (q.2 : Int) - pc)) && ps.toList.all (fun a => sw.any (fun q => decide (q.1.toInt = a.1)))
    && (ps.toList.zip (ps.toList.drop 1)).all (fun (a, next) => a.1 < next.1)
/-- what else must hold of an instruction: a program decides it -/
def e_okB (y pc : Nat) (o : XO) : Bool :=
  decide (decode (mBy y) pc = .ok (o.1, o.2.1)) && e_swOk o.1 o.2.2.2.2.2.2 &&
  match o with
  | (i, len, r1, r2, nest, _, sw) => match i with
    | .tableswitch dflt lo hi offs => decide ((pc : Int) + dflt = (r1 : Int)) && e_swT pc lo hi offs sw
    | .lookupswitch dflt ps => decide ((pc : Int) + dflt = (r1 : Int)) && e_swL pc dflt ps sw
    | .goto off => Nat.beq len 3 && decide ((pc : Int) + off = (r1 : Int))
    | .if_icmp _ off => Nat.beq len 3 && decide ((pc : Int) + off = (r1 : Int))
    | .ifCond _ off => Nat.beq len 3 && decide ((pc : Int) + off = (r1 : Int))
    | .getfield _ => Nat.beq len 3 && (Nat.blt r1 13 && Nat.blt r2 (e_ct r1).2.2.1)
    | .putfield _ => Nat.beq len 3 && (Nat.blt r1 13 && Nat.blt r2 (e_ct r1).2.2.1 && decide (((e_ct r1).2.1 r2).2.2.2 = false ∨ ((mNm y).name = "<init>" ∧ ((e_ct r1).2.1 r2).1 = (mNm y).cls ∧ nest = false)))
    | .invokestatic _ => Nat.beq len 3 && (bif Nat.beq r1 1001 then (Nat.ble 1 (mRm y).frames && Nat.ble (8 + (nativeFrameWords "java/lang/System" "arraycopy" 5 + 11)) (mRm y).locals && !nest) else e_callOk y r1 r2)
    | .invokevirtual _ => Nat.beq len 3 && (e_callOk y r1 r2 && Nat.blt (mCi r1) 13 && decide ((e_ct (mCi r1)).1 = (mNm r1).cls))
    | .invokespecial _ => Nat.beq len 3 && (bif Nat.beq r1 1000 then (Nat.ble 1 (mRm y).frames && Nat.ble 20 (mRm y).locals && !nest) else (e_callOk y r1 r2 && decide ((mNm r1).name = "<init>") && decide (mRet r1 = none)))
    | .new _ => Nat.beq len 3 && Nat.blt r1 13
    | i => Nat.beq len (e_len i)
/-! the tables' words stay true -/
def e_wmB (w : Cond) : Bool := goodWord w || match w with
  | .fieldLinkNest _ _ _ _ _ _ => true
  | .methodLinkNest _ _ _ _ => true
  | .arrayOver (.object _) => true
  | _ => false
/-- the words that a method may take along -/
def e_WS : List Cond := lw_tbl.filter e_wmB
def OkM (y : Nat) : Prop := ∀ q ∈ mOps y, (e_okB y q.1 q.2 && (e_need y q.2.1 q.2.2.2.1 q.2.2.2.2.1 q.2.2.2.2.2.1 q.2.2.2.2.2.2.2).all e_wmB && decide (e_need y q.2.1 q.2.2.2.1 q.2.2.2.2.1 q.2.2.2.2.2.1 q.2.2.2.2.2.2.2 = q.2.2.2.2.2.2.1.filterMap (fun i => lw_tbl[i]?))) = true
theorem okm_of {y : Nat} (h : (mOps y).all (fun q => e_okB y q.1 q.2 && (e_need y q.2.1 q.2.2.2.1 q.2.2.2.2.1 q.2.2.2.2.2.1 q.2.2.2.2.2.2.2).all e_wmB && decide (e_need y q.2.1 q.2.2.2.1 q.2.2.2.2.1 q.2.2.2.2.2.1 q.2.2.2.2.2.2.2 = q.2.2.2.2.2.2.1.filterMap (fun i => lw_tbl[i]?))) = true) : OkM y := List.all_eq_true.mp h
theorem okm_at {y pc : Nat} {i : Instr} {len r1 r2 : Nat} {nest : Bool} {hh : List Nat} {sw : List (Int32 × Nat)} (h : OkM y) (ho : e_op y pc = some (i, len, r1, r2, nest, hh, sw)) :
    e_okB y pc (i, len, r1, r2, nest, hh, sw) = true ∧ ∀ w ∈ e_need y i r1 r2 nest sw, w ∈ e_WS := by
  have h1 := h _ (e_find_mem ho)
  rw [Bool.and_eq_true, Bool.and_eq_true] at h1
  refine ⟨h1.1.1, fun w hw => ?_⟩
  have h2 := of_decide_eq_true h1.2
  dsimp only at h2
  have h3 := List.all_eq_true.mp h1.1.2 w hw
  refine List.mem_filter.mpr ⟨?_, h3⟩
  rw [h2] at hw
  obtain ⟨j, -, hj⟩ := List.mem_filterMap.mp hw
  exact List.mem_of_getElem? hj
theorem okb_dec {y pc : Nat} {o : XO} (h : e_okB y pc o = true) : decode (mBy y) pc = .ok (o.1, o.2.1) ∧ e_swOk o.1 o.2.2.2.2.2.2 = true := by
  unfold e_okB at h
  simp only [Bool.and_eq_true] at h
  exact ⟨of_decide_eq_true h.1.1, h.1.2⟩
end
section
set_option maxRecDepth 100000 in
theorem ok_Cells_init : OkM 0 := okm_of (by decide +kernel)
set_option maxRecDepth 100000 in
theorem ok_Cells_get1 : OkM 1 := okm_of (by decide +kernel)
set_option maxRecDepth 100000 in
theorem ok_Cells_get2 : OkM 2 := okm_of (by decide +kernel)
set_option maxRecDepth 100000 in
theorem ok_Cells_set2 : OkM 3 := okm_of (by decide +kernel)
set_option maxRecDepth 100000 in
theorem ok_Cells_set3 : OkM 4 := okm_of (by decide +kernel)
set_option maxRecDepth 100000 in
theorem ok_Cells_add : OkM 5 := okm_of (by decide +kernel)
set_option maxRecDepth 100000 in
theorem ok_Cells_fill : OkM 6 := okm_of (by decide +kernel)
set_option maxRecDepth 100000 in
theorem ok_Cells_copyFrom : OkM 7 := okm_of (by decide +kernel)
set_option maxRecDepth 100000 in
theorem ok_Fail_init : OkM 8 := okm_of (by decide +kernel)
set_option maxRecDepth 100000 in
theorem ok_Fail_set : OkM 9 := okm_of (by decide +kernel)
set_option maxRecDepth 100000 in
theorem ok_Fail_part : OkM 10 := okm_of (by decide +kernel)
set_option maxRecDepth 100000 in
theorem ok_Fore_init : OkM 11 := okm_of (by decide +kernel)
set_option maxRecDepth 100000 in
theorem ok_Fore_hiddenSince : OkM 12 := okm_of (by decide +kernel)
set_option maxRecDepth 100000 in
theorem ok_Fore_hiddenFrames : OkM 13 := okm_of (by decide +kernel)
set_option maxRecDepth 100000 in
theorem ok_Fore_framesUntilAllShown : OkM 14 := okm_of (by decide +kernel)
set_option maxRecDepth 100000 in
theorem ok_Fore_allShownWithin : OkM 15 := okm_of (by decide +kernel)
set_option maxRecDepth 100000 in
theorem ok_Fore_findStep : OkM 16 := okm_of (by decide +kernel)
set_option maxRecDepth 100000 in
theorem ok_Fore_noteHiddenByTurns : OkM 17 := okm_of (by decide +kernel)
set_option maxRecDepth 100000 in
theorem ok_Fore_greatestWith : OkM 18 := okm_of (by decide +kernel)
set_option maxRecDepth 100000 in
theorem ok_Fore_framesHidden : OkM 19 := okm_of (by decide +kernel)
set_option maxRecDepth 100000 in
theorem ok_Hist_init : OkM 20 := okm_of (by decide +kernel)
set_option maxRecDepth 100000 in
theorem ok_Hist_newestSlot : OkM 21 := okm_of (by decide +kernel)
set_option maxRecDepth 100000 in
theorem ok_Hist_record : OkM 22 := okm_of (by decide +kernel)
set_option maxRecDepth 100000 in
theorem ok_Hist_restore : OkM 23 := okm_of (by decide +kernel)
set_option maxRecDepth 100000 in
theorem ok_Read_init : OkM 24 := okm_of (by decide +kernel)
set_option maxRecDepth 100000 in
theorem ok_Read_read : OkM 25 := okm_of (by decide +kernel)
set_option maxRecDepth 100000 in
theorem ok_Read_fail : OkM 26 := okm_of (by decide +kernel)
set_option maxRecDepth 100000 in
theorem ok_Read_readNext : OkM 27 := okm_of (by decide +kernel)
set_option maxRecDepth 100000 in
theorem ok_Read_isDigit : OkM 28 := okm_of (by decide +kernel)
set_option maxRecDepth 100000 in
theorem ok_Read_readRepeatedGroup : OkM 29 := okm_of (by decide +kernel)
set_option maxRecDepth 100000 in
theorem ok_Read_openGroup : OkM 30 := okm_of (by decide +kernel)
set_option maxRecDepth 100000 in
theorem ok_Read_closeGroup : OkM 31 := okm_of (by decide +kernel)
set_option maxRecDepth 100000 in
theorem ok_Read_readAct : OkM 32 := okm_of (by decide +kernel)
set_option maxRecDepth 100000 in
theorem ok_Read_numbersOf : OkM 33 := okm_of (by decide +kernel)
set_option maxRecDepth 100000 in
theorem ok_Read_expect : OkM 34 := okm_of (by decide +kernel)
set_option maxRecDepth 100000 in
theorem ok_Read_readNumber : OkM 35 := okm_of (by decide +kernel)
set_option maxRecDepth 100000 in
theorem ok_Scene_init : OkM 36 := okm_of (by decide +kernel)
set_option maxRecDepth 100000 in
theorem ok_Scene_copyFrom : OkM 37 := okm_of (by decide +kernel)
set_option maxRecDepth 100000 in
theorem ok_Scene_position : OkM 38 := okm_of (by decide +kernel)
set_option maxRecDepth 100000 in
theorem ok_Scene_exists : OkM 39 := okm_of (by decide +kernel)
set_option maxRecDepth 100000 in
theorem ok_Scene_hero : OkM 40 := okm_of (by decide +kernel)
set_option maxRecDepth 100000 in
theorem ok_Scene_firstLine : OkM 41 := okm_of (by decide +kernel)
set_option maxRecDepth 100000 in
theorem ok_Scene_lastLine : OkM 42 := okm_of (by decide +kernel)
set_option maxRecDepth 100000 in
theorem ok_Scene_linesOf : OkM 43 := okm_of (by decide +kernel)
set_option maxRecDepth 100000 in
theorem ok_Scene_standsOn : OkM 44 := okm_of (by decide +kernel)
set_option maxRecDepth 100000 in
theorem ok_Scene_dotsOn : OkM 45 := okm_of (by decide +kernel)
set_option maxRecDepth 100000 in
theorem ok_Scene_mirrored : OkM 46 := okm_of (by decide +kernel)
set_option maxRecDepth 100000 in
theorem ok_Scene_placed : OkM 47 := okm_of (by decide +kernel)
set_option maxRecDepth 100000 in
theorem ok_Scene_redraw : OkM 48 := okm_of (by decide +kernel)
set_option maxRecDepth 100000 in
theorem ok_Scene_isPlace : OkM 49 := okm_of (by decide +kernel)
set_option maxRecDepth 100000 in
theorem ok_Scene_admit : OkM 50 := okm_of (by decide +kernel)
set_option maxRecDepth 100000 in
theorem ok_Scene_dismiss : OkM 51 := okm_of (by decide +kernel)
set_option maxRecDepth 100000 in
theorem ok_Scene_relocate : OkM 52 := okm_of (by decide +kernel)
set_option maxRecDepth 100000 in
theorem ok_Scene_flip : OkM 53 := okm_of (by decide +kernel)
set_option maxRecDepth 100000 in
theorem ok_Scene_putFirst : OkM 54 := okm_of (by decide +kernel)
set_option maxRecDepth 100000 in
theorem ok_Scene_putLast : OkM 55 := okm_of (by decide +kernel)
set_option maxRecDepth 100000 in
theorem ok_Scene_putAt : OkM 56 := okm_of (by decide +kernel)
set_option maxRecDepth 100000 in
theorem ok_Scene_shiftInOrder : OkM 57 := okm_of (by decide +kernel)
set_option maxRecDepth 100000 in
theorem ok_Scene_changeLimit : OkM 58 := okm_of (by decide +kernel)
set_option maxRecDepth 100000 in
theorem ok_Scene_changeRule : OkM 59 := okm_of (by decide +kernel)
set_option maxRecDepth 100000 in
theorem ok_Scene_makeFrame : OkM 60 := okm_of (by decide +kernel)
set_option maxRecDepth 100000 in
theorem ok_Scene_countHidden : OkM 61 := okm_of (by decide +kernel)
set_option maxRecDepth 100000 in
theorem ok_Scene_rotate : OkM 62 := okm_of (by decide +kernel)
set_option maxRecDepth 100000 in
theorem ok_Scene_bringHidden : OkM 63 := okm_of (by decide +kernel)
set_option maxRecDepth 100000 in
theorem ok_Sched_init : OkM 64 := okm_of (by decide +kernel)
set_option maxRecDepth 100000 in
theorem ok_Sched_unroll : OkM 65 := okm_of (by decide +kernel)
set_option maxRecDepth 100000 in
theorem ok_Sched_take : OkM 66 := okm_of (by decide +kernel)
set_option maxRecDepth 100000 in
theorem ok_Sched_takeClosing : OkM 67 := okm_of (by decide +kernel)
set_option maxRecDepth 100000 in
theorem ok_Sched_plan : OkM 68 := okm_of (by decide +kernel)
set_option maxRecDepth 100000 in
theorem ok_Script_init : OkM 69 := okm_of (by decide +kernel)
set_option maxRecDepth 100000 in
theorem ok_Script_add : OkM 70 := okm_of (by decide +kernel)
set_option maxRecDepth 100000 in
theorem ok_Script_at : OkM 71 := okm_of (by decide +kernel)
set_option maxRecDepth 100000 in
theorem ok_Sight_init : OkM 72 := okm_of (by decide +kernel)
set_option maxRecDepth 100000 in
theorem ok_Sight_look : OkM 73 := okm_of (by decide +kernel)
set_option maxRecDepth 100000 in
theorem ok_Sight_bitOf : OkM 74 := okm_of (by decide +kernel)
set_option maxRecDepth 100000 in
theorem ok_Sight_colorAt : OkM 75 := okm_of (by decide +kernel)
set_option maxRecDepth 100000 in
theorem ok_Sight_dotsOnLine : OkM 76 := okm_of (by decide +kernel)
set_option maxRecDepth 100000 in
theorem ok_Sight_allDots : OkM 77 := okm_of (by decide +kernel)
set_option maxRecDepth 100000 in
theorem ok_Sight_clashesOn : OkM 78 := okm_of (by decide +kernel)
set_option maxRecDepth 100000 in
theorem ok_Sight_allClashes : OkM 79 := okm_of (by decide +kernel)
set_option maxRecDepth 100000 in
theorem ok_Sight_firstClash : OkM 80 := okm_of (by decide +kernel)
set_option maxRecDepth 100000 in
theorem ok_Sight_firstColumn : OkM 81 := okm_of (by decide +kernel)
set_option maxRecDepth 100000 in
theorem ok_Sight_firstOther : OkM 82 := okm_of (by decide +kernel)
set_option maxRecDepth 100000 in
theorem ok_Steps_init : OkM 83 := okm_of (by decide +kernel)
set_option maxRecDepth 100000 in
theorem ok_Steps_add : OkM 84 := okm_of (by decide +kernel)
set_option maxRecDepth 100000 in
theorem ok_Surv_init : OkM 85 := okm_of (by decide +kernel)
set_option maxRecDepth 100000 in
theorem ok_Surv_look : OkM 86 := okm_of (by decide +kernel)
set_option maxRecDepth 100000 in
theorem ok_Surv_isHidden : OkM 87 := okm_of (by decide +kernel)
set_option maxRecDepth 100000 in
theorem ok_Surv_hiddenPuppets : OkM 88 := okm_of (by decide +kernel)
set_option maxRecDepth 100000 in
theorem ok_Surv_hiddenBits : OkM 89 := okm_of (by decide +kernel)
set_option maxRecDepth 100000 in
theorem ok_Surv_lineWithMostHidden : OkM 90 := okm_of (by decide +kernel)
set_option maxRecDepth 100000 in
theorem ok_P_init : OkM 91 := okm_of (by decide +kernel)
set_option maxRecDepth 100000 in
theorem ok_P_setRow : OkM 92 := okm_of (by decide +kernel)
set_option maxRecDepth 100000 in
theorem ok_P_come : OkM 93 := okm_of (by decide +kernel)
set_option maxRecDepth 100000 in
theorem ok_P_leave : OkM 94 := okm_of (by decide +kernel)
set_option maxRecDepth 100000 in
theorem ok_P_move : OkM 95 := okm_of (by decide +kernel)
set_option maxRecDepth 100000 in
theorem ok_P_turn : OkM 96 := okm_of (by decide +kernel)
set_option maxRecDepth 100000 in
theorem ok_P_lift : OkM 97 := okm_of (by decide +kernel)
set_option maxRecDepth 100000 in
theorem ok_P_lower : OkM 98 := okm_of (by decide +kernel)
set_option maxRecDepth 100000 in
theorem ok_P_setLimit : OkM 99 := okm_of (by decide +kernel)
set_option maxRecDepth 100000 in
theorem ok_P_setRule : OkM 100 := okm_of (by decide +kernel)
set_option maxRecDepth 100000 in
theorem ok_P_frame : OkM 101 := okm_of (by decide +kernel)
end
section
set_option maxRecDepth 100000 in
theorem ok_P_undo : OkM 102 := okm_of (by decide +kernel)
set_option maxRecDepth 100000 in
theorem ok_P_append : OkM 103 := okm_of (by decide +kernel)
set_option maxRecDepth 100000 in
theorem ok_P_clearText : OkM 104 := okm_of (by decide +kernel)
set_option maxRecDepth 100000 in
theorem ok_P_run : OkM 105 := okm_of (by decide +kernel)
set_option maxRecDepth 100000 in
theorem ok_P_failure : OkM 106 := okm_of (by decide +kernel)
set_option maxRecDepth 100000 in
theorem ok_P_count : OkM 107 := okm_of (by decide +kernel)
set_option maxRecDepth 100000 in
theorem ok_P_puppet : OkM 108 := okm_of (by decide +kernel)
set_option maxRecDepth 100000 in
theorem ok_P_line : OkM 109 := okm_of (by decide +kernel)
set_option maxRecDepth 100000 in
theorem ok_P_shown : OkM 110 := okm_of (by decide +kernel)
set_option maxRecDepth 100000 in
theorem ok_P_dot : OkM 111 := okm_of (by decide +kernel)
set_option maxRecDepth 100000 in
theorem ok_P_clash : OkM 112 := okm_of (by decide +kernel)
set_option maxRecDepth 100000 in
theorem ok_P_hiddenIn : OkM 113 := okm_of (by decide +kernel)
set_option maxRecDepth 100000 in
theorem ok_P_allShownIn : OkM 114 := okm_of (by decide +kernel)
set_option maxRecDepth 100000 in
theorem ok_P_bestStep : OkM 115 := okm_of (by decide +kernel)
set_option maxRecDepth 100000 in
theorem ok_P_worstLine : OkM 116 := okm_of (by decide +kernel)
set_option maxRecDepth 100000 in
theorem ok_P_within : OkM 117 := okm_of (by decide +kernel)
set_option maxRecDepth 100000 in
theorem ok_P_recorded : OkM 118 := okm_of (by decide +kernel)
set_option maxRecDepth 100000 in
theorem ok_P_performAll : OkM 119 := okm_of (by decide +kernel)
set_option maxRecDepth 100000 in
theorem ok_P_perform : OkM 120 := okm_of (by decide +kernel)
set_option maxRecDepth 100000 in
theorem ok_P_failedAt : OkM 121 := okm_of (by decide +kernel)
set_option maxRecDepth 100000 in
theorem ok_M_init : OkM 122 := okm_of (by decide +kernel)
set_option maxRecDepth 100000 in
theorem ok_M_in : OkM 123 := okm_of (by decide +kernel)
set_option maxRecDepth 100000 in
theorem ok_M_act : OkM 124 := okm_of (by decide +kernel)
set_option maxRecDepth 100000 in
theorem ok_M_of : OkM 125 := okm_of (by decide +kernel)
set_option maxRecDepth 100000 in
theorem ok_M_put : OkM 126 := okm_of (by decide +kernel)
set_option maxRecDepth 100000 in
theorem ok_M_positionOf : OkM 127 := okm_of (by decide +kernel)
set_option maxRecDepth 100000 in
theorem ok_M_isThere : OkM 128 := okm_of (by decide +kernel)
set_option maxRecDepth 100000 in
theorem ok_M_isPlace : OkM 129 := okm_of (by decide +kernel)
set_option maxRecDepth 100000 in
theorem ok_M_highOf : OkM 130 := okm_of (by decide +kernel)
set_option maxRecDepth 100000 in
theorem ok_M_stands : OkM 131 := okm_of (by decide +kernel)
set_option maxRecDepth 100000 in
theorem ok_M_linesOf : OkM 132 := okm_of (by decide +kernel)
set_option maxRecDepth 100000 in
theorem ok_M_hidden : OkM 133 := okm_of (by decide +kernel)
set_option maxRecDepth 100000 in
theorem ok_M_ones : OkM 134 := okm_of (by decide +kernel)
set_option maxRecDepth 100000 in
theorem ok_M_standing : OkM 135 := okm_of (by decide +kernel)
set_option maxRecDepth 100000 in
theorem ok_M_shownOn : OkM 136 := okm_of (by decide +kernel)
set_option maxRecDepth 100000 in
theorem ok_M_isSet : OkM 137 := okm_of (by decide +kernel)
set_option maxRecDepth 100000 in
theorem ok_M_firstAt : OkM 138 := okm_of (by decide +kernel)
set_option maxRecDepth 100000 in
theorem ok_M_colorAt : OkM 139 := okm_of (by decide +kernel)
set_option maxRecDepth 100000 in
theorem ok_M_dotsOn : OkM 140 := okm_of (by decide +kernel)
set_option maxRecDepth 100000 in
theorem ok_M_hero : OkM 141 := okm_of (by decide +kernel)
set_option maxRecDepth 100000 in
theorem ok_M_isShown : OkM 142 := okm_of (by decide +kernel)
set_option maxRecDepth 100000 in
theorem ok_M_setRow : OkM 143 := okm_of (by decide +kernel)
set_option maxRecDepth 100000 in
theorem ok_M_come : OkM 144 := okm_of (by decide +kernel)
set_option maxRecDepth 100000 in
theorem ok_M_takeOut : OkM 145 := okm_of (by decide +kernel)
set_option maxRecDepth 100000 in
theorem ok_M_leave : OkM 146 := okm_of (by decide +kernel)
set_option maxRecDepth 100000 in
theorem ok_M_thereCode : OkM 147 := okm_of (by decide +kernel)
set_option maxRecDepth 100000 in
theorem ok_M_moveCode : OkM 148 := okm_of (by decide +kernel)
set_option maxRecDepth 100000 in
theorem ok_M_moveNow : OkM 149 := okm_of (by decide +kernel)
set_option maxRecDepth 100000 in
theorem ok_M_move : OkM 150 := okm_of (by decide +kernel)
set_option maxRecDepth 100000 in
theorem ok_M_turnCode : OkM 151 := okm_of (by decide +kernel)
set_option maxRecDepth 100000 in
theorem ok_M_turnNow : OkM 152 := okm_of (by decide +kernel)
set_option maxRecDepth 100000 in
theorem ok_M_turn : OkM 153 := okm_of (by decide +kernel)
set_option maxRecDepth 100000 in
theorem ok_M_liftNow : OkM 154 := okm_of (by decide +kernel)
set_option maxRecDepth 100000 in
theorem ok_M_lift : OkM 155 := okm_of (by decide +kernel)
set_option maxRecDepth 100000 in
theorem ok_M_lowerNow : OkM 156 := okm_of (by decide +kernel)
set_option maxRecDepth 100000 in
theorem ok_M_lower : OkM 157 := okm_of (by decide +kernel)
set_option maxRecDepth 100000 in
theorem ok_M_limitCode : OkM 158 := okm_of (by decide +kernel)
set_option maxRecDepth 100000 in
theorem ok_M_limitNow : OkM 159 := okm_of (by decide +kernel)
set_option maxRecDepth 100000 in
theorem ok_M_setLimit : OkM 160 := okm_of (by decide +kernel)
set_option maxRecDepth 100000 in
theorem ok_M_setRule : OkM 161 := okm_of (by decide +kernel)
set_option maxRecDepth 100000 in
theorem ok_M_takeTurn : OkM 162 := okm_of (by decide +kernel)
set_option maxRecDepth 100000 in
theorem ok_M_frameCode : OkM 163 := okm_of (by decide +kernel)
set_option maxRecDepth 100000 in
theorem ok_M_frameNow : OkM 164 := okm_of (by decide +kernel)
set_option maxRecDepth 100000 in
theorem ok_M_frame : OkM 165 := okm_of (by decide +kernel)
set_option maxRecDepth 100000 in
theorem ok_M_undo : OkM 166 := okm_of (by decide +kernel)
set_option maxRecDepth 100000 in
theorem ok_M_append : OkM 167 := okm_of (by decide +kernel)
set_option maxRecDepth 100000 in
theorem ok_M_clearText : OkM 168 := okm_of (by decide +kernel)
set_option maxRecDepth 100000 in
theorem ok_M_at : OkM 169 := okm_of (by decide +kernel)
set_option maxRecDepth 100000 in
theorem ok_M_isDigit : OkM 170 := okm_of (by decide +kernel)
set_option maxRecDepth 100000 in
theorem ok_M_fail : OkM 171 := okm_of (by decide +kernel)
set_option maxRecDepth 100000 in
theorem ok_M_wrong : OkM 172 := okm_of (by decide +kernel)
set_option maxRecDepth 100000 in
theorem ok_M_number : OkM 173 := okm_of (by decide +kernel)
set_option maxRecDepth 100000 in
theorem ok_M_code : OkM 174 := okm_of (by decide +kernel)
set_option maxRecDepth 100000 in
theorem ok_M_numbersOf : OkM 175 := okm_of (by decide +kernel)
set_option maxRecDepth 100000 in
theorem ok_M_readAct : OkM 176 := okm_of (by decide +kernel)
set_option maxRecDepth 100000 in
theorem ok_M_readGroup : OkM 177 := okm_of (by decide +kernel)
set_option maxRecDepth 100000 in
theorem ok_M_readOne : OkM 178 := okm_of (by decide +kernel)
set_option maxRecDepth 100000 in
theorem ok_M_readPlay : OkM 179 := okm_of (by decide +kernel)
set_option maxRecDepth 100000 in
theorem ok_M_codeOf : OkM 180 := okm_of (by decide +kernel)
set_option maxRecDepth 100000 in
theorem ok_M_carry : OkM 181 := okm_of (by decide +kernel)
set_option maxRecDepth 100000 in
theorem ok_M_runAct : OkM 182 := okm_of (by decide +kernel)
set_option maxRecDepth 100000 in
theorem ok_M_runPlay : OkM 183 := okm_of (by decide +kernel)
set_option maxRecDepth 100000 in
theorem ok_M_run : OkM 184 := okm_of (by decide +kernel)
set_option maxRecDepth 100000 in
theorem ok_M_failure : OkM 185 := okm_of (by decide +kernel)
set_option maxRecDepth 100000 in
theorem ok_M_allDots : OkM 186 := okm_of (by decide +kernel)
set_option maxRecDepth 100000 in
theorem ok_M_count : OkM 187 := okm_of (by decide +kernel)
set_option maxRecDepth 100000 in
theorem ok_M_hiddenLinesOf : OkM 188 := okm_of (by decide +kernel)
set_option maxRecDepth 100000 in
theorem ok_M_puppet : OkM 189 := okm_of (by decide +kernel)
set_option maxRecDepth 100000 in
theorem ok_M_line : OkM 190 := okm_of (by decide +kernel)
set_option maxRecDepth 100000 in
theorem ok_M_shown : OkM 191 := okm_of (by decide +kernel)
set_option maxRecDepth 100000 in
theorem ok_M_dot : OkM 192 := okm_of (by decide +kernel)
set_option maxRecDepth 100000 in
theorem ok_M_clashing : OkM 193 := okm_of (by decide +kernel)
set_option maxRecDepth 100000 in
theorem ok_M_clash : OkM 194 := okm_of (by decide +kernel)
set_option maxRecDepth 100000 in
theorem ok_M_beginTrial : OkM 195 := okm_of (by decide +kernel)
set_option maxRecDepth 100000 in
theorem ok_M_tryFrame : OkM 196 := okm_of (by decide +kernel)
set_option maxRecDepth 100000 in
theorem ok_M_hiddenIn : OkM 197 := okm_of (by decide +kernel)
set_option maxRecDepth 100000 in
theorem ok_M_allShownIn : OkM 198 := okm_of (by decide +kernel)
set_option maxRecDepth 100000 in
theorem ok_M_greatestBy : OkM 199 := okm_of (by decide +kernel)
set_option maxRecDepth 100000 in
theorem ok_M_bestStep : OkM 200 := okm_of (by decide +kernel)
set_option maxRecDepth 100000 in
theorem ok_M_worstLine : OkM 201 := okm_of (by decide +kernel)
set_option maxRecDepth 100000 in
theorem ok_J_bitCount : OkM 202 := okm_of (by decide +kernel)
set_option maxRecDepth 100000 in
theorem ok_J_max : OkM 203 := okm_of (by decide +kernel)
set_option maxRecDepth 100000 in
theorem ok_J_min : OkM 204 := okm_of (by decide +kernel)
end
section
def e_chk (y : Nat) (q : Nat × XO) : Bool := e_okB y q.1 q.2 && (e_need y q.2.1 q.2.2.2.1 q.2.2.2.2.1 q.2.2.2.2.2.1 q.2.2.2.2.2.2.2).all e_wmB && decide (e_need y q.2.1 q.2.2.2.1 q.2.2.2.2.1 q.2.2.2.2.2.1 q.2.2.2.2.2.2.2 = q.2.2.2.2.2.2.1.filterMap (fun i => lw_tbl[i]?))
set_option maxRecDepth 100000 in
theorem ok_law_0 : (((mOps 205).drop 0).take 40).all (e_chk 205) = true := by decide +kernel
set_option maxRecDepth 100000 in
theorem ok_law_1 : (((mOps 205).drop 40).take 40).all (e_chk 205) = true := by decide +kernel
set_option maxRecDepth 100000 in
theorem ok_law_2 : (((mOps 205).drop 80).take 40).all (e_chk 205) = true := by decide +kernel
set_option maxRecDepth 100000 in
theorem ok_law_3 : (((mOps 205).drop 120).take 40).all (e_chk 205) = true := by decide +kernel
set_option maxRecDepth 100000 in
theorem ok_law_4 : (((mOps 205).drop 160).take 40).all (e_chk 205) = true := by decide +kernel
set_option maxRecDepth 100000 in
theorem ok_law_5 : (((mOps 205).drop 200).take 40).all (e_chk 205) = true := by decide +kernel
set_option maxRecDepth 100000 in
theorem ok_law_6 : (((mOps 205).drop 240).take 40).all (e_chk 205) = true := by decide +kernel
set_option maxRecDepth 100000 in
theorem ok_law_7 : (((mOps 205).drop 280).take 40).all (e_chk 205) = true := by decide +kernel
set_option maxRecDepth 100000 in
theorem ok_law_8 : (((mOps 205).drop 320).take 40).all (e_chk 205) = true := by decide +kernel
set_option maxRecDepth 100000 in
theorem ok_law_9 : (((mOps 205).drop 360).take 40).all (e_chk 205) = true := by decide +kernel
set_option maxRecDepth 100000 in
theorem ok_law_10 : (((mOps 205).drop 400).take 40).all (e_chk 205) = true := by decide +kernel
set_option maxRecDepth 100000 in
theorem ok_law_11 : (((mOps 205).drop 440).take 40).all (e_chk 205) = true := by decide +kernel
set_option maxRecDepth 100000 in
theorem ok_law_12 : (((mOps 205).drop 480).take 40).all (e_chk 205) = true := by decide +kernel
set_option maxRecDepth 100000 in
theorem ok_law_13 : (((mOps 205).drop 520).take 40).all (e_chk 205) = true := by decide +kernel
theorem e_all_split {α : Type} (p : α → Bool) (l : List α) (a n : Nat) (h1 : ((l.drop a).take n).all p = true) (h2 : (l.drop (a + n)).all p = true) : (l.drop a).all p = true := by
  rw [← List.take_append_drop n (l.drop a), List.all_append, List.drop_drop, h1, h2]
  rfl
set_option maxRecDepth 100000 in
theorem ok_law_end : ((mOps 205).drop 560).all (e_chk 205) = true := by decide +kernel
theorem ok_L_law : OkM 205 := by
  have h := (e_all_split _ _ 0 40 ok_law_0 (e_all_split _ _ 40 40 ok_law_1 (e_all_split _ _ 80 40 ok_law_2 (e_all_split _ _ 120 40 ok_law_3 (e_all_split _ _ 160 40 ok_law_4 (e_all_split _ _ 200 40 ok_law_5 (e_all_split _ _ 240 40 ok_law_6 (e_all_split _ _ 280 40 ok_law_7 (e_all_split _ _ 320 40 ok_law_8 (e_all_split _ _ 360 40 ok_law_9 (e_all_split _ _ 400 40 ok_law_10 (e_all_split _ _ 440 40 ok_law_11 (e_all_split _ _ 480 40 ok_law_12 (e_all_split _ _ 520 40 ok_law_13 ok_law_end))))))))))))))
  rw [List.drop_zero] at h
  exact List.all_eq_true.mp h
end
section
section EPURE
variable {p : Program} {l : Launch} {e : Env} {R : Room} {s : State} {m : MethodId} {args : Array Value} {below : List Frame} {meth : Method} {c : Code} {H : Heap} {locs : List Loc} {cells slots : Nat} {Z : State → Prop}
set_option maxHeartbeats 4000000 in
theorem e_pure_ok {y b pc nL r1 : Nat} {i : Instr} {sw : List (Int32 × Nat)} {L L' : List (Option Value)} {st st' : List Value} {ls : Array Slot} (hx : p.tables.exec = Jvm.exec) (hb : c.code = mBy y) (hown : s.vm.findClass (mNm y).cls = some m.cls)
    (hsw : e_swOk i sw = true) (hw : ∀ w ∈ e_need y i r1 0 false sw, w.before args s = true) (hdg : decode (mBy y) pc = .ok (i, e_len i)) (hL : e_LH b ls nL L) (h : e_pure i sw r1 L st = some (L', st'))
    (kk : ∀ ls', e_LH b ls' nL L' → W p l e R s m args below meth c H locs cells slots Z (F0 m (pc + e_len i) ls' (st'.map (e_v b)))) :
    W p l e R s m args below meth c H locs cells slots Z (F0 m pc ls (st.map (e_v b))) := by
  unfold e_pure at h
  split at h
  -- iconst
  · split at h
    · cases h
      simp only [e_swOk] at hsw
      exact lv_iconst hx hb hdg (of_decide_eq_true hsw) (kk ls hL)
    · cases h
  -- bipush
  · split at h
    · cases h
      simp only [e_swOk] at hsw
      exact lv_bipush hx hb hdg (of_decide_eq_true hsw) (kk ls hL)
    · cases h
  -- sipush
  · split at h
    · cases h
      simp only [e_swOk] at hsw
      exact lv_sipush hx hb hdg (of_decide_eq_true hsw) (kk ls hL)
    · cases h
  -- ldc
  · split at h
    · cases h
      exact lv_ldc hx hb hown (hw _ (by simp [e_need])) hdg (kk ls hL)
    · cases h
  -- lconst
  · cases h
    exact lv_lconst hx hb hdg rfl (kk ls hL)
  -- ldc2
  · cases h
    exact lv_ldc2 hx hb hown (hw _ (by simp [e_need])) hdg (kk ls hL)
  -- iload
  · split at h
    · next x hg => cases h; exact lv_iload hx hb hdg (e_LH_get hL hg) (kk ls hL)
    · cases h
  · split at h
    · next x hg => cases h; exact lv_iload_n hx hb hdg rfl (e_LH_get hL hg) (kk ls hL)
    · cases h
  · split at h
    · next x hg => cases h; exact lv_aload hx hb hdg (e_LH_get hL hg) (kk ls hL)
    · cases h
  · split at h
    · next x hg => cases h; exact lv_aload_n hx hb hdg rfl (e_LH_get hL hg) (kk ls hL)
    · cases h
  · split at h
    · next x hg => cases h; exact lv_lload hx hb hdg (e_LH_get hL hg) (kk ls hL)
    · cases h
  · split at h
    · next x hg => cases h; exact lv_lload_n hx hb hdg rfl (e_LH_get hL hg) (kk ls hL)
    · cases h
  -- stores
  · split at h
    · obtain ⟨L1, h1, h2⟩ := Option.map_eq_some_iff.mp h
      cases h2
      obtain ⟨hk, lv, hl, h3⟩ := e_LH_st1 hL h1
      exact lv_istore hx hb hdg hl hk rfl (fun ls' h' => kk ls' (h3 ls' h'))
    · cases h
  · split at h
    · obtain ⟨L1, h1, h2⟩ := Option.map_eq_some_iff.mp h
      cases h2
      obtain ⟨hk, lv, hl, h3⟩ := e_LH_st1 hL h1
      exact lv_istore_n hx hb hdg rfl hl hk rfl (fun ls' h' => kk ls' (h3 ls' h'))
    · cases h
  · split at h
    · obtain ⟨L1, h1, h2⟩ := Option.map_eq_some_iff.mp h
      cases h2
      obtain ⟨hk, lv, hl, h3⟩ := e_LH_st1 hL h1
      exact lv_astore_n hx hb hdg rfl hl hk rfl (fun ls' h' => kk ls' (h3 ls' h'))
    · cases h
  · split at h
    · obtain ⟨L1, h1, h2⟩ := Option.map_eq_some_iff.mp h
      cases h2
      obtain ⟨hk, lv, hl, h3⟩ := e_LH_st2 hL h1
      exact lv_lstore hx hb hdg hl hk rfl (fun ls' h' => kk ls' (h3 ls' h'))
    · cases h
  · split at h
    · obtain ⟨L1, h1, h2⟩ := Option.map_eq_some_iff.mp h
      cases h2
      obtain ⟨hk, lv, hl, h3⟩ := e_LH_st2 hL h1
      exact lv_lstore_n hx hb hdg rfl hl hk rfl (fun ls' h' => kk ls' (h3 ls' h'))
    · cases h
  -- iinc
  · split at h
    · split at h
      · next k n _ v _ _ x hg =>
        obtain ⟨L1, h1, h2⟩ := Option.map_eq_some_iff.mp h
        cases h2
        simp only [e_swOk] at hsw
        have hv := of_decide_eq_true hsw
        obtain ⟨hk, lv, hl, h3⟩ := e_LH_st1 hL h1
        obtain ⟨hn, l0, hl0, hm0⟩ := hL
        have hgm := hm0 _ _ hg
        obtain ⟨q, hq⟩ := List.getElem?_of_mem hgm
        have hboth : lv_has ls nL (lv ++ l0) := ⟨hl.1, hl.2.1, fun z hz => (List.mem_append.mp hz).elim (hl.2.2 z) (hl0.2.2 z)⟩
        refine lv_iinc (k := lv.length + q) (v := x + v) hx hb hdg hboth (by rw [List.getElem?_append_right (by omega), Nat.add_sub_cancel_left]; exact hq) (by rw [hv]) hk rfl (fun ls' h' => kk ls' (h3 ls' ⟨h'.1, h'.2.1, fun z hz => h'.2.2 z ?_⟩))
        rcases List.mem_cons.mp hz with h4 | h4
        · rw [h4]; exact List.mem_cons_self
        · obtain ⟨h5, h6⟩ := List.mem_filter.mp h4
          exact List.mem_cons_of_mem _ (List.mem_filter.mpr ⟨List.mem_append_left _ h5, h6⟩)
      · cases h
    · cases h
  -- arithmetic
  · split at h
    · cases h; exact lv_iadd hx hb hdg (kk ls hL)
    · cases h
  · split at h
    · cases h; exact lv_isub hx hb hdg (kk ls hL)
    · cases h
  · split at h
    · cases h; exact lv_imul hx hb hdg (kk ls hL)
    · cases h
  · split at h
    · cases h; exact lv_iand hx hb hdg (kk ls hL)
    · cases h
  · split at h
    · cases h; exact lv_ior hx hb hdg (kk ls hL)
    · cases h
  · split at h
    · cases h; exact lv_ineg hx hb hdg (kk ls hL)
    · cases h
  · split at h
    · cases h; exact lv_ishl hx hb hdg (kk ls hL)
    · cases h
  · split at h
    · cases h; exact lv_ishr hx hb hdg (kk ls hL)
    · cases h
  · split at h
    · cases h; exact lv_ladd hx hb hdg (kk ls hL)
    · cases h
  · split at h
    · cases h; exact lv_lsub hx hb hdg (kk ls hL)
    · cases h
  · split at h
    · cases h; exact lv_land hx hb hdg (kk ls hL)
    · cases h
  · split at h
    · cases h; exact lv_lor hx hb hdg (kk ls hL)
    · cases h
  · split at h
    · cases h; exact lv_lshl hx hb hdg rfl (kk ls hL)
    · cases h
  · split at h
    · cases h; exact lv_lushr hx hb hdg rfl (kk ls hL)
    · cases h
  · split at h
    · cases h; exact lv_l2i hx hb hdg rfl (kk ls hL)
    · cases h
  · split at h
    · cases h; exact lv_i2l hx hb hdg rfl (kk ls hL)
    · cases h
  · split at h
    · cases h; exact W.lcmp hx hb hdg (kk ls hL)
    · cases h
  -- dup
  · split at h
    · next v st1 =>
      cases hc : Nat.beq v.category 1 with
      | false => rw [hc] at h; cases h
      | true =>
        rw [hc] at h
        cases h
        have := Nat.eq_of_beq_eq_true hc
        exact lv_dup hx hb hdg (by rw [e_v_cat]; exact this) (kk ls hL)
    · cases h
  · split at h
    · next a b1 st1 =>
      cases hc : (Nat.beq a.category 1 && Nat.beq b1.category 1) with
      | false => rw [hc] at h; cases h
      | true =>
        rw [hc] at h
        cases h
        rw [Bool.and_eq_true] at hc
        have h1 := Nat.eq_of_beq_eq_true hc.1
        have h2 := Nat.eq_of_beq_eq_true hc.2
        exact lv_dup2_11 hx hb hdg (by rw [e_v_cat]; exact h1) (by rw [e_v_cat]; exact h2) (kk ls hL)
    · cases h
  · split at h
    · next v st1 =>
      cases hc : Nat.beq v.category 1 with
      | false => rw [hc] at h; cases h
      | true =>
        rw [hc] at h
        cases h
        have := Nat.eq_of_beq_eq_true hc
        exact lv_pop hx hb hdg (by rw [e_v_cat]; exact this) (kk ls hL)
    · cases h
  · cases h
end EPURE
end
section
/-! objects by number: what is read and written -/
def g_get (σ : Sg) (o c k : Nat) : Option Value := bif Nat.blt o σ.1.1 && Nat.beq (σ.1.2 o).1 c then some (bif e_isI (e_fty c k) then .int (σ.2.2.1 o k) else va_rf (σ.2.1 o k)) else none
def g_put (σ : Sg) (o c k : Nat) (v : Value) : Option Sg := bif Nat.blt o σ.1.1 && Nat.beq (σ.1.2 o).1 c then (match v with
  | .int x => bif e_isI (e_fty c k) then some (σ.1, σ.2.1, u2 σ.2.2.1 o k x, σ.2.2.2) else none
  | .ref j => bif e_isI (e_fty c k) then none else some (σ.1, u2 σ.2.1 o k (some j), σ.2.2)
  | _ => none) else none
def g_len (σ : Sg) (a : Nat) : Option Nat := bif Nat.blt a σ.1.1 && (Nat.beq (σ.1.2 a).1 100 && Nat.blt (σ.1.2 a).2 2147483648) then some (σ.1.2 a).2 else none
def g_wr (σ : Sg) (a : Nat) (f : Nat → Int32) : Sg := (σ.1, σ.2.1, σ.2.2.1, u1 σ.2.2.2 a f)
def g_rget (σ : Sg) (a j : Nat) : Option Value := bif Nat.blt a σ.1.1 && (Nat.beq (σ.1.2 a).1 101 && (Nat.blt j (σ.1.2 a).2 && Nat.blt (σ.1.2 a).2 2147483648)) then some (va_rf (σ.2.1 a j)) else none
def g_rput (σ : Sg) (a j : Nat) (v : Value) : Option Sg := bif Nat.blt a σ.1.1 && (Nat.beq (σ.1.2 a).1 101 && (Nat.blt j (σ.1.2 a).2 && Nat.blt (σ.1.2 a).2 2147483648)) then (match v with
  | .ref o => bif Nat.blt o σ.1.1 && Nat.beq (σ.1.2 o).1 5 then some (σ.1, u2 σ.2.1 a j (some o), σ.2.2) else none
  | _ => none) else none
def g_new (σ : Sg) (c : Nat) : Option (Nat × Sg) := bif Nat.blt c 13 then some (σ.1.1, ((σ.1.1 + 1, u1 σ.1.2 σ.1.1 (c, 0)), u1 σ.2.1 σ.1.1 (fun _ => none), u1 σ.2.2.1 σ.1.1 (fun _ => 0), σ.2.2.2)) else none
def g_newI (σ : Sg) (n : Nat) : Option (Nat × Sg) := some (σ.1.1, ((σ.1.1 + 1, u1 σ.1.2 σ.1.1 (100, n)), σ.2.1, σ.2.2.1, u1 σ.2.2.2 σ.1.1 (fun _ => 0)))
def g_newR (σ : Sg) (n : Nat) : Option (Nat × Sg) := some (σ.1.1, ((σ.1.1 + 1, u1 σ.1.2 σ.1.1 (101, n)), u1 σ.2.1 σ.1.1 (fun _ => none), σ.2.2.1, σ.2.2.2))
/-! another face of the same: how it is held, and its reads and writes -/
abbrev e_IT (η : Type) : Type := (η → Sg) × (η → Nat → Nat → Nat → Option Value) × (η → Nat → Nat → Nat → Value → Option η) × (η → Nat → Option Nat) × (η → Nat → Nat → Int32) × (η → Nat → (Nat → Int32) → η) × (η → Nat → Nat → Option Value) × (η → Nat → Nat → Value → Option η) × (η → Nat → Option (Nat × η)) × (η → Nat → Option (Nat × η)) × (η → Nat → Option (Nat × η))
def e_IOk {η : Type} (I : e_IT η) : Prop :=
  (∀ h o c k v, I.2.1 h o c k = some v → g_get (I.1 h) o c k = some v) ∧
  (∀ h o c k v h', I.2.2.1 h o c k v = some h' → g_put (I.1 h) o c k v = some (I.1 h')) ∧
  (∀ h a n, I.2.2.2.1 h a = some n → g_len (I.1 h) a = some n) ∧
  (∀ h a j, (I.1 h).2.2.2 a j = I.2.2.2.2.1 h a j) ∧
  (∀ h a f, I.1 (I.2.2.2.2.2.1 h a f) = g_wr (I.1 h) a f) ∧
  (∀ h a j v, I.2.2.2.2.2.2.1 h a j = some v → g_rget (I.1 h) a j = some v) ∧
  (∀ h a j v h', I.2.2.2.2.2.2.2.1 h a j v = some h' → g_rput (I.1 h) a j v = some (I.1 h')) ∧
  (∀ h c r, I.2.2.2.2.2.2.2.2.1 h c = some r → g_new (I.1 h) c = some (r.1, I.1 r.2)) ∧
  (∀ h c r, I.2.2.2.2.2.2.2.2.2.1 h c = some r → g_newI (I.1 h) c = some (r.1, I.1 r.2)) ∧
  (∀ h c r, I.2.2.2.2.2.2.2.2.2.2 h c = some r → g_newR (I.1 h) c = some (r.1, I.1 r.2))
/-- the general face -/
def e_IG : e_IT Sg := (id, g_get, g_put, g_len, fun σ a j => σ.2.2.2 a j, g_wr, g_rget, g_rput, g_new, g_newI, g_newR)
theorem e_IG_ok : e_IOk e_IG := by
  refine ⟨fun _ _ _ _ _ h => h, fun _ _ _ _ _ _ h => h, fun _ _ _ h => h, fun _ _ _ => rfl, fun _ _ _ => rfl, fun _ _ _ _ h => h, fun _ _ _ _ _ h => h, ?_, ?_, ?_⟩
  · intro h c r hr; exact hr
  · intro h c r hr; exact hr
  · intro h c r hr; exact hr
/-! what a method's contract says -/
def mWs (y : Nat) : List Cond := Cond.code (mNm y) (mBy y) (mML y) (mRet y) :: e_WS
def e_Pc (D : va_G) (b : Nat) (cI cS : ClassId) (H0 : Heap) (σ : Sg) (as : List Value) : Array Value → State → Prop := va_Pc (as.map (e_v b)) (fun U => e_Sim D b cI cS H0 σ U.heap ∧ va_K D e_cls (e_tys cI cS) U)
def e_Qc (D : va_G) (b : Nat) (cI cS : ClassId) (H0 : Heap) (Q : Option Value → Sg → Prop) : Array Value → State → Outcome → State → Prop := fun _ _ oc t => ∃ (r : Option Value) (σ : Sg), oc = .returned (r.map (e_v b)) ∧ Q r σ ∧ e_Sim D b cI cS H0 σ t.heap
def e_Call (y : Nat) (as : List Value) (σ : Sg) (Q : Option Value → Sg → Prop) : Prop :=
  ∀ (l : Launch) (D : va_G) (b : Nat) (cI cS : ClassId) (H0 : Heap), Met l (mNm y) (mWs y) (mRm y) (e_Pc D b cI cS H0 σ as) (e_Qc D b cI cS H0 Q) (mRm y).cells (mRm y).slots (fun q => b ≤ q)
def e_CallI {η : Type} (I : e_IT η) (y : Nat) (as : List Value) (h : η) (Q : Option Value → η → Prop) : Prop := e_Call y as (I.1 h) (fun r σ => ∃ h', σ = I.1 h' ∧ Q r h')
def e_rI : Option Value → Instr
  | none => .return_
  | some (.int _) => .ireturn
  | some (.long _) => .lreturn
  | some _ => .areturn
def e_rOk : Option FieldType → Option Value → Prop
  | none, none => True
  | some .int, some (.int _) => True
  | some .boolean, some (.int v) => v = 0 ∨ v = 1
  | some .long, some (.long _) => True
  | some (.object _), some (.ref _) => True
  | _, _ => False
def e_Ret (p : Program) (l : Launch) (e : Env) (R : Room) (s : State) (m : MethodId) (args : Array Value) (below : List Frame) (meth : Method) (c : Code) (D : va_G) (b : Nat) (cI cS : ClassId) (H0 : Heap) (Z : State → Prop) (y : Nat) (Q : Option Value → Sg → Prop) : Prop :=
  ∀ (r : Option Value) (σ : Sg) (H : Heap) (locs : List Loc) (cells slots pc : Nat) (ls : Array Slot), Q r σ → e_Sim D b cI cS H0 σ H → (∀ q ∈ locs, b ≤ q.base) → cells ≤ R.cells → slots ≤ R.slots → decode (mBy y) pc = .ok (e_rI r, 1) → e_rOk (mRet y) r → W p l e R s m args below meth c H locs cells slots Z (F0 m pc ls (r.toList.map (e_v b)))
def e_Cx (p : Program) (l : Launch) (e : Env) (R : Room) (s : State) (m : MethodId) (args : Array Value) (below : List Frame) (meth : Method) (c : Code) (D : va_G) (b : Nat) (cI cS : ClassId) (H0 : Heap) (Z : State → Prop) (y : Nat) (Q : Option Value → Sg → Prop) : Prop :=
  p.tables.exec = Jvm.exec ∧ c.code = mBy y ∧ c.maxLocals = mML y ∧ s.vm.findClass (mNm y).cls = some m.cls ∧ (∀ w ∈ e_WS, w.before args s = true) ∧ va_K D e_cls (e_tys cI cS) s ∧ (mRm y).frames ≤ R.frames ∧ (mRm y).locals ≤ R.locals ∧ meth.name = (mNm y).name ∧ e_Ret p l e R s m args below meth c D b cI cS H0 Z y Q
def e_Run (y pc : Nat) (L : List (Option Value)) (st : List Value) (B : Nat × Nat) (σ : Sg) (Q : Option Value → Sg → Prop) : Prop :=
  ∀ (p : Program) (l : Launch) (e : Env) (R : Room) (s : State) (m : MethodId) (args : Array Value) (below : List Frame) (meth : Method) (c : Code) (D : va_G) (b : Nat) (cI cS : ClassId) (H0 : Heap) (Z : State → Prop), e_Cx p l e R s m args below meth c D b cI cS H0 Z y Q →
    ∀ (H : Heap) (locs : List Loc) (cells slots : Nat) (ls : Array Slot), e_Sim D b cI cS H0 σ H → (∀ q ∈ locs, b ≤ q.base) → cells + B.1 ≤ R.cells → slots + B.2 ≤ R.slots → e_LH b ls (mML y) L →
      W p l e R s m args below meth c H locs cells slots Z (F0 m pc ls (st.map (e_v b)))
def e_RunI {η : Type} (I : e_IT η) (y pc : Nat) (L : List (Option Value)) (st : List Value) (B : Nat × Nat) (h : η) (Q : Option Value → η → Prop) : Prop := e_Run y pc L st B (I.1 h) (fun r σ => ∃ h', σ = I.1 h' ∧ Q r h')
/-! weakest preconditions, by computation -/
def e_cat : List Value → Nat
  | [] => 0
  | v :: r => v.category + e_cat r
def e_sw : List (Int32 × Nat) → Nat → Int32 → (Nat → Prop) → Prop
  | [], d, _, k => k d
  | (v, t) :: r, d, x, k => if x = v then k t else e_sw r d x k
def e_isO (σ : Sg) (ci : Nat) : List Value → Nat → Bool
  | .ref o :: _, 0 => Nat.blt o σ.1.1 && Nat.beq (σ.1.2 o).1 ci
  | _ :: r, n + 1 => e_isO σ ci r n
  | _, _ => false
/-- r1: the method; n: how many values it takes from the stack; virt: the last of them is the object that it is called on -/
def e_call {η : Type} (I : e_IT η) (r1 n : Nat) (virt : Bool) (pc : Nat) (L : List (Option Value)) (st : List Value) (B : Nat × Nat) (h : η) (K : Nat → List (Option Value) → List Value → Nat × Nat → η → Prop) : Prop :=
  bif Nat.ble n st.length && (Nat.ble (e_cat (st.drop n)) 8 && (Nat.ble (mRm r1).cells B.1 && (Nat.ble (mRm r1).slots B.2 && (!virt || e_isO (I.1 h) (mCi r1) st (n - 1)))))
  then (bif Nat.beq (mRm r1).cells 0 && Nat.beq (mRm r1).slots 0 then e_CallI I r1 (st.take n).reverse h (fun r h' => K (pc + 3) L (r.toList ++ st.drop n) B h') else e_CallI I r1 (st.take n).reverse h (fun r h' => K (pc + 3) L (r.toList ++ st.drop n) (B.1 - (mRm r1).cells, B.2 - (mRm r1).slots) h')) else False
/-- a list is worked out before one goes on with it -/
def e_force : List (Option Value) → (List (Option Value) → Prop) → Prop
  | [], K => K []
  | a :: r, K => e_force r (fun r' => K (a :: r'))
theorem e_force_eq : ∀ (L : List (Option Value)) (K : List (Option Value) → Prop), e_force L K = K L
  | [], _ => rfl
  | a :: r, K => e_force_eq r (fun r' => K (a :: r'))
def e_isSt : Instr → Bool
  | .istore _ | .istore_n _ | .astore_n _ | .lstore _ | .lstore_n _ | .iinc _ _ => true
  | _ => false
def e_cpy (f g : Nat → Int32) (n : Nat) : Nat → Int32 := fun k => if k < n then f k else g k
def e_k {η : Type} (I : e_IT η) (y : Nat) (i : Instr) (len r1 r2 : Nat) (sw : List (Int32 × Nat)) (pc : Nat) (L : List (Option Value)) (st : List Value) (B : Nat × Nat) (h : η) (Q : Option Value → η → Prop) (K : Nat → List (Option Value) → List Value → Nat × Nat → η → Prop) : Prop :=
  match i with
  | .goto _ => K r1 L st B h
  | .if_icmp .eq _ => match st with
    | .int b :: .int a :: st' => if a = b then K r1 L st' B h else K (pc + 3) L st' B h
    | _ => False
  | .if_icmp .ne _ => match st with
    | .int b :: .int a :: st' => if a = b then K (pc + 3) L st' B h else K r1 L st' B h
    | _ => False
  | .if_icmp .lt _ => match st with
    | .int b :: .int a :: st' => if a < b then K r1 L st' B h else K (pc + 3) L st' B h
    | _ => False
  | .if_icmp .ge _ => match st with
    | .int b :: .int a :: st' => if b ≤ a then K r1 L st' B h else K (pc + 3) L st' B h
    | _ => False
  | .if_icmp .gt _ => match st with
    | .int b :: .int a :: st' => if b < a then K r1 L st' B h else K (pc + 3) L st' B h
    | _ => False
  | .if_icmp .le _ => match st with
    | .int b :: .int a :: st' => if a ≤ b then K r1 L st' B h else K (pc + 3) L st' B h
    | _ => False
  | .ifCond .eq _ => match st with
    | .int a :: st' => if a = 0 then K r1 L st' B h else K (pc + 3) L st' B h
    | _ => False
  | .ifCond .ne _ => match st with
    | .int a :: st' => if a = 0 then K (pc + 3) L st' B h else K r1 L st' B h
    | _ => False
  | .ifCond .lt _ => match st with
    | .int a :: st' => if a < 0 then K r1 L st' B h else K (pc + 3) L st' B h
    | _ => False
  | .ifCond .ge _ => match st with
    | .int a :: st' => if 0 ≤ a then K r1 L st' B h else K (pc + 3) L st' B h
    | _ => False
  | .ifCond .gt _ => match st with
    | .int a :: st' => if 0 < a then K r1 L st' B h else K (pc + 3) L st' B h
    | _ => False
  | .ifCond .le _ => match st with
    | .int a :: st' => if a ≤ 0 then K r1 L st' B h else K (pc + 3) L st' B h
    | _ => False
  | .ifnull _ => match st with
    | .ref _ :: st' => K (pc + 3) L st' B h
    | _ => False
  | .tableswitch _ _ _ _ => match st with
    | .int x :: st' => e_sw sw r1 x (fun t => K t L st' B h)
    | _ => False
  | .lookupswitch _ _ => match st with
    | .int x :: st' => e_sw sw r1 x (fun t => K t L st' B h)
    | _ => False
  | .idiv => match st with
    | .int b :: .int a :: st' => ¬ b = 0 ∧ K (pc + 1) L (.int (a / b) :: st') B h
    | _ => False
  | .irem => match st with
    | .int b :: .int a :: st' => ¬ b = 0 ∧ K (pc + 1) L (.int (a - a / b * b) :: st') B h
    | _ => False
  | .getfield _ => match st with
    | .ref o :: st' => match I.2.1 h o r1 r2 with
      | some v => K (pc + 3) L (v :: st') B h
      | none => False
    | _ => False
  | .putfield _ => match st with
    | v :: .ref o :: st' => match I.2.2.1 h o r1 r2 v with
      | some h' => match e_fty r1 r2 with
        | .boolean => (v = .int 0 ∨ v = .int 1) ∧ K (pc + 3) L st' B h'
        | _ => K (pc + 3) L st' B h'
      | none => False
    | _ => False
  | .arraylength => match st with
    | .ref a :: st' => match I.2.2.2.1 h a with
      | some n => K (pc + 1) L (.int (nI n) :: st') B h
      | none => False
    | _ => False
  | .iaload => match st with
    | .int i :: .ref a :: st' => match I.2.2.2.1 h a with
      | some n => ∃ j : Nat, i = nI j ∧ j < n ∧ K (pc + 1) L (.int (I.2.2.2.2.1 h a j) :: st') B h
      | none => False
    | _ => False
  | .iastore => match st with
    | .int x :: .int i :: .ref a :: st' => match I.2.2.2.1 h a with
      | some n => ∃ j : Nat, i = nI j ∧ j < n ∧ K (pc + 1) L st' B (I.2.2.2.2.2.1 h a (u1 (I.2.2.2.2.1 h a) j x))
      | none => False
    | _ => False
  | .aaload => match st with
    | .int i :: .ref a :: st' => ∃ j : Nat, i = nI j ∧ (match I.2.2.2.2.2.2.1 h a j with
      | some v => K (pc + 1) L (v :: st') B h
      | none => False)
    | _ => False
  | .aastore => match st with
    | v :: .int i :: .ref a :: st' => ∃ j : Nat, i = nI j ∧ (match I.2.2.2.2.2.2.2.1 h a j v with
      | some h' => K (pc + 1) L st' B h'
      | none => False)
    | _ => False
  | .new _ => match I.2.2.2.2.2.2.2.2.1 h r1 with
    | some (o, h') => bif Nat.ble 1 B.1 && Nat.ble (e_ct r1).2.2.1 B.2 then K (pc + 3) L (.ref o :: st) (B.1 - 1, B.2 - (e_ct r1).2.2.1) h' else False
    | none => False
  | .newarray .int => match st with
    | .int i :: st' => ∃ n : Nat, i = nI n ∧ (match I.2.2.2.2.2.2.2.2.2.1 h n with
      | some (o, h') => bif Nat.ble 1 B.1 && (Nat.ble n B.2 && Nat.blt n 100000) then K (pc + 2) L (.ref o :: st') (B.1 - 1, B.2 - n) h' else False
      | none => False)
    | _ => False
  | .anewarray _ => match st with
    | .int i :: st' => ∃ n : Nat, i = nI n ∧ (match I.2.2.2.2.2.2.2.2.2.2 h n with
      | some (o, h') => bif Nat.ble 1 B.1 && (Nat.ble n B.2 && Nat.blt n 100000) then K (pc + 3) L (.ref o :: st') (B.1 - 1, B.2 - n) h' else False
      | none => False)
    | _ => False
  | .ireturn => match st with
    | [.int v] => match mRet y with
      | some .int => Q (some (.int v)) h
      | some .boolean => (v = 0 ∨ v = 1) ∧ Q (some (.int v)) h
      | _ => False
    | _ => False
  | .lreturn => match st with
    | [.long v] => match mRet y with
      | some .long => Q (some (.long v)) h
      | _ => False
    | _ => False
  | .areturn => match st with
    | [.ref v] => match mRet y with
      | some (.object _) => Q (some (.ref v)) h
      | _ => False
    | _ => False
  | .return_ => match st with
    | [] => match mRet y with
      | none => Q none h
      | _ => False
    | _ => False
  | .invokestatic _ => bif Nat.beq r1 1001 then (match st with
      | .int n :: .int dp :: .ref a :: .int sp :: .ref a0 :: st' => match I.2.2.2.1 h a, I.2.2.2.1 h a0 with
        | some n1, some n0 => ∃ j : Nat, n = nI j ∧ j ≤ n1 ∧ j ≤ n0 ∧ sp = 0 ∧ dp = 0 ∧ a ≠ a0 ∧ e_cat st' ≤ 8 ∧ K (pc + 3) L st' B (I.2.2.2.2.2.1 h a (e_cpy (I.2.2.2.2.1 h a0) (I.2.2.2.2.1 h a) j))
        | _, _ => False
      | _ => False) else e_call I r1 r2 false pc L st B h K
  | .invokevirtual _ => e_call I r1 (r2 + 1) true pc L st B h K
  | .invokespecial _ => bif Nat.beq r1 1000 then (match st with
      | .ref _ :: st' => bif Nat.ble (e_cat st') 8 then K (pc + 3) L st' B h else False
      | _ => False) else e_call I r1 (r2 + 1) true pc L st B h K
  | i => match e_pure i sw r1 L st with
    | some (L', st') => bif e_isSt i then e_force L' (fun L'' => K (pc + len) L'' st' B h) else K (pc + len) L' st' B h
    | none => False
def e_wp {η : Type} (I : e_IT η) (y : Nat) (Q : Option Value → η → Prop) : Nat → Nat → List (Option Value) → List Value → Nat × Nat → η → Prop
  | 0, pc, L, st, B, h => e_RunI I y pc L st B h Q
  | n + 1, pc, L, st, B, h => match e_op y pc with
    | some (i, len, r1, r2, _, _, sw) => e_k I y i len r1 r2 sw pc L st B h Q (e_wp I y Q n)
    | none => False
end
section
/-! the heap holds the numbered objects: reads and writes keep it so -/
theorem e_va_map (r : Option Nat) (b : Nat) : e_v b (va_rf r) = va_rf (r.map (fun j => b + j)) := by cases r <;> rfl
theorem e_ent_obj {b : Nat} {cI cS : ClassId} {σ : Sg} {o c : Nat} (h : (σ.1.2 o).1 = c) (hc : c < 13) : e_ent b cI cS σ o = .inr (c, e_fl b σ c o) := by
  unfold e_ent
  have h1 : Nat.beq (σ.1.2 o).1 100 = false := by rw [h]; exact Bool.eq_false_iff.mpr (fun z => by have := Nat.eq_of_beq_eq_true z; omega)
  have h2 : Nat.beq (σ.1.2 o).1 101 = false := by rw [h]; exact Bool.eq_false_iff.mpr (fun z => by have := Nat.eq_of_beq_eq_true z; omega)
  rw [h1, h2, h]
  rfl
theorem e_ent_int {b : Nat} {cI cS : ClassId} {σ : Sg} {o : Nat} (h : (σ.1.2 o).1 = 100) : e_ent b cI cS σ o = .inl (cI, (σ.1.2 o).2, .inl (σ.2.2.2 o)) := by
  unfold e_ent
  rw [h]
  rfl
theorem e_ent_ref {b : Nat} {cI cS : ClassId} {σ : Sg} {o : Nat} (h : (σ.1.2 o).1 = 101) : e_ent b cI cS σ o = .inl (cS, (σ.1.2 o).2, .inr (.inr (.inr (.inr (fun k => (σ.2.1 o k).map (fun j => b + j)))))) := by
  unfold e_ent
  rw [h]
  rfl
theorem e_ent_congr {b : Nat} {cI cS : ClassId} {σ σ' : Sg} {o : Nat} (h1 : σ'.1.2 o = σ.1.2 o) (h2 : σ'.2.1 o = σ.2.1 o) (h3 : σ'.2.2.1 o = σ.2.2.1 o) (h4 : σ'.2.2.2 o = σ.2.2.2 o) : e_ent b cI cS σ' o = e_ent b cI cS σ o := by
  have h5 : ∀ c, e_fl b σ' c o = e_fl b σ c o := fun c => by
    unfold e_fl
    congr 1
    funext k
    unfold e_fv
    rw [h2, h3]
  unfold e_ent
  rw [h1, h2, h4, h5]
theorem e_fl_len (b : Nat) (σ : Sg) (c o : Nat) : (e_fl b σ c o).length = (e_ct c).2.2.1 := by simp [e_fl]
theorem e_fl_at {b : Nat} {σ : Sg} {c o k : Nat} (h : k < (e_ct c).2.2.1) : (e_fl b σ c o)[k]? = some (e_fv b σ c o k) := by simp [e_fl, List.getElem?_map, List.getElem?_range h]
theorem e_fl_set {b : Nat} {σ σ' : Sg} {c o k : Nat} {w : Value} (h1 : e_fv b σ' c o k = w) (h2 : ∀ j, j ≠ k → e_fv b σ' c o j = e_fv b σ c o j) : e_fl b σ' c o = (e_fl b σ c o).set k w := by
  apply List.ext_getElem
  · simp [e_fl]
  · intro i g1 g2
    rw [List.getElem_set]
    split
    · next h => subst h; simp [e_fl, h1]
    · next h => simp [e_fl, h2 i (fun z => h z.symm)]
theorem sim_upd {D : va_G} {b : Nat} {cI cS : ClassId} {H0 H H' : Heap} {σ σ' : Sg} {o : Nat} (hS : e_Sim D b cI cS H0 σ H) (hN : σ'.1.1 = σ.1.1) (he : ∀ q, q ≠ o → e_ent b cI cS σ' q = e_ent b cI cS σ q) (z : H'.size = H.size) (oq : ∀ q : Nat, q ≠ b + o → H'[q]? = H[q]?) (ha : va_at D e_cls (b + o, e_ent b cI cS σ' o) H') : e_Sim D b cI cS H0 σ' H' := by
  obtain ⟨h1, h2, h3⟩ := hS
  refine ⟨by rw [z, h1, hN], fun q hq => by rw [oq q (by omega)]; exact h2 q hq, fun q hq => ?_⟩
  by_cases hqo : q = o
  · subst hqo
    exact ha
  · rw [he q hqo]
    exact (h3 q (by rw [← hN]; exact hq)).kept (oq _ (by omega))
theorem sim_new {D : va_G} {b : Nat} {cI cS : ClassId} {H0 H H' : Heap} {σ σ' : Sg} (hS : e_Sim D b cI cS H0 σ H) (hN : σ'.1.1 = σ.1.1 + 1) (he : ∀ q, q ≠ σ.1.1 → e_ent b cI cS σ' q = e_ent b cI cS σ q) (z : H'.size = H.size + 1) (oq : ∀ q : Nat, q < H.size → H'[q]? = H[q]?) (ha : va_at D e_cls (b + σ.1.1, e_ent b cI cS σ' σ.1.1) H') : e_Sim D b cI cS H0 σ' H' := by
  obtain ⟨h1, h2, h3⟩ := hS
  refine ⟨by rw [z, h1, hN]; omega, fun q hq => by rw [oq q (by omega)]; exact h2 q hq, fun q hq => ?_⟩
  by_cases hqo : q = σ.1.1
  · subst hqo
    exact ha
  · rw [he q hqo]
    exact (h3 q (by omega)).kept (oq _ (by omega))
theorem e_warm {w : Cond} (h : w ∈ e_WS) {s U : State} {a a' : Array Value} (hW : s.WarmedH U.vm) (hb : w.before a s = true) : w.before a' U = true := by
  have h1 := (List.mem_filter.mp h).2
  unfold e_wmB at h1
  rw [Bool.or_eq_true] at h1
  rcases h1 with h1 | h1
  · exact word_at hW (good_of_word h1) hb
  · split at h1
    · exact va_Nw.use rfl (va_Nw.warmF hW (va_Nw.of rfl hb))
    · exact va_Nw.use rfl (va_Nw.warmM hW (va_Nw.of rfl hb))
    · exact va_AO.use (va_AO.moved hW.alike (va_AO.of hb))
    · cases h1
set_option maxRecDepth 100000 in
theorem e_uws_all : (List.range 13).all (fun c => (u_ws (e_ct c).1 (e_ct c).2.1 (e_ct c).2.2.1).all (fun w => decide (w ∈ e_WS))) = true := by decide +kernel
theorem e_uws {c : Nat} (h : c < 13) : ∀ w ∈ u_ws (e_ct c).1 (e_ct c).2.1 (e_ct c).2.2.1, w ∈ e_WS := fun w hw => of_decide_eq_true (List.all_eq_true.mp (List.all_eq_true.mp e_uws_all c (List.mem_range.mpr h)) w hw)
theorem e_nm_all : ∀ c, c < 13 → ∀ a, a < (e_ct c).2.2.1 → ∀ b, b < (e_ct c).2.2.1 → a ≠ b → ((e_ct c).2.1 a).2.1 ≠ ((e_ct c).2.1 b).2.1 := by decide +kernel
theorem e_ty_all : ∀ c, c < 13 → ∀ k, k < (e_ct c).2.2.1 → parseFieldDescriptor ((e_ct c).2.1 k).2.2.1 = some (e_fty c k) := by decide +kernel
def e_isR : FieldType → Bool
  | .object _ => true
  | .array _ => true
  | _ => false
/-- the kinds of fields that there are -/
theorem e_kinds : ∀ c, c < 13 → ∀ k, k < (e_ct c).2.2.1 → e_fty c k = .int ∨ e_fty c k = .boolean ∨ e_isR (e_fty c k) = true := by decide +kernel
end
section
section EHEAP
variable {p : Program} {l : Launch} {e : Env} {R : Room} {s : State} {m : MethodId} {args : Array Value} {below : List Frame} {meth : Method} {c : Code} {H : Heap} {locs : List Loc} {cells slots : Nat} {Z : State → Prop}
variable {D : va_G} {b : Nat} {cI cS : ClassId} {H0 : Heap} {σ σ' : Sg} {y pc : Nat} {ls : Array Slot} {rest : List Value}
theorem g_get_spec {o k cc : Nat} {v : Value} (h : g_get σ o cc k = some v) : o < σ.1.1 ∧ (σ.1.2 o).1 = cc ∧ v = (bif e_isI (e_fty cc k) then .int (σ.2.2.1 o k) else va_rf (σ.2.1 o k)) := by
  unfold g_get at h
  cases hq : (Nat.blt o σ.1.1 && Nat.beq (σ.1.2 o).1 cc) with
  | false => rw [hq] at h; cases h
  | true =>
    rw [hq] at h
    rw [Bool.and_eq_true] at hq
    exact ⟨by simpa [Nat.blt_eq] using hq.1, Nat.eq_of_beq_eq_true hq.2, (Option.some.inj h).symm⟩
theorem e_fv_get {o k cc : Nat} : e_v b (bif e_isI (e_fty cc k) then .int (σ.2.2.1 o k) else va_rf (σ.2.1 o k)) = e_fv b σ cc o k := by
  unfold e_fv
  cases e_isI (e_fty cc k) with
  | true => rfl
  | false => exact e_va_map _ _
theorem sim_obj {o cc : Nat} (hS : e_Sim D b cI cS H0 σ H) (ho : o < σ.1.1) (hcl : (σ.1.2 o).1 = cc) (hc : cc < 13) : va_at D e_cls (b + o, .inr (cc, e_fl b σ cc o)) H := by
  have := hS.2.2 o ho
  rwa [e_ent_obj hcl hc] at this
theorem va_one {q : Nat × va_E} (h : va_at D e_cls q H) : va_P D e_cls [q] H := by
  intro k x hk
  cases k with
  | zero => cases hk; exact h
  | succ k => simp at hk
theorem e_getf_ok {o cc k idx : Nat} {nest : Bool} {v : Value} (hx : p.tables.exec = Jvm.exec) (hb : c.code = mBy y) (hown : s.vm.findClass (mNm y).cls = some m.cls) (hts : ∀ w ∈ e_WS, w.before args s = true) (hK : va_K D e_cls (e_tys cI cS) s) (hS : e_Sim D b cI cS H0 σ H) (hg : g_get σ o cc k = some v) (hc : cc < 13) (hk : k < (e_ct cc).2.2.1)
    (hw : (bif nest then Cond.fieldLinkNest (mNm y).cls idx ((e_ct cc).2.1 k).1 ((e_ct cc).2.1 k).2.1 ((e_ct cc).2.1 k).2.2.1 "PuppetTurns" else Cond.fieldLink (mNm y).cls idx ((e_ct cc).2.1 k).1 ((e_ct cc).2.1 k).2.1 ((e_ct cc).2.1 k).2.2.1) ∈ e_WS) (hdg : decode (mBy y) pc = .ok (.getfield idx, 3))
    (kk : W p l e R s m args below meth c H locs cells slots Z (F0 m (pc + 3) ls (e_v b v :: rest))) : W p l e R s m args below meth c H locs cells slots Z (F0 m pc ls (.ref (b + o) :: rest)) := by
  obtain ⟨ho, hcl, rfl⟩ := g_get_spec hg
  rw [e_fv_get] at kk
  have hP := va_one (sim_obj hS ho hcl hc)
  cases nest with
  | false => exact va_get (own := (mNm y).cls) (C := (e_ct cc).1) (T := (e_ct cc).2.1) (N := (e_ct cc).2.2.1) (Ts := e_WS) hx hb hts (e_uws hc) hown hK hP 0 rfl (e_cls_at hc) k hk (hts _ hw) (fun _ h => h) (e_fl_at hk) hdg kk
  | true => exact va_getN (own := (mNm y).cls) (host := "PuppetTurns") (C := (e_ct cc).1) (T := (e_ct cc).2.1) (N := (e_ct cc).2.2.1) (Ts := e_WS) hx hb hts (e_uws hc) hown hK hP 0 rfl (e_cls_at hc) k hk (hts _ hw) (fun _ h => h) (e_fl_at hk) hdg kk
theorem g_put_spec {o k cc : Nat} {v : Value} (h : g_put σ o cc k v = some σ') : o < σ.1.1 ∧ (σ.1.2 o).1 = cc ∧
    ((∃ x, v = .int x ∧ e_isI (e_fty cc k) = true ∧ σ' = (σ.1, σ.2.1, u2 σ.2.2.1 o k x, σ.2.2.2)) ∨ (∃ j, v = .ref j ∧ e_isI (e_fty cc k) = false ∧ σ' = (σ.1, u2 σ.2.1 o k (some j), σ.2.2))) := by
  unfold g_put at h
  cases hq : (Nat.blt o σ.1.1 && Nat.beq (σ.1.2 o).1 cc) with
  | false => rw [hq] at h; cases h
  | true =>
    rw [hq] at h
    rw [Bool.and_eq_true] at hq
    refine ⟨by simpa [Nat.blt_eq] using hq.1, Nat.eq_of_beq_eq_true hq.2, ?_⟩
    simp only [cond_true] at h
    split at h
    · next x =>
      cases hi : e_isI (e_fty cc k) with
      | true => rw [hi] at h; exact Or.inl ⟨x, rfl, rfl, (Option.some.inj h).symm⟩
      | false => rw [hi] at h; cases h
    · next j =>
      cases hi : e_isI (e_fty cc k) with
      | true => rw [hi] at h; cases h
      | false => rw [hi] at h; exact Or.inr ⟨j, rfl, rfl, (Option.some.inj h).symm⟩
    · cases h
/-- what a write to a field makes of the list of fields, and of the other objects -/
theorem put_fl {o k cc : Nat} {v : Value} (h : g_put σ o cc k v = some σ') (hc : cc < 13) : σ'.1 = σ.1 ∧ e_fl b σ' cc o = (e_fl b σ cc o).set k (e_v b v) ∧ ∀ q, q ≠ o → e_ent b cI cS σ' q = e_ent b cI cS σ q := by
  obtain ⟨ho, hcl, h | h⟩ := g_put_spec h
  · obtain ⟨x, rfl, hi, rfl⟩ := h
    refine ⟨rfl, e_fl_set ?_ ?_, fun q hq => e_ent_congr rfl rfl ?_ rfl⟩
    · simp [e_fv, hi, u2, u1, e_v]
    · intro j hj
      simp [e_fv, u2, u1, hj]
    · simp [u2, u1, hq]
  · obtain ⟨j, rfl, hi, rfl⟩ := h
    refine ⟨rfl, e_fl_set ?_ ?_, fun q hq => e_ent_congr rfl ?_ rfl rfl⟩
    · simp [e_fv, hi, u2, u1, e_v, va_rf]
    · intro i hj
      simp [e_fv, u2, u1, hj]
    · simp [u2, u1, hq]
theorem e_narrow_ref (t : FieldType) (a : Nat) : narrow t (.ref a) = .ref a := by cases t <;> rfl
theorem put_fit {o k cc : Nat} {v : Value} (h : g_put σ o cc k v = some σ') (hc : cc < 13) (hk : k < (e_ct cc).2.2.1) (hbo : e_fty cc k = .boolean → v = .int 0 ∨ v = .int 1) : narrow (e_fty cc k) (e_v b v) = e_v b v ∧ fits (e_fty cc k) (e_v b v) = true := by
  obtain ⟨ho, hcl, h | h⟩ := g_put_spec h
  · obtain ⟨x, rfl, hi, -⟩ := h
    rcases e_kinds cc hc k hk with h1 | h1 | h1
    · rw [h1]; exact ⟨rfl, rfl⟩
    · rcases hbo h1 with h2 | h2
      · rw [h1, h2]; exact ⟨rfl, show fits .boolean (.int 0) = true by decide⟩
      · rw [h1, h2]; exact ⟨rfl, show fits .boolean (.int 1) = true by decide⟩
    · revert hi h1; cases e_fty cc k <;> simp [e_isI, e_isR]
  · obtain ⟨j, rfl, hi, -⟩ := h
    rcases e_kinds cc hc k hk with h1 | h1 | h1
    · rw [h1] at hi; cases hi
    · rw [h1] at hi; cases hi
    · refine ⟨e_narrow_ref _ _, ?_⟩
      revert h1
      cases e_fty cc k <;> simp [e_isR, e_v, fits]
set_option maxHeartbeats 4000000 in
theorem e_putf_ok {o cc k idx : Nat} {nest : Bool} {v : Value} (hx : p.tables.exec = Jvm.exec) (hb : c.code = mBy y) (hown : s.vm.findClass (mNm y).cls = some m.cls) (hts : ∀ w ∈ e_WS, w.before args s = true) (hK : va_K D e_cls (e_tys cI cS) s) (hnm : meth.name = (mNm y).name) (hS : e_Sim D b cI cS H0 σ H) (hg : g_put σ o cc k v = some σ') (hc : cc < 13) (hk : k < (e_ct cc).2.2.1) (hbo : e_fty cc k = .boolean → v = .int 0 ∨ v = .int 1)
    (hfin : ((e_ct cc).2.1 k).2.2.2 = false ∨ ((mNm y).name = "<init>" ∧ ((e_ct cc).2.1 k).1 = (mNm y).cls ∧ nest = false))
    (hw : (bif nest then Cond.fieldLinkNest (mNm y).cls idx ((e_ct cc).2.1 k).1 ((e_ct cc).2.1 k).2.1 ((e_ct cc).2.1 k).2.2.1 "PuppetTurns" else Cond.fieldLink (mNm y).cls idx ((e_ct cc).2.1 k).1 ((e_ct cc).2.1 k).2.1 ((e_ct cc).2.1 k).2.2.1) ∈ e_WS) (hdg : decode (mBy y) pc = .ok (.putfield idx, 3)) (hlo : ∀ q ∈ locs, b ≤ q.base)
    (kk : ∀ (H' : Heap) (locs' : List Loc), e_Sim D b cI cS H0 σ' H' → (∀ q ∈ locs', b ≤ q.base) → W p l e R s m args below meth c H' locs' cells slots Z (F0 m (pc + 3) ls rest)) : W p l e R s m args below meth c H locs cells slots Z (F0 m pc ls (e_v b v :: .ref (b + o) :: rest)) := by
  obtain ⟨ho, hcl, -⟩ := g_put_spec hg
  obtain ⟨hσ, hfl, hot⟩ := put_fl (b := b) (cI := cI) (cS := cS) hg hc
  obtain ⟨hn, hfit⟩ := put_fit (b := b) hg hc hk hbo
  have hd := e_ty_all cc hc k hk
  have hap := va_apart (own := (mNm y).cls) hts (e_uws hc) (e_fty cc) (e_ty_all cc hc) (e_nm_all cc hc) hK (e_cls_at hc)
  obtain ⟨r, h1, cell, q1, q2, q3, q4⟩ := sim_obj hS ho hcl hc
  have hr : r = ((e_ct cc).1, (e_ct cc).2.1, (e_ct cc).2.2.1) := Option.some.inj (h1.symm.trans (e_cls_at hc))
  subst hr
  obtain ⟨hSl, hfc, kC, hkC, hkind⟩ := hK.1 cc _ (e_cls_at hc)
  obtain ⟨cf, kf, fi, f, hi, hsl⟩ := hSl k hk
  have hlay := hts _ (e_uws hc _ (u_in_lay hk))
  have hst := (u_facts hfc hkC (u_lays hts (e_uws hc) hk) hi).1
  have fin : ∀ (H' : Heap) (j : Nat), H'[b + o]? = some (cell.setSlot f.slot (e_v b v)) → H'.size = H.size → (∀ q, q ≠ b + o → H'[q]? = H[q]?) → W p l e R s m args below meth c H' (locs ++ [⟨b + o, j⟩]) cells slots Z (F0 m (pc + 3) ls rest) := by
    intro H' j e1 e2 e3
    rw [hsl] at e1
    refine kk H' _ (sim_upd hS (by rw [hσ]) hot e2 e3 ?_) ?_
    · rw [e_ent_obj (by rw [hσ]; exact hcl) hc, hfl]
      exact ⟨_, e_cls_at hc, t_OB.to (V := updV (vp_V (e_fl b σ cc o)) k (e_v b v)) ⟨_, e1, q2, q3, t_set q4 hap hk _⟩ (fun j _ => vp_updV_set (by rw [e_fl_len]; exact hk) _ j)⟩
    · intro q hq
      rcases List.mem_append.mp hq with h | h
      · exact hlo q h
      · rw [List.mem_singleton.mp h]
        exact Nat.le_add_right _ _
  unfold u_lay at hlay
  cases hf : ((e_ct cc).2.1 k).2.2.2 with
  | false =>
    rw [if_neg (by rw [hf]; decide)] at hlay
    have h6 := u_store hfc hkC hkind hlay hi hd hn hfit
    cases nest with
    | false => exact W.putK hx hb (f := f) ⟨hown, hts _ hw, ⟨_, _, _, hi⟩, hst⟩ (by rw [q2]; exact h6) q1 q3 (by rw [hsl]; exact k2_hasslot (q4 k hk)) rfl rfl hdg (fun H' e1 e2 e3 => fin H' _ e1 e2 e3)
    | true => exact va_WputK hx hb (f := f) hown (hts _ hw) hi hst (by rw [q2]; exact h6) q1 q3 (by rw [hsl]; exact k2_hasslot (q4 k hk)) rfl rfl hdg (fun H' e1 e2 e3 => fin H' _ e1 e2 e3)
  | true =>
    rw [if_pos hf] at hlay
    rcases hfin with h7 | ⟨hin, hdecl, hne⟩
    · rw [hf] at h7; cases h7
    · subst hne
      have hcf : m.cls = cf := by
        obtain ⟨_, _, c', _, _, _, -, -, hf', -, -, -, hown2, -⟩ := Cond.laysFinal_spec hlay
        have e1 : c' = cf := by have := hi.symm.trans hf'; simp at this; exact this.1.symm
        rw [hdecl] at hown2
        rw [← e1]; exact Option.some.inj (hown.symm.trans hown2)
      have h6 := u_fits hfc hkC hkind (Or.inr hlay) hi hd hn hfit
      exact W.putFinK hx hb hown (hts _ hw) hi hst hcf (by rw [hnm]; exact hin) (by rw [q2]; exact h6) q1 q3 (by rw [hsl]; exact k2_hasslot (q4 k hk)) rfl rfl hdg (fun H' e1 e2 e3 => fin H' _ e1 e2 e3)
end EHEAP
end
section
section EARR
variable {p : Program} {l : Launch} {e : Env} {R : Room} {s : State} {m : MethodId} {args : Array Value} {below : List Frame} {meth : Method} {c : Code} {H : Heap} {locs : List Loc} {cells slots : Nat} {Z : State → Prop}
variable {D : va_G} {b : Nat} {cI cS : ClassId} {H0 : Heap} {σ σ' : Sg} {y pc : Nat} {ls : Array Slot} {rest : List Value}
theorem g_len_spec {a n : Nat} (h : g_len σ a = some n) : a < σ.1.1 ∧ (σ.1.2 a).1 = 100 ∧ (σ.1.2 a).2 = n ∧ n < 2147483648 := by
  unfold g_len at h
  cases hq : (Nat.blt a σ.1.1 && (Nat.beq (σ.1.2 a).1 100 && Nat.blt (σ.1.2 a).2 2147483648)) with
  | false => rw [hq] at h; cases h
  | true =>
    rw [hq] at h
    rw [Bool.and_eq_true, Bool.and_eq_true] at hq
    have h1 : a < σ.1.1 := by simpa [Nat.blt_eq] using hq.1
    have h2 : (σ.1.2 a).2 < 2147483648 := by simpa [Nat.blt_eq] using hq.2.2
    have h3 := Option.some.inj h
    exact ⟨h1, Nat.eq_of_beq_eq_true hq.2.1, h3, by rw [← h3]; exact h2⟩
theorem sim_arr {a n : Nat} (hS : e_Sim D b cI cS H0 σ H) (h : g_len σ a = some n) : va_at D e_cls (b + a, .inl (cI, n, .inl (σ.2.2.2 a))) H := by
  obtain ⟨h1, h2, h3, -⟩ := g_len_spec h
  have := hS.2.2 a h1
  rwa [e_ent_int h2, h3] at this
theorem e_alen_ok {a n : Nat} (hx : p.tables.exec = Jvm.exec) (hb : c.code = mBy y) (hK : va_K D e_cls (e_tys cI cS) s) (hS : e_Sim D b cI cS H0 σ H) (h : g_len σ a = some n) (hdg : decode (mBy y) pc = .ok (.arraylength, 1))
    (kk : W p l e R s m args below meth c H locs cells slots Z (F0 m (pc + 1) ls (.int (nI n) :: rest))) : W p l e R s m args below meth c H locs cells slots Z (F0 m pc ls (.ref (b + a) :: rest)) := by
  have h1 : H[b + a]? = some (arrV cI n (fun j => .int (σ.2.2.2 a j))) := sim_arr hS h
  exact W.alen (n := nI n) hx hb h1 ((hK.2 0 _ rfl).1 n _) (by rw [arrV_size] <;> rfl) rfl rfl hdg kk
theorem e_iald_ok {a n j : Nat} {i : Int32} (hx : p.tables.exec = Jvm.exec) (hb : c.code = mBy y) (hK : va_K D e_cls (e_tys cI cS) s) (hS : e_Sim D b cI cS H0 σ H) (h : g_len σ a = some n) (hi : i = nI j) (hj : j < n) (hdg : decode (mBy y) pc = .ok (.iaload, 1))
    (kk : W p l e R s m args below meth c H locs cells slots Z (F0 m (pc + 1) ls (.int (σ.2.2.2 a j) :: rest))) : W p l e R s m args below meth c H locs cells slots Z (F0 m pc ls (.int i :: .ref (b + a) :: rest)) := by
  obtain ⟨-, -, -, h4⟩ := g_len_spec h
  subst hi
  refine va_iald hx hb hK (va_one (sim_arr hS h)) 0 0 rfl rfl (vp_in_nI hj (by omega)) hdg ?_
  rw [nI_clamp (by omega)]
  exact kk
theorem e_iast_ok {a n j : Nat} {i x : Int32} (hx : p.tables.exec = Jvm.exec) (hb : c.code = mBy y) (hK : va_K D e_cls (e_tys cI cS) s) (hS : e_Sim D b cI cS H0 σ H) (h : g_len σ a = some n) (hi : i = nI j) (hj : j < n) (hdg : decode (mBy y) pc = .ok (.iastore, 1)) (hlo : ∀ q ∈ locs, b ≤ q.base)
    (kk : ∀ (H' : Heap) (locs' : List Loc), e_Sim D b cI cS H0 (g_wr σ a (u1 (σ.2.2.2 a) j x)) H' → (∀ q ∈ locs', b ≤ q.base) → W p l e R s m args below meth c H' locs' cells slots Z (F0 m (pc + 1) ls rest)) : W p l e R s m args below meth c H locs cells slots Z (F0 m pc ls (.int x :: .int i :: .ref (b + a) :: rest)) := by
  obtain ⟨h1, h2, h3, h4⟩ := g_len_spec h
  subst hi
  have hc : H[b + a]? = some (arrV cI n (fun j => .int (σ.2.2.2 a j))) := sim_arr hS h
  refine W.iast hx hb hc ((hK.2 0 _ rfl).1 n _) (fun q => by cases q) (by rw [arrV_size]; exact vp_in_nI hj (by omega)) rfl rfl hdg fun H1 e1 z oq => ?_
  rw [nI_clamp (by omega)] at e1 ⊢
  refine kk H1 _ (sim_upd hS rfl (fun q hq => e_ent_congr rfl rfl rfl (u1_n _ _ hq)) z oq ?_) ?_
  · rw [e_ent_int (σ := g_wr σ a (u1 (σ.2.2.2 a) j x)) h2]
    show H1[b + a]? = some (vp_cell _ _)
    rw [e1, vp_cell_i, arrV_store]
    show _ = some (arrV cI (σ.1.2 a).2 (fun k => .int (u1 σ.2.2.2 a (u1 (σ.2.2.2 a) j x) a k)))
    rw [h3, u1_s]
    congr 2
    funext q
    by_cases hq : q = j
    · subst hq
      simp [updV, u1]
    · simp [updV, u1, hq]
  · intro q hq
    rcases List.mem_append.mp hq with h | h
    · exact hlo q h
    · rw [List.mem_singleton.mp h]
      exact Nat.le_add_right _ _
theorem g_rget_spec {a j : Nat} {v : Value} (h : g_rget σ a j = some v) : a < σ.1.1 ∧ (σ.1.2 a).1 = 101 ∧ j < (σ.1.2 a).2 ∧ (σ.1.2 a).2 < 2147483648 ∧ v = va_rf (σ.2.1 a j) := by
  unfold g_rget at h
  cases hq : (Nat.blt a σ.1.1 && (Nat.beq (σ.1.2 a).1 101 && (Nat.blt j (σ.1.2 a).2 && Nat.blt (σ.1.2 a).2 2147483648))) with
  | false => rw [hq] at h; cases h
  | true =>
    rw [hq] at h
    rw [Bool.and_eq_true, Bool.and_eq_true, Bool.and_eq_true] at hq
    exact ⟨by simpa [Nat.blt_eq] using hq.1, Nat.eq_of_beq_eq_true hq.2.1, by simpa [Nat.blt_eq] using hq.2.2.1, by simpa [Nat.blt_eq] using hq.2.2.2, (Option.some.inj h).symm⟩
theorem e_aald_ok {a j : Nat} {i : Int32} {v : Value} (hx : p.tables.exec = Jvm.exec) (hb : c.code = mBy y) (hK : va_K D e_cls (e_tys cI cS) s) (hS : e_Sim D b cI cS H0 σ H) (h : g_rget σ a j = some v) (hi : i = nI j) (hdg : decode (mBy y) pc = .ok (.aaload, 1))
    (kk : W p l e R s m args below meth c H locs cells slots Z (F0 m (pc + 1) ls (e_v b v :: rest))) : W p l e R s m args below meth c H locs cells slots Z (F0 m pc ls (.int i :: .ref (b + a) :: rest)) := by
  obtain ⟨h1, h2, h3, h4, rfl⟩ := g_rget_spec h
  subst hi
  have h5 := hS.2.2 a h1
  rw [e_ent_ref h2] at h5
  refine va_aldq hx hb hK (va_one h5) 0 1 rfl rfl (vp_in_nI h3 (by omega)) hdg ?_
  rw [nI_clamp (by omega), ← e_va_map]
  exact kk
theorem g_rput_spec {a j : Nat} {v : Value} (h : g_rput σ a j v = some σ') : a < σ.1.1 ∧ (σ.1.2 a).1 = 101 ∧ j < (σ.1.2 a).2 ∧ (σ.1.2 a).2 < 2147483648 ∧ ∃ o, v = .ref o ∧ o < σ.1.1 ∧ (σ.1.2 o).1 = 5 ∧ σ' = (σ.1, u2 σ.2.1 a j (some o), σ.2.2) := by
  unfold g_rput at h
  cases hq : (Nat.blt a σ.1.1 && (Nat.beq (σ.1.2 a).1 101 && (Nat.blt j (σ.1.2 a).2 && Nat.blt (σ.1.2 a).2 2147483648))) with
  | false => rw [hq] at h; cases h
  | true =>
    rw [hq] at h
    rw [Bool.and_eq_true, Bool.and_eq_true, Bool.and_eq_true] at hq
    refine ⟨by simpa [Nat.blt_eq] using hq.1, Nat.eq_of_beq_eq_true hq.2.1, by simpa [Nat.blt_eq] using hq.2.2.1, by simpa [Nat.blt_eq] using hq.2.2.2, ?_⟩
    simp only [cond_true] at h
    split at h
    · next o =>
      cases hr : (Nat.blt o σ.1.1 && Nat.beq (σ.1.2 o).1 5) with
      | false => rw [hr] at h; cases h
      | true =>
        rw [hr] at h
        rw [Bool.and_eq_true] at hr
        exact ⟨o, rfl, by simpa [Nat.blt_eq] using hr.1, Nat.eq_of_beq_eq_true hr.2, (Option.some.inj h).symm⟩
    · cases h
set_option maxHeartbeats 4000000 in
theorem e_aast_ok {a j : Nat} {i : Int32} {v : Value} (hx : p.tables.exec = Jvm.exec) (hb : c.code = mBy y) (hK : va_K D e_cls (e_tys cI cS) s) (hS : e_Sim D b cI cS H0 σ H) (h : g_rput σ a j v = some σ') (hi : i = nI j) (hdg : decode (mBy y) pc = .ok (.aastore, 1)) (hlo : ∀ q ∈ locs, b ≤ q.base)
    (kk : ∀ (H' : Heap) (locs' : List Loc), e_Sim D b cI cS H0 σ' H' → (∀ q ∈ locs', b ≤ q.base) → W p l e R s m args below meth c H' locs' cells slots Z (F0 m (pc + 1) ls rest)) : W p l e R s m args below meth c H locs cells slots Z (F0 m pc ls (e_v b v :: .int i :: .ref (b + a) :: rest)) := by
  obtain ⟨h1, h2, h3, h4, o, rfl, h5, h6, rfl⟩ := g_rput_spec h
  subst hi
  have h7 := hS.2.2 a h1
  rw [e_ent_ref h2] at h7
  have hca : H[b + a]? = some (arrV cS (σ.1.2 a).2 (fun k => va_rf ((σ.2.1 a k).map (fun j => b + j)))) := h7
  obtain ⟨r', hr', cellV, g1, g2, g3, -⟩ := sim_obj hS h5 h6 (show 5 < 13 by decide)
  have hr : r' = ((e_ct 5).1, (e_ct 5).2.1, (e_ct 5).2.2.1) := Option.some.inj (hr'.symm.trans (e_cls_at (show 5 < 13 by decide)))
  have hcls := (hK.1 5 _ (e_cls_at (show 5 < 13 by decide))).2
  obtain ⟨kA, comp, k1, k2, k3, -⟩ := (hK.2 1 _ rfl).2
  have hcomp : comp = D.1 5 := Option.some.inj (k3.symm.trans hcls.1)
  subst hcomp
  obtain ⟨kC, hkC, -⟩ := hcls.2
  refine W.aast hx hb hca (fun q h => by cases h) (fun h => by cases h) k1 k2 rfl hkC ⟨fun h => (vp_in_nI h3 (by omega)) (Or.inl h), by rw [arrV_size, nI_clamp (by omega)]; exact h3⟩ g1 (fun q h => by rw [g3] at h; cases h) (by rw [g2]; exact hkC) (by rw [g2]; exact va_assign hcls) rfl rfl hdg fun H1 e1 z oq => ?_
  rw [nI_clamp (by omega)] at e1 ⊢
  refine kk H1 _ (sim_upd hS rfl (fun q hq => e_ent_congr rfl (u1_n _ _ hq) rfl rfl) z oq ?_) ?_
  · rw [e_ent_ref (σ := (σ.1, u2 σ.2.1 a j (some o), σ.2.2)) h2]
    show H1[b + a]? = some (vp_cell _ _)
    rw [e1, vp_cell_q, arrV_store]
    congr 2
    funext q
    by_cases hq : q = j
    · subst hq
      simp [updV, u2, u1, va_rf]
    · simp [updV, u2, u1, hq]
  · intro q hq
    rcases List.mem_append.mp hq with h | h
    · exact hlo q h
    · rw [List.mem_singleton.mp h]
      exact Nat.le_add_right _ _
set_option maxHeartbeats 4000000 in
theorem e_new_ok {o cc idx : Nat} (hx : p.tables.exec = Jvm.exec) (hb : c.code = mBy y) (hown : s.vm.findClass (mNm y).cls = some m.cls) (hts : ∀ w ∈ e_WS, w.before args s = true) (hK : va_K D e_cls (e_tys cI cS) s) (hS : e_Sim D b cI cS H0 σ H) (h : g_new σ cc = some (o, σ'))
    (hw : ∀ w ∈ ([.classLink (mNm y).cls idx (e_ct cc).1, .instantiable (e_ct cc).1 (e_ct cc).2.2.1, .initialized (e_ct cc).1] : List Cond), w ∈ e_WS) (hcells : cells + 1 ≤ R.cells) (hslots : slots + (e_ct cc).2.2.1 ≤ R.slots) (hdg : decode (mBy y) pc = .ok (.new idx, 3))
    (kk : ∀ (H' : Heap), e_Sim D b cI cS H0 σ' H' → W p l e R s m args below meth c H' locs (cells + 1) (slots + (e_ct cc).2.2.1) Z (F0 m (pc + 3) ls (.ref (b + o) :: rest))) : W p l e R s m args below meth c H locs cells slots Z (F0 m pc ls rest) := by
  unfold g_new at h
  cases hq : Nat.blt cc 13 with
  | false => rw [hq] at h; cases h
  | true =>
    rw [hq] at h
    have hc : cc < 13 := by simpa [Nat.blt_eq] using hq
    simp only [cond_true, Option.some.injEq, Prod.mk.injEq] at h
    obtain ⟨rfl, rfl⟩ := h
    have hKn := hK.1 cc _ (e_cls_at hc)
    refine W.newcK hx hb hown (hts _ (hw _ (by simp))) (hts _ (hw _ (by simp))) (hts _ (hw _ (by simp))) rfl hdg hcells hslots hKn.2.1 rfl fun H1 kC hkC e1 z1 o1 => ?_
    rw [hS.1] at e1 ⊢
    refine kk H1 (sim_new hS rfl (fun q hq => e_ent_congr (u1_n _ _ hq) (u1_n _ _ hq) (u1_n _ _ hq) rfl) (by rw [z1]) o1 ?_)
    rw [e_ent_obj (c := cc) (by simp [u1]) hc]
    refine ⟨_, e_cls_at hc, (u_born (e_fty cc) hts (e_uws hc) hKn hkC e1 (e_ty_all cc hc)).to (fun j hj => ?_)⟩
    unfold vp_V
    rw [List.getD_eq_getElem?_getD, e_fl_at hj]
    simp only [Option.getD_some, e_fv, u1_s]
    rcases e_kinds cc hc j hj with h1 | h1 | h1
    · rw [h1]; rfl
    · rw [h1]; rfl
    · revert h1
      cases e_fty cc j <;> simp [e_isR, e_isI, defaultValue, va_rf]
set_option maxHeartbeats 4000000 in
theorem e_newI_ok {o n : Nat} {i : Int32} (hx : p.tables.exec = Jvm.exec) (hb : c.code = mBy y) (hts : ∀ w ∈ e_WS, w.before args s = true) (hK : va_K D e_cls (e_tys cI cS) s) (hS : e_Sim D b cI cS H0 σ H) (h : g_newI σ n = some (o, σ')) (hi : i = nI n) (hn : n < 100000)
    (hw : (Cond.arrayClass .int) ∈ e_WS) (hcells : cells + 1 ≤ R.cells) (hslots : slots + n ≤ R.slots) (hdg : decode (mBy y) pc = .ok (.newarray .int, 2))
    (kk : ∀ (H' : Heap), e_Sim D b cI cS H0 σ' H' → W p l e R s m args below meth c H' locs (cells + 1) (slots + n) Z (F0 m (pc + 2) ls (.ref (b + o) :: rest))) : W p l e R s m args below meth c H locs cells slots Z (F0 m pc ls (.int i :: rest)) := by
  unfold g_newI at h
  simp only [Option.some.injEq, Prod.mk.injEq] at h
  obtain ⟨rfl, rfl⟩ := h
  subst hi
  refine va_newaK (atype := .int) hx hb (hts _ hw) rfl hdg rfl (nI_pos (by omega)) (nI_clamp (by omega)) (by show n * 4 ≤ _; omega) hcells hslots rfl fun H1 cA e1 z1 o1 hAr hNm => ?_
  have hcA : cA = cI := Option.some.inj (hNm.symm.trans (hK.2 0 _ rfl).2)
  subst hcA
  rw [hS.1] at e1 ⊢
  refine kk H1 (sim_new hS rfl (fun q hq => e_ent_congr (u1_n _ _ hq) rfl rfl (u1_n _ _ hq)) (by rw [z1]) o1 ?_)
  rw [e_ent_int (by simp [u1])]
  show H1[_]? = some (vp_cell _ _)
  rw [e1, vp_cell_i]
  simp [u1_s]
  rfl
set_option maxHeartbeats 4000000 in
theorem e_newR_ok {o n idx : Nat} {i : Int32} (hx : p.tables.exec = Jvm.exec) (hb : c.code = mBy y) (hown : s.vm.findClass (mNm y).cls = some m.cls) (hts : ∀ w ∈ e_WS, w.before args s = true) (hK : va_K D e_cls (e_tys cI cS) s) (hS : e_Sim D b cI cS H0 σ H) (h : g_newR σ n = some (o, σ')) (hi : i = nI n) (hn : n < 100000)
    (hw : ∀ w ∈ ([.classLink (mNm y).cls idx "PuppetTurns$Scene", .arrayOver (.object "PuppetTurns$Scene")] : List Cond), w ∈ e_WS) (hcells : cells + 1 ≤ R.cells) (hslots : slots + n ≤ R.slots) (hdg : decode (mBy y) pc = .ok (.anewarray idx, 3))
    (kk : ∀ (H' : Heap), e_Sim D b cI cS H0 σ' H' → W p l e R s m args below meth c H' locs (cells + 1) (slots + n) Z (F0 m (pc + 3) ls (.ref (b + o) :: rest))) : W p l e R s m args below meth c H locs cells slots Z (F0 m pc ls (.int i :: rest)) := by
  unfold g_newR at h
  simp only [Option.some.injEq, Prod.mk.injEq] at h
  obtain ⟨rfl, rfl⟩ := h
  subst hi
  refine W.anew hx hb hown (hts (.classLink (mNm y).cls idx "PuppetTurns$Scene") (hw _ (by simp))) (hts (.arrayOver (.object "PuppetTurns$Scene")) (hw _ (by simp))) rfl hdg rfl (nI_pos (by omega)) (by rw [nI_clamp (by omega)]; omega) hcells (by rw [nI_clamp (by omega)]; exact hslots) fun cA kA comp f1 f2 f3 f4 => ?_
  rw [nI_clamp (by omega)]
  have hcA : cA = cS := by
    obtain ⟨_, _, _, _, _, g4⟩ := (hK.2 1 _ rfl).2
    exact Option.some.inj (f1.symm.trans g4)
  subst hcA
  generalize hH1 : H.push ({ cls := cA, slots := Array.replicate n .null, vm := .none } : Cell) = H1
  have z1 : H1.size = H.size + 1 := by rw [← hH1, Array.size_push]
  have e1 : H1[H.size]? = some (arrV cA n (fun _ => .null)) := by rw [← hH1, Array.getElem?_push_size, ← arrV_new]
  have o1 : ∀ q : Nat, q < H.size → H1[q]? = H[q]? := fun q hq => by rw [← hH1, Array.getElem?_push, if_neg (Nat.ne_of_lt hq)]
  rw [hS.1] at e1 ⊢
  refine kk H1 (sim_new hS rfl (fun q hq => e_ent_congr (u1_n _ _ hq) (u1_n _ _ hq) rfl rfl) z1 o1 ?_)
  rw [e_ent_ref (by simp [u1])]
  show H1[_]? = some (vp_cell _ _)
  rw [e1, vp_cell_q]
  simp [u1_s, va_rf]
end EARR
end
section
section ECALL
variable {p : Program} {l : Launch} {e : Env} {R : Room} {s : State} {m : MethodId} {args : Array Value} {below : List Frame} {meth : Method} {c : Code} {H : Heap} {locs : List Loc} {cells slots : Nat} {Z : State → Prop}
variable {D : va_G} {b : Nat} {cI cS : ClassId} {H0 : Heap} {σ σ' : Sg} {y pc : Nat} {ls : Array Slot} {rest : List Value}
set_option maxHeartbeats 4000000 in
theorem e_copy_ok {a a0 n0 n1 j idx : Nat} {n sp dp : Int32} (hx : p.tables.exec = Jvm.exec) (hb : c.code = mBy y) (hml : c.maxLocals = ls.size) (hown : s.vm.findClass (mNm y).cls = some m.cls) (hts : ∀ w ∈ e_WS, w.before args s = true) (hK : va_K D e_cls (e_tys cI cS) s) (hS : e_Sim D b cI cS H0 σ H) (hl1 : g_len σ a = some n1) (hl0 : g_len σ a0 = some n0) (hn : n = nI j) (hj1 : j ≤ n1) (hj0 : j ≤ n0) (hsp : sp = 0) (hdp : dp = 0)
    (hw : ∀ w ∈ ([.methodLink (mNm y).cls idx arraycopyName, .native arraycopyName, .static arraycopyName, .initialized "java/lang/System"] : List Cond), w ∈ e_WS) (hframes : 1 ≤ R.frames) (hlocals : (rest.map fun v => v.category).sum + (nativeFrameWords "java/lang/System" "arraycopy" 5 + 11) ≤ R.locals) (hdg : decode (mBy y) pc = .ok (.invokestatic idx, 3)) (hlo : ∀ q ∈ locs, b ≤ q.base)
    (kk : ∀ (H' : Heap) (locs' : List Loc), e_Sim D b cI cS H0 (g_wr σ a (e_cpy (σ.2.2.2 a0) (σ.2.2.2 a) j)) H' → (∀ q ∈ locs', b ≤ q.base) → W p l e R s m args below meth c H' locs' cells slots Z (F0 m (pc + 3) ls rest)) : W p l e R s m args below meth c H locs cells slots Z (F0 m pc ls (.int n :: .int dp :: .ref (b + a) :: .int sp :: .ref (b + a0) :: rest)) := by
  subst hn; subst hsp; subst hdp
  obtain ⟨s1, s2, s3, s4⟩ := g_len_spec hl1
  obtain ⟨r1, r2, r3, r4⟩ := g_len_spec hl0
  have hc0 : H[b + a0]? = some (vp_cell cI (n0, .inl (σ.2.2.2 a0))) := sim_arr hS hl0
  have hc1 : H[b + a]? = some (vp_cell cI (n1, .inl (σ.2.2.2 a))) := sim_arr hS hl1
  have hcl : (nI j).toNatClampNeg = j := nI_clamp (by omega)
  have hti : (nI j).toInt = (j : Int) := nI_toInt (by omega)
  intro T hT X
  obtain ⟨-, k0, hk0, cm0, hkk0⟩ := (hK.2 0 _ rfl).1 n0 (fun k => .int (σ.2.2.2 a0 k))
  obtain ⟨-, k1, hk1, cm1, hkk1⟩ := (hK.2 0 _ rfl).1 n1 (fun k => .int (σ.2.2.2 a k))
  obtain ⟨vm', X', step⟩ := X.arraycopy hx hown (hts (.methodLink (mNm y).cls idx arraycopyName) (hw _ (by simp))) (hts (.native arraycopyName) (hw _ (by simp))) (hts (.static arraycopyName) (hw _ (by simp))) (hts (.initialized "java/lang/System") (hw _ (by simp))) (src := b + a0) (dst := b + a) (cs := vp_cell cI (n0, .inl (σ.2.2.2 a0))) (cd := vp_cell cI (n1, .inl (σ.2.2.2 a))) (srcPos := 0) (destPos := 0) (n := nI j) (by rw [hT]; exact hc0) (by rw [hT]; exact hc1)
    (fun _ h => by cases h) (fun _ h => by cases h) (fun h => by cases h) (fun h => by cases h) hk0 hk1 hkk0 hkk1 (by simp [refKind]) (by decide) (by decide) (nI_pos (by omega))
    (by rw [hti]; show ¬ (0 : Int) + _ > ((arrV cI n0 (fun k => .int (σ.2.2.2 a0 k))).slots.size : Int); rw [arrV_size]; omega)
    (by rw [hti]; show ¬ (0 : Int) + _ > ((arrV cI n1 (fun k => .int (σ.2.2.2 a k))).slots.size : Int); rw [arrV_size]; omega)
    (fun vm₁ _ i hi => by
      rw [hcl] at hi
      have e1 : (vp_cell cI (n0, .inl (σ.2.2.2 a0))).slots.getD ((0 : Int32).toNatClampNeg + i) .null = .int (σ.2.2.2 a0 i) := by
        show (arrV cI n0 (fun k => .int (σ.2.2.2 a0 k))).slots.getD (0 + i) _ = _
        rw [Array.getD_eq_getD_getElem?, arrV_read _ _ (by omega), Nat.zero_add]
        rfl
      refine ⟨?_, ?_⟩
      · rw [e1]
        rfl
      · rw [e1]
        exact trivial)
    (g := F0 m pc ls (.int (nI j) :: .int 0 :: .ref (b + a) :: .int 0 :: .ref (b + a0) :: rest)) rfl (by rw [hml]) (rest := rest) rfl (by rw [hb]; exact hdg) hframes (by show 2 * 0 + _ + _ ≤ _; omega)
  have e1 : copied (vp_cell cI (n0, .inl (σ.2.2.2 a0))) (vp_cell cI (n1, .inl (σ.2.2.2 a))) 0 0 (nI j) = vp_cell cI (n1, .inl (va_cpy (σ.2.2.2 a0) (σ.2.2.2 a) (0 : Int32).toNatClampNeg (0 : Int32).toNatClampNeg (nI j).toNatClampNeg)) := va_copied (fun z => .int z) cI cI (σ.2.2.2 a0) (σ.2.2.2 a) (by rw [hcl]; show 0 + j ≤ n0; omega)
  have e2 : va_cpy (σ.2.2.2 a0) (σ.2.2.2 a) (0 : Int32).toNatClampNeg (0 : Int32).toNatClampNeg (nI j).toNatClampNeg = e_cpy (σ.2.2.2 a0) (σ.2.2.2 a) j := by
    rw [hcl]
    funext k
    show (if 0 ≤ k ∧ k < 0 + j then σ.2.2.2 a0 (0 + (k - 0)) else σ.2.2.2 a k) = if k < j then σ.2.2.2 a0 k else σ.2.2.2 a k
    simp
  rw [e1, e2] at X' step
  have hl : b + a < H.size := (Array.getElem?_eq_some_iff.mp hc1).1
  generalize hC : vp_cell cI (n1, .inl (e_cpy (σ.2.2.2 a0) (σ.2.2.2 a) j)) = C at X' step
  have hheap : ((T.setVm vm').setCell (b + a) C).heap = H.setIfInBounds (b + a) C := by rw [← hT]; rfl
  obtain ⟨t, a1, b1⟩ := kk _ _ (sim_upd (H' := H.setIfInBounds (b + a) C) hS rfl (fun q hq => e_ent_congr rfl rfl rfl (u1_n _ _ hq)) (by simp) (fun q hq => by simp [Array.getElem?_setIfInBounds, Ne.symm hq]) (by
      rw [e_ent_int (σ := g_wr σ a (e_cpy (σ.2.2.2 a0) (σ.2.2.2 a) j)) s2]
      show (H.setIfInBounds (b + a) C)[b + a]? = some (vp_cell cI ((σ.1.2 a).2, .inl (u1 σ.2.2.2 a (e_cpy (σ.2.2.2 a0) (σ.2.2.2 a) j) a)))
      rw [s3, u1_s, hC]
      simp [Array.getElem?_setIfInBounds, hl])) (fun q hq => by
      rcases List.mem_append.mp hq with h | h
      · exact hlo q h
      · obtain ⟨z, -, hz⟩ := List.mem_map.mp h
        rw [← hz]
        exact Nat.le_add_right _ _) _ hheap X'
  exact ⟨t, step t a1, b1⟩
theorem e_blind {as : List Value} : FrameBlind (e_Pc D b cI cS H0 σ as) := fun a U g mk q => by
  obtain ⟨q0, qS, qK⟩ := q
  exact ⟨q0, qS, va_K.moved (u := U) (U := U.calling g mk a) (Vm.Alike.refl U.vm) qK⟩
/-- what a caller's tables say of a callee -/
theorem e_calls {r1 x n : Nat} {nest : Bool} (hts : ∀ w ∈ e_WS, w.before args s = true) (hok : e_callOk y r1 n = true) (hw1 : e_link y r1 x nest ∈ e_WS) (hw2 : (Cond.initialized (mNm r1).cls) ∈ e_WS) (hw3 : (Cond.code (mNm r1) (mBy r1) (mML r1) (mRet r1)) ∈ e_WS) (hf : (mRm y).frames ≤ R.frames) (hl : (mRm y).locals ≤ R.locals) :
    (nest = false → CallB R s args (mNm y).cls x (mNm r1) (mBy r1) (mML r1) (mRet r1) (mWs r1) (mRm r1) (mRm r1).cells (mRm r1).slots n) ∧ (nest = true → va_CN R s args (mNm y).cls x (mNm r1) "PuppetTurns" (mBy r1) (mML r1) (mRet r1) (mWs r1) (mRm r1) (mRm r1).cells (mRm r1).slots n) := by
  unfold e_callOk at hok
  simp only [Bool.and_eq_true] at hok
  obtain ⟨⟨⟨⟨⟨o1, o2⟩, o3⟩, o4⟩, o5⟩, -⟩ := hok
  have o1 := of_decide_eq_true o1
  have o2 := of_decide_eq_true o2
  have o3 := of_decide_eq_true o3
  have o4 := Nat.le_of_ble_eq_true o4
  have o5 := Nat.le_of_ble_eq_true o5
  have hws : ∀ w ∈ mWs r1, ∀ (a' : Array Value) (U : State), s.WarmedH U.vm → w.before a' U = true := by
    intro w hw a' U hW
    have hm : w ∈ e_WS := (List.mem_cons.mp hw).elim (fun h => h ▸ hw3) id
    exact e_warm hm hW (hts w hm)
  have hsig : ∀ sig, parseMethodDescriptor (mNm r1).desc = some sig → n = sig.parameters.length := by
    intro sig h
    rw [h] at o3
    exact (Option.some.inj o3).symm
  refine ⟨fun hn => ?_, fun hn => ?_⟩
  · subst hn
    exact ⟨rfl, rfl, by omega, by omega, hws, List.mem_cons_self, hts _ hw3, hts _ hw2, ⟨o1, o2⟩, hsig, hts _ hw1⟩
  · subst hn
    exact ⟨⟨rfl, rfl, by omega, by omega, hws, List.mem_cons_self⟩, hts _ hw3, hts _ hw2, ⟨o1, o2⟩, hsig, hts _ hw1⟩
/-- behind a call -/
theorem e_back {r1 : Nat} {st0 rst : List Value} {Q : Option Value → Sg → Prop} {a : Array Value} (hr : va_Run p l e R s m args below meth c H locs cells slots (mRm r1).cells (mRm r1).slots (F0 m pc ls st0) (rst.map (e_v b)) (e_Qc D b cI cS H0 Q a) (fun q => b ≤ q)) (hlo : ∀ q ∈ locs, b ≤ q.base)
    (kk : ∀ (r : Option Value) (σ' : Sg) (H' : Heap) (locs' : List Loc), Q r σ' → e_Sim D b cI cS H0 σ' H' → (∀ q ∈ locs', b ≤ q.base) → W p l e R s m args below meth c H' locs' (cells + (mRm r1).cells) (slots + (mRm r1).slots) Z (F0 m (pc + 3) ls ((r.toList ++ rst).map (e_v b)))) : W p l e R s m args below meth c H locs cells slots Z (F0 m pc ls st0) := by
  intro T hT X
  obtain ⟨v, st₀, t, T', L, h0, X', hL, e1, e2, ⟨r, σ', hv, hQ, hS'⟩, st⟩ := hr T hT X
  have hv : v = r.map (e_v b) := by
    injection hv
  subst hv
  rw [← e1] at hS'
  obtain ⟨t2, a1, b1⟩ := kk r σ' T'.heap (locs ++ L) hQ hS' (fun q hq => (List.mem_append.mp hq).elim (hlo q) (hL q)) T' rfl X'
  refine ⟨t2, st t2 ?_, b1⟩
  have e3 : (r.toList ++ rst).map (e_v b) = (r.map (e_v b)).toList ++ rst.map (e_v b) := by cases r <;> simp
  rw [e3] at a1
  exact a1
theorem e_cat_sum : ∀ st : List Value, ((st.map (e_v b)).map fun v => v.category).sum = e_cat st
  | [] => rfl
  | v :: r => by simp only [List.map_cons, List.sum_cons, e_cat, e_v_cat, e_cat_sum r]
theorem e_isO_spec {ci : Nat} : ∀ {st : List Value} {n : Nat}, e_isO σ ci st n = true → ∃ (pre : List Value) (o : Nat) (rst : List Value), st = pre ++ .ref o :: rst ∧ pre.length = n ∧ o < σ.1.1 ∧ (σ.1.2 o).1 = ci
  | [], n, h => by cases n <;> simp [e_isO] at h
  | v :: r, 0, h => by
    cases v <;> simp only [e_isO] at h <;> try (cases h)
    next o =>
      rw [Bool.and_eq_true] at h
      exact ⟨[], o, r, rfl, rfl, by simpa [Nat.blt_eq] using h.1, Nat.eq_of_beq_eq_true h.2⟩
  | v :: r, n + 1, h => by
    have h' : e_isO σ ci r n = true := by cases v <;> simpa [e_isO] using h
    obtain ⟨pre, o, rst, h1, h2, h3, h4⟩ := e_isO_spec h'
    exact ⟨v :: pre, o, rst, by rw [h1]; rfl, by simp [h2], h3, h4⟩
end ECALL
end
section
section ESOUND
variable {p : Program} {l : Launch} {e : Env} {R : Room} {s : State} {m : MethodId} {args : Array Value} {below : List Frame} {meth : Method} {c : Code} {H : Heap} {locs : List Loc} {cells slots : Nat} {Z : State → Prop}
variable {D : va_G} {b : Nat} {cI cS : ClassId} {H0 : Heap} {σ σ' : Sg} {y pc : Nat} {ls : Array Slot} {rest : List Value}
theorem e_sw_spec {x : Int32} {d : Nat} {k : Nat → Prop} : ∀ {sw : List (Int32 × Nat)}, e_sw sw d x k → (∃ t, (x, t) ∈ sw ∧ k t) ∨ ((∀ q ∈ sw, ¬ q.1 = x) ∧ k d)
  | [], h => Or.inr ⟨fun _ h => (by cases h), h⟩
  | (v, t) :: r, h => by
    unfold e_sw at h
    by_cases hx : x = v
    · rw [if_pos hx] at h
      exact Or.inl ⟨t, by rw [hx]; exact List.mem_cons_self, h⟩
    · rw [if_neg hx] at h
      rcases e_sw_spec h with ⟨t', h1, h2⟩ | ⟨h1, h2⟩
      · exact Or.inl ⟨t', List.mem_cons_of_mem _ h1, h2⟩
      · exact Or.inr ⟨fun q hq => (List.mem_cons.mp hq).elim (fun z => by rw [z]; exact fun w => hx w.symm) (h1 q), h2⟩
theorem e_table_ok {dflt lo hi : Int} {offs : Array Int} {len r1 : Nat} {sw : List (Int32 × Nat)} {x : Int32} (hx : p.tables.exec = Jvm.exec) (hb : c.code = mBy y) (hdg : decode (mBy y) pc = .ok (.tableswitch dflt lo hi offs, len)) (h1 : (pc : Int) + dflt = (r1 : Int)) (h2 : e_swT pc lo hi offs sw = true)
    (kk : e_sw sw r1 x (fun t => W p l e R s m args below meth c H locs cells slots Z (F0 m t ls rest))) : W p l e R s m args below meth c H locs cells slots Z (F0 m pc ls (.int x :: rest)) := by
  unfold e_swT at h2
  rw [Bool.and_eq_true] at h2
  rcases e_sw_spec kk with ⟨t, g1, g2⟩ | ⟨g1, g2⟩
  · have g3 := List.all_eq_true.mp h2.1 _ g1
    simp only [Bool.and_eq_true, decide_eq_true_eq] at g3
    exact lv_tableIn hx hb hdg g3.1.1 g3.1.2 g3.2 (by omega) g2
  · refine lv_tableOut hx hb hdg ?_ h1 g2
    by_cases hlo : x.toInt < lo
    · exact Or.inl hlo
    · by_cases hhi : hi < x.toInt
      · exact Or.inr hhi
      · exfalso
        have g3 := List.all_eq_true.mp h2.2 (x.toInt - lo).toNat (List.mem_range.mpr (by omega))
        obtain ⟨q, g4, g5⟩ := List.any_eq_true.mp g3
        have g6 := of_decide_eq_true g5
        exact g1 q g4 (Int32.toInt_inj.mp (by rw [g6]; omega))
theorem e_osw_out {d : Int} {x : Int} : ∀ {ps : List (Int × Int)}, (∀ a ∈ ps, ¬ a.1 = x) → Op.lookupswitch.offset ps d x = d
  | [], _ => by simp [Op.lookupswitch.offset]
  | (a, o) :: r, h => by
    rw [Op.lookupswitch.offset_cons, if_neg (h _ List.mem_cons_self)]
    exact e_osw_out (fun z hz => h z (List.mem_cons_of_mem _ hz))
theorem e_lookup_ok {dflt : Int} {ps : Array (Int × Int)} {len r1 : Nat} {sw : List (Int32 × Nat)} {x : Int32} (hx : p.tables.exec = Jvm.exec) (hb : c.code = mBy y) (hdg : decode (mBy y) pc = .ok (.lookupswitch dflt ps, len)) (h1 : (pc : Int) + dflt = (r1 : Int)) (h2 : e_swL pc dflt ps sw = true)
    (kk : e_sw sw r1 x (fun t => W p l e R s m args below meth c H locs cells slots Z (F0 m t ls rest))) : W p l e R s m args below meth c H locs cells slots Z (F0 m pc ls (.int x :: rest)) := by
  unfold e_swL at h2
  rw [Bool.and_eq_true, Bool.and_eq_true] at h2
  rcases e_sw_spec kk with ⟨t, g1, g2⟩ | ⟨g1, g2⟩
  · have g3 := List.all_eq_true.mp h2.1.1 _ g1
    simp only [decide_eq_true_eq] at g3
    exact lv_lookup hx hb hdg h2.2 g3 (by omega) g2
  · refine lv_lookup hx hb hdg h2.2 (e_osw_out (d := dflt) fun a ha => ?_) h1 g2
    have g3 := List.all_eq_true.mp h2.1.2 a ha
    obtain ⟨q, g4, g5⟩ := List.any_eq_true.mp g3
    have g6 := of_decide_eq_true g5
    exact fun z => g1 q g4 (Int32.toInt_inj.mp (by rw [g6]; exact z))
end ESOUND
theorem e_run_map {η : Type} {I : e_IT η} {y pc : Nat} {L : List (Option Value)} {st : List Value} {B : Nat × Nat} {h : η} {Q : Option Value → η → Prop} (k : e_RunI I y pc L st B h Q) : e_Run y pc L st B (I.1 h) (fun r σ => ∃ h', σ = I.1 h' ∧ Q r h') := k
theorem e_dropW {n : Nat} : ∀ {st : List Value}, n ≤ st.length → st = st.take n ++ st.drop n := fun {st} _ => (List.take_append_drop n st).symm
set_option maxHeartbeats 8000000 in
theorem e_call_ok {η : Type} {I : e_IT η} {y r1 n x pc : Nat} {i : Instr} {virt nest : Bool} {L : List (Option Value)} {st : List Value} {B : Nat × Nat} {h : η} {Q : Option Value → η → Prop} {K : Nat → List (Option Value) → List Value → Nat × Nat → η → Prop} (ih : ∀ pc L st B h, K pc L st B h → e_RunI I y pc L st B h Q)
    (hk : e_call I r1 (if virt then n + 1 else n) virt pc L st B h K) (hdg : decode (mBy y) pc = .ok (i, 3)) (hok : e_callOk y r1 n = true) (hneed : ∀ w ∈ ([e_link y r1 x nest, .initialized (mNm r1).cls, .code (mNm r1) (mBy r1) (mML r1) (mRet r1)] : List Cond), w ∈ e_WS)
    (hkind : (i = .invokestatic x ∧ virt = false ∧ (Cond.static (mNm r1)) ∈ e_WS) ∨ (i = .invokevirtual x ∧ virt = true ∧ (Cond.instanceMethod (mNm r1)) ∈ e_WS ∧ (Cond.selects (mNm r1).cls (mNm r1) (mNm r1)) ∈ e_WS ∧ mCi r1 < 13 ∧ (e_ct (mCi r1)).1 = (mNm r1).cls) ∨ (i = .invokespecial x ∧ virt = true ∧ (Cond.instanceMethod (mNm r1)) ∈ e_WS ∧ (mNm r1).name = "<init>" ∧ mRet r1 = none)) : e_RunI I y pc L st B h Q := by
  intro p l e R s m args below meth c D b cI cS H0 Z Cx H locs cells slots ls hS hlo hc1 hc2 hL
  obtain ⟨hx, hb, hml, hown, hts, hK, hfr, hlc, hnm, hret⟩ := id Cx
  unfold e_call at hk
  cases hq : (Nat.ble (if virt then n + 1 else n) st.length && (Nat.ble (e_cat (st.drop (if virt then n + 1 else n))) 8 && (Nat.ble (mRm r1).cells B.1 && (Nat.ble (mRm r1).slots B.2 && (!virt || e_isO (I.1 h) (mCi r1) st ((if virt then n + 1 else n) - 1)))))) with
  | false => rw [hq] at hk; exact hk.elim
  | true =>
    rw [hq] at hk
    simp only [Bool.and_eq_true] at hq
    obtain ⟨k1, k2, k3, k4, k5⟩ := hq
    have k1 := Nat.le_of_ble_eq_true k1
    have k2 := Nat.le_of_ble_eq_true k2
    have k3 := Nat.le_of_ble_eq_true k3
    have k4 := Nat.le_of_ble_eq_true k4
    simp only [cond_true] at hk
    have hk : e_CallI I r1 (st.take (if virt then n + 1 else n)).reverse h (fun r h' => K (pc + 3) L (r.toList ++ st.drop (if virt then n + 1 else n)) (B.1 - (mRm r1).cells, B.2 - (mRm r1).slots) h') := by
      cases hz : (Nat.beq (mRm r1).cells 0 && Nat.beq (mRm r1).slots 0) with
      | false => rw [hz] at hk; exact hk
      | true =>
        rw [hz] at hk
        rw [Bool.and_eq_true] at hz
        rw [Nat.eq_of_beq_eq_true hz.1, Nat.eq_of_beq_eq_true hz.2]
        exact hk
    obtain ⟨CB, CN⟩ := e_calls (R := R) (x := x) (n := n) (nest := nest) hts hok (hneed _ (by simp)) (hneed _ (by simp)) (hneed _ (by simp)) hfr hlc
    have hM := hk l D b cI cS H0
    have S : CallFix p m c (mBy y) (mML y) s args e_WS (mNm y).cls := ⟨hx, hb, hml, hown, hts⟩
    have hPc : ∀ U : State, U.heap = H → s.WarmedH U.vm → e_Pc D b cI cS H0 (I.1 h) ((st.take (if virt then n + 1 else n)).reverse) (((st.take (if virt then n + 1 else n)).reverse.map (e_v b)).toArray) U := fun U hU hW => ⟨rfl, by rw [hU]; exact hS, va_K.moved hW.alike hK⟩
    have hsz : ls.size = mML y := by obtain ⟨-, lv, h1, -⟩ := hL; exact h1.1
    have hrestW : ∀ g : JFrame, g.monitorRoom = 0 → 2 * g.monitorRoom + (((st.drop (if virt then n + 1 else n)).map (e_v b)).map fun v => v.category).sum ≤ 8 := fun g hg => by rw [hg, e_cat_sum]; omega
    have hroom : cells + (mRm r1).cells ≤ R.cells ∧ slots + (mRm r1).slots ≤ R.slots := ⟨by omega, by omega⟩
    have fin : ∀ (r : Option Value) (σ' : Sg) (H' : Heap) (locs' : List Loc), (∃ h', σ' = I.1 h' ∧ K (pc + 3) L (r.toList ++ st.drop (if virt then n + 1 else n)) (B.1 - (mRm r1).cells, B.2 - (mRm r1).slots) h') → e_Sim D b cI cS H0 σ' H' → (∀ q ∈ locs', b ≤ q.base) → W p l e R s m args below meth c H' locs' (cells + (mRm r1).cells) (slots + (mRm r1).slots) Z (F0 m (pc + 3) ls ((r.toList ++ st.drop (if virt then n + 1 else n)).map (e_v b))) := by
      intro r σ' H' locs' ⟨h', e1, hK'⟩ hS' hlo'
      subst e1
      exact ih _ _ _ _ _ hK' p l e R s m args below meth c D b cI cS H0 Z Cx H' locs' _ _ ls hS' hlo' (by show cells + (mRm r1).cells + (B.1 - (mRm r1).cells) ≤ R.cells; omega) (by show slots + (mRm r1).slots + (B.2 - (mRm r1).slots) ≤ R.slots; omega) hL
    rcases hkind with ⟨rfl, rfl, hst⟩ | ⟨rfl, rfl, hin, hse, hci, hcn⟩ | ⟨rfl, rfl, hin, hini, hret0⟩
    · simp only [Bool.false_eq_true, if_false] at *
      have hstk : st.map (e_v b) = ((st.take n).reverse.map (e_v b)).reverse ++ (st.drop n).map (e_v b) := by
        rw [← List.map_reverse, List.reverse_reverse, ← List.map_append, List.take_append_drop]
      have hlen : ((st.take n).reverse.map (e_v b)).length = n := by simp; omega
      cases nest with
      | false => exact e_back (va_runS S hM ⟨CB rfl, hts _ hst⟩ ⟨e_blind, hPc⟩ rfl hlen hsz hstk (hrestW _ rfl) hdg hroom) hlo fin
      | true => exact e_back (va_runSN S hM ⟨CN rfl, hts _ hst, trivial⟩ ⟨e_blind, hPc⟩ rfl hlen hsz hstk (hrestW _ rfl) hdg hroom) hlo fin
    · simp only [if_true, Nat.add_sub_cancel, Bool.not_true, Bool.false_or] at *
      obtain ⟨pre, o, rst, z1, z2, z3, z4⟩ := e_isO_spec k5
      have hd : st.drop (n + 1) = rst := by rw [z1, ← z2]; simp
      have ht : (st.take (n + 1)).reverse = .ref o :: pre.reverse := by
        have e0 : pre ++ Value.ref o :: rst = (pre ++ [Value.ref o]) ++ rst := by simp
        rw [z1, ← z2, e0, List.take_left' (by simp)]
        simp
      rw [ht] at hM hPc
      rw [hd] at hM fin hrestW
      have hstk : st.map (e_v b) = (pre.reverse.map (e_v b)).reverse ++ .ref (b + o) :: rst.map (e_v b) := by
        rw [z1]; simp [e_v]
      have hlen : (pre.reverse.map (e_v b)).length = n := by simp [z2]
      have hrec : ∃ cellB : Cell, H[b + o]? = some cellB ∧ cellB.vm.isStatics = false ∧ s.vm.findClass (mNm r1).cls = some cellB.cls := by
        have := va_recv (q0 := 0) hK (va_one (sim_obj hS z3 z4 hci)) (e_cls_at hci) rfl
        rw [hcn] at this
        exact this
      cases nest with
      | false => exact e_back (va_runV (b := b + o) (As := pre.reverse.map (e_v b)) S hM ⟨CB rfl, hts _ hin, hts _ hse⟩ ⟨e_blind, hrec, hPc⟩ rfl hlen hsz hstk (hrestW _ rfl) hdg hroom) hlo fin
      | true => exact e_back (va_runVN (b := b + o) (As := pre.reverse.map (e_v b)) S hM ⟨CN rfl, hts _ hin, hts _ hse⟩ ⟨e_blind, hrec, hPc⟩ rfl hlen hsz hstk (hrestW _ rfl) hdg hroom) hlo fin
    · simp only [if_true, Nat.add_sub_cancel, Bool.not_true, Bool.false_or] at *
      obtain ⟨pre, o, rst, z1, z2, z3, z4⟩ := e_isO_spec k5
      have hd : st.drop (n + 1) = rst := by rw [z1, ← z2]; simp
      have ht : (st.take (n + 1)).reverse = .ref o :: pre.reverse := by
        have e0 : pre ++ Value.ref o :: rst = (pre ++ [Value.ref o]) ++ rst := by simp
        rw [z1, ← z2, e0, List.take_left' (by simp)]
        simp
      rw [ht] at hM hPc
      rw [hd] at hM fin hrestW
      rw [hret0] at CB CN
      have hstk : st.map (e_v b) = (pre.reverse.map (e_v b)).reverse ++ .ref (b + o) :: rst.map (e_v b) := by
        rw [z1]; simp [e_v]
      have hlen : (pre.reverse.map (e_v b)).length = n := by simp [z2]
      cases nest with
      | false => exact e_back (va_runI (b := b + o) (As := pre.reverse.map (e_v b)) S hM ⟨CB rfl, hini, hts _ hin⟩ ⟨e_blind, hPc⟩ rfl hlen hsz hstk (hrestW _ rfl) hdg hroom) hlo fin
      | true => exact e_back (va_runIN (b := b + o) (As := pre.reverse.map (e_v b)) S hM ⟨CN rfl, hini, hts _ hin⟩ ⟨e_blind, hPc⟩ rfl hlen hsz hstk (hrestW _ rfl) hdg hroom) hlo fin
end
section
theorem e_sw_map {x : Int32} {d : Nat} {k k' : Nat → Prop} (hkk : ∀ t, k t → k' t) : ∀ {sw : List (Int32 × Nat)}, e_sw sw d x k → e_sw sw d x k'
  | [], h => hkk _ h
  | (v, t) :: r, h => by
    unfold e_sw at h ⊢
    by_cases hx : x = v
    · rw [if_pos hx] at h ⊢
      exact hkk _ h
    · rw [if_neg hx] at h ⊢
      exact e_sw_map hkk h
theorem e_pure_len {y pc len r1 r2 : Nat} {nest : Bool} {hh : List Nat} {i : Instr} {sw : List (Int32 × Nat)} {L L' : List (Option Value)} {st st' : List Value} (h : e_pure i sw r1 L st = some (L', st')) (hok : e_okB y pc (i, len, r1, r2, nest, hh, sw) = true) : len = e_len i ∧ e_need y i r1 0 false sw = e_need y i r1 r2 nest sw := by
  unfold e_pure at h
  split at h <;> first
    | (cases h; done)
    | (simp only [e_okB, Bool.and_eq_true] at hok; exact ⟨Nat.eq_of_beq_eq_true hok.2, rfl⟩)
set_option maxHeartbeats 16000000 in
theorem e_k_ok {η : Type} {I : e_IT η} (hI : e_IOk I) {y pc len r1 r2 : Nat} {nest : Bool} {hh : List Nat} {i : Instr} {sw : List (Int32 × Nat)} {L : List (Option Value)} {st : List Value} {B : Nat × Nat} {h : η} {Q : Option Value → η → Prop} {K : Nat → List (Option Value) → List Value → Nat × Nat → η → Prop} (hM : OkM y) (ho : e_op y pc = some (i, len, r1, r2, nest, hh, sw)) (ih : ∀ pc L st B h, K pc L st B h → e_RunI I y pc L st B h Q)
    (hk : e_k I y i len r1 r2 sw pc L st B h Q K) : e_RunI I y pc L st B h Q := by
  obtain ⟨hok, hneed⟩ := okm_at hM ho
  obtain ⟨hdg, hsw⟩ := okb_dec hok
  dsimp only at hdg hsw
  unfold e_k at hk
  obtain ⟨i1, i2, i3, i4, i5, i6, i7, i8, i9, i10⟩ := hI
  split at hk
  -- goto
  · simp only [e_okB, Bool.and_eq_true, decide_eq_true_eq] at hok
    have hlen := Nat.eq_of_beq_eq_true hok.2.1
    subst hlen
    intro p l e R s m args below meth c D b cI cS H0 Z Cx H locs cells slots ls hS hlo hc1 hc2 hL
    obtain ⟨hx, hb, hml, hown, hts, hK, hfr, hlc, hnm, hret⟩ := id Cx
    have go : ∀ pc' L' st' ls', K pc' L' st' B h → e_LH b ls' (mML y) L' → W p l e R s m args below meth c H locs cells slots Z (F0 m pc' ls' (st'.map (e_v b))) := fun pc' L' st' ls' hK' hL' => ih _ _ _ _ _ hK' p l e R s m args below meth c D b cI cS H0 Z Cx H locs cells slots ls' hS hlo hc1 hc2 hL'
    exact lv_goto hx hb hdg hok.2.2 (go _ _ _ _ hk hL)
  -- icmp eq
  · simp only [e_okB, Bool.and_eq_true, decide_eq_true_eq] at hok
    have hlen := Nat.eq_of_beq_eq_true hok.2.1
    subst hlen
    split at hk
    · intro p l e R s m args below meth c D b cI cS H0 Z Cx H locs cells slots ls hS hlo hc1 hc2 hL
      obtain ⟨hx, hb, hml, hown, hts, hK, hfr, hlc, hnm, hret⟩ := id Cx
      have go : ∀ pc' L' st' ls', K pc' L' st' B h → e_LH b ls' (mML y) L' → W p l e R s m args below meth c H locs cells slots Z (F0 m pc' ls' (st'.map (e_v b))) := fun pc' L' st' ls' hK' hL' => ih _ _ _ _ _ hK' p l e R s m args below meth c D b cI cS H0 Z Cx H locs cells slots ls' hS hlo hc1 hc2 hL'
      refine lv_icmp_eq hx hb hdg hok.2.2 (fun hc => ?_) (fun hc => ?_)
      · rw [if_pos hc] at hk
        exact go _ _ _ _ hk hL
      · rw [if_neg hc] at hk
        exact go _ _ _ _ hk hL
    · exact hk.elim
  -- icmp ne
  · simp only [e_okB, Bool.and_eq_true, decide_eq_true_eq] at hok
    have hlen := Nat.eq_of_beq_eq_true hok.2.1
    subst hlen
    split at hk
    · intro p l e R s m args below meth c D b cI cS H0 Z Cx H locs cells slots ls hS hlo hc1 hc2 hL
      obtain ⟨hx, hb, hml, hown, hts, hK, hfr, hlc, hnm, hret⟩ := id Cx
      have go : ∀ pc' L' st' ls', K pc' L' st' B h → e_LH b ls' (mML y) L' → W p l e R s m args below meth c H locs cells slots Z (F0 m pc' ls' (st'.map (e_v b))) := fun pc' L' st' ls' hK' hL' => ih _ _ _ _ _ hK' p l e R s m args below meth c D b cI cS H0 Z Cx H locs cells slots ls' hS hlo hc1 hc2 hL'
      refine lv_icmp_ne hx hb hdg hok.2.2 (fun hc => ?_) (fun hc => ?_)
      · rw [if_neg hc] at hk
        exact go _ _ _ _ hk hL
      · rw [if_pos hc] at hk
        exact go _ _ _ _ hk hL
    · exact hk.elim
  -- icmp lt
  · simp only [e_okB, Bool.and_eq_true, decide_eq_true_eq] at hok
    have hlen := Nat.eq_of_beq_eq_true hok.2.1
    subst hlen
    split at hk
    · intro p l e R s m args below meth c D b cI cS H0 Z Cx H locs cells slots ls hS hlo hc1 hc2 hL
      obtain ⟨hx, hb, hml, hown, hts, hK, hfr, hlc, hnm, hret⟩ := id Cx
      have go : ∀ pc' L' st' ls', K pc' L' st' B h → e_LH b ls' (mML y) L' → W p l e R s m args below meth c H locs cells slots Z (F0 m pc' ls' (st'.map (e_v b))) := fun pc' L' st' ls' hK' hL' => ih _ _ _ _ _ hK' p l e R s m args below meth c D b cI cS H0 Z Cx H locs cells slots ls' hS hlo hc1 hc2 hL'
      refine lv_icmp_lt hx hb hdg hok.2.2 (fun hc => ?_) (fun hc => ?_)
      · rw [if_pos hc] at hk
        exact go _ _ _ _ hk hL
      · rw [if_neg hc] at hk
        exact go _ _ _ _ hk hL
    · exact hk.elim
  -- icmp ge
  · simp only [e_okB, Bool.and_eq_true, decide_eq_true_eq] at hok
    have hlen := Nat.eq_of_beq_eq_true hok.2.1
    subst hlen
    split at hk
    · intro p l e R s m args below meth c D b cI cS H0 Z Cx H locs cells slots ls hS hlo hc1 hc2 hL
      obtain ⟨hx, hb, hml, hown, hts, hK, hfr, hlc, hnm, hret⟩ := id Cx
      have go : ∀ pc' L' st' ls', K pc' L' st' B h → e_LH b ls' (mML y) L' → W p l e R s m args below meth c H locs cells slots Z (F0 m pc' ls' (st'.map (e_v b))) := fun pc' L' st' ls' hK' hL' => ih _ _ _ _ _ hK' p l e R s m args below meth c D b cI cS H0 Z Cx H locs cells slots ls' hS hlo hc1 hc2 hL'
      refine lv_icmp_ge hx hb hdg hok.2.2 (fun hc => ?_) (fun hc => ?_)
      · rw [if_pos hc] at hk
        exact go _ _ _ _ hk hL
      · rw [if_neg hc] at hk
        exact go _ _ _ _ hk hL
    · exact hk.elim
  -- icmp gt
  · simp only [e_okB, Bool.and_eq_true, decide_eq_true_eq] at hok
    have hlen := Nat.eq_of_beq_eq_true hok.2.1
    subst hlen
    split at hk
    · intro p l e R s m args below meth c D b cI cS H0 Z Cx H locs cells slots ls hS hlo hc1 hc2 hL
      obtain ⟨hx, hb, hml, hown, hts, hK, hfr, hlc, hnm, hret⟩ := id Cx
      have go : ∀ pc' L' st' ls', K pc' L' st' B h → e_LH b ls' (mML y) L' → W p l e R s m args below meth c H locs cells slots Z (F0 m pc' ls' (st'.map (e_v b))) := fun pc' L' st' ls' hK' hL' => ih _ _ _ _ _ hK' p l e R s m args below meth c D b cI cS H0 Z Cx H locs cells slots ls' hS hlo hc1 hc2 hL'
      refine lv_icmp_gt hx hb hdg hok.2.2 (fun hc => ?_) (fun hc => ?_)
      · rw [if_pos hc] at hk
        exact go _ _ _ _ hk hL
      · rw [if_neg hc] at hk
        exact go _ _ _ _ hk hL
    · exact hk.elim
  -- icmp le
  · simp only [e_okB, Bool.and_eq_true, decide_eq_true_eq] at hok
    have hlen := Nat.eq_of_beq_eq_true hok.2.1
    subst hlen
    split at hk
    · intro p l e R s m args below meth c D b cI cS H0 Z Cx H locs cells slots ls hS hlo hc1 hc2 hL
      obtain ⟨hx, hb, hml, hown, hts, hK, hfr, hlc, hnm, hret⟩ := id Cx
      have go : ∀ pc' L' st' ls', K pc' L' st' B h → e_LH b ls' (mML y) L' → W p l e R s m args below meth c H locs cells slots Z (F0 m pc' ls' (st'.map (e_v b))) := fun pc' L' st' ls' hK' hL' => ih _ _ _ _ _ hK' p l e R s m args below meth c D b cI cS H0 Z Cx H locs cells slots ls' hS hlo hc1 hc2 hL'
      refine lv_icmp_le hx hb hdg hok.2.2 (fun hc => ?_) (fun hc => ?_)
      · rw [if_pos hc] at hk
        exact go _ _ _ _ hk hL
      · rw [if_neg hc] at hk
        exact go _ _ _ _ hk hL
    · exact hk.elim
  -- if eq
  · simp only [e_okB, Bool.and_eq_true, decide_eq_true_eq] at hok
    have hlen := Nat.eq_of_beq_eq_true hok.2.1
    subst hlen
    split at hk
    · intro p l e R s m args below meth c D b cI cS H0 Z Cx H locs cells slots ls hS hlo hc1 hc2 hL
      obtain ⟨hx, hb, hml, hown, hts, hK, hfr, hlc, hnm, hret⟩ := id Cx
      have go : ∀ pc' L' st' ls', K pc' L' st' B h → e_LH b ls' (mML y) L' → W p l e R s m args below meth c H locs cells slots Z (F0 m pc' ls' (st'.map (e_v b))) := fun pc' L' st' ls' hK' hL' => ih _ _ _ _ _ hK' p l e R s m args below meth c D b cI cS H0 Z Cx H locs cells slots ls' hS hlo hc1 hc2 hL'
      refine lv_if_eq hx hb hdg hok.2.2 (fun hc => ?_) (fun hc => ?_)
      · rw [if_pos hc] at hk
        exact go _ _ _ _ hk hL
      · rw [if_neg hc] at hk
        exact go _ _ _ _ hk hL
    · exact hk.elim
  -- if ne
  · simp only [e_okB, Bool.and_eq_true, decide_eq_true_eq] at hok
    have hlen := Nat.eq_of_beq_eq_true hok.2.1
    subst hlen
    split at hk
    · intro p l e R s m args below meth c D b cI cS H0 Z Cx H locs cells slots ls hS hlo hc1 hc2 hL
      obtain ⟨hx, hb, hml, hown, hts, hK, hfr, hlc, hnm, hret⟩ := id Cx
      have go : ∀ pc' L' st' ls', K pc' L' st' B h → e_LH b ls' (mML y) L' → W p l e R s m args below meth c H locs cells slots Z (F0 m pc' ls' (st'.map (e_v b))) := fun pc' L' st' ls' hK' hL' => ih _ _ _ _ _ hK' p l e R s m args below meth c D b cI cS H0 Z Cx H locs cells slots ls' hS hlo hc1 hc2 hL'
      refine lv_if_ne hx hb hdg hok.2.2 (fun hc => ?_) (fun hc => ?_)
      · rw [if_neg hc] at hk
        exact go _ _ _ _ hk hL
      · rw [if_pos hc] at hk
        exact go _ _ _ _ hk hL
    · exact hk.elim
  -- if lt
  · simp only [e_okB, Bool.and_eq_true, decide_eq_true_eq] at hok
    have hlen := Nat.eq_of_beq_eq_true hok.2.1
    subst hlen
    split at hk
    · intro p l e R s m args below meth c D b cI cS H0 Z Cx H locs cells slots ls hS hlo hc1 hc2 hL
      obtain ⟨hx, hb, hml, hown, hts, hK, hfr, hlc, hnm, hret⟩ := id Cx
      have go : ∀ pc' L' st' ls', K pc' L' st' B h → e_LH b ls' (mML y) L' → W p l e R s m args below meth c H locs cells slots Z (F0 m pc' ls' (st'.map (e_v b))) := fun pc' L' st' ls' hK' hL' => ih _ _ _ _ _ hK' p l e R s m args below meth c D b cI cS H0 Z Cx H locs cells slots ls' hS hlo hc1 hc2 hL'
      refine lv_if_lt hx hb hdg hok.2.2 (fun hc => ?_) (fun hc => ?_)
      · rw [if_pos hc] at hk
        exact go _ _ _ _ hk hL
      · rw [if_neg hc] at hk
        exact go _ _ _ _ hk hL
    · exact hk.elim
  -- if ge
  · simp only [e_okB, Bool.and_eq_true, decide_eq_true_eq] at hok
    have hlen := Nat.eq_of_beq_eq_true hok.2.1
    subst hlen
    split at hk
    · intro p l e R s m args below meth c D b cI cS H0 Z Cx H locs cells slots ls hS hlo hc1 hc2 hL
      obtain ⟨hx, hb, hml, hown, hts, hK, hfr, hlc, hnm, hret⟩ := id Cx
      have go : ∀ pc' L' st' ls', K pc' L' st' B h → e_LH b ls' (mML y) L' → W p l e R s m args below meth c H locs cells slots Z (F0 m pc' ls' (st'.map (e_v b))) := fun pc' L' st' ls' hK' hL' => ih _ _ _ _ _ hK' p l e R s m args below meth c D b cI cS H0 Z Cx H locs cells slots ls' hS hlo hc1 hc2 hL'
      refine lv_if_ge hx hb hdg hok.2.2 (fun hc => ?_) (fun hc => ?_)
      · rw [if_pos hc] at hk
        exact go _ _ _ _ hk hL
      · rw [if_neg hc] at hk
        exact go _ _ _ _ hk hL
    · exact hk.elim
  -- if gt
  · simp only [e_okB, Bool.and_eq_true, decide_eq_true_eq] at hok
    have hlen := Nat.eq_of_beq_eq_true hok.2.1
    subst hlen
    split at hk
    · intro p l e R s m args below meth c D b cI cS H0 Z Cx H locs cells slots ls hS hlo hc1 hc2 hL
      obtain ⟨hx, hb, hml, hown, hts, hK, hfr, hlc, hnm, hret⟩ := id Cx
      have go : ∀ pc' L' st' ls', K pc' L' st' B h → e_LH b ls' (mML y) L' → W p l e R s m args below meth c H locs cells slots Z (F0 m pc' ls' (st'.map (e_v b))) := fun pc' L' st' ls' hK' hL' => ih _ _ _ _ _ hK' p l e R s m args below meth c D b cI cS H0 Z Cx H locs cells slots ls' hS hlo hc1 hc2 hL'
      refine lv_if_gt hx hb hdg hok.2.2 (fun hc => ?_) (fun hc => ?_)
      · rw [if_pos hc] at hk
        exact go _ _ _ _ hk hL
      · rw [if_neg hc] at hk
        exact go _ _ _ _ hk hL
    · exact hk.elim
  -- if le
  · simp only [e_okB, Bool.and_eq_true, decide_eq_true_eq] at hok
    have hlen := Nat.eq_of_beq_eq_true hok.2.1
    subst hlen
    split at hk
    · intro p l e R s m args below meth c D b cI cS H0 Z Cx H locs cells slots ls hS hlo hc1 hc2 hL
      obtain ⟨hx, hb, hml, hown, hts, hK, hfr, hlc, hnm, hret⟩ := id Cx
      have go : ∀ pc' L' st' ls', K pc' L' st' B h → e_LH b ls' (mML y) L' → W p l e R s m args below meth c H locs cells slots Z (F0 m pc' ls' (st'.map (e_v b))) := fun pc' L' st' ls' hK' hL' => ih _ _ _ _ _ hK' p l e R s m args below meth c D b cI cS H0 Z Cx H locs cells slots ls' hS hlo hc1 hc2 hL'
      refine lv_if_le hx hb hdg hok.2.2 (fun hc => ?_) (fun hc => ?_)
      · rw [if_pos hc] at hk
        exact go _ _ _ _ hk hL
      · rw [if_neg hc] at hk
        exact go _ _ _ _ hk hL
    · exact hk.elim
  -- ifnull
  · simp only [e_okB, Bool.and_eq_true, decide_eq_true_eq] at hok
    have hlen : len = 3 := Nat.eq_of_beq_eq_true hok.2
    subst hlen
    split at hk
    · intro p l e R s m args below meth c D b cI cS H0 Z Cx H locs cells slots ls hS hlo hc1 hc2 hL
      obtain ⟨hx, hb, hml, hown, hts, hK, hfr, hlc, hnm, hret⟩ := id Cx
      have go : ∀ pc' L' st' ls', K pc' L' st' B h → e_LH b ls' (mML y) L' → W p l e R s m args below meth c H locs cells slots Z (F0 m pc' ls' (st'.map (e_v b))) := fun pc' L' st' ls' hK' hL' => ih _ _ _ _ _ hK' p l e R s m args below meth c D b cI cS H0 Z Cx H locs cells slots ls' hS hlo hc1 hc2 hL'
      exact lv_ifnull hx hb hdg (go _ _ _ _ hk hL)
    · exact hk.elim
  -- tableswitch
  · simp only [e_okB, Bool.and_eq_true, decide_eq_true_eq] at hok
    split at hk
    · intro p l e R s m args below meth c D b cI cS H0 Z Cx H locs cells slots ls hS hlo hc1 hc2 hL
      obtain ⟨hx, hb, hml, hown, hts, hK, hfr, hlc, hnm, hret⟩ := id Cx
      have go : ∀ pc' L' st' ls', K pc' L' st' B h → e_LH b ls' (mML y) L' → W p l e R s m args below meth c H locs cells slots Z (F0 m pc' ls' (st'.map (e_v b))) := fun pc' L' st' ls' hK' hL' => ih _ _ _ _ _ hK' p l e R s m args below meth c D b cI cS H0 Z Cx H locs cells slots ls' hS hlo hc1 hc2 hL'
      exact e_table_ok hx hb hdg hok.2.1 hok.2.2 (e_sw_map (fun t ht => go _ _ _ _ ht hL) hk)
    · exact hk.elim
  -- lookupswitch
  · simp only [e_okB, Bool.and_eq_true, decide_eq_true_eq] at hok
    split at hk
    · intro p l e R s m args below meth c D b cI cS H0 Z Cx H locs cells slots ls hS hlo hc1 hc2 hL
      obtain ⟨hx, hb, hml, hown, hts, hK, hfr, hlc, hnm, hret⟩ := id Cx
      have go : ∀ pc' L' st' ls', K pc' L' st' B h → e_LH b ls' (mML y) L' → W p l e R s m args below meth c H locs cells slots Z (F0 m pc' ls' (st'.map (e_v b))) := fun pc' L' st' ls' hK' hL' => ih _ _ _ _ _ hK' p l e R s m args below meth c D b cI cS H0 Z Cx H locs cells slots ls' hS hlo hc1 hc2 hL'
      exact e_lookup_ok hx hb hdg hok.2.1 hok.2.2 (e_sw_map (fun t ht => go _ _ _ _ ht hL) hk)
    · exact hk.elim
  -- idiv
  · simp only [e_okB, Bool.and_eq_true, decide_eq_true_eq] at hok
    have hlen : len = 1 := Nat.eq_of_beq_eq_true hok.2
    subst hlen
    split at hk
    · intro p l e R s m args below meth c D b cI cS H0 Z Cx H locs cells slots ls hS hlo hc1 hc2 hL
      obtain ⟨hx, hb, hml, hown, hts, hK, hfr, hlc, hnm, hret⟩ := id Cx
      have go : ∀ pc' L' st' ls', K pc' L' st' B h → e_LH b ls' (mML y) L' → W p l e R s m args below meth c H locs cells slots Z (F0 m pc' ls' (st'.map (e_v b))) := fun pc' L' st' ls' hK' hL' => ih _ _ _ _ _ hK' p l e R s m args below meth c D b cI cS H0 Z Cx H locs cells slots ls' hS hlo hc1 hc2 hL'
      exact lv_idiv hx hb hdg hk.1 (go _ _ _ _ hk.2 hL)
    · exact hk.elim
  -- irem
  · simp only [e_okB, Bool.and_eq_true, decide_eq_true_eq] at hok
    have hlen : len = 1 := Nat.eq_of_beq_eq_true hok.2
    subst hlen
    split at hk
    · intro p l e R s m args below meth c D b cI cS H0 Z Cx H locs cells slots ls hS hlo hc1 hc2 hL
      obtain ⟨hx, hb, hml, hown, hts, hK, hfr, hlc, hnm, hret⟩ := id Cx
      have go : ∀ pc' L' st' ls', K pc' L' st' B h → e_LH b ls' (mML y) L' → W p l e R s m args below meth c H locs cells slots Z (F0 m pc' ls' (st'.map (e_v b))) := fun pc' L' st' ls' hK' hL' => ih _ _ _ _ _ hK' p l e R s m args below meth c D b cI cS H0 Z Cx H locs cells slots ls' hS hlo hc1 hc2 hL'
      exact lv_irem hx hb hdg hk.1 (go _ _ _ _ hk.2 hL)
    · exact hk.elim
  -- getfield
  · simp only [e_okB, Bool.and_eq_true, decide_eq_true_eq] at hok
    have hlen := Nat.eq_of_beq_eq_true hok.2.1
    subst hlen
    have hr1 : r1 < 13 := by simpa [Nat.blt_eq] using hok.2.2.1
    have hr2 : r2 < (e_ct r1).2.2.1 := by simpa [Nat.blt_eq] using hok.2.2.2
    split at hk
    · split at hk
      · next hg =>
        intro p l e R s m args below meth c D b cI cS H0 Z Cx H locs cells slots ls hS hlo hc1 hc2 hL
        obtain ⟨hx, hb, hml, hown, hts, hK, hfr, hlc, hnm, hret⟩ := id Cx
        have go : ∀ pc' L' st' ls', K pc' L' st' B h → e_LH b ls' (mML y) L' → W p l e R s m args below meth c H locs cells slots Z (F0 m pc' ls' (st'.map (e_v b))) := fun pc' L' st' ls' hK' hL' => ih _ _ _ _ _ hK' p l e R s m args below meth c D b cI cS H0 Z Cx H locs cells slots ls' hS hlo hc1 hc2 hL'
        exact e_getf_ok (nest := nest) hx hb hown hts hK hS (i1 _ _ _ _ _ hg) hr1 hr2 (hneed _ (by simp [e_need])) hdg (go _ _ _ _ hk hL)
      · exact hk.elim
    · exact hk.elim
  -- putfield
  · simp only [e_okB, Bool.and_eq_true, decide_eq_true_eq] at hok
    have hlen := Nat.eq_of_beq_eq_true hok.2.1
    subst hlen
    have hr1 : r1 < 13 := by simpa [Nat.blt_eq] using hok.2.2.1.1
    have hr2 : r2 < (e_ct r1).2.2.1 := by simpa [Nat.blt_eq] using hok.2.2.1.2
    split at hk
    · split at hk
      · next hg =>
        split at hk
        · next hbo =>
          intro p l e R s m args below meth c D b cI cS H0 Z Cx H locs cells slots ls hS hlo hc1 hc2 hL
          obtain ⟨hx, hb, hml, hown, hts, hK, hfr, hlc, hnm, hret⟩ := id Cx
          have go : ∀ pc' L' st' ls', K pc' L' st' B h → e_LH b ls' (mML y) L' → W p l e R s m args below meth c H locs cells slots Z (F0 m pc' ls' (st'.map (e_v b))) := fun pc' L' st' ls' hK' hL' => ih _ _ _ _ _ hK' p l e R s m args below meth c D b cI cS H0 Z Cx H locs cells slots ls' hS hlo hc1 hc2 hL'
          refine e_putf_ok (nest := nest) hx hb hown hts hK hnm hS (i2 _ _ _ _ _ _ hg) hr1 hr2 (fun _ => hk.1) hok.2.2.2 (hneed _ (by simp [e_need])) hdg hlo (fun H' locs' hS' hlo' => ?_)
          exact ih _ _ _ _ _ hk.2 p l e R s m args below meth c D b cI cS H0 Z Cx H' locs' cells slots ls hS' hlo' hc1 hc2 hL
        · next hbo =>
          intro p l e R s m args below meth c D b cI cS H0 Z Cx H locs cells slots ls hS hlo hc1 hc2 hL
          obtain ⟨hx, hb, hml, hown, hts, hK, hfr, hlc, hnm, hret⟩ := id Cx
          have go : ∀ pc' L' st' ls', K pc' L' st' B h → e_LH b ls' (mML y) L' → W p l e R s m args below meth c H locs cells slots Z (F0 m pc' ls' (st'.map (e_v b))) := fun pc' L' st' ls' hK' hL' => ih _ _ _ _ _ hK' p l e R s m args below meth c D b cI cS H0 Z Cx H locs cells slots ls' hS hlo hc1 hc2 hL'
          refine e_putf_ok (nest := nest) hx hb hown hts hK hnm hS (i2 _ _ _ _ _ _ hg) hr1 hr2 (fun z => (hbo z).elim) hok.2.2.2 (hneed _ (by simp [e_need])) hdg hlo (fun H' locs' hS' hlo' => ?_)
          exact ih _ _ _ _ _ hk p l e R s m args below meth c D b cI cS H0 Z Cx H' locs' cells slots ls hS' hlo' hc1 hc2 hL
      · exact hk.elim
    · exact hk.elim
  -- arraylength
  · simp only [e_okB, Bool.and_eq_true, decide_eq_true_eq] at hok
    have hlen : len = 1 := Nat.eq_of_beq_eq_true hok.2
    subst hlen
    split at hk
    · split at hk
      · next hg =>
        intro p l e R s m args below meth c D b cI cS H0 Z Cx H locs cells slots ls hS hlo hc1 hc2 hL
        obtain ⟨hx, hb, hml, hown, hts, hK, hfr, hlc, hnm, hret⟩ := id Cx
        have go : ∀ pc' L' st' ls', K pc' L' st' B h → e_LH b ls' (mML y) L' → W p l e R s m args below meth c H locs cells slots Z (F0 m pc' ls' (st'.map (e_v b))) := fun pc' L' st' ls' hK' hL' => ih _ _ _ _ _ hK' p l e R s m args below meth c D b cI cS H0 Z Cx H locs cells slots ls' hS hlo hc1 hc2 hL'
        exact e_alen_ok hx hb hK hS (i3 _ _ _ hg) hdg (go _ _ _ _ hk hL)
      · exact hk.elim
    · exact hk.elim
  -- iaload
  · simp only [e_okB, Bool.and_eq_true, decide_eq_true_eq] at hok
    have hlen : len = 1 := Nat.eq_of_beq_eq_true hok.2
    subst hlen
    split at hk
    · split at hk
      · next hg =>
        obtain ⟨j, hj1, hj2, hk⟩ := hk
        intro p l e R s m args below meth c D b cI cS H0 Z Cx H locs cells slots ls hS hlo hc1 hc2 hL
        obtain ⟨hx, hb, hml, hown, hts, hK, hfr, hlc, hnm, hret⟩ := id Cx
        have go : ∀ pc' L' st' ls', K pc' L' st' B h → e_LH b ls' (mML y) L' → W p l e R s m args below meth c H locs cells slots Z (F0 m pc' ls' (st'.map (e_v b))) := fun pc' L' st' ls' hK' hL' => ih _ _ _ _ _ hK' p l e R s m args below meth c D b cI cS H0 Z Cx H locs cells slots ls' hS hlo hc1 hc2 hL'
        refine e_iald_ok hx hb hK hS (i3 _ _ _ hg) hj1 hj2 hdg ?_
        rw [i4]
        exact go _ _ _ _ hk hL
      · exact hk.elim
    · exact hk.elim
  -- iastore
  · simp only [e_okB, Bool.and_eq_true, decide_eq_true_eq] at hok
    have hlen : len = 1 := Nat.eq_of_beq_eq_true hok.2
    subst hlen
    split at hk
    · split at hk
      · next hg =>
        obtain ⟨j, hj1, hj2, hk⟩ := hk
        intro p l e R s m args below meth c D b cI cS H0 Z Cx H locs cells slots ls hS hlo hc1 hc2 hL
        obtain ⟨hx, hb, hml, hown, hts, hK, hfr, hlc, hnm, hret⟩ := id Cx
        have go : ∀ pc' L' st' ls', K pc' L' st' B h → e_LH b ls' (mML y) L' → W p l e R s m args below meth c H locs cells slots Z (F0 m pc' ls' (st'.map (e_v b))) := fun pc' L' st' ls' hK' hL' => ih _ _ _ _ _ hK' p l e R s m args below meth c D b cI cS H0 Z Cx H locs cells slots ls' hS hlo hc1 hc2 hL'
        refine e_iast_ok hx hb hK hS (i3 _ _ _ hg) hj1 hj2 hdg hlo (fun H' locs' hS' hlo' => ?_)
        rw [show (I.1 h).2.2.2 _ = I.2.2.2.2.1 h _ from funext (fun j => i4 h _ j), ← i5] at hS'
        exact ih _ _ _ _ _ hk p l e R s m args below meth c D b cI cS H0 Z Cx H' locs' cells slots ls hS' hlo' hc1 hc2 hL
      · exact hk.elim
    · exact hk.elim
  -- aaload
  · simp only [e_okB, Bool.and_eq_true, decide_eq_true_eq] at hok
    have hlen : len = 1 := Nat.eq_of_beq_eq_true hok.2
    subst hlen
    split at hk
    · obtain ⟨j, hj1, hk⟩ := hk
      split at hk
      · next hg =>
        intro p l e R s m args below meth c D b cI cS H0 Z Cx H locs cells slots ls hS hlo hc1 hc2 hL
        obtain ⟨hx, hb, hml, hown, hts, hK, hfr, hlc, hnm, hret⟩ := id Cx
        have go : ∀ pc' L' st' ls', K pc' L' st' B h → e_LH b ls' (mML y) L' → W p l e R s m args below meth c H locs cells slots Z (F0 m pc' ls' (st'.map (e_v b))) := fun pc' L' st' ls' hK' hL' => ih _ _ _ _ _ hK' p l e R s m args below meth c D b cI cS H0 Z Cx H locs cells slots ls' hS hlo hc1 hc2 hL'
        exact e_aald_ok hx hb hK hS (i6 _ _ _ _ hg) hj1 hdg (go _ _ _ _ hk hL)
      · exact hk.elim
    · exact hk.elim
  -- aastore
  · simp only [e_okB, Bool.and_eq_true, decide_eq_true_eq] at hok
    have hlen : len = 1 := Nat.eq_of_beq_eq_true hok.2
    subst hlen
    split at hk
    · obtain ⟨j, hj1, hk⟩ := hk
      split at hk
      · next hg =>
        intro p l e R s m args below meth c D b cI cS H0 Z Cx H locs cells slots ls hS hlo hc1 hc2 hL
        obtain ⟨hx, hb, hml, hown, hts, hK, hfr, hlc, hnm, hret⟩ := id Cx
        have go : ∀ pc' L' st' ls', K pc' L' st' B h → e_LH b ls' (mML y) L' → W p l e R s m args below meth c H locs cells slots Z (F0 m pc' ls' (st'.map (e_v b))) := fun pc' L' st' ls' hK' hL' => ih _ _ _ _ _ hK' p l e R s m args below meth c D b cI cS H0 Z Cx H locs cells slots ls' hS hlo hc1 hc2 hL'
        refine e_aast_ok hx hb hK hS (i7 _ _ _ _ _ hg) hj1 hdg hlo (fun H' locs' hS' hlo' => ?_)
        exact ih _ _ _ _ _ hk p l e R s m args below meth c D b cI cS H0 Z Cx H' locs' cells slots ls hS' hlo' hc1 hc2 hL
      · exact hk.elim
    · exact hk.elim
  -- new
  · simp only [e_okB, Bool.and_eq_true, decide_eq_true_eq] at hok
    have hlen := Nat.eq_of_beq_eq_true hok.2.1
    subst hlen
    split at hk
    · next o h' hg =>
      cases hq : (Nat.ble 1 B.1 && Nat.ble (e_ct r1).2.2.1 B.2) with
      | false => rw [hq] at hk; exact hk.elim
      | true =>
        rw [hq] at hk
        rw [Bool.and_eq_true] at hq
        have q1 := Nat.le_of_ble_eq_true hq.1
        have q2 := Nat.le_of_ble_eq_true hq.2
        intro p l e R s m args below meth c D b cI cS H0 Z Cx H locs cells slots ls hS hlo hc1 hc2 hL
        obtain ⟨hx, hb, hml, hown, hts, hK, hfr, hlc, hnm, hret⟩ := id Cx
        have go : ∀ pc' L' st' ls', K pc' L' st' B h → e_LH b ls' (mML y) L' → W p l e R s m args below meth c H locs cells slots Z (F0 m pc' ls' (st'.map (e_v b))) := fun pc' L' st' ls' hK' hL' => ih _ _ _ _ _ hK' p l e R s m args below meth c D b cI cS H0 Z Cx H locs cells slots ls' hS hlo hc1 hc2 hL'
        refine e_new_ok hx hb hown hts hK hS (i8 _ _ _ hg) (fun w hw => hneed w hw) (by omega) (by omega) hdg (fun H' hS' => ?_)
        exact ih _ _ _ _ _ hk p l e R s m args below meth c D b cI cS H0 Z Cx H' locs _ _ ls hS' hlo (by show cells + 1 + (B.1 - 1) ≤ _; omega) (by show slots + _ + (B.2 - _) ≤ _; omega) hL
    · exact hk.elim
  -- newarray
  · simp only [e_okB, Bool.and_eq_true, decide_eq_true_eq] at hok
    have hlen : len = 2 := Nat.eq_of_beq_eq_true hok.2
    subst hlen
    split at hk
    · obtain ⟨n, hj1, hk⟩ := hk
      split at hk
      · next o h' hg =>
        cases hq : (Nat.ble 1 B.1 && (Nat.ble n B.2 && Nat.blt n 100000)) with
        | false => rw [hq] at hk; exact hk.elim
        | true =>
          rw [hq] at hk
          rw [Bool.and_eq_true, Bool.and_eq_true] at hq
          have q1 := Nat.le_of_ble_eq_true hq.1
          have q2 := Nat.le_of_ble_eq_true hq.2.1
          have q3 : n < 100000 := by simpa [Nat.blt_eq] using hq.2.2
          intro p l e R s m args below meth c D b cI cS H0 Z Cx H locs cells slots ls hS hlo hc1 hc2 hL
          obtain ⟨hx, hb, hml, hown, hts, hK, hfr, hlc, hnm, hret⟩ := id Cx
          have go : ∀ pc' L' st' ls', K pc' L' st' B h → e_LH b ls' (mML y) L' → W p l e R s m args below meth c H locs cells slots Z (F0 m pc' ls' (st'.map (e_v b))) := fun pc' L' st' ls' hK' hL' => ih _ _ _ _ _ hK' p l e R s m args below meth c D b cI cS H0 Z Cx H locs cells slots ls' hS hlo hc1 hc2 hL'
          refine e_newI_ok hx hb hts hK hS (i9 _ _ _ hg) hj1 q3 (hneed _ (by simp [e_need])) (by omega) (by omega) hdg (fun H' hS' => ?_)
          exact ih _ _ _ _ _ hk p l e R s m args below meth c D b cI cS H0 Z Cx H' locs _ _ ls hS' hlo (by show cells + 1 + (B.1 - 1) ≤ _; omega) (by show slots + _ + (B.2 - _) ≤ _; omega) hL
      · exact hk.elim
    · exact hk.elim
  -- anewarray
  · simp only [e_okB, Bool.and_eq_true, decide_eq_true_eq] at hok
    have hlen : len = 3 := Nat.eq_of_beq_eq_true hok.2
    subst hlen
    split at hk
    · obtain ⟨n, hj1, hk⟩ := hk
      split at hk
      · next o h' hg =>
        cases hq : (Nat.ble 1 B.1 && (Nat.ble n B.2 && Nat.blt n 100000)) with
        | false => rw [hq] at hk; exact hk.elim
        | true =>
          rw [hq] at hk
          rw [Bool.and_eq_true, Bool.and_eq_true] at hq
          have q1 := Nat.le_of_ble_eq_true hq.1
          have q2 := Nat.le_of_ble_eq_true hq.2.1
          have q3 : n < 100000 := by simpa [Nat.blt_eq] using hq.2.2
          intro p l e R s m args below meth c D b cI cS H0 Z Cx H locs cells slots ls hS hlo hc1 hc2 hL
          obtain ⟨hx, hb, hml, hown, hts, hK, hfr, hlc, hnm, hret⟩ := id Cx
          have go : ∀ pc' L' st' ls', K pc' L' st' B h → e_LH b ls' (mML y) L' → W p l e R s m args below meth c H locs cells slots Z (F0 m pc' ls' (st'.map (e_v b))) := fun pc' L' st' ls' hK' hL' => ih _ _ _ _ _ hK' p l e R s m args below meth c D b cI cS H0 Z Cx H locs cells slots ls' hS hlo hc1 hc2 hL'
          refine e_newR_ok hx hb hown hts hK hS (i10 _ _ _ hg) hj1 q3 (fun w hw => hneed w hw) (by omega) (by omega) hdg (fun H' hS' => ?_)
          exact ih _ _ _ _ _ hk p l e R s m args below meth c D b cI cS H0 Z Cx H' locs _ _ ls hS' hlo (by show cells + 1 + (B.1 - 1) ≤ _; omega) (by show slots + _ + (B.2 - _) ≤ _; omega) hL
      · exact hk.elim
    · exact hk.elim
  -- ireturn
  · simp only [e_okB, Bool.and_eq_true, decide_eq_true_eq] at hok
    have hlen : len = 1 := Nat.eq_of_beq_eq_true hok.2
    subst hlen
    split at hk
    · split at hk
      · next hm =>
        intro p l e R s m args below meth c D b cI cS H0 Z Cx H locs cells slots ls hS hlo hc1 hc2 hL
        obtain ⟨hx, hb, hml, hown, hts, hK, hfr, hlc, hnm, hret⟩ := id Cx
        have go : ∀ pc' L' st' ls', K pc' L' st' B h → e_LH b ls' (mML y) L' → W p l e R s m args below meth c H locs cells slots Z (F0 m pc' ls' (st'.map (e_v b))) := fun pc' L' st' ls' hK' hL' => ih _ _ _ _ _ hK' p l e R s m args below meth c D b cI cS H0 Z Cx H locs cells slots ls' hS hlo hc1 hc2 hL'
        exact hret (some (.int _)) (I.1 h) H locs cells slots pc ls ⟨h, rfl, hk⟩ hS hlo (by omega) (by omega) hdg (by rw [hm]; trivial)
      · next hm =>
        intro p l e R s m args below meth c D b cI cS H0 Z Cx H locs cells slots ls hS hlo hc1 hc2 hL
        obtain ⟨hx, hb, hml, hown, hts, hK, hfr, hlc, hnm, hret⟩ := id Cx
        have go : ∀ pc' L' st' ls', K pc' L' st' B h → e_LH b ls' (mML y) L' → W p l e R s m args below meth c H locs cells slots Z (F0 m pc' ls' (st'.map (e_v b))) := fun pc' L' st' ls' hK' hL' => ih _ _ _ _ _ hK' p l e R s m args below meth c D b cI cS H0 Z Cx H locs cells slots ls' hS hlo hc1 hc2 hL'
        exact hret (some (.int _)) (I.1 h) H locs cells slots pc ls ⟨h, rfl, hk.2⟩ hS hlo (by omega) (by omega) hdg (by rw [hm]; exact hk.1)
      · exact hk.elim
    · exact hk.elim
  -- lreturn
  · simp only [e_okB, Bool.and_eq_true, decide_eq_true_eq] at hok
    have hlen : len = 1 := Nat.eq_of_beq_eq_true hok.2
    subst hlen
    split at hk
    · split at hk
      · next hm =>
        intro p l e R s m args below meth c D b cI cS H0 Z Cx H locs cells slots ls hS hlo hc1 hc2 hL
        obtain ⟨hx, hb, hml, hown, hts, hK, hfr, hlc, hnm, hret⟩ := id Cx
        have go : ∀ pc' L' st' ls', K pc' L' st' B h → e_LH b ls' (mML y) L' → W p l e R s m args below meth c H locs cells slots Z (F0 m pc' ls' (st'.map (e_v b))) := fun pc' L' st' ls' hK' hL' => ih _ _ _ _ _ hK' p l e R s m args below meth c D b cI cS H0 Z Cx H locs cells slots ls' hS hlo hc1 hc2 hL'
        exact hret (some (.long _)) (I.1 h) H locs cells slots pc ls ⟨h, rfl, hk⟩ hS hlo (by omega) (by omega) hdg (by rw [hm]; trivial)
      · exact hk.elim
    · exact hk.elim
  -- areturn
  · simp only [e_okB, Bool.and_eq_true, decide_eq_true_eq] at hok
    have hlen : len = 1 := Nat.eq_of_beq_eq_true hok.2
    subst hlen
    split at hk
    · split at hk
      · next hm =>
        intro p l e R s m args below meth c D b cI cS H0 Z Cx H locs cells slots ls hS hlo hc1 hc2 hL
        obtain ⟨hx, hb, hml, hown, hts, hK, hfr, hlc, hnm, hret⟩ := id Cx
        have go : ∀ pc' L' st' ls', K pc' L' st' B h → e_LH b ls' (mML y) L' → W p l e R s m args below meth c H locs cells slots Z (F0 m pc' ls' (st'.map (e_v b))) := fun pc' L' st' ls' hK' hL' => ih _ _ _ _ _ hK' p l e R s m args below meth c D b cI cS H0 Z Cx H locs cells slots ls' hS hlo hc1 hc2 hL'
        exact hret (some (.ref _)) (I.1 h) H locs cells slots pc ls ⟨h, rfl, hk⟩ hS hlo (by omega) (by omega) hdg (by rw [hm]; trivial)
      · exact hk.elim
    · exact hk.elim
  -- return
  · simp only [e_okB, Bool.and_eq_true, decide_eq_true_eq] at hok
    have hlen : len = 1 := Nat.eq_of_beq_eq_true hok.2
    subst hlen
    split at hk
    · split at hk
      · next hm =>
        intro p l e R s m args below meth c D b cI cS H0 Z Cx H locs cells slots ls hS hlo hc1 hc2 hL
        obtain ⟨hx, hb, hml, hown, hts, hK, hfr, hlc, hnm, hret⟩ := id Cx
        have go : ∀ pc' L' st' ls', K pc' L' st' B h → e_LH b ls' (mML y) L' → W p l e R s m args below meth c H locs cells slots Z (F0 m pc' ls' (st'.map (e_v b))) := fun pc' L' st' ls' hK' hL' => ih _ _ _ _ _ hK' p l e R s m args below meth c D b cI cS H0 Z Cx H locs cells slots ls' hS hlo hc1 hc2 hL'
        exact hret none (I.1 h) H locs cells slots pc ls ⟨h, rfl, hk⟩ hS hlo (by omega) (by omega) hdg (by rw [hm]; trivial)
      · exact hk.elim
    · exact hk.elim
  -- invokestatic
  · simp only [e_okB, Bool.and_eq_true, decide_eq_true_eq] at hok
    have hlen := Nat.eq_of_beq_eq_true hok.2.1
    subst hlen
    cases hq : Nat.beq r1 1001 with
    | true =>
      rw [hq] at hk hok
      simp only [cond_true, Bool.and_eq_true] at hk hok
      have hfr1 := Nat.le_of_ble_eq_true hok.2.2.1.1
      have hlc1 := Nat.le_of_ble_eq_true hok.2.2.1.2
      split at hk
      · split at hk
        · next g1 g0 =>
          obtain ⟨j, j1, j2, j3, j4, j5, -, j6, hk⟩ := hk
          intro p l e R s m args below meth c D b cI cS H0 Z Cx H locs cells slots ls hS hlo hc1 hc2 hL
          obtain ⟨hx, hb, hml, hown, hts, hK, hfr, hlc, hnm, hret⟩ := id Cx
          have go : ∀ pc' L' st' ls', K pc' L' st' B h → e_LH b ls' (mML y) L' → W p l e R s m args below meth c H locs cells slots Z (F0 m pc' ls' (st'.map (e_v b))) := fun pc' L' st' ls' hK' hL' => ih _ _ _ _ _ hK' p l e R s m args below meth c D b cI cS H0 Z Cx H locs cells slots ls' hS hlo hc1 hc2 hL'
          have hsz : ls.size = mML y := by obtain ⟨-, lv, z1, -⟩ := hL; exact z1.1
          refine e_copy_ok hx hb (hml.trans hsz.symm) hown hts hK hS (i3 _ _ _ g1) (i3 _ _ _ g0) j1 j2 j3 j4 j5 (fun w hw => hneed w (by simp only [e_need, hq, cond_true]; exact hw)) (by omega) (by have := e_cat_sum (b := b) (by assumption : List Value); rw [e_cat_sum]; omega) hdg hlo (fun H' locs' hS' hlo' => ?_)
          rw [show (I.1 h).2.2.2 _ = I.2.2.2.2.1 h _ from funext (fun j => i4 h _ j), show (I.1 h).2.2.2 _ = I.2.2.2.2.1 h _ from funext (fun j => i4 h _ j), ← i5] at hS'
          exact ih _ _ _ _ _ hk p l e R s m args below meth c D b cI cS H0 Z Cx H' locs' cells slots ls hS' hlo' hc1 hc2 hL
        · exact hk.elim
      · exact hk.elim
    | false =>
      rw [hq] at hk hok
      simp only [cond_false] at hk hok
      have hn : ∀ w ∈ e_need y (.invokestatic _) r1 r2 nest sw, w ∈ e_WS := hneed
      simp only [e_need, hq, cond_false] at hn
      exact e_call_ok (virt := false) (n := r2) (nest := nest) ih hk hdg hok.2.2 (fun w hw => hn w (by simp only [List.mem_cons, List.not_mem_nil, or_false] at hw ⊢; rcases hw with h | h | h <;> simp [h])) (Or.inl ⟨rfl, rfl, hn _ (by simp)⟩)
  -- invokevirtual
  · simp only [e_okB, Bool.and_eq_true, decide_eq_true_eq] at hok
    have hlen := Nat.eq_of_beq_eq_true hok.2.1
    subst hlen
    have hn : ∀ w ∈ e_need y (.invokevirtual _) r1 r2 nest sw, w ∈ e_WS := hneed
    simp only [e_need] at hn
    have hci : mCi r1 < 13 := by simpa [Nat.blt_eq] using hok.2.2.1.2
    exact e_call_ok (virt := true) (n := r2) (nest := nest) ih hk hdg hok.2.2.1.1 (fun w hw => hn w (by simp only [List.mem_cons, List.not_mem_nil, or_false] at hw ⊢; rcases hw with h | h | h <;> simp [h])) (Or.inr (Or.inl ⟨rfl, rfl, hn _ (by simp), hn _ (by simp), hci, hok.2.2.2⟩))
  -- invokespecial
  · simp only [e_okB, Bool.and_eq_true, decide_eq_true_eq] at hok
    have hlen := Nat.eq_of_beq_eq_true hok.2.1
    subst hlen
    cases hq : Nat.beq r1 1000 with
    | true =>
      rw [hq] at hk hok
      simp only [cond_true, Bool.and_eq_true] at hk hok
      have hfr1 := Nat.le_of_ble_eq_true hok.2.2.1.1
      have hlc1 := Nat.le_of_ble_eq_true hok.2.2.1.2
      split at hk
      · next st' =>
        cases hq2 : Nat.ble (e_cat st') 8 with
        | false => rw [hq2] at hk; exact hk.elim
        | true =>
          rw [hq2] at hk
          have q2 := Nat.le_of_ble_eq_true hq2
          have hn : ∀ w ∈ e_need y (.invokespecial _) r1 r2 nest sw, w ∈ e_WS := hneed
          simp only [e_need, hq, cond_true] at hn
          intro p l e R s m args below meth c D b cI cS H0 Z Cx H locs cells slots ls hS hlo hc1 hc2 hL
          obtain ⟨hx, hb, hml, hown, hts, hK, hfr, hlc, hnm, hret⟩ := id Cx
          have go : ∀ pc' L' st' ls', K pc' L' st' B h → e_LH b ls' (mML y) L' → W p l e R s m args below meth c H locs cells slots Z (F0 m pc' ls' (st'.map (e_v b))) := fun pc' L' st' ls' hK' hL' => ih _ _ _ _ _ hK' p l e R s m args below meth c D b cI cS H0 Z Cx H locs cells slots ls' hS hlo hc1 hc2 hL'
          have hsz : ls.size = mML y := by obtain ⟨-, lv, z1, -⟩ := hL; exact z1.1
          exact W.objInit hx hb hown (hts _ (hn _ (by simp))) (hts _ (hn _ (by simp))) (hts _ (hn _ (by simp))) rfl (hsz.trans hml.symm) rfl hdg (by omega) (by show 2 * 0 + _ + 12 ≤ _; rw [e_cat_sum]; omega) (go _ _ _ _ hk hL)
      · exact hk.elim
    | false =>
      rw [hq] at hk hok
      simp only [cond_false, Bool.and_eq_true, decide_eq_true_eq] at hk hok
      have hn : ∀ w ∈ e_need y (.invokespecial _) r1 r2 nest sw, w ∈ e_WS := hneed
      simp only [e_need, hq, cond_false] at hn
      exact e_call_ok (virt := true) (n := r2) (nest := nest) ih hk hdg hok.2.2.1.1 (fun w hw => hn w (by simp only [List.mem_cons, List.not_mem_nil, or_false] at hw ⊢; rcases hw with h | h | h <;> simp [h])) (Or.inr (Or.inr ⟨rfl, rfl, hn _ (by simp), hok.2.2.1.2, hok.2.2.2⟩))
  -- pure
  · split at hk
    · next L' st' hp =>
      have hk : K (pc + len) L' st' B h := by
        cases hz : e_isSt i with
        | true => rw [hz, cond_true, e_force_eq] at hk; exact hk
        | false => rw [hz] at hk; exact hk
      obtain ⟨q1, q2⟩ := e_pure_len hp hok
      subst q1
      intro p l e R s m args below meth c D b cI cS H0 Z Cx H locs cells slots ls hS hlo hc1 hc2 hL
      obtain ⟨hx, hb, hml, hown, hts, hK, hfr, hlc, hnm, hret⟩ := id Cx
      have go : ∀ pc' L' st' ls', K pc' L' st' B h → e_LH b ls' (mML y) L' → W p l e R s m args below meth c H locs cells slots Z (F0 m pc' ls' (st'.map (e_v b))) := fun pc' L' st' ls' hK' hL' => ih _ _ _ _ _ hK' p l e R s m args below meth c D b cI cS H0 Z Cx H locs cells slots ls' hS hlo hc1 hc2 hL'
      exact e_pure_ok hx hb hown hsw (fun w hw => hts w (hneed w (by rw [← q2]; exact hw))) hdg hL hp (fun ls' hL' => go _ _ _ _ hk hL')
    · exact hk.elim
theorem e_wp_ok {η : Type} {I : e_IT η} (hI : e_IOk I) {y : Nat} (hM : OkM y) {Q : Option Value → η → Prop} : ∀ (n pc : Nat) (L : List (Option Value)) (st : List Value) (B : Nat × Nat) (h : η), e_wp I y Q n pc L st B h → e_RunI I y pc L st B h Q
  | 0, _, _, _, _, _, k => k
  | n + 1, pc, L, st, B, h, k => by
    unfold e_wp at k
    split at k
    · next i len r1 r2 nest hh sw ho => exact e_k_ok hI hM ho (fun pc L st B h hk => e_wp_ok hI hM n pc L st B h hk) k
    · exact k.elim
end
section
set_option maxHeartbeats 4000000 in
/-- a method's contract, out of its weakest precondition -/
theorem e_call_of {η : Type} {I : e_IT η} (hI : e_IOk I) {y n : Nat} (hM : OkM y) (hy : plainName (mNm y).cls = true) {as : List Value} {h : η} {Q : Option Value → η → Prop} (hlen : Nat.ble (e_args as).length (mML y) = true) (hwp : e_wp I y Q n 0 (e_L0 as (mML y)) [] ((mRm y).cells, (mRm y).slots) h) : e_CallI I y as h Q := by
  intro l D b cI cS H0
  refine Met.ofW (cc := mBy y) (maxL := mML y) (ret := mRet y) hy rfl ?_
  intro p e s m args below meth c s₁ B hml hv
  obtain ⟨rfl, hS, hK⟩ := hv
  have hx := B.exec
  have hb := B.bytes
  have hr := B.returns
  have hlocks := B.notSynchronized
  have hts := atoms_spec (ws := mWs y) B.pre
  have hret : e_Ret p l e (mRm y) s m (as.map (e_v b)).toArray below meth c D b cI cS H0 (MQ below (e_Qc D b cI cS H0 (fun r σ => ∃ h', σ = I.1 h' ∧ Q r h')) (as.map (e_v b)).toArray s (mRm y).cells (mRm y).slots (fun q => b ≤ q)) y (fun r σ => ∃ h', σ = I.1 h' ∧ Q r h') := by
    intro r σ H locs cells slots pc ls hQ hS' hlo hc hs hdg hok
    refine W.widen hc hs ?_
    revert hok
    cases r with
    | none =>
      cases hm : mRet y with
      | none => intro _; exact W.vret hx hb (hr.trans hm) (fun t ht hW => ⟨none, σ, rfl, hQ, by rw [ht]; exact hS'⟩) hlo hdg
      | some t => intro z; cases t <;> exact z.elim
    | some v =>
      cases hm : mRet y with
      | none => intro z; exact z.elim
      | some t =>
        intro z
        cases t <;> cases v <;> first
          | exact z.elim
          | exact W.iret hx hb (hr.trans hm) (fun t ht hW => ⟨some _, σ, rfl, hQ, by rw [ht]; exact hS'⟩) hlo hdg
          | exact W.lret hx hb (hr.trans hm) (fun t ht hW => ⟨some _, σ, rfl, hQ, by rw [ht]; exact hS'⟩) hlo hdg
          | exact W.zret hx hb (hr.trans hm) (by rcases z with rfl | rfl <;> rfl) (fun t ht hW => ⟨some _, σ, rfl, hQ, by rw [ht]; exact hS'⟩) hlo hdg
          | exact W.aret hx hb (hr.trans hm) (Or.inl ⟨_, rfl⟩) (Or.inr ⟨_, rfl⟩) (fun t ht hW => ⟨some _, σ, rfl, hQ, by rw [ht]; exact hS'⟩) hlo hdg
  rw [lg_entry_eq]
  exact e_wp_ok hI hM n 0 _ [] _ h hwp p l e (mRm y) s m _ below meth c D b cI cS H0 _ ⟨hx, hb, hml, findClass_of_methodNamed B.named, fun w hw => hts w (List.mem_cons_of_mem _ hw), hK, Nat.le_refl _, Nat.le_refl _, (name_of_methodNamed B.named B.method).1, hret⟩ s.heap [] 0 0 _ hS (fun q hq => (by cases hq)) (by simp) (by simp) (e_LH_entry b (mML y) as (Nat.le_of_ble_eq_true hlen))
end
section
/-! the face of the objects once they are made: ints alone change -/
abbrev St : Type := (Nat → Nat → Int32) × (Nat → Nat → Int32)
def FF (F : Nat → Nat → Int32) : Nat → Nat → Int32 := fun o k => bif Nat.beq (e_SH o).1 0 && Nat.beq k 1 then e_WD o else F o k
def e_emb (h : St) : Sg := ((e_NN, e_SH), e_GG, FF h.1, h.2)
def s_get (h : St) (o c k : Nat) : Option Value := bif Nat.blt o e_NN && Nat.beq (e_SH o).1 c then some (bif e_isI (e_fty c k) then (bif Nat.beq c 0 && Nat.beq k 1 then .int (e_WD o) else .int (h.1 o k)) else va_rf (e_GG o k)) else none
def s_put (h : St) (o c k : Nat) (v : Value) : Option St := bif Nat.blt o e_NN && Nat.beq (e_SH o).1 c && (!(Nat.beq c 0) && e_isI (e_fty c k)) then (match v with
  | .int x => some (u2 h.1 o k x, h.2)
  | _ => none) else none
def s_len (_ : St) (a : Nat) : Option Nat := bif Nat.blt a e_NN && (Nat.beq (e_SH a).1 100 && Nat.blt (e_SH a).2 2147483648) then some (e_SH a).2 else none
def s_rget (_ : St) (a j : Nat) : Option Value := bif Nat.blt a e_NN && (Nat.beq (e_SH a).1 101 && (Nat.blt j (e_SH a).2 && Nat.blt (e_SH a).2 2147483648)) then some (va_rf (e_GG a j)) else none
def IS : e_IT St := (e_emb, s_get, s_put, s_len, fun h => h.2, fun h a f => (h.1, u1 h.2 a f), s_rget, fun _ _ _ _ => none, fun _ _ => none, fun _ _ => none, fun _ _ => none)
theorem IS_ok : e_IOk IS := by
  refine ⟨?_, ?_, fun h a n z => z, fun _ _ _ => rfl, fun _ _ _ => rfl, fun h a j v z => z, fun h a j v h' z => (by cases z), fun h c r z => (by cases z), fun h c r z => (by cases z), fun h c r z => (by cases z)⟩
  · intro h o c k v z
    change s_get h o c k = some v at z
    show g_get (e_emb h) o c k = some v
    unfold s_get at z
    unfold g_get e_emb FF
    dsimp only
    cases hq : (Nat.blt o e_NN && Nat.beq (e_SH o).1 c) with
    | false => rw [hq] at z; cases z
    | true =>
      rw [hq] at z
      rw [Bool.and_eq_true] at hq
      have hc := Nat.eq_of_beq_eq_true hq.2
      rw [← z, cond_true, cond_true, hc]
      cases e_isI (e_fty c k) with
      | false => rfl
      | true =>
        simp only [cond_true]
        cases (Nat.beq c 0 && Nat.beq k 1) <;> rfl
  · intro h o c k v h' z
    change s_put h o c k v = some h' at z
    show g_put (e_emb h) o c k v = some (e_emb h')
    unfold s_put at z
    cases hq : (Nat.blt o e_NN && Nat.beq (e_SH o).1 c && (!(Nat.beq c 0) && e_isI (e_fty c k))) with
    | false => rw [hq] at z; cases z
    | true =>
      rw [hq] at z
      simp only [cond_true] at z
      simp only [Bool.and_eq_true] at hq
      obtain ⟨⟨qa, qb⟩, q2, q3⟩ := hq
      have q1 : (Nat.blt o e_NN && Nat.beq (e_SH o).1 c) = true := by rw [Bool.and_eq_true]; exact ⟨qa, qb⟩
      have hc := Nat.eq_of_beq_eq_true qb
      split at z
      · next x =>
        cases z
        unfold g_put e_emb
        dsimp only
        rw [q1, q3]
        simp only [cond_true]
        congr 4
        funext a j
        unfold FF u2 u1
        by_cases ha : a = o
        · subst ha
          rw [if_pos rfl, hc]
          have : Nat.beq c 0 = false := by simpa using q2
          rw [this]
          simp
          rw [hc, this]
          rfl
        · rw [if_neg ha]
          simp [ha]
      · cases z
abbrev SC (y : Nat) (as : List Value) (h : St) (Q : Option Value → St → Prop) : Prop := e_CallI IS y as h Q
abbrev SR (y pc : Nat) (L : List (Option Value)) (st : List Value) (h : St) (Q : Option Value → St → Prop) : Prop := e_RunI IS y pc L st (0, 0) h Q
theorem w_if {c : Prop} [Decidable c] {A B : Prop} (f : c → A) (g : ¬ c → B) : if c then A else B := by
  by_cases h : c
  · rw [if_pos h]; exact f h
  · rw [if_neg h]; exact g h
theorem w_t {c : Prop} [Decidable c] {A B : Prop} (h : c) (f : A) : if c then A else B := by rw [if_pos h]; exact f
theorem w_f {c : Prop} [Decidable c] {A B : Prop} (h : ¬ c) (f : B) : if c then A else B := by rw [if_neg h]; exact f
/-! the same, with places at which to stop -/
def e_in : List Nat → Nat → Bool
  | [], _ => false
  | a :: r, x => bif Nat.beq a x then true else e_in r x
def e_find2 : List (Nat × XO) → Nat → Option (Nat × XO)
  | [], _ => none
  | (q, o) :: r, pc => bif Nat.beq q pc then some (q, o) else e_find2 r pc
theorem e_find2_ok {pc q : Nat} {o : XO} : ∀ {l : List (Nat × XO)}, e_find2 l pc = some (q, o) → q = pc ∧ e_find l pc = some o
  | [], h => by cases h
  | (q', o') :: r, h => by
    unfold e_find2 at h
    unfold e_find
    cases hq : Nat.beq q' pc with
    | true =>
      rw [hq] at h
      cases h
      exact ⟨Nat.eq_of_beq_eq_true hq, rfl⟩
    | false =>
      rw [hq] at h
      exact e_find2_ok h
def e_wq {η : Type} (I : e_IT η) (y : Nat) (stop : List Nat) (Q : Option Value → η → Prop) : Nat → Nat → List (Option Value) → List Value → Nat × Nat → η → Prop
  | 0, pc, L, st, B, h => e_RunI I y pc L st B h Q
  | n + 1, pc, L, st, B, h => bif e_in stop pc then e_RunI I y pc L st B h Q else match e_find2 (mOps y) pc with
    | some (q, i, len, r1, r2, _, _, sw) => e_k I y i len r1 r2 sw q L st B h Q (e_wq I y stop Q n)
    | none => False
theorem e_wq_ok {η : Type} {I : e_IT η} (hI : e_IOk I) {y : Nat} {stop : List Nat} (hM : OkM y) {Q : Option Value → η → Prop} : ∀ (n pc : Nat) (L : List (Option Value)) (st : List Value) (B : Nat × Nat) (h : η), e_wq I y stop Q n pc L st B h → e_RunI I y pc L st B h Q
  | 0, _, _, _, _, _, k => k
  | n + 1, pc, L, st, B, h, k => by
    unfold e_wq at k
    cases hs : e_in stop pc with
    | true => rw [hs] at k; exact k
    | false =>
      rw [hs] at k
      simp only [cond_false] at k
      split at k
      · next q i len r1 r2 nest hh sw ho =>
        obtain ⟨rfl, ho⟩ := e_find2_ok ho
        exact e_k_ok hI hM ho (fun pc L st B h hk => e_wq_ok hI hM n pc L st B h hk) k
      · exact k.elim
/-- one step, then on to the next stop -/
def e_wr {η : Type} (I : e_IT η) (y : Nat) (stop : List Nat) (Q : Option Value → η → Prop) (n pc : Nat) (L : List (Option Value)) (st : List Value) (B : Nat × Nat) (h : η) : Prop := match e_op y pc with
  | some (i, len, r1, r2, _, _, sw) => e_k I y i len r1 r2 sw pc L st B h Q (e_wq I y stop Q n)
  | none => False
theorem w_loop {η : Type} {I : e_IT η} (hI : e_IOk I) {y : Nat} (stop : List Nat) (hM : OkM y) {Q : Option Value → η → Prop} {pc : Nat} {L : List (Option Value)} {st : List Value} {B : Nat × Nat} {h : η} (k : e_wr I y stop Q 400 pc L st B h) : e_RunI I y pc L st B h Q := by
  unfold e_wr at k
  split at k
  · next i len r1 r2 nest hh sw ho => exact e_k_ok hI hM ho (fun pc L st B h hk => e_wq_ok hI hM 400 pc L st B h hk) k
  · exact k.elim
theorem w_call {η : Type} {I : e_IT η} (hI : e_IOk I) {y : Nat} (stop : List Nat) (hM : OkM y) (hy : plainName (mNm y).cls = true) {as : List Value} {h : η} {Q : Option Value → η → Prop} (hlen : Nat.ble (e_args as).length (mML y) = true) (hwp : e_wq I y stop Q 400 0 (e_L0 as (mML y)) [] ((mRm y).cells, (mRm y).slots) h) : e_CallI I y as h Q :=
  e_call_of hI hM (n := 0) hy hlen (e_wq_ok hI hM 400 0 _ [] _ h hwp)
/-! ints by whole numbers -/
def iI (z : Int) : Int32 := Int32.ofInt z
abbrev rg (z : Int) : Prop := -2147483648 ≤ z ∧ z < 2147483648
theorem iI_add (a b : Int) : iI a + iI b = iI (a + b) := (Int32.ofInt_add a b).symm
theorem iI_sub (a b : Int) : iI a - iI b = iI (a - b) := (Int32.ofInt_sub a b).symm
theorem iI_mul (a b : Int) : iI a * iI b = iI (a * b) := (Int32.ofInt_mul a b).symm
theorem iI_neg (a : Int) : -iI a = iI (-a) := (Int32.ofInt_neg a).symm
theorem iI_toInt {a : Int} (h : rg a) : (iI a).toInt = a := Int32.toInt_ofInt_of_le h.1 h.2
theorem iI_of (x : Int32) : x = iI x.toInt := (Int32.ofInt_toInt x).symm
theorem iI_rg (x : Int32) : rg x.toInt := ⟨Int32.le_toInt x, Int32.toInt_lt x⟩
theorem iI_lt {a b : Int} (ha : rg a) (hb : rg b) : iI a < iI b ↔ a < b := by rw [Int32.lt_iff_toInt_lt, iI_toInt ha, iI_toInt hb]
theorem iI_le {a b : Int} (ha : rg a) (hb : rg b) : iI a ≤ iI b ↔ a ≤ b := by rw [Int32.le_iff_toInt_le, iI_toInt ha, iI_toInt hb]
theorem iI_eq {a b : Int} (ha : rg a) (hb : rg b) : iI a = iI b ↔ a = b := ⟨fun h => by rw [← iI_toInt ha, ← iI_toInt hb, h], fun h => by rw [h]⟩
theorem iI_nat (n : Nat) : nI n = iI (n : Int) := rfl
theorem iI_lit (n : Nat) : (OfNat.ofNat n : Int32) = iI (n : Int) := rfl
theorem iI_m (n : Nat) : (-(OfNat.ofNat n) : Int32) = iI (-(n : Int)) := iI_neg n
theorem w_lt {x y : Int32} {A B : Prop} (a b : Int) (f : a < b → A) (g : b ≤ a → B) (hx : x = iI a := by first | rfl | simp only [iI_lit, iI_nat, iI_add, iI_sub, iI_mul, iI_neg] <;> rfl) (hy : y = iI b := by first | rfl | simp only [iI_lit, iI_nat, iI_add, iI_sub, iI_mul, iI_neg] <;> rfl) (ha : rg a := by omega) (hb : rg b := by omega) : if x < y then A else B := by
  subst hx; subst hy
  exact w_if (fun h => f ((iI_lt ha hb).mp h)) (fun h => g (by have : ¬ a < b := fun z => h ((iI_lt ha hb).mpr z); omega))
theorem w_le {x y : Int32} {A B : Prop} (a b : Int) (f : a ≤ b → A) (g : b < a → B) (hx : x = iI a := by first | rfl | simp only [iI_lit, iI_nat, iI_add, iI_sub, iI_mul, iI_neg] <;> rfl) (hy : y = iI b := by first | rfl | simp only [iI_lit, iI_nat, iI_add, iI_sub, iI_mul, iI_neg] <;> rfl) (ha : rg a := by omega) (hb : rg b := by omega) : if x ≤ y then A else B := by
  subst hx; subst hy
  exact w_if (fun h => f ((iI_le ha hb).mp h)) (fun h => g (by have : ¬ a ≤ b := fun z => h ((iI_le ha hb).mpr z); omega))
theorem w_eq {x y : Int32} {A B : Prop} (a b : Int) (f : a = b → A) (g : a ≠ b → B) (hx : x = iI a := by first | rfl | simp only [iI_lit, iI_nat, iI_add, iI_sub, iI_mul, iI_neg] <;> rfl) (hy : y = iI b := by first | rfl | simp only [iI_lit, iI_nat, iI_add, iI_sub, iI_mul, iI_neg] <;> rfl) (ha : rg a := by omega) (hb : rg b := by omega) : if x = y then A else B := by
  subst hx; subst hy
  exact w_if (fun h => f ((iI_eq ha hb).mp h)) (fun h => g (fun z => h ((iI_eq ha hb).mpr z)))
/-- an index -/
theorem w_ix {x : Int32} {n : Nat} {K : Nat → Prop} (j : Nat) (k : K j) (hx : x = iI (j : Int) := by first | rfl | simp only [iI_lit, iI_nat, iI_add, iI_sub, iI_mul, iI_neg] <;> rfl) (hj : j < n := by omega) : ∃ i : Nat, x = nI i ∧ i < n ∧ K i := ⟨j, hx, hj, k⟩
end
section
/-! truth values, sums -/
def bI (c : Prop) [Decidable c] : Int32 := if c then 1 else 0
theorem bI_01 (c : Prop) [Decidable c] : bI c = 0 ∨ bI c = 1 := by unfold bI; by_cases h : c <;> simp [h]
theorem bI_t {c : Prop} [Decidable c] (h : c) : bI c = 1 := if_pos h
theorem bI_f {c : Prop} [Decidable c] (h : ¬ c) : bI c = 0 := if_neg h
theorem bI_iff {c d : Prop} [Decidable c] [Decidable d] (h : c ↔ d) : bI c = bI d := by unfold bI; by_cases hc : c <;> simp [hc, ← h]
theorem w_b {c : Prop} [Decidable c] {A B : Prop} (f : ¬ c → A) (g : c → B) : if bI c = 0 then A else B := by
  by_cases h : c
  · rw [bI_t h]; exact w_f (by decide) (g h)
  · rw [bI_f h]; exact w_t rfl (f h)
def sm (f : Nat → Nat) : Nat → Nat
  | 0 => 0
  | n + 1 => sm f n + f n
theorem sm_congr {f g : Nat → Nat} : ∀ {n : Nat}, (∀ i, i < n → f i = g i) → sm f n = sm g n
  | 0, _ => rfl
  | n + 1, h => by simp only [sm]; rw [sm_congr (fun i hi => h i (by omega)), h n (by omega)]
theorem sm_le {f : Nat → Nat} {b : Nat} : ∀ {n : Nat}, (∀ i, i < n → f i ≤ b) → sm f n ≤ n * b
  | 0, _ => by simp [sm]
  | n + 1, h => by
    have := sm_le (f := f) (b := b) (n := n) (fun i hi => h i (by omega))
    have := h n (by omega)
    simp only [sm, Nat.succ_mul]
    omega
theorem sm_zero {f : Nat → Nat} : ∀ {n : Nat}, sm f n = 0 ↔ ∀ i, i < n → f i = 0
  | 0 => by simp [sm]
  | n + 1 => by
    simp only [sm, Nat.add_eq_zero_iff, sm_zero (f := f) (n := n)]
    constructor
    · intro ⟨h1, h2⟩ i hi
      by_cases h : i = n
      · rw [h]; exact h2
      · exact h1 i (by omega)
    · intro h
      exact ⟨fun i hi => h i (by omega), h n (by omega)⟩
theorem sm_add (f g : Nat → Nat) : ∀ n : Nat, sm (fun i => f i + g i) n = sm f n + sm g n
  | 0 => rfl
  | n + 1 => by simp only [sm, sm_add f g n]; omega
theorem sm_swap (f : Nat → Nat → Nat) (a : Nat) : ∀ b : Nat, sm (fun i => sm (f i) a) b = sm (fun j => sm (fun i => f i j) b) a
  | 0 => by
    have : ∀ a, sm (fun _ => 0) a = 0 := fun a => sm_zero.mpr (fun _ _ => rfl)
    simp only [sm, this]
  | b + 1 => by
    simp only [sm, sm_swap f a b, sm_add]
theorem sm_mono {f : Nat → Nat} {a b : Nat} (h : a ≤ b) : sm f a ≤ sm f b := by
  induction b with
  | zero => rw [Nat.le_zero.mp h]; exact Nat.le_refl _
  | succ b ih =>
    by_cases hb : a = b + 1
    · rw [hb]; exact Nat.le_refl _
    · have := ih (by omega); simp only [sm]; omega
/-! the state of the reference by whole numbers -/
def MS (S : Nat → Int) (h : St) : Prop := ∀ i, h.2 91 i = iI (S i)
def hgh (S : Nat → Int) (p : Nat) : Int := if S (26 + 9 * p + 2) = 1 then 16 else 8
abbrev stn (S : Nat → Int) (p : Nat) (y : Int) : Prop := S (26 + 9 * p + 1) ≤ y ∧ y < S (26 + 9 * p + 1) + hgh S p
/-- the bounds of what a puppet has -/
def WP (S : Nat → Int) : Prop := ∀ p, p < 20 → (-15 ≤ S (26 + 9 * p) ∧ S (26 + 9 * p) ≤ 63) ∧ (-15 ≤ S (26 + 9 * p + 1) ∧ S (26 + 9 * p + 1) ≤ 47) ∧ (0 ≤ S (26 + 9 * p + 2) ∧ S (26 + 9 * p + 2) ≤ 1) ∧ (0 ≤ S (26 + 9 * p + 3) ∧ S (26 + 9 * p + 3) ≤ 7) ∧ (0 ≤ S (26 + 9 * p + 4) ∧ S (26 + 9 * p + 4) ≤ 9) ∧ (0 ≤ S (26 + 9 * p + 5) ∧ S (26 + 9 * p + 5) ≤ 3) ∧ (0 ≤ S (26 + 9 * p + 6) ∧ S (26 + 9 * p + 6) ≤ S 5) ∧ (0 ≤ S (26 + 9 * p + 7) ∧ S (26 + 9 * p + 7) ≤ S 5) ∧ (0 ≤ S (26 + 9 * p + 8) ∧ S (26 + 9 * p + 8) ≤ S 5)
def WF (S : Nat → Int) : Prop := (0 ≤ S 0 ∧ S 0 ≤ 20) ∧ (0 ≤ S 1 ∧ S 1 ≤ S 0) ∧ (1 ≤ S 2 ∧ S 2 ≤ 8) ∧ (0 ≤ S 3 ∧ S 3 ≤ 2) ∧ (1 ≤ S 4 ∧ S 4 ≤ 19) ∧ (0 ≤ S 5 ∧ S 5 ≤ 9999) ∧ (∀ k, k < (S 1).toNat → 0 ≤ S (6 + k) ∧ S (6 + k) < S 0) ∧ (∀ j k, j < k → k < (S 1).toNat → S (6 + j) ≠ S (6 + k)) ∧ WP S ∧ (∀ i, i < 64 → 0 ≤ S (206 + i) ∧ S (206 + i) ≤ 255) ∧ (∀ p : Nat, (p : Int) < S 0 → 1 ≤ S (26 + 9 * p + 4)) ∧ (∀ p : Nat, p < 20 → S 0 ≤ p → ∀ j, j < 9 → S (26 + 9 * p + j) = 0)
theorem hgh_b (S : Nat → Int) (p : Nat) : hgh S p = 8 ∨ hgh S p = 16 := by unfold hgh; by_cases h : S (26 + 9 * p + 2) = 1 <;> simp [h]
theorem c_M_in {x y z : Int32} {h : St} {Q : Option Value → St → Prop} (v a b : Int) (hQ : Q (some (.int (bI (a ≤ v ∧ v ≤ b)))) h) (hx : x = iI v) (hy : y = iI a) (hz : z = iI b) (rv : rg v) (ra : rg a) (rb : rg b) : SC y_M_in [.int x, .int y, .int z] h Q := by
  refine w_call IS_ok [] ok_M_in rfl rfl ?_
  refine w_lt v a (fun h1 => ?_) (fun h1 => w_lt b v (fun h2 => ?_) (fun h2 => ?_) hz hx) hx hy
  · exact ⟨Or.inl rfl, by rwa [bI_f (by omega)] at hQ⟩
  · exact ⟨Or.inl rfl, by rwa [bI_f (by omega)] at hQ⟩
  · exact ⟨Or.inr rfl, by rwa [bI_t (by omega)] at hQ⟩
theorem c_M_of {S : Nat → Int} {x y : Int32} {h : St} {Q : Option Value → St → Prop} (hS : MS S h) (pu k : Nat) (hQ : Q (some (.int (iI (S (26 + 9 * pu + k))))) h) (hx : x = iI pu) (hy : y = iI k) (hp : pu < 20) (hk : k < 9) : SC y_M_of [.ref 90, .int x, .int y] h Q := by
  refine w_call IS_ok [] ok_M_of rfl rfl ?_
  subst hx; subst hy
  rw [← hS] at hQ
  refine w_ix (26 + 9 * pu + k) hQ ?_ ?_
  · simp only [iI_lit, iI_nat, iI_add, iI_sub, iI_mul, iI_neg]
    congr 1
  · show _ < 270
    omega
theorem c_M_put {x y z : Int32} {h : St} {Q : Option Value → St → Prop} (pu k : Nat) (hQ : Q none (h.1, u1 h.2 91 (u1 (h.2 91) (26 + 9 * pu + k) z))) (hx : x = iI pu) (hy : y = iI k) (hp : pu < 20) (hk : k < 9) : SC y_M_put [.ref 90, .int x, .int y, .int z] h Q := by
  refine w_call IS_ok [] ok_M_put rfl rfl ?_
  subst hx; subst hy
  refine w_ix (26 + 9 * pu + k) hQ ?_ ?_
  · simp only [iI_lit, iI_nat, iI_add, iI_sub, iI_mul, iI_neg]
    congr 1
  · show _ < 270
    omega
theorem MS_set {S : Nat → Int} {h : St} (hS : MS S h) (i : Nat) (z : Int) (F : Nat → Nat → Int32) : MS (u1 S i z) (F, u1 h.2 91 (u1 (h.2 91) i (iI z))) := by
  intro j
  show u1 h.2 91 (u1 (h.2 91) i (iI z)) 91 j = _
  rw [u1_s]
  unfold u1
  by_cases hj : j = i
  · rw [if_pos hj, if_pos hj]
  · rw [if_neg hj, if_neg hj]; exact hS j
theorem c_M_highOf {S : Nat → Int} {x : Int32} {h : St} {Q : Option Value → St → Prop} (hS : MS S h) (hW : WP S) (pu : Nat) (hQ : Q (some (.int (iI (hgh S pu)))) h) (hx : x = iI pu) (hp : pu < 20) : SC y_M_highOf [.ref 90, .int x] h Q := by
  refine w_call IS_ok [] ok_M_highOf rfl rfl ?_
  refine c_M_of hS pu 2 ?_ hx rfl hp (by omega)
  have := (hW pu hp).2.2.1
  refine w_eq (S (26 + 9 * pu + 2)) 1 (fun h1 => ?_) (fun h1 => ?_)
  · unfold hgh at hQ; rw [if_pos h1] at hQ; exact hQ
  · unfold hgh at hQ; rw [if_neg h1] at hQ; exact hQ
theorem c_M_stands {S : Nat → Int} {x y : Int32} {h : St} {Q : Option Value → St → Prop} (hS : MS S h) (hW : WP S) (pu : Nat) (l : Int) (hQ : Q (some (.int (bI (stn S pu l)))) h) (hx : x = iI pu) (hy : y = iI l) (hp : pu < 20) (hl : rg l) : SC y_M_stands [.ref 90, .int x, .int y] h Q := by
  refine w_call IS_ok [] ok_M_stands rfl rfl ?_
  refine c_M_of hS pu 1 ?_ hx rfl hp (by omega)
  refine c_M_of hS pu 1 ?_ hx rfl hp (by omega)
  refine c_M_highOf hS hW pu ?_ hx hp
  have := (hW pu hp).2.1
  have := hgh_b S pu
  refine c_M_in l (S (26 + 9 * pu + 1)) (S (26 + 9 * pu + 1) + hgh S pu - 1) ?_ hy rfl ?_ hl (by omega) (by omega)
  · refine ⟨bI_01 _, ?_⟩
    rw [bI_iff (d := stn S pu l) (by omega)]
    exact hQ
  · simp only [iI_lit, iI_nat, iI_add, iI_sub, iI_mul, iI_neg]
    rfl
theorem c_M_isPlace {x y : Int32} {h : St} {Q : Option Value → St → Prop} (a b : Int) (hQ : Q (some (.int (bI ((-15 ≤ a ∧ a ≤ 63) ∧ (-15 ≤ b ∧ b ≤ 47))))) h) (hx : x = iI a) (hy : y = iI b) (ha : rg a) (hb : rg b) : SC y_M_isPlace [.int x, .int y] h Q := by
  refine w_call IS_ok [] ok_M_isPlace rfl rfl ?_
  refine c_M_in a (-15) 63 ?_ hx rfl rfl ha (by omega) (by omega)
  refine w_b (fun h1 => ?_) (fun h1 => ?_)
  · exact ⟨Or.inl rfl, by rwa [bI_f (by omega)] at hQ⟩
  · refine c_M_in b (-15) 47 ?_ hy rfl rfl hb (by omega) (by omega)
    refine w_b (fun h2 => ?_) (fun h2 => ?_)
    · exact ⟨Or.inl rfl, by rwa [bI_f (by omega)] at hQ⟩
    · exact ⟨Or.inr rfl, by rwa [bI_t (by omega)] at hQ⟩
/-- the number of lines on which a puppet stands -/
def lns (S : Nat → Int) (p : Nat) (n : Nat) : Nat := sm (fun y => if stn S p y then 1 else 0) n
theorem c_M_linesOf {S : Nat → Int} {x : Int32} {h : St} {Q : Option Value → St → Prop} (hS : MS S h) (hW : WP S) (pu : Nat) (hQ : Q (some (.int (iI (lns S pu 48)))) h) (hx : x = iI pu) (hp : pu < 20) : SC y_M_linesOf [.ref 90, .int x] h Q := by
  refine w_call IS_ok [4] ok_M_linesOf rfl rfl ?_
  have loop : ∀ (n k : Nat), 48 + 1 ≤ k + n → k ≤ 48 → SR y_M_linesOf 4 [some (.ref 90), some (.int x), some (.int (iI (lns S pu k))), some (.int (iI k))] [] h Q := by
    intro n
    induction n with
    | zero => intro k h1 h2; omega
    | succ n ih =>
      intro k h1 h2
      refine w_loop IS_ok [4] ok_M_linesOf ?_
      have hl : lns S pu k ≤ k * 1 := sm_le (fun i _ => by split <;> omega)
      refine w_le 48 k (fun h3 => ?_) (fun h3 => ?_)
      · have : k = 48 := by omega
        subst this
        exact hQ
      · refine c_M_stands hS hW pu k ?_ hx rfl hp (by omega)
        have key : ∀ z : Int32, z = iI (lns S pu (k + 1)) → SR y_M_linesOf 4 [some (.ref 90), some (.int x), some (.int z), some (.int (iI k + 1))] [] h Q := by
          intro z hz
          rw [hz, iI_lit, iI_add]
          exact ih (k + 1) (by omega) (by omega)
        refine w_b (fun h4 => key _ ?_) (fun h4 => key _ ?_)
        · simp only [iI_lit, iI_add, lns, sm, if_neg h4]
          rfl
        · simp only [iI_lit, iI_add, lns, sm, if_pos h4]
          rfl
  exact loop 49 0 (by omega) (by omega)
end
section
/-! the order, who is shown on a line -/
theorem iI_1 {x : Int32} {k : Nat} (h : x = iI k) : x + 1 = iI ((k + 1 : Nat) : Int) := by rw [h, iI_lit, iI_add]; rfl
abbrev od (S : Nat → Int) (k : Nat) : Nat := (S (6 + k)).toNat
theorem WF.n {S : Nat → Int} (h : WF S) : S 1 = ((S 1).toNat : Int) ∧ (S 1).toNat ≤ 20 ∧ 0 ≤ S 0 ∧ S 0 ≤ 20 ∧ S 1 ≤ S 0 := by obtain ⟨h0, h1, -⟩ := h; omega
theorem WF.od {S : Nat → Int} (h : WF S) {k : Nat} (hk : k < (S 1).toNat) : S (6 + k) = (od S k : Int) ∧ od S k < 20 ∧ S (6 + k) < S 0 := by
  obtain ⟨h0, -, -, -, -, -, h1, -⟩ := h
  have := h1 k hk
  unfold Jvm.Pilot.CPuppetTurnsLaw_law_r5978_f2d878.od
  omega
theorem WF.inj {S : Nat → Int} (h : WF S) {j k : Nat} (hj : j < (S 1).toNat) (hk : k < (S 1).toNat) (he : S (6 + j) = S (6 + k)) : j = k := by
  obtain ⟨-, -, -, -, -, -, -, h1, -⟩ := h
  rcases Nat.lt_trichotomy j k with h2 | h2 | h2
  · exact absurd he (h1 j k h2 hk)
  · exact h2
  · exact absurd he.symm (h1 k j h2 hj)
theorem WF.lim {S : Nat → Int} (h : WF S) : 1 ≤ S 2 ∧ S 2 ≤ 8 := h.2.2.1
theorem WF.wp {S : Nat → Int} (h : WF S) : WP S := h.2.2.2.2.2.2.2.2.1
/-- the position of a puppet in the order, or -109 -/
def pos (S : Nat → Int) (p : Int) : Nat → Int
  | 0 => -109
  | k + 1 => if S (6 + k) = p then k else pos S p k
theorem pos_b (S : Nat → Int) (p : Int) : ∀ n : Nat, pos S p n = -109 ∨ (0 ≤ pos S p n ∧ pos S p n < n)
  | 0 => Or.inl rfl
  | k + 1 => by
    unfold pos
    split
    · exact Or.inr (by omega)
    · rcases pos_b S p k with h | h
      · exact Or.inl h
      · exact Or.inr (by omega)
theorem pos_no {S : Nat → Int} {p : Int} : ∀ {n : Nat}, pos S p n = -109 ↔ ∀ k, k < n → S (6 + k) ≠ p
  | 0 => by simp [pos]
  | n + 1 => by
    unfold pos
    by_cases h : S (6 + n) = p
    · rw [if_pos h]
      exact ⟨fun z => by omega, fun z => absurd h (z n (by omega))⟩
    · rw [if_neg h, pos_no (n := n)]
      refine ⟨fun z k hk => ?_, fun z k hk => z k (by omega)⟩
      by_cases hkn : k = n
      · rw [hkn]; exact h
      · exact z k (by omega)
theorem pos_at {S : Nat → Int} {p : Int} : ∀ {n k : Nat}, pos S p n = (k : Int) → k < n ∧ S (6 + k) = p
  | 0, k, h => by unfold pos at h; omega
  | n + 1, k, h => by
    unfold pos at h
    by_cases hp : S (6 + n) = p
    · rw [if_pos hp] at h
      have : k = n := by omega
      subst this
      exact ⟨by omega, hp⟩
    · rw [if_neg hp] at h
      have := pos_at h
      exact ⟨by omega, this.2⟩
theorem pos_is {S : Nat → Int} (hW : WF S) {k : Nat} (hk : k < (S 1).toNat) {p : Int} (hp : S (6 + k) = p) : pos S p (S 1).toNat = k := by
  rcases pos_b S p (S 1).toNat with h | ⟨h1, h2⟩
  · exact absurd hp (pos_no.mp h k hk)
  · have h3 := pos_at (S := S) (p := p) (n := (S 1).toNat) (k := (pos S p (S 1).toNat).toNat) (by omega)
    have := hW.inj h3.1 hk (h3.2.trans hp.symm)
    omega
/-- there is such a puppet -/
abbrev thr (S : Nat → Int) (p : Int) : Prop := pos S p (S 1).toNat ≠ -109
theorem thr_b {S : Nat → Int} (hW : WF S) {p : Int} (h : thr S p) : 0 ≤ p ∧ p < S 0 ∧ p < 20 := by
  rcases pos_b S p (S 1).toNat with h1 | ⟨h1, h2⟩
  · exact absurd h1 h
  · have h3 := pos_at (S := S) (p := p) (n := (S 1).toNat) (k := (pos S p (S 1).toNat).toNat) (by omega)
    have h4 := hW.od h3.1
    have h5 := hW.n
    omega
theorem c_M_positionOf {S : Nat → Int} {x : Int32} {h : St} {Q : Option Value → St → Prop} (hS : MS S h) (hW : WF S) (p : Int) (hQ : Q (some (.int (iI (pos S p (S 1).toNat)))) h) (hx : x = iI p) (hp : rg p) : SC y_M_positionOf [.ref 90, .int x] h Q := by
  refine w_call IS_ok [5] ok_M_positionOf rfl rfl ?_
  obtain ⟨hn1, hn2, -⟩ := hW.n
  generalize hn : (S 1).toNat = n at *
  have loop : ∀ (m k : Nat), n + 1 ≤ k + m → k ≤ n → ∀ v w : Int32, v = iI (pos S p k) → w = iI k → SR y_M_positionOf 5 [some (.ref 90), some (.int x), some (.int v), some (.int w)] [] h Q := by
    intro m
    induction m with
    | zero => intro k h1 h2; omega
    | succ m ih =>
      intro k h1 h2 v w hv hw
      refine w_loop IS_ok [5] ok_M_positionOf ?_
      refine w_ix 1 (w_le (S 1) k (fun h3 => ?_) (fun h3 => ?_) (hS 1) hw) rfl (show 1 < 270 by omega)
      · have : k = n := by omega
        subst this
        rw [← hv] at hQ
        exact hQ
      · have ho := hW.od (k := k) (by omega)
        refine w_ix (6 + k) (w_eq (S (6 + k)) p (fun h4 => ?_) (fun h4 => ?_) (hS _) hx) ?_ (show 6 + k < 270 by omega)
        · exact ih (k + 1) (by omega) (by omega) _ _ (by simp only [pos, if_pos h4]; exact hw) (iI_1 hw)
        · exact ih (k + 1) (by omega) (by omega) _ _ (by simp only [pos, if_neg h4]; exact hv) (iI_1 hw)
        · subst hw
          simp only [iI_lit, iI_nat, iI_add, iI_sub, iI_mul, iI_neg]
          congr 1
  exact loop (n + 1) 0 (by omega) (by omega) _ _ rfl rfl
theorem c_M_isThere {S : Nat → Int} {x : Int32} {h : St} {Q : Option Value → St → Prop} (hS : MS S h) (hW : WF S) (p : Int) (hQ : Q (some (.int (bI (thr S p)))) h) (hx : x = iI p) (hp : rg p) : SC y_M_isThere [.ref 90, .int x] h Q := by
  refine w_call IS_ok [] ok_M_isThere rfl rfl ?_
  obtain ⟨hn1, hn2, h0, h1, h2⟩ := hW.n
  refine w_ix 0 ?_ rfl (show 0 < 270 by omega)
  refine c_M_in p 0 (S 0 - 1) ?_ hx rfl ?_ hp (by omega) (by omega)
  · refine w_b (fun h3 => ?_) (fun h3 => ?_)
    · refine ⟨Or.inl rfl, ?_⟩
      rw [bI_f (fun z => h3 (by have := thr_b hW z; omega))] at hQ
      exact hQ
    · refine c_M_positionOf hS hW p ?_ hx hp
      have := pos_b S p (S 1).toNat
      refine w_eq (pos S p (S 1).toNat) (-109) (fun h4 => ?_) (fun h4 => ?_)
      · rw [bI_f (fun z => z h4)] at hQ
        exact ⟨Or.inl rfl, hQ⟩
      · rw [bI_t h4] at hQ
        exact ⟨Or.inr rfl, hQ⟩
  · show h.2 91 0 - 1 = _
    rw [hS 0, iI_lit, iI_sub]
    rfl
/-- how many of the first ones by an order stand on a line -/
def cn (S : Nat → Int) (o : Nat → Nat) (y : Int) (k : Nat) : Nat := sm (fun j => if stn S (o j) y then 1 else 0) k
theorem cn_le (S : Nat → Int) (o : Nat → Nat) (y : Int) (k : Nat) : cn S o y k ≤ k := by
  have := sm_le (f := fun j => if stn S (o j) y then 1 else 0) (b := 1) (n := k) (fun i _ => by split <;> omega)
  unfold cn
  omega
theorem cn_t {S : Nat → Int} {o : Nat → Nat} {y : Int} {k : Nat} (h : stn S (o k) y) : cn S o y (k + 1) = cn S o y k + 1 := by simp only [cn, sm, if_pos h]
theorem cn_f {S : Nat → Int} {o : Nat → Nat} {y : Int} {k : Nat} (h : ¬ stn S (o k) y) : cn S o y (k + 1) = cn S o y k := by simp only [cn, sm, if_neg h]; rfl
theorem cn_mono {S : Nat → Int} {o : Nat → Nat} {y : Int} {j k : Nat} (h : j ≤ k) : cn S o y j ≤ cn S o y k := sm_mono h
theorem cn_lt {S : Nat → Int} {o : Nat → Nat} {y : Int} {j k : Nat} (h : j < k) (hs : stn S (o j) y) : cn S o y j < cn S o y k := by
  have h1 := cn_t hs
  have h2 : cn S o y (j + 1) ≤ cn S o y k := cn_mono h
  omega
theorem c_M_standing {S : Nat → Int} {x : Int32} {h : St} {Q : Option Value → St → Prop} (hS : MS S h) (hW : WF S) (y : Int) (hQ : Q (some (.int (iI (cn S (od S) y (S 1).toNat)))) h) (hx : x = iI y) (hy : rg y) : SC y_M_standing [.ref 90, .int x] h Q := by
  refine w_call IS_ok [4] ok_M_standing rfl rfl ?_
  obtain ⟨hn1, hn2, -⟩ := hW.n
  generalize hn : (S 1).toNat = n at *
  have loop : ∀ (m k : Nat), n + 1 ≤ k + m → k ≤ n → SR y_M_standing 4 [some (.ref 90), some (.int x), some (.int (iI (cn S (od S) y k))), some (.int (iI k))] [] h Q := by
    intro m
    induction m with
    | zero => intro k h1 h2; omega
    | succ m ih =>
      intro k h1 h2
      refine w_loop IS_ok [4] ok_M_standing ?_
      refine w_ix 1 (w_le (S 1) k (fun h3 => ?_) (fun h3 => ?_) (hS 1)) rfl (show 1 < 270 by omega)
      · have : k = n := by omega
        subst this
        exact hQ
      · have ho := hW.od (k := k) (by omega)
        refine w_ix (6 + k) ?_ ?_ (show 6 + k < 270 by omega)
        · refine c_M_stands hS hW.wp (od S k) y ?_ ((hS _).trans (by rw [ho.1])) hx ho.2.1 hy
          have key : ∀ z : Int32, z = iI (cn S (od S) y (k + 1)) → SR y_M_standing 4 [some (.ref 90), some (.int x), some (.int z), some (.int (iI k + 1))] [] h Q := by
            intro z hz
            rw [hz, iI_lit, iI_add]
            exact ih (k + 1) (by omega) (by omega)
          refine w_b (fun h4 => key _ ?_) (fun h4 => key _ ?_)
          · rw [cn_f h4]
            simp only [iI_lit, iI_add]
            rfl
          · rw [cn_t h4]
            simp only [iI_lit, iI_add]
            rfl
        · simp only [iI_lit, iI_nat, iI_add, iI_sub, iI_mul, iI_neg]
          congr 1
  exact loop (n + 1) 0 (by omega) (by omega)
/-- the k-th by the order is shown on the line -/
abbrev vis (S : Nat → Int) (y : Int) (k : Nat) : Prop := stn S (od S k) y ∧ (cn S (od S) y k : Int) < S 2
/-- what is shown on a line as the told one -/
def ShoR (S : Nat → Int) (y i r : Int) : Prop := (∃ k, k < (S 1).toNat ∧ vis S y k ∧ (cn S (od S) y k : Int) = i ∧ r = S (6 + k)) ∨ (r = -109 ∧ ∀ k, k < (S 1).toNat → vis S y k → (cn S (od S) y k : Int) ≠ i)
set_option maxHeartbeats 1000000 in
theorem c_M_shownOn {S : Nat → Int} {x z : Int32} {h : St} {Q : Option Value → St → Prop} (hS : MS S h) (hW : WF S) (y i : Int) (hQ : ∀ r, ShoR S y i r → Q (some (.int (iI r))) h) (hx : x = iI y) (hz : z = iI i) (hy : rg y) (hi : rg i) : SC y_M_shownOn [.ref 90, .int x, .int z] h Q := by
  refine w_call IS_ok [5] ok_M_shownOn rfl rfl ?_
  obtain ⟨hn1, hn2, -⟩ := hW.n
  have hlim := hW.lim
  have loop : ∀ (m k : Nat), (S 1).toNat + 1 ≤ k + m → k ≤ (S 1).toNat → (∀ j, j < k → vis S y j → (cn S (od S) y j : Int) ≠ i) → ∀ v w : Int32, v = iI (cn S (od S) y k) → w = iI k → SR y_M_shownOn 5 [some (.ref 90), some (.int x), some (.int z), some (.int v), some (.int w)] [] h Q := by
    intro m
    induction m with
    | zero => intro k h1 h2; omega
    | succ m ih =>
      intro k h1 h2 hno v w hv hw
      have hcn := cn_le S (od S) y k
      refine w_loop IS_ok [5] ok_M_shownOn ?_
      refine w_ix 1 (w_le (S 1) k (fun h3 => ?_) (fun h3 => ?_) (hS 1) hw) rfl (show 1 < 270 by omega)
      · exact hQ _ (Or.inr ⟨rfl, fun j hj => hno j (by omega)⟩)
      · refine w_ix 2 (w_le (S 2) (cn S (od S) y k) (fun h5 => ?_) (fun h5 => ?_) (hS 2) hv) rfl (show 2 < 270 by omega)
        · refine hQ _ (Or.inr ⟨rfl, fun j hj hv => ?_⟩)
          by_cases hjk : j < k
          · exact hno j hjk hv
          · have : cn S (od S) y k ≤ cn S (od S) y j := cn_mono (by omega)
            have := hv.2
            omega
        · have ho := hW.od (k := k) (by omega)
          refine w_ix (6 + k) ?_ ?_ (show 6 + k < 270 by omega)
          · refine c_M_stands hS hW.wp (od S k) y ?_ ((hS _).trans (by rw [ho.1])) hx ho.2.1 hy
            refine w_b (fun h4 => ?_) (fun h4 => ?_)
            · exact ih (k + 1) (by omega) (by omega) (fun j hj hvs => by
                by_cases hjk : j = k
                · subst hjk; exact absurd hvs.1 h4
                · exact hno j (by omega) hvs) _ _ (by rw [cn_f h4]; exact hv) (iI_1 hw)
            · refine w_eq (cn S (od S) y k) i (fun h6 => ?_) (fun h6 => ?_) hv hz
              · refine w_ix (6 + k) ?_ ?_ (show 6 + k < 270 by omega)
                · have := hQ _ (Or.inl ⟨k, by omega, ⟨h4, h5⟩, h6, rfl⟩)
                  rw [← hS] at this
                  exact this
                · rw [hw]
                  simp only [iI_lit, iI_nat, iI_add, iI_sub, iI_mul, iI_neg]
                  congr 1
              · exact ih (k + 1) (by omega) (by omega) (fun j hj hvs => by
                  by_cases hjk : j = k
                  · subst hjk; exact h6
                  · exact hno j (by omega) hvs) _ _ (by rw [cn_t h4]; exact iI_1 hv) (iI_1 hw)
          · rw [hw]
            simp only [iI_lit, iI_nat, iI_add, iI_sub, iI_mul, iI_neg]
            congr 1
  exact loop ((S 1).toNat + 1) 0 (by omega) (by omega) (fun j hj => by omega) _ _ rfl rfl
end
section
/-! dots -/
theorem WF.pic {S : Nat → Int} (h : WF S) {i : Nat} (hi : i < 64) : 0 ≤ S (206 + i) ∧ S (206 + i) ≤ 255 := h.2.2.2.2.2.2.2.2.2.1 i hi
theorem WF.col {S : Nat → Int} (h : WF S) {p : Nat} (hp : (p : Int) < S 0) : 1 ≤ S (26 + 9 * p + 4) := h.2.2.2.2.2.2.2.2.2.2.1 p hp
def hghN (S : Nat → Int) (p : Nat) : Nat := if S (26 + 9 * p + 2) = 1 then 16 else 8
theorem hghN_i (S : Nat → Int) (p : Nat) : (hghN S p : Int) = hgh S p := by unfold hghN hgh; split <;> rfl
def pxC (S : Nat → Int) (p dx : Nat) : Nat := if S (26 + 9 * p + 5) % 2 = 1 then 7 - dx else dx
def pxR (S : Nat → Int) (p dy : Nat) : Nat := if S (26 + 9 * p + 5) / 2 = 1 then hghN S p - 1 - dy else dy
def pxD (S : Nat → Int) (p dy : Nat) : Nat := (S (206 + 8 * (((S (26 + 9 * p + 3)).toNat + pxR S p dy / 8) % 8) + pxR S p dy % 8)).toNat
def pix (S : Nat → Int) (p dx dy : Nat) : Bool := (pxD S p dy).testBit (7 - pxC S p dx)
abbrev setp (S : Nat → Int) (p : Nat) (x y : Int) : Prop := (0 ≤ x - S (26 + 9 * p) ∧ x - S (26 + 9 * p) ≤ 7) ∧ (0 ≤ y - S (26 + 9 * p + 1) ∧ y - S (26 + 9 * p + 1) ≤ hgh S p - 1) ∧ pix S p (x - S (26 + 9 * p)).toNat (y - S (26 + 9 * p + 1)).toNat = true
theorem and_f1 {f : Int} (h : 0 ≤ f ∧ f ≤ 3) : iI f &&& 1 = iI (f % 2) := by
  rcases (show f = 0 ∨ f = 1 ∨ f = 2 ∨ f = 3 by omega) with rfl | rfl | rfl | rfl <;> decide
theorem and_f2 {f : Int} (h : 0 ≤ f ∧ f ≤ 3) : iI f &&& 2 = iI (2 * (f / 2)) := by
  rcases (show f = 0 ∨ f = 1 ∨ f = 2 ∨ f = 3 by omega) with rfl | rfl | rfl | rfl <;> decide
theorem s_l : ∀ n, n < 32 → ((nI n &&& 31).toBitVec.smod 32).toNat = n := by decide +kernel
theorem fa_and (a b : Nat) : nI a &&& nI b = nI (a &&& b) := by
  apply Int32.toBitVec_inj.1
  show BitVec.ofNat 32 a &&& BitVec.ofNat 32 b = BitVec.ofNat 32 (a &&& b)
  apply BitVec.eq_of_getLsbD_eq
  intro i hi
  simp [hi]
theorem fa_or (a b : Nat) : nI a ||| nI b = nI (a ||| b) := by
  apply Int32.toBitVec_inj.1
  show BitVec.ofNat 32 a ||| BitVec.ofNat 32 b = BitVec.ofNat 32 (a ||| b)
  apply BitVec.eq_of_getLsbD_eq
  intro i hi
  simp [hi]
theorem shN {a c : Nat} (h : a * 2 ^ c < 2 ^ 32) (hc : c < 32) : nI a <<< (nI c &&& 31) = nI (a * 2 ^ c) := pk_shlN _ c (s_l c hc) h
theorem sh128n : ∀ d, d < 256 → ∀ c, c < 8 → (((d * 2 ^ c) &&& 128 = 0) ↔ d.testBit (7 - c) = false) := by decide +kernel
theorem sh128 (d : Nat) (hd : d < 256) (c : Nat) (hc : c < 8) : (((nI d <<< (nI c &&& 31)) &&& 128 = 0) ↔ d.testBit (7 - c) = false) := by
  have h1 : d * 2 ^ c < 256 * 2 ^ 8 := Nat.mul_lt_mul_of_lt_of_le hd (Nat.pow_le_pow_right (by decide) (by omega)) (by decide)
  rw [shN (by omega) (by omega), show (128 : Int32) = nI 128 from rfl, fa_and, show (0 : Int32) = nI 0 from rfl, nI_eq (Nat.lt_of_le_of_lt Nat.and_le_right (by decide)) (by decide)]
  exact sh128n d hd c hc
theorem div8 {x : Int32} {a : Nat} (h : x = iI a) (ha : a < 2 ^ 31) : x / 8 = iI ((a / 8 : Nat) : Int) := by
  rw [h, show (8 : Int32) = nI 8 from rfl, ← iI_nat, pk_div ha (by decide) (by decide)]
  rfl
theorem rem8 {x : Int32} {a : Nat} (h : x = iI a) (ha : a < 2 ^ 31) : x - x / 8 * 8 = iI ((a % 8 : Nat) : Int) := by
  rw [h, show (8 : Int32) = nI 8 from rfl, ← iI_nat, pk_rem ha (by decide) (by decide)]
  rfl
theorem pxR_b (S : Nat → Int) (p dy : Nat) (h : dy < hghN S p) : pxR S p dy < 16 := by
  have h1 : hghN S p = 8 ∨ hghN S p = 16 := by unfold hghN; split <;> omega
  unfold pxR
  split <;> omega
set_option maxHeartbeats 4000000 in
theorem c_M_isSet {S : Nat → Int} {x y z : Int32} {h : St} {Q : Option Value → St → Prop} (hS : MS S h) (hW : WF S) (p : Nat) (a b : Int) (hQ : Q (some (.int (bI (setp S p a b)))) h) (hx : x = iI p) (hy : y = iI a) (hz : z = iI b) (hp : p < 20) (ha : 0 ≤ a ∧ a < 1000) (hb : 0 ≤ b ∧ b < 1000) : SC y_M_isSet [.ref 90, .int x, .int y, .int z] h Q := by
  refine w_call IS_ok [103] ok_M_isSet rfl rfl ?_
  obtain ⟨w0, w1, w2, w3, w4, w5, -⟩ := hW.wp p hp
  have hh := hgh_b S p
  refine c_M_of hS p 0 ?_ hx rfl hp (by omega)
  refine c_M_of hS p 1 ?_ hx rfl hp (by omega)
  refine c_M_highOf hS hW.wp p ?_ hx hp
  have e1 : y - iI (S (26 + 9 * p + 0)) = iI (a - S (26 + 9 * p)) := by rw [hy, iI_sub]; rfl
  have e2 : z - iI (S (26 + 9 * p + 1)) = iI (b - S (26 + 9 * p + 1)) := by rw [hz, iI_sub]
  refine c_M_in (a - S (26 + 9 * p)) 0 7 ?_ e1 rfl rfl (by omega) (by omega) (by omega)
  refine w_b (fun h1 => ?_) (fun h1 => ?_)
  · exact ⟨Or.inl rfl, by rwa [bI_f (fun z => h1 (by omega))] at hQ⟩
  have e0 : iI (hgh S p) - 1 = iI (hgh S p - 1) := by simp only [iI_lit, iI_nat, iI_add, iI_sub, iI_mul, iI_neg]; rfl
  refine c_M_in (b - S (26 + 9 * p + 1)) 0 (hgh S p - 1) ?_ e2 rfl e0 (by omega) (by omega) (by omega)
  refine w_b (fun h2 => ?_) (fun h2 => ?_)
  · exact ⟨Or.inl rfl, by rwa [bI_f (fun z => h2 (by omega))] at hQ⟩
  obtain ⟨dx, hdx⟩ : ∃ dx : Nat, a - S (26 + 9 * p) = dx := ⟨(a - S (26 + 9 * p)).toNat, by omega⟩
  obtain ⟨dy, hdy⟩ : ∃ dy : Nat, b - S (26 + 9 * p + 1) = dy := ⟨(b - S (26 + 9 * p + 1)).toNat, by omega⟩
  have hdy2 : dy < hghN S p := by have := hghN_i S p; omega
  have hi : (setp S p a b) ↔ pix S p dx dy = true := by
    unfold setp
    rw [hdx, hdy]
    simp only [Int.toNat_natCast]
    exact ⟨fun z => z.2.2, fun z => ⟨by omega, by omega, z⟩⟩
  rw [bI_iff hi] at hQ
  rw [hdx] at e1
  rw [hdy] at e2
  refine c_M_of hS p 5 ?_ hx rfl hp (by omega)
  have hcc : pxC S p dx < 8 := by unfold pxC; split <;> omega
  have hrr := pxR_b S p dy hdy2
  have tail : ∀ (c r : Int32), c = iI (pxC S p dx) → r = iI (pxR S p dy) → ∀ L4 L5 L6 L7 : Option Value, SR y_M_isSet 103 [some (.ref 90), some (.int x), some (.int y), some (.int z), L4, L5, L6, L7, some (.int c), some (.int r), none] [] h Q := by
    intro c r hc hr L4 L5 L6 L7
    refine w_loop IS_ok [] ok_M_isSet ?_
    refine c_M_of hS p 3 ?_ hx rfl hp (by omega)
    refine ⟨by decide, ?_⟩
    refine ⟨by decide, ?_⟩
    have hsh : S (26 + 9 * p + 3) = ((S (26 + 9 * p + 3)).toNat : Int) := by omega
    have e3 : iI (S (26 + 9 * p + 3)) + r / 8 = iI (((S (26 + 9 * p + 3)).toNat + pxR S p dy / 8 : Nat) : Int) := by
      rw [div8 hr (by omega), iI_add]
      congr 1
      omega
    have e4 := rem8 e3 (by omega)
    generalize hpic : ((S (26 + 9 * p + 3)).toNat + pxR S p dy / 8) % 8 = pic at e4
    have hpic2 : pic < 8 := by omega
    have hpc := hW.pic (i := 8 * pic + pxR S p dy % 8) (by omega)
    refine ⟨by decide, ?_⟩
    refine w_ix (206 + 8 * pic + pxR S p dy % 8) ?_ ?_ (show 206 + 8 * pic + pxR S p dy % 8 < 270 by omega)
    · have e5 : h.2 91 (206 + 8 * pic + pxR S p dy % 8) = nI (pxD S p dy) := by
        rw [hS]
        unfold pxD
        rw [hpic, iI_nat]
        congr 1
        rw [Nat.add_assoc] 
        omega
      have hD : pxD S p dy < 256 := by
        unfold pxD
        rw [hpic, Nat.add_assoc]
        omega
      have key := sh128 (pxD S p dy) hD (pxC S p dx) hcc
      have e6 : (h.2 91 (206 + 8 * pic + pxR S p dy % 8) <<< (c &&& 31)) &&& 128 = (nI (pxD S p dy) <<< (nI (pxC S p dx) &&& 31)) &&& 128 := by rw [e5, hc]; rfl
      refine w_if (fun h3 => ?_) (fun h3 => ?_)
      · refine ⟨Or.inl rfl, ?_⟩
        rw [bI_f (fun z => by
          have := key.mp (e6 ▸ h3)
          unfold pix at z
          rw [this] at z
          cases z)] at hQ
        exact hQ
      · refine ⟨Or.inr rfl, ?_⟩
        rw [bI_t (by
          cases hb : pix S p dx dy with
          | true => rfl
          | false => exact absurd (e6 ▸ key.mpr hb) h3)] at hQ
        exact hQ
    · rw [e4, rem8 hr (by omega)]
      simp only [iI_lit, iI_nat, iI_add, iI_sub, iI_mul, iI_neg]
      congr 1
  refine w_eq (S (26 + 9 * p + 5) % 2) 1 (fun h3 => ?_) (fun h3 => ?_) (and_f1 w5)
  · have hc : (7 : Int32) - (y - iI (S (26 + 9 * p + 0))) = iI (pxC S p dx) := by
      rw [e1]
      unfold pxC
      rw [if_pos h3]
      exact (iI_sub 7 dx).trans (congrArg iI (by omega))
    refine w_eq (2 * (S (26 + 9 * p + 5) / 2)) 2 (fun h4 => ?_) (fun h4 => ?_) (and_f2 w5)
    · have hr : iI (hgh S p) - 1 - (z - iI (S (26 + 9 * p + 1))) = iI (pxR S p dy) := by
        rw [e2]
        unfold pxR
        rw [if_pos (by omega)]
        simp only [iI_lit, iI_sub]
        congr 1
        have := hghN_i S p
        omega
      exact tail _ _ hc hr _ _ _ _
    · have hr : z - iI (S (26 + 9 * p + 1)) = iI (pxR S p dy) := by
        rw [e2]
        unfold pxR
        rw [if_neg (by omega)]
      exact tail _ _ hc hr _ _ _ _
  · have hc : y - iI (S (26 + 9 * p + 0)) = iI (pxC S p dx) := by
      rw [e1]
      unfold pxC
      rw [if_neg h3]
    refine w_eq (2 * (S (26 + 9 * p + 5) / 2)) 2 (fun h4 => ?_) (fun h4 => ?_) (and_f2 w5)
    · have hr : iI (hgh S p) - 1 - (z - iI (S (26 + 9 * p + 1))) = iI (pxR S p dy) := by
        rw [e2]
        unfold pxR
        rw [if_pos (by omega)]
        simp only [iI_lit, iI_sub]
        congr 1
        have := hghN_i S p
        omega
      exact tail _ _ hc hr _ _ _ _
    · have hr : z - iI (S (26 + 9 * p + 1)) = iI (pxR S p dy) := by
        rw [e2]
        unfold pxR
        rw [if_neg (by omega)]
      exact tail _ _ hc hr _ _ _ _
end
section
noncomputable def bC (P : Prop) : Int32 := @bI P (Classical.propDecidable P)
theorem bC_01 (P : Prop) : bC P = 0 ∨ bC P = 1 := @bI_01 P (Classical.propDecidable P)
theorem bC_t {P : Prop} (h : P) : bC P = 1 := @bI_t P (Classical.propDecidable P) h
theorem bC_f {P : Prop} (h : ¬ P) : bC P = 0 := @bI_f P (Classical.propDecidable P) h
theorem w_c {P : Prop} {A B : Prop} (f : ¬ P → A) (g : P → B) : if bC P = 0 then A else B := @w_b P (Classical.propDecidable P) A B f g
noncomputable def cI (P : Prop) : Nat := @ite _ P (Classical.propDecidable P) 1 0
theorem cI_t {P : Prop} (h : P) : cI P = 1 := @if_pos P (Classical.propDecidable P) h _ _ _
theorem cI_f {P : Prop} (h : ¬ P) : cI P = 0 := @if_neg P (Classical.propDecidable P) h _ _ _
theorem cI_iff {P R : Prop} (h : P ↔ R) : cI P = cI R := by rw [show P = R from propext h]
theorem cI_le (P : Prop) : cI P ≤ 1 := by
  by_cases h : P
  · rw [cI_t h]; exact Nat.le_refl _
  · rw [cI_f h]; exact Nat.zero_le _
theorem cn_inj {S : Nat → Int} {o : Nat → Nat} {y : Int} {j k : Nat} (hj : stn S (o j) y) (hk : stn S (o k) y) (h : cn S o y j = cn S o y k) : j = k := by
  rcases Nat.lt_trichotomy j k with h2 | h2 | h2
  · have := cn_lt h2 hj; omega
  · exact h2
  · have := cn_lt h2 hk; omega
/-- the first one that is shown on the line with a dot set there, but one -/
def FirR (S : Nat → Int) (x y but r : Int) : Prop := (∃ k, k < (S 1).toNat ∧ vis S y k ∧ S (6 + k) ≠ but ∧ setp S (od S k) x y ∧ (∀ j, j < k → vis S y j → S (6 + j) ≠ but → ¬ setp S (od S j) x y) ∧ r = S (6 + k)) ∨ (r = -109 ∧ ∀ j, j < (S 1).toNat → vis S y j → S (6 + j) ≠ but → ¬ setp S (od S j) x y)
theorem FirR_b {S : Nat → Int} (hW : WF S) {x y but r : Int} (h : FirR S x y but r) : r = -109 ∨ (0 ≤ r ∧ r < 20 ∧ r < S 0) := by
  rcases h with ⟨k, hk, -, -, -, -, rfl⟩ | ⟨rfl, -⟩
  · have := hW.od hk; exact Or.inr (by omega)
  · exact Or.inl rfl
set_option maxHeartbeats 4000000 in
theorem c_M_firstAt {S : Nat → Int} {x y z : Int32} {h : St} {Q : Option Value → St → Prop} (hS : MS S h) (hW : WF S) (a b c : Int) (hQ : ∀ r, FirR S a b c r → Q (some (.int (iI r))) h) (hx : x = iI a) (hy : y = iI b) (hz : z = iI c) (ha : 0 ≤ a ∧ a < 1000) (hb : 0 ≤ b ∧ b < 1000) (hc : rg c) : SC y_M_firstAt [.ref 90, .int x, .int y, .int z] h Q := by
  refine w_call IS_ok [7] ok_M_firstAt rfl rfl ?_
  have hlim := hW.lim
  have loop : ∀ (m i : Nat), 9 ≤ i + m → (i : Int) ≤ S 2 → ∀ (v w : Int32) (L6 : Option Value), w = iI i → ((v = iI (-109) ∧ ∀ j, j < (S 1).toNat → vis S b j → cn S (od S) b j < i → S (6 + j) ≠ c → ¬ setp S (od S j) a b) ∨ (∃ r, v = iI r ∧ r ≠ -109 ∧ FirR S a b c r)) → SR y_M_firstAt 7 [some (.ref 90), some (.int x), some (.int y), some (.int z), some (.int v), some (.int w), L6] [] h Q := by
    intro m
    induction m with
    | zero => intro i h1 h2; omega
    | succ m ih =>
      intro i h1 h2 v w L6 hw hI
      refine w_loop IS_ok [7] ok_M_firstAt ?_
      refine w_ix 2 (w_le (S 2) i (fun h3 => ?_) (fun h3 => ?_) (hS 2) hw) rfl (show 2 < 270 by omega)
      · rcases hI with ⟨rfl, hI⟩ | ⟨r, rfl, -, hr⟩
        · exact hQ _ (Or.inr ⟨rfl, fun j hj hv => hI j hj hv (by have := hv.2; omega)⟩)
        · exact hQ _ hr
      · rcases hI with ⟨hv, hI⟩ | ⟨r, hv, hr1, hr⟩
        · refine w_eq (-109) (-109) (fun _ => ?_) (fun h4 => absurd rfl h4) hv rfl
          refine c_M_shownOn hS hW b i (fun r0 hr0 => ?_) hy hw (by omega) (by omega)
          have hr0b : r0 = -109 ∨ (0 ≤ r0 ∧ r0 < 20) := by
            rcases hr0 with ⟨k, hk, -, -, rfl⟩ | ⟨rfl, -⟩
            · have := hW.od hk; exact Or.inr (by omega)
            · exact Or.inl rfl
          have next : (∀ j, j < (S 1).toNat → vis S b j → cn S (od S) b j = i → S (6 + j) ≠ c → ¬ setp S (od S j) a b) → ∀ L6 : Option Value, SR y_M_firstAt 7 [some (.ref 90), some (.int x), some (.int y), some (.int z), some (.int v), some (.int (w + 1)), L6] [] h Q := by
            intro hn L6
            refine ih (i + 1) (by omega) (by omega) _ _ _ (iI_1 hw) (Or.inl ⟨hv, fun j hj hvs hcn => ?_⟩)
            by_cases he : cn S (od S) b j = i
            · exact hn j hj hvs he
            · exact hI j hj hvs (by omega)
          refine w_eq r0 (-109) (fun h5 => ?_) (fun h5 => ?_) rfl rfl
          · exact next (fun j hj hvs he => by
              rcases hr0 with ⟨k, hk, -, -, h6⟩ | ⟨-, h6⟩
              · have := hW.od hk; omega
              · exact absurd (by rw [he]) (h6 j hj hvs)) _
          · rcases hr0 with ⟨k, hk, hvk, hck, rfl⟩ | ⟨h6, -⟩
            · have hod := hW.od hk
              have hu : ∀ j, j < (S 1).toNat → vis S b j → cn S (od S) b j = i → j = k := fun j hj hvs he => cn_inj hvs.1 hvk.1 (by omega)
              refine w_eq (S (6 + k)) c (fun h7 => ?_) (fun h7 => ?_) rfl hz
              · exact next (fun j hj hvs he hne => by
                  rw [hu j hj hvs he] at hne
                  exact absurd h7 hne) _
              · refine c_M_isSet hS hW (od S k) a b ?_ (by rw [← hod.1]) hx hy hod.2.1 ha hb
                refine w_b (fun h8 => ?_) (fun h8 => ?_)
                · exact next (fun j hj hvs he hne => by rw [hu j hj hvs he]; exact h8) _
                · refine ih (i + 1) (by omega) (by omega) _ _ _ (iI_1 hw) (Or.inr ⟨S (6 + k), rfl, by omega, Or.inl ⟨k, hk, hvk, h7, h8, fun j hj hvs hne => ?_, rfl⟩⟩)
                  have := cn_lt (S := S) (o := od S) (y := b) hj hvs.1
                  exact hI j (by omega) hvs (by omega) hne
            · exact absurd h6 h5
        · have hb2 := FirR_b hW hr
          refine w_eq r (-109) (fun h4 => absurd h4 hr1) (fun h4 => ?_) hv rfl
          rw [hv]
          exact hQ _ hr
  exact loop 9 0 (by omega) (by omega) _ _ _ rfl (Or.inl ⟨rfl, fun j hj hv hcn => by omega⟩)
def ColR (S : Nat → Int) (x y c : Int) : Prop := ∃ r, FirR S x y (-109) r ∧ c = (if r = -109 then 0 else S (26 + 9 * r.toNat + 4))
theorem c_M_colorAt {S : Nat → Int} {x y : Int32} {h : St} {Q : Option Value → St → Prop} (hS : MS S h) (hW : WF S) (a b : Int) (hQ : ∀ c, ColR S a b c → Q (some (.int (iI c))) h) (hx : x = iI a) (hy : y = iI b) (ha : 0 ≤ a ∧ a < 1000) (hb : 0 ≤ b ∧ b < 1000) : SC y_M_colorAt [.ref 90, .int x, .int y] h Q := by
  refine w_call IS_ok [] ok_M_colorAt rfl rfl ?_
  refine c_M_firstAt hS hW a b (-109) (fun r hr => ?_) hx hy rfl ha hb (by omega)
  have hrb := FirR_b hW hr
  refine w_eq r (-109) (fun h1 => ?_) (fun h1 => ?_) rfl rfl
  · have := hQ _ ⟨r, hr, rfl⟩
    rw [if_pos h1] at this
    exact this
  · have := hQ _ ⟨r, hr, rfl⟩
    rw [if_neg h1] at this
    exact c_M_of hS r.toNat 4 this (by congr 1; omega) rfl (by omega) (by omega)
/-- a dot of the stage that is not 0 -/
def lit (S : Nat → Int) (x y : Int) : Prop := ∃ k, k < (S 1).toNat ∧ vis S y k ∧ setp S (od S k) x y
theorem ColR_pos {S : Nat → Int} (hW : WF S) {x y c : Int} (h : ColR S x y c) : (0 < c ↔ lit S x y) ∧ 0 ≤ c ∧ c ≤ 9 := by
  obtain ⟨r, hr, rfl⟩ := h
  rcases hr with ⟨k, hk, hv, hne, hs, hf, rfl⟩ | ⟨rfl, hno⟩
  · have ho := hW.od hk
    have hc := hW.col (p := od S k) (by rw [← ho.1]; exact ho.2.2)
    have hc9 := (hW.wp (od S k) ho.2.1).2.2.2.2.1
    rw [if_neg (by omega)]
    have e : (S (6 + k)).toNat = od S k := rfl
    rw [e]
    exact ⟨⟨fun _ => ⟨k, hk, hv, hs⟩, fun _ => by omega⟩, by omega, by omega⟩
  · rw [if_pos rfl]
    refine ⟨⟨fun z => by omega, fun ⟨k, hk, hv, hs⟩ => ?_⟩, by omega, by omega⟩
    have ho := hW.od hk
    exact absurd hs (hno k hk hv (by omega))
noncomputable def dts (S : Nat → Int) (y : Int) (n : Nat) : Nat := sm (fun x => cI (lit S x y)) n
theorem dts_le (S : Nat → Int) (y : Int) (n : Nat) : dts S y n ≤ n := by
  have := sm_le (f := fun x : Nat => cI (lit S x y)) (b := 1) (n := n) (fun i _ => cI_le _)
  unfold dts
  omega
theorem c_M_dotsOn {S : Nat → Int} {x : Int32} {h : St} {Q : Option Value → St → Prop} (hS : MS S h) (hW : WF S) (b : Int) (hQ : Q (some (.int (iI (dts S b 64)))) h) (hx : x = iI b) (hb : 0 ≤ b ∧ b < 1000) : SC y_M_dotsOn [.ref 90, .int x] h Q := by
  refine w_call IS_ok [4] ok_M_dotsOn rfl rfl ?_
  have loop : ∀ (m k : Nat), 65 ≤ k + m → k ≤ 64 → ∀ v w : Int32, v = iI (dts S b k) → w = iI k → SR y_M_dotsOn 4 [some (.ref 90), some (.int x), some (.int v), some (.int w)] [] h Q := by
    intro m
    induction m with
    | zero => intro k h1 h2; omega
    | succ m ih =>
      intro k h1 h2 v w hv hw
      have hd := dts_le S b k
      refine w_loop IS_ok [4] ok_M_dotsOn ?_
      refine w_le 64 k (fun h3 => ?_) (fun h3 => ?_) rfl hw
      · have : k = 64 := by omega
        subst this
        rw [← hv] at hQ
        exact hQ
      · refine c_M_colorAt hS hW k b (fun c hc => ?_) hw hx (by omega) hb
        obtain ⟨c1, c2, c3⟩ := ColR_pos hW hc
        refine w_le c 0 (fun h4 => ?_) (fun h4 => ?_) rfl rfl
        · refine ih (k + 1) (by omega) (by omega) _ _ ?_ (iI_1 hw)
          rw [hv]
          refine (iI_add _ 0).trans (congrArg iI ?_)
          simp only [dts, sm]
          rw [cI_f (fun z => by have := c1.mpr z; omega)]
          omega
        · refine ih (k + 1) (by omega) (by omega) _ _ ?_ (iI_1 hw)
          rw [hv]
          refine (iI_add _ 1).trans (congrArg iI ?_)
          simp only [dts, sm]
          rw [cI_t (c1.mp h4)]
          omega
  exact loop 65 0 (by omega) (by omega) _ _ rfl rfl
def HerR (S : Nat → Int) (n : Nat) (r : Int) : Prop := (n = 0 ∧ r = -109) ∨ (∃ k, k < n ∧ r = S (6 + k) ∧ ∀ j, j < n → r ≤ S (6 + j))
theorem c_M_hero {S : Nat → Int} {h : St} {Q : Option Value → St → Prop} (hS : MS S h) (hW : WF S) (hQ : ∀ r, HerR S (S 1).toNat r → Q (some (.int (iI r))) h) : SC y_M_hero [.ref 90] h Q := by
  refine w_call IS_ok [5] ok_M_hero rfl rfl ?_
  obtain ⟨hn1, hn2, -⟩ := hW.n
  have loop : ∀ (m k : Nat), (S 1).toNat + 1 ≤ k + m → k ≤ (S 1).toNat → ∀ (r : Int) (w : Int32), HerR S k r → w = iI k → SR y_M_hero 5 [some (.ref 90), some (.int (iI r)), some (.int w)] [] h Q := by
    intro m
    induction m with
    | zero => intro k h1 h2; omega
    | succ m ih =>
      intro k h1 h2 r w hr hw
      refine w_loop IS_ok [5] ok_M_hero ?_
      refine w_ix 1 (w_le (S 1) k (fun h3 => ?_) (fun h3 => ?_) (hS 1) hw) rfl (show 1 < 270 by omega)
      · have : k = (S 1).toNat := by omega
        rw [this] at hr
        exact hQ _ hr
      · have ho := hW.od (k := k) (by omega)
        have hix : (6 : Int32) + w = iI ((6 + k : Nat) : Int) := by rw [hw]; exact (iI_add 6 k).trans (congrArg iI (by omega))
        have hrb : r = -109 ∨ (0 ≤ r ∧ r < 20) := by
          rcases hr with ⟨-, h4⟩ | ⟨j, hj, h4, -⟩
          · exact Or.inl h4
          · have := hW.od (k := j) (by omega); exact Or.inr (by omega)
        have new : (∀ j, j < k → S (6 + k) ≤ S (6 + j)) → SR y_M_hero 5 [some (.ref 90), some (.int (h.2 91 (6 + k))), some (.int (w + 1))] [] h Q := by
          intro hmin
          rw [hS]
          refine ih (k + 1) (by omega) (by omega) _ _ (Or.inr ⟨k, by omega, rfl, fun j hj => ?_⟩) (iI_1 hw)
          by_cases hjk : j = k
          · rw [hjk]; exact Int.le_refl _
          · exact hmin j (by omega)
        refine w_eq r (-109) (fun h4 => ?_) (fun h4 => ?_) rfl rfl
        · refine w_ix (6 + k) (new ?_) hix (show 6 + k < 270 by omega)
          rcases hr with ⟨h5, -⟩ | ⟨j, hj, h5, -⟩
          · intro j hj; omega
          · have := hW.od (k := j) (by omega); omega
        · refine w_ix (6 + k) (w_le r (S (6 + k)) (fun h5 => ?_) (fun h5 => ?_) rfl (hS _)) hix (show 6 + k < 270 by omega)
          · refine ih (k + 1) (by omega) (by omega) _ _ ?_ (iI_1 hw)
            rcases hr with ⟨-, h6⟩ | ⟨j, hj, h6, h7⟩
            · exact absurd h6 h4
            · refine Or.inr ⟨j, by omega, h6, fun i hi => ?_⟩
              by_cases hik : i = k
              · rw [hik]; exact h5
              · exact h7 i (by omega)
          · refine w_ix (6 + k) (new ?_) hix (show 6 + k < 270 by omega)
            rcases hr with ⟨-, h6⟩ | ⟨j, hj, h6, h7⟩
            · exact absurd h6 h4
            · intro i hi
              have := h7 i hi
              omega
  exact loop ((S 1).toNat + 1) 0 (by omega) (by omega) (-109) _ (Or.inl ⟨rfl, rfl⟩) rfl
/-- a puppet is shown on a line -/
def shw (S : Nat → Int) (p y : Int) : Prop := ∃ k, k < (S 1).toNat ∧ vis S y k ∧ S (6 + k) = p
theorem c_M_isShown {S : Nat → Int} {x y : Int32} {h : St} {Q : Option Value → St → Prop} (hS : MS S h) (hW : WF S) (p b : Int) (hQ : Q (some (.int (bC (shw S p b)))) h) (hx : x = iI p) (hy : y = iI b) (hp : 0 ≤ p ∧ p < 20) (hb : 0 ≤ b ∧ b < 1000) : SC y_M_isShown [.ref 90, .int x, .int y] h Q := by
  refine w_call IS_ok [5] ok_M_isShown rfl rfl ?_
  have hlim := hW.lim
  have loop : ∀ (m i : Nat), 9 ≤ i + m → (i : Int) ≤ S 2 → ∀ w : Int32, w = iI i → SR y_M_isShown 5 [some (.ref 90), some (.int x), some (.int y), some (.int (bC (∃ k, k < (S 1).toNat ∧ vis S b k ∧ cn S (od S) b k < i ∧ S (6 + k) = p))), some (.int w)] [] h Q := by
    intro m
    induction m with
    | zero => intro i h1 h2; omega
    | succ m ih =>
      intro i h1 h2 w hw
      refine w_loop IS_ok [5] ok_M_isShown ?_
      refine w_ix 2 (w_le (S 2) i (fun h3 => ?_) (fun h3 => ?_) (hS 2) hw) rfl (show 2 < 270 by omega)
      · refine ⟨bC_01 _, ?_⟩
        have e : shw S p b = (∃ k, k < (S 1).toNat ∧ vis S b k ∧ cn S (od S) b k < i ∧ S (6 + k) = p) := propext ⟨fun ⟨k, k1, k2, k3⟩ => ⟨k, k1, k2, by have := k2.2; omega, k3⟩, fun ⟨k, k1, k2, _, k3⟩ => ⟨k, k1, k2, k3⟩⟩
        rw [e] at hQ
        exact hQ
      · have hnext := ih (i + 1) (by omega) (by omega) _ (iI_1 hw)
        refine w_c (fun h4 => ?_) (fun h4 => ?_)
        · refine w_eq p (-109) (fun h5 => absurd h5 (by omega)) (fun _ => ?_) hx rfl
          refine c_M_shownOn hS hW b i (fun r hr => ?_) hy hw (by omega) (by omega)
          have hrb : r = -109 ∨ (0 ≤ r ∧ r < 20) := by
            rcases hr with ⟨k, hk, -, -, rfl⟩ | ⟨rfl, -⟩
            · have := hW.od hk; exact Or.inr (by omega)
            · exact Or.inl rfl
          refine w_eq r p (fun h6 => ?_) (fun h6 => ?_) rfl hx
          · rw [bC_t] at hnext
            · exact hnext
            · rcases hr with ⟨k, hk, hv, hc, h7⟩ | ⟨h7, -⟩
              · exact ⟨k, hk, hv, by omega, by omega⟩
              · omega
          · rw [bC_f] at hnext
            · exact hnext
            · intro ⟨k, hk, hv, hc, h7⟩
              by_cases hki : cn S (od S) b k < i
              · exact h4 ⟨k, hk, hv, hki, h7⟩
              · rcases hr with ⟨k', hk', hv', hc', h8⟩ | ⟨-, h8⟩
                · have := cn_inj hv.1 hv'.1 (show cn S (od S) b k = cn S (od S) b k' by omega)
                  rw [this] at h7
                  omega
                · exact h8 k hk hv (by omega)
        · rw [bC_t] at hnext
          · exact hnext
          · obtain ⟨k, k1, k2, k3, k4⟩ := h4
            exact ⟨k, k1, k2, by omega, k4⟩
  have h0 := loop 9 0 (by omega) (by omega) _ rfl
  rw [bC_f (fun ⟨k, _, _, k3, _⟩ => by omega)] at h0
  exact h0
end
section
/-! what a method may change -/
def Sm (X : List (Nat × Nat)) (Y : List Nat) (h h' : St) : Prop := (∀ o k, (o, k) ∉ X → h'.1 o k = h.1 o k) ∧ ∀ a, a ∉ Y → h'.2 a = h.2 a
theorem Sm.rf {X : List (Nat × Nat)} {Y : List Nat} {h : St} : Sm X Y h h := ⟨fun _ _ _ => rfl, fun _ _ => rfl⟩
theorem Sm.tr {X X' : List (Nat × Nat)} {Y Y' : List Nat} {h h1 h2 : St} (a : Sm X Y h h1) (b : Sm X' Y' h1 h2) : Sm (X ++ X') (Y ++ Y') h h2 :=
  ⟨fun o k hn => (b.1 o k (fun z => hn (List.mem_append_right _ z))).trans (a.1 o k (fun z => hn (List.mem_append_left _ z))), fun q hn => (b.2 q (fun z => hn (List.mem_append_right _ z))).trans (a.2 q (fun z => hn (List.mem_append_left _ z)))⟩
theorem Sm.t {X : List (Nat × Nat)} {Y : List Nat} {h h1 h2 : St} (a : Sm X Y h h1) (b : Sm X Y h1 h2) : Sm X Y h h2 :=
  ⟨fun o k hn => (b.1 o k hn).trans (a.1 o k hn), fun q hn => (b.2 q hn).trans (a.2 q hn)⟩
theorem Sm.mo {X X' : List (Nat × Nat)} {Y Y' : List Nat} {h h1 : St} (a : Sm X Y h h1) (hx : ∀ q ∈ X, q ∈ X') (hy : ∀ q ∈ Y, q ∈ Y') : Sm X' Y' h h1 := ⟨fun o k hn => a.1 o k (fun z => hn (hx _ z)), fun q hn => a.2 q (fun z => hn (hy _ z))⟩
theorem Sm.wr {X : List (Nat × Nat)} {Y : List Nat} {h : St} {a : Nat} (f : Nat → Int32) (ha : a ∈ Y) : Sm X Y h (h.1, u1 h.2 a f) := ⟨fun _ _ _ => rfl, fun q hq => u1_n _ _ (fun z => hq (z ▸ ha))⟩
theorem Sm.put {X : List (Nat × Nat)} {Y : List Nat} {h : St} {o k : Nat} (x : Int32) (ha : (o, k) ∈ X) : Sm X Y h (u2 h.1 o k x, h.2) := by
  refine ⟨fun a j hn => ?_, fun _ _ => rfl⟩
  show u2 h.1 o k x a j = _
  unfold u2 u1
  by_cases h1 : a = o
  · by_cases h2 : j = k
    · rw [h1, h2] at hn; exact absurd ha hn
    · rw [if_pos h1, if_neg h2, h1]
  · rw [if_neg h1]
theorem MS.sm {S : Nat → Int} {X : List (Nat × Nat)} {Y : List Nat} {h h' : St} (hS : MS S h) (a : Sm X Y h h') (hy : 91 ∉ Y) : MS S h' := fun i => by rw [a.2 91 hy]; exact hS i
/-! sets as bits -/
theorem bit_at {w k : Nat} (hw : w < 2 ^ 20) (hk : k < 20) : (nI w >>> (iI k &&& 31)) &&& 1 = iI (if w.testBit k then 1 else 0) := by
  rw [← iI_nat, pk_shrN (by omega) _ k (s_l k (by omega)), show (1 : Int32) = nI 1 from rfl, fa_and, Nat.and_one_is_mod, Nat.testBit_eq_decide_div_mod_eq]
  have : w / 2 ^ k % 2 = 0 ∨ w / 2 ^ k % 2 = 1 := by omega
  rcases this with h | h
  · rw [h]; rfl
  · rw [h]; rfl
theorem bit_or {w p : Nat} (hp : p < 20) : nI w ||| ((1 : Int32) <<< (iI p &&& 31)) = nI (w ||| 2 ^ p) := by
  have h1 : 2 ^ p < 2 ^ 20 := Nat.pow_lt_pow_right (by decide) hp
  rw [show (1 : Int32) = nI 1 from rfl, ← iI_nat, shN (by omega) (by omega), Nat.one_mul, fa_or]
theorem bit_or_t {w p q : Nat} : (w ||| 2 ^ p).testBit q = (w.testBit q || decide (p = q)) := by rw [Nat.testBit_or, Nat.testBit_two_pow]
theorem bit_or_b {w p : Nat} (hw : w < 2 ^ 20) (hp : p < 20) : w ||| 2 ^ p < 2 ^ 20 := Nat.or_lt_two_pow hw (Nat.pow_lt_pow_right (by decide) hp)
def onesN (w : Nat) (n : Nat) : Nat := sm (fun p => if w.testBit p then 1 else 0) n
theorem onesN_le (w n : Nat) : onesN w n ≤ n := by
  have := sm_le (f := fun p => if w.testBit p then 1 else 0) (b := 1) (n := n) (fun i _ => by split <;> omega)
  unfold onesN
  omega
theorem c_M_ones {h : St} {Q : Option Value → St → Prop} (w : Nat) (hQ : Q (some (.int (iI (onesN w 20)))) h) (hw : w < 2 ^ 20) : SC y_M_ones [.int (nI w)] h Q := by
  refine w_call IS_ok [4] ok_M_ones rfl rfl ?_
  have loop : ∀ (m k : Nat), 21 ≤ k + m → k ≤ 20 → ∀ v z : Int32, v = iI (onesN w k) → z = iI k → SR y_M_ones 4 [some (.int (nI w)), some (.int v), some (.int z)] [] h Q := by
    intro m
    induction m with
    | zero => intro k h1 h2; omega
    | succ m ih =>
      intro k h1 h2 v z hv hz
      refine w_loop IS_ok [4] ok_M_ones ?_
      refine w_le 20 k (fun h3 => ?_) (fun h3 => ?_) rfl hz
      · have : k = 20 := by omega
        subst this
        rw [← hv] at hQ
        exact hQ
      · refine ih (k + 1) (by omega) (by omega) _ _ ?_ (iI_1 hz)
        rw [hv, hz, bit_at hw (by omega), iI_add]
        refine congrArg iI ?_
        simp only [onesN, sm]
        split <;> omega
  exact loop 21 0 (by omega) (by omega) _ _ rfl rfl
/-! who is hidden, by an order of n puppets: on the line y, up to the k-th of the order; on the lines up to y -/
def hA (S : Nat → Int) (o : Nat → Nat) (y k : Nat) : Nat := if stn S (o k) y ∧ S 2 < (cn S o y (k + 1) : Int) then 1 else 0
def hR (S : Nat → Int) (o : Nat → Nat) (y k p : Nat) : Nat := sm (fun j => if o j = p then hA S o y j else 0) k
def hT (S : Nat → Int) (o : Nat → Nat) (n y p : Nat) : Nat := sm (fun l => hR S o l n p) y
theorem hA_le (S : Nat → Int) (o : Nat → Nat) (y k : Nat) : hA S o y k ≤ 1 := by unfold hA; split <;> omega
theorem hR_le (S : Nat → Int) (o : Nat → Nat) (y k p : Nat) : hR S o y k p ≤ k := by
  have := sm_le (f := fun j => if o j = p then hA S o y j else 0) (b := 1) (n := k) (fun i _ => by
    have := hA_le S o y i
    split <;> omega)
  unfold hR
  omega
theorem hT_le (S : Nat → Int) (o : Nat → Nat) (n y p : Nat) : hT S o n y p ≤ y * n := sm_le (fun i _ => hR_le S o i n p)
theorem hR_s (S : Nat → Int) (o : Nat → Nat) (y k p : Nat) : hR S o y (k + 1) p = hR S o y k p + (if o k = p then hA S o y k else 0) := rfl
set_option maxHeartbeats 4000000 in
/-- who is hidden on any line, by the order that stands in the row 91 from 6 on -/
theorem c_M_hidden_91 {S : Nat → Int} {x : Int32} {h : St} {Q : Option Value → St → Prop} (hS : MS S h) (hW : WP S) (n : Nat) (o : Nat → Nat) (hn : S 1 = n) (hn2 : n ≤ 20) (hlim : 0 ≤ S 2 ∧ S 2 ≤ 8) (ho : ∀ k, k < n → o k < 20) (hrow : ∀ k, k < n → h.2 91 (6 + k) = iI (o k))
    (hQ : ∀ (h' : St) (w : Nat), Sm [] [98] h h' → w < 2 ^ 20 → (∀ p, p < 20 → w.testBit p = decide (0 < hT S o n 48 p)) → (∀ p, p < 20 → h'.2 98 p = iI (hT S o n 48 p)) → Q (some (.int (nI w))) h') (hx : x = iI 6) : SC y_M_hidden [.ref 90, .ref 91, .int x] h Q := by
  refine w_call IS_ok [5] ok_M_hidden rfl rfl ?_
  have inner : ∀ (y : Nat), y < 48 → (∀ (hc : St) (w : Nat) (L5 L6 L7 : Option Value) (z3 z4 : Int32), Sm [] [98] h hc → w < 2 ^ 20 → (∀ p, p < 20 → w.testBit p = decide (0 < hT S o n (y + 1) p)) → (∀ p, p < 20 → hc.2 98 p = iI (hT S o n (y + 1) p)) → z3 = nI w → z4 = iI (y + 1 : Nat) → SR y_M_hidden 29 [some (.ref 90), some (.ref 91), some (.int x), some (.int z3), some (.int z4), L5, L6, L7] [] hc Q) →
      ∀ (m k : Nat), n + 1 ≤ k + m → k ≤ n → ∀ (hc : St) (w : Nat) (L7 : Option Value) (z3 z4 z5 z6 : Int32), Sm [] [98] h hc → w < 2 ^ 20 → (∀ p, p < 20 → w.testBit p = decide (0 < hT S o n y p + hR S o y k p)) → (∀ p, p < 20 → hc.2 98 p = iI ((hT S o n y p + hR S o y k p : Nat) : Int)) → z3 = nI w → z4 = iI y → z5 = iI (cn S o y k) → z6 = iI k → SR y_M_hidden 42 [some (.ref 90), some (.ref 91), some (.int x), some (.int z3), some (.int z4), some (.int z5), some (.int z6), L7] [] hc Q := by
    intro y hy48 hnext m
    induction m with
    | zero => intro k h1 h2; omega
    | succ m ih =>
      intro k h1 h2 hc w L7 z3 z4 z5 z6 hsm hw hbits hvals e3 e4 e5 e6
      have hSc := hS.sm hsm (by decide)
      have hcn := cn_le S o y k
      refine w_loop IS_ok [29, 42] ok_M_hidden ?_
      refine w_ix 1 (w_le (S 1) k (fun h3 => ?_) (fun h3 => ?_) (hSc 1) e6) rfl (show 1 < 270 by omega)
      · have hk : k = n := by omega
        subst hk
        exact hnext hc w _ _ _ _ _ hsm hw hbits hvals e3 (iI_1 e4)
      · have hkn : k < n := by omega
        have hok := ho k hkn
        have hrk : hc.2 91 (6 + k) = iI (o k) := by rw [hsm.2 91 (by decide)]; exact hrow k hkn
        refine w_ix (6 + k) ?_ ?_ (show 6 + k < 270 by omega)
        · refine c_M_stands hSc hW (o k) y ?_ hrk e4 hok (by omega)
          refine w_b (fun h4 => ?_) (fun h4 => ?_)
          · have e0 : ∀ p, hR S o y (k + 1) p = hR S o y k p := fun p => by
              rw [hR_s, show hA S o y k = 0 from if_neg (fun z => h4 z.1)]
              split <;> rfl
            exact ih (k + 1) (by omega) (by omega) hc w _ _ _ _ _ hsm hw (fun p hp => by rw [e0]; exact hbits p hp) (fun p hp => by rw [e0]; exact hvals p hp) e3 e4 (by rw [cn_f h4]; exact e5) (iI_1 e6)
          · have e5' := iI_1 e5
            have hct := cn_t (S := S) (o := o) (y := y) (k := k) h4
            have hTb : ∀ p, hT S o n y p + hR S o y k p ≤ 1000 := fun p => by
              have := hT_le S o n y p
              have := hR_le S o y k p
              have : y * n ≤ 48 * 20 := Nat.mul_le_mul (by omega) hn2
              omega
            have fin : ∀ (hc' : St) (w' : Nat) (z3' : Int32) (d : Nat) (L7 : Option Value), hA S o y k = d → Sm [] [98] h hc' → w' < 2 ^ 20 → z3' = nI w' → (∀ p, p < 20 → w'.testBit p = (w.testBit p || (decide (d = 1) && decide (o k = p)))) → (∀ p, p < 20 → hc'.2 98 p = if p = o k then hc.2 98 p + iI d else hc.2 98 p) → SR y_M_hidden 42 [some (.ref 90), some (.ref 91), some (.int x), some (.int z3'), some (.int z4), some (.int (z5 + 1)), some (.int (z6 + 1)), L7] [] hc' Q := by
              intro hc' w' z3' d L7 hd hsm' hw' e3' hb' hv'
              have hd1 : d ≤ 1 := hd ▸ hA_le S o y k
              refine ih (k + 1) (by omega) (by omega) hc' w' _ _ _ _ _ hsm' hw' (fun p hp => ?_) (fun p hp => ?_) e3' e4 (by rw [hct]; exact e5') (iI_1 e6)
              · rw [hb' p hp, hbits p hp, hR_s, hd]
                by_cases hop : o k = p
                · rw [if_pos hop]
                  by_cases hd0 : d = 1
                  · simp [hd0, hop]
                    omega
                  · have : d = 0 := by omega
                    simp [this, hop]
                · rw [if_neg hop]
                  simp [hop]
              · rw [hv' p hp, hvals p hp, hR_s, hd]
                by_cases hop : p = o k
                · rw [if_pos hop, if_pos hop.symm, iI_add]
                  exact congrArg iI (by omega)
                · rw [if_neg hop, if_neg (fun z => hop z.symm)]
                  exact congrArg iI (by omega)
            have wrt : ∀ d : Nat, Sm [] [98] h (hc.1, u1 hc.2 98 (u1 (hc.2 98) (o k) (hc.2 98 (o k) + iI d))) ∧ ∀ p, p < 20 → (u1 hc.2 98 (u1 (hc.2 98) (o k) (hc.2 98 (o k) + iI d))) 98 p = if p = o k then hc.2 98 p + iI d else hc.2 98 p := fun d => by
              refine ⟨hsm.t (Sm.wr _ (by decide)), fun p hp => ?_⟩
              rw [u1_s]
              unfold u1
              split
              · next hh => rw [hh]
              · rfl
            refine w_ix (o k) ?_ hrk (show o k < 20 from hok)
            refine w_ix 2 (w_le ((cn S o y k + 1 : Nat) : Int) (S 2) (fun h5 => ?_) (fun h5 => ?_) e5' (hSc 2)) rfl (show 2 < 270 by omega)
            · have hd : hA S o y k = 0 := if_neg (fun z => by have := z.2; rw [hct] at this; omega)
              refine w_ix (o k) ?_ hrk (show o k < 20 from hok)
              obtain ⟨g1, g2⟩ := wrt 0
              refine w_ix 2 (w_le ((cn S o y k + 1 : Nat) : Int) (S 2) (fun h6 => ?_) (fun h6 => by omega) e5' ((hS.sm g1 (by decide)) 2)) rfl (show 2 < 270 by omega)
              refine fin _ w _ 0 _ hd g1 hw ?_ (fun p hp => by simp) g2
              show z3 ||| 0 = nI w
              rw [e3, show (0 : Int32) = nI 0 from rfl, fa_or, Nat.or_zero]
            · have hd : hA S o y k = 1 := if_pos ⟨h4, by rw [hct]; omega⟩
              refine w_ix (o k) ?_ hrk (show o k < 20 from hok)
              obtain ⟨g1, g2⟩ := wrt 1
              refine w_ix 2 (w_le ((cn S o y k + 1 : Nat) : Int) (S 2) (fun h6 => by omega) (fun h6 => ?_) e5' ((hS.sm g1 (by decide)) 2)) rfl (show 2 < 270 by omega)
              refine fin _ (w ||| 2 ^ o k) _ 1 _ hd g1 (bit_or_b hw hok) ?_ (fun p hp => by rw [bit_or_t]; simp) g2
              show z3 ||| ((1 : Int32) <<< (hc.2 91 (6 + k) &&& 31)) = nI (w ||| 2 ^ o k)
              rw [e3, hrk, bit_or hok]
        · rw [hx, e6]
          exact (iI_add 6 k).trans (congrArg iI (by omega))
  have outer : ∀ (m y : Nat), 49 ≤ y + m → y ≤ 48 → ∀ (hc : St) (w : Nat) (L5 L6 L7 : Option Value) (z3 z4 : Int32), Sm [] [98] h hc → w < 2 ^ 20 → (∀ p, p < 20 → w.testBit p = decide (0 < hT S o n y p)) → (∀ p, p < 20 → hc.2 98 p = iI (hT S o n y p)) → z3 = nI w → z4 = iI y → SR y_M_hidden 29 [some (.ref 90), some (.ref 91), some (.int x), some (.int z3), some (.int z4), L5, L6, L7] [] hc Q := by
    intro m
    induction m with
    | zero => intro y h1 h2; omega
    | succ m ih =>
      intro y h1 h2 hc w L5 L6 L7 z3 z4 hsm hw hbits hvals e3 e4
      refine w_loop IS_ok [42] ok_M_hidden ?_
      refine w_le 48 y (fun h3 => ?_) (fun h3 => ?_) rfl e4
      · have : y = 48 := by omega
        subst this
        rw [e3]
        exact hQ hc w hsm hw hbits hvals
      · exact inner y (by omega) (fun hc w L5 L6 L7 z3 z4 a1 a2 a3 a4 a5 a6 => ih (y + 1) (by omega) (by omega) hc w L5 L6 L7 z3 z4 a1 a2 a3 a4 a5 a6) (n + 1) 0 (by omega) (by omega) hc w _ _ _ _ _ hsm hw hbits hvals e3 e4 rfl rfl
  have zero : ∀ (m q : Nat), 21 ≤ q + m → q ≤ 20 → ∀ (hc : St) (L5 L6 L7 : Option Value) (z4 : Int32), Sm [] [98] h hc → (∀ p, p < q → hc.2 98 p = 0) → z4 = iI q → SR y_M_hidden 5 [some (.ref 90), some (.ref 91), some (.int x), some (.int 0), some (.int z4), L5, L6, L7] [] hc Q := by
    intro m
    induction m with
    | zero => intro q h1 h2; omega
    | succ m ih =>
      intro q h1 h2 hc L5 L6 L7 z4 hsm hz e4
      refine w_loop IS_ok [5, 29] ok_M_hidden ?_
      refine w_le 20 q (fun h3 => ?_) (fun h3 => ?_) rfl e4
      · have hq : q = 20 := by omega
        subst hq
        exact outer 49 0 (by omega) (by omega) hc 0 _ _ _ _ _ hsm (by decide) (fun p hp => by simp [hT, sm]) (fun p hp => hz p hp) rfl rfl
      · refine w_ix q ?_ e4 (show q < 20 by omega)
        refine ih (q + 1) (by omega) (by omega) _ _ _ _ _ (hsm.t (Sm.wr _ (by decide))) (fun p hp => ?_) (iI_1 e4)
        show u1 hc.2 98 _ 98 p = 0
        rw [u1_s]
        by_cases hpq : p = q
        · rw [hpq]; exact u1_s _ _ _
        · exact (u1_n _ _ hpq).trans (hz p (by omega))
  exact zero 21 0 (by omega) (by omega) h _ _ _ _ Sm.rf (fun p hp => by omega) rfl
set_option maxHeartbeats 4000000 in
/-- who is hidden on any line, by the order that stands in the row 95 from 0 on -/
theorem c_M_hidden_95 {S : Nat → Int} {x : Int32} {h : St} {Q : Option Value → St → Prop} (hS : MS S h) (hW : WP S) (n : Nat) (o : Nat → Nat) (hn : S 1 = n) (hn2 : n ≤ 20) (hlim : 0 ≤ S 2 ∧ S 2 ≤ 8) (ho : ∀ k, k < n → o k < 20) (hrow : ∀ k, k < n → h.2 95 (0 + k) = iI (o k))
    (hQ : ∀ (h' : St) (w : Nat), Sm [] [98] h h' → w < 2 ^ 20 → (∀ p, p < 20 → w.testBit p = decide (0 < hT S o n 48 p)) → (∀ p, p < 20 → h'.2 98 p = iI (hT S o n 48 p)) → Q (some (.int (nI w))) h') (hx : x = iI 0) : SC y_M_hidden [.ref 90, .ref 95, .int x] h Q := by
  refine w_call IS_ok [5] ok_M_hidden rfl rfl ?_
  have inner : ∀ (y : Nat), y < 48 → (∀ (hc : St) (w : Nat) (L5 L6 L7 : Option Value) (z3 z4 : Int32), Sm [] [98] h hc → w < 2 ^ 20 → (∀ p, p < 20 → w.testBit p = decide (0 < hT S o n (y + 1) p)) → (∀ p, p < 20 → hc.2 98 p = iI (hT S o n (y + 1) p)) → z3 = nI w → z4 = iI (y + 1 : Nat) → SR y_M_hidden 29 [some (.ref 90), some (.ref 95), some (.int x), some (.int z3), some (.int z4), L5, L6, L7] [] hc Q) →
      ∀ (m k : Nat), n + 1 ≤ k + m → k ≤ n → ∀ (hc : St) (w : Nat) (L7 : Option Value) (z3 z4 z5 z6 : Int32), Sm [] [98] h hc → w < 2 ^ 20 → (∀ p, p < 20 → w.testBit p = decide (0 < hT S o n y p + hR S o y k p)) → (∀ p, p < 20 → hc.2 98 p = iI ((hT S o n y p + hR S o y k p : Nat) : Int)) → z3 = nI w → z4 = iI y → z5 = iI (cn S o y k) → z6 = iI k → SR y_M_hidden 42 [some (.ref 90), some (.ref 95), some (.int x), some (.int z3), some (.int z4), some (.int z5), some (.int z6), L7] [] hc Q := by
    intro y hy48 hnext m
    induction m with
    | zero => intro k h1 h2; omega
    | succ m ih =>
      intro k h1 h2 hc w L7 z3 z4 z5 z6 hsm hw hbits hvals e3 e4 e5 e6
      have hSc := hS.sm hsm (by decide)
      have hcn := cn_le S o y k
      refine w_loop IS_ok [29, 42] ok_M_hidden ?_
      refine w_ix 1 (w_le (S 1) k (fun h3 => ?_) (fun h3 => ?_) (hSc 1) e6) rfl (show 1 < 270 by omega)
      · have hk : k = n := by omega
        subst hk
        exact hnext hc w _ _ _ _ _ hsm hw hbits hvals e3 (iI_1 e4)
      · have hkn : k < n := by omega
        have hok := ho k hkn
        have hrk : hc.2 95 (0 + k) = iI (o k) := by rw [hsm.2 95 (by decide)]; exact hrow k hkn
        refine w_ix (0 + k) ?_ ?_ (show 0 + k < 20 by omega)
        · refine c_M_stands hSc hW (o k) y ?_ hrk e4 hok (by omega)
          refine w_b (fun h4 => ?_) (fun h4 => ?_)
          · have e0 : ∀ p, hR S o y (k + 1) p = hR S o y k p := fun p => by
              rw [hR_s, show hA S o y k = 0 from if_neg (fun z => h4 z.1)]
              split <;> rfl
            exact ih (k + 1) (by omega) (by omega) hc w _ _ _ _ _ hsm hw (fun p hp => by rw [e0]; exact hbits p hp) (fun p hp => by rw [e0]; exact hvals p hp) e3 e4 (by rw [cn_f h4]; exact e5) (iI_1 e6)
          · have e5' := iI_1 e5
            have hct := cn_t (S := S) (o := o) (y := y) (k := k) h4
            have hTb : ∀ p, hT S o n y p + hR S o y k p ≤ 1000 := fun p => by
              have := hT_le S o n y p
              have := hR_le S o y k p
              have : y * n ≤ 48 * 20 := Nat.mul_le_mul (by omega) hn2
              omega
            have fin : ∀ (hc' : St) (w' : Nat) (z3' : Int32) (d : Nat) (L7 : Option Value), hA S o y k = d → Sm [] [98] h hc' → w' < 2 ^ 20 → z3' = nI w' → (∀ p, p < 20 → w'.testBit p = (w.testBit p || (decide (d = 1) && decide (o k = p)))) → (∀ p, p < 20 → hc'.2 98 p = if p = o k then hc.2 98 p + iI d else hc.2 98 p) → SR y_M_hidden 42 [some (.ref 90), some (.ref 95), some (.int x), some (.int z3'), some (.int z4), some (.int (z5 + 1)), some (.int (z6 + 1)), L7] [] hc' Q := by
              intro hc' w' z3' d L7 hd hsm' hw' e3' hb' hv'
              have hd1 : d ≤ 1 := hd ▸ hA_le S o y k
              refine ih (k + 1) (by omega) (by omega) hc' w' _ _ _ _ _ hsm' hw' (fun p hp => ?_) (fun p hp => ?_) e3' e4 (by rw [hct]; exact e5') (iI_1 e6)
              · rw [hb' p hp, hbits p hp, hR_s, hd]
                by_cases hop : o k = p
                · rw [if_pos hop]
                  by_cases hd0 : d = 1
                  · simp [hd0, hop]
                    omega
                  · have : d = 0 := by omega
                    simp [this, hop]
                · rw [if_neg hop]
                  simp [hop]
              · rw [hv' p hp, hvals p hp, hR_s, hd]
                by_cases hop : p = o k
                · rw [if_pos hop, if_pos hop.symm, iI_add]
                  exact congrArg iI (by omega)
                · rw [if_neg hop, if_neg (fun z => hop z.symm)]
                  exact congrArg iI (by omega)
            have wrt : ∀ d : Nat, Sm [] [98] h (hc.1, u1 hc.2 98 (u1 (hc.2 98) (o k) (hc.2 98 (o k) + iI d))) ∧ ∀ p, p < 20 → (u1 hc.2 98 (u1 (hc.2 98) (o k) (hc.2 98 (o k) + iI d))) 98 p = if p = o k then hc.2 98 p + iI d else hc.2 98 p := fun d => by
              refine ⟨hsm.t (Sm.wr _ (by decide)), fun p hp => ?_⟩
              rw [u1_s]
              unfold u1
              split
              · next hh => rw [hh]
              · rfl
            refine w_ix (o k) ?_ hrk (show o k < 20 from hok)
            refine w_ix 2 (w_le ((cn S o y k + 1 : Nat) : Int) (S 2) (fun h5 => ?_) (fun h5 => ?_) e5' (hSc 2)) rfl (show 2 < 270 by omega)
            · have hd : hA S o y k = 0 := if_neg (fun z => by have := z.2; rw [hct] at this; omega)
              refine w_ix (o k) ?_ hrk (show o k < 20 from hok)
              obtain ⟨g1, g2⟩ := wrt 0
              refine w_ix 2 (w_le ((cn S o y k + 1 : Nat) : Int) (S 2) (fun h6 => ?_) (fun h6 => by omega) e5' ((hS.sm g1 (by decide)) 2)) rfl (show 2 < 270 by omega)
              refine fin _ w _ 0 _ hd g1 hw ?_ (fun p hp => by simp) g2
              show z3 ||| 0 = nI w
              rw [e3, show (0 : Int32) = nI 0 from rfl, fa_or, Nat.or_zero]
            · have hd : hA S o y k = 1 := if_pos ⟨h4, by rw [hct]; omega⟩
              refine w_ix (o k) ?_ hrk (show o k < 20 from hok)
              obtain ⟨g1, g2⟩ := wrt 1
              refine w_ix 2 (w_le ((cn S o y k + 1 : Nat) : Int) (S 2) (fun h6 => by omega) (fun h6 => ?_) e5' ((hS.sm g1 (by decide)) 2)) rfl (show 2 < 270 by omega)
              refine fin _ (w ||| 2 ^ o k) _ 1 _ hd g1 (bit_or_b hw hok) ?_ (fun p hp => by rw [bit_or_t]; simp) g2
              show z3 ||| ((1 : Int32) <<< (hc.2 95 (0 + k) &&& 31)) = nI (w ||| 2 ^ o k)
              rw [e3, hrk, bit_or hok]
        · rw [hx, e6]
          exact (iI_add 0 k).trans (congrArg iI (by omega))
  have outer : ∀ (m y : Nat), 49 ≤ y + m → y ≤ 48 → ∀ (hc : St) (w : Nat) (L5 L6 L7 : Option Value) (z3 z4 : Int32), Sm [] [98] h hc → w < 2 ^ 20 → (∀ p, p < 20 → w.testBit p = decide (0 < hT S o n y p)) → (∀ p, p < 20 → hc.2 98 p = iI (hT S o n y p)) → z3 = nI w → z4 = iI y → SR y_M_hidden 29 [some (.ref 90), some (.ref 95), some (.int x), some (.int z3), some (.int z4), L5, L6, L7] [] hc Q := by
    intro m
    induction m with
    | zero => intro y h1 h2; omega
    | succ m ih =>
      intro y h1 h2 hc w L5 L6 L7 z3 z4 hsm hw hbits hvals e3 e4
      refine w_loop IS_ok [42] ok_M_hidden ?_
      refine w_le 48 y (fun h3 => ?_) (fun h3 => ?_) rfl e4
      · have : y = 48 := by omega
        subst this
        rw [e3]
        exact hQ hc w hsm hw hbits hvals
      · exact inner y (by omega) (fun hc w L5 L6 L7 z3 z4 a1 a2 a3 a4 a5 a6 => ih (y + 1) (by omega) (by omega) hc w L5 L6 L7 z3 z4 a1 a2 a3 a4 a5 a6) (n + 1) 0 (by omega) (by omega) hc w _ _ _ _ _ hsm hw hbits hvals e3 e4 rfl rfl
  have zero : ∀ (m q : Nat), 21 ≤ q + m → q ≤ 20 → ∀ (hc : St) (L5 L6 L7 : Option Value) (z4 : Int32), Sm [] [98] h hc → (∀ p, p < q → hc.2 98 p = 0) → z4 = iI q → SR y_M_hidden 5 [some (.ref 90), some (.ref 95), some (.int x), some (.int 0), some (.int z4), L5, L6, L7] [] hc Q := by
    intro m
    induction m with
    | zero => intro q h1 h2; omega
    | succ m ih =>
      intro q h1 h2 hc L5 L6 L7 z4 hsm hz e4
      refine w_loop IS_ok [5, 29] ok_M_hidden ?_
      refine w_le 20 q (fun h3 => ?_) (fun h3 => ?_) rfl e4
      · have hq : q = 20 := by omega
        subst hq
        exact outer 49 0 (by omega) (by omega) hc 0 _ _ _ _ _ hsm (by decide) (fun p hp => by simp [hT, sm]) (fun p hp => hz p hp) rfl rfl
      · refine w_ix q ?_ e4 (show q < 20 by omega)
        refine ih (q + 1) (by omega) (by omega) _ _ _ _ _ (hsm.t (Sm.wr _ (by decide))) (fun p hp => ?_) (iI_1 e4)
        show u1 hc.2 98 _ 98 p = 0
        rw [u1_s]
        by_cases hpq : p = q
        · rw [hpq]; exact u1_s _ _ _
        · exact (u1_n _ _ hpq).trans (hz p (by omega))
  exact zero 21 0 (by omega) (by omega) h _ _ _ _ Sm.rf (fun p hp => by omega) rfl
end
section
/-! a place of a row is written -/
def wa (h : St) (a j : Nat) (x : Int32) : St := (h.1, u1 h.2 a (u1 (h.2 a) j x))
theorem wa_s (h : St) (a j : Nat) (x : Int32) : (wa h a j x).2 a j = x := by show u1 h.2 a (u1 (h.2 a) j x) a j = x; rw [u1_s, u1_s]
theorem wa_n (h : St) (a j : Nat) (x : Int32) {i : Nat} (hi : i ≠ j) : (wa h a j x).2 a i = h.2 a i := by show u1 h.2 a (u1 (h.2 a) j x) a i = _; rw [u1_s, u1_n _ _ hi]
theorem wa_o (h : St) (a j : Nat) (x : Int32) {b : Nat} (hb : b ≠ a) : (wa h a j x).2 b = h.2 b := u1_n _ _ hb
theorem Sm.wa {X : List (Nat × Nat)} {Y : List Nat} {h : St} {a : Nat} (j : Nat) (x : Int32) (ha : a ∈ Y) : Sm X Y h (wa h a j x) := Sm.wr _ ha
/-! an order takes its turn -/
def ol (o : Nat → Nat) (n : Nat) : List Nat := (List.range n).map o
def fl (l : List Nat) : Nat → Nat := fun k => l.getD k 0
theorem ol_len (o : Nat → Nat) (n : Nat) : (ol o n).length = n := by simp [ol]
theorem ol_s (o : Nat → Nat) (n : Nat) : ol o (n + 1) = ol o n ++ [o n] := by simp [ol, List.range_succ]
theorem ol_fil_le (o : Nat → Nat) (C : Nat → Bool) {a b : Nat} (h : a ≤ b) : ((ol o a).filter C).length ≤ ((ol o b).filter C).length := by
  induction b with
  | zero => rw [Nat.le_zero.mp h]; exact Nat.le_refl _
  | succ b ih =>
    by_cases hb : a = b + 1
    · rw [hb]; exact Nat.le_refl _
    · have := ih (by omega)
      rw [ol_s, List.filter_append, List.length_append]
      omega
theorem fl_ol {o : Nat → Nat} {n k : Nat} (h : k < n) : fl (ol o n) k = o k := by simp [fl, ol, List.getD_eq_getElem?_getD, h]
theorem ol_congr {o o' : Nat → Nat} {n : Nat} (h : ∀ k, k < n → o k = o' k) : ol o n = ol o' n := List.map_congr_left (fun k hk => h k (List.mem_range.mp hk))
theorem fl_app {l m : List Nat} {k : Nat} (h : k < l.length) : fl (l ++ m) k = fl l k := by simp [fl, List.getD_eq_getElem?_getD, List.getElem?_append_left h]
theorem fl_end {l : List Nat} {x k : Nat} (h : k = l.length) : fl (l ++ [x]) k = x := by subst h; simp [fl, List.getD_eq_getElem?_getD]
theorem filt_perm (B : Nat → Bool) : ∀ l : List Nat, (l.filter B ++ l.filter (fun p => !B p)).Perm l
  | [] => by simp
  | a :: r => by
    have ih := filt_perm B r
    cases h : B a with
    | true =>
      simp only [List.filter_cons, h, if_true, Bool.not_true, Bool.false_eq_true, if_false, List.cons_append]
      exact ih.cons a
    | false =>
      simp only [List.filter_cons, h, Bool.false_eq_true, if_false, Bool.not_false, if_true]
      exact List.perm_middle.trans (ih.cons a)
/-- the order behind its turn -/
def turnL (B : Nat → Bool) (rule : Int) (step n : Nat) (o : Nat → Nat) : List Nat := if rule = 2 then (ol o n).filter B ++ (ol o n).filter (fun p => !B p) else if rule = 1 then ol (fun k => o ((k + step) % n)) n else ol o n
theorem turnL_len (B : Nat → Bool) (rule : Int) (step n : Nat) (o : Nat → Nat) : (turnL B rule step n o).length = n := by
  unfold turnL
  split
  · rw [(filt_perm B (ol o n)).length_eq, ol_len]
  · split <;> rw [ol_len]
theorem turnL_mem {B : Nat → Bool} {rule : Int} {step n : Nat} {o : Nat → Nat} {x : Nat} (h : x ∈ turnL B rule step n o) : ∃ k, k < n ∧ o k = x := by
  have key : ∀ {o' : Nat → Nat}, x ∈ ol o' n → ∃ k, k < n ∧ o' k = x := fun hx => by
    obtain ⟨k, hk, e⟩ := List.mem_map.mp hx
    exact ⟨k, List.mem_range.mp hk, e⟩
  unfold turnL at h
  split at h
  · exact key ((filt_perm B (ol o n)).mem_iff.mp h)
  · split at h
    · obtain ⟨k, hk, e⟩ := key h
      exact ⟨(k + step) % n, Nat.mod_lt _ (by omega), e⟩
    · exact key h
theorem fl_mem {l : List Nat} {k : Nat} (h : k < l.length) : fl l k ∈ l := by
  unfold fl
  rw [List.getD_eq_getElem?_getD, List.getElem?_eq_getElem h]
  exact List.getElem_mem h
theorem modr {x y : Int32} {a b : Nat} (hx : x = iI a) (hy : y = iI b) (ha : a < 2 ^ 31) (hb : b < 2 ^ 31) (h0 : 0 < b) : x - x / y * y = iI ((a % b : Nat) : Int) := by
  rw [hx, hy, ← iI_nat, ← iI_nat, pk_rem ha h0 hb]
  rfl
theorem bit_is {w p : Nat} {B : Nat → Bool} (hw : w < 2 ^ 20) (hp : p < 20) (hb : w.testBit p = B p) : (nI w >>> (iI p &&& 31)) &&& 1 = iI (if B p then 1 else 0) := by rw [bit_at hw hp, hb]
set_option maxHeartbeats 4000000 in
theorem c_M_takeTurn_91 {x1 x2 x3 x4 : Int32} {h : St} {Q : Option Value → St → Prop} (n : Nat) (o : Nat → Nat) (B : Nat → Bool) (rule : Int) (step w : Nat) (hn : h.2 91 1 = iI n) (hn2 : n ≤ 20) (ho : ∀ k, k < n → o k < 20) (hrow : ∀ k, k < n → h.2 91 (6 + k) = iI (o k)) (hru : 0 ≤ rule ∧ rule ≤ 2) (hst : step ≤ 19) (hw : w < 2 ^ 20) (hbit : ∀ p, p < 20 → w.testBit p = B p)
    (hQ : ∀ h' : St, Sm [] [96, 91] h h' → (∀ k, k < n → h'.2 91 (6 + k) = iI (fl (turnL B rule step n o) k)) → (∀ i, i < 6 ∨ 6 + n ≤ i → h'.2 91 i = h.2 91 i) → Q none h') (hx1 : x1 = iI 6) (hx2 : x2 = iI rule) (hx3 : x3 = iI step) (hx4 : x4 = nI w) : SC y_M_takeTurn [.ref 90, .ref 91, .int x1, .int x2, .int x3, .int x4] h Q := by
  refine w_call IS_ok [14] ok_M_takeTurn rfl rfl ?_
  refine w_ix 1 ?_ rfl (show 1 < 270 by omega)
  have ix : ∀ {z : Int32} {k : Nat}, z = iI k → x1 + z = iI ((6 + k : Nat) : Int) := fun hz => by rw [hx1, hz]; exact (iI_add 6 _).trans (congrArg iI (by omega))
  generalize hz6 : IS.2.2.2.2.1 h 91 1 = z6
  have e6 : z6 = iI n := hz6 ▸ hn
  have copy : ∀ (m k : Nat), n + 1 ≤ k + m → k ≤ n → ∀ (hc : St) (z7 z8 : Int32) (L9 : Option Value), Sm [] [96, 91] h hc → (∀ i, i < n → hc.2 96 i = iI (fl (turnL B rule step n o) i)) → (∀ i, i < k → hc.2 91 (6 + i) = iI (fl (turnL B rule step n o) i)) → (∀ i, i < 6 ∨ 6 + k ≤ i → hc.2 91 i = h.2 91 i) → z8 = iI k → SR y_M_takeTurn 134 [some (.ref 90), some (.ref 91), some (.int x1), some (.int x2), some (.int x3), some (.int x4), some (.int z6), some (.int z7), some (.int z8), L9] [] hc Q := by
    intro m
    induction m with
    | zero => intro k h1 h2; omega
    | succ m ih =>
      intro k h1 h2 hc z7 z8 L9 hsm hmv hrw hot e8
      refine w_loop IS_ok [134] ok_M_takeTurn ?_
      refine w_le n k (fun h3 => ?_) (fun h3 => ?_) e6 e8
      · have : k = n := by omega
        subst this
        exact hQ hc hsm hrw hot
      · refine w_ix k ?_ e8 (show k < 20 by omega)
        refine w_ix (6 + k) ?_ (ix e8) (show 6 + k < 270 by omega)
        refine ih (k + 1) (by omega) (by omega) (wa hc 91 (6 + k) (hc.2 96 k)) _ _ _ (hsm.t (Sm.wa _ _ (by decide))) (fun i hi => ?_) (fun i hi => ?_) (fun i hi => ?_) (iI_1 e8)
        · rw [wa_o _ _ _ _ (by decide)]
          exact hmv i hi
        · by_cases hik : i = k
          · rw [hik, wa_s]
            exact hmv k (by omega)
          · rw [wa_n _ _ _ _ (by omega)]
            exact hrw i (by omega)
        · rw [wa_n _ _ _ _ (by omega)]
          exact hot i (by omega)
  have row : ∀ {hc : St}, Sm [] [96] h hc → ∀ k, k < n → hc.2 91 (6 + k) = iI (o k) := fun hsm k hk => by rw [hsm.2 91 (by decide)]; exact hrow k hk
  have cp0 : ∀ (hc : St) (z7 : Int32) (L8 L9 : Option Value), Sm [] [96] h hc → (∀ i, i < n → hc.2 96 i = iI (fl (turnL B rule step n o) i)) → SR y_M_takeTurn 131 [some (.ref 90), some (.ref 91), some (.int x1), some (.int x2), some (.int x3), some (.int x4), some (.int z6), some (.int z7), L8, L9] [] hc Q := by
    intro hc z7 L8 L9 hsm hmv
    refine w_loop IS_ok [134] ok_M_takeTurn ?_
    exact copy (n + 1) 0 (by omega) (by omega) hc _ _ _ (hsm.mo (fun _ z => z) (fun q hq => by simp only [List.mem_cons, List.not_mem_nil, or_false] at hq ⊢; exact Or.inl hq)) hmv (fun i hi => by omega) (fun i _ => by rw [hsm.2 91 (by decide)]) rfl
  have rot : rule < 2 → ∀ (m k : Nat), n + 1 ≤ k + m → k ≤ n → ∀ (hc : St) (z7 z8 : Int32) (L9 : Option Value), Sm [] [96] h hc → (∀ i, i < k → hc.2 96 i = iI (fl (turnL B rule step n o) i)) → z8 = iI k → SR y_M_takeTurn 84 [some (.ref 90), some (.ref 91), some (.int x1), some (.int x2), some (.int x3), some (.int x4), some (.int z6), some (.int z7), some (.int z8), L9] [] hc Q := by
    intro hr2 m
    induction m with
    | zero => intro k h1 h2; omega
    | succ m ih =>
      intro k h1 h2 hc z7 z8 L9 hsm hmv e8
      refine w_loop IS_ok [84, 131] ok_M_takeTurn ?_
      refine w_le n k (fun h3 => ?_) (fun h3 => ?_) e6 e8
      · have : k = n := by omega
        subst this
        exact cp0 hc _ _ _ hsm hmv
      · have h3 : k < n := by omega
        refine w_le 2 rule (fun h4 => by omega) (fun _ => ?_) rfl hx2
        have next : ∀ (v : Int32), v = iI (fl (turnL B rule step n o) k) → SR y_M_takeTurn 84 [some (.ref 90), some (.ref 91), some (.int x1), some (.int x2), some (.int x3), some (.int x4), some (.int z6), some (.int z7), some (.int (z8 + 1)), L9] [] (wa hc 96 k v) Q := by
          intro v hv
          refine ih (k + 1) (by omega) (by omega) (wa hc 96 k v) _ _ _ (hsm.t (Sm.wa _ _ (by decide))) (fun i hi => ?_) (iI_1 e8)
          by_cases hik : i = k
          · rw [hik, wa_s]; exact hv
          · rw [wa_n _ _ _ _ hik]; exact hmv i (by omega)
        refine w_eq rule 1 (fun h4 => ?_) (fun h4 => ?_) hx2 rfl
        · have eks : z8 + x3 = iI ((k + step : Nat) : Int) := by rw [e8, hx3]; exact (iI_add _ _).trans (congrArg iI (by omega))
          refine ⟨fun z => ?_, ?_⟩
          · rw [e6] at z
            have := (iI_eq (a := n) (b := 0) (by omega) (by omega)).mp z
            omega
          · have hlt : (k + step) % n < n := Nat.mod_lt _ (by omega)
            refine w_ix (6 + (k + step) % n) ?_ (ix (modr eks e6 (by omega) (by omega) (by omega))) (show 6 + (k + step) % n < 270 by omega)
            refine w_ix k ?_ e8 (show k < 20 by omega)
            refine next _ ?_
            refine (row hsm _ hlt).trans ?_
            unfold turnL
            rw [if_neg (by omega), if_pos h4, fl_ol h3]
        · refine w_ix (6 + k) ?_ (ix e8) (show 6 + k < 270 by omega)
          refine w_ix k ?_ e8 (show k < 20 by omega)
          refine next _ ?_
          refine (row hsm _ h3).trans ?_
          unfold turnL
          rw [if_neg (by omega), if_neg h4, fl_ol h3]
  have part : ∀ (P : List Nat) (C : Nat → Bool) (pass : Nat), pass < 2 → (∀ p, p < 20 → ((if B p then 1 else 0 : Int) = 1 - pass ↔ C p = true)) → P.length + ((ol o n).filter C).length ≤ n →
      (∀ (hc : St) (z7 z8 : Int32) (L9 : Option Value), Sm [] [96] h hc → (∀ i, i < (P ++ (ol o n).filter C).length → hc.2 96 i = iI (fl (P ++ (ol o n).filter C) i)) → z7 = iI ((P ++ (ol o n).filter C).length : Nat) → z8 = iI (pass + 1 : Nat) → SR y_M_takeTurn 14 [some (.ref 90), some (.ref 91), some (.int x1), some (.int x2), some (.int x3), some (.int x4), some (.int z6), some (.int z7), some (.int z8), L9] [] hc Q) →
      ∀ (m k : Nat), n + 1 ≤ k + m → k ≤ n → ∀ (hc : St) (z7 z8 z9 : Int32), Sm [] [96] h hc → (∀ i, i < (P ++ (ol o k).filter C).length → hc.2 96 i = iI (fl (P ++ (ol o k).filter C) i)) → z7 = iI ((P ++ (ol o k).filter C).length : Nat) → z8 = iI pass → z9 = iI k → SR y_M_takeTurn 28 [some (.ref 90), some (.ref 91), some (.int x1), some (.int x2), some (.int x3), some (.int x4), some (.int z6), some (.int z7), some (.int z8), some (.int z9)] [] hc Q := by
    intro P C pass hpass hC hlen hnext m
    induction m with
    | zero => intro k h1 h2; omega
    | succ m ih =>
      intro k h1 h2 hc z7 z8 z9 hsm hmv e7 e8 e9
      refine w_loop IS_ok [14, 28] ok_M_takeTurn ?_
      refine w_le n k (fun h3 => ?_) (fun h3 => ?_) e6 e9
      · have : k = n := by omega
        subst this
        exact hnext hc _ _ _ hsm hmv e7 (iI_1 e8)
      · have h3 : k < n := by omega
        have hok := ho k h3
        refine w_ix (6 + k) ?_ (ix e9) (show 6 + k < 270 by omega)
        have eb : (x4 >>> (hc.2 91 (6 + k) &&& 31)) &&& 1 = iI (if B (o k) then 1 else 0) := by rw [hx4, row hsm k h3]; exact bit_is hw hok (hbit _ hok)
        have ep : (1 : Int32) - z8 = iI (1 - (pass : Int)) := by rw [e8]; exact iI_sub 1 pass
        have hcc := hC (o k) hok
        refine w_eq (if B (o k) then 1 else 0 : Int) (1 - pass) (fun h4 => ?_) (fun h4 => ?_) eb ep (by split <;> omega) (by omega)
        · have hCt := hcc.mp h4
          have es : P ++ (ol o (k + 1)).filter C = (P ++ (ol o k).filter C) ++ [o k] := by rw [ol_s, List.filter_append, List.filter_cons, if_pos hCt]; simp
          have hl2 : (P ++ (ol o k).filter C).length < n := by
            have h5 := ol_fil_le o C (a := k + 1) (b := n) h3
            rw [ol_s, List.filter_append, List.filter_cons, if_pos hCt] at h5
            simp at h5 ⊢
            omega
          refine w_ix (6 + k) ?_ (ix e9) (show 6 + k < 270 by omega)
          refine w_ix (P ++ (ol o k).filter C).length ?_ e7 (show (P ++ (ol o k).filter C).length < 20 by omega)
          refine ih (k + 1) (by omega) (by omega) (wa hc 96 (P ++ (ol o k).filter C).length (hc.2 91 (6 + k))) _ _ _ (hsm.t (Sm.wa _ _ (by decide))) (fun i hi => ?_) (by rw [es, List.length_append]; exact iI_1 e7) e8 (iI_1 e9)
          rw [es] at hi ⊢
          by_cases hik : i = (P ++ (ol o k).filter C).length
          · rw [hik, wa_s, fl_end rfl]; exact row hsm k h3
          · rw [List.length_append] at hi
            simp only [List.length_cons, List.length_nil] at hi
            rw [wa_n _ _ _ _ hik, fl_app (by omega)]
            exact hmv i (by omega)
        · have hCf : ¬ C (o k) = true := fun z => h4 (hcc.mpr z)
          have es : P ++ (ol o (k + 1)).filter C = P ++ (ol o k).filter C := by rw [ol_s, List.filter_append, List.filter_cons, if_neg hCf]; simp
          exact ih (k + 1) (by omega) (by omega) _ _ _ _ hsm (by rw [es]; exact hmv) (by rw [es]; exact e7) e8 (iI_1 e9)
  have hlenT : ((ol o n).filter B).length + ((ol o n).filter (fun p => !B p)).length = n := by
    have := (filt_perm B (ol o n)).length_eq
    rw [List.length_append, ol_len] at this
    exact this
  by_cases hr2 : rule = 2
  · have fin : ∀ (hc : St) (z7 z8 : Int32) (L9 : Option Value), Sm [] [96] h hc → (∀ i, i < ((ol o n).filter B ++ (ol o n).filter (fun p => !B p)).length → hc.2 96 i = iI (fl ((ol o n).filter B ++ (ol o n).filter (fun p => !B p)) i)) → z8 = iI (1 + 1 : Nat) → SR y_M_takeTurn 14 [some (.ref 90), some (.ref 91), some (.int x1), some (.int x2), some (.int x3), some (.int x4), some (.int z6), some (.int z7), some (.int z8), L9] [] hc Q := by
      intro hc z7 z8 L9 hsm hmv e8
      refine w_loop IS_ok [131] ok_M_takeTurn ?_
      refine w_le 2 2 (fun _ => ?_) (fun h4 => by omega) rfl e8
      have hT : ∀ i, i < n → hc.2 96 i = iI (fl (turnL B rule step n o) i) := fun i hi => by
        unfold turnL
        rw [if_pos hr2]
        exact hmv i (by rw [List.length_append]; omega)
      refine w_le n 0 (fun h3 => ?_) (fun h3 => ?_) e6 rfl
      · exact cp0 hc _ _ _ hsm hT
      · refine w_le 2 rule (fun h4 => ?_) (fun h4 => by omega) rfl hx2
        exact cp0 hc _ _ _ hsm hT
    have second : ∀ (hc : St) (z7 z8 : Int32) (L9 : Option Value), Sm [] [96] h hc → (∀ i, i < ((ol o n).filter B).length → hc.2 96 i = iI (fl ((ol o n).filter B) i)) → z7 = iI (((ol o n).filter B).length : Nat) → z8 = iI (0 + 1 : Nat) → SR y_M_takeTurn 14 [some (.ref 90), some (.ref 91), some (.int x1), some (.int x2), some (.int x3), some (.int x4), some (.int z6), some (.int z7), some (.int z8), L9] [] hc Q := by
      intro hc z7 z8 L9 hsm hmv e7 e8
      refine w_loop IS_ok [28] ok_M_takeTurn ?_
      refine w_le 2 1 (fun h4 => by omega) (fun _ => ?_) rfl e8
      refine w_eq rule 2 (fun _ => ?_) (fun h4 => absurd hr2 h4) hx2 rfl
      refine part ((ol o n).filter B) (fun p => !B p) 1 (by omega) (fun p hp => by cases B p <;> simp) (by omega) (fun hc z7 z8 L9 a1 a2 a3 a4 => fin hc z7 z8 L9 a1 a2 a4) (n + 1) 0 (by omega) (by omega) hc _ _ _ hsm ?_ ?_ e8 rfl
      · simpa [ol] using hmv
      · simpa [ol] using e7
    refine w_loop IS_ok [28] ok_M_takeTurn ?_
    refine w_le 2 0 (fun h4 => by omega) (fun _ => ?_) rfl rfl
    refine w_eq rule 2 (fun _ => ?_) (fun h4 => absurd hr2 h4) hx2 rfl
    exact part [] B 0 (by omega) (fun p hp => by cases B p <;> simp) (by simp; omega) (fun hc z7 z8 L9 a1 a2 a3 a4 => second hc z7 z8 L9 a1 (by simpa using a2) (by simpa using a3) a4) (n + 1) 0 (by omega) (by omega) h _ _ _ Sm.rf (fun i hi => by simp [ol] at hi) rfl rfl rfl
  · refine w_loop IS_ok [84] ok_M_takeTurn ?_
    refine w_le 2 0 (fun h4 => by omega) (fun _ => ?_) rfl rfl
    refine w_eq rule 2 (fun h4 => absurd h4 hr2) (fun _ => ?_) hx2 rfl
    exact rot (by omega) (n + 1) 0 (by omega) (by omega) h _ _ _ Sm.rf (fun i hi => by omega) rfl
set_option maxHeartbeats 4000000 in
theorem c_M_takeTurn_95 {x1 x2 x3 x4 : Int32} {h : St} {Q : Option Value → St → Prop} (n : Nat) (o : Nat → Nat) (B : Nat → Bool) (rule : Int) (step w : Nat) (hn : h.2 91 1 = iI n) (hn2 : n ≤ 20) (ho : ∀ k, k < n → o k < 20) (hrow : ∀ k, k < n → h.2 95 (0 + k) = iI (o k)) (hru : 0 ≤ rule ∧ rule ≤ 2) (hst : step ≤ 19) (hw : w < 2 ^ 20) (hbit : ∀ p, p < 20 → w.testBit p = B p)
    (hQ : ∀ h' : St, Sm [] [96, 95] h h' → (∀ k, k < n → h'.2 95 (0 + k) = iI (fl (turnL B rule step n o) k)) → (∀ i, i < 0 ∨ 0 + n ≤ i → h'.2 95 i = h.2 95 i) → Q none h') (hx1 : x1 = iI 0) (hx2 : x2 = iI rule) (hx3 : x3 = iI step) (hx4 : x4 = nI w) : SC y_M_takeTurn [.ref 90, .ref 95, .int x1, .int x2, .int x3, .int x4] h Q := by
  refine w_call IS_ok [14] ok_M_takeTurn rfl rfl ?_
  refine w_ix 1 ?_ rfl (show 1 < 270 by omega)
  have ix : ∀ {z : Int32} {k : Nat}, z = iI k → x1 + z = iI ((0 + k : Nat) : Int) := fun hz => by rw [hx1, hz]; exact (iI_add 0 _).trans (congrArg iI (by omega))
  generalize hz6 : IS.2.2.2.2.1 h 91 1 = z6
  have e6 : z6 = iI n := hz6 ▸ hn
  have copy : ∀ (m k : Nat), n + 1 ≤ k + m → k ≤ n → ∀ (hc : St) (z7 z8 : Int32) (L9 : Option Value), Sm [] [96, 95] h hc → (∀ i, i < n → hc.2 96 i = iI (fl (turnL B rule step n o) i)) → (∀ i, i < k → hc.2 95 (0 + i) = iI (fl (turnL B rule step n o) i)) → (∀ i, i < 0 ∨ 0 + k ≤ i → hc.2 95 i = h.2 95 i) → z8 = iI k → SR y_M_takeTurn 134 [some (.ref 90), some (.ref 95), some (.int x1), some (.int x2), some (.int x3), some (.int x4), some (.int z6), some (.int z7), some (.int z8), L9] [] hc Q := by
    intro m
    induction m with
    | zero => intro k h1 h2; omega
    | succ m ih =>
      intro k h1 h2 hc z7 z8 L9 hsm hmv hrw hot e8
      refine w_loop IS_ok [134] ok_M_takeTurn ?_
      refine w_le n k (fun h3 => ?_) (fun h3 => ?_) e6 e8
      · have : k = n := by omega
        subst this
        exact hQ hc hsm hrw hot
      · refine w_ix k ?_ e8 (show k < 20 by omega)
        refine w_ix (0 + k) ?_ (ix e8) (show 0 + k < 20 by omega)
        refine ih (k + 1) (by omega) (by omega) (wa hc 95 (0 + k) (hc.2 96 k)) _ _ _ (hsm.t (Sm.wa _ _ (by decide))) (fun i hi => ?_) (fun i hi => ?_) (fun i hi => ?_) (iI_1 e8)
        · rw [wa_o _ _ _ _ (by decide)]
          exact hmv i hi
        · by_cases hik : i = k
          · rw [hik, wa_s]
            exact hmv k (by omega)
          · rw [wa_n _ _ _ _ (by omega)]
            exact hrw i (by omega)
        · rw [wa_n _ _ _ _ (by omega)]
          exact hot i (by omega)
  have row : ∀ {hc : St}, Sm [] [96] h hc → ∀ k, k < n → hc.2 95 (0 + k) = iI (o k) := fun hsm k hk => by rw [hsm.2 95 (by decide)]; exact hrow k hk
  have cp0 : ∀ (hc : St) (z7 : Int32) (L8 L9 : Option Value), Sm [] [96] h hc → (∀ i, i < n → hc.2 96 i = iI (fl (turnL B rule step n o) i)) → SR y_M_takeTurn 131 [some (.ref 90), some (.ref 95), some (.int x1), some (.int x2), some (.int x3), some (.int x4), some (.int z6), some (.int z7), L8, L9] [] hc Q := by
    intro hc z7 L8 L9 hsm hmv
    refine w_loop IS_ok [134] ok_M_takeTurn ?_
    exact copy (n + 1) 0 (by omega) (by omega) hc _ _ _ (hsm.mo (fun _ z => z) (fun q hq => by simp only [List.mem_cons, List.not_mem_nil, or_false] at hq ⊢; exact Or.inl hq)) hmv (fun i hi => by omega) (fun i _ => by rw [hsm.2 95 (by decide)]) rfl
  have rot : rule < 2 → ∀ (m k : Nat), n + 1 ≤ k + m → k ≤ n → ∀ (hc : St) (z7 z8 : Int32) (L9 : Option Value), Sm [] [96] h hc → (∀ i, i < k → hc.2 96 i = iI (fl (turnL B rule step n o) i)) → z8 = iI k → SR y_M_takeTurn 84 [some (.ref 90), some (.ref 95), some (.int x1), some (.int x2), some (.int x3), some (.int x4), some (.int z6), some (.int z7), some (.int z8), L9] [] hc Q := by
    intro hr2 m
    induction m with
    | zero => intro k h1 h2; omega
    | succ m ih =>
      intro k h1 h2 hc z7 z8 L9 hsm hmv e8
      refine w_loop IS_ok [84, 131] ok_M_takeTurn ?_
      refine w_le n k (fun h3 => ?_) (fun h3 => ?_) e6 e8
      · have : k = n := by omega
        subst this
        exact cp0 hc _ _ _ hsm hmv
      · have h3 : k < n := by omega
        refine w_le 2 rule (fun h4 => by omega) (fun _ => ?_) rfl hx2
        have next : ∀ (v : Int32), v = iI (fl (turnL B rule step n o) k) → SR y_M_takeTurn 84 [some (.ref 90), some (.ref 95), some (.int x1), some (.int x2), some (.int x3), some (.int x4), some (.int z6), some (.int z7), some (.int (z8 + 1)), L9] [] (wa hc 96 k v) Q := by
          intro v hv
          refine ih (k + 1) (by omega) (by omega) (wa hc 96 k v) _ _ _ (hsm.t (Sm.wa _ _ (by decide))) (fun i hi => ?_) (iI_1 e8)
          by_cases hik : i = k
          · rw [hik, wa_s]; exact hv
          · rw [wa_n _ _ _ _ hik]; exact hmv i (by omega)
        refine w_eq rule 1 (fun h4 => ?_) (fun h4 => ?_) hx2 rfl
        · have eks : z8 + x3 = iI ((k + step : Nat) : Int) := by rw [e8, hx3]; exact (iI_add _ _).trans (congrArg iI (by omega))
          refine ⟨fun z => ?_, ?_⟩
          · rw [e6] at z
            have := (iI_eq (a := n) (b := 0) (by omega) (by omega)).mp z
            omega
          · have hlt : (k + step) % n < n := Nat.mod_lt _ (by omega)
            refine w_ix (0 + (k + step) % n) ?_ (ix (modr eks e6 (by omega) (by omega) (by omega))) (show 0 + (k + step) % n < 20 by omega)
            refine w_ix k ?_ e8 (show k < 20 by omega)
            refine next _ ?_
            refine (row hsm _ hlt).trans ?_
            unfold turnL
            rw [if_neg (by omega), if_pos h4, fl_ol h3]
        · refine w_ix (0 + k) ?_ (ix e8) (show 0 + k < 20 by omega)
          refine w_ix k ?_ e8 (show k < 20 by omega)
          refine next _ ?_
          refine (row hsm _ h3).trans ?_
          unfold turnL
          rw [if_neg (by omega), if_neg h4, fl_ol h3]
  have part : ∀ (P : List Nat) (C : Nat → Bool) (pass : Nat), pass < 2 → (∀ p, p < 20 → ((if B p then 1 else 0 : Int) = 1 - pass ↔ C p = true)) → P.length + ((ol o n).filter C).length ≤ n →
      (∀ (hc : St) (z7 z8 : Int32) (L9 : Option Value), Sm [] [96] h hc → (∀ i, i < (P ++ (ol o n).filter C).length → hc.2 96 i = iI (fl (P ++ (ol o n).filter C) i)) → z7 = iI ((P ++ (ol o n).filter C).length : Nat) → z8 = iI (pass + 1 : Nat) → SR y_M_takeTurn 14 [some (.ref 90), some (.ref 95), some (.int x1), some (.int x2), some (.int x3), some (.int x4), some (.int z6), some (.int z7), some (.int z8), L9] [] hc Q) →
      ∀ (m k : Nat), n + 1 ≤ k + m → k ≤ n → ∀ (hc : St) (z7 z8 z9 : Int32), Sm [] [96] h hc → (∀ i, i < (P ++ (ol o k).filter C).length → hc.2 96 i = iI (fl (P ++ (ol o k).filter C) i)) → z7 = iI ((P ++ (ol o k).filter C).length : Nat) → z8 = iI pass → z9 = iI k → SR y_M_takeTurn 28 [some (.ref 90), some (.ref 95), some (.int x1), some (.int x2), some (.int x3), some (.int x4), some (.int z6), some (.int z7), some (.int z8), some (.int z9)] [] hc Q := by
    intro P C pass hpass hC hlen hnext m
    induction m with
    | zero => intro k h1 h2; omega
    | succ m ih =>
      intro k h1 h2 hc z7 z8 z9 hsm hmv e7 e8 e9
      refine w_loop IS_ok [14, 28] ok_M_takeTurn ?_
      refine w_le n k (fun h3 => ?_) (fun h3 => ?_) e6 e9
      · have : k = n := by omega
        subst this
        exact hnext hc _ _ _ hsm hmv e7 (iI_1 e8)
      · have h3 : k < n := by omega
        have hok := ho k h3
        refine w_ix (0 + k) ?_ (ix e9) (show 0 + k < 20 by omega)
        have eb : (x4 >>> (hc.2 95 (0 + k) &&& 31)) &&& 1 = iI (if B (o k) then 1 else 0) := by rw [hx4, row hsm k h3]; exact bit_is hw hok (hbit _ hok)
        have ep : (1 : Int32) - z8 = iI (1 - (pass : Int)) := by rw [e8]; exact iI_sub 1 pass
        have hcc := hC (o k) hok
        refine w_eq (if B (o k) then 1 else 0 : Int) (1 - pass) (fun h4 => ?_) (fun h4 => ?_) eb ep (by split <;> omega) (by omega)
        · have hCt := hcc.mp h4
          have es : P ++ (ol o (k + 1)).filter C = (P ++ (ol o k).filter C) ++ [o k] := by rw [ol_s, List.filter_append, List.filter_cons, if_pos hCt]; simp
          have hl2 : (P ++ (ol o k).filter C).length < n := by
            have h5 := ol_fil_le o C (a := k + 1) (b := n) h3
            rw [ol_s, List.filter_append, List.filter_cons, if_pos hCt] at h5
            simp at h5 ⊢
            omega
          refine w_ix (0 + k) ?_ (ix e9) (show 0 + k < 20 by omega)
          refine w_ix (P ++ (ol o k).filter C).length ?_ e7 (show (P ++ (ol o k).filter C).length < 20 by omega)
          refine ih (k + 1) (by omega) (by omega) (wa hc 96 (P ++ (ol o k).filter C).length (hc.2 95 (0 + k))) _ _ _ (hsm.t (Sm.wa _ _ (by decide))) (fun i hi => ?_) (by rw [es, List.length_append]; exact iI_1 e7) e8 (iI_1 e9)
          rw [es] at hi ⊢
          by_cases hik : i = (P ++ (ol o k).filter C).length
          · rw [hik, wa_s, fl_end rfl]; exact row hsm k h3
          · rw [List.length_append] at hi
            simp only [List.length_cons, List.length_nil] at hi
            rw [wa_n _ _ _ _ hik, fl_app (by omega)]
            exact hmv i (by omega)
        · have hCf : ¬ C (o k) = true := fun z => h4 (hcc.mpr z)
          have es : P ++ (ol o (k + 1)).filter C = P ++ (ol o k).filter C := by rw [ol_s, List.filter_append, List.filter_cons, if_neg hCf]; simp
          exact ih (k + 1) (by omega) (by omega) _ _ _ _ hsm (by rw [es]; exact hmv) (by rw [es]; exact e7) e8 (iI_1 e9)
  have hlenT : ((ol o n).filter B).length + ((ol o n).filter (fun p => !B p)).length = n := by
    have := (filt_perm B (ol o n)).length_eq
    rw [List.length_append, ol_len] at this
    exact this
  by_cases hr2 : rule = 2
  · have fin : ∀ (hc : St) (z7 z8 : Int32) (L9 : Option Value), Sm [] [96] h hc → (∀ i, i < ((ol o n).filter B ++ (ol o n).filter (fun p => !B p)).length → hc.2 96 i = iI (fl ((ol o n).filter B ++ (ol o n).filter (fun p => !B p)) i)) → z8 = iI (1 + 1 : Nat) → SR y_M_takeTurn 14 [some (.ref 90), some (.ref 95), some (.int x1), some (.int x2), some (.int x3), some (.int x4), some (.int z6), some (.int z7), some (.int z8), L9] [] hc Q := by
      intro hc z7 z8 L9 hsm hmv e8
      refine w_loop IS_ok [131] ok_M_takeTurn ?_
      refine w_le 2 2 (fun _ => ?_) (fun h4 => by omega) rfl e8
      have hT : ∀ i, i < n → hc.2 96 i = iI (fl (turnL B rule step n o) i) := fun i hi => by
        unfold turnL
        rw [if_pos hr2]
        exact hmv i (by rw [List.length_append]; omega)
      refine w_le n 0 (fun h3 => ?_) (fun h3 => ?_) e6 rfl
      · exact cp0 hc _ _ _ hsm hT
      · refine w_le 2 rule (fun h4 => ?_) (fun h4 => by omega) rfl hx2
        exact cp0 hc _ _ _ hsm hT
    have second : ∀ (hc : St) (z7 z8 : Int32) (L9 : Option Value), Sm [] [96] h hc → (∀ i, i < ((ol o n).filter B).length → hc.2 96 i = iI (fl ((ol o n).filter B) i)) → z7 = iI (((ol o n).filter B).length : Nat) → z8 = iI (0 + 1 : Nat) → SR y_M_takeTurn 14 [some (.ref 90), some (.ref 95), some (.int x1), some (.int x2), some (.int x3), some (.int x4), some (.int z6), some (.int z7), some (.int z8), L9] [] hc Q := by
      intro hc z7 z8 L9 hsm hmv e7 e8
      refine w_loop IS_ok [28] ok_M_takeTurn ?_
      refine w_le 2 1 (fun h4 => by omega) (fun _ => ?_) rfl e8
      refine w_eq rule 2 (fun _ => ?_) (fun h4 => absurd hr2 h4) hx2 rfl
      refine part ((ol o n).filter B) (fun p => !B p) 1 (by omega) (fun p hp => by cases B p <;> simp) (by omega) (fun hc z7 z8 L9 a1 a2 a3 a4 => fin hc z7 z8 L9 a1 a2 a4) (n + 1) 0 (by omega) (by omega) hc _ _ _ hsm ?_ ?_ e8 rfl
      · simpa [ol] using hmv
      · simpa [ol] using e7
    refine w_loop IS_ok [28] ok_M_takeTurn ?_
    refine w_le 2 0 (fun h4 => by omega) (fun _ => ?_) rfl rfl
    refine w_eq rule 2 (fun _ => ?_) (fun h4 => absurd hr2 h4) hx2 rfl
    exact part [] B 0 (by omega) (fun p hp => by cases B p <;> simp) (by simp; omega) (fun hc z7 z8 L9 a1 a2 a3 a4 => second hc z7 z8 L9 a1 (by simpa using a2) (by simpa using a3) a4) (n + 1) 0 (by omega) (by omega) h _ _ _ Sm.rf (fun i hi => by simp [ol] at hi) rfl rfl rfl
  · refine w_loop IS_ok [84] ok_M_takeTurn ?_
    refine w_le 2 0 (fun h4 => by omega) (fun _ => ?_) rfl rfl
    refine w_eq rule 2 (fun h4 => absurd h4 hr2) (fun _ => ?_) hx2 rfl
    exact rot (by omega) (n + 1) 0 (by omega) (by omega) h _ _ _ Sm.rf (fun i hi => by omega) rfl
end
section
/-! what the acts make of the state -/
theorem iI_p {x : Int32} {k : Nat} (h : x = iI k) (hk : 0 < k) : x + (-1) = iI ((k - 1 : Nat) : Int) := by
  rw [h, show (-1 : Int32) = iI (-1) from by decide, iI_add]
  exact congrArg iI (by omega)
theorem u1_app {α : Type} (f : Nat → α) (k : Nat) (x : α) (j : Nat) : u1 f k x j = if j = k then x else f j := rfl
theorem MS.wa {S : Nat → Int} {h : St} (hS : MS S h) (i : Nat) (z : Int) : MS (u1 S i z) (wa h 91 i (iI z)) := MS_set hS i z h.1
def mvS (S : Nat → Int) (p : Nat) (x y : Int) : Nat → Int := u1 (u1 S (26 + 9 * p) x) (26 + 9 * p + 1) y
theorem c_M_put' {x y z : Int32} {h : St} {Q : Option Value → St → Prop} (pu k : Nat) (hQ : Q none (wa h 91 (26 + 9 * pu + k) z)) (hx : x = iI pu) (hy : y = iI k) (hp : pu < 20) (hk : k < 9) : SC y_M_put [.ref 90, .int x, .int y, .int z] h Q := c_M_put pu k hQ hx hy hp hk
theorem c_M_moveNow {S : Nat → Int} {x1 x2 x3 : Int32} {h : St} {Q : Option Value → St → Prop} (hS : MS S h) (p : Nat) (x y : Int) (hW : WP (mvS S p x y)) (hp : p < 20) (hQ : ∀ h', Sm [] [91] h h' → MS (mvS S p x y) h' → Q (some (.int (iI (lns (mvS S p x y) p 48)))) h') (h1 : x1 = iI p) (h2 : x2 = iI x) (h3 : x3 = iI y) : SC y_M_moveNow [.ref 90, .int x1, .int x2, .int x3] h Q := by
  refine w_call IS_ok [] ok_M_moveNow rfl rfl ?_
  subst h2; subst h3
  refine c_M_put' p 0 ?_ h1 rfl hp (by omega)
  refine c_M_put' p 1 ?_ h1 rfl hp (by omega)
  have hM : MS (mvS S p x y) (wa (wa h 91 (26 + 9 * p + 0) (iI x)) 91 (26 + 9 * p + 1) (iI y)) := (hS.wa _ _).wa _ _
  exact c_M_linesOf hM hW p (hQ _ ((Sm.wa _ _ (by decide)).t (Sm.wa _ _ (by decide))) hM) h1 hp
theorem c_M_turnNow {S : Nat → Int} {x1 x2 : Int32} {h : St} {Q : Option Value → St → Prop} (hS : MS S h) (p : Nat) (f : Int) (hp : p < 20) (hQ : ∀ h', Sm [] [91] h h' → MS (u1 S (26 + 9 * p + 5) f) h' → Q (some (.int (iI (S (26 + 9 * p + 5))))) h') (h1 : x1 = iI p) (h2 : x2 = iI f) : SC y_M_turnNow [.ref 90, .int x1, .int x2] h Q := by
  refine w_call IS_ok [] ok_M_turnNow rfl rfl ?_
  subst h2
  refine c_M_of hS p 5 ?_ h1 rfl hp (by omega)
  refine c_M_put' p 5 ?_ h1 rfl hp (by omega)
  exact hQ _ (Sm.wa _ _ (by decide)) (hS.wa _ _)
theorem c_M_limitNow {S : Nat → Int} {x1 : Int32} {h : St} {Q : Option Value → St → Prop} (hS : MS S h) (l : Int) (hQ : ∀ h', Sm [] [91] h h' → MS (u1 S 2 l) h' → Q (some (.int (iI (S 2)))) h') (h1 : x1 = iI l) : SC y_M_limitNow [.ref 90, .int x1] h Q := by
  refine w_call IS_ok [] ok_M_limitNow rfl rfl ?_
  subst h1
  refine w_ix 2 ?_ rfl (show 2 < 270 by omega)
  refine w_ix 2 ?_ rfl (show 2 < 270 by omega)
  have := hQ (wa h 91 2 (iI l)) (Sm.wa _ _ (by decide)) (hS.wa _ _)
  rw [← hS 2] at this
  exact this
theorem c_M_limitCode {x1 : Int32} {h : St} {Q : Option Value → St → Prop} (l : Int) (hQ : Q (some (.int (if 1 ≤ l ∧ l ≤ 8 then 0 else -101))) h) (h1 : x1 = iI l) (hl : rg l) : SC y_M_limitCode [.int x1] h Q := by
  refine w_call IS_ok [] ok_M_limitCode rfl rfl ?_
  refine c_M_in l 1 8 ?_ h1 rfl rfl hl (by omega) (by omega)
  refine w_b (fun h2 => ?_) (fun h2 => ?_)
  · rw [if_neg h2] at hQ; exact hQ
  · rw [if_pos h2] at hQ; exact hQ
theorem c_M_thereCode {S : Nat → Int} {x1 : Int32} {h : St} {Q : Option Value → St → Prop} (hS : MS S h) (hW : WF S) (p : Int) (hQ : Q (some (.int (if thr S p then 0 else -101))) h) (h1 : x1 = iI p) (hp : rg p) : SC y_M_thereCode [.ref 90, .int x1] h Q := by
  refine w_call IS_ok [] ok_M_thereCode rfl rfl ?_
  refine c_M_isThere hS hW p ?_ h1 hp
  refine w_b (fun h2 => ?_) (fun h2 => ?_)
  · rw [if_neg h2] at hQ; exact hQ
  · rw [if_pos h2] at hQ; exact hQ
theorem c_M_moveCode {S : Nat → Int} {x1 x2 x3 : Int32} {h : St} {Q : Option Value → St → Prop} (hS : MS S h) (hW : WF S) (p x y : Int) (hQ : Q (some (.int (if thr S p ∧ (-15 ≤ x ∧ x ≤ 63) ∧ (-15 ≤ y ∧ y ≤ 47) then 0 else -101))) h) (h1 : x1 = iI p) (h2 : x2 = iI x) (h3 : x3 = iI y) (hp : rg p) (hx : rg x) (hy : rg y) : SC y_M_moveCode [.ref 90, .int x1, .int x2, .int x3] h Q := by
  refine w_call IS_ok [] ok_M_moveCode rfl rfl ?_
  refine c_M_isThere hS hW p ?_ h1 hp
  refine w_b (fun h4 => ?_) (fun h4 => ?_)
  · rw [if_neg (fun z => h4 z.1)] at hQ; exact hQ
  · refine c_M_isPlace x y ?_ h2 h3 hx hy
    refine w_b (fun h5 => ?_) (fun h5 => ?_)
    · rw [if_neg (fun z => h5 z.2)] at hQ; exact hQ
    · rw [if_pos ⟨h4, h5⟩] at hQ; exact hQ
theorem c_M_turnCode {S : Nat → Int} {x1 x2 : Int32} {h : St} {Q : Option Value → St → Prop} (hS : MS S h) (hW : WF S) (p f : Int) (hQ : Q (some (.int (if thr S p ∧ (0 ≤ f ∧ f ≤ 3) then 0 else -101))) h) (h1 : x1 = iI p) (h2 : x2 = iI f) (hp : rg p) (hf : rg f) : SC y_M_turnCode [.ref 90, .int x1, .int x2] h Q := by
  refine w_call IS_ok [] ok_M_turnCode rfl rfl ?_
  refine c_M_isThere hS hW p ?_ h1 hp
  refine w_b (fun h4 => ?_) (fun h4 => ?_)
  · rw [if_neg (fun z => h4 z.1)] at hQ; exact hQ
  · refine c_M_in f 0 3 ?_ h2 rfl rfl hf (by omega) (by omega)
    refine w_b (fun h5 => ?_) (fun h5 => ?_)
    · rw [if_neg (fun z => h5 z.2)] at hQ; exact hQ
    · rw [if_pos ⟨h4, h5⟩] at hQ; exact hQ
theorem c_M_frameCode {S : Nat → Int} {h : St} {Q : Option Value → St → Prop} (hS : MS S h) (hW : WF S) (hQ : Q (some (.int (if S 5 = 9999 then -103 else 0))) h) : SC y_M_frameCode [.ref 90] h Q := by
  refine w_call IS_ok [] ok_M_frameCode rfl rfl ?_
  have := hW.2.2.2.2.2.1
  refine w_ix 5 (w_eq (S 5) 9999 (fun h1 => ?_) (fun h1 => ?_) (hS 5)) rfl (show 5 < 270 by omega)
  · rw [if_pos h1] at hQ; exact hQ
  · rw [if_neg h1] at hQ; exact hQ
/-- the order is another one, and all else as before -/
def ROrd (S : Nat → Int) (n : Nat) (o : Nat → Nat) (S' : Nat → Int) : Prop := S' 1 = n ∧ (∀ k, k < n → S' (6 + k) = o k) ∧ ∀ i, i ≠ 1 → ¬ (6 ≤ i ∧ i < 26) → S' i = S i
def outO (o : Nat → Nat) (q : Nat) : Nat → Nat := fun k => if k < q then o k else o (k + 1)
def lftO (o : Nat → Nat) (q : Nat) : Nat → Nat := fun k => if k = 0 then o q else if k ≤ q then o (k - 1) else o k
def lowO (o : Nat → Nat) (q n : Nat) : Nat → Nat := fun k => if k < q then o k else if k + 1 < n then o (k + 1) else o q
set_option maxHeartbeats 1000000 in
theorem c_M_takeOut {S : Nat → Int} {x1 : Int32} {h : St} {Q : Option Value → St → Prop} (hS : MS S h) (hW : WF S) (q : Nat) (hq : q < (S 1).toNat) (hQ : ∀ h' S', Sm [] [91] h h' → MS S' h' → ROrd S ((S 1).toNat - 1) (outO (od S) q) S' → Q none h') (h1 : x1 = iI q) : SC y_M_takeOut [.ref 90, .int x1] h Q := by
  refine w_call IS_ok [12] ok_M_takeOut rfl rfl ?_
  obtain ⟨hn1, hn2, -⟩ := hW.n
  have hod := fun k hk => hW.od (k := k) hk
  generalize hn : (S 1).toNat = n at *
  refine w_ix 1 ?_ rfl (show 1 < 270 by omega)
  refine w_ix 1 ?_ rfl (show 1 < 270 by omega)
  have loop : ∀ (m k : Nat), n ≤ k + m → q ≤ k → k ≤ n - 1 → ∀ (hc : St) (S' : Nat → Int) (z : Int32), Sm [] [91] h hc → MS S' hc → S' 1 = (n - 1 : Nat) → (∀ j, j < k → S' (6 + j) = outO (od S) q j) → (∀ j, k ≤ j → j < n → S' (6 + j) = od S j) → (∀ i, i ≠ 1 → ¬ (6 ≤ i ∧ i < 26) → S' i = S i) → z = iI k → SR y_M_takeOut 12 [some (.ref 90), some (.int x1), some (.int z)] [] hc Q := by
    intro m
    induction m with
    | zero => intro k g1 g2 g3; omega
    | succ m ih =>
      intro k g1 g2 g3 hc S' z hsm hM e1 elo ehi eo hz
      refine w_loop IS_ok [12] ok_M_takeOut ?_
      have ix6 : (6 : Int32) + z = iI ((6 + k : Nat) : Int) := by rw [hz]; exact (iI_add 6 k).trans (congrArg iI (by omega))
      refine w_ix 1 (w_le (n - 1 : Nat) k (fun g4 => ?_) (fun g4 => ?_) ((hM 1).trans (by rw [e1])) hz) rfl (show 1 < 270 by omega)
      · have : k = n - 1 := by omega
        subst this
        exact hQ hc S' hsm hM ⟨e1, elo, eo⟩
      · refine w_ix (6 + k + 1) ?_ (iI_1 ix6) (show 6 + k + 1 < 270 by omega)
        refine w_ix (6 + k) ?_ ix6 (show 6 + k < 270 by omega)
        have ev : hc.2 91 (6 + k + 1) = iI (od S (k + 1)) := by rw [hM]; exact congrArg iI (ehi (k + 1) (by omega) (by omega))
        refine ih (k + 1) (by omega) (by omega) (by omega) (wa hc 91 (6 + k) (hc.2 91 (6 + k + 1))) (u1 S' (6 + k) (od S (k + 1))) _ (hsm.t (Sm.wa _ _ (by decide))) (by rw [ev]; exact hM.wa _ _) (by rw [u1_n _ _ (by omega)]; exact e1) (fun j hj => ?_) (fun j hj1 hj2 => ?_) (fun i hi1 hi2 => ?_) (iI_1 hz)
        · by_cases hjk : j = k
          · rw [hjk, u1_s]
            unfold outO
            rw [if_neg (by omega)]
          · rw [u1_n _ _ (by omega)]; exact elo j (by omega)
        · rw [u1_n _ _ (by omega)]; exact ehi j (by omega) hj2
        · rw [u1_n _ _ (by omega)]; exact eo i hi1 hi2
  have ev : h.2 91 1 - 1 = iI ((n - 1 : Nat) : Int) := by rw [hS, hn1]; exact (iI_sub _ 1).trans (congrArg iI (by omega))
  refine loop n q (by omega) (by omega) (by omega) (wa h 91 1 (h.2 91 1 - 1)) (u1 S 1 (n - 1 : Nat)) _ (Sm.wa _ _ (by decide)) (by rw [ev]; exact hS.wa _ _) (u1_s _ _ _) (fun j hj => ?_) (fun j hj1 hj2 => ?_) (fun i hi1 hi2 => u1_n _ _ hi1) h1
  · rw [u1_n _ _ (by omega)]
    unfold outO
    rw [if_pos hj]
    exact (hod j (by omega)).1
  · rw [u1_n _ _ (by omega)]; exact (hod j hj2).1
set_option maxHeartbeats 1000000 in
theorem c_M_liftNow {S : Nat → Int} {x1 : Int32} {h : St} {Q : Option Value → St → Prop} (hS : MS S h) (hW : WF S) (p : Int) (hp : thr S p) (hQ : ∀ h' S' (q : Nat), Sm [] [91] h h' → MS S' h' → pos S p (S 1).toNat = q → q < (S 1).toNat → ROrd S (S 1).toNat (lftO (od S) q) S' → Q (some (.int (iI q))) h') (h1 : x1 = iI p) : SC y_M_liftNow [.ref 90, .int x1] h Q := by
  refine w_call IS_ok [8] ok_M_liftNow rfl rfl ?_
  obtain ⟨hn1, hn2, -⟩ := hW.n
  have hpb := thr_b hW hp
  refine c_M_positionOf hS hW p ?_ h1 (by omega)
  obtain ⟨q, hq⟩ : ∃ q : Nat, pos S p (S 1).toNat = q := ⟨(pos S p (S 1).toNat).toNat, by have := pos_b S p (S 1).toNat; omega⟩
  have hqa := pos_at hq
  have hod := fun k hk => hW.od (k := k) hk
  have hpq : S (6 + q) = (od S q : Int) := (hod q hqa.1).1
  rw [hq]
  have loop : ∀ (m k : Nat), k ≤ m → k ≤ q → ∀ (hc : St) (S' : Nat → Int) (z : Int32), Sm [] [91] h hc → MS S' hc → S' 1 = S 1 → (∀ j, k < j → j ≤ q → S' (6 + j) = od S (j - 1)) → (∀ j, j ≤ k ∨ q < j → j < (S 1).toNat → S' (6 + j) = od S j) → (∀ i, i ≠ 1 → ¬ (6 ≤ i ∧ i < 26) → S' i = S i) → z = iI k → SR y_M_liftNow 8 [some (.ref 90), some (.int x1), some (.int (iI q)), some (.int z)] [] hc Q := by
    have last : ∀ (hc : St) (S' : Nat → Int), Sm [] [91] h hc → MS S' hc → S' 1 = S 1 → (∀ j, 0 < j → j ≤ q → S' (6 + j) = od S (j - 1)) → (∀ j, j ≤ 0 ∨ q < j → j < (S 1).toNat → S' (6 + j) = od S j) → (∀ i, i ≠ 1 → ¬ (6 ≤ i ∧ i < 26) → S' i = S i) → ∀ z, z = iI (0 : Nat) → SR y_M_liftNow 8 [some (.ref 90), some (.int x1), some (.int (iI q)), some (.int z)] [] hc Q := by
      intro hc S' hsm hM e1 elo ehi eo z hz
      refine w_loop IS_ok [] ok_M_liftNow ?_
      refine w_le 0 0 (fun _ => ?_) (fun g => by omega) hz rfl
      refine w_ix 6 ?_ rfl (show 6 < 270 by omega)
      refine hQ (wa hc 91 6 x1) (u1 S' 6 (od S q)) q (hsm.t (Sm.wa _ _ (by decide))) ?_ hq hqa.1 ⟨by rw [u1_n _ _ (by omega), e1]; exact hn1, fun k hk => ?_, fun i hi1 hi2 => ?_⟩
      · rw [h1, ← hqa.2, hpq]; exact hM.wa _ _
      · unfold lftO
        by_cases hk0 : k = 0
        · rw [if_pos hk0, hk0]; exact u1_s _ _ _
        · rw [if_neg hk0, u1_n _ _ (by omega)]
          by_cases hkq : k ≤ q
          · rw [if_pos hkq]; exact elo k (by omega) hkq
          · rw [if_neg hkq]; exact ehi k (by omega) hk
      · rw [u1_n _ _ (by omega)]; exact eo i hi1 hi2
    intro m
    induction m with
    | zero =>
      intro k g1 g2 hc S' z hsm hM e1 elo ehi eo hz
      have : k = 0 := by omega
      subst this
      exact last hc S' hsm hM e1 elo ehi eo z hz
    | succ m ih =>
      intro k g1 g2 hc S' z hsm hM e1 elo ehi eo hz
      by_cases hk : k = 0
      · subst hk
        exact last hc S' hsm hM e1 elo ehi eo z hz
      · refine w_loop IS_ok [8] ok_M_liftNow ?_
        refine w_le k 0 (fun g => by omega) (fun _ => ?_) hz rfl
        have ix6 : (6 : Int32) + z = iI ((6 + k : Nat) : Int) := by rw [hz]; exact (iI_add 6 k).trans (congrArg iI (by omega))
        have ix5 : (6 : Int32) + z - 1 = iI ((6 + (k - 1) : Nat) : Int) := by rw [ix6]; exact (iI_sub _ 1).trans (congrArg iI (by omega))
        refine w_ix (6 + (k - 1)) ?_ ix5 (show 6 + (k - 1) < 270 by omega)
        refine w_ix (6 + k) ?_ ix6 (show 6 + k < 270 by omega)
        have ev : hc.2 91 (6 + (k - 1)) = iI (od S (k - 1)) := by rw [hM]; exact congrArg iI (ehi (k - 1) (by omega) (by omega))
        refine ih (k - 1) (by omega) (by omega) (wa hc 91 (6 + k) (hc.2 91 (6 + (k - 1)))) (u1 S' (6 + k) (od S (k - 1))) _ (hsm.t (Sm.wa _ _ (by decide))) (by rw [ev]; exact hM.wa _ _) (by rw [u1_n _ _ (by omega)]; exact e1) (fun j hj1 hj2 => ?_) (fun j hj1 hj2 => ?_) (fun i hi1 hi2 => ?_) (iI_p hz (by omega))
        · by_cases hjk : j = k
          · rw [hjk]; exact u1_s _ _ _
          · rw [u1_n _ _ (by omega)]; exact elo j (by omega) hj2
        · rw [u1_n _ _ (by omega)]; exact ehi j (by omega) hj2
        · rw [u1_n _ _ (by omega)]; exact eo i hi1 hi2
  exact loop q q (by omega) (by omega) h S _ Sm.rf hS rfl (fun j g1 g2 => by omega) (fun j _ hj => (hod j hj).1) (fun i _ _ => rfl) rfl
theorem c_M_lowerNow {S : Nat → Int} {x1 : Int32} {h : St} {Q : Option Value → St → Prop} (hS : MS S h) (hW : WF S) (p : Int) (hp : thr S p) (hQ : ∀ h' S' (q : Nat), Sm [] [91] h h' → MS S' h' → pos S p (S 1).toNat = q → q < (S 1).toNat → ROrd S (S 1).toNat (lowO (od S) q (S 1).toNat) S' → Q (some (.int (iI q))) h') (h1 : x1 = iI p) : SC y_M_lowerNow [.ref 90, .int x1] h Q := by
  refine w_call IS_ok [] ok_M_lowerNow rfl rfl ?_
  obtain ⟨hn1, hn2, -⟩ := hW.n
  have hpb := thr_b hW hp
  refine c_M_positionOf hS hW p ?_ h1 (by omega)
  obtain ⟨q, hq⟩ : ∃ q : Nat, pos S p (S 1).toNat = q := ⟨(pos S p (S 1).toNat).toNat, by have := pos_b S p (S 1).toNat; omega⟩
  have hqa := pos_at hq
  have hpq : S (6 + q) = (od S q : Int) := (hW.od hqa.1).1
  rw [hq]
  refine c_M_takeOut hS hW q hqa.1 (fun h' S' hsm hM hR => ?_) rfl
  obtain ⟨r1, r2, r3⟩ := hR
  have ix6 : (6 : Int32) + h'.2 91 1 = iI ((6 + ((S 1).toNat - 1) : Nat) : Int) := by rw [hM, r1]; exact (iI_add 6 _).trans (congrArg iI (by omega))
  refine w_ix 1 ?_ rfl (show 1 < 270 by omega)
  refine w_ix (6 + ((S 1).toNat - 1)) ?_ ix6 (show 6 + ((S 1).toNat - 1) < 270 by omega)
  refine w_ix 1 ?_ rfl (show 1 < 270 by omega)
  refine w_ix 1 ?_ rfl (show 1 < 270 by omega)
  have ev : (wa h' 91 (6 + ((S 1).toNat - 1)) x1).2 91 1 + 1 = iI (S 1) := by
    rw [wa_n _ _ _ _ (by omega), hM, r1]
    exact (iI_add _ 1).trans (congrArg iI (by omega))
  refine hQ (wa (wa h' 91 (6 + ((S 1).toNat - 1)) x1) 91 1 ((wa h' 91 (6 + ((S 1).toNat - 1)) x1).2 91 1 + 1)) (u1 (u1 S' (6 + ((S 1).toNat - 1)) (od S q)) 1 (S 1)) q ((hsm.t (Sm.wa _ _ (by decide))).t (Sm.wa _ _ (by decide))) ?_ hq hqa.1 ⟨by rw [u1_s]; exact hn1, fun k hk => ?_, fun i hi1 hi2 => ?_⟩
  · rw [ev]
    refine MS.wa ?_ _ _
    rw [h1, ← hqa.2, hpq]
    exact hM.wa _ _
  · rw [u1_n _ _ (by omega)]
    unfold lowO
    by_cases hkn : k + 1 = (S 1).toNat
    · have : k = (S 1).toNat - 1 := by omega
      rw [this, u1_s, if_neg (by omega), if_neg (by omega)]
    · rw [u1_n _ _ (by omega), r2 k (by omega)]
      unfold outO
      by_cases hkq : k < q
      · rw [if_pos hkq, if_pos hkq]
      · rw [if_neg hkq, if_neg hkq, if_pos (by omega)]
  · rw [u1_n _ _ hi1, u1_n _ _ (by omega)]
    exact r3 i hi1 hi2
end
section
/-! a frame -/
theorem w_10 {A B : Prop} (f : B) : if (1 : Int32) = 0 then A else B := w_f (by decide) f
theorem w_00 {A B : Prop} (f : A) : if (0 : Int32) = 0 then A else B := w_t rfl f
/-- a puppet is hidden on any line -/
def hdd (S : Nat → Int) (p : Nat) : Bool := decide (0 < hT S (od S) (S 1).toNat 48 p)
def frP (T : Nat → Int) (b : Bool) (p : Nat) : Nat → Int :=
  u1 (u1 (u1 T (26 + 9 * p + 6) (T (26 + 9 * p + 6) + (if b then 1 else 0))) (26 + 9 * p + 7) (if b then T (26 + 9 * p + 7) + 1 else 0)) (26 + 9 * p + 8) (if (if b then T (26 + 9 * p + 7) + 1 else 0) ≤ T (26 + 9 * p + 8) then T (26 + 9 * p + 8) else (if b then T (26 + 9 * p + 7) + 1 else 0))
/-- the counts of the first ones by the order, behind a frame -/
def frC (S : Nat → Int) (hd : Nat → Bool) : Nat → (Nat → Int)
  | 0 => S
  | k + 1 => frP (frC S hd k) (hd (od S k)) (od S k)
theorem frP_o {T : Nat → Int} {b : Bool} {p i : Nat} (h : i ≠ 26 + 9 * p + 6) (h1 : i ≠ 26 + 9 * p + 7) (h2 : i ≠ 26 + 9 * p + 8) : frP T b p i = T i := by
  unfold frP
  rw [u1_n _ _ h2, u1_n _ _ h1, u1_n _ _ h]
theorem frC_o {S : Nat → Int} {hd : Nat → Bool} {i : Nat} : ∀ {k : Nat}, (∀ j, j < k → od S j < 20) → (i < 26 ∨ 206 ≤ i) → frC S hd k i = S i
  | 0, _, _ => rfl
  | k + 1, hb, hi => by
    have := hb k (by omega)
    unfold frC
    rw [frP_o (by omega) (by omega) (by omega)]
    exact frC_o (fun j hj => hb j (by omega)) hi
theorem frC_p {S : Nat → Int} {hd : Nat → Bool} {p i : Nat} (hi : i < 9) : ∀ {k : Nat}, (∀ j, j < k → od S j ≠ p) → frC S hd k (26 + 9 * p + i) = S (26 + 9 * p + i)
  | 0, _ => rfl
  | k + 1, hb => by
    have := hb k (by omega)
    unfold frC
    rw [frP_o (by omega) (by omega) (by omega)]
    exact frC_p hi (fun j hj => hb j (by omega))
theorem frC_c {S : Nat → Int} {hd : Nat → Bool} {p i : Nat} (hi : i < 6) : ∀ {k : Nat}, frC S hd k (26 + 9 * p + i) = S (26 + 9 * p + i)
  | 0 => rfl
  | k + 1 => by
    unfold frC
    rw [frP_o (by omega) (by omega) (by omega)]
    exact frC_c hi
def RFr (S S' : Nat → Int) : Prop := S' 5 = S 5 + 1 ∧ (∀ k, k < (S 1).toNat → S' (6 + k) = fl (turnL (hdd S) (S 3) (S 4).toNat (S 1).toNat (od S)) k) ∧ ∀ i, i ≠ 5 → ¬ (6 ≤ i ∧ i < 26) → S' i = frC S (hdd S) (S 1).toNat i
def hidN (S : Nat → Int) : Nat := sm (fun p => if hdd S p then 1 else 0) 20
theorem wf_oi {S : Nat → Int} (h : WF S) {j k : Nat} (hj : j < (S 1).toNat) (hk : k < (S 1).toNat) (he : od S j = od S k) : j = k := by
  have h1 := (h.od hj).1
  have h2 := (h.od hk).1
  exact h.inj hj hk (by omega)
set_option maxHeartbeats 4000000 in
theorem c_M_frameNow {S : Nat → Int} {h : St} {Q : Option Value → St → Prop} (hS : MS S h) (hW : WF S) (hQ : ∀ h' S', Sm [] [98, 96, 91] h h' → MS S' h' → RFr S S' → Q (some (.int (iI (hidN S)))) h') : SC y_M_frameNow [.ref 90] h Q := by
  refine w_call IS_ok [13] ok_M_frameNow rfl rfl ?_
  obtain ⟨hn1, hn2, -⟩ := hW.n
  have hod := fun k hk => hW.od (k := k) hk
  have hlim := hW.lim
  have h5 := hW.2.2.2.2.2.1
  have h3 := hW.2.2.2.1
  have h4 := hW.2.2.2.2.1
  have hWP := hW.wp
  refine c_M_hidden_91 hS hWP (S 1).toNat (od S) hn1 hn2 (by omega) (fun k hk => (hod k hk).2.1) (fun k hk => by rw [hS]; exact congrArg iI (hod k hk).1) (fun h1 w hs1 hw hb _ => ?_) rfl
  have hM1 := hS.sm hs1 (by decide)
  have hbit : ∀ p, p < 20 → w.testBit p = hdd S p := hb
  have fin : ∀ (hc : St) (L2 L3 L4 : Option Value), Sm [] [98, 96, 91] h hc → MS (frC S (hdd S) (S 1).toNat) hc → SR y_M_frameNow 146 [some (.ref 90), some (.int (nI w)), L2, L3, L4] [] hc Q := by
    intro hc L2 L3 L4 hsm hM
    refine w_loop IS_ok [] ok_M_frameNow ?_
    have ho : ∀ i, i < 26 ∨ 206 ≤ i → frC S (hdd S) (S 1).toNat i = S i := fun i hi => frC_o (fun j hj => (hod j hj).2.1) hi
    refine w_ix 3 ?_ rfl (show 3 < 270 by omega)
    refine w_ix 4 ?_ rfl (show 4 < 270 by omega)
    refine c_M_takeTurn_91 (S 1).toNat (od S) (hdd S) (S 3) (S 4).toNat w (by rw [hM, ho 1 (by omega)]; exact congrArg iI hn1) hn2 (fun k hk => (hod k hk).2.1) (fun k hk => by rw [hM, ho (6 + k) (by omega)]; exact congrArg iI (hod k hk).1) (by omega) (by omega) hw hbit (fun h2 hs2 hrow hrest => ?_) rfl (by rw [← ho 3 (by omega)]; exact hM 3) (by rw [show (((S 4).toNat : Nat) : Int) = S 4 by omega, ← ho 4 (by omega)]; exact hM 4) rfl
    refine w_ix 5 ?_ rfl (show 5 < 270 by omega)
    refine w_ix 5 ?_ rfl (show 5 < 270 by omega)
    have e5 : h2.2 91 5 + 1 = iI (S 5 + 1) := by
      rw [hrest 5 (by omega), hM, ho 5 (by omega)]
      exact iI_add _ 1
    refine c_M_ones w ?_ hw
    have hones : onesN w 20 = hidN S := sm_congr (fun p hp => by rw [hbit p hp])
    rw [hones]
    refine hQ (wa h2 91 5 (h2.2 91 5 + 1)) (u1 (fun i => if 6 ≤ i ∧ i < 6 + (S 1).toNat then (fl (turnL (hdd S) (S 3) (S 4).toNat (S 1).toNat (od S)) (i - 6) : Int) else frC S (hdd S) (S 1).toNat i) 5 (S 5 + 1)) ((hsm.t (hs2.mo (fun _ z => z) (by decide))).t (Sm.wa _ _ (by decide))) ?_ ⟨u1_s _ _ _, fun k hk => ?_, fun i hi1 hi2 => ?_⟩
    · rw [e5]
      refine MS.wa (fun i => ?_) _ _
      by_cases hi : 6 ≤ i ∧ i < 6 + (S 1).toNat
      · rw [if_pos hi]
        have := hrow (i - 6) (by omega)
        rwa [show 6 + (i - 6) = i by omega] at this
      · rw [if_neg hi, hrest i (by omega)]
        exact hM i
    · rw [u1_n _ _ (by omega), if_pos (by omega)]
      rw [show 6 + k - 6 = k by omega]
    · rw [u1_n _ _ hi1, if_neg (by omega)]
  have loop : ∀ (m k : Nat), (S 1).toNat + 1 ≤ k + m → k ≤ (S 1).toNat → ∀ (hc : St) (z : Int32) (L3 L4 : Option Value), Sm [] [98, 96, 91] h hc → MS (frC S (hdd S) k) hc → z = iI k → SR y_M_frameNow 13 [some (.ref 90), some (.int (nI w)), some (.int z), L3, L4] [] hc Q := by
    intro m
    induction m with
    | zero => intro k h1 h2; omega
    | succ m ih =>
      intro k g1 g2 hc z L3 L4 hsm hM hz
      refine w_loop IS_ok [47, 146] ok_M_frameNow ?_
      have ho : ∀ i, i < 26 ∨ 206 ≤ i → frC S (hdd S) k i = S i := fun i hi => frC_o (fun j hj => (hod j (by omega)).2.1) hi
      refine w_ix 1 (w_le (S 1) k (fun g3 => ?_) (fun g3 => ?_) (by rw [← ho 1 (by omega)]; exact hM 1) hz) rfl (show 1 < 270 by omega)
      · have : k = (S 1).toNat := by omega
        subst this
        exact fin hc _ _ _ hsm hM
      · have hk : k < (S 1).toNat := by omega
        have hokk := hod k hk
        have hv : hc.2 91 (6 + k) = iI (od S k) := by rw [hM, ho (6 + k) (by omega)]; exact congrArg iI hokk.1
        have ix6 : (6 : Int32) + z = iI ((6 + k : Nat) : Int) := by rw [hz]; exact (iI_add 6 k).trans (congrArg iI (by omega))
        refine w_ix (6 + k) ?_ ix6 (show 6 + k < 270 by omega)
        have hp : ∀ i, i < 9 → frC S (hdd S) k (26 + 9 * od S k + i) = S (26 + 9 * od S k + i) := fun i hi => frC_p hi (fun j hj z => by have := wf_oi hW (j := j) (k := k) (by omega) hk z; omega)
        obtain ⟨-, -, -, -, -, -, c6, c7, c8⟩ := hWP (od S k) hokk.2.1
        generalize hT : frC S (hdd S) k = T at *
        generalize hpp : od S k = p at *
        have p6 := hp 6 (by omega)
        have p7 := hp 7 (by omega)
        have p8 := hp 8 (by omega)
        have hnx : frC S (hdd S) (k + 1) = frP T (hdd S p) p := by show frP (frC S (hdd S) k) (hdd S (od S k)) (od S k) = _; rw [hT, hpp]
        have eb : (nI w >>> (hc.2 91 (6 + k) &&& 31)) &&& 1 = iI (if hdd S p then 1 else 0) := by rw [hv]; exact bit_is hw hokk.2.1 (hbit _ hokk.2.1)
        refine w_eq (if hdd S p then 1 else 0 : Int) 1 (fun g4 => ?_) (fun g4 => ?_) eb rfl (by split <;> omega)
        · have hd : hdd S p = true := by
            cases hh : hdd S p with
            | true => rfl
            | false => rw [hh] at g4; cases g4
          refine w_loop IS_ok [13] ok_M_frameNow ?_
          refine c_M_of hM p 6 ?_ hv rfl hokk.2.1 (by omega)
          refine c_M_put' p 6 ?_ hv rfl hokk.2.1 (by omega)
          have hM2 : MS (u1 T (26 + 9 * p + 6) (T (26 + 9 * p + 6) + 1)) (wa hc 91 (26 + 9 * p + 6) (iI (T (26 + 9 * p + 6)) + 1)) := by rw [show iI (T (26 + 9 * p + 6)) + 1 = iI (T (26 + 9 * p + 6) + 1) from iI_add _ 1]; exact hM.wa _ _
          refine c_M_of hM2 p 7 ?_ hv rfl hokk.2.1 (by omega)
          refine c_M_put' p 7 ?_ hv rfl hokk.2.1 (by omega)
          rw [u1_n _ _ (by omega)]
          have hM3 : MS (u1 (u1 T (26 + 9 * p + 6) (T (26 + 9 * p + 6) + 1)) (26 + 9 * p + 7) (T (26 + 9 * p + 7) + 1)) (wa (wa hc 91 (26 + 9 * p + 6) (iI (T (26 + 9 * p + 6)) + 1)) 91 (26 + 9 * p + 7) (iI (T (26 + 9 * p + 7)) + 1)) := by rw [show iI (T (26 + 9 * p + 7)) + 1 = iI (T (26 + 9 * p + 7) + 1) from iI_add _ 1]; exact hM2.wa _ _
          have r7 : u1 (u1 T (26 + 9 * p + 6) (T (26 + 9 * p + 6) + 1)) (26 + 9 * p + 7) (T (26 + 9 * p + 7) + 1) (26 + 9 * p + 7) = T (26 + 9 * p + 7) + 1 := u1_s _ _ _
          have r8 : u1 (u1 T (26 + 9 * p + 6) (T (26 + 9 * p + 6) + 1)) (26 + 9 * p + 7) (T (26 + 9 * p + 7) + 1) (26 + 9 * p + 8) = T (26 + 9 * p + 8) := by rw [u1_n _ _ (by omega), u1_n _ _ (by omega)]
          have done : ∀ v : Int32, v = iI (if T (26 + 9 * p + 7) + 1 ≤ T (26 + 9 * p + 8) then T (26 + 9 * p + 8) else T (26 + 9 * p + 7) + 1) → ∀ (L3 L4 : Option Value), SR y_M_frameNow 13 [some (.ref 90), some (.int (nI w)), some (.int (z + 1)), L3, L4] [] (wa (wa (wa hc 91 (26 + 9 * p + 6) (iI (T (26 + 9 * p + 6)) + 1)) 91 (26 + 9 * p + 7) (iI (T (26 + 9 * p + 7)) + 1)) 91 (26 + 9 * p + 8) v) Q := by
            intro v hv2 L3 L4
            refine ih (k + 1) (by omega) (by omega) _ _ _ _ (((hsm.t (Sm.wa _ _ (by decide))).t (Sm.wa _ _ (by decide))).t (Sm.wa _ _ (by decide))) ?_ (iI_1 hz)
            rw [hnx, hd, hv2]
            exact hM3.wa _ _
          refine c_M_of hM3 p 7 ?_ hv rfl hokk.2.1 (by omega)
          refine c_M_of hM3 p 8 ?_ hv rfl hokk.2.1 (by omega)
          rw [r7, r8]
          refine w_le (T (26 + 9 * p + 7) + 1) (T (26 + 9 * p + 8)) (fun g5 => ?_) (fun g5 => ?_) rfl rfl
          · refine c_M_of hM3 p 8 ?_ hv rfl hokk.2.1 (by omega)
            refine c_M_put' p 8 ?_ hv rfl hokk.2.1 (by omega)
            exact done _ (by rw [if_pos g5, r8]) _ _
          · refine c_M_of hM3 p 7 ?_ hv rfl hokk.2.1 (by omega)
            refine c_M_put' p 8 ?_ hv rfl hokk.2.1 (by omega)
            exact done _ (by rw [if_neg (by omega), r7]) _ _
        · have hd : hdd S p = false := by
            cases hh : hdd S p with
            | false => rfl
            | true => rw [hh] at g4; exact absurd rfl g4
          refine w_loop IS_ok [13] ok_M_frameNow ?_
          refine c_M_of hM p 6 ?_ hv rfl hokk.2.1 (by omega)
          refine c_M_put' p 6 ?_ hv rfl hokk.2.1 (by omega)
          have hM2 : MS (u1 T (26 + 9 * p + 6) (T (26 + 9 * p + 6) + 0)) (wa hc 91 (26 + 9 * p + 6) (iI (T (26 + 9 * p + 6)) + 0)) := by rw [show iI (T (26 + 9 * p + 6)) + 0 = iI (T (26 + 9 * p + 6) + 0) from iI_add _ 0]; exact hM.wa _ _
          refine c_M_put' p 7 ?_ hv rfl hokk.2.1 (by omega)
          have hM3 : MS (u1 (u1 T (26 + 9 * p + 6) (T (26 + 9 * p + 6) + 0)) (26 + 9 * p + 7) 0) (wa (wa hc 91 (26 + 9 * p + 6) (iI (T (26 + 9 * p + 6)) + 0)) 91 (26 + 9 * p + 7) 0) := hM2.wa _ 0
          have r7 : u1 (u1 T (26 + 9 * p + 6) (T (26 + 9 * p + 6) + 0)) (26 + 9 * p + 7) 0 (26 + 9 * p + 7) = 0 := u1_s _ _ _
          have r8 : u1 (u1 T (26 + 9 * p + 6) (T (26 + 9 * p + 6) + 0)) (26 + 9 * p + 7) 0 (26 + 9 * p + 8) = T (26 + 9 * p + 8) := by rw [u1_n _ _ (by omega), u1_n _ _ (by omega)]
          have done : ∀ v : Int32, v = iI (if (0 : Int) ≤ T (26 + 9 * p + 8) then T (26 + 9 * p + 8) else 0) → ∀ (L3 L4 : Option Value), SR y_M_frameNow 13 [some (.ref 90), some (.int (nI w)), some (.int (z + 1)), L3, L4] [] (wa (wa (wa hc 91 (26 + 9 * p + 6) (iI (T (26 + 9 * p + 6)) + 0)) 91 (26 + 9 * p + 7) 0) 91 (26 + 9 * p + 8) v) Q := by
            intro v hv2 L3 L4
            refine ih (k + 1) (by omega) (by omega) _ _ _ _ (((hsm.t (Sm.wa _ _ (by decide))).t (Sm.wa _ _ (by decide))).t (Sm.wa _ _ (by decide))) ?_ (iI_1 hz)
            rw [hnx, hd, hv2]
            exact hM3.wa _ _
          refine c_M_of hM3 p 7 ?_ hv rfl hokk.2.1 (by omega)
          refine c_M_of hM3 p 8 ?_ hv rfl hokk.2.1 (by omega)
          rw [r7, r8]
          refine w_le 0 (T (26 + 9 * p + 8)) (fun g5 => ?_) (fun g5 => ?_) rfl rfl
          · refine c_M_of hM3 p 8 ?_ hv rfl hokk.2.1 (by omega)
            refine c_M_put' p 8 ?_ hv rfl hokk.2.1 (by omega)
            exact done _ (by rw [if_pos g5, r8]) _ _
          · refine c_M_of hM3 p 7 ?_ hv rfl hokk.2.1 (by omega)
            refine c_M_put' p 8 ?_ hv rfl hokk.2.1 (by omega)
            exact done _ (by rw [if_neg (by omega), r7]) _ _
  exact loop ((S 1).toNat + 1) 0 (by omega) (by omega) h1 _ _ _ (hs1.mo (fun _ z => z) (by decide)) hM1 rfl
end
section
/-! the history of the reference -/
def MH (n : Nat) (H : Nat → Nat → Int) (h : St) : Prop := h.1 90 4 = iI n ∧ ∀ j, j < n → ∀ i, i < 270 → h.2 93 (270 * j + i) = iI (H j i)
def psN (n : Nat) : Nat := if n = 5 then 5 else n + 1
def psH (n : Nat) (H : Nat → Nat → Int) (S : Nat → Int) : Nat → Nat → Int := if n = 5 then (fun j => if j < 4 then H (j + 1) else S) else (fun j => if j < n then H j else S)
theorem MH.sm {n : Nat} {H : Nat → Nat → Int} {X : List (Nat × Nat)} {Y : List Nat} {h h' : St} (hH : MH n H h) (a : Sm X Y h h') (hx : (90, 4) ∉ X) (hy : 93 ∉ Y) : MH n H h' := ⟨by rw [a.1 _ _ hx]; exact hH.1, fun j hj i hi => by rw [a.2 93 hy]; exact hH.2 j hj i hi⟩
def pf (h : St) (k : Nat) (x : Int32) : St := (u2 h.1 90 k x, h.2)
theorem pf_s (h : St) (k : Nat) (x : Int32) : (pf h k x).1 90 k = x := by show u2 h.1 90 k x 90 k = x; unfold u2; rw [u1_s, u1_s]
theorem pf_n (h : St) (k : Nat) (x : Int32) {j : Nat} (hj : j ≠ k) : (pf h k x).1 90 j = h.1 90 j := by show u2 h.1 90 k x 90 j = _; unfold u2; rw [u1_s, u1_n _ _ hj]
theorem Sm.pf {X : List (Nat × Nat)} {Y : List Nat} {h : St} {k : Nat} (x : Int32) (ha : (90, k) ∈ X) : Sm X Y h (pf h k x) := Sm.put x ha
set_option maxHeartbeats 4000000 in
theorem c_M_act {S : Nat → Int} {n : Nat} {H : Nat → Nat → Int} {h : St} {Q : Option Value → St → Prop} (hS : MS S h) (hH : MH n H h) (hn : n ≤ 5) (hQ : ∀ h', Sm [(90, 4)] [93] h h' → MH (psN n) (psH n H S) h' → Q none h') : SC y_M_act [.ref 90] h Q := by
  refine w_call IS_ok [10, 51] ok_M_act rfl rfl ?_
  have second : ∀ (c : Nat), c < 5 → ∀ (G : Nat → Nat → Int), (∀ h', Sm [(90, 4)] [93] h h' → MH (c + 1) (fun j => if j < c then G j else S) h' → Q none h') → ∀ (m k : Nat), 271 ≤ k + m → k ≤ 270 → ∀ (hc : St) (z : Int32), Sm [(90, 4)] [93] h hc → MH c G hc → (∀ i, i < k → hc.2 93 (270 * c + i) = iI (S i)) → z = iI k → SR y_M_act 51 [some (.ref 90), some (.int z)] [] hc Q := by
    intro c hc5 G hq m
    induction m with
    | zero => intro k h1 h2; omega
    | succ m ih =>
      intro k h1 h2 hc z hsm hG hv hz
      refine w_loop IS_ok [51] ok_M_act ?_
      refine w_le 270 k (fun h3 => ?_) (fun h3 => ?_) rfl hz
      · have hk : k = 270 := by omega
        refine hq (pf hc 4 (hc.1 90 4 + 1)) (hsm.t (Sm.pf _ (by decide))) ⟨?_, fun j hj i hi => ?_⟩
        · rw [pf_s, hG.1]
          exact iI_1 rfl
        · show hc.2 93 (270 * j + i) = _
          by_cases hjc : j = c
          · subst hjc
            dsimp only
            rw [if_neg (by omega)]
            exact hv i (by omega)
          · dsimp only
            rw [if_pos (by omega)]
            exact hG.2 j (by omega) i hi
      · have ev : hc.2 91 k = iI (S k) := (hS.sm hsm (by decide)) k
        have ei : (270 : Int32) * hc.1 90 4 + z = iI ((270 * c + k : Nat) : Int) := by
          rw [hG.1, hz]
          refine (congrArg (· + iI k) (iI_mul 270 c)).trans ((iI_add _ _).trans (congrArg iI (by omega)))
        refine w_ix k ?_ hz (show k < 270 by omega)
        refine w_ix (270 * c + k) ?_ ei (show 270 * c + k < 1350 by omega)
        refine ih (k + 1) (by omega) (by omega) (wa hc 93 (270 * c + k) (hc.2 91 k)) _ (hsm.t (Sm.wa _ _ (by decide))) ⟨hG.1, fun j hj i hi => ?_⟩ (fun i hi => ?_) (iI_1 hz)
        · rw [wa_n _ _ _ _ (by omega)]; exact hG.2 j hj i hi
        · by_cases hik : i = k
          · rw [hik, wa_s]; exact ev
          · rw [wa_n _ _ _ _ (by omega)]; exact hv i (by omega)
  by_cases hn5 : n = 5
  · subst hn5
    refine w_eq (5 : Nat) 5 (fun _ => ?_) (fun h1 => absurd rfl h1) hH.1 rfl
    have first : ∀ (m k : Nat), 1081 ≤ k + m → k ≤ 1080 → ∀ (hc : St) (z : Int32), Sm [(90, 4)] [93] h hc → hc.1 90 4 = h.1 90 4 → (∀ i, i < k → hc.2 93 i = h.2 93 (i + 270)) → (∀ i, k ≤ i → hc.2 93 i = h.2 93 i) → z = iI k → SR y_M_act 10 [some (.ref 90), some (.int z)] [] hc Q := by
      intro m
      induction m with
      | zero => intro k h1 h2; omega
      | succ m ih =>
        intro k h1 h2 hc z hsm h4 hlo hhi hz
        refine w_loop IS_ok [10, 51] ok_M_act ?_
        refine w_le 1080 k (fun h3 => ?_) (fun h3 => ?_) rfl hz
        · have hk : k = 1080 := by omega
          refine second 4 (by omega) (fun j => H (j + 1)) (fun h' a1 a2 => hQ h' a1 (by unfold psN psH; exact a2)) 271 0 (by omega) (by omega) (pf hc 4 (hc.1 90 4 - 1)) _ (hsm.t (Sm.pf _ (by decide))) ⟨?_, fun j hj i hi => ?_⟩ (fun i hi => by omega) rfl
          · rw [pf_s, h4, hH.1]
            exact iI_sub _ 1
          · show hc.2 93 (270 * j + i) = _
            rw [hlo _ (by omega), show 270 * j + i + 270 = 270 * (j + 1) + i by omega]
            exact hH.2 (j + 1) (by omega) i hi
        · have ez : z + 270 = iI ((k + 270 : Nat) : Int) := by rw [hz]; exact (iI_add _ 270).trans (congrArg iI (by omega))
          refine w_ix (k + 270) ?_ ez (show k + 270 < 1350 by omega)
          refine w_ix k ?_ hz (show k < 1350 by omega)
          refine ih (k + 1) (by omega) (by omega) (wa hc 93 k (hc.2 93 (k + 270))) _ (hsm.t (Sm.wa _ _ (by decide))) h4 (fun i hi => ?_) (fun i hi => ?_) (iI_1 hz)
          · by_cases hik : i = k
            · rw [hik, wa_s]; exact hhi _ (by omega)
            · rw [wa_n _ _ _ _ hik]; exact hlo i (by omega)
          · rw [wa_n _ _ _ _ (by omega)]; exact hhi i (by omega)
    exact first 1081 0 (by omega) (by omega) h _ Sm.rf rfl (fun i hi => by omega) (fun i _ => rfl) rfl
  · refine w_eq n 5 (fun h1 => by omega) (fun _ => ?_) hH.1 rfl
    exact second n (by omega) H (fun h' a1 a2 => hQ h' a1 (by unfold psN psH; rw [if_neg hn5, if_neg hn5]; exact a2)) 271 0 (by omega) (by omega) h _ Sm.rf hH (fun i hi => by omega) rfl
/-- an action was made, and recorded -/
def MPd (S : Nat → Int) (n : Nat) (H : Nat → Nat → Int) (S' : Nat → Int) (h h' : St) : Prop := Sm [(90, 0), (90, 4)] [98, 96, 93, 91] h h' ∧ MS S' h' ∧ MH (psN n) (psH n H S) h'
theorem c_M_setRow {S : Nat → Int} {n : Nat} {H : Nat → Nat → Int} {x1 x2 x3 : Int32} {h : St} {Q : Option Value → St → Prop} (hS : MS S h) (hH : MH n H h) (hn : n ≤ 5) (a b c : Int) (hQ0 : ∀ h', Sm [(90, 0)] [] h h' → ¬ ((0 ≤ a ∧ a ≤ 7) ∧ (0 ≤ b ∧ b ≤ 7) ∧ (0 ≤ c ∧ c ≤ 255)) → Q (some (.int (-101))) h') (hQ1 : ∀ h', ((0 ≤ a ∧ a ≤ 7) ∧ (0 ≤ b ∧ b ≤ 7) ∧ (0 ≤ c ∧ c ≤ 255)) → MPd S n H (u1 S (206 + 8 * a.toNat + b.toNat) c) h h' → Q (some (.int (iI (S (206 + 8 * a.toNat + b.toNat))))) h') (h1 : x1 = iI a) (h2 : x2 = iI b) (h3 : x3 = iI c) (ra : rg a) (rb : rg b) (rc : rg c) : SC y_M_setRow [.ref 90, .int x1, .int x2, .int x3] h Q := by
  refine w_call IS_ok [] ok_M_setRow rfl rfl ?_
  have s0 : Sm [(90, 0)] [] h (pf h 0 0) := Sm.pf _ (by decide)
  refine c_M_in a 0 7 ?_ h1 rfl rfl ra (by omega) (by omega)
  refine w_b (fun g1 => hQ0 _ s0 (fun z => g1 z.1)) (fun g1 => ?_)
  refine c_M_in b 0 7 ?_ h2 rfl rfl rb (by omega) (by omega)
  refine w_b (fun g2 => hQ0 _ s0 (fun z => g2 z.2.1)) (fun g2 => ?_)
  refine c_M_in c 0 255 ?_ h3 rfl rfl rc (by omega) (by omega)
  refine w_b (fun g3 => hQ0 _ s0 (fun z => g3 z.2.2)) (fun g3 => ?_)
  refine c_M_act (hS.sm s0 (by decide)) (hH.sm s0 (by decide) (by decide)) hn (fun h' hs' hH' => ?_)
  have hM := (hS.sm s0 (by decide)).sm hs' (by decide)
  have ei : (206 : Int32) + 8 * x1 + x2 = iI ((206 + 8 * a.toNat + b.toNat : Nat) : Int) := by
    rw [h1, h2]
    refine (congrArg (fun t => (206 : Int32) + t + iI b) (iI_mul 8 a)).trans ((congrArg (· + iI b) (iI_add 206 (8 * a))).trans ((iI_add _ _).trans (congrArg iI (by omega))))
  refine w_ix (206 + 8 * a.toNat + b.toNat) ?_ ei (show 206 + 8 * a.toNat + b.toNat < 270 by omega)
  refine w_ix (206 + 8 * a.toNat + b.toNat) ?_ ei (show 206 + 8 * a.toNat + b.toNat < 270 by omega)
  have := hQ1 (wa h' 91 (206 + 8 * a.toNat + b.toNat) x3) ⟨g1, g2, g3⟩ ⟨((s0.mo (by decide) (by decide)).t (hs'.mo (by decide) (by decide))).t (Sm.wa _ _ (by decide)), by rw [h3]; exact hM.wa _ _, hH'.sm (Sm.wa (X := []) (Y := [91]) _ _ (by decide)) (by decide) (by decide)⟩
  rw [← hM] at this
  exact this
end
section
theorem mvS_n {S : Nat → Int} {p i : Nat} {x y : Int} (h : i ≠ 26 + 9 * p) (h1 : i ≠ 26 + 9 * p + 1) : mvS S p x y i = S i := by
  unfold mvS
  rw [u1_n _ _ h1, u1_n _ _ h]
theorem wp_mv {S : Nat → Int} (hW : WP S) {p : Nat} {x y : Int} (hx : -15 ≤ x ∧ x ≤ 63) (hy : -15 ≤ y ∧ y ≤ 47) : WP (mvS S p x y) := by
  intro q hq
  have h := hW q hq
  rw [mvS_n (i := 5) (by omega) (by omega), mvS_n (i := 26 + 9 * q + 2) (by omega) (by omega), mvS_n (i := 26 + 9 * q + 3) (by omega) (by omega), mvS_n (i := 26 + 9 * q + 4) (by omega) (by omega), mvS_n (i := 26 + 9 * q + 5) (by omega) (by omega), mvS_n (i := 26 + 9 * q + 6) (by omega) (by omega), mvS_n (i := 26 + 9 * q + 7) (by omega) (by omega), mvS_n (i := 26 + 9 * q + 8) (by omega) (by omega)]
  by_cases hqp : q = p
  · subst hqp
    refine ⟨?_, ?_, h.2.2⟩
    · unfold mvS; rw [u1_n _ _ (by omega), u1_s]; exact hx
    · unfold mvS; rw [u1_s]; exact hy
  · rw [mvS_n (i := 26 + 9 * q) (by omega) (by omega), mvS_n (i := 26 + 9 * q + 1) (by omega) (by omega)]
    exact h
abbrev SmA (h h' : St) : Prop := Sm [(90, 0), (90, 4)] [98, 96, 93, 91] h h'
theorem smA0 {h h' : St} (a : Sm [(90, 0)] [] h h') : SmA h h' := a.mo (by decide) (by decide)
theorem smA1 {h h' : St} (a : Sm [(90, 4)] [93] h h') : SmA h h' := a.mo (by decide) (by decide)
theorem smA2 {h h' : St} (a : Sm [] [91] h h') : SmA h h' := a.mo (by decide) (by decide)
theorem smA3 {h h' : St} (a : Sm [] [98, 96, 91] h h') : SmA h h' := a.mo (by decide) (by decide)
theorem mh91 {n : Nat} {H : Nat → Nat → Int} {h h' : St} (hH : MH n H h) (a : Sm [] [91] h h') : MH n H h' := hH.sm a (by decide) (by decide)
/-- a new puppet -/
def cmS (S : Nat → Int) (x y t g c : Int) : Nat → Int :=
  u1 (u1 (u1 (u1 (u1 (u1 (u1 (u1 S 0 (S 0 + 1)) (6 + (S 1).toNat) (S 0)) 1 (S 1 + 1)) (26 + 9 * (S 0).toNat) x) (26 + 9 * (S 0).toNat + 1) y) (26 + 9 * (S 0).toNat + 2) t) (26 + 9 * (S 0).toNat + 3) g) (26 + 9 * (S 0).toNat + 4) c
theorem MS_zero {S : Nat → Int} {h : St} (hS : MS S h) {i : Nat} (hi : S i = 0) : MS S (wa h 91 i 0) := by
  intro j
  by_cases hj : j = i
  · rw [hj, wa_s, hi]; rfl
  · rw [wa_n _ _ _ _ hj]; exact hS j
set_option maxHeartbeats 4000000 in
theorem c_M_come {S : Nat → Int} {n : Nat} {H : Nat → Nat → Int} {x1 x2 x3 x4 x5 : Int32} {h : St} {Q : Option Value → St → Prop} (hS : MS S h) (hW : WF S) (hH : MH n H h) (hn : n ≤ 5) (x y t g c : Int)
    (hQ0 : ∀ h', Sm [(90, 0)] [] h h' → ¬ (((-15 ≤ x ∧ x ≤ 63) ∧ (-15 ≤ y ∧ y ≤ 47)) ∧ (0 ≤ t ∧ t ≤ 1) ∧ (0 ≤ g ∧ g ≤ 7) ∧ (1 ≤ c ∧ c ≤ 9)) → Q (some (.int (-101))) h')
    (hQ1 : ∀ h', Sm [(90, 0)] [] h h' → (((-15 ≤ x ∧ x ≤ 63) ∧ (-15 ≤ y ∧ y ≤ 47)) ∧ (0 ≤ t ∧ t ≤ 1) ∧ (0 ≤ g ∧ g ≤ 7) ∧ (1 ≤ c ∧ c ≤ 9)) → S 0 = 20 → Q (some (.int (-103))) h')
    (hQ2 : ∀ h', (((-15 ≤ x ∧ x ≤ 63) ∧ (-15 ≤ y ∧ y ≤ 47)) ∧ (0 ≤ t ∧ t ≤ 1) ∧ (0 ≤ g ∧ g ≤ 7) ∧ (1 ≤ c ∧ c ≤ 9)) → S 0 ≠ 20 → MPd S n H (cmS S x y t g c) h h' → Q (some (.int (iI (S 0)))) h')
    (h1 : x1 = iI x) (h2 : x2 = iI y) (h3 : x3 = iI t) (h4 : x4 = iI g) (h5 : x5 = iI c) (rx : rg x) (ry : rg y) (rt : rg t) (rgg : rg g) (rc : rg c) : SC y_M_come [.ref 90, .int x1, .int x2, .int x3, .int x4, .int x5] h Q := by
  refine w_call IS_ok [112] ok_M_come rfl rfl ?_
  have s0 : Sm [(90, 0)] [] h (pf h 0 0) := Sm.pf _ (by decide)
  refine c_M_isPlace x y ?_ h1 h2 rx ry
  refine w_b (fun g1 => hQ0 _ s0 (fun z => g1 z.1)) (fun g1 => ?_)
  refine c_M_in t 0 1 ?_ h3 rfl rfl rt (by omega) (by omega)
  refine w_b (fun g2 => hQ0 _ s0 (fun z => g2 z.2.1)) (fun g2 => ?_)
  refine c_M_in g 0 7 ?_ h4 rfl rfl rgg (by omega) (by omega)
  refine w_b (fun g3 => hQ0 _ s0 (fun z => g3 z.2.2.1)) (fun g3 => ?_)
  refine c_M_in c 1 9 ?_ h5 rfl rfl rc (by omega) (by omega)
  refine w_b (fun g4 => hQ0 _ s0 (fun z => g4 z.2.2.2)) (fun g4 => ?_)
  have hM0 := hS.sm s0 (by decide)
  obtain ⟨hn1, hn2, hs1, hs2, hs3⟩ := hW.n
  refine w_ix 0 (w_eq (S 0) 20 (fun g5 => ?_) (fun g5 => ?_) (hM0 0)) rfl (show 0 < 270 by omega)
  · exact hQ1 _ s0 ⟨g1, g2, g3, g4⟩ g5
  refine c_M_act hM0 (hH.sm s0 (by decide) (by decide)) hn (fun h6 hs6 hH6 => ?_)
  have hM6 := hM0.sm hs6 (by decide)
  obtain ⟨p, hp⟩ : ∃ p : Nat, S 0 = p := ⟨(S 0).toNat, by omega⟩
  have hp20 : p < 20 := by omega
  have hpt : (S 0).toNat = p := by omega
  have hz := hW.2.2.2.2.2.2.2.2.2.2.2 p hp20 (by omega)
  refine w_ix 0 ?_ rfl (show 0 < 270 by omega)
  refine w_ix 0 ?_ rfl (show 0 < 270 by omega)
  refine w_ix 0 ?_ rfl (show 0 < 270 by omega)
  have e0 : h6.2 91 0 = iI p := by rw [hM6, hp]
  have hM7 : MS (u1 S 0 (S 0 + 1)) (wa h6 91 0 (h6.2 91 0 + 1)) := by rw [hM6, show iI (S 0) + 1 = iI (S 0 + 1) from iI_add _ 1]; exact hM6.wa _ _
  have en : (wa h6 91 0 (h6.2 91 0 + 1)).2 91 1 = iI (S 1) := by rw [wa_n _ _ _ _ (by omega)]; exact hM6 1
  refine w_ix 1 ?_ rfl (show 1 < 270 by omega)
  refine w_ix (6 + (S 1).toNat) ?_ (by
    show (6 : Int32) + (wa h6 91 0 (h6.2 91 0 + 1)).2 91 1 = _
    rw [en]; exact (iI_add 6 _).trans (congrArg iI (by omega))) (show 6 + (S 1).toNat < 270 by omega)
  have hM8 : MS (u1 (u1 S 0 (S 0 + 1)) (6 + (S 1).toNat) (S 0)) (wa (wa h6 91 0 (h6.2 91 0 + 1)) 91 (6 + (S 1).toNat) (h6.2 91 0)) := by rw [hM6 0] at hM7 ⊢; exact hM7.wa _ _
  refine w_ix 1 ?_ rfl (show 1 < 270 by omega)
  refine w_ix 1 ?_ rfl (show 1 < 270 by omega)
  have hM9 : MS (u1 (u1 (u1 S 0 (S 0 + 1)) (6 + (S 1).toNat) (S 0)) 1 (S 1 + 1)) (wa (wa (wa h6 91 0 (h6.2 91 0 + 1)) 91 (6 + (S 1).toNat) (h6.2 91 0)) 91 1 ((wa (wa h6 91 0 (h6.2 91 0 + 1)) 91 (6 + (S 1).toNat) (h6.2 91 0)).2 91 1 + 1)) := by
    rw [hM8 1, u1_n _ _ (by omega), u1_n _ _ (by omega), show iI (S 1) + 1 = iI (S 1 + 1) from iI_add _ 1]
    exact hM8.wa _ _
  have hsm9 : Sm [] [91] h6 (wa (wa (wa h6 91 0 (h6.2 91 0 + 1)) 91 (6 + (S 1).toNat) (h6.2 91 0)) 91 1 ((wa (wa h6 91 0 (h6.2 91 0 + 1)) 91 (6 + (S 1).toNat) (h6.2 91 0)).2 91 1 + 1)) := ((Sm.wa _ _ (by decide)).t (Sm.wa _ _ (by decide))).t (Sm.wa _ _ (by decide))
  generalize hT : u1 (u1 (u1 S 0 (S 0 + 1)) (6 + (S 1).toNat) (S 0)) 1 (S 1 + 1) = T at *
  have hTz : ∀ j, j < 9 → T (26 + 9 * p + j) = 0 := fun j hj => by
    rw [← hT, u1_n _ _ (by omega), u1_n _ _ (by omega), u1_n _ _ (by omega)]
    exact hz j hj
  have loop : ∀ (m k : Nat), 10 ≤ k + m → k ≤ 9 → ∀ (hc : St) (z : Int32), Sm [] [91] h6 hc → MS T hc → z = iI k → SR y_M_come 112 [some (.ref 90), some (.int x1), some (.int x2), some (.int x3), some (.int x4), some (.int x5), some (.int (h6.2 91 0)), some (.int z)] [] hc Q := by
    intro m
    induction m with
    | zero => intro k g1 g2; omega
    | succ m ih =>
      intro k q1 q2 hc z hsm hM ez
      refine w_loop IS_ok [112] ok_M_come ?_
      refine w_le 9 k (fun q3 => ?_) (fun q3 => ?_) rfl ez
      · subst h1; subst h2; subst h3; subst h4; subst h5
        refine c_M_put' p 0 ?_ e0 rfl hp20 (by omega)
        refine c_M_put' p 1 ?_ e0 rfl hp20 (by omega)
        refine c_M_put' p 2 ?_ e0 rfl hp20 (by omega)
        refine c_M_put' p 3 ?_ e0 rfl hp20 (by omega)
        refine c_M_put' p 4 ?_ e0 rfl hp20 (by omega)
        have hfin : MS (cmS S x y t g c) (wa (wa (wa (wa (wa hc 91 (26 + 9 * p + 0) (iI x)) 91 (26 + 9 * p + 1) (iI y)) 91 (26 + 9 * p + 2) (iI t)) 91 (26 + 9 * p + 3) (iI g)) 91 (26 + 9 * p + 4) (iI c)) := by
          unfold cmS
          rw [hpt, hT]
          exact ((((hM.wa _ _).wa _ _).wa _ _).wa _ _).wa _ _
        have hsf : Sm [] [91] h6 (wa (wa (wa (wa (wa hc 91 (26 + 9 * p + 0) (iI x)) 91 (26 + 9 * p + 1) (iI y)) 91 (26 + 9 * p + 2) (iI t)) 91 (26 + 9 * p + 3) (iI g)) 91 (26 + 9 * p + 4) (iI c)) := ((((hsm.t (Sm.wa _ _ (by decide))).t (Sm.wa _ _ (by decide))).t (Sm.wa _ _ (by decide))).t (Sm.wa _ _ (by decide))).t (Sm.wa _ _ (by decide))
        have := hQ2 _ ⟨g1, g2, g3, g4⟩ g5 ⟨((smA0 s0).t (smA1 hs6)).t (smA2 hsf), hfin, mh91 hH6 hsf⟩
        rw [hp, ← e0] at this
        exact this
      · refine c_M_put' p k ?_ e0 ez hp20 (by omega)
        exact ih (k + 1) (by omega) (by omega) _ _ (hsm.t (Sm.wa _ _ (by decide))) (MS_zero hM (hTz k (by omega))) (iI_1 ez)
  exact loop 10 0 (by omega) (by omega) _ _ hsm9 hM9 rfl
theorem c_M_leave {S : Nat → Int} {n : Nat} {H : Nat → Nat → Int} {x1 : Int32} {h : St} {Q : Option Value → St → Prop} (hS : MS S h) (hW : WF S) (hH : MH n H h) (hn : n ≤ 5) (p : Int)
    (hQ0 : ∀ h', Sm [(90, 0)] [] h h' → ¬ thr S p → Q (some (.int (-101))) h')
    (hQ1 : ∀ h' S' (q : Nat), thr S p → pos S p (S 1).toNat = q → q < (S 1).toNat → ROrd S ((S 1).toNat - 1) (outO (od S) q) S' → MPd S n H S' h h' → Q (some (.int (iI q))) h') (h1 : x1 = iI p) (rp : rg p) : SC y_M_leave [.ref 90, .int x1] h Q := by
  refine w_call IS_ok [] ok_M_leave rfl rfl ?_
  have s0 : Sm [(90, 0)] [] h (pf h 0 0) := Sm.pf _ (by decide)
  have hM0 := hS.sm s0 (by decide)
  refine c_M_isThere hM0 hW p ?_ h1 rp
  refine w_b (fun g1 => hQ0 _ s0 g1) (fun g1 => ?_)
  refine c_M_act hM0 (hH.sm s0 (by decide) (by decide)) hn (fun h6 hs6 hH6 => ?_)
  have hM6 := hM0.sm hs6 (by decide)
  refine c_M_positionOf hM6 hW p ?_ h1 rp
  obtain ⟨q, hq⟩ : ∃ q : Nat, pos S p (S 1).toNat = q := ⟨(pos S p (S 1).toNat).toNat, by have := pos_b S p (S 1).toNat; omega⟩
  have hqa := pos_at hq
  rw [hq]
  refine c_M_takeOut hM6 hW q hqa.1 (fun h7 S' hs7 hM7 hR => ?_) rfl
  exact hQ1 h7 S' q g1 hq hqa.1 hR ⟨((smA0 s0).t (smA1 hs6)).t (smA2 hs7), hM7, mh91 hH6 hs7⟩
theorem c_M_move {S : Nat → Int} {n : Nat} {H : Nat → Nat → Int} {x1 x2 x3 : Int32} {h : St} {Q : Option Value → St → Prop} (hS : MS S h) (hW : WF S) (hH : MH n H h) (hn : n ≤ 5) (p x y : Int)
    (hQ0 : ∀ h', Sm [(90, 0)] [] h h' → ¬ (thr S p ∧ (-15 ≤ x ∧ x ≤ 63) ∧ (-15 ≤ y ∧ y ≤ 47)) → Q (some (.int (-101))) h')
    (hQ1 : ∀ h', (thr S p ∧ (-15 ≤ x ∧ x ≤ 63) ∧ (-15 ≤ y ∧ y ≤ 47)) → MPd S n H (mvS S p.toNat x y) h h' → Q (some (.int (iI (lns (mvS S p.toNat x y) p.toNat 48)))) h') (h1 : x1 = iI p) (h2 : x2 = iI x) (h3 : x3 = iI y) (rp : rg p) (rx : rg x) (ry : rg y) : SC y_M_move [.ref 90, .int x1, .int x2, .int x3] h Q := by
  refine w_call IS_ok [] ok_M_move rfl rfl ?_
  have s0 : Sm [(90, 0)] [] h (pf h 0 0) := Sm.pf _ (by decide)
  have hM0 := hS.sm s0 (by decide)
  refine c_M_moveCode hM0 hW p x y ?_ h1 h2 h3 rp rx ry
  by_cases hc : thr S p ∧ (-15 ≤ x ∧ x ≤ 63) ∧ (-15 ≤ y ∧ y ≤ 47)
  · rw [if_pos hc]
    refine c_M_act hM0 (hH.sm s0 (by decide) (by decide)) hn (fun h6 hs6 hH6 => ?_)
    have hM6 := hM0.sm hs6 (by decide)
    have hb := thr_b hW hc.1
    refine c_M_moveNow hM6 p.toNat x y (wp_mv hW.wp hc.2.1 hc.2.2) (by omega) (fun h7 hs7 hM7 => ?_) (by rw [h1]; exact congrArg iI (by omega)) h2 h3
    exact hQ1 h7 hc ⟨((smA0 s0).t (smA1 hs6)).t (smA2 hs7), hM7, mh91 hH6 hs7⟩
  · rw [if_neg hc]
    exact hQ0 _ s0 hc
theorem c_M_turn {S : Nat → Int} {n : Nat} {H : Nat → Nat → Int} {x1 x2 : Int32} {h : St} {Q : Option Value → St → Prop} (hS : MS S h) (hW : WF S) (hH : MH n H h) (hn : n ≤ 5) (p f : Int)
    (hQ0 : ∀ h', Sm [(90, 0)] [] h h' → ¬ (thr S p ∧ (0 ≤ f ∧ f ≤ 3)) → Q (some (.int (-101))) h')
    (hQ1 : ∀ h', (thr S p ∧ (0 ≤ f ∧ f ≤ 3)) → MPd S n H (u1 S (26 + 9 * p.toNat + 5) f) h h' → Q (some (.int (iI (S (26 + 9 * p.toNat + 5))))) h') (h1 : x1 = iI p) (h2 : x2 = iI f) (rp : rg p) (rf : rg f) : SC y_M_turn [.ref 90, .int x1, .int x2] h Q := by
  refine w_call IS_ok [] ok_M_turn rfl rfl ?_
  have s0 : Sm [(90, 0)] [] h (pf h 0 0) := Sm.pf _ (by decide)
  have hM0 := hS.sm s0 (by decide)
  refine c_M_turnCode hM0 hW p f ?_ h1 h2 rp rf
  by_cases hc : thr S p ∧ (0 ≤ f ∧ f ≤ 3)
  · rw [if_pos hc]
    refine c_M_act hM0 (hH.sm s0 (by decide) (by decide)) hn (fun h6 hs6 hH6 => ?_)
    have hM6 := hM0.sm hs6 (by decide)
    have hb := thr_b hW hc.1
    refine c_M_turnNow hM6 p.toNat f (by omega) (fun h7 hs7 hM7 => ?_) (by rw [h1]; exact congrArg iI (by omega)) h2
    exact hQ1 h7 hc ⟨((smA0 s0).t (smA1 hs6)).t (smA2 hs7), hM7, mh91 hH6 hs7⟩
  · rw [if_neg hc]
    exact hQ0 _ s0 hc
theorem c_M_lift {S : Nat → Int} {n : Nat} {H : Nat → Nat → Int} {x1 : Int32} {h : St} {Q : Option Value → St → Prop} (hS : MS S h) (hW : WF S) (hH : MH n H h) (hn : n ≤ 5) (p : Int)
    (hQ0 : ∀ h', Sm [(90, 0)] [] h h' → ¬ thr S p → Q (some (.int (-101))) h')
    (hQ1 : ∀ h' S' (q : Nat), thr S p → pos S p (S 1).toNat = q → q < (S 1).toNat → ROrd S (S 1).toNat (lftO (od S) q) S' → MPd S n H S' h h' → Q (some (.int (iI q))) h') (h1 : x1 = iI p) (rp : rg p) : SC y_M_lift [.ref 90, .int x1] h Q := by
  refine w_call IS_ok [] ok_M_lift rfl rfl ?_
  have s0 : Sm [(90, 0)] [] h (pf h 0 0) := Sm.pf _ (by decide)
  have hM0 := hS.sm s0 (by decide)
  refine c_M_thereCode hM0 hW p ?_ h1 rp
  by_cases hc : thr S p
  · rw [if_pos hc]
    refine c_M_act hM0 (hH.sm s0 (by decide) (by decide)) hn (fun h6 hs6 hH6 => ?_)
    have hM6 := hM0.sm hs6 (by decide)
    refine c_M_liftNow hM6 hW p hc (fun h7 S' q hs7 hM7 hq hq2 hR => ?_) h1
    exact hQ1 h7 S' q hc hq hq2 hR ⟨((smA0 s0).t (smA1 hs6)).t (smA2 hs7), hM7, mh91 hH6 hs7⟩
  · rw [if_neg hc]
    exact hQ0 _ s0 hc
theorem c_M_lower {S : Nat → Int} {n : Nat} {H : Nat → Nat → Int} {x1 : Int32} {h : St} {Q : Option Value → St → Prop} (hS : MS S h) (hW : WF S) (hH : MH n H h) (hn : n ≤ 5) (p : Int)
    (hQ0 : ∀ h', Sm [(90, 0)] [] h h' → ¬ thr S p → Q (some (.int (-101))) h')
    (hQ1 : ∀ h' S' (q : Nat), thr S p → pos S p (S 1).toNat = q → q < (S 1).toNat → ROrd S (S 1).toNat (lowO (od S) q (S 1).toNat) S' → MPd S n H S' h h' → Q (some (.int (iI q))) h') (h1 : x1 = iI p) (rp : rg p) : SC y_M_lower [.ref 90, .int x1] h Q := by
  refine w_call IS_ok [] ok_M_lower rfl rfl ?_
  have s0 : Sm [(90, 0)] [] h (pf h 0 0) := Sm.pf _ (by decide)
  have hM0 := hS.sm s0 (by decide)
  refine c_M_thereCode hM0 hW p ?_ h1 rp
  by_cases hc : thr S p
  · rw [if_pos hc]
    refine c_M_act hM0 (hH.sm s0 (by decide) (by decide)) hn (fun h6 hs6 hH6 => ?_)
    have hM6 := hM0.sm hs6 (by decide)
    refine c_M_lowerNow hM6 hW p hc (fun h7 S' q hs7 hM7 hq hq2 hR => ?_) h1
    exact hQ1 h7 S' q hc hq hq2 hR ⟨((smA0 s0).t (smA1 hs6)).t (smA2 hs7), hM7, mh91 hH6 hs7⟩
  · rw [if_neg hc]
    exact hQ0 _ s0 hc
theorem c_M_setLimit {S : Nat → Int} {n : Nat} {H : Nat → Nat → Int} {x1 : Int32} {h : St} {Q : Option Value → St → Prop} (hS : MS S h) (hH : MH n H h) (hn : n ≤ 5) (l : Int)
    (hQ0 : ∀ h', Sm [(90, 0)] [] h h' → ¬ (1 ≤ l ∧ l ≤ 8) → Q (some (.int (-101))) h')
    (hQ1 : ∀ h', (1 ≤ l ∧ l ≤ 8) → MPd S n H (u1 S 2 l) h h' → Q (some (.int (iI (S 2)))) h') (h1 : x1 = iI l) (rl : rg l) : SC y_M_setLimit [.ref 90, .int x1] h Q := by
  refine w_call IS_ok [] ok_M_setLimit rfl rfl ?_
  have s0 : Sm [(90, 0)] [] h (pf h 0 0) := Sm.pf _ (by decide)
  have hM0 := hS.sm s0 (by decide)
  refine c_M_limitCode l ?_ h1 rl
  by_cases hc : 1 ≤ l ∧ l ≤ 8
  · rw [if_pos hc]
    refine c_M_act hM0 (hH.sm s0 (by decide) (by decide)) hn (fun h6 hs6 hH6 => ?_)
    have hM6 := hM0.sm hs6 (by decide)
    refine c_M_limitNow hM6 l (fun h7 hs7 hM7 => ?_) h1
    exact hQ1 h7 hc ⟨((smA0 s0).t (smA1 hs6)).t (smA2 hs7), hM7, mh91 hH6 hs7⟩
  · rw [if_neg hc]
    exact hQ0 _ s0 hc
theorem c_M_setRule {S : Nat → Int} {n : Nat} {H : Nat → Nat → Int} {x1 x2 : Int32} {h : St} {Q : Option Value → St → Prop} (hS : MS S h) (hH : MH n H h) (hn : n ≤ 5) (a b : Int)
    (hQ0 : ∀ h', Sm [(90, 0)] [] h h' → ¬ ((0 ≤ a ∧ a ≤ 2) ∧ (1 ≤ b ∧ b ≤ 19)) → Q (some (.int (-101))) h')
    (hQ1 : ∀ h', ((0 ≤ a ∧ a ≤ 2) ∧ (1 ≤ b ∧ b ≤ 19)) → MPd S n H (u1 (u1 S 3 a) 4 b) h h' → Q (some (.int (iI (S 3)))) h') (h1 : x1 = iI a) (h2 : x2 = iI b) (ra : rg a) (rb : rg b) : SC y_M_setRule [.ref 90, .int x1, .int x2] h Q := by
  refine w_call IS_ok [] ok_M_setRule rfl rfl ?_
  have s0 : Sm [(90, 0)] [] h (pf h 0 0) := Sm.pf _ (by decide)
  have hM0 := hS.sm s0 (by decide)
  refine c_M_in a 0 2 ?_ h1 rfl rfl ra (by omega) (by omega)
  refine w_b (fun g1 => hQ0 _ s0 (fun z => g1 z.1)) (fun g1 => ?_)
  refine c_M_in b 1 19 ?_ h2 rfl rfl rb (by omega) (by omega)
  refine w_b (fun g2 => hQ0 _ s0 (fun z => g2 z.2)) (fun g2 => ?_)
  refine c_M_act hM0 (hH.sm s0 (by decide) (by decide)) hn (fun h6 hs6 hH6 => ?_)
  have hM6 := hM0.sm hs6 (by decide)
  refine w_ix 3 ?_ rfl (show 3 < 270 by omega)
  refine w_ix 3 ?_ rfl (show 3 < 270 by omega)
  refine w_ix 4 ?_ rfl (show 4 < 270 by omega)
  have hsf : Sm [] [91] h6 (wa (wa h6 91 3 x1) 91 4 x2) := (Sm.wa _ _ (by decide)).t (Sm.wa _ _ (by decide))
  have := hQ1 (wa (wa h6 91 3 x1) 91 4 x2) ⟨g1, g2⟩ ⟨((smA0 s0).t (smA1 hs6)).t (smA2 hsf), by rw [h1, h2]; exact (hM6.wa _ _).wa _ _, mh91 hH6 hsf⟩
  rw [← hM6 3] at this
  exact this
theorem c_M_frame {S : Nat → Int} {n : Nat} {H : Nat → Nat → Int} {h : St} {Q : Option Value → St → Prop} (hS : MS S h) (hW : WF S) (hH : MH n H h) (hn : n ≤ 5)
    (hQ0 : ∀ h', Sm [(90, 0)] [] h h' → S 5 = 9999 → Q (some (.int (-103))) h')
    (hQ1 : ∀ h' S', S 5 ≠ 9999 → RFr S S' → MPd S n H S' h h' → Q (some (.int (iI (hidN S)))) h') : SC y_M_frame [.ref 90] h Q := by
  refine w_call IS_ok [] ok_M_frame rfl rfl ?_
  have s0 : Sm [(90, 0)] [] h (pf h 0 0) := Sm.pf _ (by decide)
  have hM0 := hS.sm s0 (by decide)
  refine c_M_frameCode hM0 hW ?_
  by_cases hc : S 5 = 9999
  · rw [if_pos hc]
    exact hQ0 _ s0 hc
  · rw [if_neg hc]
    refine c_M_act hM0 (hH.sm s0 (by decide) (by decide)) hn (fun h6 hs6 hH6 => ?_)
    have hM6 := hM0.sm hs6 (by decide)
    refine c_M_frameNow hM6 hW (fun h7 S' hs7 hM7 hR => ?_)
    exact hQ1 h7 S' hc hR ⟨((smA0 s0).t (smA1 hs6)).t (smA3 hs7), hM7, hH6.sm hs7 (by decide) (by decide)⟩
end
section
/-! the reference's answers that change nothing -/
def MTx (n : Nat) (T : Nat → Nat) (h : St) : Prop := h.1 90 6 = iI n ∧ ∀ i, i < n → h.2 94 i = iI (T i)
def MFl (f : Nat) (G : Nat → Int) (h : St) : Prop := h.1 90 21 = iI f ∧ ∀ j, j < 5 → h.2 108 j = iI (G j)
theorem MTx.sm {n : Nat} {T : Nat → Nat} {X : List (Nat × Nat)} {Y : List Nat} {h h' : St} (hT : MTx n T h) (a : Sm X Y h h') (hx : (90, 6) ∉ X) (hy : 94 ∉ Y) : MTx n T h' := ⟨by rw [a.1 _ _ hx]; exact hT.1, fun i hi => by rw [a.2 94 hy]; exact hT.2 i hi⟩
theorem MFl.sm {f : Nat} {G : Nat → Int} {X : List (Nat × Nat)} {Y : List Nat} {h h' : St} (hT : MFl f G h) (a : Sm X Y h h') (hx : (90, 21) ∉ X) (hy : 108 ∉ Y) : MFl f G h' := ⟨by rw [a.1 _ _ hx]; exact hT.1, fun i hi => by rw [a.2 108 hy]; exact hT.2 i hi⟩
def FaiR (f : Nat) (G : Nat → Int) (w r : Int) : Prop := (¬ (0 ≤ w ∧ w ≤ 4) ∧ r = -101) ∨ ((0 ≤ w ∧ w ≤ 4) ∧ ((f = 0 ∧ r = -109) ∨ (f = 1 ∧ r = G w.toNat)))
theorem c_M_failure {f : Nat} {G : Nat → Int} {x1 : Int32} {h : St} {Q : Option Value → St → Prop} (hF : MFl f G h) (hf : f ≤ 1) (w : Int) (hQ : ∀ h' r, Sm [(90, 0)] [] h h' → FaiR f G w r → Q (some (.int (iI r))) h') (h1 : x1 = iI w) (rw : rg w) : SC y_M_failure [.ref 90, .int x1] h Q := by
  refine w_call IS_ok [] ok_M_failure rfl rfl ?_
  have s0 : Sm [(90, 0)] [] h (pf h 0 0) := Sm.pf _ (by decide)
  refine c_M_in w 0 4 ?_ h1 rfl rfl rw (by omega) (by omega)
  refine w_b (fun g1 => hQ _ _ s0 (Or.inl ⟨g1, rfl⟩)) (fun g1 => ?_)
  have hF0 := hF.sm s0 (by decide) (by decide)
  refine w_eq f 0 (fun g2 => ?_) (fun g2 => ?_) hF0.1 rfl
  · exact hQ _ _ s0 (Or.inr ⟨g1, Or.inl ⟨by omega, rfl⟩⟩)
  · refine w_ix w.toNat ?_ (by rw [h1]; exact congrArg iI (by omega)) (show w.toNat < 5 by omega)
    have := hQ _ _ s0 (Or.inr ⟨g1, Or.inr ⟨by omega, rfl⟩⟩)
    rw [← hF0.2 w.toNat (by omega)] at this
    exact this
noncomputable def adt (S : Nat → Int) (n : Nat) : Nat := sm (fun y : Nat => dts S y 64) n
theorem c_M_allDots {S : Nat → Int} {h : St} {Q : Option Value → St → Prop} (hS : MS S h) (hW : WF S) (hQ : Q (some (.int (iI (adt S 48)))) h) : SC y_M_allDots [.ref 90] h Q := by
  refine w_call IS_ok [4] ok_M_allDots rfl rfl ?_
  have loop : ∀ (m k : Nat), 49 ≤ k + m → k ≤ 48 → ∀ v w : Int32, v = iI (adt S k) → w = iI k → SR y_M_allDots 4 [some (.ref 90), some (.int v), some (.int w)] [] h Q := by
    intro m
    induction m with
    | zero => intro k h1 h2; omega
    | succ m ih =>
      intro k h1 h2 v w hv hw
      refine w_loop IS_ok [4] ok_M_allDots ?_
      refine w_le 48 k (fun h3 => ?_) (fun h3 => ?_) rfl hw
      · have : k = 48 := by omega
        subst this
        rw [← hv] at hQ
        exact hQ
      · refine c_M_dotsOn hS hW k ?_ hw (by omega)
        refine ih (k + 1) (by omega) (by omega) _ _ ?_ (iI_1 hw)
        rw [hv, iI_add]
        exact congrArg iI (by simp only [adt, sm]; omega)
  exact loop 49 0 (by omega) (by omega) _ _ rfl rfl
/-- what count answers -/
def CntR (S : Nat → Int) (hn len : Nat) (w r : Int) : Prop := (w = 0 ∧ r = S 1) ∨ (w = 1 ∧ r = S 0) ∨ (w = 2 ∧ r = S 2) ∨ (w = 3 ∧ r = S 3) ∨ (w = 4 ∧ r = S 4) ∨ (w = 5 ∧ r = S 5) ∨ (w = 6 ∧ r = hidN S) ∨ (w = 7 ∧ r = adt S 48) ∨ (w = 8 ∧ HerR S (S 1).toNat r) ∨ (w = 9 ∧ r = hn) ∨ (w = 10 ∧ r = len) ∨ (¬ (0 ≤ w ∧ w ≤ 10) ∧ r = -101)
theorem c_M_hid {S : Nat → Int} {h : St} {Q : Option Value → St → Prop} (hS : MS S h) (hW : WF S) (hQ : ∀ (h' : St) (w : Nat), Sm [] [98] h h' → w < 2 ^ 20 → (∀ p, p < 20 → w.testBit p = hdd S p) → (∀ p, p < 20 → h'.2 98 p = iI (hT S (od S) (S 1).toNat 48 p)) → Q (some (.int (nI w))) h') : SC y_M_hidden [.ref 90, .ref 91, .int 6] h Q := by
  obtain ⟨hn1, hn2, -⟩ := hW.n
  have hlim := hW.lim
  exact c_M_hidden_91 hS hW.wp (S 1).toNat (od S) hn1 hn2 (by omega) (fun k hk => (hW.od hk).2.1) (fun k hk => by rw [hS]; exact congrArg iI (hW.od hk).1) hQ rfl
set_option maxHeartbeats 4000000 in
theorem c_M_count {S : Nat → Int} {hn len : Nat} {H : Nat → Nat → Int} {T : Nat → Nat} {x1 : Int32} {h : St} {Q : Option Value → St → Prop} (hS : MS S h) (hW : WF S) (hH : MH hn H h) (hT : MTx len T h) (w : Int) (hQ : ∀ h' r, Sm [(90, 0)] [98] h h' → CntR S hn len w r → Q (some (.int (iI r))) h') (h1 : x1 = iI w) (rw : rg w) : SC y_M_count [.ref 90, .int x1] h Q := by
  refine w_call IS_ok [] ok_M_count rfl rfl ?_
  have s0 : Sm [(90, 0)] [98] h (pf h 0 0) := Sm.pf _ (by decide)
  have hM := hS.sm s0 (by decide)
  have rd : ∀ i, CntR S hn len w (S i) → Q (some (.int ((pf h 0 0).2 91 i))) (pf h 0 0) := fun i hi => by
    have := hQ _ _ s0 hi
    rwa [← hM i] at this
  refine w_eq w 0 (fun g => w_ix 1 (rd 1 (Or.inl ⟨g, rfl⟩)) rfl (show 1 < 270 by omega)) (fun g0 => ?_) h1 rfl
  refine w_eq w 1 (fun g => w_ix 0 (rd 0 (Or.inr (Or.inl ⟨g, rfl⟩))) rfl (show 0 < 270 by omega)) (fun g1 => ?_) h1 rfl
  refine w_eq w 2 (fun g => w_ix 2 (rd 2 (Or.inr (Or.inr (Or.inl ⟨g, rfl⟩)))) rfl (show 2 < 270 by omega)) (fun g2 => ?_) h1 rfl
  refine w_eq w 3 (fun g => w_ix 3 (rd 3 (Or.inr (Or.inr (Or.inr (Or.inl ⟨g, rfl⟩))))) rfl (show 3 < 270 by omega)) (fun g3 => ?_) h1 rfl
  refine w_eq w 4 (fun g => w_ix 4 (rd 4 (Or.inr (Or.inr (Or.inr (Or.inr (Or.inl ⟨g, rfl⟩)))))) rfl (show 4 < 270 by omega)) (fun g4 => ?_) h1 rfl
  refine w_eq w 5 (fun g => w_ix 5 (rd 5 (Or.inr (Or.inr (Or.inr (Or.inr (Or.inr (Or.inl ⟨g, rfl⟩))))))) rfl (show 5 < 270 by omega)) (fun g5 => ?_) h1 rfl
  refine w_eq w 6 (fun g => ?_) (fun g6 => ?_) h1 rfl
  · refine c_M_hid hM hW (fun h2 v hs2 hv hb _ => ?_)
    refine c_M_ones v ?_ hv
    rw [show onesN v 20 = hidN S from sm_congr (fun p hp => by rw [hb p hp])]
    exact hQ _ _ (s0.t (hs2.mo (by decide) (by decide))) (Or.inr (Or.inr (Or.inr (Or.inr (Or.inr (Or.inr (Or.inl ⟨g, rfl⟩)))))))
  refine w_eq w 7 (fun g => ?_) (fun g7 => ?_) h1 rfl
  · exact c_M_allDots hM hW (hQ _ _ s0 (Or.inr (Or.inr (Or.inr (Or.inr (Or.inr (Or.inr (Or.inr (Or.inl ⟨g, rfl⟩)))))))))
  refine w_eq w 8 (fun g => ?_) (fun g8 => ?_) h1 rfl
  · exact c_M_hero hM hW (fun r hr => hQ _ _ s0 (Or.inr (Or.inr (Or.inr (Or.inr (Or.inr (Or.inr (Or.inr (Or.inr (Or.inl ⟨g, hr⟩))))))))))
  refine w_eq w 9 (fun g => ?_) (fun g9 => ?_) h1 rfl
  · have := hQ _ _ s0 (Or.inr (Or.inr (Or.inr (Or.inr (Or.inr (Or.inr (Or.inr (Or.inr (Or.inr (Or.inl ⟨g, rfl⟩))))))))))
    rw [← (hH.sm s0 (by decide) (by decide)).1] at this
    exact this
  refine w_eq w 10 (fun g => ?_) (fun g10 => ?_) h1 rfl
  · have := hQ _ _ s0 (Or.inr (Or.inr (Or.inr (Or.inr (Or.inr (Or.inr (Or.inr (Or.inr (Or.inr (Or.inr (Or.inl ⟨g, rfl⟩)))))))))))
    rw [← (hT.sm s0 (by decide) (by decide)).1] at this
    exact this
  exact hQ _ _ s0 (Or.inr (Or.inr (Or.inr (Or.inr (Or.inr (Or.inr (Or.inr (Or.inr (Or.inr (Or.inr (Or.inr ⟨by omega, rfl⟩)))))))))))
theorem hT_0 {S : Nat → Int} {o : Nat → Nat} {n p : Nat} (h : hT S o n 48 p = 0) : hT S o n 48 p = 0 := h
theorem c_M_hiddenLinesOf {S : Nat → Int} {x1 : Int32} {h : St} {Q : Option Value → St → Prop} (hS : MS S h) (hW : WF S) (p : Nat) (hp : p < 20) (hQ : ∀ h', Sm [] [98] h h' → Q (some (.int (iI (hT S (od S) (S 1).toNat 48 p)))) h') (h1 : x1 = iI p) : SC y_M_hiddenLinesOf [.ref 90, .int x1] h Q := by
  refine w_call IS_ok [] ok_M_hiddenLinesOf rfl rfl ?_
  refine c_M_hid hS hW (fun h2 v hs2 hv hb hl => ?_)
  refine w_eq v 0 (fun g => ?_) (fun g => ?_) rfl rfl
  · have h3 := hb p hp
    have hv0 : v = 0 := by omega
    rw [hv0, Nat.zero_testBit] at h3
    have h4 : ¬ 0 < hT S (od S) (S 1).toNat 48 p := fun z => by
      unfold hdd at h3
      rw [decide_eq_true z] at h3
      cases h3
    have := hQ h2 hs2
    rw [show hT S (od S) (S 1).toNat 48 p = 0 by omega] at this
    exact this
  · refine w_ix p ?_ h1 (show p < 20 from hp)
    have := hQ h2 hs2
    rw [← hl p hp] at this
    exact this
/-- what puppet answers -/
def PupR (S : Nat → Int) (p w r : Int) : Prop := (¬ (thr S p ∧ (0 ≤ w ∧ w ≤ 11)) ∧ r = -101) ∨ ((thr S p ∧ (0 ≤ w ∧ w ≤ 11)) ∧ ((w = 6 ∧ r = pos S p (S 1).toNat) ∨ (w = 7 ∧ r = lns S p.toNat 48) ∨ (w = 8 ∧ r = hT S (od S) (S 1).toNat 48 p.toNat) ∨ (8 < w ∧ r = S (26 + 9 * p.toNat + (w - 3).toNat)) ∨ (w < 6 ∧ r = S (26 + 9 * p.toNat + w.toNat))))
set_option maxHeartbeats 4000000 in
theorem c_M_puppet {S : Nat → Int} {x1 x2 : Int32} {h : St} {Q : Option Value → St → Prop} (hS : MS S h) (hW : WF S) (p w : Int) (hQ : ∀ h' r, Sm [(90, 0)] [98] h h' → PupR S p w r → Q (some (.int (iI r))) h') (h1 : x1 = iI p) (h2 : x2 = iI w) (rp : rg p) (rw : rg w) : SC y_M_puppet [.ref 90, .int x1, .int x2] h Q := by
  refine w_call IS_ok [] ok_M_puppet rfl rfl ?_
  have s0 : Sm [(90, 0)] [98] h (pf h 0 0) := Sm.pf _ (by decide)
  have hM := hS.sm s0 (by decide)
  refine c_M_isThere hM hW p ?_ h1 rp
  refine w_b (fun g1 => hQ _ _ s0 (Or.inl ⟨fun z => g1 z.1, rfl⟩)) (fun g1 => ?_)
  refine c_M_in w 0 11 ?_ h2 rfl rfl rw (by omega) (by omega)
  refine w_b (fun g2 => hQ _ _ s0 (Or.inl ⟨fun z => g2 z.2, rfl⟩)) (fun g2 => ?_)
  have hb := thr_b hW g1
  have e1 : x1 = iI p.toNat := by rw [h1]; exact congrArg iI (by omega)
  have hp : p.toNat < 20 := by omega
  refine w_eq w 6 (fun g => ?_) (fun g6 => ?_) h2 rfl
  · exact c_M_positionOf hM hW p (hQ _ _ s0 (Or.inr ⟨⟨g1, g2⟩, Or.inl ⟨g, rfl⟩⟩)) h1 rp
  refine w_eq w 7 (fun g => ?_) (fun g7 => ?_) h2 rfl
  · exact c_M_linesOf hM hW.wp p.toNat (hQ _ _ s0 (Or.inr ⟨⟨g1, g2⟩, Or.inr (Or.inl ⟨g, rfl⟩)⟩)) e1 hp
  refine w_eq w 8 (fun g => ?_) (fun g8 => ?_) h2 rfl
  · exact c_M_hiddenLinesOf hM hW p.toNat hp (fun h' hs' => hQ _ _ (s0.t (hs'.mo (by decide) (by decide))) (Or.inr ⟨⟨g1, g2⟩, Or.inr (Or.inr (Or.inl ⟨g, rfl⟩))⟩)) e1
  refine w_eq w 9 (fun g => ?_) (fun g9 => ?_) h2 rfl
  · exact c_M_of hM p.toNat 6 (hQ _ _ s0 (Or.inr ⟨⟨g1, g2⟩, Or.inr (Or.inr (Or.inr (Or.inl ⟨by omega, by subst g; rfl⟩)))⟩)) e1 rfl hp (by omega)
  refine w_eq w 10 (fun g => ?_) (fun g10 => ?_) h2 rfl
  · exact c_M_of hM p.toNat 7 (hQ _ _ s0 (Or.inr ⟨⟨g1, g2⟩, Or.inr (Or.inr (Or.inr (Or.inl ⟨by omega, by subst g; rfl⟩)))⟩)) e1 rfl hp (by omega)
  refine w_eq w 11 (fun g => ?_) (fun g11 => ?_) h2 rfl
  · exact c_M_of hM p.toNat 8 (hQ _ _ s0 (Or.inr ⟨⟨g1, g2⟩, Or.inr (Or.inr (Or.inr (Or.inl ⟨by omega, by subst g; rfl⟩)))⟩)) e1 rfl hp (by omega)
  exact c_M_of hM p.toNat w.toNat (hQ _ _ s0 (Or.inr ⟨⟨g1, g2⟩, Or.inr (Or.inr (Or.inr (Or.inr ⟨by omega, rfl⟩)))⟩)) e1 (by rw [h2]; exact congrArg iI (by omega)) hp (by omega)
/-- what line answers -/
def LinR (S : Nat → Int) (y w r : Int) : Prop := (¬ ((0 ≤ y ∧ y ≤ 47) ∧ (0 ≤ w ∧ w ≤ 2)) ∧ r = -101) ∨ (((0 ≤ y ∧ y ≤ 47) ∧ (0 ≤ w ∧ w ≤ 2)) ∧ ((w = 0 ∧ r = cn S (od S) y (S 1).toNat) ∨ (w = 2 ∧ r = dts S y 64) ∨ (w = 1 ∧ r = if (cn S (od S) y (S 1).toNat : Int) < S 2 then (cn S (od S) y (S 1).toNat : Int) else S 2)))
set_option maxHeartbeats 1000000 in
theorem c_M_line {S : Nat → Int} {x1 x2 : Int32} {h : St} {Q : Option Value → St → Prop} (hS : MS S h) (hW : WF S) (y w : Int) (hQ : ∀ h' r, Sm [(90, 0)] [] h h' → LinR S y w r → Q (some (.int (iI r))) h') (h1 : x1 = iI y) (h2 : x2 = iI w) (ry : rg y) (rw' : rg w) : SC y_M_line [.ref 90, .int x1, .int x2] h Q := by
  refine w_call IS_ok [] ok_M_line rfl rfl ?_
  have s0 : Sm [(90, 0)] [] h (pf h 0 0) := Sm.pf _ (by decide)
  have hM := hS.sm s0 (by decide)
  refine c_M_in y 0 47 ?_ h1 rfl rfl ry (by omega) (by omega)
  refine w_b (fun g1 => hQ _ _ s0 (Or.inl ⟨fun z => g1 z.1, rfl⟩)) (fun g1 => ?_)
  refine c_M_in w 0 2 ?_ h2 rfl rfl rw' (by omega) (by omega)
  refine w_b (fun g2 => hQ _ _ s0 (Or.inl ⟨fun z => g2 z.2, rfl⟩)) (fun g2 => ?_)
  refine c_M_standing hM hW y ?_ h1 ry
  have hcn := cn_le S (od S) y (S 1).toNat
  have hn := hW.n
  have hlim := hW.lim
  refine w_eq w 0 (fun g => hQ _ _ s0 (Or.inr ⟨⟨g1, g2⟩, Or.inl ⟨g, rfl⟩⟩)) (fun g3 => ?_) h2 rfl
  refine w_eq w 2 (fun g => c_M_dotsOn hM hW y (hQ _ _ s0 (Or.inr ⟨⟨g1, g2⟩, Or.inr (Or.inl ⟨g, rfl⟩)⟩)) h1 (by omega)) (fun g4 => ?_) h2 rfl
  refine w_ix 2 (w_le (S 2) (cn S (od S) y (S 1).toNat) (fun g5 => ?_) (fun g5 => ?_) (hM 2) rfl) rfl (show 2 < 270 by omega)
  · refine w_ix 2 ?_ rfl (show 2 < 270 by omega)
    have := hQ _ _ s0 (Or.inr ⟨⟨g1, g2⟩, Or.inr (Or.inr ⟨by omega, rfl⟩)⟩)
    rw [if_neg (by omega), ← hM 2] at this
    exact this
  · have := hQ _ _ s0 (Or.inr ⟨⟨g1, g2⟩, Or.inr (Or.inr ⟨by omega, rfl⟩)⟩)
    rw [if_pos g5] at this
    exact this
/-- what shown answers -/
def ShnR (S : Nat → Int) (y i r : Int) : Prop := (¬ ((0 ≤ y ∧ y ≤ 47) ∧ 0 ≤ i) ∧ r = -101) ∨ (((0 ≤ y ∧ y ≤ 47) ∧ 0 ≤ i) ∧ ShoR S y i r)
theorem c_M_shown {S : Nat → Int} {x1 x2 : Int32} {h : St} {Q : Option Value → St → Prop} (hS : MS S h) (hW : WF S) (y i : Int) (hQ : ∀ h' r, Sm [(90, 0)] [] h h' → ShnR S y i r → Q (some (.int (iI r))) h') (h1 : x1 = iI y) (h2 : x2 = iI i) (ry : rg y) (ri : rg i) : SC y_M_shown [.ref 90, .int x1, .int x2] h Q := by
  refine w_call IS_ok [] ok_M_shown rfl rfl ?_
  have s0 : Sm [(90, 0)] [] h (pf h 0 0) := Sm.pf _ (by decide)
  have hM := hS.sm s0 (by decide)
  refine c_M_in y 0 47 ?_ h1 rfl rfl ry (by omega) (by omega)
  refine w_b (fun g1 => hQ _ _ s0 (Or.inl ⟨fun z => g1 z.1, rfl⟩)) (fun g1 => ?_)
  refine w_le 0 i (fun g2 => ?_) (fun g2 => hQ _ _ s0 (Or.inl ⟨by omega, rfl⟩)) rfl h2
  exact c_M_shownOn hM hW y i (fun r hr => hQ _ _ s0 (Or.inr ⟨⟨g1, g2⟩, hr⟩)) h1 h2 ry ri
/-- what dot answers -/
def DotR (S : Nat → Int) (x y r : Int) : Prop := (¬ ((0 ≤ x ∧ x ≤ 63) ∧ (0 ≤ y ∧ y ≤ 47)) ∧ r = -101) ∨ (((0 ≤ x ∧ x ≤ 63) ∧ (0 ≤ y ∧ y ≤ 47)) ∧ ColR S x y r)
theorem c_M_dot {S : Nat → Int} {x1 x2 : Int32} {h : St} {Q : Option Value → St → Prop} (hS : MS S h) (hW : WF S) (x y : Int) (hQ : ∀ h' r, Sm [(90, 0)] [] h h' → DotR S x y r → Q (some (.int (iI r))) h') (h1 : x1 = iI x) (h2 : x2 = iI y) (rx : rg x) (ry : rg y) : SC y_M_dot [.ref 90, .int x1, .int x2] h Q := by
  refine w_call IS_ok [] ok_M_dot rfl rfl ?_
  have s0 : Sm [(90, 0)] [] h (pf h 0 0) := Sm.pf _ (by decide)
  have hM := hS.sm s0 (by decide)
  refine c_M_in x 0 63 ?_ h1 rfl rfl rx (by omega) (by omega)
  refine w_b (fun g1 => hQ _ _ s0 (Or.inl ⟨by omega, rfl⟩)) (fun g1 => ?_)
  refine c_M_in y 0 47 ?_ h2 rfl rfl ry (by omega) (by omega)
  refine w_b (fun g2 => hQ _ _ s0 (Or.inl ⟨by omega, rfl⟩)) (fun g2 => ?_)
  exact c_M_colorAt hM hW x y (fun c hc => hQ _ _ s0 (Or.inr ⟨⟨g1, g2⟩, hc⟩)) h1 h2 (by omega) (by omega)
end
section
/-! clashes -/
theorem divr {x y : Int32} {a b : Nat} (hx : x = iI a) (hy : y = iI b) (ha : a < 2 ^ 31) (hb : b < 2 ^ 31) (h0 : 0 < b) : x / y = iI ((a / b : Nat) : Int) := by
  rw [hx, hy, ← iI_nat, ← iI_nat, pk_div ha h0 hb]
  rfl
/-- there is a clash at a dot -/
def clq (S : Nat → Int) (hr x y : Int) : Prop := hr ≠ -109 ∧ setp S hr.toNat x y ∧ shw S hr y ∧ ∃ k, k < (S 1).toNat ∧ vis S y k ∧ S (6 + k) ≠ hr ∧ setp S (od S k) x y
def CngR (S : Nat → Int) (hr x y r : Int) : Prop := (clq S hr x y ∧ FirR S x y hr r ∧ r ≠ -109) ∨ (¬ clq S hr x y ∧ r = -109)
set_option maxHeartbeats 1000000 in
theorem c_M_clashing {S : Nat → Int} {x1 x2 x3 : Int32} {h : St} {Q : Option Value → St → Prop} (hS : MS S h) (hW : WF S) (hr x y : Int) (hhr : hr = -109 ∨ (0 ≤ hr ∧ hr < 20)) (hQ : ∀ r, CngR S hr x y r → Q (some (.int (iI r))) h) (h1 : x1 = iI hr) (h2 : x2 = iI x) (h3 : x3 = iI y) (hx : 0 ≤ x ∧ x < 1000) (hy : 0 ≤ y ∧ y < 1000) : SC y_M_clashing [.ref 90, .int x1, .int x2, .int x3] h Q := by
  refine w_call IS_ok [] ok_M_clashing rfl rfl ?_
  refine w_eq hr (-109) (fun g => hQ _ (Or.inr ⟨fun z => z.1 g, rfl⟩)) (fun g1 => ?_) h1 rfl
  have e1 : x1 = iI hr.toNat := by rw [h1]; exact congrArg iI (by omega)
  refine c_M_isSet hS hW hr.toNat x y ?_ e1 h2 h3 (by omega) hx hy
  refine w_b (fun g => hQ _ (Or.inr ⟨fun z => g z.2.1, rfl⟩)) (fun g2 => ?_)
  refine c_M_isShown hS hW hr y ?_ h1 h3 (by omega) hy
  refine w_c (fun g => hQ _ (Or.inr ⟨fun z => g z.2.2.1, rfl⟩)) (fun g3 => ?_)
  refine c_M_firstAt hS hW x y hr (fun r hf => hQ r ?_) h2 h3 h1 hx hy (by omega)
  by_cases hr0 : r = -109
  · refine Or.inr ⟨fun z => ?_, hr0⟩
    obtain ⟨k, k1, k2, k3, k4⟩ := z.2.2.2
    rcases hf with ⟨j, hj, -, -, -, -, e⟩ | ⟨-, hno⟩
    · have := hW.od hj; omega
    · exact hno k k1 k2 k3 k4
  · refine Or.inl ⟨⟨g1, g2, g3, ?_⟩, hf, hr0⟩
    rcases hf with ⟨k, k1, k2, k3, k4, -, -⟩ | ⟨e, -⟩
    · exact ⟨k, k1, k2, k3, k4⟩
    · exact absurd e hr0
noncomputable def clN (S : Nat → Int) (hr : Int) (n : Nat) : Nat := sm (fun p : Nat => cI (clq S hr ((p % 64 : Nat) : Int) ((p / 64 : Nat) : Int))) n
theorem clN_le (S : Nat → Int) (hr : Int) (n : Nat) : clN S hr n ≤ n := by
  have := sm_le (f := fun p : Nat => cI (clq S hr ((p % 64 : Nat) : Int) ((p / 64 : Nat) : Int))) (b := 1) (n := n) (fun i _ => cI_le _)
  unfold clN
  omega
/-- what clash answers -/
def ClaR (S : Nat → Int) (w r : Int) : Prop := (¬ (0 ≤ w ∧ w ≤ 3) ∧ r = -101) ∨ ((0 ≤ w ∧ w ≤ 3) ∧ ∃ hr, HerR S (S 1).toNat hr ∧ ((w = 0 ∧ r = clN S hr 3072) ∨ (w ≠ 0 ∧ r = -109 ∧ ∀ p : Nat, p < 3072 → ¬ clq S hr ((p % 64 : Nat) : Int) ((p / 64 : Nat) : Int)) ∨
  (w ≠ 0 ∧ ∃ p : Nat, p < 3072 ∧ clq S hr ((p % 64 : Nat) : Int) ((p / 64 : Nat) : Int) ∧ (∀ q : Nat, q < p → ¬ clq S hr ((q % 64 : Nat) : Int) ((q / 64 : Nat) : Int)) ∧ ((w = 1 ∧ r = ((p % 64 : Nat) : Int)) ∨ (w = 2 ∧ r = ((p / 64 : Nat) : Int)) ∨ (w = 3 ∧ FirR S ((p % 64 : Nat) : Int) ((p / 64 : Nat) : Int) hr r)))))
set_option maxHeartbeats 4000000 in
theorem c_M_clash {S : Nat → Int} {x1 : Int32} {h : St} {Q : Option Value → St → Prop} (hS : MS S h) (hW : WF S) (w : Int) (hQ : ∀ h' r, Sm [(90, 0)] [] h h' → ClaR S w r → Q (some (.int (iI r))) h') (h1 : x1 = iI w) (rw' : rg w) : SC y_M_clash [.ref 90, .int x1] h Q := by
  refine w_call IS_ok [27] ok_M_clash rfl rfl ?_
  have s0 : Sm [(90, 0)] [] h (pf h 0 0) := Sm.pf _ (by decide)
  have hM := hS.sm s0 (by decide)
  refine c_M_in w 0 3 ?_ h1 rfl rfl rw' (by omega) (by omega)
  refine w_b (fun g1 => hQ _ _ s0 (Or.inl ⟨g1, rfl⟩)) (fun g1 => ?_)
  refine c_M_hero hM hW (fun hr hhr => ?_)
  have hrb : hr = -109 ∨ (0 ≤ hr ∧ hr < 20) := by
    rcases hhr with ⟨-, e⟩ | ⟨k, hk, e, -⟩
    · exact Or.inl e
    · have := hW.od hk; exact Or.inr (by omega)
  have loop : ∀ (m p : Nat), 3073 ≤ p + m → p ≤ 3072 → ∀ (v z : Int32) (L5 : Option Value), v = iI (clN S hr p) → z = iI p → (w ≠ 0 → ∀ q : Nat, q < p → ¬ clq S hr ((q % 64 : Nat) : Int) ((q / 64 : Nat) : Int)) → SR y_M_clash 27 [some (.ref 90), some (.int x1), some (.int (iI hr)), some (.int v), some (.int z), L5] [] (pf h 0 0) Q := by
    intro m
    induction m with
    | zero => intro p q1 q2; omega
    | succ m ih =>
      intro p q1 q2 v z L5 hv hz hno
      refine w_loop IS_ok [27] ok_M_clash ?_
      refine w_le 3072 p (fun q3 => ?_) (fun q3 => ?_) rfl hz
      · have hp : p = 3072 := by omega
        subst hp
        refine w_eq w 0 (fun q4 => ?_) (fun q4 => ?_) h1 rfl
        · rw [hv]
          exact hQ _ _ s0 (Or.inr ⟨g1, hr, hhr, Or.inl ⟨q4, rfl⟩⟩)
        · exact hQ _ _ s0 (Or.inr ⟨g1, hr, hhr, Or.inr (Or.inl ⟨q4, rfl, hno q4⟩)⟩)
      · have em := modr hz (show (64 : Int32) = iI (64 : Nat) from rfl) (by omega) (by omega) (by omega)
        have ed := divr hz (show (64 : Int32) = iI (64 : Nat) from rfl) (by omega) (by omega) (by omega)
        refine ⟨by decide, ?_⟩
        refine ⟨by decide, ?_⟩
        refine c_M_clashing hM hW hr ((p % 64 : Nat) : Int) ((p / 64 : Nat) : Int) hrb (fun r hcr => ?_) rfl em ed (by omega) (by omega)
        have hrr : r = -109 ∨ (0 ≤ r ∧ r < 20) := by
          rcases hcr with ⟨-, hf, -⟩ | ⟨-, e⟩
          · have := FirR_b hW hf; omega
          · exact Or.inl e
        refine w_eq r (-109) (fun q4 => ?_) (fun q4 => ?_) rfl rfl
        · have hn : ¬ clq S hr ((p % 64 : Nat) : Int) ((p / 64 : Nat) : Int) := by
            rcases hcr with ⟨-, -, hf⟩ | ⟨hn, -⟩
            · exact absurd q4 hf
            · exact hn
          refine ih (p + 1) (by omega) (by omega) _ _ _ ?_ (iI_1 hz) (fun hw0 q hq => ?_)
          · rw [hv]
            exact congrArg iI (by simp only [clN, sm]; rw [cI_f hn]; omega)
          · by_cases hqp : q = p
            · rw [hqp]; exact hn
            · exact hno hw0 q (by omega)
        · obtain ⟨hc, hf⟩ : clq S hr ((p % 64 : Nat) : Int) ((p / 64 : Nat) : Int) ∧ FirR S ((p % 64 : Nat) : Int) ((p / 64 : Nat) : Int) hr r := by
            rcases hcr with ⟨a, b, -⟩ | ⟨-, e⟩
            · exact ⟨a, b⟩
            · exact absurd e q4
          refine w_le w 0 (fun q5 => ?_) (fun q5 => ?_) h1 rfl
          · refine ih (p + 1) (by omega) (by omega) _ _ _ ?_ (iI_1 hz) (fun hw0 q hq => by omega)
            rw [hv]
            refine (iI_add _ 1).trans (congrArg iI ?_)
            simp only [clN, sm]
            rw [cI_t hc]
            omega
          · have hno' := hno (by omega)
            refine w_eq w 1 (fun q6 => ?_) (fun q6 => ?_) h1 rfl
            · refine ⟨by decide, ?_⟩
              have := hQ _ _ s0 (Or.inr ⟨g1, hr, hhr, Or.inr (Or.inr ⟨by omega, p, by omega, hc, hno', Or.inl ⟨q6, rfl⟩⟩)⟩)
              rw [← em] at this
              exact this
            · refine w_eq w 2 (fun q7 => ?_) (fun q7 => ?_) h1 rfl
              · refine ⟨by decide, ?_⟩
                have := hQ _ _ s0 (Or.inr ⟨g1, hr, hhr, Or.inr (Or.inr ⟨by omega, p, by omega, hc, hno', Or.inr (Or.inl ⟨q7, rfl⟩)⟩)⟩)
                rw [← ed] at this
                exact this
              · exact hQ _ _ s0 (Or.inr ⟨g1, hr, hhr, Or.inr (Or.inr ⟨by omega, p, by omega, hc, hno', Or.inr (Or.inr ⟨by omega, hf⟩)⟩)⟩)
  exact loop 3073 0 (by omega) (by omega) _ _ _ rfl rfl (fun _ q hq => by omega)
/-- what worstLine answers -/
def WrsR (S : Nat → Int) (k : Nat) (r m : Int) : Prop := (r = -109 ∧ m = 0 ∧ ∀ y : Nat, y < k → (cn S (od S) y (S 1).toNat : Int) ≤ S 2) ∨ (∃ y : Nat, y < k ∧ r = y ∧ m = cn S (od S) y (S 1).toNat - S 2 ∧ 0 < m ∧ (∀ z : Nat, z < k → cn S (od S) z (S 1).toNat ≤ cn S (od S) y (S 1).toNat) ∧ ∀ z : Nat, z < y → cn S (od S) z (S 1).toNat < cn S (od S) y (S 1).toNat)
set_option maxHeartbeats 1000000 in
theorem c_M_worstLine {S : Nat → Int} {h : St} {Q : Option Value → St → Prop} (hS : MS S h) (hW : WF S) (hQ : ∀ h' r m, Sm [(90, 0)] [] h h' → WrsR S 48 r m → Q (some (.int (iI r))) h') : SC y_M_worstLine [.ref 90] h Q := by
  refine w_call IS_ok [12] ok_M_worstLine rfl rfl ?_
  have s0 : Sm [(90, 0)] [] h (pf h 0 0) := Sm.pf _ (by decide)
  have hM := hS.sm s0 (by decide)
  have hn := hW.n
  have hlim := hW.lim
  have loop : ∀ (m k : Nat), 49 ≤ k + m → k ≤ 48 → ∀ (r mo : Int) (z : Int32) (L4 : Option Value), WrsR S k r mo → z = iI k → SR y_M_worstLine 12 [some (.ref 90), some (.int (iI r)), some (.int (iI mo)), some (.int z), L4] [] (pf h 0 0) Q := by
    intro m
    induction m with
    | zero => intro k q1 q2; omega
    | succ m ih =>
      intro k q1 q2 r mo z L4 hr hz
      refine w_loop IS_ok [12] ok_M_worstLine ?_
      refine w_le 48 k (fun q3 => ?_) (fun q3 => ?_) rfl hz
      · have : k = 48 := by omega
        subst this
        exact hQ _ _ _ s0 hr
      · refine c_M_standing hM hW k ?_ hz (by omega)
        have hcn := cn_le S (od S) k (S 1).toNat
        have hmo : 0 ≤ mo ∧ mo ≤ 20 := by
          rcases hr with ⟨-, e, -⟩ | ⟨y, hy, -, e, e2, -, -⟩
          · omega
          · have := cn_le S (od S) y (S 1).toNat
            omega
        refine w_ix 2 ?_ rfl (show 2 < 270 by omega)
        have ev : iI (cn S (od S) k (S 1).toNat) - (pf h 0 0).2 91 2 = iI (cn S (od S) k (S 1).toNat - S 2) := by rw [hM 2, iI_sub]
        refine w_le (cn S (od S) k (S 1).toNat - S 2) mo (fun q4 => ?_) (fun q4 => ?_) ev rfl
        · refine w_le (cn S (od S) k (S 1).toNat - S 2) mo (fun q5 => ?_) (fun q5 => by omega) ev rfl
          refine ih (k + 1) (by omega) (by omega) _ _ _ _ ?_ (iI_1 hz)
          rcases hr with ⟨e, e1, e2⟩ | ⟨y, hy, e, e1, e2, e3, e4⟩
          · refine Or.inl ⟨e, e1, fun y hy => ?_⟩
            by_cases hyk : y = k
            · rw [hyk]; omega
            · exact e2 y (by omega)
          · refine Or.inr ⟨y, by omega, e, e1, e2, fun z hz => ?_, e4⟩
            by_cases hzk : z = k
            · rw [hzk]; omega
            · exact e3 z (by omega)
        · refine w_le (cn S (od S) k (S 1).toNat - S 2) mo (fun q5 => by omega) (fun q5 => ?_) ev rfl
          rw [hz]
          have := ih (k + 1) (by omega) (by omega) k (cn S (od S) k (S 1).toNat - S 2) (iI k + 1) (some (.int (iI (cn S (od S) k (S 1).toNat - S 2)))) ?_ (iI_1 rfl)
          · rw [← ev] at this
            exact this
          · refine Or.inr ⟨k, by omega, rfl, rfl, by omega, fun z hz => ?_, fun z hz => ?_⟩
            · by_cases hzk : z = k
              · rw [hzk]; exact Nat.le_refl _
              · rcases hr with ⟨e, e1, e2⟩ | ⟨y, hy, e, e1, e2, e3, e4⟩
                · have := e2 z (by omega); omega
                · have := e3 z (by omega); omega
            · rcases hr with ⟨e, e1, e2⟩ | ⟨y, hy, e, e1, e2, e3, e4⟩
              · have := e2 z (by omega); omega
              · have := e3 z (by omega); omega
  exact loop 49 0 (by omega) (by omega) (-109) 0 _ _ (Or.inl ⟨rfl, rfl, fun y hy => by omega⟩) rfl
/-! the text; undo -/
theorem c_M_append {n : Nat} {T : Nat → Nat} {x1 : Int32} {h : St} {Q : Option Value → St → Prop} (hT : MTx n T h) (hn : n ≤ 100) (c : Int) (hQ0 : ∀ h', Sm [(90, 0)] [] h h' → ¬ (1 ≤ c ∧ c ≤ 255) → Q (some (.int (-101))) h') (hQ1 : ∀ h', Sm [(90, 0)] [] h h' → (1 ≤ c ∧ c ≤ 255) → n = 100 → Q (some (.int (-103))) h') (hQ2 : ∀ h', Sm [(90, 0), (90, 6)] [94] h h' → (1 ≤ c ∧ c ≤ 255) → n ≠ 100 → MTx (n + 1) (u1 T n c.toNat) h' → Q (some (.int (iI (n + 1 : Nat)))) h') (h1 : x1 = iI c) (rc : rg c) : SC y_M_append [.ref 90, .int x1] h Q := by
  refine w_call IS_ok [] ok_M_append rfl rfl ?_
  have s0 : Sm [(90, 0)] [] h (pf h 0 0) := Sm.pf _ (by decide)
  have hT0 := hT.sm s0 (by decide) (by decide)
  refine c_M_in c 1 255 ?_ h1 rfl rfl rc (by omega) (by omega)
  refine w_b (fun g1 => hQ0 _ s0 g1) (fun g1 => ?_)
  refine w_eq n 100 (fun g2 => hQ1 _ s0 g1 (by omega)) (fun g2 => ?_) hT0.1 rfl
  refine w_ix n ?_ hT0.1 (show n < 100 by omega)
  have el : (pf h 0 0).1 90 6 + 1 = iI ((n + 1 : Nat) : Int) := iI_1 hT0.1
  have := hQ2 (pf (wa (pf h 0 0) 94 n x1) 6 ((pf h 0 0).1 90 6 + 1)) (((s0.mo (by decide) (by decide)).t (Sm.wa _ _ (by decide))).t (Sm.pf _ (by decide))) g1 (by omega) ⟨by rw [pf_s]; exact el, fun i hi => ?_⟩
  · rw [← el, ← pf_s (wa (pf h 0 0) 94 n x1) 6 ((pf h 0 0).1 90 6 + 1)] at this
    exact this
  · show (wa (pf h 0 0) 94 n x1).2 94 i = _
    by_cases hin : i = n
    · rw [hin, wa_s, u1_s, h1]; exact congrArg iI (by omega)
    · rw [wa_n _ _ _ _ hin, u1_n _ _ hin]; exact hT0.2 i (by omega)
theorem c_M_clearText {n : Nat} {T : Nat → Nat} {h : St} {Q : Option Value → St → Prop} (hT : MTx n T h) (hQ : ∀ h', Sm [(90, 0), (90, 6)] [] h h' → MTx 0 T h' → Q (some (.int (iI n))) h') : SC y_M_clearText [.ref 90] h Q := by
  refine w_call IS_ok [] ok_M_clearText rfl rfl ?_
  have s0 : Sm [(90, 0)] [] h (pf h 0 0) := Sm.pf _ (by decide)
  have hT0 := hT.sm s0 (by decide) (by decide)
  have := hQ (pf (pf h 0 0) 6 0) ((s0.mo (by decide) (by decide)).t (Sm.pf _ (by decide))) ⟨by rw [pf_s]; rfl, fun i hi => by omega⟩
  rw [← hT0.1] at this
  exact this
/-- the latest state, where it tells something -/
def rsS (S G : Nat → Int) : Nat → Int := fun i => if i < 270 then G i else S i
set_option maxHeartbeats 1000000 in
theorem c_M_undo {S : Nat → Int} {n : Nat} {H : Nat → Nat → Int} {h : St} {Q : Option Value → St → Prop} (hS : MS S h) (hH : MH n H h) (hn : n ≤ 5) (hQ0 : ∀ h', Sm [(90, 0)] [] h h' → n = 0 → Q (some (.int (-102))) h') (hQ1 : ∀ h', Sm [(90, 0), (90, 4)] [91] h h' → 0 < n → MS (rsS S (H (n - 1))) h' → MH (n - 1) H h' → Q (some (.int (iI (n - 1 : Nat)))) h') : SC y_M_undo [.ref 90] h Q := by
  refine w_call IS_ok [27] ok_M_undo rfl rfl ?_
  have s0 : Sm [(90, 0)] [] h (pf h 0 0) := Sm.pf _ (by decide)
  have hH0 := hH.sm s0 (by decide) (by decide)
  refine w_eq n 0 (fun g => hQ0 _ s0 (by omega)) (fun g => ?_) hH0.1 rfl
  have el : (pf h 0 0).1 90 4 - 1 = iI ((n - 1 : Nat) : Int) := by rw [hH0.1]; exact (iI_sub _ 1).trans (congrArg iI (by omega))
  have s1 : Sm [(90, 0), (90, 4)] [91] h (pf (pf h 0 0) 4 ((pf h 0 0).1 90 4 - 1)) := (s0.mo (by decide) (by decide)).t (Sm.pf _ (by decide))
  have loop : ∀ (m k : Nat), 271 ≤ k + m → k ≤ 270 → ∀ (hc : St) (z : Int32), Sm [(90, 0), (90, 4)] [91] h hc → hc.1 90 4 = iI ((n - 1 : Nat) : Int) → (∀ i, i < k → hc.2 91 i = iI (H (n - 1) i)) → (∀ i, k ≤ i → hc.2 91 i = iI (S i)) → z = iI k → SR y_M_undo 27 [some (.ref 90), some (.int z)] [] hc Q := by
    intro m
    induction m with
    | zero => intro k q1 q2; omega
    | succ m ih =>
      intro k q1 q2 hc z hsm h4 hlo hhi hz
      have h93 : hc.2 93 = h.2 93 := hsm.2 93 (by decide)
      refine w_loop IS_ok [27] ok_M_undo ?_
      refine w_le 270 k (fun q3 => ?_) (fun q3 => ?_) rfl hz
      · have := hQ1 hc hsm (by omega) (fun i => ?_) ⟨h4, fun j hj i hi => by rw [h93]; exact hH.2 j (by omega) i hi⟩
        · rw [← h4] at this
          exact this
        · unfold rsS
          by_cases hi : i < 270
          · rw [if_pos hi]; exact hlo i (by omega)
          · rw [if_neg hi]; exact hhi i (by omega)
      · have ei : (270 : Int32) * hc.1 90 4 + z = iI ((270 * (n - 1) + k : Nat) : Int) := by
          rw [h4, hz]
          refine (congrArg (· + iI k) (iI_mul 270 (n - 1 : Nat))).trans ((iI_add _ _).trans (congrArg iI (by omega)))
        refine w_ix (270 * (n - 1) + k) ?_ ei (show 270 * (n - 1) + k < 1350 by omega)
        refine w_ix k ?_ hz (show k < 270 by omega)
        refine ih (k + 1) (by omega) (by omega) (wa hc 91 k (hc.2 93 (270 * (n - 1) + k))) _ (hsm.t (Sm.wa _ _ (by decide))) h4 (fun i hi => ?_) (fun i hi => ?_) (iI_1 hz)
        · by_cases hik : i = k
          · rw [hik, wa_s, h93]; exact hH.2 (n - 1) (by omega) k (by omega)
          · rw [wa_n _ _ _ _ hik]; exact hlo i (by omega)
        · rw [wa_n _ _ _ _ (by omega)]; exact hhi i (by omega)
  exact loop 271 0 (by omega) (by omega) (pf (pf h 0 0) 4 ((pf h 0 0).1 90 4 - 1)) _ s1 (by rw [pf_s]; exact el) (fun i hi => by omega) (fun i _ => hS i) rfl
end
section
/-! forecasts -/
def hB (S : Nat → Int) (o : Nat → Nat) (p : Nat) : Bool := decide (0 < hT S o (S 1).toNat 48 p)
/-- the order behind some frames -/
def oF (S : Nat → Int) (rule : Int) (step : Nat) : Nat → (Nat → Nat)
  | 0 => od S
  | t + 1 => fl (turnL (hB S (oF S rule step t)) rule step (S 1).toNat (oF S rule step t))
theorem oF_b {S : Nat → Int} (hW : WF S) (rule : Int) (step : Nat) : ∀ (t k : Nat), k < (S 1).toNat → ∃ j, j < (S 1).toNat ∧ oF S rule step t k = od S j
  | 0, k, hk => ⟨k, hk, rfl⟩
  | t + 1, k, hk => by
    have h1 := fl_mem (l := turnL (hB S (oF S rule step t)) rule step (S 1).toNat (oF S rule step t)) (k := k) (by rw [turnL_len]; exact hk)
    obtain ⟨j, hj, e⟩ := turnL_mem h1
    obtain ⟨i, hi, e2⟩ := oF_b hW rule step t j hj
    refine ⟨i, hi, ?_⟩
    show fl (turnL (hB S (oF S rule step t)) rule step (S 1).toNat (oF S rule step t)) k = _
    rw [← e, e2]
theorem oF_20 {S : Nat → Int} (hW : WF S) (rule : Int) (step t k : Nat) (hk : k < (S 1).toNat) : oF S rule step t k < 20 := by
  obtain ⟨j, hj, e⟩ := oF_b hW rule step t k hk
  rw [e]
  exact (hW.od hj).2.1
/-- in how many of some frames a puppet is hidden -/
def ofn (S : Nat → Int) (rule : Int) (step p : Nat) (t : Nat) : Nat := sm (fun i => if hB S (oF S rule step i) p then 1 else 0) t
theorem ofn_le (S : Nat → Int) (rule : Int) (step p t : Nat) : ofn S rule step p t ≤ t := by
  have := sm_le (f := fun i => if hB S (oF S rule step i) p then 1 else 0) (b := 1) (n := t) (fun i _ => by split <;> omega)
  unfold ofn
  omega
/-- the trial stands behind t frames -/
def Tri (S : Nat → Int) (rule : Int) (step t : Nat) (h : St) : Prop := (∀ k, k < (S 1).toNat → h.2 95 k = iI (oF S rule step t k)) ∧ ∀ p, p < 20 → h.2 97 p = iI (ofn S rule step p t)
set_option maxHeartbeats 1000000 in
theorem c_M_beginTrial {S : Nat → Int} {h : St} {Q : Option Value → St → Prop} (hS : MS S h) (hW : WF S) (hQ : ∀ h', Sm [] [95, 97] h h' → (∀ rule step, Tri S rule step 0 h') → Q none h') : SC y_M_beginTrial [.ref 90] h Q := by
  refine w_call IS_ok [2] ok_M_beginTrial rfl rfl ?_
  have hn := hW.n
  have zero : ∀ (m k : Nat), 21 ≤ k + m → k ≤ 20 → ∀ (hc : St) (z : Int32), Sm [] [95, 97] h hc → (∀ j, j < (S 1).toNat → hc.2 95 j = iI (od S j)) → (∀ p, p < k → hc.2 97 p = 0) → z = iI k → SR y_M_beginTrial 35 [some (.ref 90), some (.int z)] [] hc Q := by
    intro m
    induction m with
    | zero => intro k q1 q2; omega
    | succ m ih =>
      intro k q1 q2 hc z hsm ho hz e
      refine w_loop IS_ok [35] ok_M_beginTrial ?_
      refine w_le 20 k (fun q3 => ?_) (fun q3 => ?_) rfl e
      · exact hQ hc hsm (fun rule step => ⟨ho, fun p hp => hz p (by omega)⟩)
      · refine w_ix k ?_ e (show k < 20 by omega)
        refine ih (k + 1) (by omega) (by omega) (wa hc 97 k 0) _ (hsm.t (Sm.wa _ _ (by decide))) (fun j hj => by rw [wa_o _ _ _ _ (by decide)]; exact ho j hj) (fun p hp => ?_) (iI_1 e)
        by_cases hpk : p = k
        · rw [hpk, wa_s]
        · rw [wa_n _ _ _ _ hpk]; exact hz p (by omega)
  have loop : ∀ (m k : Nat), (S 1).toNat + 1 ≤ k + m → k ≤ (S 1).toNat → ∀ (hc : St) (z : Int32), Sm [] [95, 97] h hc → (∀ j, j < k → hc.2 95 j = iI (od S j)) → z = iI k → SR y_M_beginTrial 2 [some (.ref 90), some (.int z)] [] hc Q := by
    intro m
    induction m with
    | zero => intro k q1 q2; omega
    | succ m ih =>
      intro k q1 q2 hc z hsm ho e
      have hMc := hS.sm hsm (by decide)
      refine w_loop IS_ok [2, 35] ok_M_beginTrial ?_
      refine w_ix 1 (w_le (S 1) k (fun q3 => ?_) (fun q3 => ?_) (hMc 1) e) rfl (show 1 < 270 by omega)
      · have : k = (S 1).toNat := by omega
        subst this
        exact zero 21 0 (by omega) (by omega) hc _ hsm ho (fun p hp => by omega) rfl
      · refine w_ix (6 + k) ?_ (by rw [e]; exact (iI_add 6 k).trans (congrArg iI (by omega))) (show 6 + k < 270 by omega)
        refine w_ix k ?_ e (show k < 20 by omega)
        refine ih (k + 1) (by omega) (by omega) (wa hc 95 k (hc.2 91 (6 + k))) _ (hsm.t (Sm.wa _ _ (by decide))) (fun j hj => ?_) (iI_1 e)
        by_cases hjk : j = k
        · rw [hjk, wa_s, hMc]; exact congrArg iI (hW.od (by omega)).1
        · rw [wa_n _ _ _ _ hjk]; exact ho j (by omega)
  exact loop ((S 1).toNat + 1) 0 (by omega) (by omega) h _ Sm.rf (fun j hj => by omega) rfl
set_option maxHeartbeats 1000000 in
theorem c_M_tryFrame {S : Nat → Int} {x1 x2 : Int32} {h : St} {Q : Option Value → St → Prop} (hS : MS S h) (hW : WF S) (rule : Int) (step t : Nat) (hru : 0 ≤ rule ∧ rule ≤ 2) (hst : step ≤ 19) (ht : t ≤ 100) (hT : Tri S rule step t h) (hQ : ∀ (h' : St) (w : Nat), Sm [] [98, 97, 96, 95] h h' → Tri S rule step (t + 1) h' → w < 2 ^ 20 → (∀ p, p < 20 → w.testBit p = hB S (oF S rule step t) p) → Q (some (.int (nI w))) h') (h1 : x1 = iI rule) (h2 : x2 = iI step) : SC y_M_tryFrame [.ref 90, .int x1, .int x2] h Q := by
  refine w_call IS_ok [13] ok_M_tryFrame rfl rfl ?_
  obtain ⟨hn1, hn2, -⟩ := hW.n
  have hlim := hW.lim
  refine c_M_hidden_95 hS hW.wp (S 1).toNat (oF S rule step t) hn1 hn2 (by omega) (fun k hk => oF_20 hW rule step t k hk) (fun k hk => by rw [Nat.zero_add]; exact hT.1 k hk) (fun hc w hs hw hb _ => ?_) rfl
  have loop : ∀ (m k : Nat), 21 ≤ k + m → k ≤ 20 → ∀ (hd : St) (z : Int32), Sm [] [98, 97, 96, 95] h hd → hd.2 95 = h.2 95 → (∀ p, p < k → hd.2 97 p = iI (ofn S rule step p (t + 1))) → (∀ p, k ≤ p → p < 20 → hd.2 97 p = iI (ofn S rule step p t)) → z = iI k → SR y_M_tryFrame 13 [some (.ref 90), some (.int x1), some (.int x2), some (.int (nI w)), some (.int z)] [] hd Q := by
    intro m
    induction m with
    | zero => intro k q1 q2; omega
    | succ m ih =>
      intro k q1 q2 hd z hsm h95 hlo hhi e
      refine w_loop IS_ok [13] ok_M_tryFrame ?_
      refine w_le 20 k (fun q3 => ?_) (fun q3 => ?_) rfl e
      · have hk : k = 20 := by omega
        subst hk
        have hMd := hS.sm hsm (by decide)
        refine c_M_takeTurn_95 (S 1).toNat (oF S rule step t) (hB S (oF S rule step t)) rule step w (by rw [hMd]; exact congrArg iI hn1) hn2 (fun k hk => oF_20 hW rule step t k hk) (fun k hk => by rw [Nat.zero_add, h95]; exact hT.1 k hk) hru hst hw hb (fun he hse hrow _ => ?_) rfl h1 h2 rfl
        refine hQ he w (hsm.t (hse.mo (by decide) (by decide))) ⟨fun k hk => ?_, fun p hp => ?_⟩ hw hb
        · have := hrow k hk
          rw [Nat.zero_add] at this
          exact this
        · rw [hse.2 97 (by decide)]
          exact hlo p hp
      · refine w_ix k ?_ e (show k < 20 by omega)
        refine w_ix k ?_ e (show k < 20 by omega)
        have ev : hd.2 97 k + ((nI w >>> (z &&& 31)) &&& 1) = iI (ofn S rule step k (t + 1)) := by
          rw [e, bit_is (B := hB S (oF S rule step t)) hw (by omega) (hb k (by omega)), hhi k (by omega) (by omega), iI_add]
          refine congrArg iI ?_
          show _ = ((ofn S rule step k t + (if hB S (oF S rule step t) k then 1 else 0) : Nat) : Int)
          cases hB S (oF S rule step t) k <;> simp
        refine ih (k + 1) (by omega) (by omega) (wa hd 97 k _) _ (hsm.t (Sm.wa _ _ (by decide))) (by rw [wa_o _ _ _ _ (by decide)]; exact h95) (fun p hp => ?_) (fun p hp1 hp2 => ?_) (iI_1 e)
        · by_cases hpk : p = k
          · rw [hpk, wa_s]; exact ev
          · rw [wa_n _ _ _ _ hpk]; exact hlo p (by omega)
        · rw [wa_n _ _ _ _ (by omega)]; exact hhi p (by omega) hp2
  exact loop 21 0 (by omega) (by omega) hc _ (hs.mo (by decide) (by decide)) (hs.2 95 (by decide)) (fun p hp => by omega) (fun p _ hp => by rw [hs.2 97 (by decide)]; exact hT.2 p hp) rfl
/-- what hiddenIn answers -/
def HinR (S : Nat → Int) (p f r : Int) : Prop := (¬ (thr S p ∧ (1 ≤ f ∧ f ≤ 60)) ∧ r = -101) ∨ ((thr S p ∧ (1 ≤ f ∧ f ≤ 60)) ∧ r = ofn S (S 3) (S 4).toNat p.toNat f.toNat)
abbrev SmF (h h' : St) : Prop := Sm [(90, 0)] [98, 97, 96, 95] h h'
set_option maxHeartbeats 1000000 in
theorem c_M_hiddenIn {S : Nat → Int} {x1 x2 : Int32} {h : St} {Q : Option Value → St → Prop} (hS : MS S h) (hW : WF S) (p f : Int) (hQ : ∀ h' r, SmF h h' → HinR S p f r → Q (some (.int (iI r))) h') (h1 : x1 = iI p) (h2 : x2 = iI f) (rp : rg p) (rf : rg f) : SC y_M_hiddenIn [.ref 90, .int x1, .int x2] h Q := by
  refine w_call IS_ok [35] ok_M_hiddenIn rfl rfl ?_
  have s0 : SmF h (pf h 0 0) := Sm.pf _ (by decide)
  have hM := hS.sm s0 (by decide)
  refine c_M_isThere hM hW p ?_ h1 rp
  refine w_b (fun g1 => hQ _ _ s0 (Or.inl ⟨fun z => g1 z.1, rfl⟩)) (fun g1 => ?_)
  refine c_M_in f 1 60 ?_ h2 rfl rfl rf (by omega) (by omega)
  refine w_b (fun g2 => hQ _ _ s0 (Or.inl ⟨fun z => g2 z.2, rfl⟩)) (fun g2 => ?_)
  have hb := thr_b hW g1
  have h3 := hW.2.2.2.1
  have h4 := hW.2.2.2.2.1
  refine c_M_beginTrial hM hW (fun hc hsc hTc => ?_)
  have loop : ∀ (m t : Nat), f.toNat + 1 ≤ t + m → t ≤ f.toNat → ∀ (hd : St) (w : Nat) (vw z : Int32), SmF h hd → Tri S (S 3) (S 4).toNat t hd → w < 2 ^ 20 → (∀ q, q < 20 → w.testBit q = decide (0 < ofn S (S 3) (S 4).toNat q t)) → vw = nI w → z = iI t → SR y_M_hiddenIn 35 [some (.ref 90), some (.int x1), some (.int x2), some (.int vw), some (.int z)] [] hd Q := by
    intro m
    induction m with
    | zero => intro t q1 q2; omega
    | succ m ih =>
      intro t q1 q2 hd w vw z hsm hT hw hbit ew e
      have hMd := hS.sm hsm (by decide)
      refine w_loop IS_ok [35] ok_M_hiddenIn ?_
      refine w_le f t (fun q3 => ?_) (fun q3 => ?_) h2 e
      · have ht : t = f.toNat := by omega
        have hp20 : p.toNat < 20 := by omega
        have hfin := hQ hd _ hsm (Or.inr ⟨⟨g1, g2⟩, rfl⟩)
        rw [← ht] at hfin
        refine w_eq w 0 (fun q4 => ?_) (fun q4 => ?_) ew rfl
        · have h5 := hbit p.toNat hp20
          rw [show w = 0 by omega, Nat.zero_testBit] at h5
          have : ¬ 0 < ofn S (S 3) (S 4).toNat p.toNat t := fun z => by rw [decide_eq_true z] at h5; cases h5
          rw [show ofn S (S 3) (S 4).toNat p.toNat t = 0 by omega] at hfin
          exact hfin
        · refine w_ix p.toNat ?_ (by rw [h1]; exact congrArg iI (by omega)) (show p.toNat < 20 by omega)
          rw [← hT.2 p.toNat hp20] at hfin
          exact hfin
      · refine w_ix 3 ?_ rfl (show 3 < 270 by omega)
        refine w_ix 4 ?_ rfl (show 4 < 270 by omega)
        refine c_M_tryFrame hMd hW (S 3) (S 4).toNat t h3 (by omega) (by omega) hT (fun he v hse hTe hv hvb => ?_) (hMd 3) (by rw [show (((S 4).toNat : Nat) : Int) = S 4 by omega]; exact hMd 4)
        refine ih (t + 1) (by omega) (by omega) he (w ||| v) _ _ (hsm.t (hse.mo (by decide) (by decide))) hTe (Nat.or_lt_two_pow hw hv) (fun q hq => ?_) (by rw [ew, fa_or]) (iI_1 e)
        rw [Nat.testBit_or, hbit q hq, hvb q hq]
        show _ = decide (0 < ofn S (S 3) (S 4).toNat q t + (if hB S (oF S (S 3) (S 4).toNat t) q then 1 else 0))
        cases hB S (oF S (S 3) (S 4).toNat t) q <;> simp
  have e0 := loop (f.toNat + 1) 0 (by omega) (by omega) hc 0 0 0 (s0.t (hsc.mo (by decide) (by decide))) (hTc _ _) (by decide) (fun q hq => by simp [ofn, sm]) rfl rfl
  exact e0
end
section
/-- every puppet would have been shown on all its lines in one of t frames at least -/
def allS (S : Nat → Int) (t : Nat) : Prop := ∀ k, k < (S 1).toNat → ∃ i, i < t ∧ hB S (oF S (S 3) (S 4).toNat i) (od S k) = false
def AllR (S : Nat → Int) (r : Int) : Prop := (∃ t : Nat, t ≤ 60 ∧ r = t ∧ allS S t ∧ ∀ u, u < t → ¬ allS S u) ∨ (r = -109 ∧ ∀ u, u ≤ 60 → ¬ allS S u)
theorem nat_zero_bits {w : Nat} (h : ∀ p, p < 20 → w.testBit p = false) (hw : w < 2 ^ 20) : w = 0 := by
  apply Nat.eq_of_testBit_eq
  intro i
  rw [Nat.zero_testBit]
  by_cases hi : i < 20
  · exact h i hi
  · exact Nat.testBit_lt_two_pow (Nat.lt_of_lt_of_le hw (Nat.pow_le_pow_right (by decide) (by omega)))
set_option maxHeartbeats 2000000 in
theorem c_M_allShownIn {S : Nat → Int} {h : St} {Q : Option Value → St → Prop} (hS : MS S h) (hW : WF S) (hQ : ∀ h' r, SmF h h' → AllR S r → Q (some (.int (iI r))) h') : SC y_M_allShownIn [.ref 90] h Q := by
  refine w_call IS_ok [13] ok_M_allShownIn rfl rfl ?_
  have s0 : SmF h (pf h 0 0) := Sm.pf _ (by decide)
  have hM := hS.sm s0 (by decide)
  have h3 := hW.2.2.2.1
  have h4 := hW.2.2.2.2.1
  have hn := hW.n
  refine c_M_beginTrial hM hW (fun hc hsc hTc => ?_)
  have s1 : SmF h hc := s0.t (hsc.mo (by decide) (by decide))
  have hMc := hS.sm s1 (by decide)
  -- who is left behind t frames
  have loop : ∀ (m t : Nat), 61 ≤ t + m → t ≤ 60 → ∀ (hd : St) (w : Nat) (vw z : Int32), SmF h hd → Tri S (S 3) (S 4).toNat t hd → w < 2 ^ 20 → (∀ q, q < 20 → (w.testBit q = true ↔ (∃ k, k < (S 1).toNat ∧ od S k = q) ∧ ∀ i, i < t → hB S (oF S (S 3) (S 4).toNat i) q = true)) → (∀ u, u < t → ¬ allS S u) → vw = nI w → z = iI t → SR y_M_allShownIn 45 [some (.ref 90), some (.int vw), some (.int z)] [] hd Q := by
    intro m
    induction m with
    | zero => intro t q1 q2; omega
    | succ m ih =>
      intro t q1 q2 hd w vw z hsm hT hw hbit hno ew e
      have hMd := hS.sm hsm (by decide)
      have key : w = 0 ↔ allS S t := by
        constructor
        · intro hw0 k hk
          have hod := hW.od hk
          have h5 := hbit (od S k) hod.2.1
          rw [hw0, Nat.zero_testBit] at h5
          apply Classical.byContradiction
          intro hne
          have : ∀ i, i < t → hB S (oF S (S 3) (S 4).toNat i) (od S k) = true := fun i hi => by
            cases hb : hB S (oF S (S 3) (S 4).toNat i) (od S k) with
            | true => rfl
            | false => exact absurd ⟨i, hi, hb⟩ hne
          have := h5.mpr ⟨⟨k, hk, rfl⟩, this⟩
          cases this
        · intro ha
          refine nat_zero_bits (fun p hp => ?_) hw
          cases hb : w.testBit p with
          | false => rfl
          | true =>
            obtain ⟨⟨k, hk, e1⟩, h6⟩ := (hbit p hp).mp hb
            obtain ⟨i, hi, h7⟩ := ha k hk
            rw [e1, h6 i hi] at h7
            cases h7
      refine w_loop IS_ok [45] ok_M_allShownIn ?_
      refine w_eq w 0 (fun q3 => ?_) (fun q3 => ?_) ew rfl
      · refine w_eq w 0 (fun q4 => ?_) (fun q4 => absurd q3 q4) ew rfl
        rw [e]
        exact hQ _ _ hsm (Or.inl ⟨t, q2, rfl, key.mp (by omega), hno⟩)
      · refine w_le 60 t (fun q4 => ?_) (fun q4 => ?_) rfl e
        · refine w_eq w 0 (fun q5 => absurd q5 q3) (fun _ => ?_) ew rfl
          refine hQ _ _ hsm (Or.inr ⟨rfl, fun u hu => ?_⟩)
          by_cases hut : u = t
          · rw [hut]; exact fun z => q3 (by have := key.mpr z; omega)
          · exact hno u (by omega)
        · refine w_ix 3 ?_ rfl (show 3 < 270 by omega)
          refine w_ix 4 ?_ rfl (show 4 < 270 by omega)
          refine c_M_tryFrame hMd hW (S 3) (S 4).toNat t h3 (by omega) (by omega) hT (fun he v hse hTe hv hvb => ?_) (hMd 3) (by rw [show (((S 4).toNat : Nat) : Int) = S 4 by omega]; exact hMd 4)
          refine ih (t + 1) (by omega) (by omega) he (w &&& v) _ _ (hsm.t (hse.mo (by decide) (by decide))) hTe (Nat.lt_of_le_of_lt Nat.and_le_left hw) (fun q hq => ?_) (fun u hu => ?_) (by rw [ew, fa_and]) (iI_1 e)
          · rw [Nat.testBit_and, hvb q hq, Bool.and_eq_true, hbit q hq]
            constructor
            · intro ⟨⟨a, b⟩, c⟩
              refine ⟨a, fun i hi => ?_⟩
              by_cases hit : i = t
              · rw [hit]; exact c
              · exact b i (by omega)
            · intro ⟨a, b⟩
              exact ⟨⟨a, fun i hi => b i (by omega)⟩, b t (by omega)⟩
          · by_cases hut : u = t
            · rw [hut]; exact fun z => q3 (by have := key.mpr z; omega)
            · exact hno u (by omega)
  have first : ∀ (m k : Nat), (S 1).toNat + 1 ≤ k + m → k ≤ (S 1).toNat → ∀ (w : Nat) (vw z : Int32), w < 2 ^ 20 → (∀ q, q < 20 → (w.testBit q = true ↔ ∃ j, j < k ∧ od S j = q)) → vw = nI w → z = iI k → SR y_M_allShownIn 13 [some (.ref 90), some (.int vw), some (.int z)] [] hc Q := by
    intro m
    induction m with
    | zero => intro k q1 q2; omega
    | succ m ih =>
      intro k q1 q2 w vw z hw hbit ew e
      refine w_loop IS_ok [13, 45] ok_M_allShownIn ?_
      refine w_ix 1 (w_le (S 1) k (fun q3 => ?_) (fun q3 => ?_) (hMc 1) e) rfl (show 1 < 270 by omega)
      · have hk : k = (S 1).toNat := by omega
        subst hk
        exact loop 61 0 (by omega) (by omega) hc w _ _ s1 (hTc _ _) hw (fun q hq => by rw [hbit q hq]; exact ⟨fun a => ⟨a, fun i hi => by omega⟩, fun a => a.1⟩) (fun u hu => by omega) ew rfl
      · have hod := hW.od (k := k) (by omega)
        have hv : hc.2 91 (6 + k) = iI (od S k) := by rw [hMc]; exact congrArg iI hod.1
        refine w_ix (6 + k) ?_ (by rw [e]; exact (iI_add 6 k).trans (congrArg iI (by omega))) (show 6 + k < 270 by omega)
        refine ih (k + 1) (by omega) (by omega) (w ||| 2 ^ od S k) _ _ (bit_or_b hw hod.2.1) (fun q hq => ?_) ?_ (iI_1 e)
        · rw [bit_or_t, Bool.or_eq_true, hbit q hq, decide_eq_true_eq]
          constructor
          · rintro (⟨j, hj, e1⟩ | e1)
            · exact ⟨j, by omega, e1⟩
            · exact ⟨k, by omega, e1⟩
          · rintro ⟨j, hj, e1⟩
            by_cases hjk : j = k
            · rw [hjk] at e1; exact Or.inr e1
            · exact Or.inl ⟨j, by omega, e1⟩
        · show vw ||| ((1 : Int32) <<< (hc.2 91 (6 + k) &&& 31)) = nI (w ||| 2 ^ od S k)
          rw [ew, hv, bit_or hod.2.1]
  exact first ((S 1).toNat + 1) 0 (by omega) (by omega) 0 _ _ (by decide) (fun q hq => by simp) rfl rfl
def mxF (f : Nat → Nat) : Nat → Nat
  | 0 => 0
  | n + 1 => if mxF f n < f n then f n else mxF f n
theorem mxF_z {f : Nat → Nat} : ∀ {n : Nat}, (∀ i, i < n → f i = 0) → mxF f n = 0
  | 0, _ => rfl
  | n + 1, h => by
    unfold mxF
    rw [mxF_z (fun i hi => h i (by omega)), h n (by omega)]
    rfl
theorem mxF_b {f : Nat → Nat} {b : Nat} : ∀ {n : Nat}, (∀ i, i < n → f i ≤ b) → mxF f n ≤ b
  | 0, _ => Nat.zero_le _
  | n + 1, h => by
    unfold mxF
    have := mxF_b (f := f) (b := b) (n := n) (fun i hi => h i (by omega))
    have := h n (by omega)
    split <;> omega
/-- the greatest number of 20 frames in which one puppet is hidden, by rule 1 and a step -/
def grb (S : Nat → Int) (step : Nat) : Nat := mxF (fun p => ofn S 1 step p 20) 20
theorem grb_b (S : Nat → Int) (step : Nat) : grb S step ≤ 20 := mxF_b (fun i _ => ofn_le S 1 step i 20)
set_option maxHeartbeats 1000000 in
theorem c_M_greatestBy {S : Nat → Int} {x1 : Int32} {h : St} {Q : Option Value → St → Prop} (hS : MS S h) (hW : WF S) (step : Nat) (hst : step ≤ 19) (hQ : ∀ h', SmF h h' → Q (some (.int (iI (grb S step)))) h') (h1 : x1 = iI step) : SC y_M_greatestBy [.ref 90, .int x1] h Q := by
  refine w_call IS_ok [8] ok_M_greatestBy rfl rfl ?_
  refine c_M_beginTrial hS hW (fun hc hsc hTc => ?_)
  have s1 : SmF h hc := hsc.mo (by decide) (by decide)
  have last : ∀ (hd : St) (w : Nat), SmF h hd → Tri S 1 step 20 hd → w < 2 ^ 20 → (∀ q, q < 20 → w.testBit q = decide (0 < ofn S 1 step q 20)) → ∀ (m k : Nat), 21 ≤ k + m → k ≤ 20 → ∀ (v z : Int32), v = iI (mxF (fun p => ofn S 1 step p 20) k) → z = iI k → SR y_M_greatestBy 34 [some (.ref 90), some (.int x1), some (.int (nI w)), some (.int v), some (.int z)] [] hd Q := by
    intro hd w hsm hT hw hbit m
    induction m with
    | zero => intro k q1 q2; omega
    | succ m ih =>
      intro k q1 q2 v z ev e
      have hb := mxF_b (f := fun p => ofn S 1 step p 20) (b := 20) (n := k) (fun i _ => ofn_le S 1 step i 20)
      refine w_loop IS_ok [34] ok_M_greatestBy ?_
      refine w_le 20 k (fun q3 => ?_) (fun q3 => ?_) rfl e
      · have hk : k = 20 := by omega
        subst hk
        rw [ev]
        exact hQ hd hsm
      · refine w_eq w 0 (fun q4 => ?_) (fun q4 => ?_) rfl rfl
        · have hz : ∀ p, p < 20 → ofn S 1 step p 20 = 0 := fun p hp => by
            have h5 := hbit p hp
            rw [show w = 0 by omega, Nat.zero_testBit] at h5
            have : ¬ 0 < ofn S 1 step p 20 := fun z => by rw [decide_eq_true z] at h5; cases h5
            omega
          have h6 := hQ hd hsm
          unfold grb at h6
          rw [mxF_z hz] at h6
          rw [ev, mxF_z (fun i hi => hz i (by omega))]
          exact h6
        · have hk20 : k < 20 := by omega
          have hok := ofn_le S 1 step k 20
          refine w_ix k (w_le (ofn S 1 step k 20) (mxF (fun p => ofn S 1 step p 20) k) (fun q5 => ?_) (fun q5 => ?_) (hT.2 k hk20) ev) e (show k < 20 by omega)
          · exact ih (k + 1) (by omega) (by omega) _ _ (by simp only [mxF]; rw [if_neg (by omega)]; exact ev) (iI_1 e)
          · refine w_ix k ?_ e (show k < 20 by omega)
            exact ih (k + 1) (by omega) (by omega) _ _ (by simp only [mxF]; rw [if_pos (by omega)]; exact hT.2 k hk20) (iI_1 e)
  have loop : ∀ (m t : Nat), 21 ≤ t + m → t ≤ 20 → ∀ (hd : St) (w : Nat) (vw z : Int32), SmF h hd → Tri S 1 step t hd → w < 2 ^ 20 → (∀ q, q < 20 → w.testBit q = decide (0 < ofn S 1 step q t)) → vw = nI w → z = iI t → SR y_M_greatestBy 8 [some (.ref 90), some (.int x1), some (.int vw), some (.int z), none] [] hd Q := by
    intro m
    induction m with
    | zero => intro t q1 q2; omega
    | succ m ih =>
      intro t q1 q2 hd w vw z hsm hT hw hbit ew e
      have hMd := hS.sm hsm (by decide)
      refine w_loop IS_ok [8, 34] ok_M_greatestBy ?_
      refine w_le 20 t (fun q3 => ?_) (fun q3 => ?_) rfl e
      · have ht : t = 20 := by omega
        subst ht
        subst ew
        exact last hd w hsm hT hw hbit 21 0 (by omega) (by omega) _ _ rfl rfl
      · refine c_M_tryFrame hMd hW 1 step t (by omega) hst (by omega) hT (fun he v hse hTe hv hvb => ?_) rfl h1
        refine ih (t + 1) (by omega) (by omega) he (w ||| v) _ _ (hsm.t (hse.mo (by decide) (by decide))) hTe (Nat.or_lt_two_pow hw hv) (fun q hq => ?_) (by rw [ew, fa_or]) (iI_1 e)
        rw [Nat.testBit_or, hbit q hq, hvb q hq]
        show _ = decide (0 < ofn S 1 step q t + (if hB S (oF S 1 step t) q then 1 else 0))
        cases hB S (oF S 1 step t) q <;> simp
  exact loop 21 0 (by omega) (by omega) hc 0 _ _ s1 (hTc _ _) (by decide) (fun q hq => by simp [ofn, sm]) rfl rfl
/-- the best step among the first ones, and its number -/
def bsF (g : Nat → Nat) : Nat → Nat × Nat
  | 0 => (1, g 1)
  | k + 1 => if g (k + 2) < (bsF g k).2 then (k + 2, g (k + 2)) else bsF g k
theorem bsF_b {g : Nat → Nat} (hg : ∀ s, g s ≤ 20) : ∀ k : Nat, (bsF g k).1 ≤ k + 1 ∧ (bsF g k).2 ≤ 20
  | 0 => ⟨by show (1 : Nat) ≤ 1; omega, hg 1⟩
  | k + 1 => by
    have := bsF_b hg k
    unfold bsF
    split
    · exact ⟨by show k + 2 ≤ _; omega, hg _⟩
    · exact ⟨by omega, this.2⟩
/-- what bestStep answers -/
def BstR (S : Nat → Int) (w r : Int) : Prop := (¬ (0 ≤ w ∧ w ≤ 1) ∧ r = -101) ∨ (w = 0 ∧ r = (bsF (grb S) 18).1) ∨ (w = 1 ∧ r = (bsF (grb S) 18).2)
set_option maxHeartbeats 1000000 in
theorem c_M_bestStep {S : Nat → Int} {x1 : Int32} {h : St} {Q : Option Value → St → Prop} (hS : MS S h) (hW : WF S) (w : Int) (hQ : ∀ h' r, SmF h h' → BstR S w r → Q (some (.int (iI r))) h') (h1 : x1 = iI w) (rw' : rg w) : SC y_M_bestStep [.ref 90, .int x1] h Q := by
  refine w_call IS_ok [28] ok_M_bestStep rfl rfl ?_
  have s0 : SmF h (pf h 0 0) := Sm.pf _ (by decide)
  have hM := hS.sm s0 (by decide)
  refine c_M_in w 0 1 ?_ h1 rfl rfl rw' (by omega) (by omega)
  refine w_b (fun g1 => hQ _ _ s0 (Or.inl ⟨g1, rfl⟩)) (fun g1 => ?_)
  refine c_M_greatestBy hM hW 1 (by omega) (fun hc hsc => ?_) rfl
  have loop : ∀ (m k : Nat), 19 ≤ k + m → k ≤ 18 → ∀ (hd : St) (v2 v3 z : Int32) (L5 : Option Value), SmF h hd → v2 = iI (bsF (grb S) k).1 → v3 = iI (bsF (grb S) k).2 → z = iI (k + 2 : Nat) → SR y_M_bestStep 28 [some (.ref 90), some (.int x1), some (.int v2), some (.int v3), some (.int z), L5] [] hd Q := by
    intro m
    induction m with
    | zero => intro k q1 q2; omega
    | succ m ih =>
      intro k q1 q2 hd v2 v3 z L5 hsm e2 e3 e
      have hMd := hS.sm hsm (by decide)
      have hbb := bsF_b (g := grb S) (fun s => grb_b S s) k
      refine w_loop IS_ok [28] ok_M_bestStep ?_
      refine w_lt 19 (k + 2 : Nat) (fun q3 => ?_) (fun q3 => ?_) rfl e
      · have hk : k = 18 := by omega
        subst hk
        refine w_eq w 0 (fun q4 => ?_) (fun q4 => ?_) h1 rfl
        · rw [e2]
          exact hQ _ _ hsm (Or.inr (Or.inl ⟨q4, rfl⟩))
        · rw [e3]
          exact hQ _ _ hsm (Or.inr (Or.inr ⟨by omega, rfl⟩))
      · refine c_M_greatestBy hMd hW (k + 2) (by omega) (fun he hse => ?_) e
        have hgb := grb_b S (k + 2)
        refine w_le (bsF (grb S) k).2 (grb S (k + 2)) (fun q4 => ?_) (fun q4 => ?_) e3 rfl
        · refine w_le (bsF (grb S) k).2 (grb S (k + 2)) (fun _ => ?_) (fun q5 => by omega) e3 rfl
          exact ih (k + 1) (by omega) (by omega) he _ _ _ _ (hsm.t hse) (by simp only [bsF]; rw [if_neg (by omega)]; exact e2) (by simp only [bsF]; rw [if_neg (by omega)]; exact e3) (iI_1 e)
        · refine w_le (bsF (grb S) k).2 (grb S (k + 2)) (fun q5 => by omega) (fun _ => ?_) e3 rfl
          exact ih (k + 1) (by omega) (by omega) he _ _ _ _ (hsm.t hse) (by simp only [bsF]; rw [if_pos (by omega)]; exact e) (by simp only [bsF]; rw [if_pos (by omega)]) (iI_1 e)
  exact loop 19 0 (by omega) (by omega) hc _ _ _ _ (s0.t hsc) rfl rfl rfl
end
section
/-! reading a text: characters, numbers -/
/-- the character at a place, 0 behind the end -/
def chr (n : Nat) (T : Nat → Nat) (i : Nat) : Nat := if i < n then T i else 0
def TxB (n : Nat) (T : Nat → Nat) : Prop := n ≤ 100 ∧ ∀ i, i < n → 1 ≤ T i ∧ T i ≤ 255
theorem chr_b {n : Nat} {T : Nat → Nat} (h : TxB n T) (i : Nat) : chr n T i ≤ 255 := by
  unfold chr
  split
  · next hi => exact (h.2 i hi).2
  · omega
def isD (c : Nat) : Prop := 48 ≤ c ∧ c ≤ 57
abbrev isDb (c : Nat) : Bool := decide (48 ≤ c ∧ c ≤ 57)
/-- a number goes on behind j digits of the value v: its value, and how many digits it has -/
def ext (ch : Nat → Nat) (i : Nat) : Nat → Nat → Nat → Nat × Nat
  | 0, j, v => (v, j)
  | f + 1, j, v => if isDb (ch (i + j)) = true ∧ 0 < v ∧ j < 3 then ext ch i f (j + 1) (10 * v + (ch (i + j) - 48)) else (v, j)
def nd (ch : Nat → Nat) (i : Nat) : Nat := if isDb (ch i) = true then (ext ch i 3 1 (ch i - 48)).2 else 0
def nv (ch : Nat → Nat) (i : Nat) : Nat := if isDb (ch i) = true then (ext ch i 3 1 (ch i - 48)).1 else 0
theorem ext_b (ch : Nat → Nat) (i : Nat) : ∀ f j v : Nat, 1 ≤ j → j ≤ 3 → v < 10 ^ j → (ext ch i f j v).1 < 1000 ∧ 1 ≤ (ext ch i f j v).2 ∧ (ext ch i f j v).2 ≤ 3
  | 0, j, v, h0, h1, h2 => by
    refine ⟨?_, h0, h1⟩
    have : 10 ^ j ≤ 10 ^ 3 := Nat.pow_le_pow_right (by decide) h1
    show v < 1000
    omega
  | f + 1, j, v, h0, h1, h2 => by
    have h3 : 10 ^ j ≤ 10 ^ 3 := Nat.pow_le_pow_right (by decide) h1
    unfold ext
    split
    · next h =>
      have hd : 48 ≤ ch (i + j) ∧ ch (i + j) ≤ 57 := by simpa using h.1
      exact ext_b ch i f (j + 1) _ (by omega) (by omega) (by rw [Nat.pow_succ]; omega)
    · exact ⟨by show v < 1000; omega, h0, h1⟩
theorem nd_b (ch : Nat → Nat) (i : Nat) : nd ch i ≤ 3 ∧ nv ch i < 1000 ∧ (nd ch i = 0 ↔ isDb (ch i) = false) := by
  unfold nd nv
  by_cases h : isDb (ch i) = true
  · have hd : 48 ≤ ch i ∧ ch i ≤ 57 := by simpa using h
    have := ext_b ch i 3 1 (ch i - 48) (by omega) (by omega) (by omega)
    rw [if_pos h, if_pos h]
    refine ⟨this.2.2, this.1, fun z => by omega, fun z => by rw [z] at h; cases h⟩
  · rw [if_neg h, if_neg h]
    exact ⟨by omega, by omega, fun _ => by simpa using h, fun _ => rfl⟩
/-- the reference's reading: where it is, how deep, how much it has noted -/
def RdS (n : Nat) (T : Nat → Nat) (i d c : Nat) (h : St) : Prop := MTx n T h ∧ h.1 90 23 = iI i ∧ h.1 90 24 = iI d ∧ h.1 90 17 = iI c ∧ h.1 90 25 = 1
/-- what is noted of a failure -/
def fG (k p d a c : Int) : Nat → Int := fun j => if j = 0 then k else if j = 1 then p else if j = 2 then d else if j = 3 then a else c
theorem c_M_at {n : Nat} {T : Nat → Nat} {x1 : Int32} {h : St} {Q : Option Value → St → Prop} (hT : MTx n T h) (hB : TxB n T) (i : Nat) (hi : i < 1000) (hQ : Q (some (.int (iI (if i < n then (T i : Int) else -1)))) h) (h1 : x1 = iI i) : SC y_M_at [.ref 90, .int x1] h Q := by
  refine w_call IS_ok [] ok_M_at rfl rfl ?_
  have hn := hB.1
  refine w_le n i (fun g => ?_) (fun g => ?_) hT.1 h1
  · rw [if_neg (by omega)] at hQ
    exact hQ
  · rw [if_pos (by omega), ← hT.2 i (by omega)] at hQ
    exact w_ix i hQ h1 (show i < 100 by omega)
theorem c_M_isDigit {n : Nat} {T : Nat → Nat} {h : St} {Q : Option Value → St → Prop} (hT : MTx n T h) (hB : TxB n T) (i : Nat) (hi : i < 1000) (hn : h.1 90 23 = iI i) (hQ : Q (some (.int (bI (isDb (chr n T i) = true)))) h) : SC y_M_isDigit [.ref 90] h Q := by
  refine w_call IS_ok [] ok_M_isDigit rfl rfl ?_
  refine c_M_at hT hB i hi ?_ hn
  have hc : -1 ≤ (if i < n then (T i : Int) else -1) ∧ (if i < n then (T i : Int) else -1) ≤ 255 := by
    split
    · next h => have := hB.2 i h; omega
    · omega
  refine c_M_in (if i < n then (T i : Int) else -1) 48 57 ⟨bI_01 _, ?_⟩ rfl rfl rfl (by omega) (by omega) (by omega)
  rw [bI_iff (d := isDb (chr n T i) = true)]
  · exact hQ
  · unfold chr
    simp only [decide_eq_true_eq]
    split <;> omega
def fl5 (h : St) (k p d a c : Int32) : St := (pf (pf h 25 0) 21 1).1 |> fun F => (F, u1 h.2 108 (u1 (u1 (u1 (u1 (u1 (h.2 108) 0 k) 1 p) 2 d) 3 a) 4 c))
theorem c_M_fail {x1 x2 x3 x4 x5 : Int32} {h : St} {Q : Option Value → St → Prop} (k p d a c : Int) (hQ : ∀ h', Sm [(90, 25), (90, 21)] [108] h h' → h'.1 90 25 = 0 → MFl 1 (fG k p d a c) h' → Q none h') (h1 : x1 = iI k) (h2 : x2 = iI p) (h3 : x3 = iI d) (h4 : x4 = iI a) (h5 : x5 = iI c) : SC y_M_fail [.ref 90, .int x1, .int x2, .int x3, .int x4, .int x5] h Q := by
  refine w_call IS_ok [] ok_M_fail rfl rfl ?_
  refine ⟨Or.inl rfl, ?_⟩
  refine ⟨Or.inr rfl, ?_⟩
  refine w_ix 0 ?_ rfl (show 0 < 5 by omega)
  refine w_ix 1 ?_ rfl (show 1 < 5 by omega)
  refine w_ix 2 ?_ rfl (show 2 < 5 by omega)
  refine w_ix 3 ?_ rfl (show 3 < 5 by omega)
  refine w_ix 4 ?_ rfl (show 4 < 5 by omega)
  refine hQ (wa (wa (wa (wa (wa (pf (pf h 25 0) 21 1) 108 0 x1) 108 1 x2) 108 2 x3) 108 3 x4) 108 4 x5) ?_ ?_ ⟨?_, fun j hj => ?_⟩
  · exact ((((((Sm.pf _ (by decide)).t (Sm.pf _ (by decide))).t (Sm.wa _ _ (by decide))).t (Sm.wa _ _ (by decide))).t (Sm.wa _ _ (by decide))).t (Sm.wa _ _ (by decide))).t (Sm.wa _ _ (by decide))
  · show (pf (pf h 25 0) 21 1).1 90 25 = 0
    rw [pf_n _ _ _ (by decide), pf_s]
  · show (pf (pf h 25 0) 21 1).1 90 21 = _
    rw [pf_s]
    rfl
  · rcases (show j = 0 ∨ j = 1 ∨ j = 2 ∨ j = 3 ∨ j = 4 by omega) with rfl | rfl | rfl | rfl | rfl
    · rw [wa_n _ _ _ _ (by decide), wa_n _ _ _ _ (by decide), wa_n _ _ _ _ (by decide), wa_n _ _ _ _ (by decide), wa_s]; exact h1
    · rw [wa_n _ _ _ _ (by decide), wa_n _ _ _ _ (by decide), wa_n _ _ _ _ (by decide), wa_s]; exact h2
    · rw [wa_n _ _ _ _ (by decide), wa_n _ _ _ _ (by decide), wa_s]; exact h3
    · rw [wa_n _ _ _ _ (by decide), wa_s]; exact h4
    · rw [wa_s]; exact h5
/-- a fault of the text is noted -/
abbrev SmR (h h' : St) : Prop := Sm [(90, 25), (90, 21), (90, 23), (90, 17), (90, 24)] [108, 99, 100, 101, 102, 103, 104, 105, 107] h h'
def Flt (f d : Nat) (h : St) : Prop := h.1 90 25 = 0 ∧ MFl 1 (fG 1 f (d + 1) 0 (-109)) h
theorem c_M_wrong {x1 : Int32} {h : St} {Q : Option Value → St → Prop} (f d : Nat) (hd : h.1 90 24 = iI d) (hw : h.1 90 25 = 1) (hQ : ∀ h', Sm [(90, 25), (90, 21)] [108] h h' → Flt f d h' → Q none h') (h1 : x1 = iI f) : SC y_M_wrong [.ref 90, .int x1] h Q := by
  refine w_call IS_ok [] ok_M_wrong rfl rfl ?_
  refine w_if (fun g => ?_) (fun _ => ?_)
  · have : h.1 90 25 = 0 := g
    rw [hw] at this
    exact absurd this (by decide)
  · refine c_M_fail 1 f (d + 1) 0 (-109) (fun h' hs h25 hF => hQ h' hs ⟨h25, hF⟩) rfl h1 ?_ rfl rfl
    rw [hd]
    exact iI_add _ 1
theorem c_M_wrong0 {x1 : Int32} {h : St} {Q : Option Value → St → Prop} (hw : h.1 90 25 = 0) (hQ : Q none h) : SC y_M_wrong [.ref 90, .int x1] h Q := by
  refine w_call IS_ok [] ok_M_wrong rfl rfl ?_
  refine w_if (fun _ => hQ) (fun g => absurd hw g)
theorem chr_in {n : Nat} {T : Nat → Nat} {i : Nat} (h : isDb (chr n T i) = true) : i < n := by
  apply Classical.byContradiction
  intro z
  unfold chr at h
  rw [if_neg z] at h
  cases h
set_option maxHeartbeats 2000000 in
theorem c_M_number {n : Nat} {T : Nat → Nat} {h : St} {Q : Option Value → St → Prop} (hB : TxB n T) (i d c : Nat) (hR : RdS n T i d c h) (hi : i < 500) (hQ0 : ∀ h', nd (chr n T) i = 0 → Sm [(90, 25), (90, 21)] [108] h h' → Flt i d h' → Q (some (.int 0)) h') (hQ1 : ∀ h', nd (chr n T) i ≠ 0 → Sm [(90, 23)] [] h h' → RdS n T (i + nd (chr n T) i) d c h' → Q (some (.int (iI (nv (chr n T) i)))) h') : SC y_M_number [.ref 90] h Q := by
  refine w_call IS_ok [44] ok_M_number rfl rfl ?_
  obtain ⟨hT, h23, h24, h17, h25⟩ := id hR
  refine c_M_isDigit hT hB i (by omega) h23 ?_
  refine w_b (fun g => ?_) (fun g => ?_)
  · refine c_M_wrong i d h24 h25 (fun h' hs hF => ?_) h23
    exact hQ0 h' ((nd_b _ i).2.2.mpr (by simpa using g)) hs hF
  · have hin := chr_in g
    have hch : chr n T i = T i := if_pos hin
    have hdd : 48 ≤ T i ∧ T i ≤ 57 := by rw [← hch]; simpa using g
    have hnd : nd (chr n T) i = (ext (chr n T) i 3 1 (chr n T i - 48)).2 := if_pos g
    have hnv : nv (chr n T) i = (ext (chr n T) i 3 1 (chr n T i - 48)).1 := if_pos g
    have tail : ∀ (f j v : Nat), 1 ≤ j → j ≤ 3 → 3 ≤ f + j → v < 10 ^ j → ext (chr n T) i f j v = ext (chr n T) i 3 1 (chr n T i - 48) → ∀ (hc : St) (z1 z2 : Int32), Sm [(90, 23)] [] h hc → RdS n T (i + j) d c hc → z1 = iI i → z2 = iI v → SR y_M_number 44 [some (.ref 90), some (.int z1), some (.int z2)] [] hc Q := by
      intro f
      induction f with
      | zero =>
        intro j v h0 h1 h2 h3 he hc z1 z2 hs hRc e1 e2
        have hp : v < 1000 := by have : 10 ^ j ≤ 10 ^ 3 := Nat.pow_le_pow_right (by decide) h1; omega
        have fin : SR y_M_number 95 [some (.ref 90), some (.int z1), some (.int z2)] [] hc Q := by
          refine w_loop IS_ok [] ok_M_number ?_
          rw [e2]
          have := hQ1 hc (by rw [hnd, ← he]; show j ≠ 0; omega) hs (by rw [hnd, ← he]; exact hRc)
          rw [hnv, ← he] at this
          exact this
        obtain ⟨hTc, g23, -⟩ := id hRc
        refine w_loop IS_ok [95] ok_M_number ?_
        refine c_M_isDigit hTc hB (i + j) (by omega) g23 ?_
        refine w_b (fun _ => fin) (fun g2 => ?_)
        refine w_le v 0 (fun _ => fin) (fun g3 => ?_) e2 rfl
        have e3 : hc.1 90 23 - z1 = iI (j : Int) := by rw [g23, e1]; exact (iI_sub _ _).trans (congrArg iI (by omega))
        exact w_le 3 j (fun _ => fin) (fun g4 => by omega) rfl e3
      | succ f ih =>
        intro j v h0 h1 h2 h3 he hc z1 z2 hs hRc e1 e2
        have hp : v < 1000 := by have : 10 ^ j ≤ 10 ^ 3 := Nat.pow_le_pow_right (by decide) h1; omega
        obtain ⟨hTc, g23, g24, g17, g25⟩ := id hRc
        have fin : ¬ (isDb (chr n T (i + j)) = true ∧ 0 < v ∧ j < 3) → SR y_M_number 95 [some (.ref 90), some (.int z1), some (.int z2)] [] hc Q := by
          intro hno
          have he2 : ext (chr n T) i 3 1 (chr n T i - 48) = (v, j) := by
            rw [← he]
            unfold ext
            rw [if_neg hno]
          refine w_loop IS_ok [] ok_M_number ?_
          rw [e2]
          have := hQ1 hc (by rw [hnd, he2]; show j ≠ 0; omega) hs (by rw [hnd, he2]; exact hRc)
          rw [hnv, he2] at this
          exact this
        refine w_loop IS_ok [44, 95] ok_M_number ?_
        refine c_M_isDigit hTc hB (i + j) (by omega) g23 ?_
        refine w_b (fun g2 => fin (fun z => g2 z.1)) (fun g2 => ?_)
        refine w_le v 0 (fun g3 => fin (fun z => by omega)) (fun g3 => ?_) e2 rfl
        have e3 : hc.1 90 23 - z1 = iI (j : Int) := by rw [g23, e1]; exact (iI_sub _ _).trans (congrArg iI (by omega))
        refine w_le 3 j (fun g4 => fin (fun z => by omega)) (fun g4 => ?_) rfl e3
        have hin2 := chr_in g2
        have hch2 : chr n T (i + j) = T (i + j) := if_pos hin2
        have hdd2 : 48 ≤ T (i + j) ∧ T (i + j) ≤ 57 := by rw [← hch2]; simpa using g2
        refine c_M_at hTc hB (i + j) (by omega) ?_ g23
        rw [if_pos hin2]
        refine ih (j + 1) (10 * v + (chr n T (i + j) - 48)) (by omega) (by omega) (by omega) (by rw [hch2, Nat.pow_succ]; omega) ?_ (pf hc 23 (hc.1 90 23 + 1)) _ _ (hs.t (Sm.pf _ (by decide))) ?_ e1 ?_
        · rw [← he]
          conv => rhs; unfold ext
          rw [if_pos ⟨g2, by omega, by omega⟩]
        · refine ⟨hTc.sm (Sm.pf (X := [(90, 23)]) (Y := []) _ (by decide)) (by decide) (by decide), ?_, ?_, ?_, ?_⟩
          · rw [pf_s, g23]; exact iI_1 rfl
          · rw [pf_n _ _ _ (by decide)]; exact g24
          · rw [pf_n _ _ _ (by decide)]; exact g17
          · rw [pf_n _ _ _ (by decide)]; exact g25
        · rw [e2]
          refine (congrArg (fun t => t + iI (T (i + j)) - 48) (iI_mul 10 v)).trans ((congrArg (· - (48 : Int32)) (iI_add _ _)).trans ((iI_sub _ 48).trans (congrArg iI (by rw [hch2]; omega))))
    refine c_M_at hT hB i (by omega) ?_ h23
    rw [if_pos hin]
    refine tail 3 1 (chr n T i - 48) (by omega) (by omega) (by omega) (by rw [hch]; omega) rfl (pf h 23 (h.1 90 23 + 1)) _ _ (Sm.pf _ (by decide)) ?_ h23 ?_
    · refine ⟨hT.sm (Sm.pf (X := [(90, 23)]) (Y := []) _ (by decide)) (by decide) (by decide), ?_, ?_, ?_, ?_⟩
      · rw [pf_s, h23]; exact iI_1 rfl
      · rw [pf_n _ _ _ (by decide)]; exact h24
      · rw [pf_n _ _ _ (by decide)]; exact h17
      · rw [pf_n _ _ _ (by decide)]; exact h25
    · exact (iI_sub _ 48).trans (congrArg iI (by rw [hch]; omega))
end
section
/-! reading an act -/
/-- how many numbers stand behind a letter; 99 behind what is none -/
def nArg (c : Nat) : Nat := if c = 102 then 0 else if c = 109 then 3 else if c = 116 then 2 else if c = 117 ∨ c = 100 ∨ c = 108 then 1 else 99
theorem c_M_numbersOf {x1 : Int32} {h : St} {Q : Option Value → St → Prop} (c : Int) (hc : -1 ≤ c ∧ c ≤ 255) (hQ : Q (some (.int (iI (if nArg c.toNat = 99 then -109 else (nArg c.toNat : Int))))) h) (h1 : x1 = iI c) : SC y_M_numbersOf [.int x1] h Q := by
  refine w_call IS_ok [] ok_M_numbersOf rfl rfl ?_
  have nx : ∀ v : Int, c = v → ∀ r : Int, (if nArg v.toNat = 99 then -109 else (nArg v.toNat : Int)) = r → Q (some (.int (iI r))) h := fun v hv r hr => by rw [hv, hr] at hQ; exact hQ
  refine w_eq c 100 (fun g => nx 100 g 1 rfl) (fun g0 => ?_) h1 rfl
  refine w_eq c 101 (fun g => nx 101 g (-109) rfl) (fun g1 => ?_) h1 rfl
  refine w_eq c 102 (fun g => nx 102 g 0 rfl) (fun g2 => ?_) h1 rfl
  refine w_eq c 103 (fun g => nx 103 g (-109) rfl) (fun g3 => ?_) h1 rfl
  refine w_eq c 104 (fun g => nx 104 g (-109) rfl) (fun g4 => ?_) h1 rfl
  refine w_eq c 105 (fun g => nx 105 g (-109) rfl) (fun g5 => ?_) h1 rfl
  refine w_eq c 106 (fun g => nx 106 g (-109) rfl) (fun g6 => ?_) h1 rfl
  refine w_eq c 107 (fun g => nx 107 g (-109) rfl) (fun g7 => ?_) h1 rfl
  refine w_eq c 108 (fun g => nx 108 g 1 rfl) (fun g8 => ?_) h1 rfl
  refine w_eq c 109 (fun g => nx 109 g 3 rfl) (fun g9 => ?_) h1 rfl
  refine w_eq c 110 (fun g => nx 110 g (-109) rfl) (fun g10 => ?_) h1 rfl
  refine w_eq c 111 (fun g => nx 111 g (-109) rfl) (fun g11 => ?_) h1 rfl
  refine w_eq c 112 (fun g => nx 112 g (-109) rfl) (fun g12 => ?_) h1 rfl
  refine w_eq c 113 (fun g => nx 113 g (-109) rfl) (fun g13 => ?_) h1 rfl
  refine w_eq c 114 (fun g => nx 114 g (-109) rfl) (fun g14 => ?_) h1 rfl
  refine w_eq c 115 (fun g => nx 115 g (-109) rfl) (fun g15 => ?_) h1 rfl
  refine w_eq c 116 (fun g => nx 116 g 2 rfl) (fun g16 => ?_) h1 rfl
  refine w_eq c 117 (fun g => nx 117 g 1 rfl) (fun g17 => ?_) h1 rfl
  have : nArg c.toNat = 99 := by
    unfold nArg
    rw [if_neg (by omega), if_neg (by omega), if_neg (by omega), if_neg (by omega)]
  rw [this] at hQ
  exact hQ
/-- one item is noted -/
theorem c_M_code {x1 x2 x3 x4 x5 : Int32} {h : St} {Q : Option Value → St → Prop} (c : Nat) (hc : c < 100) (h17 : h.1 90 17 = iI c) (hQ : ∀ h', Sm [(90, 17)] [99, 100, 101, 102, 103, 104] h h' → h'.1 90 17 = iI (c + 1 : Nat) → h'.2 99 = u1 (h.2 99) c x1 → h'.2 100 = u1 (h.2 100) c x2 → h'.2 101 = u1 (h.2 101) c (h.1 90 24 + 1) → h'.2 102 = u1 (h.2 102) c x3 → h'.2 103 = u1 (h.2 103) c x4 → h'.2 104 = u1 (h.2 104) c x5 → Q none h') : SC y_M_code [.ref 90, .int x1, .int x2, .int x3, .int x4, .int x5] h Q := by
  refine w_call IS_ok [] ok_M_code rfl rfl ?_
  refine w_ix c ?_ h17 (show c < 100 from hc)
  refine w_ix c ?_ h17 (show c < 100 from hc)
  refine w_ix c ?_ h17 (show c < 100 from hc)
  refine w_ix c ?_ h17 (show c < 100 from hc)
  refine w_ix c ?_ h17 (show c < 100 from hc)
  refine w_ix c ?_ h17 (show c < 100 from hc)
  have o : ∀ {g : St} {a b j : Nat} {x : Int32}, b ≠ a → (wa g a j x).2 b = g.2 b := fun hb => wa_o _ _ _ _ hb
  have s : ∀ {g : St} {a j : Nat} {x : Int32}, (wa g a j x).2 a = u1 (g.2 a) j x := fun {g a j x} => by show u1 g.2 a (u1 (g.2 a) j x) a = _; rw [u1_s]
  refine hQ (pf (wa (wa (wa (wa (wa (wa h 99 c x1) 100 c x2) 101 c (h.1 90 24 + 1)) 102 c x3) 103 c x4) 104 c x5) 17 (h.1 90 17 + 1)) ?_ ?_ ?_ ?_ ?_ ?_ ?_ ?_
  · exact ((((((Sm.wa _ _ (by decide)).t (Sm.wa _ _ (by decide))).t (Sm.wa _ _ (by decide))).t (Sm.wa _ _ (by decide))).t (Sm.wa _ _ (by decide))).t (Sm.wa _ _ (by decide))).t (Sm.pf _ (by decide))
  · rw [pf_s, h17]; exact iI_1 rfl
  · show (wa (wa (wa (wa (wa (wa h 99 c x1) 100 c x2) 101 c (h.1 90 24 + 1)) 102 c x3) 103 c x4) 104 c x5).2 99 = _
    rw [o (by decide), o (by decide), o (by decide), o (by decide), o (by decide), s]
  · show (wa (wa (wa (wa (wa (wa h 99 c x1) 100 c x2) 101 c (h.1 90 24 + 1)) 102 c x3) 103 c x4) 104 c x5).2 100 = _
    rw [o (by decide), o (by decide), o (by decide), o (by decide), s, o (by decide)]
  · show (wa (wa (wa (wa (wa (wa h 99 c x1) 100 c x2) 101 c (h.1 90 24 + 1)) 102 c x3) 103 c x4) 104 c x5).2 101 = _
    rw [o (by decide), o (by decide), o (by decide), s, o (by decide), o (by decide)]
  · show (wa (wa (wa (wa (wa (wa h 99 c x1) 100 c x2) 101 c (h.1 90 24 + 1)) 102 c x3) 103 c x4) 104 c x5).2 102 = _
    rw [o (by decide), o (by decide), s, o (by decide), o (by decide), o (by decide)]
  · show (wa (wa (wa (wa (wa (wa h 99 c x1) 100 c x2) 101 c (h.1 90 24 + 1)) 102 c x3) 103 c x4) 104 c x5).2 103 = _
    rw [o (by decide), s, o (by decide), o (by decide), o (by decide), o (by decide)]
  · show (wa (wa (wa (wa (wa (wa h 99 c x1) 100 c x2) 101 c (h.1 90 24 + 1)) 102 c x3) 103 c x4) 104 c x5).2 104 = _
    rw [s, o (by decide), o (by decide), o (by decide), o (by decide), o (by decide)]
/-- the numbers of an act are read: r still, behind the k-th, from the place p on -/
def rdA (ch : Nat → Nat) (lt : Nat) : Nat → Nat → Nat → (Nat → Int) → Nat ⊕ (Nat × (Nat → Int))
  | 0, _, p, a => if ch p = 59 then .inr (p + 1, a) else .inl p
  | r + 1, k, p, a =>
    if 0 < k ∧ ch p ≠ 44 then .inl p
    else if nd ch ((if 0 < k then p + 1 else p) + (if lt = 109 ∧ 0 < k ∧ ch (if 0 < k then p + 1 else p) = 45 then 1 else 0)) = 0 then .inl ((if 0 < k then p + 1 else p) + (if lt = 109 ∧ 0 < k ∧ ch (if 0 < k then p + 1 else p) = 45 then 1 else 0))
    else rdA ch lt r (k + 1) ((if 0 < k then p + 1 else p) + (if lt = 109 ∧ 0 < k ∧ ch (if 0 < k then p + 1 else p) = 45 then 1 else 0) + nd ch ((if 0 < k then p + 1 else p) + (if lt = 109 ∧ 0 < k ∧ ch (if 0 < k then p + 1 else p) = 45 then 1 else 0)))
      (u1 a k (if lt = 109 ∧ 0 < k ∧ ch (if 0 < k then p + 1 else p) = 45 then -(nv ch ((if 0 < k then p + 1 else p) + (if lt = 109 ∧ 0 < k ∧ ch (if 0 < k then p + 1 else p) = 45 then 1 else 0)) : Int) else (nv ch ((if 0 < k then p + 1 else p) + (if lt = 109 ∧ 0 < k ∧ ch (if 0 < k then p + 1 else p) = 45 then 1 else 0)) : Int)))
theorem RdS.sm {n : Nat} {T : Nat → Nat} {i d c : Nat} {h h' : St} {Y : List Nat} (hR : RdS n T i d c h) (a : Sm [] Y h h') (hy : 94 ∉ Y) : RdS n T i d c h' := ⟨hR.1.sm a (by decide) hy, by rw [a.1 _ _ (by decide)]; exact hR.2.1, by rw [a.1 _ _ (by decide)]; exact hR.2.2.1, by rw [a.1 _ _ (by decide)]; exact hR.2.2.2.1, by rw [a.1 _ _ (by decide)]; exact hR.2.2.2.2⟩
theorem RdS.nx {n : Nat} {T : Nat → Nat} {i d c : Nat} {h : St} (hR : RdS n T i d c h) {x : Int32} {j : Nat} (hx : x = iI j) : RdS n T j d c (pf h 23 x) :=
  ⟨hR.1.sm (Sm.pf (X := [(90, 23)]) (Y := []) _ (by decide)) (by decide) (by decide), by rw [pf_s]; exact hx, by rw [pf_n _ _ _ (by decide)]; exact hR.2.2.1, by rw [pf_n _ _ _ (by decide)]; exact hR.2.2.2.1, by rw [pf_n _ _ _ (by decide)]; exact hR.2.2.2.2⟩
end
section
/-- an act is noted behind its reading -/
def CoA (c i d m : Nat) (a : Nat → Int) (h h' : St) : Prop := h'.2 99 = u1 (h.2 99) c 0 ∧ h'.2 100 = u1 (h.2 100) c (iI i) ∧ h'.2 101 = u1 (h.2 101) c (iI (d + 1 : Nat)) ∧ ∃ w0 w1 w2 : Int32, h'.2 102 = u1 (h.2 102) c w0 ∧ h'.2 103 = u1 (h.2 103) c w1 ∧ h'.2 104 = u1 (h.2 104) c w2 ∧ (0 < m → w0 = iI (a 0)) ∧ (1 < m → w1 = iI (a 1)) ∧ (2 < m → w2 = iI (a 2))
theorem mat_b {n : Nat} {T : Nat → Nat} (hB : TxB n T) (i : Nat) : -1 ≤ (if i < n then (T i : Int) else -1) ∧ (if i < n then (T i : Int) else -1) ≤ 255 := by
  split
  · next h => have := hB.2 i h; omega
  · omega
theorem mat_c {n : Nat} {T : Nat → Nat} {i k : Nat} (hk : 0 < k) : ((if i < n then (T i : Int) else -1) = k) ↔ chr n T i = k := by
  unfold chr
  split <;> omega
abbrev SmS (h h' : St) : Prop := Sm [(90, 23), (90, 17), (90, 24)] [99, 100, 101, 102, 103, 104, 105, 107] h h'
abbrev SmU (h h' : St) : Prop := Sm [(90, 25), (90, 23), (90, 17), (90, 24)] [99, 100, 101, 102, 103, 104, 105, 107] h h'
abbrev SmD (h h' : St) : Prop := Sm [(90, 23), (90, 17)] [99, 100, 101, 102, 103, 104, 107] h h'
abbrev SmC (h h' : St) : Prop := Sm [(90, 25), (90, 21), (90, 23), (90, 17)] [108, 99, 100, 101, 102, 103, 104, 107] h h'
theorem of_ite1 {c : Prop} [Decidable c] (h : 1 = (if c then 1 else 0 : Nat)) : c := by
  split at h
  · assumption
  · cases h
theorem of_ite0 {c : Prop} [Decidable c] (h : 0 = (if c then 1 else 0 : Nat)) : ¬ c := by
  split at h
  · cases h
  · assumption
set_option maxHeartbeats 8000000 in
theorem c_M_readAct {n : Nat} {T : Nat → Nat} {h : St} {Q : Option Value → St → Prop} (hB : TxB n T) (i d c : Nat) (hR : RdS n T i d c h) (hi : i < n) (hc : c < 100) (hl : nArg (T i) ≤ 3) (hd : d ≤ 4) (a0 : Nat → Int)
    (hQF : ∀ f h', rdA (chr n T) (T i) (nArg (T i)) 0 (i + 1) a0 = .inl f → SmC h h' → Flt f d h' → Q none h')
    (hQ1 : ∀ p a h', rdA (chr n T) (T i) (nArg (T i)) 0 (i + 1) a0 = .inr (p, a) → SmD h h' → RdS n T p d (c + 1) h' → CoA c i d (nArg (T i)) a h h' → Q none h') : SC y_M_readAct [.ref 90] h Q := by
  refine w_call IS_ok [32] ok_M_readAct rfl rfl ?_
  have hn100 := hB.1
  have hTi := hB.2 i hi
  obtain ⟨hT, h23, h24, h17, h25⟩ := id hR
  refine c_M_at hT hB i (by omega) ?_ h23
  rw [if_pos hi]
  refine c_M_numbersOf (T i : Int) (by omega) ?_ rfl
  rw [Int.toNat_natCast, if_neg (by omega)]
  generalize hm : nArg (T i) = m at *
  generalize hres : rdA (chr n T) (T i) m 0 (i + 1) a0 = RES at *
  -- the end, behind a fault
  have dead : ∀ (f p : Nat) (hcc : St) (z4 : Int32) (L5 L6 : Option Value), RES = .inl f → SmC h hcc → MTx n T hcc → hcc.1 90 23 = iI p → p < 400 → hcc.1 90 17 = iI c → Flt f d hcc → SR y_M_readAct 181 [some (.ref 90), some (.int (h.1 90 23)), some (.int (iI (T i))), some (.int (iI m)), some (.int z4), L5, L6] [] hcc Q := by
    intro f p hcc z4 L5 L6 hr hsm hTc g23 hp g17 hF
    refine w_loop IS_ok [202] ok_M_readAct ?_
    have fin : SR y_M_readAct 202 [some (.ref 90), some (.int (h.1 90 23)), some (.int (iI (T i))), some (.int (iI m)), some (.int z4), L5, L6] [] hcc Q := by
      refine w_loop IS_ok [] ok_M_readAct ?_
      refine w_ix 0 ?_ rfl (show 0 < 3 by omega)
      refine w_ix 1 ?_ rfl (show 1 < 3 by omega)
      refine w_ix 2 ?_ rfl (show 2 < 3 by omega)
      refine c_M_code c hc (h := pf hcc 23 (hcc.1 90 23 + 1)) (by rw [pf_n _ _ _ (by decide)]; exact g17) (fun h' hs' _ _ _ _ _ _ _ => ?_)
      have hs2 : Sm [(90, 23), (90, 17)] [99, 100, 101, 102, 103, 104] hcc h' := (Sm.pf (Y := [99, 100, 101, 102, 103, 104]) _ (by decide)).t (hs'.mo (by decide) (by decide))
      exact hQF f h' hr (hsm.t (hs2.mo (by decide) (by decide))) ⟨by rw [hs2.1 _ _ (by decide)]; exact hF.1, hF.2.sm hs2 (by decide) (by decide)⟩
    have hb := mat_b hB p
    refine c_M_at hTc hB p (by omega) ?_ g23
    refine w_eq (if p < n then (T p : Int) else -1) 59 (fun _ => fin) (fun _ => ?_) rfl rfl
    exact c_M_wrong0 hF.1 fin
  have dead2 : ∀ (f p k : Nat) (hcc : St) (z4 : Int32) (L5 L6 : Option Value), RES = .inl f → SmC h hcc → MTx n T hcc → hcc.1 90 23 = iI p → p < 400 → hcc.1 90 17 = iI c → Flt f d hcc → z4 = iI k → k < 10 → SR y_M_readAct 32 [some (.ref 90), some (.int (h.1 90 23)), some (.int (iI (T i))), some (.int (iI m)), some (.int z4), L5, L6] [] hcc Q := by
    intro f p k hcc z4 L5 L6 hr hsm hTc g23 hp g17 hF e4 hk
    refine w_loop IS_ok [181] ok_M_readAct ?_
    refine w_le m k (fun _ => dead f p hcc _ _ _ hr hsm hTc g23 hp g17 hF) (fun _ => ?_) rfl e4
    exact w_if (fun _ => dead f p hcc _ _ _ hr hsm hTc g23 hp g17 hF) (fun g => absurd hF.1 g)
  -- the end, in good order
  have fin : ∀ (p : Nat) (a : Nat → Int) (hcc : St) (z4 : Int32) (L5 L6 : Option Value), rdA (chr n T) (T i) 0 m p a = RES → SmD h hcc → RdS n T p d c hcc → p < 300 → (∀ j, j < m → hcc.2 107 j = iI (a j)) → (hcc.2 99 = h.2 99 ∧ hcc.2 100 = h.2 100 ∧ hcc.2 101 = h.2 101 ∧ hcc.2 102 = h.2 102 ∧ hcc.2 103 = h.2 103 ∧ hcc.2 104 = h.2 104) → SR y_M_readAct 181 [some (.ref 90), some (.int (h.1 90 23)), some (.int (iI (T i))), some (.int (iI m)), some (.int z4), L5, L6] [] hcc Q := by
    intro p a hcc z4 L5 L6 hr hsm hRc hp hnum hsame
    obtain ⟨hTc, g23, g24, g17, g25⟩ := id hRc
    have hb := mat_b hB p
    refine w_loop IS_ok [202] ok_M_readAct ?_
    refine c_M_at hTc hB p (by omega) ?_ g23
    refine w_eq (if p < n then (T p : Int) else -1) 59 (fun g => ?_) (fun g => ?_) rfl rfl
    · have hch : chr n T p = 59 := (mat_c (by omega)).mp g
      have hr2 : RES = .inr (p + 1, a) := by rw [← hr]; unfold rdA; rw [if_pos hch]
      refine w_loop IS_ok [] ok_M_readAct ?_
      refine w_ix 0 ?_ rfl (show 0 < 3 by omega)
      refine w_ix 1 ?_ rfl (show 1 < 3 by omega)
      refine w_ix 2 ?_ rfl (show 2 < 3 by omega)
      have hRp := hRc.nx (x := hcc.1 90 23 + 1) (j := p + 1) (by rw [g23]; exact iI_1 rfl)
      refine c_M_code c hc (h := pf hcc 23 (hcc.1 90 23 + 1)) hRp.2.2.2.1 (fun h' hs' k17 k99 k100 k101 k102 k103 k104 => ?_)
      obtain ⟨s1, s2, s3, s4, s5, s6⟩ := hsame
      have hs2 : Sm [(90, 23), (90, 17)] [99, 100, 101, 102, 103, 104] hcc h' := (Sm.pf (Y := [99, 100, 101, 102, 103, 104]) _ (by decide)).t (hs'.mo (by decide) (by decide))
      refine hQ1 (p + 1) a h' hr2 (hsm.t (hs2.mo (by decide) (by decide))) ⟨hRp.1.sm hs' (by decide) (by decide), ?_, ?_, k17, ?_⟩ ⟨?_, ?_, ?_, hcc.2 107 0, hcc.2 107 1, hcc.2 107 2, ?_, ?_, ?_, fun z => hnum 0 z, fun z => hnum 1 z, fun z => hnum 2 z⟩
      · rw [hs'.1 _ _ (by decide)]; exact hRp.2.1
      · rw [hs'.1 _ _ (by decide)]; exact hRp.2.2.1
      · rw [hs'.1 _ _ (by decide)]; exact hRp.2.2.2.2
      · rw [k99]; exact congrArg (fun f => u1 f c (0 : Int32)) s1
      · rw [k100, h23]; exact congrArg (fun f => u1 f c (iI i)) s2
      · rw [k101, hRp.2.2.1, show iI (d : Int) + 1 = iI ((d + 1 : Nat) : Int) from iI_1 rfl]; exact congrArg (fun f => u1 f c (iI (d + 1 : Nat))) s3
      · rw [k102]; exact congrArg (fun f => u1 f c (hcc.2 107 0)) s4
      · rw [k103]; exact congrArg (fun f => u1 f c (hcc.2 107 1)) s5
      · rw [k104]; exact congrArg (fun f => u1 f c (hcc.2 107 2)) s6
    · have hch : ¬ chr n T p = 59 := fun z => g ((mat_c (n := n) (T := T) (i := p) (k := 59) (by omega)).mpr z)
      have hr2 : RES = .inl p := by rw [← hr]; unfold rdA; rw [if_neg hch]
      refine c_M_wrong p d g24 g25 (fun h' hs' hF => ?_) g23
      have hs2 : Sm [(90, 25), (90, 21)] [108] hcc h' := hs'
      refine w_loop IS_ok [] ok_M_readAct ?_
      refine w_ix 0 ?_ rfl (show 0 < 3 by omega)
      refine w_ix 1 ?_ rfl (show 1 < 3 by omega)
      refine w_ix 2 ?_ rfl (show 2 < 3 by omega)
      refine c_M_code c hc (h := pf h' 23 (h'.1 90 23 + 1)) (by rw [pf_n _ _ _ (by decide), hs2.1 _ _ (by decide)]; exact g17) (fun h'' hs'' _ _ _ _ _ _ _ => ?_)
      have hs3 : Sm [(90, 23), (90, 17)] [99, 100, 101, 102, 103, 104] h' h'' := (Sm.pf (Y := [99, 100, 101, 102, 103, 104]) _ (by decide)).t (hs''.mo (by decide) (by decide))
      exact hQF p h'' hr2 ((Sm.t (Sm.mo hsm (by decide) (by decide)) (hs2.mo (by decide) (by decide))).t (hs3.mo (by decide) (by decide))) ⟨by rw [hs3.1 _ _ (by decide)]; exact hF.1, hF.2.sm hs3 (by decide) (by decide)⟩
  -- the numbers
  have loop : ∀ (r k p : Nat) (a : Nat → Int) (hcc : St) (z4 : Int32) (L5 L6 : Option Value), k + r = m → rdA (chr n T) (T i) r k p a = RES → SmD h hcc → RdS n T p d c hcc → p ≤ i + 1 + 6 * k → (∀ j, j < k → hcc.2 107 j = iI (a j)) → (hcc.2 99 = h.2 99 ∧ hcc.2 100 = h.2 100 ∧ hcc.2 101 = h.2 101 ∧ hcc.2 102 = h.2 102 ∧ hcc.2 103 = h.2 103 ∧ hcc.2 104 = h.2 104) → z4 = iI k → SR y_M_readAct 32 [some (.ref 90), some (.int (h.1 90 23)), some (.int (iI (T i))), some (.int (iI m)), some (.int z4), L5, L6] [] hcc Q := by
    intro r
    induction r with
    | zero =>
      intro k p a hcc z4 L5 L6 hk hr hsm hRc hp hnum hsame e4
      refine w_loop IS_ok [181] ok_M_readAct ?_
      exact w_le m k (fun _ => fin p a hcc _ _ _ hr hsm hRc (by omega) (fun j hj => hnum j (by omega)) hsame) (fun _ => by omega) rfl e4
    | succ r ih =>
      intro k p a hcc z4 L5 L6 hk hr hsm hRc hp hnum hsame e4
      have hk3 : k < 3 := by omega
      -- behind the sign
      have al : ∀ (q b : Nat) (hc1 : St) (L5 L6 : Option Value), q = (if 0 < k then p + 1 else p) → (b = 0 ∨ b = 1) → b = (if T i = 109 ∧ 0 < k ∧ chr n T q = 45 then 1 else 0) → ¬ (0 < k ∧ chr n T p ≠ 44) → SmD h hc1 → RdS n T q d c hc1 → (∀ j, j < k → hc1.2 107 j = iI (a j)) → (hc1.2 99 = h.2 99 ∧ hc1.2 100 = h.2 100 ∧ hc1.2 101 = h.2 101 ∧ hc1.2 102 = h.2 102 ∧ hc1.2 103 = h.2 103 ∧ hc1.2 104 = h.2 104) → SR y_M_readAct 117 [some (.ref 90), some (.int (h.1 90 23)), some (.int (iI (T i))), some (.int (iI m)), some (.int z4), L5, L6] [.int (iI b)] hc1 Q := by
        intro q b hc1 L5 L6 hq hb hbe hsep hs1 hR1 hn1 hsa1
        have hqp : q ≤ p + 1 := by rw [hq]; split <;> omega
        have hr2 := hr
        unfold rdA at hr2
        rw [if_neg hsep, ← hq, ← hbe] at hr2
        have hR2 : RdS n T (q + b) d c (pf hc1 23 (hc1.1 90 23 + iI b)) := hR1.nx (by rw [hR1.2.1]; exact (iI_add _ _).trans (congrArg iI (by omega)))
        have hs2 : SmD h (pf hc1 23 (hc1.1 90 23 + iI b)) := hs1.t (Sm.pf _ (by decide))
        rcases hb with rfl | rfl
        · refine w_loop IS_ok [32] ok_M_readAct ?_
          refine w_if (fun z => absurd (show (1 : Int32) = 0 by rw [← hR2.2.2.2.2]; exact z) (by decide)) (fun _ => ?_)
          refine c_M_number hB (q + 0) d c hR2 (by omega) (fun h' hz hs' hF => ?_) (fun h' hz hs' hR' => ?_)
          · refine w_ix k ?_ e4 (show k < 3 by omega)
            rw [if_pos hz] at hr2
            have hsa : Sm [(90, 25), (90, 21)] [108] (pf hc1 23 (hc1.1 90 23 + iI 0)) h' := hs'
            refine dead2 (q + 0) (q + 0) (k + 1) (wa h' 107 k ((0 : Int32))) _ _ _ hr2.symm ((Sm.t (Sm.mo hs2 (by decide) (by decide)) (hsa.mo (by decide) (by decide))).t (Sm.wa _ _ (by decide))) ?_ ?_ (by omega) ?_ ⟨hF.1, hF.2.sm (Sm.wa (X := []) (Y := [107]) _ _ (by decide)) (by decide) (by decide)⟩ (iI_1 e4) (by omega)
            · exact (hR2.1.sm hsa (by decide) (by decide)).sm (Sm.wa (X := []) (Y := [107]) _ _ (by decide)) (by decide) (by decide)
            · exact (hsa.1 _ _ (by decide)).trans hR2.2.1
            · exact (hsa.1 _ _ (by decide)).trans hR2.2.2.2.1
          · refine w_ix k ?_ e4 (show k < 3 by omega)
            rw [if_neg hz] at hr2
            have hnd := nd_b (chr n T) (q + 0)
            refine ih (k + 1) (q + 0 + nd (chr n T) (q + 0)) _ (wa h' 107 k (iI (nv (chr n T) (q + 0)))) _ _ _ (by omega) hr2 ((hs2.t (hs'.mo (by decide) (by decide))).t (Sm.wa _ _ (by decide))) (hR'.sm (Sm.wa (Y := [107]) _ _ (by decide)) (by decide)) (by omega) (fun j hj => ?_) ?_ (iI_1 e4)
            · by_cases hjk : j = k
              · subst hjk
                rw [wa_s, u1_s]
                exact congrArg iI (by rw [if_neg (of_ite0 hbe)])
              · rw [wa_n _ _ _ _ hjk, u1_n _ _ hjk, hs'.2 _ (by decide)]
                exact hn1 j (by omega)
            · obtain ⟨s1, s2, s3, s4, s5, s6⟩ := hsa1
              exact ⟨(wa_o _ _ _ _ (by decide)).trans ((hs'.2 _ (by decide)).trans s1), (wa_o _ _ _ _ (by decide)).trans ((hs'.2 _ (by decide)).trans s2), (wa_o _ _ _ _ (by decide)).trans ((hs'.2 _ (by decide)).trans s3), (wa_o _ _ _ _ (by decide)).trans ((hs'.2 _ (by decide)).trans s4), (wa_o _ _ _ _ (by decide)).trans ((hs'.2 _ (by decide)).trans s5), (wa_o _ _ _ _ (by decide)).trans ((hs'.2 _ (by decide)).trans s6)⟩
        · refine w_loop IS_ok [32] ok_M_readAct ?_
          refine w_if (fun z => absurd (show (1 : Int32) = 0 by rw [← hR2.2.2.2.2]; exact z) (by decide)) (fun _ => ?_)
          refine c_M_number hB (q + 1) d c hR2 (by omega) (fun h' hz hs' hF => ?_) (fun h' hz hs' hR' => ?_)
          · refine w_ix k ?_ e4 (show k < 3 by omega)
            rw [if_pos hz] at hr2
            have hsa : Sm [(90, 25), (90, 21)] [108] (pf hc1 23 (hc1.1 90 23 + iI 1)) h' := hs'
            refine dead2 (q + 1) (q + 1) (k + 1) (wa h' 107 k (-(0 : Int32))) _ _ _ hr2.symm ((Sm.t (Sm.mo hs2 (by decide) (by decide)) (hsa.mo (by decide) (by decide))).t (Sm.wa _ _ (by decide))) ?_ ?_ (by omega) ?_ ⟨hF.1, hF.2.sm (Sm.wa (X := []) (Y := [107]) _ _ (by decide)) (by decide) (by decide)⟩ (iI_1 e4) (by omega)
            · exact (hR2.1.sm hsa (by decide) (by decide)).sm (Sm.wa (X := []) (Y := [107]) _ _ (by decide)) (by decide) (by decide)
            · exact (hsa.1 _ _ (by decide)).trans hR2.2.1
            · exact (hsa.1 _ _ (by decide)).trans hR2.2.2.2.1
          · refine w_ix k ?_ e4 (show k < 3 by omega)
            rw [if_neg hz] at hr2
            have hnd := nd_b (chr n T) (q + 1)
            refine ih (k + 1) (q + 1 + nd (chr n T) (q + 1)) _ (wa h' 107 k (-iI (nv (chr n T) (q + 1)))) _ _ _ (by omega) hr2 ((hs2.t (hs'.mo (by decide) (by decide))).t (Sm.wa _ _ (by decide))) (hR'.sm (Sm.wa (Y := [107]) _ _ (by decide)) (by decide)) (by omega) (fun j hj => ?_) ?_ (iI_1 e4)
            · by_cases hjk : j = k
              · subst hjk
                rw [wa_s, u1_s]
                exact (iI_neg _).trans (congrArg iI (by rw [if_pos (of_ite1 hbe)]))
              · rw [wa_n _ _ _ _ hjk, u1_n _ _ hjk, hs'.2 _ (by decide)]
                exact hn1 j (by omega)
            · obtain ⟨s1, s2, s3, s4, s5, s6⟩ := hsa1
              exact ⟨(wa_o _ _ _ _ (by decide)).trans ((hs'.2 _ (by decide)).trans s1), (wa_o _ _ _ _ (by decide)).trans ((hs'.2 _ (by decide)).trans s2), (wa_o _ _ _ _ (by decide)).trans ((hs'.2 _ (by decide)).trans s3), (wa_o _ _ _ _ (by decide)).trans ((hs'.2 _ (by decide)).trans s4), (wa_o _ _ _ _ (by decide)).trans ((hs'.2 _ (by decide)).trans s5), (wa_o _ _ _ _ (by decide)).trans ((hs'.2 _ (by decide)).trans s6)⟩
      -- from the place of the number on
      have at81 : ∀ (q : Nat) (hc1 : St) (L5 L6 : Option Value), q = (if 0 < k then p + 1 else p) → ¬ (0 < k ∧ chr n T p ≠ 44) → SmD h hc1 → RdS n T q d c hc1 → (∀ j, j < k → hc1.2 107 j = iI (a j)) → (hc1.2 99 = h.2 99 ∧ hc1.2 100 = h.2 100 ∧ hc1.2 101 = h.2 101 ∧ hc1.2 102 = h.2 102 ∧ hc1.2 103 = h.2 103 ∧ hc1.2 104 = h.2 104) → SR y_M_readAct 81 [some (.ref 90), some (.int (h.1 90 23)), some (.int (iI (T i))), some (.int (iI m)), some (.int z4), L5, L6] [] hc1 Q := by
        intro q hc1 L5 L6 hq hsep hs1 hR1 hn1 hsa1
        have hqp : q ≤ p + 1 := by rw [hq]; split <;> omega
        have hb := mat_b hB q
        refine w_loop IS_ok [117] ok_M_readAct ?_
        refine w_eq (T i) 109 (fun g1 => ?_) (fun g1 => ?_) rfl rfl
        · refine w_le k 0 (fun g2 => ?_) (fun g2 => ?_) e4 rfl
          · exact al q 0 hc1 _ _ hq (Or.inl rfl) (by rw [if_neg (by omega)]) hsep hs1 hR1 hn1 hsa1
          · refine w_if (fun z => absurd (show (1 : Int32) = 0 by rw [← hR1.2.2.2.2]; exact z) (by decide)) (fun _ => ?_)
            refine c_M_at hR1.1 hB q (by omega) ?_ hR1.2.1
            refine w_eq (if q < n then (T q : Int) else -1) 45 (fun g3 => ?_) (fun g3 => ?_) rfl rfl
            · exact al q 1 hc1 _ _ hq (Or.inr rfl) (by rw [if_pos ⟨by omega, by omega, (mat_c (n := n) (T := T) (i := q) (k := 45) (by omega)).mp g3⟩]) hsep hs1 hR1 hn1 hsa1
            · exact al q 0 hc1 _ _ hq (Or.inl rfl) (by rw [if_neg (fun z => g3 ((mat_c (n := n) (T := T) (i := q) (k := 45) (by omega)).mpr z.2.2))]) hsep hs1 hR1 hn1 hsa1
        · exact al q 0 hc1 _ _ hq (Or.inl rfl) (by rw [if_neg (by omega)]) hsep hs1 hR1 hn1 hsa1
      -- behind a fault
      have d117 : ∀ (f q : Nat) (hc1 : St) (L5 L6 : Option Value), RES = .inl f → SmC h hc1 → MTx n T hc1 → hc1.1 90 23 = iI q → q < 390 → hc1.1 90 17 = iI c → Flt f d hc1 → SR y_M_readAct 117 [some (.ref 90), some (.int (h.1 90 23)), some (.int (iI (T i))), some (.int (iI m)), some (.int z4), L5, L6] [.int 0] hc1 Q := by
        intro f q hc1 L5 L6 hre hs1 hT1 g23 hq g17 hF
        refine w_loop IS_ok [32] ok_M_readAct ?_
        refine w_if (fun _ => ?_) (fun z => absurd hF.1 z)
        refine w_ix k ?_ e4 (show k < 3 by omega)
        have hs2 : Sm [(90, 23)] [107] hc1 (wa (pf hc1 23 (hc1.1 90 23 + 0)) 107 k 0) := (Sm.pf _ (by decide)).t (Sm.wa _ _ (by decide))
        refine dead2 f q (k + 1) (wa (pf hc1 23 (hc1.1 90 23 + 0)) 107 k 0) _ _ _ hre (hs1.t (hs2.mo (by decide) (by decide))) (hT1.sm hs2 (by decide) (by decide)) ?_ (by omega) ?_ ⟨?_, hF.2.sm hs2 (by decide) (by decide)⟩ (iI_1 e4) (by omega)
        · exact (pf_s hc1 23 (hc1.1 90 23 + 0)).trans (by rw [g23]; exact (iI_add q 0).trans (congrArg iI (by omega)))
        · rw [hs2.1 _ _ (by decide)]; exact g17
        · rw [hs2.1 _ _ (by decide)]; exact hF.1
      have d81 : ∀ (f q : Nat) (hc1 : St) (L5 L6 : Option Value), RES = .inl f → SmC h hc1 → MTx n T hc1 → hc1.1 90 23 = iI q → q < 390 → hc1.1 90 17 = iI c → Flt f d hc1 → SR y_M_readAct 81 [some (.ref 90), some (.int (h.1 90 23)), some (.int (iI (T i))), some (.int (iI m)), some (.int z4), L5, L6] [] hc1 Q := by
        intro f q hc1 L5 L6 hre hs1 hT1 g23 hq g17 hF
        refine w_loop IS_ok [117] ok_M_readAct ?_
        refine w_eq (T i) 109 (fun g1 => ?_) (fun g1 => d117 f q hc1 _ _ hre hs1 hT1 g23 hq g17 hF) rfl rfl
        refine w_le k 0 (fun g2 => d117 f q hc1 _ _ hre hs1 hT1 g23 hq g17 hF) (fun g2 => ?_) e4 rfl
        exact w_if (fun _ => d117 f q hc1 _ _ hre hs1 hT1 g23 hq g17 hF) (fun z => absurd hF.1 z)
      refine w_loop IS_ok [81, 181] ok_M_readAct ?_
      refine w_le m k (fun _ => by omega) (fun _ => ?_) rfl e4
      obtain ⟨hTc, g23, g24, g17, g25⟩ := id hRc
      refine w_if (fun z => absurd (show (1 : Int32) = 0 by rw [← g25]; exact z) (by decide)) (fun _ => ?_)
      refine w_le k 0 (fun g => at81 p hcc _ _ (by rw [if_neg (by omega)]) (by omega) hsm hRc hnum hsame) (fun g => ?_) e4 rfl
      have hb := mat_b hB p
      refine c_M_at hTc hB p (by omega) ?_ g23
      refine w_eq (if p < n then (T p : Int) else -1) 44 (fun g2 => ?_) (fun g2 => ?_) rfl rfl
      · have hch : chr n T p = 44 := (mat_c (n := n) (T := T) (i := p) (k := 44) (by omega)).mp g2
        have hRp := hRc.nx (x := hcc.1 90 23 + 1) (j := p + 1) (by rw [g23]; exact iI_1 rfl)
        exact at81 (p + 1) (pf hcc 23 (hcc.1 90 23 + 1)) _ _ (by rw [if_pos (by omega)]) (fun z => z.2 hch) (hsm.t (Sm.pf _ (by decide))) hRp hnum hsame
      · have hch : ¬ chr n T p = 44 := fun z => g2 ((mat_c (n := n) (T := T) (i := p) (k := 44) (by omega)).mpr z)
        refine c_M_wrong p d g24 g25 (fun h' hs' hF => ?_) g23
        have hs2 : Sm [(90, 25), (90, 21), (90, 23)] [108] hcc (pf h' 23 (h'.1 90 23 + 1)) := (Sm.mo hs' (by decide) (by decide)).t (Sm.pf _ (by decide))
        have e23 : h'.1 90 23 = iI p := (hs'.1 _ _ (by decide)).trans g23
        refine d81 p (p + 1) (pf h' 23 (h'.1 90 23 + 1)) _ _ ?_ (Sm.t (Sm.mo hsm (by decide) (by decide)) (hs2.mo (by decide) (by decide))) (hTc.sm hs2 (by decide) (by decide)) ?_ (by omega) ?_ ⟨?_, hF.2.sm (Sm.pf (X := [(90, 23)]) (Y := []) _ (by decide)) (by decide) (by decide)⟩
        · rw [← hr]; unfold rdA; rw [if_pos ⟨by omega, hch⟩]
        · rw [pf_s, e23]; exact iI_1 rfl
        · rw [hs2.1 _ _ (by decide)]; exact g17
        · rw [pf_n _ _ _ (by decide)]; exact hF.1
  have hR0 := hR.nx (x := h.1 90 23 + 1) (j := i + 1) (by rw [h23]; exact iI_1 rfl)
  exact loop m 0 (i + 1) a0 (pf h 23 (h.1 90 23 + 1)) _ _ _ (by omega) hres (Sm.pf _ (by decide)) hR0 (by omega) (fun j hj => by omega) ⟨rfl, rfl, rfl, rfl, rfl, rfl⟩ rfl
end
section
/-! a play, item by item -/
/-- an item: a fault (its place), an act (the place behind it, its numbers), what opens a group (the place of the bracket, the times), what closes one -/
abbrev Itm : Type := Nat ⊕ ((Nat × (Nat → Int)) ⊕ ((Nat × Nat) ⊕ Unit))
abbrev iBad (f : Nat) : Itm := .inl f
abbrev iAct (p : Nat) (a : Nat → Int) : Itm := .inr (.inl (p, a))
abbrev iOpn (q t : Nat) : Itm := .inr (.inr (.inl (q, t)))
abbrev iCls : Itm := .inr (.inr (.inr ()))
/-- an act: its place, its depth, its numbers -/
abbrev Ent : Type := Nat × Nat × (Nat → Int)
abbrev Cod : Type := Ent ⊕ (Nat ⊕ Nat)
abbrev cAct (e : Ent) : Cod := .inl e
abbrev cOpn (t : Nat) : Cod := .inr (.inl t)
abbrev cCls (o : Nat) : Cod := .inr (.inr o)
/-- what opens a group at i: where its bracket ought to stand, and how often it is run -/
def gq (ch : Nat → Nat) (i : Nat) : Nat := if isDb (ch i) = true then i + nd ch i else i
def gt (ch : Nat → Nat) (i : Nat) : Nat := if isDb (ch i) = true then nv ch i else 1
def grp (ch : Nat → Nat) (d i : Nat) : Itm :=
  if isDb (ch i) = true ∧ isDb (ch (gq ch i)) = true then iBad (gq ch i)
  else if isDb (ch i) = true ∧ ¬ (1 ≤ gt ch i ∧ gt ch i ≤ 9) then iBad i
  else if ch (gq ch i) ≠ 40 ∨ d = 4 then iBad (gq ch i)
  else iOpn (gq ch i) (gt ch i)
def item (ch : Nat → Nat) (d i : Nat) : Itm :=
  if ch i = 41 ∧ 0 < d then iCls
  else if ch i = 40 ∨ isDb (ch i) = true then grp ch d i
  else if nArg (ch i) = 99 then iBad i
  else match rdA ch (ch i) (nArg (ch i)) 0 (i + 1) (fun _ => 0) with
    | .inl f => iBad f
    | .inr (p, a) => iAct p a
def CdR (T : Nat → Nat) (h : St) (j : Nat) : Cod → Prop
  | .inl e => h.2 99 j = 0 ∧ h.2 100 j = iI e.1 ∧ h.2 101 j = iI e.2.1 ∧ (0 < nArg (T e.1) → h.2 102 j = iI (e.2.2 0)) ∧ (1 < nArg (T e.1) → h.2 103 j = iI (e.2.2 1)) ∧ (2 < nArg (T e.1) → h.2 104 j = iI (e.2.2 2))
  | .inr (.inl t) => h.2 99 j = 1 ∧ h.2 102 j = iI t
  | .inr (.inr o) => h.2 99 j = 2 ∧ h.2 102 j = iI o
def Kp (c : Nat) (h h' : St) : Prop := ∀ a, 99 ≤ a → a ≤ 104 → ∀ j, j ≠ c → h'.2 a j = h.2 a j
theorem kp_of {c : Nat} {h h' : St} {x0 x1 x2 x3 x4 x5 : Int32} (e0 : h'.2 99 = u1 (h.2 99) c x0) (e1 : h'.2 100 = u1 (h.2 100) c x1) (e2 : h'.2 101 = u1 (h.2 101) c x2) (e3 : h'.2 102 = u1 (h.2 102) c x3) (e4 : h'.2 103 = u1 (h.2 103) c x4) (e5 : h'.2 104 = u1 (h.2 104) c x5) : Kp c h h' := by
  intro a h1 h2 j hj
  rcases (show a = 99 ∨ a = 100 ∨ a = 101 ∨ a = 102 ∨ a = 103 ∨ a = 104 by omega) with rfl | rfl | rfl | rfl | rfl | rfl
  · rw [e0, u1_n _ _ hj]
  · rw [e1, u1_n _ _ hj]
  · rw [e2, u1_n _ _ hj]
  · rw [e3, u1_n _ _ hj]
  · rw [e4, u1_n _ _ hj]
  · rw [e5, u1_n _ _ hj]
set_option maxHeartbeats 4000000 in
theorem c_M_readGroup {n : Nat} {T : Nat → Nat} {h : St} {Q : Option Value → St → Prop} (hB : TxB n T) (i d c : Nat) (hR : RdS n T i d c h) (hi : i < n) (hc : c < 100) (hd : d ≤ 4)
    (hQF : ∀ f h', grp (chr n T) d i = iBad f → SmR h h' → Flt f d h' → Q none h')
    (hQ1 : ∀ q t h', grp (chr n T) d i = iOpn q t → d < 4 → SmS h h' → RdS n T (q + 1) (d + 1) (c + 1) h' → Kp c h h' → CdR T h' c (cOpn t) → h'.2 105 = u1 (h.2 105) d (iI c) → Q none h') : SC y_M_readGroup [.ref 90] h Q := by
  refine w_call IS_ok [49] ok_M_readGroup rfl rfl ?_
  have hn100 := hB.1
  obtain ⟨hT, h23, h24, h17, h25⟩ := id hR
  -- behind a fault
  have dead : ∀ (f p : Nat) (hcc : St) (L1 L2 : Option Value), grp (chr n T) d i = iBad f → SmR h hcc → MTx n T hcc → hcc.1 90 23 = iI p → p < 400 → hcc.1 90 24 = iI d → Flt f d hcc → SR y_M_readGroup 49 [some (.ref 90), L1, L2] [] hcc Q := by
    intro f p hcc L1 L2 hr hsm hTc g23 hp g24 hF
    refine w_loop IS_ok [78] ok_M_readGroup ?_
    have fin : SR y_M_readGroup 78 [some (.ref 90), L1, L2] [] hcc Q := by
      refine w_loop IS_ok [] ok_M_readGroup ?_
      exact w_if (fun _ => hQF f hcc hr hsm hF) (fun g => absurd hF.1 g)
    have hb := mat_b hB p
    refine c_M_at hTc hB p (by omega) ?_ g23
    refine w_eq (if p < n then (T p : Int) else -1) 40 (fun _ => ?_) (fun _ => c_M_wrong0 hF.1 fin) rfl rfl
    refine w_eq d 4 (fun _ => c_M_wrong0 hF.1 fin) (fun _ => fin) g24 rfl
  -- in good order
  have al : ∀ (hcc : St) (L1 : Option Value) (z2 : Int32), ¬ (isDb (chr n T i) = true ∧ isDb (chr n T (gq (chr n T) i)) = true) → ¬ (isDb (chr n T i) = true ∧ ¬ (1 ≤ gt (chr n T) i ∧ gt (chr n T) i ≤ 9)) → SmS h hcc → RdS n T (gq (chr n T) i) d c hcc → hcc.2 = h.2 → z2 = iI (gt (chr n T) i) → SR y_M_readGroup 49 [some (.ref 90), L1, some (.int z2)] [] hcc Q := by
    intro hcc L1 z2 hn1 hn2 hsm hRc hrow e2
    obtain ⟨hTc, g23, g24, g17, g25⟩ := id hRc
    have hgq : gq (chr n T) i ≤ i + 3 := by unfold gq; have := (nd_b (chr n T) i).1; split <;> omega
    generalize hq : gq (chr n T) i = q at *
    have hgr : grp (chr n T) d i = if chr n T q ≠ 40 ∨ d = 4 then iBad q else iOpn q (gt (chr n T) i) := by
      unfold grp
      rw [hq, if_neg hn1, if_neg hn2]
    have bad : (chr n T q ≠ 40 ∨ d = 4) → SR y_M_readGroup 70 [some (.ref 90), L1, some (.int z2)] [] hcc Q := by
      intro g
      rw [if_pos g] at hgr
      refine w_loop IS_ok [78] ok_M_readGroup ?_
      refine c_M_wrong q d g24 g25 (fun h' hs' hF => ?_) g23
      refine w_loop IS_ok [] ok_M_readGroup ?_
      exact w_if (fun _ => hQF q h' hgr (Sm.t (Sm.mo hsm (by decide) (by decide)) (hs'.mo (by decide) (by decide))) hF) (fun g => absurd hF.1 g)
    refine w_loop IS_ok [70, 78] ok_M_readGroup ?_
    have hb := mat_b hB q
    refine c_M_at hTc hB q (by omega) ?_ g23
    refine w_eq (if q < n then (T q : Int) else -1) 40 (fun g => ?_) (fun g => bad (Or.inl fun z => g ((mat_c (n := n) (T := T) (i := q) (k := 40) (by omega)).mpr z))) rfl rfl
    have hch : chr n T q = 40 := (mat_c (n := n) (T := T) (i := q) (k := 40) (by omega)).mp g
    refine w_eq d 4 (fun g2 => bad (Or.inr (by omega))) (fun g2 => ?_) g24 rfl
    rw [if_neg (by omega)] at hgr
    refine w_loop IS_ok [] ok_M_readGroup ?_
    refine w_if (fun z => absurd (show (1 : Int32) = 0 by rw [← g25]; exact z) (by decide)) (fun _ => ?_)
    refine w_ix d ?_ g24 (show d < 5 by omega)
    have hs1 : Sm [] [105] hcc (wa hcc 105 d (hcc.1 90 17)) := Sm.wa _ _ (by decide)
    have hR1 : RdS n T q d c (wa hcc 105 d (hcc.1 90 17)) := hRc.sm hs1 (by decide)
    refine c_M_code c hc (h := wa hcc 105 d (hcc.1 90 17)) hR1.2.2.2.1 (fun h' hs' k17 k99 k100 k101 k102 k103 k104 => ?_)
    refine hQ1 q (gt (chr n T) i) (pf (pf h' 24 (h'.1 90 24 + 1)) 23 (h'.1 90 23 + 1)) hgr (by omega) ?_ ?_ ?_ ?_ ?_
    · exact (hsm.t ((hs1.mo (by decide) (by decide)).t (hs'.mo (by decide) (by decide)))).t ((Sm.pf _ (by decide)).t (Sm.pf _ (by decide)))
    · refine ⟨(hR1.1.sm hs' (by decide) (by decide)).sm ((Sm.pf (X := [(90, 24), (90, 23)]) (Y := []) _ (by decide)).t (Sm.pf _ (by decide))) (by decide) (by decide), ?_, ?_, ?_, ?_⟩
      · rw [pf_s, hs'.1 _ _ (by decide)]; exact iI_1 hR1.2.1
      · rw [pf_n _ _ _ (by decide), pf_s, hs'.1 _ _ (by decide)]; exact iI_1 hR1.2.2.1
      · rw [pf_n _ _ _ (by decide), pf_n _ _ _ (by decide)]; exact k17
      · rw [pf_n _ _ _ (by decide), pf_n _ _ _ (by decide), hs'.1 _ _ (by decide)]; exact hR1.2.2.2.2
    · have e : ∀ a, a ≠ 105 → (wa hcc 105 d (hcc.1 90 17)).2 a = h.2 a := fun a ha => by rw [wa_o _ _ _ _ ha, hrow]
      rw [e _ (by decide)] at k99 k100 k101 k102 k103 k104
      exact kp_of k99 k100 k101 k102 k103 k104
    · refine ⟨?_, ?_⟩
      · show h'.2 99 c = 1
        rw [k99, u1_s]
      · show h'.2 102 c = _
        rw [k102, u1_s]
        exact e2
    · show h'.2 105 = _
      rw [hs'.2 _ (by decide), ← hrow, ← g17]
      show u1 hcc.2 105 (u1 (hcc.2 105) d (hcc.1 90 17)) 105 = _
      rw [u1_s]
  refine c_M_isDigit hT hB i (by omega) h23 ?_
  refine w_b (fun g => ?_) (fun g => ?_)
  · have hq : gq (chr n T) i = i := if_neg g
    have ht : gt (chr n T) i = 1 := if_neg g
    exact al h _ _ (fun z => g z.1) (fun z => g z.1) Sm.rf (by rw [hq]; exact hR) rfl (by rw [ht]; rfl)
  · have hg : isDb (chr n T i) = true := by simpa using g
    have hq : gq (chr n T) i = i + nd (chr n T) i := if_pos hg
    have ht : gt (chr n T) i = nv (chr n T) i := if_pos hg
    have hnd := nd_b (chr n T) i
    refine c_M_number hB i d c hR (by omega) (fun h' hz hs' hF => ?_) (fun h' hz hs' hR' => ?_)
    · rw [hnd.2.2.mp hz] at hg
      cases hg
    · rw [← ht]
      rw [← hq] at hR'
      have hqb : gq (chr n T) i < 200 := by omega
      generalize hqq : gq (chr n T) i = q at *
      obtain ⟨hTc, g23, g24, g17, g25⟩ := id hR'
      refine c_M_isDigit hTc hB q (by omega) g23 ?_
      have hgt : 0 ≤ (gt (chr n T) i : Int) ∧ (gt (chr n T) i : Int) < 1000 := by rw [ht]; omega
      have hs0 : SmS h h' := hs'.mo (by decide) (by decide)
      refine w_b (fun g2 => ?_) (fun g2 => ?_)
      · refine c_M_in (gt (chr n T) i) 1 9 ?_ rfl rfl rfl (by omega) (by omega) (by omega)
        refine w_b (fun g3 => ?_) (fun g3 => ?_)
        · refine c_M_wrong i d g24 g25 (fun h2 hs2 hF => ?_) h23
          refine dead i q h2 _ _ ?_ (Sm.t (Sm.mo hs0 (by decide) (by decide)) (hs2.mo (by decide) (by decide))) (hTc.sm hs2 (by decide) (by decide)) ?_ (by omega) ?_ hF
          · unfold grp
            rw [hqq, if_neg (fun z => g2 z.2), if_pos ⟨hg, fun z => g3 (by omega)⟩]
          · rw [hs2.1 _ _ (by decide)]; exact g23
          · rw [hs2.1 _ _ (by decide)]; exact g24
        · exact al h' _ _ (fun z => g2 z.2) (fun z => z.2 (by omega)) hs0 hR' (funext fun a => hs'.2 a (by simp)) rfl
      · refine c_M_wrong q d g24 g25 (fun h2 hs2 hF => ?_) g23
        have hd : ∀ L1 L2 : Option Value, SR y_M_readGroup 49 [some (.ref 90), L1, L2] [] h2 Q := by
          intro L1 L2
          refine dead q q h2 _ _ ?_ (Sm.t (Sm.mo hs0 (by decide) (by decide)) (hs2.mo (by decide) (by decide))) (hTc.sm hs2 (by decide) (by decide)) ?_ (by omega) ?_ hF
          · unfold grp
            rw [hqq, if_pos ⟨hg, by simpa using g2⟩]
          · rw [hs2.1 _ _ (by decide)]; exact g23
          · rw [hs2.1 _ _ (by decide)]; exact g24
        refine c_M_in (gt (chr n T) i) 1 9 ?_ rfl rfl rfl (by omega) (by omega) (by omega)
        refine w_b (fun g3 => ?_) (fun g3 => hd _ _)
        exact c_M_wrong0 hF.1 (hd _ _)
theorem iI_q {x : Int32} {k : Nat} (h : x = iI k) (hk : 0 < k) : x - 1 = iI ((k - 1 : Nat) : Int) := by
  rw [h]
  exact (iI_sub k 1).trans (congrArg iI (by omega))
set_option maxHeartbeats 4000000 in
theorem c_M_readOne {n : Nat} {T : Nat → Nat} {h : St} {Q : Option Value → St → Prop} (hB : TxB n T) (i d c : Nat) (hR : RdS n T i d c h) (hi : i < n) (hc : c < 100) (hd : d ≤ 4)
    (hQF : ∀ f h', item (chr n T) d i = iBad f → SmR h h' → Flt f d h' → Q none h')
    (hQA : ∀ p a h', item (chr n T) d i = iAct p a → SmS h h' → RdS n T p d (c + 1) h' → Kp c h h' → CdR T h' c (cAct (i, d + 1, a)) → h'.2 105 = h.2 105 → Q none h')
    (hQO : ∀ q t h', item (chr n T) d i = iOpn q t → d < 4 → SmS h h' → RdS n T (q + 1) (d + 1) (c + 1) h' → Kp c h h' → CdR T h' c (cOpn t) → h'.2 105 = u1 (h.2 105) d (iI c) → Q none h')
    (hQC : ∀ h', item (chr n T) d i = iCls → 0 < d → SmS h h' → RdS n T (i + 1) (d - 1) (c + 1) h' → Kp c h h' → (∀ o : Nat, h.2 105 (d - 1) = iI o → CdR T h' c (cCls o)) → h'.2 105 = h.2 105 → Q none h') : SC y_M_readOne [.ref 90] h Q := by
  refine w_call IS_ok [65, 105] ok_M_readOne rfl rfl ?_
  have hn100 := hB.1
  obtain ⟨hT, h23, h24, h17, h25⟩ := id hR
  have hb := mat_b hB i
  have hch : chr n T i = T i := if_pos hi
  have hTi := hB.2 i hi
  refine c_M_at hT hB i (by omega) ?_ h23
  rw [if_pos hi]
  have els : ¬ (chr n T i = 41 ∧ 0 < d) → SR y_M_readOne 65 [some (.ref 90), some (.int (iI (T i)))] [] h Q := by
    intro hn
    have hin : isDb (chr n T i) = true ↔ (48 ≤ (T i : Int) ∧ (T i : Int) ≤ 57) := by
      rw [hch]
      simp only [isDb, decide_eq_true_eq]
      omega
    have at82 : (chr n T i = 40 ∨ isDb (chr n T i) = true) → SR y_M_readOne 82 [some (.ref 90), some (.int (iI (T i)))] [] h Q := by
      intro hg
      have hit : item (chr n T) d i = grp (chr n T) d i := by unfold item; rw [if_neg hn, if_pos hg]
      refine w_loop IS_ok [] ok_M_readOne ?_
      exact c_M_readGroup hB i d c hR hi hc hd (fun f h' e => hQF f h' (hit.trans e)) (fun q t h' e => hQO q t h' (hit.trans e))
    have at89 : ¬ (chr n T i = 40 ∨ isDb (chr n T i) = true) → SR y_M_readOne 89 [some (.ref 90), some (.int (iI (T i)))] [] h Q := by
      intro hg
      have hit : item (chr n T) d i = if nArg (T i) = 99 then iBad i else match rdA (chr n T) (T i) (nArg (T i)) 0 (i + 1) (fun _ => 0) with
          | .inl f => iBad f
          | .inr (p, a) => iAct p a := by
        unfold item
        rw [if_neg hn, if_neg hg, hch]
      refine w_loop IS_ok [] ok_M_readOne ?_
      refine c_M_numbersOf (T i : Int) (by omega) ?_ rfl
      rw [Int.toNat_natCast]
      have hnb : nArg (T i) ≤ 3 ∨ nArg (T i) = 99 := by unfold nArg; split <;> (try split) <;> (try split) <;> (try split) <;> omega
      refine w_eq (if nArg (T i) = 99 then -109 else (nArg (T i) : Int)) (-109) (fun g => ?_) (fun g => ?_) rfl rfl (by split <;> omega)
      · have g9 : nArg (T i) = 99 := by
          apply Classical.byContradiction
          intro z
          rw [if_neg z] at g
          omega
        rw [if_pos g9] at hit
        exact c_M_wrong i d h24 h25 (fun h' hs' hF => hQF i h' hit (hs'.mo (by decide) (by decide)) hF) h23
      · have g9 : ¬ nArg (T i) = 99 := fun z => g (by rw [if_pos z])
        rw [if_neg g9] at hit
        refine c_M_readAct hB i d c hR hi hc (by omega) hd (fun _ => 0) (fun f h' e hs' hF => ?_) (fun p a h' e hs' hR' hC => ?_)
        · rw [e] at hit
          exact hQF f h' hit (hs'.mo (by decide) (by decide)) hF
        · rw [e] at hit
          obtain ⟨e0, e1, e2, w0, w1, w2, e3, e4, e5, a0, a1, a2⟩ := hC
          refine hQA p a h' hit (hs'.mo (by decide) (by decide)) hR' (kp_of e0 e1 e2 e3 e4 e5) ⟨?_, ?_, ?_, ?_, ?_, ?_⟩ (hs'.2 _ (by decide))
          · rw [e0, u1_s]
          · rw [e1, u1_s]
          · rw [e2, u1_s]
          · rw [e3, u1_s]; exact a0
          · rw [e4, u1_s]; exact a1
          · rw [e5, u1_s]; exact a2
    refine w_loop IS_ok [82, 89] ok_M_readOne ?_
    refine w_eq (T i) 40 (fun g => at82 (Or.inl (by omega))) (fun g => ?_) rfl rfl
    refine c_M_in (T i) 48 57 ?_ rfl rfl rfl (by omega) (by omega) (by omega)
    refine w_b (fun g2 => at89 ?_) (fun g2 => at82 (Or.inr (hin.mpr g2)))
    rintro (z | z)
    · omega
    · exact g2 (hin.mp z)
  refine w_eq (T i) 41 (fun g => ?_) (fun g => els (by omega)) rfl rfl
  refine w_le d 0 (fun g2 => els (by omega)) (fun g2 => ?_) h24 rfl
  have hit : item (chr n T) d i = iCls := by unfold item; rw [if_pos ⟨by omega, by omega⟩]
  have e24 : h.1 90 24 - 1 = iI ((d - 1 : Nat) : Int) := iI_q h24 (by omega)
  refine w_ix (d - 1) ?_ ((pf_s h 24 (h.1 90 24 - 1)).trans e24) (show d - 1 < 5 by omega)
  have hT1 : MTx n T (pf h 24 (h.1 90 24 - 1)) := hT.sm (Sm.pf (X := [(90, 24)]) (Y := []) _ (by decide)) (by decide) (by decide)
  refine c_M_code c hc (h := pf h 24 (h.1 90 24 - 1)) ((pf_n _ _ _ (by decide)).trans h17) (fun h' hs' k17 k99 k100 k101 k102 k103 k104 => ?_)
  refine hQC (pf h' 23 (h'.1 90 23 + 1)) hit (by omega) ?_ ⟨?_, ?_, ?_, ?_, ?_⟩ (kp_of k99 k100 k101 k102 k103 k104) (fun o ho => ⟨?_, ?_⟩) (hs'.2 _ (by decide))
  · exact ((Sm.pf _ (by decide)).t (hs'.mo (by decide) (by decide))).t (Sm.pf _ (by decide))
  · exact (hT1.sm hs' (by decide) (by decide)).sm (Sm.pf (X := [(90, 23)]) (Y := []) _ (by decide)) (by decide) (by decide)
  · rw [pf_s, hs'.1 _ _ (by decide), pf_n _ _ _ (by decide)]; exact iI_1 h23
  · rw [pf_n _ _ _ (by decide), hs'.1 _ _ (by decide), pf_s]; exact e24
  · rw [pf_n _ _ _ (by decide)]; exact k17
  · rw [pf_n _ _ _ (by decide), hs'.1 _ _ (by decide), pf_n _ _ _ (by decide)]; exact h25
  · show h'.2 99 c = 2
    rw [k99, u1_s]
  · show h'.2 102 c = _
    rw [k102, u1_s]
    exact ho
end
section
/-! a play, read -/
theorem rdA_b (ch : Nat → Nat) (lt : Nat) : ∀ (r k p : Nat) (a : Nat → Int) (p' : Nat) (a' : Nat → Int), rdA ch lt r k p a = .inr (p', a') → (∀ j, j < k → -1000 < a j ∧ a j < 1000) → p < p' ∧ (∃ q, ch q = 59 ∧ p' = q + 1) ∧ ∀ j, j < k + r → -1000 < a' j ∧ a' j < 1000 := by
  intro r
  induction r with
  | zero =>
    intro k p a p' a' h ha
    unfold rdA at h
    split at h
    · next g =>
      cases h
      exact ⟨by omega, ⟨p, g, rfl⟩, fun j hj => ha j hj⟩
    · cases h
  | succ r ih =>
    intro k p a p' a' h ha
    unfold rdA at h
    split at h
    · cases h
    · have hq : p ≤ (if 0 < k then p + 1 else p) := by split <;> omega
      generalize (if 0 < k then p + 1 else p) = q at *
      generalize (if lt = 109 ∧ 0 < k ∧ ch q = 45 then 1 else 0 : Nat) = b at *
      have hnd := nd_b ch (q + b)
      split at h
      · cases h
      · have := ih (k + 1) _ _ p' a' h (fun j hj => by
          by_cases hjk : j = k
          · subst hjk
            rw [u1_s]
            split <;> omega
          · rw [u1_n _ _ hjk]
            exact ha j (by omega))
        exact ⟨by omega, this.2.1, fun j hj => this.2.2 j (by omega)⟩
/-- an act that can be run -/
def EntOk (n : Nat) (T : Nat → Nat) (e : Ent) : Prop := e.1 < n ∧ nArg (T e.1) ≤ 3 ∧ e.2.1 ≤ 5 ∧ ∀ j, j < nArg (T e.1) → -1000 < e.2.2 j ∧ e.2.2 j < 1000
theorem nArg_b (c : Nat) : nArg c ≤ 3 ∨ nArg c = 99 := by unfold nArg; split <;> (try split) <;> (try split) <;> (try split) <;> omega
theorem chr_lt {n : Nat} {T : Nat → Nat} {i : Nat} (h : chr n T i ≠ 0) : i < n := by
  apply Classical.byContradiction
  intro z
  exact h (if_neg z)
theorem item_act {n : Nat} {T : Nat → Nat} {d i p : Nat} {a : Nat → Int} (hi : i < n) (hd : d ≤ 4) (h : item (chr n T) d i = iAct p a) : i < p ∧ p ≤ n ∧ EntOk n T (i, d + 1, a) := by
  have hch : chr n T i = T i := if_pos hi
  unfold item grp at h
  split at h
  · cases h
  · split at h
    · split at h
      · cases h
      · split at h
        · cases h
        · split at h <;> cases h
    · split at h
      · cases h
      · next g =>
        split at h
        · cases h
        · next p' a' e =>
          cases h
          rw [hch] at e g
          have := rdA_b _ _ _ _ _ _ _ _ e (fun j hj => by omega)
          obtain ⟨h1, ⟨q, h2, h3⟩, h4⟩ := this
          have := chr_lt (n := n) (T := T) (i := q) (by omega)
          have := nArg_b (T i)
          exact ⟨by omega, by omega, hi, by show nArg (T i) ≤ 3; omega, by show d + 1 ≤ 5; omega, fun j hj => h4 j (by have : j < nArg (T i) := hj; omega)⟩
theorem item_opn {n : Nat} {T : Nat → Nat} {d i q t : Nat} (h : item (chr n T) d i = iOpn q t) : i ≤ q ∧ q < n ∧ 1 ≤ t ∧ t ≤ 9 ∧ d ≠ 4 := by
  unfold item at h
  split at h
  · cases h
  · split at h
    · unfold grp at h
      split at h
      · cases h
      · split at h
        · cases h
        · next g =>
          split at h
          · cases h
          · next g2 =>
            cases h
            have h1 : i ≤ gq (chr n T) i := by unfold gq; split <;> omega
            have h2 := chr_lt (n := n) (T := T) (i := gq (chr n T) i) (by omega)
            refine ⟨h1, h2, ?_, ?_, by omega⟩
            · by_cases z : isDb (chr n T i) = true
              · exact Classical.byContradiction fun y => g ⟨z, fun w => y w.1⟩
              · rw [show gt (chr n T) i = 1 from if_neg z]; omega
            · by_cases z : isDb (chr n T i) = true
              · exact Classical.byContradiction fun y => g ⟨z, fun w => y w.2⟩
              · rw [show gt (chr n T) i = 1 from if_neg z]; omega
    · split at h
      · cases h
      · split at h <;> cases h
theorem item_cls {ch : Nat → Nat} {d i : Nat} (h : item ch d i = iCls) : 0 < d := by
  unfold item at h
  split at h
  · next g => exact g.2
  · split at h
    · unfold grp at h
      split at h
      · cases h
      · split at h
        · cases h
        · split at h <;> cases h
    · split at h
      · cases h
      · split at h <;> cases h
/-- the text from i on, inside the groups stk, behind the acts cur: a fault (its place, how many groups are open), or the acts in the order in which they are run -/
def rd (ch : Nat → Nat) (n : Nat) : Nat → Nat → List (Nat × List Ent) → List Ent → (Nat × Nat) ⊕ List Ent
  | 0, _, stk, cur => if stk.length = 0 then .inr cur else .inl (n, stk.length)
  | f + 1, i, stk, cur =>
    if i < n then
      match item ch stk.length i with
      | .inl q => .inl (q, stk.length)
      | .inr (.inl (p, a)) => rd ch n f p stk (cur ++ [(i, stk.length + 1, a)])
      | .inr (.inr (.inl (q, t))) => rd ch n f (q + 1) ((t, cur) :: stk) []
      | .inr (.inr (.inr ())) =>
        match stk with
        | [] => .inl (i, 0)
        | (t, prev) :: rest => rd ch n f (i + 1) rest (prev ++ (List.replicate t cur).flatten)
    else if stk.length = 0 then .inr cur else .inl (n, stk.length)
def Seg (C : Nat → Cod) (lv i j : Nat) (l : List Ent) : Prop := ∀ P : Nat → Nat → Nat → List Ent → Prop,
  (∀ lv i, P lv i i []) →
  (∀ lv i j l e, P lv i j l → C j = cAct e → P lv i (j + 1) (l ++ [e])) →
  (∀ lv i o j l t b, P lv i o l → P (lv + 1) (o + 1) j b → C o = cOpn t → C j = cCls o → 1 ≤ t → t ≤ 9 → lv < 4 → P lv i (j + 1) (l ++ (List.replicate t b).flatten)) → P lv i j l
theorem Seg.nil {C : Nat → Cod} {lv i : Nat} : Seg C lv i i [] := fun _ h0 _ _ => h0 lv i
theorem Seg.act {C : Nat → Cod} {lv i j : Nat} {l : List Ent} {e : Ent} (a : Seg C lv i j l) (h : C j = cAct e) : Seg C lv i (j + 1) (l ++ [e]) := fun P h0 h1 h2 => h1 _ _ _ _ _ (a P h0 h1 h2) h
theorem Seg.grp {C : Nat → Cod} {lv i o j t : Nat} {l b : List Ent} (a : Seg C lv i o l) (c : Seg C (lv + 1) (o + 1) j b) (h : C o = cOpn t) (k : C j = cCls o) (t1 : 1 ≤ t) (t9 : t ≤ 9) (hl : lv < 4) : Seg C lv i (j + 1) (l ++ (List.replicate t b).flatten) := fun P h0 h1 h2 => h2 _ _ _ _ _ _ _ (a P h0 h1 h2) (c P h0 h1 h2) h k t1 t9 hl
theorem Seg.mono {C : Nat → Cod} {lv i j : Nat} {l : List Ent} (a : Seg C lv i j l) : i ≤ j ∧ ∀ C' : Nat → Cod, (∀ q, q < j → C' q = C q) → Seg C' lv i j l := by
  refine a (fun lv i j l => i ≤ j ∧ ∀ C' : Nat → Cod, (∀ q, q < j → C' q = C q) → Seg C' lv i j l) (fun lv i => ⟨Nat.le_refl _, fun _ _ => Seg.nil⟩) (fun lv i j l e ih h => ⟨by omega, fun C' hC => ?_⟩) (fun lv i o j l t b ih1 ih2 h k t1 t9 hl => ⟨by omega, fun C' hC => ?_⟩)
  · exact (ih.2 C' (fun q hq => hC q (by omega))).act ((hC j (by omega)).trans h)
  · exact (ih1.2 C' (fun q hq => hC q (by omega))).grp (ih2.2 C' (fun q hq => hC q (by omega))) ((hC o (by omega)).trans h) ((hC j (by omega)).trans k) t1 t9 hl
/-- the groups that are open -/
def Stk (C : Nat → Cod) (oa : Nat → Int32) : List (Nat × List Ent) → Nat → Prop
  | [], s => s = 0
  | (t, prev) :: rest, s => ∃ o s', s = o + 1 ∧ C o = cOpn t ∧ 1 ≤ t ∧ t ≤ 9 ∧ rest.length < 4 ∧ oa rest.length = iI (o : Nat) ∧ Seg C rest.length s' o prev ∧ Stk C oa rest s'
theorem Stk.mo {C C' : Nat → Cod} {oa oa' : Nat → Int32} : ∀ {stk : List (Nat × List Ent)} {s : Nat}, Stk C oa stk s → (∀ q, q < s → C' q = C q) → (∀ q, q < stk.length → oa' q = oa q) → Stk C' oa' stk s
  | [], s, h, _, _ => h
  | (t, prev) :: rest, s, h, hC, ho => by
    obtain ⟨o, s', h1, h2, h3, h4, h5, h6, h7, h8⟩ := h
    have hm := h7.mono
    refine ⟨o, s', h1, (hC o (by omega)).trans h2, h3, h4, h5, ?_, hm.2 C' (fun q hq => hC q (by omega)), h8.mo (fun q hq => hC q (by omega)) (fun q hq => ho q ?_)⟩
    · rw [ho _ (by simp)]; exact h6
    · rw [List.length_cons]; omega
theorem CdR.kp {T : Nat → Nat} {h h' : St} {c j : Nat} (k : Kp c h h') (hj : j ≠ c) {x : Cod} (a : CdR T h j x) : CdR T h' j x := by
  unfold CdR at a ⊢
  split
  · obtain ⟨a1, a2, a3, a4, a5, a6⟩ := a
    exact ⟨by rw [k 99 (by omega) (by omega) j hj]; exact a1, by rw [k 100 (by omega) (by omega) j hj]; exact a2, by rw [k 101 (by omega) (by omega) j hj]; exact a3, by rw [k 102 (by omega) (by omega) j hj]; exact a4, by rw [k 103 (by omega) (by omega) j hj]; exact a5, by rw [k 104 (by omega) (by omega) j hj]; exact a6⟩
  · exact ⟨by rw [k 99 (by omega) (by omega) j hj]; exact a.1, by rw [k 102 (by omega) (by omega) j hj]; exact a.2⟩
  · exact ⟨by rw [k 99 (by omega) (by omega) j hj]; exact a.1, by rw [k 102 (by omega) (by omega) j hj]; exact a.2⟩
theorem cdr_u {T : Nat → Nat} {h h' : St} {c : Nat} {C : Nat → Cod} {x : Cod} (k : Kp c h h') (a : ∀ j, j < c → CdR T h j (C j)) (b : CdR T h' c x) : ∀ j, j < c + 1 → CdR T h' j (u1 C c x j) := by
  intro j hj
  by_cases z : j = c
  · subst z; rw [u1_s]; exact b
  · rw [u1_n _ _ z]; exact (a j (by omega)).kp k z
set_option maxHeartbeats 4000000 in
theorem c_M_readPlay {n : Nat} {T : Nat → Nat} {h : St} {Q : Option Value → St → Prop} (hB : TxB n T) (hT : MTx n T h)
    (hQF : ∀ f d h', rd (chr n T) n n 0 [] [] = .inl (f, d) → SmR h h' → Flt f d h' → Q none h')
    (hQ1 : ∀ l C c h', rd (chr n T) n n 0 [] [] = .inr l → SmU h h' → c ≤ 100 → h'.1 90 17 = iI (c : Nat) → h'.1 90 25 = 1 → (∀ j, j < c → CdR T h' j (C j)) → Seg C 0 0 c l → (∀ j, j < c → ∀ e, C j = cAct e → EntOk n T e) → Q none h') : SC y_M_readPlay [.ref 90] h Q := by
  refine w_call IS_ok [20] ok_M_readPlay rfl rfl ?_
  have hn100 := hB.1
  refine ⟨Or.inr rfl, ?_⟩
  generalize hres : rd (chr n T) n n 0 [] [] = RES at *
  have dead : ∀ (f d : Nat) (hcc : St), RES = .inl (f, d) → SmR h hcc → Flt f d hcc → SR y_M_readPlay 20 [some (.ref 90)] [] hcc Q := by
    intro f d hcc hr hsm hF
    refine w_loop IS_ok [45] ok_M_readPlay ?_
    refine w_if (fun _ => ?_) (fun g => absurd hF.1 g)
    refine w_loop IS_ok [60] ok_M_readPlay ?_
    have fin : SR y_M_readPlay 60 [some (.ref 90)] [] hcc Q := by
      refine w_loop IS_ok [] ok_M_readPlay ?_
      exact hQF f d hcc hr hsm hF
    refine w_if (fun _ => fin) (fun _ => c_M_wrong0 hF.1 fin)
  have endd : ∀ (stk : List (Nat × List Ent)) (cur : List Ent) (i c : Nat) (C : Nat → Cod) (s : Nat) (hcc : St), (if stk.length = 0 then .inr cur else .inl (n, stk.length)) = RES → n ≤ i → i ≤ n → SmU h hcc → RdS n T i stk.length c hcc → c ≤ i → stk.length ≤ 4 → Stk C (hcc.2 105) stk s → Seg C stk.length s c cur → (∀ j, j < c → CdR T hcc j (C j)) → (∀ j, j < c → ∀ e, C j = cAct e → EntOk n T e) → SR y_M_readPlay 20 [some (.ref 90)] [] hcc Q := by
    intro stk cur i c C s hcc hr hi1 hi2 hsm hRc hci hlen hst hsg hcd hok
    obtain ⟨hTc, g23, g24, g17, g25⟩ := id hRc
    refine w_loop IS_ok [45] ok_M_readPlay ?_
    refine w_if (fun z => absurd (show (1 : Int32) = 0 by rw [← g25]; exact z) (by decide)) (fun _ => ?_)
    refine w_le n i (fun _ => ?_) (fun _ => by omega) hTc.1 g23
    refine w_loop IS_ok [60] ok_M_readPlay ?_
    refine w_le stk.length 0 (fun g => ?_) (fun g => ?_) g24 rfl
    · refine w_loop IS_ok [] ok_M_readPlay ?_
      rw [if_pos (by omega)] at hr
      have hs0 : s = 0 := by
        cases stk with
        | nil => exact hst
        | cons x y => rw [List.length_cons] at g; omega
      have hl0 : stk.length = 0 := by omega
      rw [hs0, hl0] at hsg
      exact hQ1 cur C c hcc hr.symm hsm (by omega) g17 g25 hcd hsg hok
    · rw [if_neg (by omega)] at hr
      refine c_M_wrong n stk.length g24 g25 (fun h' hs' hF => ?_) hTc.1
      refine w_loop IS_ok [] ok_M_readPlay ?_
      exact hQF n stk.length h' hr.symm (Sm.t (Sm.mo hsm (by decide) (by decide)) (hs'.mo (by decide) (by decide))) hF
  have loop : ∀ (f i : Nat) (stk : List (Nat × List Ent)) (cur : List Ent) (c : Nat) (C : Nat → Cod) (s : Nat) (hcc : St), rd (chr n T) n f i stk cur = RES → n ≤ f + i → i ≤ n → SmU h hcc → RdS n T i stk.length c hcc → c ≤ i → stk.length ≤ 4 → Stk C (hcc.2 105) stk s → Seg C stk.length s c cur → (∀ j, j < c → CdR T hcc j (C j)) → (∀ j, j < c → ∀ e, C j = cAct e → EntOk n T e) → SR y_M_readPlay 20 [some (.ref 90)] [] hcc Q := by
    intro f
    induction f with
    | zero =>
      intro i stk cur c C s hcc hr hf hi hsm hRc hci hlen hst hsg hcd hok
      exact endd stk cur i c C s hcc hr (by omega) hi hsm hRc hci hlen hst hsg hcd hok
    | succ f ih =>
      intro i stk cur c C s hcc hr hf hi hsm hRc hci hlen hst hsg hcd hok
      unfold rd at hr
      by_cases hin : i < n
      · rw [if_pos hin] at hr
        obtain ⟨hTc, g23, g24, g17, g25⟩ := id hRc
        refine w_loop IS_ok [20, 45] ok_M_readPlay ?_
        refine w_if (fun z => absurd (show (1 : Int32) = 0 by rw [← g25]; exact z) (by decide)) (fun _ => ?_)
        refine w_le n i (fun _ => by omega) (fun _ => ?_) hTc.1 g23
        have hok2 : ∀ x : Cod, (∀ e, x = cAct e → EntOk n T e) → ∀ j, j < c + 1 → ∀ e, u1 C c x j = cAct e → EntOk n T e := by
          intro x hx j hj e he
          by_cases z : j = c
          · subst z; rw [u1_s] at he; exact hx e he
          · rw [u1_n _ _ z] at he; exact hok j (by omega) e he
        have hCn : ∀ (x : Cod) (m : Nat), m ≤ c → ∀ q, q < m → u1 C c x q = C q := fun x m hm q hq => u1_n _ _ (by omega)
        have hm := hsg.mono
        refine c_M_readOne hB i stk.length c hRc hin (by omega) hlen ?_ ?_ ?_ ?_
        · intro q h' e hs' hF
          rw [e] at hr
          exact dead q stk.length h' hr.symm (Sm.t (Sm.mo hsm (by decide) (by decide)) hs') hF
        · intro p a h' e hs' hR' hk hc2 h105
          rw [e] at hr
          have hb := item_act hin hlen e
          exact ih p stk _ (c + 1) (u1 C c (cAct (i, stk.length + 1, a))) s h' hr (by omega) hb.2.1 (hsm.t (hs'.mo (by decide) (by decide))) hR' (by omega) hlen (hst.mo (hCn _ _ hm.1) (fun q _ => by rw [h105])) ((hm.2 _ (hCn _ _ (Nat.le_refl _))).act (u1_s _ _ _)) (cdr_u hk hcd hc2) (hok2 _ (fun e he => by cases he; exact hb.2.2))
        · intro q t h' e hd4 hs' hR' hk hc2 h105
          rw [e] at hr
          have hb := item_opn e
          refine ih (q + 1) ((t, cur) :: stk) [] (c + 1) (u1 C c (cOpn t)) (c + 1) h' hr (by omega) (by omega) (hsm.t (hs'.mo (by decide) (by decide))) hR' (by omega) (by rw [List.length_cons]; omega) ?_ Seg.nil (cdr_u hk hcd hc2) (hok2 _ (fun e he => by cases he))
          refine ⟨c, s, rfl, u1_s _ _ _, hb.2.2.1, hb.2.2.2.1, hd4, by rw [h105, u1_s], hm.2 _ (hCn _ _ (Nat.le_refl _)), hst.mo (hCn _ _ hm.1) (fun q hq => by rw [h105, u1_n _ _ (by omega)])⟩
        · intro h' e hd hs' hR' hk hc2 h105
          rw [e] at hr
          cases stk with
          | nil => cases hd
          | cons x rest =>
            obtain ⟨t, prev⟩ := x
            obtain ⟨o, s', e1, e2, e3, e4, e5, e6, e7, e8⟩ := hst
            rw [List.length_cons] at hlen hR'
            rw [Nat.add_sub_cancel] at hR'
            have hm7 := e7.mono
            have hc3 := hc2 o e6
            refine ih (i + 1) rest _ (c + 1) (u1 C c (cCls o)) s' h' hr (by omega) (by omega) (hsm.t (hs'.mo (by decide) (by decide))) hR' (by omega) (by omega) (e8.mo (hCn _ _ (by omega)) (fun q _ => by rw [h105])) ?_ (cdr_u hk hcd hc3) (hok2 _ (fun e he => by cases he))
            have hsg2 := hm.2 (u1 C c (cCls o)) (hCn _ _ (Nat.le_refl _))
            rw [e1] at hsg2
            exact (hm7.2 _ (hCn _ _ (by omega))).grp hsg2 ((hCn _ (o + 1) (by omega) o (by omega)).trans e2) (u1_s _ _ _) e3 e4 e5
      · rw [if_neg hin] at hr
        exact endd stk cur i c C s hcc hr (by omega) hi hsm hRc hci hlen hst hsg hcd hok
  have hs4 : Sm [(90, 25), (90, 23), (90, 17), (90, 24)] [99, 100, 101, 102, 103, 104, 105, 107] h (pf (pf (pf (pf h 23 0) 24 0) 17 0) 25 1) := (((Sm.pf _ (by decide)).t (Sm.pf _ (by decide))).t (Sm.pf _ (by decide))).t (Sm.pf _ (by decide))
  exact loop n 0 [] [] 0 (fun _ => cCls 0) 0 (pf (pf (pf (pf h 23 0) 24 0) 17 0) 25 1) hres (by omega) (by omega) hs4 ⟨hT.sm hs4 (by decide) (by decide), rfl, rfl, rfl, rfl⟩ (by omega) (by decide) rfl Seg.nil (fun j hj => by omega) (fun j hj => by omega)
end
section
/-! states that differ in what no answer shows -/
def Eqv (S S' : Nat → Int) : Prop := ∀ i, i < 270 → (i < 6 + (S 1).toNat ∨ 26 ≤ i) → S' i = S i
theorem Eqv.rf (S : Nat → Int) : Eqv S S := fun _ _ _ => rfl
theorem Eqv.n {S S' : Nat → Int} (e : Eqv S S') : S' 1 = S 1 := e 1 (by omega) (by omega)
theorem Eqv.sy {S S' : Nat → Int} (e : Eqv S S') : Eqv S' S := fun i h1 h2 => (e i h1 (by rw [e.n] at h2; exact h2)).symm
theorem Eqv.tr {S S1 S2 : Nat → Int} (a : Eqv S S1) (b : Eqv S1 S2) : Eqv S S2 := fun i h1 h2 => (b i h1 (by rw [a.n]; exact h2)).trans (a i h1 h2)
theorem Eqv.od {S S' : Nat → Int} (e : Eqv S S') (hW : WF S) {k : Nat} (hk : k < (S 1).toNat) : od S' k = od S k := by
  have := hW.n
  exact congrArg Int.toNat (e (6 + k) (by omega) (by omega))
theorem Eqv.wf {S S' : Nat → Int} (e : Eqv S S') (hW : WF S) : WF S' := by
  have hn := hW.n
  obtain ⟨h0, h1, h2, h3, h4, h5, h6, h7, h8, h9, h10, h11⟩ := hW
  refine ⟨?_, ?_, ?_, ?_, ?_, ?_, ?_, ?_, ?_, ?_, ?_, ?_⟩
  · rw [e 0 (by omega) (by omega)]; exact h0
  · rw [e 0 (by omega) (by omega), e.n]; exact h1
  · rw [e 2 (by omega) (by omega)]; exact h2
  · rw [e 3 (by omega) (by omega)]; exact h3
  · rw [e 4 (by omega) (by omega)]; exact h4
  · rw [e 5 (by omega) (by omega)]; exact h5
  · intro k hk
    rw [e.n] at hk
    rw [e 0 (by omega) (by omega), e (6 + k) (by omega) (by omega)]
    exact h6 k hk
  · intro j k hjk hk
    rw [e.n] at hk
    rw [e (6 + j) (by omega) (by omega), e (6 + k) (by omega) (by omega)]
    exact h7 j k hjk hk
  · intro p hp
    rw [e (26 + 9 * p) (by omega) (by omega), e (26 + 9 * p + 1) (by omega) (by omega), e (26 + 9 * p + 2) (by omega) (by omega), e (26 + 9 * p + 3) (by omega) (by omega), e (26 + 9 * p + 4) (by omega) (by omega), e (26 + 9 * p + 5) (by omega) (by omega), e (26 + 9 * p + 6) (by omega) (by omega), e (26 + 9 * p + 7) (by omega) (by omega), e (26 + 9 * p + 8) (by omega) (by omega), e 5 (by omega) (by omega)]
    exact h8 p hp
  · intro i hi
    rw [e (206 + i) (by omega) (by omega)]
    exact h9 i hi
  · intro p hp
    rw [e 0 (by omega) (by omega)] at hp
    rw [e (26 + 9 * p + 4) (by omega) (by omega)]
    exact h10 p hp
  · intro p hp hs j hj
    rw [e 0 (by omega) (by omega)] at hs
    rw [e (26 + 9 * p + j) (by omega) (by omega)]
    exact h11 p hp hs j hj
theorem Eqv.pos {S S' : Nat → Int} (e : Eqv S S') (hW : WF S) (p : Int) : pos S' p (S' 1).toNat = pos S p (S 1).toNat := by
  have hn := hW.n
  have : ∀ k, k ≤ (S 1).toNat → Jvm.Pilot.CPuppetTurnsLaw_law_r5978_f2d878.pos S' p k = Jvm.Pilot.CPuppetTurnsLaw_law_r5978_f2d878.pos S p k := by
    intro k
    induction k with
    | zero => intro _; rfl
    | succ k ih =>
      intro hk
      unfold Jvm.Pilot.CPuppetTurnsLaw_law_r5978_f2d878.pos
      rw [e (6 + k) (by omega) (by omega), ih (by omega)]
  rw [e.n]
  exact this _ (Nat.le_refl _)
theorem Eqv.hgh {S S' : Nat → Int} (e : Eqv S S') {p : Nat} (hp : p < 20) : hgh S' p = hgh S p := by
  unfold Jvm.Pilot.CPuppetTurnsLaw_law_r5978_f2d878.hgh
  rw [e (26 + 9 * p + 2) (by omega) (by omega)]
theorem Eqv.stn {S S' : Nat → Int} (e : Eqv S S') {p : Nat} (hp : p < 20) (y : Int) : stn S' p y = stn S p y := by
  unfold Jvm.Pilot.CPuppetTurnsLaw_law_r5978_f2d878.stn
  rw [e (26 + 9 * p + 1) (by omega) (by omega), e.hgh hp]
theorem Eqv.cn {S S' : Nat → Int} (e : Eqv S S') {o o' : Nat → Nat} {k : Nat} (ho : ∀ j, j < k → o' j = o j ∧ o j < 20) (y : Int) : cn S' o' y k = cn S o y k := by
  refine sm_congr (fun j hj => ?_)
  have := ho j hj
  rw [this.1]
  exact ite_congr (e.stn this.2 y) (fun _ => rfl) (fun _ => rfl)
theorem Eqv.hA {S S' : Nat → Int} (e : Eqv S S') {o o' : Nat → Nat} {k : Nat} (ho : ∀ j, j ≤ k → o' j = o j ∧ o j < 20) (y : Nat) : hA S' o' y k = hA S o y k := by
  unfold Jvm.Pilot.CPuppetTurnsLaw_law_r5978_f2d878.hA
  have h1 := e.cn (k := k + 1) (fun j hj => ho j (by omega)) (y : Int)
  have h2 := ho k (Nat.le_refl _)
  rw [h1, h2.1, e 2 (by omega) (by omega)]
  exact ite_congr (by rw [e.stn h2.2 (y : Int)]) (fun _ => rfl) (fun _ => rfl)
theorem Eqv.hT {S S' : Nat → Int} (e : Eqv S S') {o o' : Nat → Nat} {k : Nat} (ho : ∀ j, j < k → o' j = o j ∧ o j < 20) (y p : Nat) : hT S' o' k y p = hT S o k y p := by
  refine sm_congr (fun l _ => sm_congr (fun j hj => ?_))
  rw [(ho j hj).1, e.hA (fun i hi => ho i (by omega)) l]
theorem Eqv.hdd {S S' : Nat → Int} (e : Eqv S S') (hW : WF S) : hdd S' = hdd S := by
  funext p
  unfold Jvm.Pilot.CPuppetTurnsLaw_law_r5978_f2d878.hdd
  rw [e.n, e.hT (fun j hj => ⟨e.od hW hj, (hW.od hj).2.1⟩)]
theorem turnL_cg {B : Nat → Bool} {rule : Int} {step n : Nat} {o o' : Nat → Nat} (h : ∀ k, k < n → o' k = o k) : turnL B rule step n o' = turnL B rule step n o := by
  unfold turnL
  rw [ol_congr h, ol_congr (o := fun k => o' ((k + step) % n)) (o' := fun k => o ((k + step) % n)) (fun k hk => h _ (Nat.mod_lt _ (by omega)))]
theorem frP_cg {T T' : Nat → Int} {b : Bool} {p i : Nat} (hi : T' i = T i) (h1 : T' (26 + 9 * p + 6) = T (26 + 9 * p + 6)) (h2 : T' (26 + 9 * p + 7) = T (26 + 9 * p + 7)) (h3 : T' (26 + 9 * p + 8) = T (26 + 9 * p + 8)) : frP T' b p i = frP T b p i := by
  unfold frP
  rw [h1, h2, h3]
  simp only [u1_app]
  rw [hi]
theorem Eqv.frC {S S' : Nat → Int} (e : Eqv S S') (hW : WF S) (hd : Nat → Bool) : ∀ k, k ≤ (S 1).toNat → ∀ i, i < 270 → (i < 6 + (S 1).toNat ∨ 26 ≤ i) → frC S' hd k i = frC S hd k i
  | 0, _, i, h1, h2 => e i h1 h2
  | k + 1, hk, i, h1, h2 => by
    have ho := e.od hW (k := k) (by omega)
    have hb := (hW.od (k := k) (by omega)).2.1
    have ih := e.frC hW hd k (by omega)
    show frP (Jvm.Pilot.CPuppetTurnsLaw_law_r5978_f2d878.frC S' hd k) (hd (Jvm.Pilot.CPuppetTurnsLaw_law_r5978_f2d878.od S' k)) (Jvm.Pilot.CPuppetTurnsLaw_law_r5978_f2d878.od S' k) i = frP (Jvm.Pilot.CPuppetTurnsLaw_law_r5978_f2d878.frC S hd k) (hd (Jvm.Pilot.CPuppetTurnsLaw_law_r5978_f2d878.od S k)) (Jvm.Pilot.CPuppetTurnsLaw_law_r5978_f2d878.od S k) i
    rw [ho]
    exact frP_cg (ih i h1 h2) (ih _ (by omega) (by omega)) (ih _ (by omega) (by omega)) (ih _ (by omega) (by omega))
/-- an order, the state behind a frame -/
def ordS (S : Nat → Int) (n : Nat) (o : Nat → Nat) : Nat → Int := fun i => if i = 1 then (n : Int) else if 6 ≤ i ∧ i < 26 then (o (i - 6) : Int) else S i
def frS (S : Nat → Int) : Nat → Int := fun i => if i = 5 then S 5 + 1 else if 6 ≤ i ∧ i < 26 then (fl (turnL (hdd S) (S 3) (S 4).toNat (S 1).toNat (od S)) (i - 6) : Int) else frC S (hdd S) (S 1).toNat i
theorem ord_eqv {S S' : Nat → Int} {n : Nat} {o : Nat → Nat} (h : ROrd S n o S') : Eqv (ordS S n o) S' := by
  obtain ⟨h1, h2, h3⟩ := h
  intro i hi hg
  have : ordS S n o 1 = n := rfl
  rw [this] at hg
  by_cases z1 : i = 1
  · rw [z1]; exact h1
  · by_cases z2 : 6 ≤ i ∧ i < 26
    · have : ordS S n o i = o (i - 6) := by unfold ordS; rw [if_neg z1, if_pos z2]
      rw [this, ← h2 (i - 6) (by omega)]
      congr 1
      omega
    · have : ordS S n o i = S i := by unfold ordS; rw [if_neg z1, if_neg z2]
      rw [this, h3 i z1 z2]
theorem frS_1 {S : Nat → Int} (hW : WF S) : frS S 1 = S 1 := by
  show frC S (hdd S) (S 1).toNat 1 = S 1
  exact frC_o (fun j hj => (hW.od hj).2.1) (by omega)
theorem fr_eqv {S S' : Nat → Int} (hW : WF S) (h : RFr S S') : Eqv (frS S) S' := by
  obtain ⟨h1, h2, h3⟩ := h
  intro i hi hg
  rw [frS_1 hW] at hg
  by_cases z1 : i = 5
  · rw [z1]; exact h1
  · by_cases z2 : 6 ≤ i ∧ i < 26
    · have : frS S i = fl (turnL (hdd S) (S 3) (S 4).toNat (S 1).toNat (od S)) (i - 6) := by unfold frS; rw [if_neg z1, if_pos z2]
      rw [this, ← h2 (i - 6) (by omega)]
      congr 1
      omega
    · have : frS S i = frC S (hdd S) (S 1).toNat i := by unfold frS; rw [if_neg z1, if_neg z2]
      rw [this, h3 i z1 z2]
theorem ordS_cg {S S' : Nat → Int} {n : Nat} {o o' : Nat → Nat} (hS : ∀ i, i < 270 → ¬ (6 ≤ i ∧ i < 26) → S' i = S i) (ho : ∀ k, k < n → o' k = o k) : Eqv (ordS S n o) (ordS S' n o') := by
  intro i hi hg
  have : ordS S n o 1 = n := rfl
  rw [this] at hg
  unfold ordS
  by_cases z1 : i = 1
  · rw [if_pos z1, if_pos z1]
  · rw [if_neg z1, if_neg z1]
    by_cases z2 : 6 ≤ i ∧ i < 26
    · rw [if_pos z2, if_pos z2, ho _ (by omega)]
    · rw [if_neg z2, if_neg z2, hS i hi z2]
theorem frS_cg {S S' : Nat → Int} (e : Eqv S S') (hW : WF S) : Eqv (frS S) (frS S') := by
  intro i hi hg
  rw [frS_1 hW] at hg
  have hn := hW.n
  unfold frS
  rw [e 5 (by omega) (by omega), e.n, e.hdd hW, e 3 (by omega) (by omega), e 4 (by omega) (by omega), turnL_cg (fun k hk => e.od hW hk)]
  by_cases z1 : i = 5
  · rw [if_pos z1, if_pos z1]
  · rw [if_neg z1, if_neg z1]
    by_cases z2 : 6 ≤ i ∧ i < 26
    · rw [if_pos z2, if_pos z2]
    · rw [if_neg z2, if_neg z2]
      exact e.frC hW (hdd S) _ (Nat.le_refl _) i hi (by omega)
end
section
/-! a state stays in good order -/
theorem WF.pu {S S' : Nat → Int} (hW : WF S) (p : Nat) (hp : (p : Int) < S 0) (ho : ∀ i, i < 26 + 9 * p ∨ 26 + 9 * p + 9 ≤ i → S' i = S i)
    (h0 : -15 ≤ S' (26 + 9 * p) ∧ S' (26 + 9 * p) ≤ 63) (h1 : -15 ≤ S' (26 + 9 * p + 1) ∧ S' (26 + 9 * p + 1) ≤ 47) (h2 : 0 ≤ S' (26 + 9 * p + 2) ∧ S' (26 + 9 * p + 2) ≤ 1) (h3 : 0 ≤ S' (26 + 9 * p + 3) ∧ S' (26 + 9 * p + 3) ≤ 7) (h4 : 1 ≤ S' (26 + 9 * p + 4) ∧ S' (26 + 9 * p + 4) ≤ 9) (h5 : 0 ≤ S' (26 + 9 * p + 5) ∧ S' (26 + 9 * p + 5) ≤ 3) (h6 : ∀ j, j < 3 → S' (26 + 9 * p + 6 + j) = S (26 + 9 * p + 6 + j)) : WF S' := by
  have hn := hW.n
  obtain ⟨g0, g1, g2, g3, g4, g5, g6, g7, g8, g9, g10, g11⟩ := hW
  have e0 := ho 0 (by omega)
  have e1 := ho 1 (by omega)
  have e5 := ho 5 (by omega)
  refine ⟨by rw [e0]; exact g0, by rw [e0, e1]; exact g1, by rw [ho 2 (by omega)]; exact g2, by rw [ho 3 (by omega)]; exact g3, by rw [ho 4 (by omega)]; exact g4, by rw [e5]; exact g5, ?_, ?_, ?_, ?_, ?_, ?_⟩
  · intro k hk
    rw [e1] at hk
    rw [e0, ho (6 + k) (by omega)]
    exact g6 k hk
  · intro j k hjk hk
    rw [e1] at hk
    rw [ho (6 + j) (by omega), ho (6 + k) (by omega)]
    exact g7 j k hjk hk
  · intro q hq
    have g := g8 q hq
    rw [e5]
    by_cases z : q = p
    · subst z
      have a0 := h6 0 (by omega)
      have a1 := h6 1 (by omega)
      have a2 := h6 2 (by omega)
      exact ⟨h0, h1, h2, h3, ⟨by omega, h4.2⟩, h5, by rw [show 26 + 9 * q + 6 = 26 + 9 * q + 6 + 0 from rfl, a0]; exact g.2.2.2.2.2.2.1, by rw [show 26 + 9 * q + 7 = 26 + 9 * q + 6 + 1 from rfl, a1]; exact g.2.2.2.2.2.2.2.1, by rw [show 26 + 9 * q + 8 = 26 + 9 * q + 6 + 2 from rfl, a2]; exact g.2.2.2.2.2.2.2.2⟩
    · rw [ho (26 + 9 * q) (by omega), ho (26 + 9 * q + 1) (by omega), ho (26 + 9 * q + 2) (by omega), ho (26 + 9 * q + 3) (by omega), ho (26 + 9 * q + 4) (by omega), ho (26 + 9 * q + 5) (by omega), ho (26 + 9 * q + 6) (by omega), ho (26 + 9 * q + 7) (by omega), ho (26 + 9 * q + 8) (by omega)]
      exact g
  · intro i hi
    rw [ho (206 + i) (by omega)]
    exact g9 i hi
  · intro q hq
    rw [e0] at hq
    by_cases z : q = p
    · subst z; exact h4.1
    · rw [ho (26 + 9 * q + 4) (by omega)]
      exact g10 q hq
  · intro q hq hs j hj
    rw [e0] at hs
    have : q ≠ p := by omega
    rw [ho (26 + 9 * q + j) (by omega)]
    exact g11 q hq hs j hj
theorem WF.mv {S : Nat → Int} (hW : WF S) {p : Nat} (hp : (p : Int) < S 0) {x y : Int} (hx : -15 ≤ x ∧ x ≤ 63) (hy : -15 ≤ y ∧ y ≤ 47) : WF (mvS S p x y) := by
  have hn := hW.n
  have g := hW.wp p (by omega)
  have gc := hW.2.2.2.2.2.2.2.2.2.2.1 p hp
  refine hW.pu p hp (fun i hi => mvS_n (by omega) (by omega)) ?_ ?_ ?_ ?_ ?_ ?_ (fun j hj => mvS_n (by omega) (by omega))
  · unfold mvS; rw [u1_n _ _ (by omega), u1_s]; exact hx
  · unfold mvS; rw [u1_s]; exact hy
  · rw [mvS_n (by omega) (by omega)]; exact g.2.2.1
  · rw [mvS_n (by omega) (by omega)]; exact g.2.2.2.1
  · rw [mvS_n (by omega) (by omega)]; exact ⟨gc, g.2.2.2.2.1.2⟩
  · rw [mvS_n (by omega) (by omega)]; exact g.2.2.2.2.2.1
theorem WF.tu {S : Nat → Int} (hW : WF S) {p : Nat} (hp : (p : Int) < S 0) {f : Int} (hf : 0 ≤ f ∧ f ≤ 3) : WF (u1 S (26 + 9 * p + 5) f) := by
  have hn := hW.n
  have g := hW.wp p (by omega)
  have gc := hW.2.2.2.2.2.2.2.2.2.2.1 p hp
  refine hW.pu p hp (fun i hi => u1_n _ _ (by omega)) ?_ ?_ ?_ ?_ ?_ ?_ (fun j hj => u1_n _ _ (by omega))
  · rw [u1_n _ _ (by omega)]; exact g.1
  · rw [u1_n _ _ (by omega)]; exact g.2.1
  · rw [u1_n _ _ (by omega)]; exact g.2.2.1
  · rw [u1_n _ _ (by omega)]; exact g.2.2.2.1
  · rw [u1_n _ _ (by omega)]; exact ⟨gc, g.2.2.2.2.1.2⟩
  · rw [u1_s]; exact hf
/-- what lies beside the order changes within its bounds -/
theorem WF.ot {S S' : Nat → Int} (hW : WF S) (ho : ∀ i, i < 206 → i ≠ 2 → i ≠ 3 → i ≠ 4 → S' i = S i) (h2 : 1 ≤ S' 2 ∧ S' 2 ≤ 8) (h3 : 0 ≤ S' 3 ∧ S' 3 ≤ 2) (h4 : 1 ≤ S' 4 ∧ S' 4 ≤ 19) (hp : ∀ i, i < 64 → 0 ≤ S' (206 + i) ∧ S' (206 + i) ≤ 255) : WF S' := by
  have hn := hW.n
  obtain ⟨g0, g1, g2, g3, g4, g5, g6, g7, g8, g9, g10, g11⟩ := hW
  have e0 := ho 0 (by omega) (by omega) (by omega) (by omega)
  have e1 := ho 1 (by omega) (by omega) (by omega) (by omega)
  have e5 := ho 5 (by omega) (by omega) (by omega) (by omega)
  refine ⟨by rw [e0]; exact g0, by rw [e0, e1]; exact g1, h2, h3, h4, by rw [e5]; exact g5, ?_, ?_, ?_, hp, ?_, ?_⟩
  · intro k hk
    rw [e1] at hk
    rw [e0, ho (6 + k) (by omega) (by omega) (by omega) (by omega)]
    exact g6 k hk
  · intro j k hjk hk
    rw [e1] at hk
    rw [ho (6 + j) (by omega) (by omega) (by omega) (by omega), ho (6 + k) (by omega) (by omega) (by omega) (by omega)]
    exact g7 j k hjk hk
  · intro q hq
    have g := g8 q hq
    have a : ∀ j, j < 9 → S' (26 + 9 * q + j) = S (26 + 9 * q + j) := fun j hj => ho _ (by omega) (by omega) (by omega) (by omega)
    rw [e5, a 1 (by omega), a 2 (by omega), a 3 (by omega), a 4 (by omega), a 5 (by omega), a 6 (by omega), a 7 (by omega), a 8 (by omega), show S' (26 + 9 * q) = S (26 + 9 * q) from a 0 (by omega)]
    exact g
  · intro q hq
    rw [e0] at hq
    rw [ho (26 + 9 * q + 4) (by omega) (by omega) (by omega) (by omega)]
    exact g10 q hq
  · intro q hq hs j hj
    rw [e0] at hs
    rw [ho (26 + 9 * q + j) (by omega) (by omega) (by omega) (by omega)]
    exact g11 q hq hs j hj
theorem WF.li {S : Nat → Int} (hW : WF S) {l : Int} (hl : 1 ≤ l ∧ l ≤ 8) : WF (u1 S 2 l) := by
  refine hW.ot (fun i _ h _ _ => u1_n _ _ h) (by rw [u1_s]; exact hl) (by rw [u1_n _ _ (by omega)]; exact hW.2.2.2.1) (by rw [u1_n _ _ (by omega)]; exact hW.2.2.2.2.1) (fun i hi => ?_)
  rw [u1_n _ _ (by omega)]
  exact hW.2.2.2.2.2.2.2.2.2.1 i hi
theorem WF.ru {S : Nat → Int} (hW : WF S) {a b : Int} (ha : 0 ≤ a ∧ a ≤ 2) (hb : 1 ≤ b ∧ b ≤ 19) : WF (u1 (u1 S 3 a) 4 b) := by
  refine hW.ot (fun i _ _ h3 h4 => by rw [u1_n _ _ h4, u1_n _ _ h3]) (by rw [u1_n _ _ (by omega), u1_n _ _ (by omega)]; exact hW.2.2.1) (by rw [u1_n _ _ (by omega), u1_s]; exact ha) (by rw [u1_s]; exact hb) (fun i hi => ?_)
  rw [u1_n _ _ (by omega), u1_n _ _ (by omega)]
  exact hW.2.2.2.2.2.2.2.2.2.1 i hi
theorem WF.pi {S : Nat → Int} (hW : WF S) {k : Nat} (hk : k < 64) {c : Int} (hc : 0 ≤ c ∧ c ≤ 255) : WF (u1 S (206 + k) c) := by
  refine hW.ot (fun i h _ _ _ => u1_n _ _ (by omega)) (by rw [u1_n _ _ (by omega)]; exact hW.2.2.1) (by rw [u1_n _ _ (by omega)]; exact hW.2.2.2.1) (by rw [u1_n _ _ (by omega)]; exact hW.2.2.2.2.1) (fun i hi => ?_)
  by_cases z : i = k
  · subst z; rw [u1_s]; exact hc
  · rw [u1_n _ _ (by omega)]
    exact hW.2.2.2.2.2.2.2.2.2.1 i hi
theorem WF.ro {S S' : Nat → Int} (hW : WF S) {n : Nat} {o : Nat → Nat} (h : ROrd S n o S') (hn : (n : Int) ≤ S 0) (ho : ∀ k, k < n → (o k : Int) < S 0) (hi : ∀ j k, j < k → k < n → o j ≠ o k) : WF S' := by
  obtain ⟨r1, r2, r3⟩ := h
  obtain ⟨g0, g1, g2, g3, g4, g5, g6, g7, g8, g9, g10, g11⟩ := hW
  have e0 := r3 0 (by omega) (by omega)
  have e5 := r3 5 (by omega) (by omega)
  refine ⟨by rw [e0]; exact g0, by rw [e0, r1]; omega, by rw [r3 2 (by omega) (by omega)]; exact g2, by rw [r3 3 (by omega) (by omega)]; exact g3, by rw [r3 4 (by omega) (by omega)]; exact g4, by rw [e5]; exact g5, ?_, ?_, ?_, ?_, ?_, ?_⟩
  · intro k hk
    have := ho k (by omega)
    rw [e0, r2 k (by omega)]
    omega
  · intro j k hjk hk
    rw [r2 j (by omega), r2 k (by omega)]
    have := hi j k hjk (by omega)
    omega
  · intro q hq
    have g := g8 q hq
    have a : ∀ j, j < 9 → S' (26 + 9 * q + j) = S (26 + 9 * q + j) := fun j hj => r3 _ (by omega) (by omega)
    rw [e5, a 1 (by omega), a 2 (by omega), a 3 (by omega), a 4 (by omega), a 5 (by omega), a 6 (by omega), a 7 (by omega), a 8 (by omega), show S' (26 + 9 * q) = S (26 + 9 * q) from a 0 (by omega)]
    exact g
  · intro i hi
    rw [r3 (206 + i) (by omega) (by omega)]
    exact g9 i hi
  · intro q hq
    rw [e0] at hq
    rw [r3 (26 + 9 * q + 4) (by omega) (by omega)]
    exact g10 q hq
  · intro q hq hs j hj
    rw [e0] at hs
    rw [r3 (26 + 9 * q + j) (by omega) (by omega)]
    exact g11 q hq hs j hj
theorem wf_nd {S : Nat → Int} (hW : WF S) {j k : Nat} (hj : j < (S 1).toNat) (hk : k < (S 1).toNat) (h : j ≠ k) : od S j ≠ od S k := fun z => h (wf_oi hW hj hk z)
theorem wf_out {S S' : Nat → Int} (hW : WF S) {q : Nat} (hq : q < (S 1).toNat) (h : ROrd S ((S 1).toNat - 1) (outO (od S) q) S') : WF S' := by
  have hn := hW.n
  refine hW.ro h (by omega) (fun k hk => ?_) (fun j k hjk hk => ?_)
  · unfold outO
    split
    · have := hW.od (k := k) (by omega); omega
    · have := hW.od (k := k + 1) (by omega); omega
  · unfold outO
    split <;> split <;> exact wf_nd hW (by omega) (by omega) (by omega)
theorem wf_lft {S S' : Nat → Int} (hW : WF S) {q : Nat} (hq : q < (S 1).toNat) (h : ROrd S (S 1).toNat (lftO (od S) q) S') : WF S' := by
  have hn := hW.n
  refine hW.ro h (by omega) (fun k hk => ?_) (fun j k hjk hk => ?_)
  · unfold lftO
    split
    · have := hW.od hq; omega
    · split
      · have := hW.od (k := k - 1) (by omega); omega
      · have := hW.od (k := k) (by omega); omega
  · unfold lftO
    split <;> split <;> (try split) <;> (try split) <;> first | omega | exact wf_nd hW (by omega) (by omega) (by omega)
theorem wf_low {S S' : Nat → Int} (hW : WF S) {q : Nat} (hq : q < (S 1).toNat) (h : ROrd S (S 1).toNat (lowO (od S) q (S 1).toNat) S') : WF S' := by
  have hn := hW.n
  refine hW.ro h (by omega) (fun k hk => ?_) (fun j k hjk hk => ?_)
  · unfold lowO
    split
    · have := hW.od (k := k) (by omega); omega
    · split
      · have := hW.od (k := k + 1) (by omega); omega
      · have := hW.od hq; omega
  · unfold lowO
    split <;> split <;> (try split) <;> (try split) <;> first | omega | exact wf_nd hW (by omega) (by omega) (by omega)
end
section
/-! a state stays in good order: a frame, a new puppet, an undo -/
theorem ol_nd {o : Nat → Nat} {n : Nat} (h : ∀ j k, j < n → k < n → j ≠ k → o j ≠ o k) : (ol o n).Nodup := by
  unfold ol List.Nodup
  rw [List.pairwise_map]
  exact List.Pairwise.imp_of_mem (fun ha hb hab => h _ _ (List.mem_range.mp ha) (List.mem_range.mp hb) hab) List.nodup_range
theorem rot_ne {n s j k : Nat} (hj : j < n) (hk : k < n) (h : j < k) : (j + s) % n ≠ (k + s) % n := by
  intro e
  have h1 := Nat.sub_mod_eq_zero_of_mod_eq e.symm
  rw [show k + s - (j + s) = k - j by omega, Nat.mod_eq_of_lt (by omega)] at h1
  omega
theorem turnL_nd {B : Nat → Bool} {rule : Int} {step n : Nat} {o : Nat → Nat} (h : ∀ j k, j < n → k < n → j ≠ k → o j ≠ o k) : (turnL B rule step n o).Nodup := by
  unfold turnL
  split
  · exact (filt_perm B (ol o n)).nodup_iff.mpr (ol_nd h)
  · split
    · refine ol_nd (fun j k hj hk hjk => h _ _ (Nat.mod_lt _ (by omega)) (Nat.mod_lt _ (by omega)) ?_)
      rcases Nat.lt_or_gt_of_ne hjk with g | g
      · exact rot_ne hj hk g
      · exact (rot_ne hk hj g).symm
    · exact ol_nd h
theorem fl_ne {l : List Nat} (h : l.Nodup) {j k : Nat} (hjk : j < k) (hk : k < l.length) : fl l j ≠ fl l k := by
  unfold fl
  rw [List.getD_eq_getElem?_getD, List.getD_eq_getElem?_getD, List.getElem?_eq_getElem hk, List.getElem?_eq_getElem (show j < l.length by omega)]
  exact List.pairwise_iff_getElem.mp h j k (by omega) hk hjk
theorem frP_6 {T : Nat → Int} {b : Bool} {p : Nat} : frP T b p (26 + 9 * p + 6) = T (26 + 9 * p + 6) + (if b then 1 else 0) := by
  unfold frP
  rw [u1_n _ _ (by omega), u1_n _ _ (by omega), u1_s]
theorem frP_7 {T : Nat → Int} {b : Bool} {p : Nat} : frP T b p (26 + 9 * p + 7) = (if b then T (26 + 9 * p + 7) + 1 else 0) := by
  unfold frP
  rw [u1_n _ _ (by omega), u1_s]
theorem frP_8 {T : Nat → Int} {b : Bool} {p : Nat} : frP T b p (26 + 9 * p + 8) = (if (if b then T (26 + 9 * p + 7) + 1 else 0) ≤ T (26 + 9 * p + 8) then T (26 + 9 * p + 8) else (if b then T (26 + 9 * p + 7) + 1 else 0)) := by
  unfold frP
  rw [u1_s]
theorem frC_b {S : Nat → Int} (hW : WF S) (hd : Nat → Bool) : ∀ k, k ≤ (S 1).toNat → ∀ p, p < 20 → (0 ≤ frC S hd k (26 + 9 * p + 6) ∧ frC S hd k (26 + 9 * p + 6) ≤ S 5 + 1) ∧ (0 ≤ frC S hd k (26 + 9 * p + 7) ∧ frC S hd k (26 + 9 * p + 7) ≤ S 5 + 1) ∧ (0 ≤ frC S hd k (26 + 9 * p + 8) ∧ frC S hd k (26 + 9 * p + 8) ≤ S 5 + 1)
  | 0, _, p, hp => by
    have := hW.wp p hp
    show (0 ≤ S (26 + 9 * p + 6) ∧ S (26 + 9 * p + 6) ≤ S 5 + 1) ∧ (0 ≤ S (26 + 9 * p + 7) ∧ S (26 + 9 * p + 7) ≤ S 5 + 1) ∧ (0 ≤ S (26 + 9 * p + 8) ∧ S (26 + 9 * p + 8) ≤ S 5 + 1)
    omega
  | k + 1, hk, p, hp => by
    have ih := frC_b hW hd k (by omega) p hp
    by_cases z : p = od S k
    · have g := hW.wp p hp
      have hne : ∀ j, j < k → od S j ≠ p := fun j hj => by rw [z]; exact wf_nd hW (by omega) (by omega) (by omega)
      have e6 : frC S hd k (26 + 9 * p + 6) = S (26 + 9 * p + 6) := frC_p (by omega) hne
      have e7 : frC S hd k (26 + 9 * p + 7) = S (26 + 9 * p + 7) := frC_p (by omega) hne
      have e8 : frC S hd k (26 + 9 * p + 8) = S (26 + 9 * p + 8) := frC_p (by omega) hne
      have ef : frC S hd (k + 1) = frP (frC S hd k) (hd p) p := by rw [z]; rfl
      rw [ef, frP_6, frP_7, frP_8, e6, e7, e8]
      cases hd p <;> simp only [if_true, Bool.false_eq_true, if_false] <;> refine ⟨by omega, by omega, ?_⟩ <;> split <;> omega
    · have ef : ∀ i, i < 9 → frC S hd (k + 1) (26 + 9 * p + i) = frC S hd k (26 + 9 * p + i) := fun i hi => frP_o (by omega) (by omega) (by omega)
      rw [ef 6 (by omega), ef 7 (by omega), ef 8 (by omega)]
      exact ih
theorem wf_fr {S S' : Nat → Int} (hW : WF S) (h : RFr S S') (h5 : S 5 ≠ 9999) : WF S' := by
  obtain ⟨r5, r2, r3⟩ := h
  have hn := hW.n
  have hb : ∀ j, j < (S 1).toNat → od S j < 20 := fun j hj => (hW.od hj).2.1
  have hC := fun p hp => frC_b hW (hdd S) (S 1).toNat (Nat.le_refl _) p hp
  have lo : ∀ i, i ≠ 5 → ¬ (6 ≤ i ∧ i < 26) → (i < 26 ∨ 206 ≤ i) → S' i = S i := fun i h1 h2 h3 => (r3 i h1 h2).trans (frC_o hb h3)
  have pu : ∀ p i, i < 6 → S' (26 + 9 * p + i) = S (26 + 9 * p + i) := fun p i hi => (r3 _ (by omega) (by omega)).trans (frC_c hi)
  have hl : ∀ k, k < (S 1).toNat → ∃ j, j < (S 1).toNat ∧ od S j = fl (turnL (hdd S) (S 3) (S 4).toNat (S 1).toNat (od S)) k := fun k hk => turnL_mem (fl_mem (by rw [turnL_len]; exact hk))
  obtain ⟨g0, g1, g2, g3, g4, g5, g6, g7, g8, g9, g10, g11⟩ := id hW
  have e0 := lo 0 (by omega) (by omega) (by omega)
  have e1 := lo 1 (by omega) (by omega) (by omega)
  refine ⟨by rw [e0]; exact g0, by rw [e0, e1]; exact g1, by rw [lo 2 (by omega) (by omega) (by omega)]; exact g2, by rw [lo 3 (by omega) (by omega) (by omega)]; exact g3, by rw [lo 4 (by omega) (by omega) (by omega)]; exact g4, by rw [r5]; omega, ?_, ?_, ?_, ?_, ?_, ?_⟩
  · intro k hk
    rw [e1] at hk
    rw [e0, r2 k hk]
    obtain ⟨j, hj, e⟩ := hl k hk
    rw [← e]
    have := hW.od hj
    omega
  · intro j k hjk hk
    rw [e1] at hk
    rw [r2 j (by omega), r2 k hk]
    have := fl_ne (turnL_nd (B := hdd S) (rule := S 3) (step := (S 4).toNat) (o := od S) (fun j k hj hk hjk => wf_nd hW hj hk hjk)) hjk (by rw [turnL_len]; exact hk)
    omega
  · intro q hq
    have g := g8 q hq
    have c := hC q hq
    rw [r5, pu q 1 (by omega), pu q 2 (by omega), pu q 3 (by omega), pu q 4 (by omega), pu q 5 (by omega), show S' (26 + 9 * q) = S (26 + 9 * q) from pu q 0 (by omega), r3 (26 + 9 * q + 6) (by omega) (by omega), r3 (26 + 9 * q + 7) (by omega) (by omega), r3 (26 + 9 * q + 8) (by omega) (by omega)]
    exact ⟨g.1, g.2.1, g.2.2.1, g.2.2.2.1, g.2.2.2.2.1, g.2.2.2.2.2.1, c⟩
  · intro i hi
    rw [lo (206 + i) (by omega) (by omega) (by omega)]
    exact g9 i hi
  · intro q hq
    rw [e0] at hq
    rw [pu q 4 (by omega)]
    exact g10 q hq
  · intro q hq hs j hj
    rw [e0] at hs
    rw [r3 (26 + 9 * q + j) (by omega) (by omega), frC_p hj (fun i hi => by have := hW.od hi; omega)]
    exact g11 q hq hs j hj
theorem wf_rs {S G : Nat → Int} (hG : WF G) : WF (rsS S G) := by
  have e : Eqv G (rsS S G) := fun i hi _ => if_pos hi
  exact e.wf hG
theorem wf_cm {S : Nat → Int} (hW : WF S) {x y t g c : Int} (h20 : S 0 ≠ 20) (hx : -15 ≤ x ∧ x ≤ 63) (hy : -15 ≤ y ∧ y ≤ 47) (ht : 0 ≤ t ∧ t ≤ 1) (hg : 0 ≤ g ∧ g ≤ 7) (hc : 1 ≤ c ∧ c ≤ 9) : WF (cmS S x y t g c) := by
  have hn := hW.n
  obtain ⟨g0, g1, g2, g3, g4, g5, g6, g7, g8, g9, g10, g11⟩ := id hW
  obtain ⟨p, hp⟩ : ∃ p : Nat, S 0 = p := ⟨(S 0).toNat, by omega⟩
  obtain ⟨m, hm⟩ : ∃ m : Nat, S 1 = m := ⟨(S 1).toNat, by omega⟩
  have hz := g11 p (by omega) (by omega)
  have hcs : ∀ i, cmS S x y t g c i = if i = 26 + 9 * p + 4 then c else if i = 26 + 9 * p + 3 then g else if i = 26 + 9 * p + 2 then t else if i = 26 + 9 * p + 1 then y else if i = 26 + 9 * p then x else if i = 1 then S 1 + 1 else if i = 6 + m then S 0 else if i = 0 then S 0 + 1 else S i := by
    intro i
    unfold cmS
    rw [show (S 0).toNat = p by omega, show (S 1).toNat = m by omega]
    simp only [u1_app]
  have hot : ∀ i, i ≠ 0 → i ≠ 1 → i ≠ 6 + m → ¬ (26 + 9 * p ≤ i ∧ i < 26 + 9 * p + 5) → cmS S x y t g c i = S i := by
    intro i h0 h1 h2 h3
    rw [hcs, if_neg (by omega), if_neg (by omega), if_neg (by omega), if_neg (by omega), if_neg (by omega), if_neg (by omega), if_neg (by omega), if_neg (by omega)]
  have e0 : cmS S x y t g c 0 = S 0 + 1 := by rw [hcs, if_neg (by omega), if_neg (by omega), if_neg (by omega), if_neg (by omega), if_neg (by omega), if_neg (by omega), if_neg (by omega), if_pos rfl]
  have e1 : cmS S x y t g c 1 = S 1 + 1 := by rw [hcs, if_neg (by omega), if_neg (by omega), if_neg (by omega), if_neg (by omega), if_neg (by omega), if_pos rfl]
  have em : cmS S x y t g c (6 + m) = S 0 := by rw [hcs, if_neg (by omega), if_neg (by omega), if_neg (by omega), if_neg (by omega), if_neg (by omega), if_neg (by omega), if_pos rfl]
  refine ⟨by rw [e0]; omega, by rw [e0, e1]; omega, by rw [hot 2 (by omega) (by omega) (by omega) (by omega)]; exact g2, by rw [hot 3 (by omega) (by omega) (by omega) (by omega)]; exact g3, by rw [hot 4 (by omega) (by omega) (by omega) (by omega)]; exact g4, by rw [hot 5 (by omega) (by omega) (by omega) (by omega)]; exact g5, ?_, ?_, ?_, ?_, ?_, ?_⟩
  · intro k hk
    rw [e1] at hk
    rw [e0]
    by_cases z : k = m
    · subst z; rw [em]; omega
    · rw [hot (6 + k) (by omega) (by omega) (by omega) (by omega)]
      have := g6 k (by omega)
      omega
  · intro j k hjk hk
    rw [e1] at hk
    rw [hot (6 + j) (by omega) (by omega) (by omega) (by omega)]
    by_cases z : k = m
    · subst z
      rw [em]
      have := g6 j (by omega)
      omega
    · rw [hot (6 + k) (by omega) (by omega) (by omega) (by omega)]
      exact g7 j k hjk (by omega)
  · intro q hq
    have gq := g8 q hq
    rw [hot 5 (by omega) (by omega) (by omega) (by omega), hot (26 + 9 * q + 5) (by omega) (by omega) (by omega) (by omega), hot (26 + 9 * q + 6) (by omega) (by omega) (by omega) (by omega), hot (26 + 9 * q + 7) (by omega) (by omega) (by omega) (by omega), hot (26 + 9 * q + 8) (by omega) (by omega) (by omega) (by omega)]
    by_cases z : q = p
    · subst z
      have a0 : cmS S x y t g c (26 + 9 * q) = x := by rw [hcs, if_neg (by omega), if_neg (by omega), if_neg (by omega), if_neg (by omega), if_pos rfl]
      have a1 : cmS S x y t g c (26 + 9 * q + 1) = y := by rw [hcs, if_neg (by omega), if_neg (by omega), if_neg (by omega), if_pos rfl]
      have a2 : cmS S x y t g c (26 + 9 * q + 2) = t := by rw [hcs, if_neg (by omega), if_neg (by omega), if_pos rfl]
      have a3 : cmS S x y t g c (26 + 9 * q + 3) = g := by rw [hcs, if_neg (by omega), if_pos rfl]
      have a4 : cmS S x y t g c (26 + 9 * q + 4) = c := by rw [hcs, if_pos rfl]
      rw [a0, a1, a2, a3, a4]
      exact ⟨hx, hy, ht, hg, ⟨by omega, hc.2⟩, gq.2.2.2.2.2⟩
    · rw [hot (26 + 9 * q) (by omega) (by omega) (by omega) (by omega), hot (26 + 9 * q + 1) (by omega) (by omega) (by omega) (by omega), hot (26 + 9 * q + 2) (by omega) (by omega) (by omega) (by omega), hot (26 + 9 * q + 3) (by omega) (by omega) (by omega) (by omega), hot (26 + 9 * q + 4) (by omega) (by omega) (by omega) (by omega)]
      exact gq
  · intro i hi
    rw [hot (206 + i) (by omega) (by omega) (by omega) (by omega)]
    exact g9 i hi
  · intro q hq
    rw [e0] at hq
    by_cases z : q = p
    · subst z
      rw [hcs, if_pos rfl]
      exact hc.1
    · rw [hot (26 + 9 * q + 4) (by omega) (by omega) (by omega) (by omega)]
      exact g10 q (by omega)
  · intro q hq hs j hj
    rw [e0] at hs
    rw [hot (26 + 9 * q + j) (by omega) (by omega) (by omega) (by omega)]
    exact g11 q hq (by omega) j hj
end
section
/-! the acts of a play -/
def actC (c : Nat) (a : Nat → Int) (S : Nat → Int) : Int :=
  if c = 102 then (if S 5 = 9999 then -103 else 0)
  else if c = 109 then (if thr S (a 0) ∧ (-15 ≤ a 1 ∧ a 1 ≤ 63) ∧ (-15 ≤ a 2 ∧ a 2 ≤ 47) then 0 else -101)
  else if c = 116 then (if thr S (a 0) ∧ (0 ≤ a 1 ∧ a 1 ≤ 3) then 0 else -101)
  else if c = 108 then (if 1 ≤ a 0 ∧ a 0 ≤ 8 then 0 else -101)
  else (if thr S (a 0) then 0 else -101)
def actS (c : Nat) (a : Nat → Int) (S : Nat → Int) : Nat → Int :=
  if c = 102 then frS S
  else if c = 109 then mvS S (a 0).toNat (a 1) (a 2)
  else if c = 116 then u1 S (26 + 9 * (a 0).toNat + 5) (a 1)
  else if c = 108 then u1 S 2 (a 0)
  else if c = 117 then ordS S (S 1).toNat (lftO (od S) (pos S (a 0) (S 1).toNat).toNat)
  else ordS S (S 1).toNat (lowO (od S) (pos S (a 0) (S 1).toNat).toNat (S 1).toNat)
theorem Eqv.u {S S' : Nat → Int} (e : Eqv S S') {i : Nat} (hi : i ≠ 1) (v : Int) : Eqv (u1 S i v) (u1 S' i v) := by
  intro j hj hg
  rw [u1_n _ _ (show (1 : Nat) ≠ i by omega)] at hg
  by_cases z : j = i
  · subst z; rw [u1_s, u1_s]
  · rw [u1_n _ _ z, u1_n _ _ z]; exact e j hj hg
theorem nArg_c {c : Nat} (h : nArg c ≤ 3) : c = 102 ∨ c = 109 ∨ c = 116 ∨ c = 117 ∨ c = 100 ∨ c = 108 := by
  unfold nArg at h
  split at h
  · omega
  · split at h
    · omega
    · split at h
      · omega
      · split at h <;> omega
theorem actC_cg {S S' : Nat → Int} (e : Eqv S S') (hW : WF S) (c : Nat) (a : Nat → Int) : actC c a S' = actC c a S := by
  have h1 := e.pos hW (a 0)
  unfold actC thr
  rw [h1, e 5 (by omega) (by omega)]
theorem pos_lt {S : Nat → Int} (hW : WF S) {p : Int} (h : thr S p) : (pos S p (S 1).toNat).toNat < (S 1).toNat ∧ pos S p (S 1).toNat = ((pos S p (S 1).toNat).toNat : Int) := by
  rcases pos_b S p (S 1).toNat with h1 | ⟨h1, h2⟩
  · exact absurd h1 h
  · omega
theorem actS_cg {S S' : Nat → Int} (e : Eqv S S') (hW : WF S) (c : Nat) (a : Nat → Int) (hC : 0 ≤ actC c a S) : Eqv (actS c a S) (actS c a S') := by
  have h1 := e.pos hW (a 0)
  have hS : ∀ i, i < 270 → ¬ (6 ≤ i ∧ i < 26) → S' i = S i := fun i hi hg => e i hi (by omega)
  unfold actC at hC
  unfold actS
  split
  · exact frS_cg e hW
  · next g1 =>
    rw [if_neg g1] at hC
    split
    · exact (e.u (by omega) _).u (by omega) _
    · next g2 =>
      rw [if_neg g2] at hC
      split
      · exact e.u (by omega) _
      · next g3 =>
        rw [if_neg g3] at hC
        split
        · exact e.u (by omega) _
        · next g4 =>
          rw [if_neg g4] at hC
          have ht : thr S (a 0) := by
            apply Classical.byContradiction
            intro z
            rw [if_neg z] at hC
            omega
          have hp := (pos_lt hW ht).1
          rw [h1, e.n]
          split
          · refine ordS_cg hS (fun k hk => ?_)
            unfold lftO
            split
            · exact e.od hW hp
            · split
              · exact e.od hW (by omega)
              · exact e.od hW hk
          · refine ordS_cg hS (fun k hk => ?_)
            unfold lowO
            split
            · exact e.od hW hk
            · split
              · exact e.od hW (by omega)
              · exact e.od hW hp
theorem ro_ord (S : Nat → Int) {n : Nat} (hn : n ≤ 20) (o : Nat → Nat) : ROrd S n o (ordS S n o) := by
  refine ⟨rfl, fun k hk => ?_, fun i h1 h2 => ?_⟩
  · unfold ordS
    rw [if_neg (by omega), if_pos (by omega), show 6 + k - 6 = k by omega]
  · unfold ordS
    rw [if_neg h1, if_neg h2]
theorem rf_fr {S : Nat → Int} (hW : WF S) : RFr S (frS S) := by
  have hn := hW.n
  refine ⟨rfl, fun k hk => ?_, fun i h1 h2 => ?_⟩
  · unfold frS
    rw [if_neg (by omega), if_pos (by omega), show 6 + k - 6 = k by omega]
  · unfold frS
    rw [if_neg h1, if_neg h2]
theorem actS_wf {S : Nat → Int} (hW : WF S) (c : Nat) (a : Nat → Int) (hC : 0 ≤ actC c a S) : WF (actS c a S) := by
  have hn := hW.n
  unfold actC at hC
  unfold actS
  split
  · next g1 =>
    rw [if_pos g1] at hC
    exact wf_fr hW (rf_fr hW) (fun z => by rw [if_pos z] at hC; omega)
  · next g1 =>
    rw [if_neg g1] at hC
    split
    · next g2 =>
      rw [if_pos g2] at hC
      have ht : thr S (a 0) ∧ (-15 ≤ a 1 ∧ a 1 ≤ 63) ∧ (-15 ≤ a 2 ∧ a 2 ≤ 47) := by
        apply Classical.byContradiction
        intro z
        rw [if_neg z] at hC
        omega
      have hb := thr_b hW ht.1
      exact hW.mv (by omega) ht.2.1 ht.2.2
    · next g2 =>
      rw [if_neg g2] at hC
      split
      · next g3 =>
        rw [if_pos g3] at hC
        have ht : thr S (a 0) ∧ (0 ≤ a 1 ∧ a 1 ≤ 3) := by
          apply Classical.byContradiction
          intro z
          rw [if_neg z] at hC
          omega
        have hb := thr_b hW ht.1
        exact hW.tu (by omega) ht.2
      · next g3 =>
        rw [if_neg g3] at hC
        split
        · next g4 =>
          rw [if_pos g4] at hC
          exact hW.li (by apply Classical.byContradiction; intro z; rw [if_neg z] at hC; omega)
        · next g4 =>
          rw [if_neg g4] at hC
          have ht : thr S (a 0) := by
            apply Classical.byContradiction
            intro z
            rw [if_neg z] at hC
            omega
          have hp := (pos_lt hW ht).1
          split
          · exact wf_lft hW hp (ro_ord S hn.2.1 _)
          · exact wf_low hW hp (ro_ord S hn.2.1 _)
theorem rg_s {v : Int} (h : -1000 < v ∧ v < 1000) : rg v := ⟨by have := h.1; omega, by have := h.2; omega⟩
set_option maxHeartbeats 2000000 in
theorem c_M_codeOf {S : Nat → Int} {x1 x2 x3 x4 : Int32} {h : St} {Q : Option Value → St → Prop} (hS : MS S h) (hW : WF S) (c : Nat) (a : Nat → Int) (hc : nArg c ≤ 3) (ha : ∀ j, j < nArg c → -1000 < a j ∧ a j < 1000) (hQ : Q (some (.int (iI (actC c a S)))) h) (h1 : x1 = iI c) (h2 : 0 < nArg c → x2 = iI (a 0)) (h3 : 1 < nArg c → x3 = iI (a 1)) (h4 : 2 < nArg c → x4 = iI (a 2)) : SC y_M_codeOf [.ref 90, .int x1, .int x2, .int x3, .int x4] h Q := by
  rcases nArg_c hc with rfl | rfl | rfl | rfl | rfl | rfl
  · subst h1
    refine w_call IS_ok [] ok_M_codeOf rfl rfl ?_
    refine c_M_frameCode hS hW ?_
    have e : actC 102 a S = if S 5 = 9999 then -103 else 0 := rfl
    rw [e] at hQ
    split at hQ
    · next g => rw [if_pos g]; exact hQ
    · next g => rw [if_neg g]; exact hQ
  · subst h1
    refine w_call IS_ok [] ok_M_codeOf rfl rfl ?_
    refine c_M_moveCode hS hW (a 0) (a 1) (a 2) ?_ (h2 (by decide)) (h3 (by decide)) (h4 (by decide)) (rg_s (ha 0 (by decide))) (rg_s (ha 1 (by decide))) (rg_s (ha 2 (by decide)))
    have e : actC 109 a S = if thr S (a 0) ∧ (-15 ≤ a 1 ∧ a 1 ≤ 63) ∧ (-15 ≤ a 2 ∧ a 2 ≤ 47) then 0 else -101 := rfl
    rw [e] at hQ
    split at hQ
    · next g => rw [if_pos g]; exact hQ
    · next g => rw [if_neg g]; exact hQ
  · subst h1
    refine w_call IS_ok [] ok_M_codeOf rfl rfl ?_
    refine c_M_turnCode hS hW (a 0) (a 1) ?_ (h2 (by decide)) (h3 (by decide)) (rg_s (ha 0 (by decide))) (rg_s (ha 1 (by decide)))
    have e : actC 116 a S = if thr S (a 0) ∧ (0 ≤ a 1 ∧ a 1 ≤ 3) then 0 else -101 := rfl
    rw [e] at hQ
    split at hQ
    · next g => rw [if_pos g]; exact hQ
    · next g => rw [if_neg g]; exact hQ
  · subst h1
    refine w_call IS_ok [] ok_M_codeOf rfl rfl ?_
    refine c_M_thereCode hS hW (a 0) ?_ (h2 (by decide)) (rg_s (ha 0 (by decide)))
    have e : actC 117 a S = if thr S (a 0) then 0 else -101 := rfl
    rw [e] at hQ
    split at hQ
    · next g => rw [if_pos g]; exact hQ
    · next g => rw [if_neg g]; exact hQ
  · subst h1
    refine w_call IS_ok [] ok_M_codeOf rfl rfl ?_
    refine c_M_thereCode hS hW (a 0) ?_ (h2 (by decide)) (rg_s (ha 0 (by decide)))
    have e : actC 100 a S = if thr S (a 0) then 0 else -101 := rfl
    rw [e] at hQ
    split at hQ
    · next g => rw [if_pos g]; exact hQ
    · next g => rw [if_neg g]; exact hQ
  · subst h1
    refine w_call IS_ok [] ok_M_codeOf rfl rfl ?_
    refine c_M_limitCode (a 0) ?_ (h2 (by decide)) (rg_s (ha 0 (by decide)))
    have e : actC 108 a S = if 1 ≤ a 0 ∧ a 0 ≤ 8 then 0 else -101 := rfl
    rw [e] at hQ
    split at hQ
    · next g => rw [if_pos g]; exact hQ
    · next g => rw [if_neg g]; exact hQ
theorem hidN_le (S : Nat → Int) : hidN S ≤ 20 := sm_le (b := 1) (fun i _ => by split <;> omega)
theorem lns_le (S : Nat → Int) (p n : Nat) : lns S p n ≤ n := by
  have := sm_le (f := fun y => if stn S p y then 1 else 0) (b := 1) (n := n) (fun i _ => by split <;> omega)
  unfold lns
  omega
set_option maxHeartbeats 2000000 in
theorem c_M_carry {S : Nat → Int} {x1 x2 x3 x4 : Int32} {h : St} {Q : Option Value → St → Prop} (hS : MS S h) (hW : WF S) (c : Nat) (a : Nat → Int) (hc : nArg c ≤ 3) (hC : 0 ≤ actC c a S) (hQ : ∀ h' S' (r : Nat), Sm [] [98, 96, 91] h h' → MS S' h' → Eqv (actS c a S) S' → r < 1000 → Q (some (.int (iI r))) h') (h1 : x1 = iI c) (h2 : 0 < nArg c → x2 = iI (a 0)) (h3 : 1 < nArg c → x3 = iI (a 1)) (h4 : 2 < nArg c → x4 = iI (a 2)) : SC y_M_carry [.ref 90, .int x1, .int x2, .int x3, .int x4] h Q := by
  have hn := hW.n
  rcases nArg_c hc with rfl | rfl | rfl | rfl | rfl | rfl
  · subst h1
    refine w_call IS_ok [] ok_M_carry rfl rfl ?_
    refine c_M_frameNow hS hW (fun h' S' hs hM hR => ?_)
    exact hQ h' S' (hidN S) (hs.mo (by decide) (by decide)) hM (fr_eqv hW hR) (by have := hidN_le S; omega)
  · subst h1
    have e : actC 109 a S = if thr S (a 0) ∧ (-15 ≤ a 1 ∧ a 1 ≤ 63) ∧ (-15 ≤ a 2 ∧ a 2 ≤ 47) then 0 else -101 := rfl
    have g : thr S (a 0) ∧ (-15 ≤ a 1 ∧ a 1 ≤ 63) ∧ (-15 ≤ a 2 ∧ a 2 ≤ 47) := by
      apply Classical.byContradiction
      intro z
      rw [e, if_neg z] at hC
      omega
    have hb := thr_b hW g.1
    refine w_call IS_ok [] ok_M_carry rfl rfl ?_
    refine c_M_moveNow hS (a 0).toNat (a 1) (a 2) (hW.mv (by omega) g.2.1 g.2.2).wp (by omega) (fun h' hs hM => ?_) ((h2 (by decide)).trans (congrArg iI (by omega))) (h3 (by decide)) (h4 (by decide))
    exact hQ h' _ (lns (mvS S (a 0).toNat (a 1) (a 2)) (a 0).toNat 48) (hs.mo (by decide) (by decide)) hM (Eqv.rf _) (by have := lns_le (mvS S (a 0).toNat (a 1) (a 2)) (a 0).toNat 48; omega)
  · subst h1
    have e : actC 116 a S = if thr S (a 0) ∧ (0 ≤ a 1 ∧ a 1 ≤ 3) then 0 else -101 := rfl
    have g : thr S (a 0) ∧ (0 ≤ a 1 ∧ a 1 ≤ 3) := by
      apply Classical.byContradiction
      intro z
      rw [e, if_neg z] at hC
      omega
    have hb := thr_b hW g.1
    have hw := (hW.wp (a 0).toNat (by omega)).2.2.2.2.2.1
    refine w_call IS_ok [] ok_M_carry rfl rfl ?_
    refine c_M_turnNow hS (a 0).toNat (a 1) (by omega) (fun h' hs hM => ?_) ((h2 (by decide)).trans (congrArg iI (by omega))) (h3 (by decide))
    have := hQ h' _ (S (26 + 9 * (a 0).toNat + 5)).toNat (hs.mo (by decide) (by decide)) hM (Eqv.rf _) (by omega)
    rw [show (((S (26 + 9 * (a 0).toNat + 5)).toNat : Nat) : Int) = S (26 + 9 * (a 0).toNat + 5) by omega] at this
    exact this
  · subst h1
    have e : actC 117 a S = if thr S (a 0) then 0 else -101 := rfl
    have g : thr S (a 0) := by
      apply Classical.byContradiction
      intro z
      rw [e, if_neg z] at hC
      omega
    refine w_call IS_ok [] ok_M_carry rfl rfl ?_
    refine c_M_liftNow hS hW (a 0) g (fun h' S' q hs hM hp hq hR => ?_) (h2 (by decide))
    refine hQ h' S' q (hs.mo (by decide) (by decide)) hM ?_ (by omega)
    have := ord_eqv hR
    rw [show q = (pos S (a 0) (S 1).toNat).toNat by omega] at this
    exact this
  · subst h1
    have e : actC 100 a S = if thr S (a 0) then 0 else -101 := rfl
    have g : thr S (a 0) := by
      apply Classical.byContradiction
      intro z
      rw [e, if_neg z] at hC
      omega
    refine w_call IS_ok [] ok_M_carry rfl rfl ?_
    refine c_M_lowerNow hS hW (a 0) g (fun h' S' q hs hM hp hq hR => ?_) (h2 (by decide))
    refine hQ h' S' q (hs.mo (by decide) (by decide)) hM ?_ (by omega)
    have := ord_eqv hR
    rw [show q = (pos S (a 0) (S 1).toNat).toNat by omega] at this
    exact this
  · subst h1
    have hw := hW.2.2.1
    refine w_call IS_ok [] ok_M_carry rfl rfl ?_
    refine c_M_limitNow hS (a 0) (fun h' hs hM => ?_) (h2 (by decide))
    have := hQ h' _ (S 2).toNat (hs.mo (by decide) (by decide)) hM (Eqv.rf _) (by omega)
    rw [show (((S 2).toNat : Nat) : Int) = S 2 by omega] at this
    exact this
end
section
/-! a play is run -/
theorem actC_v (c : Nat) (a : Nat → Int) (S : Nat → Int) : actC c a S = 0 ∨ actC c a S = -101 ∨ actC c a S = -103 := by
  unfold actC
  split
  · split <;> simp
  · split
    · split <;> simp
    · split
      · split <;> simp
      · split
        · split <;> simp
        · split <;> simp
abbrev letr (T : Nat → Nat) (e : Ent) : Nat := T e.1
theorem c_M_runAct_1 {n : Nat} {T : Nat → Nat} {x1 x2 : Int32} {h : St} {Q : Option Value → St → Prop} (hB : TxB n T) (e : Ent) (he : EntOk n T e) (j m : Nat) (hj : j < 100) (hm : m ≤ 200) (hcd : CdR T h j (cAct e))
    (hQ0 : ∀ h', m = 200 → Sm [(90, 25), (90, 21)] [108] h h' → h'.1 90 25 = 0 → MFl 1 (fG 3 e.1 e.2.1 0 (-109)) h' → Q (some (.int (iI 200))) h')
    (hQ1 : m < 200 → Q (some (.int (iI (m + 1 : Nat)))) h) (h1 : x1 = iI j) (h2 : x2 = iI m) : SC y_M_runAct [.ref 90, .int x1, .int x2, .int 1] h Q := by
  refine w_call IS_ok [] ok_M_runAct rfl rfl ?_
  have hn100 := hB.1
  obtain ⟨c0, c1, c2, c3, c4, c5⟩ := hcd
  refine w_ix j ?_ h1 (show j < 100 from hj)
  refine w_ix e.1 ?_ c1 (show e.1 < 100 by have := he.1; omega)
  refine w_eq m 200 (fun g => ?_) (fun g => ?_) h2 rfl
  · refine w_ix j ?_ h1 (show j < 100 from hj)
    refine w_ix j ?_ h1 (show j < 100 from hj)
    refine c_M_fail 3 e.1 e.2.1 0 (-109) (fun h' hs h25 hF => ?_) rfl c1 c2 rfl rfl
    have := hQ0 h' (by omega) hs h25 hF
    rw [h2, show (m : Int) = 200 by omega]
    exact this
  · have := hQ1 (by omega)
    rw [← iI_1 h2] at this
    exact this
set_option maxHeartbeats 1000000 in
theorem c_M_runAct_0 {n : Nat} {T : Nat → Nat} {S : Nat → Int} {x1 x2 : Int32} {h : St} {Q : Option Value → St → Prop} (hB : TxB n T) (hT : MTx n T h) (hS : MS S h) (hW : WF S) (e : Ent) (he : EntOk n T e) (j m : Nat) (hj : j < 100) (hm : m < 200) (hcd : CdR T h j (cAct e))
    (hQ0 : ∀ h', actC (T e.1) e.2.2 S < 0 → Sm [(90, 25), (90, 21)] [108] h h' → h'.1 90 25 = 0 → MFl 1 (fG 2 e.1 e.2.1 m (actC (T e.1) e.2.2 S)) h' → Q (some (.int (iI m))) h')
    (hQ1 : ∀ h' S', 0 ≤ actC (T e.1) e.2.2 S → Sm [] [98, 96, 91] h h' → MS S' h' → Eqv (actS (T e.1) e.2.2 S) S' → Q (some (.int (iI (m + 1 : Nat)))) h') (h1 : x1 = iI j) (h2 : x2 = iI m) : SC y_M_runAct [.ref 90, .int x1, .int x2, .int 0] h Q := by
  refine w_call IS_ok [] ok_M_runAct rfl rfl ?_
  have hn100 := hB.1
  obtain ⟨e1, e2, e3, e4⟩ := id he
  obtain ⟨c0, c1, c2, c3, c4, c5⟩ := hcd
  refine w_ix j ?_ h1 (show j < 100 from hj)
  refine w_ix e.1 ?_ c1 (show e.1 < 100 by omega)
  refine w_eq m 200 (fun g => by omega) (fun g => ?_) h2 rfl
  refine w_ix j ?_ h1 (show j < 100 from hj)
  refine w_ix j ?_ h1 (show j < 100 from hj)
  refine w_ix j ?_ h1 (show j < 100 from hj)
  refine c_M_codeOf hS hW (T e.1) e.2.2 e2 e4 ?_ (hT.2 _ e1) c3 c4 c5
  have hv := actC_v (T e.1) e.2.2 S
  refine w_le 0 (actC (T e.1) e.2.2 S) (fun g => ?_) (fun g => ?_) rfl rfl
  · refine w_ix j ?_ h1 (show j < 100 from hj)
    refine w_ix j ?_ h1 (show j < 100 from hj)
    refine w_ix j ?_ h1 (show j < 100 from hj)
    refine c_M_carry hS hW (T e.1) e.2.2 e2 g (fun h' S' r hs hM hE hr => ?_) (hT.2 _ e1) c3 c4 c5
    refine w_le 0 r (fun g2 => ?_) (fun g2 => by omega) rfl rfl
    have := hQ1 h' S' g hs hM hE
    rw [← iI_1 h2] at this
    exact this
  · refine w_ix j ?_ h1 (show j < 100 from hj)
    refine w_ix j ?_ h1 (show j < 100 from hj)
    refine c_M_fail 2 e.1 e.2.1 m (actC (T e.1) e.2.2 S) (fun h' hs h25 hF => ?_) rfl c1 c2 h2 rfl
    have := hQ0 h' g hs h25 hF
    rw [h2]
    exact this
end
section
/-! a play is tried -/
abbrev LR (tr z2 z3 z4 : Int32) (L5 : Option Value) : List (Option Value) := [some (.ref 90), some (.int tr), some (.int z2), some (.int z3), some (.int z4), L5]
def TryP (h0 : St) (c : Nat) (Q : Option Value → St → Prop) (lv i j : Nat) (l : List Ent) : Prop :=
  j ≤ c → ∀ (hcc : St) (m : Nat) (z2 z3 z4 : Int32) (L5 : Option Value), m ≤ 200 → Sm [] [106] h0 hcc → z2 = iI m → z3 = iI lv → z4 = iI i →
  (m + l.length ≤ 200 → ∀ (h' : St) (w2 w3 w4 : Int32) (L : Option Value), Sm [] [106] h0 h' → (∀ q, q < lv → h'.2 106 q = hcc.2 106 q) → w2 = iI (m + l.length : Nat) → w3 = iI lv → w4 = iI j → SR y_M_runPlay 7 (LR 1 w2 w3 w4 L) [] h' Q) →
  (∀ (e : Ent) (h' : St), l[200 - m]? = some e → Sm [(90, 25), (90, 21)] [108, 106] h0 h' → h'.1 90 25 = 0 → MFl 1 (fG 3 e.1 e.2.1 0 (-109)) h' → Q (some (.int (iI 200))) h') →
  SR y_M_runPlay 7 (LR 1 z2 z3 z4 L5) [] hcc Q
theorem CdR.sm {T : Nat → Nat} {h h' : St} {j : Nat} {x : Cod} {X : List (Nat × Nat)} {Y : List Nat} (a : CdR T h j x) (s : Sm X Y h h') (hy : ∀ r ∈ Y, r < 99 ∨ 104 < r) : CdR T h' j x := by
  refine a.kp (c := j + 1) (fun r h1 h2 q _ => ?_) (by omega)
  rw [s.2 r (fun z => by have := hy r z; omega)]
theorem app_r {l1 l2 : List Ent} {m : Nat} {e : Ent} (hm : m + l1.length ≤ 200) (h : l2[200 - (m + l1.length)]? = some e) : (l1 ++ l2)[200 - m]? = some e := by
  rw [List.getElem?_append_right (by omega), show 200 - m - l1.length = 200 - (m + l1.length) by omega]
  exact h
theorem app_l {l1 l2 : List Ent} {k : Nat} {e : Ent} (h : l1[k]? = some e) : (l1 ++ l2)[k]? = some e := by
  have : k < l1.length := by
    apply Classical.byContradiction
    intro z
    rw [List.getElem?_eq_none (by omega)] at h
    cases h
  rw [List.getElem?_append_left this]
  exact h
set_option maxHeartbeats 2000000 in
theorem tryP_seg {n : Nat} {T : Nat → Nat} {h0 : St} {C : Nat → Cod} {c : Nat} {Q : Option Value → St → Prop} (hB : TxB n T) (hc : c ≤ 100) (h17 : h0.1 90 17 = iI c) (h25 : h0.1 90 25 = 1) (hcd : ∀ j, j < c → CdR T h0 j (C j)) (hok : ∀ j, j < c → ∀ e, C j = cAct e → EntOk n T e) {lv i j : Nat} {l : List Ent} (sg : Seg C lv i j l) : TryP h0 c Q lv i j l := by
  refine (sg (fun lv i j l => i ≤ j ∧ TryP h0 c Q lv i j l) ?_ ?_ ?_).2
  · intro lv i
    refine ⟨Nat.le_refl _, ?_⟩
    intro hj hcc m z2 z3 z4 L5 hm hs e2 e3 e4 hd hf
    exact hd hm hcc z2 z3 z4 L5 hs (fun _ _ => rfl) e2 e3 e4
  · intro lv i j l e ih hC
    refine ⟨by omega, ?_⟩
    intro hj hcc m z2 z3 z4 L5 hm hs e2 e3 e4 hd hf
    refine ih.2 (by omega) hcc m z2 z3 z4 L5 hm hs e2 e3 e4 (fun hml h1 w2 w3 w4 L hs1 hk1 f2 f3 f4 => ?_) (fun e' h' he => hf e' h' (app_l he))
    have hcj := (hcd j (by omega)).sm hs1 (by decide)
    rw [hC] at hcj
    have g25 : h1.1 90 25 = 1 := (hs1.1 _ _ (by decide)).trans h25
    refine w_loop IS_ok [7] ok_M_runPlay ?_
    refine w_if (fun z => absurd (show (1 : Int32) = 0 by rw [← g25]; exact z) (by decide)) (fun _ => ?_)
    refine w_le c j (fun _ => by omega) (fun _ => ?_) ((hs1.1 _ _ (by decide)).trans h17) f4
    refine w_ix j ?_ f4 (show j < 100 by omega)
    refine w_if (fun _ => ?_) (fun z => absurd hcj.1 z)
    refine c_M_runAct_1 hB e (hok j (by omega) e hC) j (m + l.length) (by omega) hml hcj (fun h' hm2 hs' h25' hF => ?_) (fun hm2 => ?_) f4 f2
    · refine w_loop IS_ok [] ok_M_runPlay ?_
      refine w_if (fun _ => ?_) (fun z => absurd h25' z)
      refine hf e h' (app_r (by omega) ?_) ((hs1.mo (by decide) (by decide)).t (hs'.mo (by decide) (by decide))) h25' hF
      rw [show 200 - (m + l.length) = 0 by omega]
      rfl
    · refine hd (by rw [List.length_append, List.length_singleton]; omega) h1 _ _ _ _ hs1 hk1 (congrArg iI (by rw [List.length_append, List.length_singleton]; omega)) f3 (iI_1 f4)
  · intro lv i o j l t b ih1 ih2 hCo hCj t1 t9 hlv
    refine ⟨by omega, ?_⟩
    intro hj hcc m z2 z3 z4 L5 hm hs e2 e3 e4 hd hf
    have hio := ih1.1
    have hoj := ih2.1
    -- the repetitions
    have rep : ∀ (s : Nat), 1 ≤ s → s ≤ 9 → ∀ (h1 : St) (m1 : Nat) (w2 w3 w4 : Int32) (L : Option Value), m1 ≤ 200 → Sm [] [106] h0 h1 → (∀ q, q < lv → h1.2 106 q = hcc.2 106 q) → h1.2 106 lv = iI (s : Nat) → w2 = iI m1 → w3 = iI (lv + 1 : Nat) → w4 = iI (o + 1 : Nat) →
        (m1 + (List.replicate s b).flatten.length ≤ 200 → ∀ (h' : St) (v2 v3 v4 : Int32) (L : Option Value), Sm [] [106] h0 h' → (∀ q, q < lv → h'.2 106 q = hcc.2 106 q) → v2 = iI (m1 + (List.replicate s b).flatten.length : Nat) → v3 = iI lv → v4 = iI (j + 1 : Nat) → SR y_M_runPlay 7 (LR 1 v2 v3 v4 L) [] h' Q) →
        (∀ (e : Ent) (h' : St), (List.replicate s b).flatten[200 - m1]? = some e → Sm [(90, 25), (90, 21)] [108, 106] h0 h' → h'.1 90 25 = 0 → MFl 1 (fG 3 e.1 e.2.1 0 (-109)) h' → Q (some (.int (iI 200))) h') →
        SR y_M_runPlay 7 (LR 1 w2 w3 w4 L) [] h1 Q := by
      intro s
      induction s with
      | zero => intro z; omega
      | succ s ihs =>
        intro _ hs9 h1 m1 w2 w3 w4 L hm1 hs1 hk1 hl1 f2 f3 f4 hd1 hf1
        have hfl : (List.replicate (s + 1) b).flatten = b ++ (List.replicate s b).flatten := by rw [List.replicate_succ, List.flatten_cons]
        rw [hfl] at hd1 hf1
        refine ih2.2 (by omega) h1 m1 w2 w3 w4 L hm1 hs1 f2 f3 f4 (fun hml h2 v2 v3 v4 L2 hs2 hk2 g2 g3 g4 => ?_) (fun e' h' he => hf1 e' h' (app_l he))
        have hcj := (hcd j (by omega)).sm hs2 (by decide)
        rw [hCj] at hcj
        have g25 : h2.1 90 25 = 1 := (hs2.1 _ _ (by decide)).trans h25
        have hl2 : h2.2 106 lv = iI (s + 1 : Nat) := (hk2 lv (by omega)).trans hl1
        have hl3 : h2.2 106 lv - 1 = iI (s : Nat) := iI_q hl2 (by omega)
        have e3' : v3 - 1 = iI (lv : Nat) := iI_q g3 (by omega)
        have hs3 : Sm [] [106] h0 (wa h2 106 lv (h2.2 106 lv - 1)) := hs2.t (Sm.wa _ _ (by decide))
        have hk3 : ∀ q, q < lv → (wa h2 106 lv (h2.2 106 lv - 1)).2 106 q = hcc.2 106 q := fun q hq => by rw [wa_n _ _ _ _ (by omega), hk2 q (by omega), hk1 q hq]
        refine w_loop IS_ok [7] ok_M_runPlay ?_
        refine w_if (fun z => absurd (show (1 : Int32) = 0 by rw [← g25]; exact z) (by decide)) (fun _ => ?_)
        refine w_le c j (fun _ => by omega) (fun _ => ?_) ((hs2.1 _ _ (by decide)).trans h17) g4
        refine w_ix j ?_ g4 (show j < 100 by omega)
        refine w_if (fun z => absurd (show (2 : Int32) = 0 by rw [← hcj.1]; exact z) (by decide)) (fun _ => ?_)
        refine w_ix j ?_ g4 (show j < 100 by omega)
        refine w_if (fun z => absurd (show (2 : Int32) = 1 by rw [← hcj.1]; exact z) (by decide)) (fun _ => ?_)
        refine w_ix lv ?_ e3' (show lv < 5 by omega)
        refine w_ix lv ?_ e3' (show lv < 5 by omega)
        refine w_ix lv ?_ e3' (show lv < 5 by omega)
        refine w_le s 0 (fun g => ?_) (fun g => ?_) ((wa_s h2 106 lv (h2.2 106 lv - 1)).trans hl3) rfl
        · have hs0 : s = 0 := by omega
          subst hs0
          refine hd1 (by rw [List.length_append]; exact hml) (wa h2 106 lv (h2.2 106 lv - 1)) _ _ _ _ hs3 hk3 (g2.trans (congrArg iI (by rw [List.length_append]; rfl))) ?_ (iI_1 g4)
          exact e3'
        · refine w_ix j ?_ g4 (show j < 100 by omega)
          refine ihs (by omega) (by omega) (wa h2 106 lv (h2.2 106 lv - 1)) (m1 + b.length) _ _ _ _ hml hs3 hk3 ((wa_s _ _ _ _).trans hl3) g2 ?_ (iI_1 hcj.2) (fun hml2 h' u2 u3 u4 L3 hs4 hk4 f2 f3 f4 => ?_) (fun e' h' he => hf1 e' h' (app_r hml he))
          · rw [g3]; exact (iI_sub _ 0).trans (congrArg iI (by omega))
          · refine hd1 (by rw [List.length_append]; omega) h' u2 u3 u4 L3 hs4 hk4 (f2.trans (congrArg iI (by rw [List.length_append]; omega))) f3 f4
    refine ih1.2 (by omega) hcc m z2 z3 z4 L5 hm hs e2 e3 e4 (fun hml h1 w2 w3 w4 L hs1 hk1 f2 f3 f4 => ?_) (fun e' h' he => hf e' h' (app_l he))
    have hco := (hcd o (by omega)).sm hs1 (by decide)
    rw [hCo] at hco
    have g25 : h1.1 90 25 = 1 := (hs1.1 _ _ (by decide)).trans h25
    refine w_loop IS_ok [7] ok_M_runPlay ?_
    refine w_if (fun z => absurd (show (1 : Int32) = 0 by rw [← g25]; exact z) (by decide)) (fun _ => ?_)
    refine w_le c o (fun _ => by omega) (fun _ => ?_) ((hs1.1 _ _ (by decide)).trans h17) f4
    refine w_ix o ?_ f4 (show o < 100 by omega)
    refine w_if (fun z => absurd (show (1 : Int32) = 0 by rw [← hco.1]; exact z) (by decide)) (fun _ => ?_)
    refine w_ix o ?_ f4 (show o < 100 by omega)
    refine w_if (fun _ => ?_) (fun z => absurd hco.1 z)
    refine w_ix o ?_ f4 (show o < 100 by omega)
    refine w_ix lv ?_ f3 (show lv < 5 by omega)
    refine rep t t1 t9 (wa h1 106 lv (h1.2 102 o)) (m + l.length) _ _ _ _ hml (hs1.t (Sm.wa _ _ (by decide))) (fun q hq => by rw [wa_n _ _ _ _ (by omega), hk1 q hq]) ((wa_s _ _ _ _).trans hco.2) f2 (iI_1 f3) (iI_1 f4) (fun hml2 h' u2 u3 u4 L3 hs4 hk4 k2 k3 k4 => ?_) (fun e' h' he => hf e' h' (app_r hml he))
    exact hd (by rw [List.length_append]; omega) h' u2 u3 u4 L3 hs4 hk4 (k2.trans (congrArg iI (by rw [List.length_append]; omega))) k3 k4
end
section
/-! a play is run in earnest -/
/-- acts are run, m behind them: what fails (the act, how many were run, its code), or the state behind them -/
def runF (T : Nat → Nat) : List Ent → Nat → (Nat → Int) → (Ent × Nat × Int) ⊕ (Nat → Int)
  | [], _, S => .inr S
  | e :: l, m, S => if actC (T e.1) e.2.2 S < 0 then .inl (e, m, actC (T e.1) e.2.2 S) else runF T l (m + 1) (actS (T e.1) e.2.2 S)
theorem runF_l {T : Nat → Nat} {l2 : List Ent} {x : Ent × Nat × Int} : ∀ {l1 : List Ent} {m : Nat} {S : Nat → Int}, runF T l1 m S = .inl x → runF T (l1 ++ l2) m S = .inl x
  | [], m, S, h => by cases h
  | e :: l, m, S, h => by
    show runF T (e :: (l ++ l2)) m S = .inl x
    unfold runF at h ⊢
    split
    · next g => rw [if_pos g] at h; exact h
    · next g => rw [if_neg g] at h; exact runF_l h
theorem runF_r {T : Nat → Nat} {l2 : List Ent} {S' : Nat → Int} : ∀ {l1 : List Ent} {m : Nat} {S : Nat → Int}, runF T l1 m S = .inr S' → runF T (l1 ++ l2) m S = runF T l2 (m + l1.length) S'
  | [], m, S, h => by cases h; rfl
  | e :: l, m, S, h => by
    show runF T (e :: (l ++ l2)) m S = _
    unfold runF at h
    conv => lhs; unfold runF
    split
    · next g => rw [if_pos g] at h; cases h
    · next g =>
      rw [if_neg g] at h
      rw [runF_r h, List.length_cons, show m + 1 + l.length = m + (l.length + 1) by omega]
def RunP (T : Nat → Nat) (h0 : St) (c : Nat) (Q : Option Value → St → Prop) (lv i j : Nat) (l : List Ent) : Prop :=
  j ≤ c → ∀ (hcc : St) (m : Nat) (S S0 : Nat → Int) (z2 z3 z4 : Int32) (L5 : Option Value), m + l.length ≤ 200 → Sm [] [106, 98, 96, 91] h0 hcc → MS S0 hcc → Eqv S S0 → WF S → z2 = iI m → z3 = iI lv → z4 = iI i →
  (∀ (S' S0' : Nat → Int) (h' : St) (w2 w3 w4 : Int32) (L : Option Value), runF T l m S = .inr S' → Sm [] [106, 98, 96, 91] h0 h' → MS S0' h' → Eqv S' S0' → WF S' → (∀ q, q < lv → h'.2 106 q = hcc.2 106 q) → w2 = iI (m + l.length : Nat) → w3 = iI lv → w4 = iI j → SR y_M_runPlay 7 (LR 0 w2 w3 w4 L) [] h' Q) →
  (∀ (e : Ent) (k : Nat) (cd : Int) (h' : St), runF T l m S = .inl (e, k, cd) → Sm [(90, 25), (90, 21)] [108, 106, 98, 96, 91] h0 h' → h'.1 90 25 = 0 → MFl 1 (fG 2 e.1 e.2.1 k cd) h' → Q (some (.int (iI k))) h') →
  SR y_M_runPlay 7 (LR 0 z2 z3 z4 L5) [] hcc Q
set_option maxHeartbeats 2000000 in
theorem runP_seg {n : Nat} {T : Nat → Nat} {h0 : St} {C : Nat → Cod} {c : Nat} {Q : Option Value → St → Prop} (hB : TxB n T) (hT : MTx n T h0) (hc : c ≤ 100) (h17 : h0.1 90 17 = iI c) (h25 : h0.1 90 25 = 1) (hcd : ∀ j, j < c → CdR T h0 j (C j)) (hok : ∀ j, j < c → ∀ e, C j = cAct e → EntOk n T e) {lv i j : Nat} {l : List Ent} (sg : Seg C lv i j l) : RunP T h0 c Q lv i j l := by
  refine (sg (fun lv i j l => i ≤ j ∧ RunP T h0 c Q lv i j l) ?_ ?_ ?_).2
  · intro lv i
    refine ⟨Nat.le_refl _, ?_⟩
    intro hj hcc m S S0 z2 z3 z4 L5 hm hs hM hE hW e2 e3 e4 hd hf
    exact hd S S0 hcc z2 z3 z4 L5 rfl hs hM hE hW (fun _ _ => rfl) e2 e3 e4
  · intro lv i j l e ih hC
    refine ⟨by omega, ?_⟩
    intro hj hcc m S S0 z2 z3 z4 L5 hm hs hM hE hW e2 e3 e4 hd hf
    rw [List.length_append, List.length_singleton] at hm
    refine ih.2 (by omega) hcc m S S0 z2 z3 z4 L5 (by omega) hs hM hE hW e2 e3 e4 (fun S1 S2 h1 w2 w3 w4 L hr1 hs1 hM1 hE1 hW1 hk1 f2 f3 f4 => ?_) (fun e' k cd h' he => hf e' k cd h' (runF_l he))
    have hcj := (hcd j (by omega)).sm hs1 (by decide)
    rw [hC] at hcj
    have g25 : h1.1 90 25 = 1 := (hs1.1 _ _ (by decide)).trans h25
    have hrr : runF T (l ++ [e]) m S = if actC (T e.1) e.2.2 S1 < 0 then .inl (e, m + l.length, actC (T e.1) e.2.2 S1) else .inr (actS (T e.1) e.2.2 S1) := runF_r hr1
    have hcg := actC_cg hE1 hW1 (T e.1) e.2.2
    refine w_loop IS_ok [7] ok_M_runPlay ?_
    refine w_if (fun z => absurd (show (1 : Int32) = 0 by rw [← g25]; exact z) (by decide)) (fun _ => ?_)
    refine w_le c j (fun _ => by omega) (fun _ => ?_) ((hs1.1 _ _ (by decide)).trans h17) f4
    refine w_ix j ?_ f4 (show j < 100 by omega)
    refine w_if (fun _ => ?_) (fun z => absurd hcj.1 z)
    refine c_M_runAct_0 hB (hT.sm hs1 (by decide) (by decide)) hM1 (hE1.wf hW1) e (hok j (by omega) e hC) j (m + l.length) (by omega) (by omega) hcj (fun h' hlt hs' h25' hF => ?_) (fun h' S3 hge hs' hM3 hE3 => ?_) f4 f2
    · rw [hcg] at hlt hF
      rw [if_pos hlt] at hrr
      refine w_loop IS_ok [] ok_M_runPlay ?_
      refine w_if (fun _ => ?_) (fun z => absurd h25' z)
      exact hf e (m + l.length) _ h' hrr ((hs1.mo (by decide) (by decide)).t (hs'.mo (by decide) (by decide))) h25' hF
    · have hge1 : 0 ≤ actC (T e.1) e.2.2 S1 := by rw [hcg] at hge; exact hge
      rw [if_neg (by omega)] at hrr
      refine hd (actS (T e.1) e.2.2 S1) S3 h' _ _ _ _ hrr (hs1.t (hs'.mo (by decide) (by decide))) hM3 ((actS_cg hE1 hW1 _ _ hge1).tr hE3) (actS_wf hW1 _ _ hge1) (fun q hq => by rw [hs'.2 _ (by decide)]; exact hk1 q hq) (congrArg iI (by rw [List.length_append, List.length_singleton]; omega)) f3 (iI_1 f4)
  · intro lv i o j l t b ih1 ih2 hCo hCj t1 t9 hlv
    refine ⟨by omega, ?_⟩
    intro hj hcc m S S0 z2 z3 z4 L5 hm hs hM hE hW e2 e3 e4 hd hf
    have hio := ih1.1
    have hoj := ih2.1
    -- the repetitions
    have rep : ∀ (s : Nat), 1 ≤ s → s ≤ 9 → ∀ (h1 : St) (m1 : Nat) (S1 S2 : Nat → Int) (w2 w3 w4 : Int32) (L : Option Value), m1 + (List.replicate s b).flatten.length ≤ 200 → Sm [] [106, 98, 96, 91] h0 h1 → MS S2 h1 → Eqv S1 S2 → WF S1 → (∀ q, q < lv → h1.2 106 q = hcc.2 106 q) → h1.2 106 lv = iI (s : Nat) → w2 = iI m1 → w3 = iI (lv + 1 : Nat) → w4 = iI (o + 1 : Nat) →
        (∀ (S' S0' : Nat → Int) (h' : St) (v2 v3 v4 : Int32) (L : Option Value), runF T (List.replicate s b).flatten m1 S1 = .inr S' → Sm [] [106, 98, 96, 91] h0 h' → MS S0' h' → Eqv S' S0' → WF S' → (∀ q, q < lv → h'.2 106 q = hcc.2 106 q) → v2 = iI (m1 + (List.replicate s b).flatten.length : Nat) → v3 = iI lv → v4 = iI (j + 1 : Nat) → SR y_M_runPlay 7 (LR 0 v2 v3 v4 L) [] h' Q) →
        (∀ (e : Ent) (k : Nat) (cd : Int) (h' : St), runF T (List.replicate s b).flatten m1 S1 = .inl (e, k, cd) → Sm [(90, 25), (90, 21)] [108, 106, 98, 96, 91] h0 h' → h'.1 90 25 = 0 → MFl 1 (fG 2 e.1 e.2.1 k cd) h' → Q (some (.int (iI k))) h') →
        SR y_M_runPlay 7 (LR 0 w2 w3 w4 L) [] h1 Q := by
      intro s
      induction s with
      | zero => intro z; omega
      | succ s ihs =>
        intro _ hs9 h1 m1 S1 S2 w2 w3 w4 L hm1 hs1 hM1 hE1 hW1 hk1 hl1 f2 f3 f4 hd1 hf1
        have hfl : (List.replicate (s + 1) b).flatten = b ++ (List.replicate s b).flatten := by rw [List.replicate_succ, List.flatten_cons]
        rw [hfl] at hd1 hf1 hm1
        rw [List.length_append] at hm1
        refine ih2.2 (by omega) h1 m1 S1 S2 w2 w3 w4 L (by omega) hs1 hM1 hE1 hW1 f2 f3 f4 (fun S3 S4 h2 v2 v3 v4 L2 hr2 hs2 hM2 hE2 hW2 hk2 g2 g3 g4 => ?_) (fun e' k cd h' he => hf1 e' k cd h' (runF_l he))
        have hcj := (hcd j (by omega)).sm hs2 (by decide)
        rw [hCj] at hcj
        have hrr : runF T (b ++ (List.replicate s b).flatten) m1 S1 = runF T (List.replicate s b).flatten (m1 + b.length) S3 := runF_r hr2
        have g25 : h2.1 90 25 = 1 := (hs2.1 _ _ (by decide)).trans h25
        have hl2 : h2.2 106 lv = iI (s + 1 : Nat) := (hk2 lv (by omega)).trans hl1
        have hl3 : h2.2 106 lv - 1 = iI (s : Nat) := iI_q hl2 (by omega)
        have e3' : v3 - 1 = iI (lv : Nat) := iI_q g3 (by omega)
        have hs3 : Sm [] [106, 98, 96, 91] h0 (wa h2 106 lv (h2.2 106 lv - 1)) := hs2.t (Sm.wa _ _ (by decide))
        have hM3 : MS S4 (wa h2 106 lv (h2.2 106 lv - 1)) := hM2.sm (Sm.wa (X := []) (Y := [106]) _ _ (by decide)) (by decide)
        have hk3 : ∀ q, q < lv → (wa h2 106 lv (h2.2 106 lv - 1)).2 106 q = hcc.2 106 q := fun q hq => by rw [wa_n _ _ _ _ (by omega), hk2 q (by omega), hk1 q hq]
        refine w_loop IS_ok [7] ok_M_runPlay ?_
        refine w_if (fun z => absurd (show (1 : Int32) = 0 by rw [← g25]; exact z) (by decide)) (fun _ => ?_)
        refine w_le c j (fun _ => by omega) (fun _ => ?_) ((hs2.1 _ _ (by decide)).trans h17) g4
        refine w_ix j ?_ g4 (show j < 100 by omega)
        refine w_if (fun z => absurd (show (2 : Int32) = 0 by rw [← hcj.1]; exact z) (by decide)) (fun _ => ?_)
        refine w_ix j ?_ g4 (show j < 100 by omega)
        refine w_if (fun z => absurd (show (2 : Int32) = 1 by rw [← hcj.1]; exact z) (by decide)) (fun _ => ?_)
        refine w_ix lv ?_ e3' (show lv < 5 by omega)
        refine w_ix lv ?_ e3' (show lv < 5 by omega)
        refine w_ix lv ?_ e3' (show lv < 5 by omega)
        refine w_le s 0 (fun g => ?_) (fun g => ?_) ((wa_s h2 106 lv (h2.2 106 lv - 1)).trans hl3) rfl
        · have hs0 : s = 0 := by omega
          subst hs0
          refine hd1 S3 S4 (wa h2 106 lv (h2.2 106 lv - 1)) _ _ _ _ hrr hs3 hM3 hE2 hW2 hk3 (g2.trans (congrArg iI (by rw [List.length_append]; rfl))) ?_ (iI_1 g4)
          exact e3'
        · refine w_ix j ?_ g4 (show j < 100 by omega)
          refine ihs (by omega) (by omega) (wa h2 106 lv (h2.2 106 lv - 1)) (m1 + b.length) S3 S4 _ _ _ _ (by omega) hs3 hM3 hE2 hW2 hk3 ((wa_s _ _ _ _).trans hl3) g2 ?_ (iI_1 hcj.2) (fun S5 S6 h' u2 u3 u4 L3 hr3 hs4 hM4 hE4 hW4 hk4 f2 f3 f4 => ?_) (fun e' k cd h' he => hf1 e' k cd h' (hrr.trans he))
          · rw [g3]; exact (iI_sub _ 0).trans (congrArg iI (by omega))
          · exact hd1 S5 S6 h' u2 u3 u4 L3 (hrr.trans hr3) hs4 hM4 hE4 hW4 hk4 (f2.trans (congrArg iI (by rw [List.length_append]; omega))) f3 f4
    rw [List.length_append] at hm
    refine ih1.2 (by omega) hcc m S S0 z2 z3 z4 L5 (by omega) hs hM hE hW e2 e3 e4 (fun S1 S2 h1 w2 w3 w4 L hr1 hs1 hM1 hE1 hW1 hk1 f2 f3 f4 => ?_) (fun e' k cd h' he => hf e' k cd h' (runF_l he))
    have hco := (hcd o (by omega)).sm hs1 (by decide)
    rw [hCo] at hco
    have hrr : runF T (l ++ (List.replicate t b).flatten) m S = runF T (List.replicate t b).flatten (m + l.length) S1 := runF_r hr1
    have g25 : h1.1 90 25 = 1 := (hs1.1 _ _ (by decide)).trans h25
    refine w_loop IS_ok [7] ok_M_runPlay ?_
    refine w_if (fun z => absurd (show (1 : Int32) = 0 by rw [← g25]; exact z) (by decide)) (fun _ => ?_)
    refine w_le c o (fun _ => by omega) (fun _ => ?_) ((hs1.1 _ _ (by decide)).trans h17) f4
    refine w_ix o ?_ f4 (show o < 100 by omega)
    refine w_if (fun z => absurd (show (1 : Int32) = 0 by rw [← hco.1]; exact z) (by decide)) (fun _ => ?_)
    refine w_ix o ?_ f4 (show o < 100 by omega)
    refine w_if (fun _ => ?_) (fun z => absurd hco.1 z)
    refine w_ix o ?_ f4 (show o < 100 by omega)
    refine w_ix lv ?_ f3 (show lv < 5 by omega)
    refine rep t t1 t9 (wa h1 106 lv (h1.2 102 o)) (m + l.length) S1 S2 _ _ _ _ (by omega) (hs1.t (Sm.wa _ _ (by decide))) (hM1.sm (Sm.wa (X := []) (Y := [106]) _ _ (by decide)) (by decide)) hE1 hW1 (fun q hq => by rw [wa_n _ _ _ _ (by omega), hk1 q hq]) ((wa_s _ _ _ _).trans hco.2) f2 (iI_1 f3) (iI_1 f4) (fun S5 S6 h' u2 u3 u4 L3 hr3 hs4 hM4 hE4 hW4 hk4 k2 k3 k4 => ?_) (fun e' k cd h' he => hf e' k cd h' (hrr.trans he))
    exact hd S5 S6 h' u2 u3 u4 L3 (hrr.trans hr3) hs4 hM4 hE4 hW4 hk4 (k2.trans (congrArg iI (by rw [List.length_append]; omega))) k3 k4
end
section
/-! a play, tried and run; the method run -/
theorem c_M_runPlay_1 {n : Nat} {T : Nat → Nat} {h : St} {C : Nat → Cod} {c : Nat} {Q : Option Value → St → Prop} {l : List Ent} (hB : TxB n T) (hc : c ≤ 100) (h17 : h.1 90 17 = iI c) (h25 : h.1 90 25 = 1) (hcd : ∀ j, j < c → CdR T h j (C j)) (hok : ∀ j, j < c → ∀ e, C j = cAct e → EntOk n T e) (sg : Seg C 0 0 c l)
    (hQ1 : ∀ h', l.length ≤ 200 → Sm [] [106] h h' → Q (some (.int (iI l.length))) h')
    (hQ0 : ∀ e h', l[200]? = some e → Sm [(90, 25), (90, 21)] [108, 106] h h' → h'.1 90 25 = 0 → MFl 1 (fG 3 e.1 e.2.1 0 (-109)) h' → Q (some (.int (iI 200))) h') : SC y_M_runPlay [.ref 90, .int 1] h Q := by
  refine w_call IS_ok [7] ok_M_runPlay rfl rfl ?_
  refine tryP_seg hB hc h17 h25 hcd hok sg (Nat.le_refl _) h 0 _ _ _ _ (by omega) Sm.rf rfl rfl rfl (fun hml h' w2 w3 w4 L hs hk f2 f3 f4 => ?_) (fun e h' he hs h0 hF => hQ0 e h' he hs h0 hF)
  have g25 : h'.1 90 25 = 1 := (hs.1 _ _ (by decide)).trans h25
  refine w_loop IS_ok [] ok_M_runPlay ?_
  refine w_if (fun z => absurd (show (1 : Int32) = 0 by rw [← g25]; exact z) (by decide)) (fun _ => ?_)
  refine w_le c c (fun _ => ?_) (fun _ => by omega) ((hs.1 _ _ (by decide)).trans h17) f4
  have := hQ1 h' (by omega) hs
  rw [f2, Nat.zero_add]
  exact this
theorem c_M_runPlay_0 {n : Nat} {T : Nat → Nat} {S : Nat → Int} {h : St} {C : Nat → Cod} {c : Nat} {Q : Option Value → St → Prop} {l : List Ent} (hB : TxB n T) (hT : MTx n T h) (hS : MS S h) (hW : WF S) (hc : c ≤ 100) (h17 : h.1 90 17 = iI c) (h25 : h.1 90 25 = 1) (hcd : ∀ j, j < c → CdR T h j (C j)) (hok : ∀ j, j < c → ∀ e, C j = cAct e → EntOk n T e) (sg : Seg C 0 0 c l) (hl : l.length ≤ 200)
    (hQ1 : ∀ S' S0' h', runF T l 0 S = .inr S' → Sm [] [106, 98, 96, 91] h h' → MS S0' h' → Eqv S' S0' → WF S' → Q (some (.int (iI l.length))) h')
    (hQ0 : ∀ e k cd h', runF T l 0 S = .inl (e, k, cd) → Sm [(90, 25), (90, 21)] [108, 106, 98, 96, 91] h h' → h'.1 90 25 = 0 → MFl 1 (fG 2 e.1 e.2.1 k cd) h' → Q (some (.int (iI k))) h') : SC y_M_runPlay [.ref 90, .int 0] h Q := by
  refine w_call IS_ok [7] ok_M_runPlay rfl rfl ?_
  refine runP_seg hB hT hc h17 h25 hcd hok sg (Nat.le_refl _) h 0 S S _ _ _ _ (by omega) Sm.rf hS (Eqv.rf _) hW rfl rfl rfl (fun S' S0' h' w2 w3 w4 L hr hs hM hE hW' hk f2 f3 f4 => ?_) (fun e k cd h' he hs h0 hF => hQ0 e k cd h' he hs h0 hF)
  have g25 : h'.1 90 25 = 1 := (hs.1 _ _ (by decide)).trans h25
  refine w_loop IS_ok [] ok_M_runPlay ?_
  refine w_if (fun z => absurd (show (1 : Int32) = 0 by rw [← g25]; exact z) (by decide)) (fun _ => ?_)
  refine w_le c c (fun _ => ?_) (fun _ => by omega) ((hs.1 _ _ (by decide)).trans h17) f4
  have := hQ1 S' S0' h' hr hs hM hE hW'
  rw [f2, Nat.zero_add]
  exact this
abbrev SmW (h h' : St) : Prop := Sm [(90, 0), (90, 4), (90, 25), (90, 21), (90, 23), (90, 17), (90, 24)] [108, 99, 100, 101, 102, 103, 104, 105, 106, 107, 98, 96, 93, 92, 91] h h'
set_option maxHeartbeats 4000000 in
theorem c_M_run {n : Nat} {T : Nat → Nat} {S : Nat → Int} {nh : Nat} {H : Nat → Nat → Int} {h : St} {Q : Option Value → St → Prop} (hB : TxB n T) (hT : MTx n T h) (hS : MS S h) (hW : WF S) (hH : MH nh H h) (hnh : nh ≤ 5)
    (hF1 : ∀ f d h', rd (chr n T) n n 0 [] [] = .inl (f, d) → SmW h h' → MS S h' → MH nh H h' → MFl 1 (fG 1 f (d + 1) 0 (-109)) h' → h'.1 90 0 = 0 → Q (some (.int (iI (-1000 - f)))) h')
    (hF3 : ∀ l e h', rd (chr n T) n n 0 [] [] = .inr l → l[200]? = some e → SmW h h' → MS S h' → MH nh H h' → MFl 1 (fG 3 e.1 e.2.1 0 (-109)) h' → h'.1 90 0 = 0 → Q (some (.int (iI (-1000 - e.1)))) h')
    (hF2 : ∀ l e k cd S' h', rd (chr n T) n n 0 [] [] = .inr l → l.length ≤ 200 → runF T l 0 S = .inl (e, k, cd) → SmW h h' → MS S' h' → (∀ i, i < 270 → S' i = S i) → MH nh H h' → MFl 1 (fG 2 e.1 e.2.1 k cd) h' → h'.1 90 0 = 0 → Q (some (.int (iI (-1000 - e.1)))) h')
    (hQ1 : ∀ l S' S0' h', rd (chr n T) n n 0 [] [] = .inr l → l.length ≤ 200 → runF T l 0 S = .inr S' → SmW h h' → MS S0' h' → Eqv S' S0' → WF S' → MH (psN nh) (psH nh H S) h' → h'.1 90 21 = h.1 90 21 → h'.2 108 = h.2 108 → h'.1 90 0 = 0 → Q (some (.int (iI l.length))) h') : SC y_M_run [.ref 90] h Q := by
  refine w_call IS_ok [22] ok_M_run rfl rfl ?_
  have s0 : Sm [(90, 0)] [] h (pf h 0 0) := Sm.pf _ (by decide)
  have t0 : (pf h 0 0).1 90 0 = 0 := pf_s _ _ _
  have sW : ∀ h', Sm [(90, 25), (90, 21), (90, 23), (90, 17), (90, 24)] [108, 99, 100, 101, 102, 103, 104, 105, 106, 107, 98, 96, 92, 91] (pf h 0 0) h' → SmW h h' ∧ MH nh H h' ∧ h'.1 90 0 = 0 := by
    intro h' hs
    exact ⟨(s0.mo (by decide) (by decide)).t (hs.mo (by decide) (by decide)), (hH.sm s0 (by decide) (by decide)).sm hs (by decide) (by decide), (hs.1 _ _ (by decide)).trans t0⟩
  have at22 : ∀ hc, hc.1 90 25 = 0 → ∀ p : Nat, (∃ f G, MFl f G hc ∧ G 1 = p) → Q (some (.int (iI (-1000 - p)))) hc → SR y_M_run 22 [some (.ref 90), none, none, none] [] hc Q := by
    intro hc g25 p hF hq
    obtain ⟨f, G, hF, hG⟩ := hF
    refine w_loop IS_ok [] ok_M_run ?_
    refine w_if (fun _ => ?_) (fun z => absurd g25 z)
    refine w_ix 1 ?_ rfl (show 1 < 5 by omega)
    rw [← iI_sub] at hq
    show Q (some (.int ((-1000) - hc.2 108 1))) hc
    rw [hF.2 1 (by omega), hG]
    exact hq
  refine c_M_readPlay (h := pf h 0 0) hB (hT.sm s0 (by decide) (by decide)) (fun f d h' hr hs hF => ?_) (fun l C c h1 hr hs hcb h17 h25 hcd hsg hok => ?_)
  · refine w_if (fun _ => ?_) (fun g => absurd hF.1 g)
    have hw := sW h' (hs.mo (by decide) (by decide))
    exact at22 h' hF.1 f ⟨_, _, hF.2, rfl⟩ (hF1 f d h' hr hw.1 ((hS.sm s0 (by decide)).sm hs (by decide)) hw.2.1 hF.2 hw.2.2)
  refine w_if (fun z => absurd (show (1 : Int32) = 0 by rw [← h25]; exact z) (by decide)) (fun _ => ?_)
  refine c_M_runPlay_1 hB hcb h17 h25 hcd hok hsg (fun h2 hl hs2 => ?_) (fun e h' he hs2 g25 hF => ?_)
  rotate_left
  · have hs3 : Sm [(90, 25), (90, 21), (90, 23), (90, 17), (90, 24)] [108, 99, 100, 101, 102, 103, 104, 105, 106, 107, 98, 96, 92, 91] (pf h 0 0) h' := (hs.mo (by decide) (by decide)).t (hs2.mo (by decide) (by decide))
    have hw := sW h' hs3
    exact at22 h' g25 e.1 ⟨_, _, hF, rfl⟩ (hF3 l e h' hr he hw.1 (((hS.sm s0 (by decide)).sm hs (by decide)).sm hs2 (by decide)) hw.2.1 hF hw.2.2)
  have g25 : h2.1 90 25 = 1 := (hs2.1 _ _ (by decide)).trans h25
  have hS2 : MS S h2 := ((hS.sm s0 (by decide)).sm hs (by decide)).sm hs2 (by decide)
  have hT2 : MTx n T h2 := ((hT.sm s0 (by decide) (by decide)).sm hs (by decide) (by decide)).sm hs2 (by decide) (by decide)
  have hsA : Sm [(90, 25), (90, 21), (90, 23), (90, 17), (90, 24)] [108, 99, 100, 101, 102, 103, 104, 105, 106, 107, 98, 96, 92, 91] (pf h 0 0) h2 := (hs.mo (by decide) (by decide)).t (hs2.mo (by decide) (by decide))
  refine w_loop IS_ok [42] ok_M_run ?_
  refine w_if (fun z => absurd (show (1 : Int32) = 0 by rw [← g25]; exact z) (by decide)) (fun _ => ?_)
  -- behind the swap
  have loop2 : ∀ (hb : St) (r : Int32), (∀ i, i < 270 → hb.2 92 i = iI (S i)) → (∀ hc L2 L3, Sm [] [92, 91] hb hc → (∀ i, i < 270 → hc.2 91 i = iI (S i)) → (∀ i, 270 ≤ i → hc.2 91 i = hb.2 91 i) → (∀ i, i < 270 → hc.2 92 i = hb.2 91 i) → SR y_M_run 114 [some (.ref 90), some (.int r), L2, L3] [] hc Q) →
      ∀ (m k : Nat) (hc : St) (z2 : Int32) (L3 : Option Value), 270 ≤ k + m → k ≤ 270 → Sm [] [92, 91] hb hc → (∀ i, i < k → hc.2 91 i = iI (S i)) → (∀ i, k ≤ i → hc.2 91 i = hb.2 91 i) → (∀ i, i < k → hc.2 92 i = hb.2 91 i) → (∀ i, k ≤ i → hc.2 92 i = hb.2 92 i) → z2 = iI k → SR y_M_run 75 [some (.ref 90), some (.int r), some (.int z2), L3] [] hc Q := by
    intro hb r hb92 fin m
    induction m with
    | zero =>
      intro k hc z2 L3 hm hk hs a1 a2 a3 a4 e2
      refine w_loop IS_ok [114] ok_M_run ?_
      have : k = 270 := by omega
      subst this
      exact w_le 270 270 (fun _ => fin hc _ _ hs a1 a2 a3) (fun _ => by omega) rfl e2
    | succ m ih =>
      intro k hc z2 L3 hm hk hs a1 a2 a3 a4 e2
      refine w_loop IS_ok [75, 114] ok_M_run ?_
      refine w_le 270 k (fun g => ?_) (fun g => ?_) rfl e2
      · have : k = 270 := by omega
        subst this
        exact fin hc _ _ hs a1 a2 a3
      · refine w_ix k ?_ e2 (show k < 270 by omega)
        refine w_ix k ?_ e2 (show k < 270 by omega)
        refine w_ix k ?_ e2 (show k < 270 by omega)
        refine w_ix k ?_ e2 (show k < 270 by omega)
        refine ih (k + 1) (wa (wa hc 91 k (hc.2 92 k)) 92 k (hc.2 91 k)) _ _ (by omega) (by omega) ((hs.t (Sm.wa _ _ (by decide))).t (Sm.wa _ _ (by decide))) (fun i hi => ?_) (fun i hi => ?_) (fun i hi => ?_) (fun i hi => ?_) (iI_1 e2)
        · rw [wa_o _ _ _ _ (by decide)]
          by_cases z : i = k
          · subst z; rw [wa_s, a4 _ (Nat.le_refl _)]; exact hb92 _ (by omega)
          · rw [wa_n _ _ _ _ z]; exact a1 i (by omega)
        · rw [wa_o _ _ _ _ (by decide), wa_n _ _ _ _ (by omega)]; exact a2 i (by omega)
        · by_cases z : i = k
          · subst z; rw [wa_s]; exact a2 _ (Nat.le_refl _)
          · rw [wa_n _ _ _ _ z, wa_o _ _ _ _ (by decide)]; exact a3 i (by omega)
        · rw [wa_n _ _ _ _ (by omega), wa_o _ _ _ _ (by decide)]; exact a4 i (by omega)
  have loop3 : ∀ (hb : St) (r : Int32) (Z : Nat → Int32), (∀ i, i < 270 → hb.2 92 i = Z i) → (∀ i, 270 ≤ i → hb.2 91 i = Z i) → (∀ hc, Sm [] [91] hb hc → (∀ i, hc.2 91 i = Z i) → Q (some (.int r)) hc) →
      ∀ (m k : Nat) (hc : St) (z2 : Int32) (L3 : Option Value), 270 ≤ k + m → k ≤ 270 → Sm [] [91] hb hc → (∀ i, i < k → hc.2 91 i = Z i) → (∀ i, 270 ≤ i → hc.2 91 i = Z i) → z2 = iI k → SR y_M_run 138 [some (.ref 90), some (.int r), some (.int z2), L3] [] hc Q := by
    intro hb r Z hb92 hb91 fin m
    have last : ∀ (hc : St), Sm [] [91] hb hc → (∀ i, i < 270 → hc.2 91 i = Z i) → (∀ i, 270 ≤ i → hc.2 91 i = Z i) → Q (some (.int r)) hc := by
      intro hc hs a1 a2
      exact fin hc hs (fun i => by by_cases z : i < 270; exact a1 i z; exact a2 i (by omega))
    induction m with
    | zero =>
      intro k hc z2 L3 hm hk hs a1 a2 e2
      refine w_loop IS_ok [] ok_M_run ?_
      have : k = 270 := by omega
      subst this
      exact w_le 270 270 (fun _ => last hc hs a1 a2) (fun _ => by omega) rfl e2
    | succ m ih =>
      intro k hc z2 L3 hm hk hs a1 a2 e2
      refine w_loop IS_ok [138] ok_M_run ?_
      refine w_le 270 k (fun g => ?_) (fun g => ?_) rfl e2
      · have : k = 270 := by omega
        subst this
        exact last hc hs a1 a2
      · refine w_ix k ?_ e2 (show k < 270 by omega)
        refine w_ix k ?_ e2 (show k < 270 by omega)
        refine ih (k + 1) (wa hc 91 k (hc.2 92 k)) _ _ (by omega) (by omega) (hs.t (Sm.wa _ _ (by decide))) (fun i hi => ?_) (fun i hi => ?_) (iI_1 e2)
        · by_cases z : i = k
          · subst z; rw [wa_s, hs.2 _ (by decide)]; exact hb92 _ (by omega)
          · rw [wa_n _ _ _ _ z]; exact a1 i (by omega)
        · rw [wa_n _ _ _ _ (by omega)]; exact a2 i hi
  have loop1 : ∀ (m k : Nat) (hc : St) (z1 : Int32), 270 ≤ k + m → k ≤ 270 → Sm [] [92] h2 hc → (∀ i, i < k → hc.2 92 i = iI (S i)) → z1 = iI k → SR y_M_run 42 [some (.ref 90), some (.int z1), none, none] [] hc Q := by
    have fin : ∀ (hc : St) (z1 : Int32), Sm [] [92] h2 hc → (∀ i, i < 270 → hc.2 92 i = iI (S i)) → SR y_M_run 67 [some (.ref 90), some (.int z1), none, none] [] hc Q := by
      intro hc z1 hs3 a1
      have k25 : hc.1 90 25 = 1 := (hs3.1 _ _ (by decide)).trans g25
      have k17 : hc.1 90 17 = iI c := (hs3.1 _ _ (by decide)).trans ((hs2.1 _ _ (by decide)).trans h17)
      refine w_loop IS_ok [75] ok_M_run ?_
      refine c_M_runPlay_0 hB (hT2.sm hs3 (by decide) (by decide)) (hS2.sm hs3 (by decide)) hW hcb k17 k25 (fun j hj => ((hcd j hj).sm hs2 (by decide)).sm hs3 (by decide)) hok hsg hl (fun S' S0' hb hrr hs4 hM hE hW' => ?_) (fun e k cd hb hrr hs4 k25' hF => ?_)
      · have kb : hb.1 90 25 = 1 := (hs4.1 _ _ (by decide)).trans k25
        refine loop2 hb _ (fun i hi => by rw [hs4.2 _ (by decide)]; exact a1 i hi) (fun hd L2 L3 hs5 b1 b2 b3 => ?_) 270 0 hb _ _ (by omega) (by omega) Sm.rf (fun i hi => by omega) (fun _ _ => rfl) (fun i hi => by omega) (fun _ _ => rfl) rfl
        have kd : hd.1 90 25 = 1 := (hs5.1 _ _ (by decide)).trans kb
        have hsB : Sm [(90, 25), (90, 21), (90, 23), (90, 17), (90, 24)] [108, 99, 100, 101, 102, 103, 104, 105, 106, 107, 98, 96, 92, 91] (pf h 0 0) hd := (hsA.t (hs3.mo (by decide) (by decide))).t ((hs4.mo (by decide) (by decide)).t (hs5.mo (by decide) (by decide)))
        have hw := sW hd hsB
        refine w_loop IS_ok [138] ok_M_run ?_
        refine w_if (fun z => absurd (show (1 : Int32) = 0 by rw [← kd]; exact z) (by decide)) (fun _ => ?_)
        refine c_M_act (S := rsS S0' S) (fun i => ?_) hw.2.1 hnh (fun h5 hs6 hH5 => ?_)
        · unfold rsS
          split
          · next g => exact b1 i g
          · next g => rw [b2 i (by omega)]; exact hM i
        · refine loop3 h5 _ (fun i => iI (S0' i)) (fun i hi => by rw [hs6.2 _ (by decide), b3 i hi]; exact hM i) (fun i hi => by rw [hs6.2 _ (by decide), b2 i hi]; exact hM i) (fun h6 hs7 hM6 => ?_) 270 0 h5 _ _ (by omega) (by omega) Sm.rf (fun i hi => by omega) (fun i hi => by rw [hs6.2 _ (by decide), b2 i hi]; exact hM i) rfl
          have hsC : SmW h h6 := hw.1.t ((hs6.mo (by decide) (by decide)).t (hs7.mo (by decide) (by decide)))
          have hHn := hH5.sm hs7 (by decide) (by decide)
          refine hQ1 l S' S0' h6 hr hl hrr hsC hM6 hE hW' ⟨hHn.1, fun j hj i hi => (hHn.2 j hj i hi).trans (congrArg iI ?_)⟩ ?_ ?_ ?_
          · unfold psH
            split
            · dsimp only; split <;> (try rfl)
              unfold rsS; rw [if_pos hi]
            · dsimp only; split <;> (try rfl)
              unfold rsS; rw [if_pos hi]
          · rw [hs7.1 _ _ (by decide), hs6.1 _ _ (by decide), hs5.1 _ _ (by decide), hs4.1 _ _ (by decide), hs3.1 _ _ (by decide), hs2.1 _ _ (by decide), hs.1 _ _ (by decide), s0.1 _ _ (by decide)]
          · rw [hs7.2 _ (by decide), hs6.2 _ (by decide), hs5.2 _ (by decide), hs4.2 _ (by decide), hs3.2 _ (by decide), hs2.2 _ (by decide), hs.2 _ (by decide), s0.2 _ (by decide)]
          · rw [hs7.1 _ _ (by decide), hs6.1 _ _ (by decide)]; exact hw.2.2
      · refine loop2 hb _ (fun i hi => by rw [hs4.2 _ (by decide)]; exact a1 i hi) (fun hd L2 L3 hs5 b1 b2 b3 => ?_) 270 0 hb _ _ (by omega) (by omega) Sm.rf (fun i hi => by omega) (fun _ _ => rfl) (fun i hi => by omega) (fun _ _ => rfl) rfl
        have kd : hd.1 90 25 = 0 := (hs5.1 _ _ (by decide)).trans k25'
        have hsB : Sm [(90, 25), (90, 21), (90, 23), (90, 17), (90, 24)] [108, 99, 100, 101, 102, 103, 104, 105, 106, 107, 98, 96, 92, 91] (pf h 0 0) hd := (hsA.t (hs3.mo (by decide) (by decide))).t ((hs4.mo (by decide) (by decide)).t (hs5.mo (by decide) (by decide)))
        have hw := sW hd hsB
        have hFd := hF.sm hs5 (by decide) (by decide)
        have hq := hF2 l e k cd (fun i => if i < 270 then S i else (hd.2 91 i).toInt) hd hr hl hrr hw.1 (fun i => ?_) (fun i hi => if_pos hi) hw.2.1 hFd hw.2.2
        · refine w_loop IS_ok [] ok_M_run ?_
          refine w_if (fun _ => ?_) (fun z => absurd kd z)
          refine w_ix 1 ?_ rfl (show 1 < 5 by omega)
          rw [← iI_sub] at hq
          show Q (some (.int ((-1000) - hd.2 108 1))) hd
          rw [hFd.2 1 (by omega)]
          exact hq
        · dsimp only
          split
          · next g => exact b1 i g
          · exact iI_of _
    intro m
    induction m with
    | zero =>
      intro k hc z1 hm hk hs3 a1 e1
      refine w_loop IS_ok [67] ok_M_run ?_
      have : k = 270 := by omega
      subst this
      exact w_le 270 270 (fun _ => fin hc _ hs3 a1) (fun _ => by omega) rfl e1
    | succ m ih =>
      intro k hc z1 hm hk hs3 a1 e1
      refine w_loop IS_ok [42, 67] ok_M_run ?_
      refine w_le 270 k (fun g => ?_) (fun g => ?_) rfl e1
      · have : k = 270 := by omega
        subst this
        exact fin hc _ hs3 a1
      · refine w_ix k ?_ e1 (show k < 270 by omega)
        refine w_ix k ?_ e1 (show k < 270 by omega)
        refine ih (k + 1) (wa hc 92 k (hc.2 91 k)) _ (by omega) (by omega) (hs3.t (Sm.wa _ _ (by decide))) (fun i hi => ?_) (iI_1 e1)
        by_cases z : i = k
        · subst z; rw [wa_s, hs3.2 _ (by decide)]; exact hS2 _
        · rw [wa_n _ _ _ _ z]; exact a1 i (by omega)
  exact loop1 270 0 h2 _ (by omega) (by omega) Sm.rf (fun i hi => by omega) rfl
end
section
/-! the class: numbers in a row, of which no index is out of range -/
theorem w_m {x : Option Value} {K : Value → Prop} (v : Value) : x = some v → K v → (match x with
  | some v => K v
  | none => False) := fun hx k => by subst hx; exact k
theorem w_mn {x : Option Nat} {K : Nat → Prop} (v : Nat) : x = some v → K v → (match x with
  | some v => K v
  | none => False) := fun hx k => by subst hx; exact k
theorem w_mm {x y : Option Nat} {K : Nat → Nat → Prop} (v u : Nat) : x = some v → y = some u → K v u → (match x, y with
  | some v, some u => K v u
  | _, _ => False) := fun hx hy k => by subst hx; subst hy; exact k
set_option maxHeartbeats 4000000 in
/-- the same for a method whose class has no plain name, but no row of a native for her -/
theorem e_call_ofF {η : Type} {I : e_IT η} (hI : e_IOk I) {y n : Nat} (hM : OkM y) (hy : plainFor (mNm y) = true) {as : List Value} {h : η} {Q : Option Value → η → Prop} (hlen : Nat.ble (e_args as).length (mML y) = true) (hwp : e_wp I y Q n 0 (e_L0 as (mML y)) [] ((mRm y).cells, (mRm y).slots) h) : e_CallI I y as h Q := by
  intro l D b cI cS H0
  refine MetFree.of_bodySF (code := mBy y) (maxLocals := mML y) (ret := mRet y) hy (fun args s m hp hn => ?_) (fun p e s m args below meth c s₁ B hml hv _ => ?_)
  · obtain ⟨meth, c, h1, h2, h3, h4, h5, h6, -, -⟩ := Cond.code_spec hn (atoms_spec (ws := mWs y) hp _ List.mem_cons_self)
    exact ⟨meth, c, h1, h2, h3, h4, h5, h6⟩
  have hh0 : s₁.heap = s.heap := by rw [B.state]; rfl
  have key : W p l e (mRm y) s m args below meth c s.heap [] 0 0 (MQ below (e_Qc D b cI cS H0 (fun r σ => ∃ h', σ = I.1 h' ∧ Q r h')) args s (mRm y).cells (mRm y).slots (fun q => b ≤ q)) (entryFrame m args (mML y)) := ?_
  · obtain ⟨t, a1, o, b1, b2, b3⟩ := key s₁ hh0 (Stand.of_body B)
    exact ⟨t, o, a1, b1, b2, ⟨b3.1, b3.2⟩⟩
  obtain ⟨rfl, hS, hK⟩ := hv
  have hx := B.exec
  have hb := B.bytes
  have hr := B.returns
  have hlocks := B.notSynchronized
  have hts := atoms_spec (ws := mWs y) B.pre
  have hret : e_Ret p l e (mRm y) s m (as.map (e_v b)).toArray below meth c D b cI cS H0 (MQ below (e_Qc D b cI cS H0 (fun r σ => ∃ h', σ = I.1 h' ∧ Q r h')) (as.map (e_v b)).toArray s (mRm y).cells (mRm y).slots (fun q => b ≤ q)) y (fun r σ => ∃ h', σ = I.1 h' ∧ Q r h') := by
    intro r σ H locs cells slots pc ls hQ hS' hlo hc hs hdg hok
    refine W.widen hc hs ?_
    revert hok
    cases r with
    | none =>
      cases hm : mRet y with
      | none => intro _; exact W.vret hx hb (hr.trans hm) (fun t ht hW => ⟨none, σ, rfl, hQ, by rw [ht]; exact hS'⟩) hlo hdg
      | some t => intro z; cases t <;> exact z.elim
    | some v =>
      cases hm : mRet y with
      | none => intro z; exact z.elim
      | some t =>
        intro z
        cases t <;> cases v <;> first
          | exact z.elim
          | exact W.iret hx hb (hr.trans hm) (fun t ht hW => ⟨some _, σ, rfl, hQ, by rw [ht]; exact hS'⟩) hlo hdg
          | exact W.lret hx hb (hr.trans hm) (fun t ht hW => ⟨some _, σ, rfl, hQ, by rw [ht]; exact hS'⟩) hlo hdg
          | exact W.zret hx hb (hr.trans hm) (by rcases z with rfl | rfl <;> rfl) (fun t ht hW => ⟨some _, σ, rfl, hQ, by rw [ht]; exact hS'⟩) hlo hdg
          | exact W.aret hx hb (hr.trans hm) (Or.inl ⟨_, rfl⟩) (Or.inr ⟨_, rfl⟩) (fun t ht hW => ⟨some _, σ, rfl, hQ, by rw [ht]; exact hS'⟩) hlo hdg
  rw [lg_entry_eq]
  exact e_wp_ok hI hM n 0 _ [] _ h hwp p l e (mRm y) s m _ below meth c D b cI cS H0 _ ⟨hx, hb, hml, findClass_of_methodNamed B.named, fun w hw => hts w (List.mem_cons_of_mem _ hw), hK, Nat.le_refl _, Nat.le_refl _, (name_of_methodNamed B.named B.method).1, hret⟩ s.heap [] 0 0 _ hS (fun q hq => (by cases hq)) (by simp) (by simp) (e_LH_entry b (mML y) as (Nat.le_of_ble_eq_true hlen))
theorem w_callF {η : Type} {I : e_IT η} (hI : e_IOk I) {y : Nat} (stop : List Nat) (hM : OkM y) (hy : plainFor (mNm y) = true) {as : List Value} {h : η} {Q : Option Value → η → Prop} (hlen : Nat.ble (e_args as).length (mML y) = true) (hwp : e_wq I y stop Q 400 0 (e_L0 as (mML y)) [] ((mRm y).cells, (mRm y).slots) h) : e_CallI I y as h Q :=
  e_call_ofF hI hM (n := 0) hy hlen (e_wq_ok hI hM 400 0 _ [] _ h hwp)
theorem pf_203 : plainFor (mNm 203) = true := by decide +kernel
theorem pf_204 : plainFor (mNm 204) = true := by decide +kernel
/-- o is a Cells with the row a of n places, w wide -/
def CA (o a n w : Nat) : Prop := (∀ h, s_len h a = some n) ∧ (∀ h, s_get h o 0 0 = some (.ref a)) ∧ (∀ h, s_get h o 0 1 = some (.int (iI w))) ∧ n < 1000
theorem c_J_max {x y : Int32} {h : St} {Q : Option Value → St → Prop} (a b : Int) (hQ : Q (some (.int (iI (if b ≤ a then a else b)))) h) (hx : x = iI a) (hy : y = iI b) (ha : rg a := by omega) (hb : rg b := by omega) : SC y_J_max [.int x, .int y] h Q := by
  refine w_callF IS_ok [] ok_J_max pf_203 rfl ?_
  refine w_lt a b (fun g => ?_) (fun g => ?_) hx hy ha hb
  · rw [if_neg (by omega)] at hQ; rw [hy]; exact hQ
  · rw [if_pos (by omega)] at hQ; rw [hx]; exact hQ
theorem c_J_min {x y : Int32} {h : St} {Q : Option Value → St → Prop} (a b : Int) (hQ : Q (some (.int (iI (if a ≤ b then a else b)))) h) (hx : x = iI a) (hy : y = iI b) (ha : rg a := by omega) (hb : rg b := by omega) : SC y_J_min [.int x, .int y] h Q := by
  refine w_callF IS_ok [] ok_J_min pf_204 rfl ?_
  refine w_lt b a (fun g => ?_) (fun g => ?_) hy hx hb ha
  · rw [if_neg (by omega)] at hQ; rw [hy]; exact hQ
  · rw [if_pos (by omega)] at hQ; rw [hx]; exact hQ
theorem c_Cells_get1 {o a n w : Nat} {x : Int32} {h : St} {Q : Option Value → St → Prop} (hc : CA o a n w) (j : Nat) (hj : j < n) (hQ : Q (some (.int (h.2 a j))) h) (hx : x = iI j) : SC y_Cells_get1 [.ref o, .int x] h Q := by
  obtain ⟨hl, hg, hw, hn⟩ := hc
  refine w_call IS_ok [] ok_Cells_get1 rfl rfl ?_
  refine w_lt j 0 (fun _ => by omega) (fun _ => ?_) hx rfl
  refine w_m _ (hg h) ?_
  refine w_mn _ (hl h) ?_
  refine w_le n j (fun _ => by omega) (fun _ => ?_) rfl hx
  refine w_m _ (hg h) ?_
  refine w_mn _ (hl h) ?_
  refine w_ix j ?_ hx hj
  exact hQ
theorem rc_i {x y : Int32} {r c w : Nat} (hx : x = iI r) (hy : y = iI c) : x * iI w + y = iI ((r * w + c : Nat) : Int) := by
  rw [hx, hy]
  exact (congrArg (· + iI c) (iI_mul r w)).trans ((iI_add _ _).trans (congrArg iI (by omega)))
theorem c_Cells_get2 {o a n w : Nat} {x y : Int32} {h : St} {Q : Option Value → St → Prop} (hc : CA o a n w) (r c : Nat) (hj : r * w + c < n) (hQ : Q (some (.int (h.2 a (r * w + c)))) h) (hx : x = iI r) (hy : y = iI c) : SC y_Cells_get2 [.ref o, .int x, .int y] h Q := by
  obtain ⟨hl, hg, hw, hn⟩ := hc
  have he : x * iI w + y = iI ((r * w + c : Nat) : Int) := rc_i hx hy
  refine w_call IS_ok [] ok_Cells_get2 rfl rfl ?_
  refine w_m _ (hw h) ?_
  refine w_lt (r * w + c : Nat) 0 (fun _ => by omega) (fun _ => ?_) he rfl
  refine w_m _ (hg h) ?_
  refine w_mn _ (hl h) ?_
  refine w_le n (r * w + c : Nat) (fun _ => by omega) (fun _ => ?_) rfl he
  refine w_m _ (hg h) ?_
  refine w_mn _ (hl h) ?_
  refine w_ix (r * w + c) ?_ he hj
  exact hQ
theorem c_Cells_set2 {o a n w : Nat} {x v : Int32} {h : St} {Q : Option Value → St → Prop} (hc : CA o a n w) (j : Nat) (hj : j < n) (hQ : Q none (wa h a j v)) (hx : x = iI j) : SC y_Cells_set2 [.ref o, .int x, .int v] h Q := by
  obtain ⟨hl, hg, hw, hn⟩ := hc
  refine w_call IS_ok [] ok_Cells_set2 rfl rfl ?_
  refine w_lt j 0 (fun _ => by omega) (fun _ => ?_) hx rfl
  refine w_m _ (hg h) ?_
  refine w_mn _ (hl h) ?_
  refine w_le n j (fun _ => by omega) (fun _ => ?_) rfl hx
  refine w_m _ (hg h) ?_
  refine w_mn _ (hl h) ?_
  refine w_ix j ?_ hx hj
  exact hQ
theorem c_Cells_set3 {o a n w : Nat} {x y v : Int32} {h : St} {Q : Option Value → St → Prop} (hc : CA o a n w) (r c : Nat) (hj : r * w + c < n) (hQ : Q none (wa h a (r * w + c) v)) (hx : x = iI r) (hy : y = iI c) : SC y_Cells_set3 [.ref o, .int x, .int y, .int v] h Q := by
  obtain ⟨hl, hg, hw, hn⟩ := hc
  have he : x * iI w + y = iI ((r * w + c : Nat) : Int) := rc_i hx hy
  refine w_call IS_ok [] ok_Cells_set3 rfl rfl ?_
  refine w_m _ (hw h) ?_
  refine w_lt (r * w + c : Nat) 0 (fun _ => by omega) (fun _ => ?_) he rfl
  refine w_m _ (hg h) ?_
  refine w_mn _ (hl h) ?_
  refine w_le n (r * w + c : Nat) (fun _ => by omega) (fun _ => ?_) rfl he
  refine w_m _ (hg h) ?_
  refine w_mn _ (hl h) ?_
  refine w_ix (r * w + c) ?_ he hj
  exact hQ
theorem c_Cells_add {o a n w : Nat} {x v : Int32} {h : St} {Q : Option Value → St → Prop} (hc : CA o a n w) (j : Nat) (hj : j < n) (hQ : Q none (wa h a j (h.2 a j + v))) (hx : x = iI j) : SC y_Cells_add [.ref o, .int x, .int v] h Q := by
  obtain ⟨hl, hg, hw, hn⟩ := hc
  refine w_call IS_ok [] ok_Cells_add rfl rfl ?_
  refine w_lt j 0 (fun _ => by omega) (fun _ => ?_) hx rfl
  refine w_m _ (hg h) ?_
  refine w_mn _ (hl h) ?_
  refine w_le n j (fun _ => by omega) (fun _ => ?_) rfl hx
  refine w_m _ (hg h) ?_
  refine w_mn _ (hl h) ?_
  refine w_ix j ?_ hx hj
  refine w_mn _ (hl h) ?_
  refine w_ix j ?_ hx hj
  exact hQ
theorem c_Cells_fill {o a n w : Nat} {v : Int32} {h : St} {Q : Option Value → St → Prop} (hc : CA o a n w) (hQ : ∀ h', Sm [] [a] h h' → (∀ j, j < n → h'.2 a j = v) → Q none h') : SC y_Cells_fill [.ref o, .int v] h Q := by
  obtain ⟨hl, hg, hw, hn⟩ := hc
  refine w_call IS_ok [2] ok_Cells_fill rfl rfl ?_
  have loop : ∀ (m k : Nat) (hc : St) (z : Int32), n ≤ k + m → k ≤ n → Sm [] [a] h hc → (∀ j, j < k → hc.2 a j = v) → z = iI k → SR y_Cells_fill 2 [some (.ref o), some (.int v), some (.int z)] [] hc Q := by
    intro m
    induction m with
    | zero =>
      intro k hc z hm hk hs hv hz
      refine w_loop IS_ok [2] ok_Cells_fill ?_
      refine w_m _ (hg hc) ?_
      refine w_mn _ (hl hc) ?_
      exact w_le n k (fun _ => hQ hc hs (fun j hj => hv j (by omega))) (fun _ => by omega) rfl hz
    | succ m ih =>
      intro k hc z hm hk hs hv hz
      refine w_loop IS_ok [2] ok_Cells_fill ?_
      refine w_m _ (hg hc) ?_
      refine w_mn _ (hl hc) ?_
      refine w_le n k (fun _ => hQ hc hs (fun j hj => hv j (by omega))) (fun _ => ?_) rfl hz
      refine w_m _ (hg hc) ?_
      refine w_mn _ (hl hc) ?_
      refine w_ix k ?_ hz (by omega)
      refine ih (k + 1) (wa hc a k v) _ (by omega) (by omega) (hs.t (Sm.wa _ _ (by simp))) (fun j hj => ?_) (iI_1 hz)
      by_cases hjk : j = k
      · subst hjk; exact wa_s _ _ _ _
      · rw [wa_n _ _ _ _ hjk]; exact hv j (by omega)
  exact loop n 0 h _ (by omega) (by omega) Sm.rf (fun j hj => by omega) rfl
theorem c_Cells_copyFrom {o a n w o2 a2 w2 : Nat} {h : St} {Q : Option Value → St → Prop} (hc : CA o a n w) (hc2 : CA o2 a2 n w2) (hne : a ≠ a2) (hQ : ∀ h', Sm [] [a] h h' → (∀ j, j < n → h'.2 a j = h.2 a2 j) → Q none h') : SC y_Cells_copyFrom [.ref o, .ref o2] h Q := by
  obtain ⟨hl, hg, hw, hn⟩ := hc
  obtain ⟨hl2, hg2, hw2, -⟩ := hc2
  refine w_call IS_ok [] ok_Cells_copyFrom rfl rfl ?_
  refine w_m _ (hg2 h) ?_
  refine w_m _ (hg h) ?_
  refine w_m _ (hg2 h) ?_
  refine w_mn _ (hl2 h) ?_
  refine w_m _ (hg h) ?_
  refine w_mn _ (hl h) ?_
  refine c_J_min n n ?_ rfl rfl
  refine w_mm _ _ (hl h) (hl2 h) ?_
  refine ⟨n, by rw [if_pos (Int.le_refl _)]; rfl, Nat.le_refl _, Nat.le_refl _, rfl, rfl, hne, by decide, ?_⟩
  refine hQ (h.1, u1 h.2 a (e_cpy (h.2 a2) (h.2 a) n)) (Sm.wr _ (by simp)) (fun j hj => ?_)
  show u1 h.2 a (e_cpy (h.2 a2) (h.2 a) n) a j = _
  rw [u1_s]
  exact if_pos hj
end
section
/-! the class: a scene -/
def pg (h : St) (o k : Nat) (x : Int32) : St := (u2 h.1 o k x, h.2)
theorem pg_s (h : St) (o k : Nat) (x : Int32) : (pg h o k x).1 o k = x := by show u2 h.1 o k x o k = x; unfold u2; rw [u1_s, u1_s]
theorem pg_n (h : St) (o k : Nat) (x : Int32) {j : Nat} (hj : j ≠ k) : (pg h o k x).1 o j = h.1 o j := by show u2 h.1 o k x o j = _; unfold u2; rw [u1_s, u1_n _ _ hj]
theorem pg_o (h : St) (o k : Nat) (x : Int32) {o' j : Nat} (ho : o' ≠ o) : (pg h o k x).1 o' j = h.1 o' j := by show u2 h.1 o k x o' j = _; unfold u2; rw [u1_n _ _ ho]
theorem Sm.pg {X : List (Nat × Nat)} {Y : List Nat} {h : St} {o k : Nat} (x : Int32) (ha : (o, k) ∈ X) : Sm X Y h (pg h o k x) := Sm.put x ha
/-- the scene at a shows S -/
def CS (a : Nat) (S : Nat → Int) (h : St) : Prop := (h.1 a 3 = iI (S 1) ∧ h.1 a 4 = iI (S 0) ∧ h.1 a 5 = iI (S 2) ∧ h.1 a 6 = iI (S 3) ∧ h.1 a 7 = iI (S 4) ∧ h.1 a 8 = iI (S 5)) ∧ (∀ i, i < 64 → h.2 (a + 2) i = iI (S (206 + i))) ∧ (∀ k, k < (S 1).toNat → h.2 (a + 6) k = iI (S (6 + k))) ∧ (∀ p, p < 20 → ∀ j, j < 6 → h.2 (a + 4) (p * 10 + j) = iI (S (26 + 9 * p + j))) ∧ (∀ p : Nat, p < 20 → (p : Int) < S 0 → h.2 (a + 4) (p * 10 + 6) = iI (hgh S p)) ∧ (∀ p, p < 20 → ∀ j, j < 3 → h.2 (a + 4) (p * 10 + (7 + j)) = iI (S (26 + 9 * p + (6 + j))))
theorem CS.sm {a : Nat} {S : Nat → Int} {X : List (Nat × Nat)} {Y : List Nat} {h h' : St} (hC : CS a S h) (s : Sm X Y h h') (hx : ∀ q ∈ X, q.1 ≠ a) (hy : ∀ q ∈ Y, q ≠ a + 2 ∧ q ≠ a + 4 ∧ q ≠ a + 6) : CS a S h' := by
  have e1 : ∀ k, h'.1 a k = h.1 a k := fun k => s.1 a k (fun z => hx _ z rfl)
  have e2 : h'.2 (a + 2) = h.2 (a + 2) := s.2 _ (fun z => (hy _ z).1 rfl)
  have e4 : h'.2 (a + 4) = h.2 (a + 4) := s.2 _ (fun z => (hy _ z).2.1 rfl)
  have e6 : h'.2 (a + 6) = h.2 (a + 6) := s.2 _ (fun z => (hy _ z).2.2 rfl)
  unfold CS
  rw [e1, e1, e1, e1, e1, e1, e2, e4, e6]
  exact hC
/-- what a frame needs to know of a state: its counts are at most b -/
def WG (b : Int) (S : Nat → Int) : Prop := (0 ≤ S 0 ∧ S 0 ≤ 20) ∧ (0 ≤ S 1 ∧ S 1 ≤ 20) ∧ (1 ≤ S 2 ∧ S 2 ≤ 8) ∧ (0 ≤ S 3 ∧ S 3 ≤ 2) ∧ (1 ≤ S 4 ∧ S 4 ≤ 19) ∧ (0 ≤ S 5 ∧ S 5 ≤ b) ∧ (∀ k, k < (S 1).toNat → S (6 + k) = (od S k : Int) ∧ od S k < 20 ∧ S (6 + k) < S 0) ∧ (∀ j k, j < (S 1).toNat → k < (S 1).toNat → od S j = od S k → j = k) ∧ (∀ p, p < 20 → -15 ≤ S (26 + 9 * p + 1) ∧ S (26 + 9 * p + 1) ≤ 47) ∧ (∀ p, p < 20 → ∀ j, j < 3 → 0 ≤ S (26 + 9 * p + (6 + j)) ∧ S (26 + 9 * p + (6 + j)) ≤ b)
theorem WF.wg {S : Nat → Int} (h : WF S) : WG 9999 S := by
  have hn := h.n
  have hw := h.wp
  have h5 := h.2.2.2.2.2.1
  refine ⟨h.1, by omega, h.2.2.1, h.2.2.2.1, h.2.2.2.2.1, h5, fun k hk => h.od hk, fun j k hj hk he => wf_oi h hj hk he, fun p hp => (hw p hp).2.1, fun p hp j hj => ?_⟩
  obtain ⟨-, -, -, -, -, -, a, b, c⟩ := hw p hp
  have : j = 0 ∨ j = 1 ∨ j = 2 := by omega
  rcases this with rfl | rfl | rfl
  · exact ⟨a.1, by have := a.2; show S (26 + 9 * p + 6) ≤ 9999; omega⟩
  · exact ⟨b.1, by have := b.2; show S (26 + 9 * p + 7) ≤ 9999; omega⟩
  · exact ⟨c.1, by have := c.2; show S (26 + 9 * p + 8) ≤ 9999; omega⟩
theorem CS.eqv {a : Nat} {S S' : Nat → Int} {h : St} (hC : CS a S h) (e : Eqv S S') (hn : (S 1).toNat ≤ 20) : CS a S' h := by
  obtain ⟨⟨a1, a2, a3, a4, a5, a6⟩, b, c, d, f, g⟩ := hC
  have k : ∀ i, i < 270 → (i < 6 ∨ 26 ≤ i) → S' i = S i := fun i h1 h2 => e i h1 (by omega)
  refine ⟨⟨by rw [k 1 (by omega) (by omega)]; exact a1, by rw [k 0 (by omega) (by omega)]; exact a2, by rw [k 2 (by omega) (by omega)]; exact a3, by rw [k 3 (by omega) (by omega)]; exact a4, by rw [k 4 (by omega) (by omega)]; exact a5, by rw [k 5 (by omega) (by omega)]; exact a6⟩, fun i hi => by rw [k _ (by omega) (by omega)]; exact b i hi, fun i hi => ?_, fun p hp j hj => by rw [k _ (by omega) (by omega)]; exact d p hp j hj, fun p hp h0 => ?_, fun p hp j hj => by rw [k _ (by omega) (by omega)]; exact g p hp j hj⟩
  · rw [k 1 (by omega) (by omega)] at hi
    rw [e _ (by omega) (by omega)]
    exact c i hi
  · rw [k 0 (by omega) (by omega)] at h0
    have := f p hp h0
    unfold hgh at this ⊢
    rw [k _ (by omega) (by omega)]
    exact this
def fst (S : Nat → Int) (p : Nat) : Int := if 0 ≤ S (26 + 9 * p + 1) then S (26 + 9 * p + 1) else 0
def lst (S : Nat → Int) (p : Nat) : Int := (if S (26 + 9 * p + 1) + hgh S p ≤ 48 then S (26 + 9 * p + 1) + hgh S p else 48) - 1
def shf {α : Type} (r : Nat → α) (f t : Nat) : Nat → α := fun k => if k = t then r f else if f ≤ k ∧ k < t then r (k + 1) else if t < k ∧ k ≤ f then r (k - 1) else r k
theorem CA_2 : CA 2 3 64 8 := ⟨fun _ => rfl, fun _ => rfl, fun _ => rfl, by decide⟩
theorem CA_4 : CA 4 5 200 10 := ⟨fun _ => rfl, fun _ => rfl, fun _ => rfl, by decide⟩
theorem CA_6 : CA 6 7 20 1 := ⟨fun _ => rfl, fun _ => rfl, fun _ => rfl, by decide⟩
theorem CA_9 : CA 9 10 64 8 := ⟨fun _ => rfl, fun _ => rfl, fun _ => rfl, by decide⟩
theorem CA_11 : CA 11 12 200 10 := ⟨fun _ => rfl, fun _ => rfl, fun _ => rfl, by decide⟩
theorem CA_13 : CA 13 14 20 1 := ⟨fun _ => rfl, fun _ => rfl, fun _ => rfl, by decide⟩
theorem CA_25 : CA 25 26 64 8 := ⟨fun _ => rfl, fun _ => rfl, fun _ => rfl, by decide⟩
theorem CA_27 : CA 27 28 200 10 := ⟨fun _ => rfl, fun _ => rfl, fun _ => rfl, by decide⟩
theorem CA_29 : CA 29 30 20 1 := ⟨fun _ => rfl, fun _ => rfl, fun _ => rfl, by decide⟩
theorem CA_41 : CA 41 42 64 8 := ⟨fun _ => rfl, fun _ => rfl, fun _ => rfl, by decide⟩
theorem CA_43 : CA 43 44 200 10 := ⟨fun _ => rfl, fun _ => rfl, fun _ => rfl, by decide⟩
theorem CA_45 : CA 45 46 20 1 := ⟨fun _ => rfl, fun _ => rfl, fun _ => rfl, by decide⟩
theorem CA_48 : CA 48 49 64 8 := ⟨fun _ => rfl, fun _ => rfl, fun _ => rfl, by decide⟩
theorem CA_50 : CA 50 51 200 10 := ⟨fun _ => rfl, fun _ => rfl, fun _ => rfl, by decide⟩
theorem CA_52 : CA 52 53 20 1 := ⟨fun _ => rfl, fun _ => rfl, fun _ => rfl, by decide⟩
theorem CA_55 : CA 55 56 64 8 := ⟨fun _ => rfl, fun _ => rfl, fun _ => rfl, by decide⟩
theorem CA_57 : CA 57 58 200 10 := ⟨fun _ => rfl, fun _ => rfl, fun _ => rfl, by decide⟩
theorem CA_59 : CA 59 60 20 1 := ⟨fun _ => rfl, fun _ => rfl, fun _ => rfl, by decide⟩
theorem CA_62 : CA 62 63 64 8 := ⟨fun _ => rfl, fun _ => rfl, fun _ => rfl, by decide⟩
theorem CA_64 : CA 64 65 200 10 := ⟨fun _ => rfl, fun _ => rfl, fun _ => rfl, by decide⟩
theorem CA_66 : CA 66 67 20 1 := ⟨fun _ => rfl, fun _ => rfl, fun _ => rfl, by decide⟩
theorem CA_69 : CA 69 70 64 8 := ⟨fun _ => rfl, fun _ => rfl, fun _ => rfl, by decide⟩
theorem CA_71 : CA 71 72 200 10 := ⟨fun _ => rfl, fun _ => rfl, fun _ => rfl, by decide⟩
theorem CA_73 : CA 73 74 20 1 := ⟨fun _ => rfl, fun _ => rfl, fun _ => rfl, by decide⟩
theorem CA_16 : CA 16 17 48 1 := ⟨fun _ => rfl, fun _ => rfl, fun _ => rfl, by decide⟩
theorem CA_18 : CA 18 19 20 1 := ⟨fun _ => rfl, fun _ => rfl, fun _ => rfl, by decide⟩
theorem CA_32 : CA 32 33 48 1 := ⟨fun _ => rfl, fun _ => rfl, fun _ => rfl, by decide⟩
theorem CA_34 : CA 34 35 20 1 := ⟨fun _ => rfl, fun _ => rfl, fun _ => rfl, by decide⟩
theorem CA_21 : CA 21 22 8 1 := ⟨fun _ => rfl, fun _ => rfl, fun _ => rfl, by decide⟩
theorem CA_36 : CA 36 37 20 1 := ⟨fun _ => rfl, fun _ => rfl, fun _ => rfl, by decide⟩
theorem CA_77 : CA 77 78 100 1 := ⟨fun _ => rfl, fun _ => rfl, fun _ => rfl, by decide⟩
theorem CA_80 : CA 80 81 600 6 := ⟨fun _ => rfl, fun _ => rfl, fun _ => rfl, by decide⟩
theorem CA_82 : CA 82 83 4 1 := ⟨fun _ => rfl, fun _ => rfl, fun _ => rfl, by decide⟩
theorem CA_85 : CA 85 86 200 1 := ⟨fun _ => rfl, fun _ => rfl, fun _ => rfl, by decide⟩
theorem CA_87 : CA 87 88 4 1 := ⟨fun _ => rfl, fun _ => rfl, fun _ => rfl, by decide⟩

theorem c_Scene_firstLine_1 {S : Nat → Int} {x : Int32} {h : St} {Q : Option Value → St → Prop} (hC : CS 1 S h) (p : Nat) (hp : p < 20) (hy : -15 ≤ S (26 + 9 * p + 1) ∧ S (26 + 9 * p + 1) ≤ 47) (hQ : Q (some (.int (iI (fst S p)))) h) (hx : x = iI p) : SC y_Scene_firstLine [.ref 1, .int x] h Q := by
  refine w_call IS_ok [] ok_Scene_firstLine rfl rfl ?_
  refine c_Cells_get2 CA_4 p 1 (by omega) ?_ hx rfl
  exact c_J_max (S (26 + 9 * p + 1)) 0 hQ (hC.2.2.2.1 p hp 1 (by omega)) rfl
theorem c_Scene_lastLine_1 {S : Nat → Int} {x : Int32} {h : St} {Q : Option Value → St → Prop} (hC : CS 1 S h) (p : Nat) (hp : p < 20) (hp0 : (p : Int) < S 0) (hy : -15 ≤ S (26 + 9 * p + 1) ∧ S (26 + 9 * p + 1) ≤ 47) (hQ : Q (some (.int (iI (lst S p)))) h) (hx : x = iI p) : SC y_Scene_lastLine [.ref 1, .int x] h Q := by
  refine w_call IS_ok [] ok_Scene_lastLine rfl rfl ?_
  refine c_Cells_get2 CA_4 p 1 (by omega) ?_ hx rfl
  refine c_Cells_get2 CA_4 p 6 (by omega) ?_ hx rfl
  have hh := hgh_b S p
  refine c_J_min (S (26 + 9 * p + 1) + hgh S p) 48 ?_ ?_ rfl
  · unfold lst at hQ
    rw [← iI_sub] at hQ
    exact hQ
  · exact (congr (congrArg HAdd.hAdd (hC.2.2.2.1 p hp 1 (by omega))) (hC.2.2.2.2.1 p hp hp0)).trans (iI_add _ _)
theorem c_Scene_shiftInOrder_1 {x y : Int32} {h : St} {Q : Option Value → St → Prop} (f t : Nat) (hf : f < 20) (ht : t < 20) (hQ : ∀ h', Sm [] [7] h h' → (∀ k, k < 20 → h'.2 7 k = shf (h.2 7) f t k) → Q none h') (hx : x = iI f) (hy : y = iI t) : SC y_Scene_shiftInOrder [.ref 1, .int x, .int y] h Q := by
  refine w_call IS_ok [12] ok_Scene_shiftInOrder rfl rfl ?_
  refine c_Cells_get1 CA_6 f hf ?_ hx
  have last : ∀ (c : Nat) (hc : St) (z : Int32), Sm [] [7] h hc → c ≤ f → c ≤ t → (t ≤ c ∨ c = f) → (∀ k, k < 20 → hc.2 7 k = if c < k ∧ k ≤ f then h.2 7 (k - 1) else if f ≤ k ∧ k < t then h.2 7 (k + 1) else h.2 7 k) → SR y_Scene_shiftInOrder 79 [some (.ref 1), some (.int x), some (.int y), some (.int (h.2 7 f)), some (.int z)] [] hc Q := by
    intro c hc z hs h1 h2 h3 hr
    refine w_loop IS_ok [] ok_Scene_shiftInOrder ?_
    refine c_Cells_set2 CA_6 t ht ?_ hy
    refine hQ _ (hs.t (Sm.wa _ _ (by decide))) (fun k hk => ?_)
    unfold shf
    by_cases z1 : k = t
    · rw [z1, wa_s, if_pos rfl]
    · rw [wa_n _ _ _ _ z1, if_neg z1, hr k hk]
      by_cases z2 : f ≤ k ∧ k < t
      · rw [if_neg (by omega), if_pos z2, if_pos z2]
      · rw [if_neg z2, if_neg z2]
        by_cases z3 : t < k ∧ k ≤ f
        · rw [if_pos (by omega), if_pos z3]
        · rw [if_neg (by omega), if_neg z3]
  have loop2 : ∀ (m c : Nat) (hc : St) (z : Int32), c ≤ t + m → c ≤ f → (t ≤ c ∨ c = f) → Sm [] [7] h hc → (∀ k, k < 20 → hc.2 7 k = if c < k ∧ k ≤ f then h.2 7 (k - 1) else if f ≤ k ∧ k < t then h.2 7 (k + 1) else h.2 7 k) → z = iI c → SR y_Scene_shiftInOrder 47 [some (.ref 1), some (.int x), some (.int y), some (.int (h.2 7 f)), some (.int z)] [] hc Q := by
    intro m
    induction m with
    | zero =>
      intro c hc z h1 h2 h3 hs hr hz
      refine w_loop IS_ok [79] ok_Scene_shiftInOrder ?_
      exact w_le c t (fun _ => last c hc z hs h2 (by omega) h3 hr) (fun _ => by omega) hz hy
    | succ m ih =>
      intro c hc z h1 h2 h3 hs hr hz
      refine w_loop IS_ok [47, 79] ok_Scene_shiftInOrder ?_
      refine w_le c t (fun _ => last c hc z hs h2 (by omega) h3 hr) (fun g => ?_) hz hy
      refine c_Cells_get1 CA_6 (c - 1) (by omega) ?_ (iI_q hz (by omega))
      refine c_Cells_set2 CA_6 c (by omega) ?_ hz
      refine ih (c - 1) (wa hc 7 c (hc.2 7 (c - 1))) _ (by omega) (by omega) (by omega) (hs.t (Sm.wa _ _ (by decide))) (fun k hk => ?_) (iI_p hz (by omega))
      by_cases z1 : k = c
      · subst z1
        rw [wa_s, hr _ (by omega), if_neg (by omega), if_neg (by omega), if_pos (by omega)]
      · rw [wa_n _ _ _ _ z1, hr k hk]
        by_cases z2 : c < k ∧ k ≤ f
        · rw [if_pos z2, if_pos (by omega)]
        · rw [if_neg z2, if_neg (by omega), if_neg (by omega)]
  have loop1 : ∀ (m c : Nat) (hc : St) (z : Int32), t ≤ c + m → f ≤ c → (c ≤ t ∨ c = f) → Sm [] [7] h hc → (∀ k, k < 20 → hc.2 7 k = if f ≤ k ∧ k < c then h.2 7 (k + 1) else h.2 7 k) → z = iI c → SR y_Scene_shiftInOrder 12 [some (.ref 1), some (.int x), some (.int y), some (.int (h.2 7 f)), some (.int z)] [] hc Q := by
    have mid : ∀ (c : Nat) (hc : St) (z : Int32), f ≤ c → (c ≤ t ∨ c = f) → t ≤ c → Sm [] [7] h hc → (∀ k, k < 20 → hc.2 7 k = if f ≤ k ∧ k < c then h.2 7 (k + 1) else h.2 7 k) → SR y_Scene_shiftInOrder 44 [some (.ref 1), some (.int x), some (.int y), some (.int (h.2 7 f)), some (.int z)] [] hc Q := by
      intro c hc z h1 h2 h3 hs hr
      refine w_loop IS_ok [47] ok_Scene_shiftInOrder ?_
      refine loop2 20 f hc _ (by omega) (by omega) (by omega) hs (fun k hk => ?_) hx
      rw [hr k hk, if_neg (by omega : ¬ (f < k ∧ k ≤ f))]
      by_cases z2 : f ≤ k ∧ k < t
      · rw [if_pos z2, if_pos (by omega)]
      · rw [if_neg z2, if_neg (by omega)]
    intro m
    induction m with
    | zero =>
      intro c hc z h1 h2 h3 hs hr hz
      refine w_loop IS_ok [44] ok_Scene_shiftInOrder ?_
      exact w_le t c (fun _ => mid c hc z h2 h3 (by omega) hs hr) (fun _ => by omega) hy hz
    | succ m ih =>
      intro c hc z h1 h2 h3 hs hr hz
      refine w_loop IS_ok [12, 44] ok_Scene_shiftInOrder ?_
      refine w_le t c (fun _ => mid c hc z h2 h3 (by omega) hs hr) (fun g => ?_) hy hz
      refine c_Cells_get1 CA_6 (c + 1) (by omega) ?_ (iI_1 hz)
      refine c_Cells_set2 CA_6 c (by omega) ?_ hz
      refine ih (c + 1) (wa hc 7 c (hc.2 7 (c + 1))) _ (by omega) (by omega) (by omega) (hs.t (Sm.wa _ _ (by decide))) (fun k hk => ?_) (iI_1 hz)
      by_cases z1 : k = c
      · subst z1
        rw [wa_s, hr _ (by omega), if_neg (by omega), if_pos (by omega)]
      · rw [wa_n _ _ _ _ z1, hr k hk]
        by_cases z2 : f ≤ k ∧ k < c
        · rw [if_pos z2, if_pos (by omega)]
        · rw [if_neg z2, if_neg (by omega)]
  refine loop1 20 f h _ (by omega) (by omega) (by omega) Sm.rf (fun k hk => ?_) hx
  rw [if_neg (by omega)]

theorem c_Scene_firstLine_24 {S : Nat → Int} {x : Int32} {h : St} {Q : Option Value → St → Prop} (hC : CS 24 S h) (p : Nat) (hp : p < 20) (hy : -15 ≤ S (26 + 9 * p + 1) ∧ S (26 + 9 * p + 1) ≤ 47) (hQ : Q (some (.int (iI (fst S p)))) h) (hx : x = iI p) : SC y_Scene_firstLine [.ref 24, .int x] h Q := by
  refine w_call IS_ok [] ok_Scene_firstLine rfl rfl ?_
  refine c_Cells_get2 CA_27 p 1 (by omega) ?_ hx rfl
  exact c_J_max (S (26 + 9 * p + 1)) 0 hQ (hC.2.2.2.1 p hp 1 (by omega)) rfl
theorem c_Scene_lastLine_24 {S : Nat → Int} {x : Int32} {h : St} {Q : Option Value → St → Prop} (hC : CS 24 S h) (p : Nat) (hp : p < 20) (hp0 : (p : Int) < S 0) (hy : -15 ≤ S (26 + 9 * p + 1) ∧ S (26 + 9 * p + 1) ≤ 47) (hQ : Q (some (.int (iI (lst S p)))) h) (hx : x = iI p) : SC y_Scene_lastLine [.ref 24, .int x] h Q := by
  refine w_call IS_ok [] ok_Scene_lastLine rfl rfl ?_
  refine c_Cells_get2 CA_27 p 1 (by omega) ?_ hx rfl
  refine c_Cells_get2 CA_27 p 6 (by omega) ?_ hx rfl
  have hh := hgh_b S p
  refine c_J_min (S (26 + 9 * p + 1) + hgh S p) 48 ?_ ?_ rfl
  · unfold lst at hQ
    rw [← iI_sub] at hQ
    exact hQ
  · exact (congr (congrArg HAdd.hAdd (hC.2.2.2.1 p hp 1 (by omega))) (hC.2.2.2.2.1 p hp hp0)).trans (iI_add _ _)
theorem c_Scene_shiftInOrder_24 {x y : Int32} {h : St} {Q : Option Value → St → Prop} (f t : Nat) (hf : f < 20) (ht : t < 20) (hQ : ∀ h', Sm [] [30] h h' → (∀ k, k < 20 → h'.2 30 k = shf (h.2 30) f t k) → Q none h') (hx : x = iI f) (hy : y = iI t) : SC y_Scene_shiftInOrder [.ref 24, .int x, .int y] h Q := by
  refine w_call IS_ok [12] ok_Scene_shiftInOrder rfl rfl ?_
  refine c_Cells_get1 CA_29 f hf ?_ hx
  have last : ∀ (c : Nat) (hc : St) (z : Int32), Sm [] [30] h hc → c ≤ f → c ≤ t → (t ≤ c ∨ c = f) → (∀ k, k < 20 → hc.2 30 k = if c < k ∧ k ≤ f then h.2 30 (k - 1) else if f ≤ k ∧ k < t then h.2 30 (k + 1) else h.2 30 k) → SR y_Scene_shiftInOrder 79 [some (.ref 24), some (.int x), some (.int y), some (.int (h.2 30 f)), some (.int z)] [] hc Q := by
    intro c hc z hs h1 h2 h3 hr
    refine w_loop IS_ok [] ok_Scene_shiftInOrder ?_
    refine c_Cells_set2 CA_29 t ht ?_ hy
    refine hQ _ (hs.t (Sm.wa _ _ (by decide))) (fun k hk => ?_)
    unfold shf
    by_cases z1 : k = t
    · rw [z1, wa_s, if_pos rfl]
    · rw [wa_n _ _ _ _ z1, if_neg z1, hr k hk]
      by_cases z2 : f ≤ k ∧ k < t
      · rw [if_neg (by omega), if_pos z2, if_pos z2]
      · rw [if_neg z2, if_neg z2]
        by_cases z3 : t < k ∧ k ≤ f
        · rw [if_pos (by omega), if_pos z3]
        · rw [if_neg (by omega), if_neg z3]
  have loop2 : ∀ (m c : Nat) (hc : St) (z : Int32), c ≤ t + m → c ≤ f → (t ≤ c ∨ c = f) → Sm [] [30] h hc → (∀ k, k < 20 → hc.2 30 k = if c < k ∧ k ≤ f then h.2 30 (k - 1) else if f ≤ k ∧ k < t then h.2 30 (k + 1) else h.2 30 k) → z = iI c → SR y_Scene_shiftInOrder 47 [some (.ref 24), some (.int x), some (.int y), some (.int (h.2 30 f)), some (.int z)] [] hc Q := by
    intro m
    induction m with
    | zero =>
      intro c hc z h1 h2 h3 hs hr hz
      refine w_loop IS_ok [79] ok_Scene_shiftInOrder ?_
      exact w_le c t (fun _ => last c hc z hs h2 (by omega) h3 hr) (fun _ => by omega) hz hy
    | succ m ih =>
      intro c hc z h1 h2 h3 hs hr hz
      refine w_loop IS_ok [47, 79] ok_Scene_shiftInOrder ?_
      refine w_le c t (fun _ => last c hc z hs h2 (by omega) h3 hr) (fun g => ?_) hz hy
      refine c_Cells_get1 CA_29 (c - 1) (by omega) ?_ (iI_q hz (by omega))
      refine c_Cells_set2 CA_29 c (by omega) ?_ hz
      refine ih (c - 1) (wa hc 30 c (hc.2 30 (c - 1))) _ (by omega) (by omega) (by omega) (hs.t (Sm.wa _ _ (by decide))) (fun k hk => ?_) (iI_p hz (by omega))
      by_cases z1 : k = c
      · subst z1
        rw [wa_s, hr _ (by omega), if_neg (by omega), if_neg (by omega), if_pos (by omega)]
      · rw [wa_n _ _ _ _ z1, hr k hk]
        by_cases z2 : c < k ∧ k ≤ f
        · rw [if_pos z2, if_pos (by omega)]
        · rw [if_neg z2, if_neg (by omega), if_neg (by omega)]
  have loop1 : ∀ (m c : Nat) (hc : St) (z : Int32), t ≤ c + m → f ≤ c → (c ≤ t ∨ c = f) → Sm [] [30] h hc → (∀ k, k < 20 → hc.2 30 k = if f ≤ k ∧ k < c then h.2 30 (k + 1) else h.2 30 k) → z = iI c → SR y_Scene_shiftInOrder 12 [some (.ref 24), some (.int x), some (.int y), some (.int (h.2 30 f)), some (.int z)] [] hc Q := by
    have mid : ∀ (c : Nat) (hc : St) (z : Int32), f ≤ c → (c ≤ t ∨ c = f) → t ≤ c → Sm [] [30] h hc → (∀ k, k < 20 → hc.2 30 k = if f ≤ k ∧ k < c then h.2 30 (k + 1) else h.2 30 k) → SR y_Scene_shiftInOrder 44 [some (.ref 24), some (.int x), some (.int y), some (.int (h.2 30 f)), some (.int z)] [] hc Q := by
      intro c hc z h1 h2 h3 hs hr
      refine w_loop IS_ok [47] ok_Scene_shiftInOrder ?_
      refine loop2 20 f hc _ (by omega) (by omega) (by omega) hs (fun k hk => ?_) hx
      rw [hr k hk, if_neg (by omega : ¬ (f < k ∧ k ≤ f))]
      by_cases z2 : f ≤ k ∧ k < t
      · rw [if_pos z2, if_pos (by omega)]
      · rw [if_neg z2, if_neg (by omega)]
    intro m
    induction m with
    | zero =>
      intro c hc z h1 h2 h3 hs hr hz
      refine w_loop IS_ok [44] ok_Scene_shiftInOrder ?_
      exact w_le t c (fun _ => mid c hc z h2 h3 (by omega) hs hr) (fun _ => by omega) hy hz
    | succ m ih =>
      intro c hc z h1 h2 h3 hs hr hz
      refine w_loop IS_ok [12, 44] ok_Scene_shiftInOrder ?_
      refine w_le t c (fun _ => mid c hc z h2 h3 (by omega) hs hr) (fun g => ?_) hy hz
      refine c_Cells_get1 CA_29 (c + 1) (by omega) ?_ (iI_1 hz)
      refine c_Cells_set2 CA_29 c (by omega) ?_ hz
      refine ih (c + 1) (wa hc 30 c (hc.2 30 (c + 1))) _ (by omega) (by omega) (by omega) (hs.t (Sm.wa _ _ (by decide))) (fun k hk => ?_) (iI_1 hz)
      by_cases z1 : k = c
      · subst z1
        rw [wa_s, hr _ (by omega), if_neg (by omega), if_pos (by omega)]
      · rw [wa_n _ _ _ _ z1, hr k hk]
        by_cases z2 : f ≤ k ∧ k < c
        · rw [if_pos z2, if_pos (by omega)]
        · rw [if_neg z2, if_neg (by omega)]
  refine loop1 20 f h _ (by omega) (by omega) (by omega) Sm.rf (fun k hk => ?_) hx
  rw [if_neg (by omega)]
end
section
/-! the class: the survey -/
theorem stn_fl {S : Nat → Int} {p : Nat} {l : Nat} (hl : l < 48) : stn S p l ↔ fst S p ≤ l ∧ (l : Int) ≤ lst S p := by
  unfold fst lst stn
  split <;> split <;> omega
theorem fst_b {S : Nat → Int} {p : Nat} (hy : -15 ≤ S (26 + 9 * p + 1) ∧ S (26 + 9 * p + 1) ≤ 47) : 0 ≤ fst S p ∧ fst S p ≤ 47 := by
  unfold fst
  split <;> omega
theorem lst_b {S : Nat → Int} {p : Nat} (hy : -15 ≤ S (26 + 9 * p + 1) ∧ S (26 + 9 * p + 1) ≤ 47) : -20 ≤ lst S p ∧ lst S p ≤ 47 := by
  have := hgh_b S p
  unfold lst
  split <;> omega
theorem sm_tail {f : Nat → Nat} {y : Nat} : ∀ {m : Nat}, y ≤ m → (∀ l, y ≤ l → l < m → f l = 0) → sm f m = sm f y
  | 0, h, _ => by rw [show y = 0 by omega]
  | m + 1, h, hz => by
    by_cases z : y = m + 1
    · rw [z]
    · show sm f m + f m = _
      rw [hz m (by omega) (by omega), sm_tail (m := m) (by omega) (fun l h1 h2 => hz l h1 (by omega))]
      rfl
theorem smR (S : Nat → Int) (o : Nat → Nat) (k p m : Nat) : sm (fun l => hR S o l (k + 1) p) m = sm (fun l => hR S o l k p) m + (if o k = p then sm (fun l => hA S o l k) m else 0) := by
  have : sm (fun l => hR S o l (k + 1) p) m = sm (fun l => hR S o l k p + (if o k = p then hA S o l k else 0)) m := sm_congr (fun l _ => hR_s S o l k p)
  rw [this, sm_add]
  split
  · rfl
  · rw [show sm (fun _ => 0) m = 0 from sm_zero.mpr (fun _ _ => rfl)]

set_option maxHeartbeats 2000000 in
theorem c_Surv_look_1 {b : Int} {S : Nat → Int} {h : St} {Q : Option Value → St → Prop} (hC : CS 1 S h) (hG : WG b S) (hQ : ∀ h', Sm [] [17, 19] h h' → (∀ y, y < 48 → h'.2 17 y = iI (cn S (od S) y (S 1).toNat : Nat)) → (∀ p, p < 20 → h'.2 19 p = iI (hT S (od S) (S 1).toNat 48 p : Nat)) → Q none h') : SC y_Surv_look [.ref 15, .ref 1] h Q := by
  obtain ⟨g0, g1, g2, g3, g4, g5, god, ginj, gy, gc⟩ := id hG
  refine w_call IS_ok [18] ok_Surv_look rfl rfl ?_
  refine c_Cells_fill CA_16 (fun h1 hs1 hz1 => ?_)
  refine c_Cells_fill CA_18 (fun h2 hs2 hz2 => ?_)
  have outer : ∀ (m k : Nat) (hc : St) (z : Int32) (L3 L4 L5 : Option Value), (S 1).toNat ≤ k + m → k ≤ (S 1).toNat → Sm [] [17, 19] h hc → (∀ y : Nat, y < 48 → hc.2 17 y = iI (cn S (od S) y k : Nat)) → (∀ p, p < 20 → hc.2 19 p = iI (sm (fun l => hR S (od S) l k p) 48 : Nat)) → z = iI k → SR y_Surv_look 18 [some (.ref 15), some (.ref 1), some (.int z), L3, L4, L5] [] hc Q := by
    intro m
    induction m with
    | zero =>
      intro k hc z L3 L4 L5 hm hk hs ha hb hz
      have : k = (S 1).toNat := by omega
      subst this
      refine w_loop IS_ok [18] ok_Surv_look ?_
      exact w_le (S 1) (S 1).toNat (fun _ => hQ hc hs ha hb) (fun _ => by omega) ((hs.1 _ _ (by decide)).trans hC.1.1) hz
    | succ m ih =>
      intro k hc z L3 L4 L5 hm hk hs ha hb hz
      have hCc : CS 1 S hc := hC.sm hs (by decide) (by decide)
      refine w_loop IS_ok [18, 49] ok_Surv_look ?_
      refine w_le (S 1) k (fun g => ?_) (fun g => ?_) hCc.1.1 hz
      · have : k = (S 1).toNat := by omega
        subst this
        exact hQ hc hs ha hb
      obtain ⟨o1, o2, o3⟩ := god k (by omega)
      have hy := gy _ o2
      have hf := fst_b hy
      have hl := lst_b hy
      refine c_Cells_get1 CA_6 k (by omega) ?_ hz
      have eo : hc.2 7 k = iI (od S k : Nat) := (hCc.2.2.1 k (by omega)).trans (congrArg iI o1)
      refine c_Scene_lastLine_1 hCc (od S k) o2 (by omega) hy ?_ eo
      refine c_Scene_firstLine_1 hCc (od S k) o2 hy ?_ eo
      have done : ∀ (y : Nat) (hd : St) (z5 : Int32), lst S (od S k) < y → fst S (od S k) ≤ y → y ≤ 48 → Sm [] [17, 19] h hd → (∀ l, l < 48 → hd.2 17 l = iI ((if l < y then cn S (od S) l (k + 1) else cn S (od S) l k : Nat) : Nat)) → (∀ q, q < 20 → hd.2 19 q = iI ((sm (fun l => hR S (od S) l k q) 48 + (if od S k = q then sm (fun l => hA S (od S) l k) y else 0) : Nat) : Nat)) → SR y_Surv_look 97 [some (.ref 15), some (.ref 1), some (.int z), some (.int (hc.2 7 k)), some (.int (iI (lst S (od S k)))), some (.int z5)] [] hd Q := by
        intro y hd z5 hyl hyf hy48 hsd had hbd
        refine w_loop IS_ok [18] ok_Surv_look ?_
        refine ih (k + 1) hd _ _ _ _ (by omega) (by omega) hsd (fun l hl => ?_) (fun q hq => ?_) (iI_1 hz)
        · rw [had l hl]
          by_cases z1 : l < y
          · rw [if_pos z1]
          · rw [if_neg z1, cn_f (fun z2 => by have := (stn_fl hl).mp z2; omega)]
        · rw [hbd q hq, smR, sm_tail (f := fun l => hA S (od S) l k) (y := y) (m := 48) hy48 (fun l h1 h2 => if_neg (fun z2 => by have := (stn_fl h2).mp z2.1; omega))]
      have inner : ∀ (m y : Nat) (hd : St) (z5 : Int32), 48 ≤ y + m → fst S (od S k) ≤ y → y ≤ 48 → Sm [] [17, 19] h hd → (∀ l, l < 48 → hd.2 17 l = iI ((if l < y then cn S (od S) l (k + 1) else cn S (od S) l k : Nat) : Nat)) → (∀ q, q < 20 → hd.2 19 q = iI ((sm (fun l => hR S (od S) l k q) 48 + (if od S k = q then sm (fun l => hA S (od S) l k) y else 0) : Nat) : Nat)) → z5 = iI y → SR y_Surv_look 49 [some (.ref 15), some (.ref 1), some (.int z), some (.int (hc.2 7 k)), some (.int (iI (lst S (od S k)))), some (.int z5)] [] hd Q := by
        intro m
        induction m with
        | zero =>
          intro y hd z5 hm2 hyf hy48 hsd had hbd hz5
          refine w_loop IS_ok [97] ok_Surv_look ?_
          exact w_lt (lst S (od S k)) y (fun g => done y hd z5 g hyf hy48 hsd had hbd) (fun _ => by omega) rfl hz5
        | succ m ih2 =>
          intro y hd z5 hm2 hyf hy48 hsd had hbd hz5
          refine w_loop IS_ok [81, 97] ok_Surv_look ?_
          refine w_lt (lst S (od S k)) y (fun g => done y hd z5 g hyf hy48 hsd had hbd) (fun g => ?_) rfl hz5
          have hy47 : y < 48 := by omega
          have hst : stn S (od S k) y := (stn_fl hy47).mpr ⟨hyf, g⟩
          have hcn := cn_le S (od S) y k
          have hct := cn_t (o := od S) (k := k) hst
          have at81 : ∀ (he : St), Sm [] [17, 19] h he → he.2 17 = hd.2 17 → (∀ q, q < 20 → he.2 19 q = iI ((sm (fun l => hR S (od S) l k q) 48 + (if od S k = q then sm (fun l => hA S (od S) l k) (y + 1) else 0) : Nat) : Nat)) → SR y_Surv_look 81 [some (.ref 15), some (.ref 1), some (.int z), some (.int (hc.2 7 k)), some (.int (iI (lst S (od S k)))), some (.int z5)] [] he Q := by
            intro he hse hae hbe
            refine w_loop IS_ok [49] ok_Surv_look ?_
            refine c_Cells_add CA_16 y hy47 ?_ hz5
            refine ih2 (y + 1) (wa he 17 y (he.2 17 y + 1)) _ (by omega) (by omega) (by omega) (hse.t (Sm.wa _ _ (by decide))) (fun l hl => ?_) (fun q hq => ?_) (iI_1 hz5)
            · by_cases z1 : l = y
              · subst z1
                rw [wa_s, hae, had l hl, if_neg (by omega), if_pos (by omega), hct]
                exact iI_1 rfl
              · rw [wa_n _ _ _ _ z1, hae, had l hl]
                by_cases z2 : l < y
                · rw [if_pos z2, if_pos (by omega)]
                · rw [if_neg z2, if_neg (by omega)]
            · rw [wa_o _ _ _ _ (by decide)]
              exact hbe q hq
          refine c_Cells_get1 CA_16 y hy47 ?_ hz5
          have hCd : CS 1 S hd := hC.sm hsd (by decide) (by decide)
          have es : hd.2 17 y = iI (cn S (od S) y k : Nat) := by rw [had y hy47, if_neg (by omega)]
          have hsu : sm (fun l => hA S (od S) l k) (y + 1) = sm (fun l => hA S (od S) l k) y + hA S (od S) y k := rfl
          refine w_lt (cn S (od S) y k : Nat) (S 2) (fun g2 => ?_) (fun g2 => ?_) es hCd.1.2.2.1
          · refine at81 hd hsd rfl (fun q hq => ?_)
            rw [hbd q hq, hsu, show hA S (od S) y k = 0 from if_neg (fun z2 => by have := z2.2; omega)]
            rfl
          · refine c_Cells_add CA_18 (od S k) o2 ?_ eo
            refine at81 (wa hd 19 (od S k) (hd.2 19 (od S k) + 1)) (hsd.t (Sm.wa _ _ (by decide))) (wa_o _ _ _ _ (by decide)) (fun q hq => ?_)
            rw [hsu, show hA S (od S) y k = 1 from if_pos ⟨hst, by omega⟩]
            by_cases z1 : q = od S k
            · subst z1
              rw [wa_s, hbd _ o2, if_pos rfl, if_pos rfl]
              exact iI_1 rfl
            · rw [wa_n _ _ _ _ z1, hbd q hq, if_neg (fun z => z1 z.symm), if_neg (fun z => z1 z.symm)]
      refine inner 48 (fst S (od S k)).toNat hc _ (by omega) (by omega) (by omega) hs (fun l hl => ?_) (fun q hq => ?_) (congrArg iI (by omega))
      · rw [ha l hl]
        by_cases z1 : l < (fst S (od S k)).toNat
        · rw [if_pos z1, cn_f (fun z2 => by have := (stn_fl hl).mp z2; omega)]
        · rw [if_neg z1]
      · rw [hb q hq, show sm (fun l => hA S (od S) l k) (fst S (od S k)).toNat = 0 from sm_zero.mpr (fun l hl => if_neg (fun z2 => by have := (stn_fl (show l < 48 by omega)).mp z2.1; omega))]
        congr 2
        split <;> rfl
  refine outer (S 1).toNat 0 h2 _ _ _ _ (by omega) (by omega) ((hs1.mo (by decide) (by decide)).t (hs2.mo (by decide) (by decide))) (fun y hy => ?_) (fun p hp => ?_) rfl
  · rw [hs2.2 _ (by decide), hz1 y hy]; rfl
  · rw [hz2 p hp]
    exact (congrArg (fun z : Nat => iI (z : Int)) (sm_zero (f := fun l => hR S (od S) l 0 p).mpr (fun l _ => rfl))).symm
theorem c_Surv_isHidden_1 {B : Nat → Nat} {x : Int32} {h : St} {Q : Option Value → St → Prop} (hB : ∀ p, p < 20 → h.2 19 p = iI (B p : Nat) ∧ B p < 2000) (p : Nat) (hp : p < 20) (hQ : Q (some (.int (bI (0 < B p)))) h) (hx : x = iI p) : SC y_Surv_isHidden [.ref 15, .int x] h Q := by
  refine w_call IS_ok [] ok_Surv_isHidden rfl rfl ?_
  refine c_Cells_get1 CA_18 p hp ?_ hx
  have := hB p hp
  refine w_le (B p : Nat) 0 (fun g => ?_) (fun g => ?_) this.1 rfl
  · rw [bI_f (by omega)] at hQ
    exact ⟨Or.inl rfl, hQ⟩
  · rw [bI_t (by omega)] at hQ
    exact ⟨Or.inr rfl, hQ⟩

set_option maxHeartbeats 2000000 in
theorem c_Surv_look_24 {b : Int} {S : Nat → Int} {h : St} {Q : Option Value → St → Prop} (hC : CS 24 S h) (hG : WG b S) (hQ : ∀ h', Sm [] [33, 35] h h' → (∀ y, y < 48 → h'.2 33 y = iI (cn S (od S) y (S 1).toNat : Nat)) → (∀ p, p < 20 → h'.2 35 p = iI (hT S (od S) (S 1).toNat 48 p : Nat)) → Q none h') : SC y_Surv_look [.ref 31, .ref 24] h Q := by
  obtain ⟨g0, g1, g2, g3, g4, g5, god, ginj, gy, gc⟩ := id hG
  refine w_call IS_ok [18] ok_Surv_look rfl rfl ?_
  refine c_Cells_fill CA_32 (fun h1 hs1 hz1 => ?_)
  refine c_Cells_fill CA_34 (fun h2 hs2 hz2 => ?_)
  have outer : ∀ (m k : Nat) (hc : St) (z : Int32) (L3 L4 L5 : Option Value), (S 1).toNat ≤ k + m → k ≤ (S 1).toNat → Sm [] [33, 35] h hc → (∀ y : Nat, y < 48 → hc.2 33 y = iI (cn S (od S) y k : Nat)) → (∀ p, p < 20 → hc.2 35 p = iI (sm (fun l => hR S (od S) l k p) 48 : Nat)) → z = iI k → SR y_Surv_look 18 [some (.ref 31), some (.ref 24), some (.int z), L3, L4, L5] [] hc Q := by
    intro m
    induction m with
    | zero =>
      intro k hc z L3 L4 L5 hm hk hs ha hb hz
      have : k = (S 1).toNat := by omega
      subst this
      refine w_loop IS_ok [18] ok_Surv_look ?_
      exact w_le (S 1) (S 1).toNat (fun _ => hQ hc hs ha hb) (fun _ => by omega) ((hs.1 _ _ (by decide)).trans hC.1.1) hz
    | succ m ih =>
      intro k hc z L3 L4 L5 hm hk hs ha hb hz
      have hCc : CS 24 S hc := hC.sm hs (by decide) (by decide)
      refine w_loop IS_ok [18, 49] ok_Surv_look ?_
      refine w_le (S 1) k (fun g => ?_) (fun g => ?_) hCc.1.1 hz
      · have : k = (S 1).toNat := by omega
        subst this
        exact hQ hc hs ha hb
      obtain ⟨o1, o2, o3⟩ := god k (by omega)
      have hy := gy _ o2
      have hf := fst_b hy
      have hl := lst_b hy
      refine c_Cells_get1 CA_29 k (by omega) ?_ hz
      have eo : hc.2 30 k = iI (od S k : Nat) := (hCc.2.2.1 k (by omega)).trans (congrArg iI o1)
      refine c_Scene_lastLine_24 hCc (od S k) o2 (by omega) hy ?_ eo
      refine c_Scene_firstLine_24 hCc (od S k) o2 hy ?_ eo
      have done : ∀ (y : Nat) (hd : St) (z5 : Int32), lst S (od S k) < y → fst S (od S k) ≤ y → y ≤ 48 → Sm [] [33, 35] h hd → (∀ l, l < 48 → hd.2 33 l = iI ((if l < y then cn S (od S) l (k + 1) else cn S (od S) l k : Nat) : Nat)) → (∀ q, q < 20 → hd.2 35 q = iI ((sm (fun l => hR S (od S) l k q) 48 + (if od S k = q then sm (fun l => hA S (od S) l k) y else 0) : Nat) : Nat)) → SR y_Surv_look 97 [some (.ref 31), some (.ref 24), some (.int z), some (.int (hc.2 30 k)), some (.int (iI (lst S (od S k)))), some (.int z5)] [] hd Q := by
        intro y hd z5 hyl hyf hy48 hsd had hbd
        refine w_loop IS_ok [18] ok_Surv_look ?_
        refine ih (k + 1) hd _ _ _ _ (by omega) (by omega) hsd (fun l hl => ?_) (fun q hq => ?_) (iI_1 hz)
        · rw [had l hl]
          by_cases z1 : l < y
          · rw [if_pos z1]
          · rw [if_neg z1, cn_f (fun z2 => by have := (stn_fl hl).mp z2; omega)]
        · rw [hbd q hq, smR, sm_tail (f := fun l => hA S (od S) l k) (y := y) (m := 48) hy48 (fun l h1 h2 => if_neg (fun z2 => by have := (stn_fl h2).mp z2.1; omega))]
      have inner : ∀ (m y : Nat) (hd : St) (z5 : Int32), 48 ≤ y + m → fst S (od S k) ≤ y → y ≤ 48 → Sm [] [33, 35] h hd → (∀ l, l < 48 → hd.2 33 l = iI ((if l < y then cn S (od S) l (k + 1) else cn S (od S) l k : Nat) : Nat)) → (∀ q, q < 20 → hd.2 35 q = iI ((sm (fun l => hR S (od S) l k q) 48 + (if od S k = q then sm (fun l => hA S (od S) l k) y else 0) : Nat) : Nat)) → z5 = iI y → SR y_Surv_look 49 [some (.ref 31), some (.ref 24), some (.int z), some (.int (hc.2 30 k)), some (.int (iI (lst S (od S k)))), some (.int z5)] [] hd Q := by
        intro m
        induction m with
        | zero =>
          intro y hd z5 hm2 hyf hy48 hsd had hbd hz5
          refine w_loop IS_ok [97] ok_Surv_look ?_
          exact w_lt (lst S (od S k)) y (fun g => done y hd z5 g hyf hy48 hsd had hbd) (fun _ => by omega) rfl hz5
        | succ m ih2 =>
          intro y hd z5 hm2 hyf hy48 hsd had hbd hz5
          refine w_loop IS_ok [81, 97] ok_Surv_look ?_
          refine w_lt (lst S (od S k)) y (fun g => done y hd z5 g hyf hy48 hsd had hbd) (fun g => ?_) rfl hz5
          have hy47 : y < 48 := by omega
          have hst : stn S (od S k) y := (stn_fl hy47).mpr ⟨hyf, g⟩
          have hcn := cn_le S (od S) y k
          have hct := cn_t (o := od S) (k := k) hst
          have at81 : ∀ (he : St), Sm [] [33, 35] h he → he.2 33 = hd.2 33 → (∀ q, q < 20 → he.2 35 q = iI ((sm (fun l => hR S (od S) l k q) 48 + (if od S k = q then sm (fun l => hA S (od S) l k) (y + 1) else 0) : Nat) : Nat)) → SR y_Surv_look 81 [some (.ref 31), some (.ref 24), some (.int z), some (.int (hc.2 30 k)), some (.int (iI (lst S (od S k)))), some (.int z5)] [] he Q := by
            intro he hse hae hbe
            refine w_loop IS_ok [49] ok_Surv_look ?_
            refine c_Cells_add CA_32 y hy47 ?_ hz5
            refine ih2 (y + 1) (wa he 33 y (he.2 33 y + 1)) _ (by omega) (by omega) (by omega) (hse.t (Sm.wa _ _ (by decide))) (fun l hl => ?_) (fun q hq => ?_) (iI_1 hz5)
            · by_cases z1 : l = y
              · subst z1
                rw [wa_s, hae, had l hl, if_neg (by omega), if_pos (by omega), hct]
                exact iI_1 rfl
              · rw [wa_n _ _ _ _ z1, hae, had l hl]
                by_cases z2 : l < y
                · rw [if_pos z2, if_pos (by omega)]
                · rw [if_neg z2, if_neg (by omega)]
            · rw [wa_o _ _ _ _ (by decide)]
              exact hbe q hq
          refine c_Cells_get1 CA_32 y hy47 ?_ hz5
          have hCd : CS 24 S hd := hC.sm hsd (by decide) (by decide)
          have es : hd.2 33 y = iI (cn S (od S) y k : Nat) := by rw [had y hy47, if_neg (by omega)]
          have hsu : sm (fun l => hA S (od S) l k) (y + 1) = sm (fun l => hA S (od S) l k) y + hA S (od S) y k := rfl
          refine w_lt (cn S (od S) y k : Nat) (S 2) (fun g2 => ?_) (fun g2 => ?_) es hCd.1.2.2.1
          · refine at81 hd hsd rfl (fun q hq => ?_)
            rw [hbd q hq, hsu, show hA S (od S) y k = 0 from if_neg (fun z2 => by have := z2.2; omega)]
            rfl
          · refine c_Cells_add CA_34 (od S k) o2 ?_ eo
            refine at81 (wa hd 35 (od S k) (hd.2 35 (od S k) + 1)) (hsd.t (Sm.wa _ _ (by decide))) (wa_o _ _ _ _ (by decide)) (fun q hq => ?_)
            rw [hsu, show hA S (od S) y k = 1 from if_pos ⟨hst, by omega⟩]
            by_cases z1 : q = od S k
            · subst z1
              rw [wa_s, hbd _ o2, if_pos rfl, if_pos rfl]
              exact iI_1 rfl
            · rw [wa_n _ _ _ _ z1, hbd q hq, if_neg (fun z => z1 z.symm), if_neg (fun z => z1 z.symm)]
      refine inner 48 (fst S (od S k)).toNat hc _ (by omega) (by omega) (by omega) hs (fun l hl => ?_) (fun q hq => ?_) (congrArg iI (by omega))
      · rw [ha l hl]
        by_cases z1 : l < (fst S (od S k)).toNat
        · rw [if_pos z1, cn_f (fun z2 => by have := (stn_fl hl).mp z2; omega)]
        · rw [if_neg z1]
      · rw [hb q hq, show sm (fun l => hA S (od S) l k) (fst S (od S k)).toNat = 0 from sm_zero.mpr (fun l hl => if_neg (fun z2 => by have := (stn_fl (show l < 48 by omega)).mp z2.1; omega))]
        congr 2
        split <;> rfl
  refine outer (S 1).toNat 0 h2 _ _ _ _ (by omega) (by omega) ((hs1.mo (by decide) (by decide)).t (hs2.mo (by decide) (by decide))) (fun y hy => ?_) (fun p hp => ?_) rfl
  · rw [hs2.2 _ (by decide), hz1 y hy]; rfl
  · rw [hz2 p hp]
    exact (congrArg (fun z : Nat => iI (z : Int)) (sm_zero (f := fun l => hR S (od S) l 0 p).mpr (fun l _ => rfl))).symm
theorem c_Surv_isHidden_24 {B : Nat → Nat} {x : Int32} {h : St} {Q : Option Value → St → Prop} (hB : ∀ p, p < 20 → h.2 35 p = iI (B p : Nat) ∧ B p < 2000) (p : Nat) (hp : p < 20) (hQ : Q (some (.int (bI (0 < B p)))) h) (hx : x = iI p) : SC y_Surv_isHidden [.ref 31, .int x] h Q := by
  refine w_call IS_ok [] ok_Surv_isHidden rfl rfl ?_
  refine c_Cells_get1 CA_34 p hp ?_ hx
  have := hB p hp
  refine w_le (B p : Nat) 0 (fun g => ?_) (fun g => ?_) this.1 rfl
  · rw [bI_f (by omega)] at hQ
    exact ⟨Or.inl rfl, hQ⟩
  · rw [bI_t (by omega)] at hQ
    exact ⟨Or.inr rfl, hQ⟩
end
