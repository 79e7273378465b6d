section
-- ===== PART A: goes FIRST, ahead of the names: the tables' words, and 'selects' of the private methods out of them =====
/-- a private method of a class that the tables say can be made, by its rows of tables_1 -/
def lw_okq (q : MethodName × Nat) : Prop := (q.1.cls ≠ "java/lang/invoke/MethodHandle" ∧ q.1.cls ≠ "java/lang/invoke/VarHandle") ∧ Cond.instantiable q.1.cls q.2 ∈ tables_1 ∧ Cond.privateMethod q.1 ∈ tables_1 ∧ Cond.instanceMethod q.1 ∈ tables_1
theorem lw_p0 : lw_okq (⟨"OathDiary$History", "rowAt", "(I)LOathDiary$State;"⟩, 3) := ⟨⟨by decide +kernel, by decide +kernel⟩, List.mem_of_getElem? (i := 134) (by decide +kernel), List.mem_of_getElem? (i := 208) (by decide +kernel), List.mem_of_getElem? (i := 209) (by decide +kernel)⟩
theorem lw_p1 : lw_okq (⟨"OathDiary", "keepBroken", "()I"⟩, 6) := ⟨⟨by decide +kernel, by decide +kernel⟩, List.mem_of_getElem? (i := 18) (by decide +kernel), List.mem_of_getElem? (i := 226) (by decide +kernel), List.mem_of_getElem? (i := 227) (by decide +kernel)⟩
theorem lw_p2 : lw_okq (⟨"OathDiary$Lines", "shorten", "()V"⟩, 3) := ⟨⟨by decide +kernel, by decide +kernel⟩, List.mem_of_getElem? (i := 88) (by decide +kernel), List.mem_of_getElem? (i := 299) (by decide +kernel), List.mem_of_getElem? (i := 300) (by decide +kernel)⟩
theorem lw_p3 : lw_okq (⟨"OathDiary", "areaBetween", "(II)J"⟩, 6) := ⟨⟨by decide +kernel, by decide +kernel⟩, List.mem_of_getElem? (i := 18) (by decide +kernel), List.mem_of_getElem? (i := 333) (by decide +kernel), List.mem_of_getElem? (i := 334) (by decide +kernel)⟩
theorem lw_p4 : lw_okq (⟨"java/lang/Throwable", "fillInStackTrace", "(I)Ljava/lang/Throwable;"⟩, 6) := ⟨⟨by decide +kernel, by decide +kernel⟩, List.mem_of_getElem? (i := 394) (by decide +kernel), List.mem_of_getElem? (i := 392) (by decide +kernel), List.mem_of_getElem? (i := 393) (by decide +kernel)⟩
theorem lw_p5 : lw_okq (⟨"OathDiary", "brokenAmong", "(II)I"⟩, 6) := ⟨⟨by decide +kernel, by decide +kernel⟩, List.mem_of_getElem? (i := 18) (by decide +kernel), List.mem_of_getElem? (i := 424) (by decide +kernel), List.mem_of_getElem? (i := 425) (by decide +kernel)⟩
theorem lw_p6 : lw_okq (⟨"OathDiary", "trueNotes", "()I"⟩, 6) := ⟨⟨by decide +kernel, by decide +kernel⟩, List.mem_of_getElem? (i := 18) (by decide +kernel), List.mem_of_getElem? (i := 432) (by decide +kernel), List.mem_of_getElem? (i := 433) (by decide +kernel)⟩
theorem lw_p7 : lw_okq (⟨"OathDiary", "greatestError", "()I"⟩, 6) := ⟨⟨by decide +kernel, by decide +kernel⟩, List.mem_of_getElem? (i := 18) (by decide +kernel), List.mem_of_getElem? (i := 436) (by decide +kernel), List.mem_of_getElem? (i := 437) (by decide +kernel)⟩
theorem lw_p8 : lw_okq (⟨"OathDiary", "longestStep", "()I"⟩, 6) := ⟨⟨by decide +kernel, by decide +kernel⟩, List.mem_of_getElem? (i := 18) (by decide +kernel), List.mem_of_getElem? (i := 448) (by decide +kernel), List.mem_of_getElem? (i := 449) (by decide +kernel)⟩
theorem lw_p9 : lw_okq (⟨"OathDiary", "hashPoints", "(J)J"⟩, 6) := ⟨⟨by decide +kernel, by decide +kernel⟩, List.mem_of_getElem? (i := 18) (by decide +kernel), List.mem_of_getElem? (i := 452) (by decide +kernel), List.mem_of_getElem? (i := 453) (by decide +kernel)⟩
theorem lw_p10 : lw_okq (⟨"OathDiary", "refuseNoPoint", "(I)V"⟩, 6) := ⟨⟨by decide +kernel, by decide +kernel⟩, List.mem_of_getElem? (i := 18) (by decide +kernel), List.mem_of_getElem? (i := 460) (by decide +kernel), List.mem_of_getElem? (i := 461) (by decide +kernel)⟩
theorem lw_p11 : lw_okq (⟨"OathDiary", "hashStretches", "(J)J"⟩, 6) := ⟨⟨by decide +kernel, by decide +kernel⟩, List.mem_of_getElem? (i := 18) (by decide +kernel), List.mem_of_getElem? (i := 501) (by decide +kernel), List.mem_of_getElem? (i := 502) (by decide +kernel)⟩
theorem lw_p12 : lw_okq (⟨"OathDiary", "refuseNoStretch", "(I)V"⟩, 6) := ⟨⟨by decide +kernel, by decide +kernel⟩, List.mem_of_getElem? (i := 18) (by decide +kernel), List.mem_of_getElem? (i := 509) (by decide +kernel), List.mem_of_getElem? (i := 510) (by decide +kernel)⟩
theorem lw_p13 : lw_okq (⟨"OathDiary$Thinner", "findNeeds", "()V"⟩, 6) := ⟨⟨by decide +kernel, by decide +kernel⟩, List.mem_of_getElem? (i := 108) (by decide +kernel), List.mem_of_getElem? (i := 530) (by decide +kernel), List.mem_of_getElem? (i := 531) (by decide +kernel)⟩
theorem lw_p14 : lw_okq (⟨"OathDiary$Thinner", "findFewest", "(I)I"⟩, 6) := ⟨⟨by decide +kernel, by decide +kernel⟩, List.mem_of_getElem? (i := 108) (by decide +kernel), List.mem_of_getElem? (i := 540) (by decide +kernel), List.mem_of_getElem? (i := 541) (by decide +kernel)⟩
theorem lw_p15 : lw_okq (⟨"OathDiary$Thinner", "fewestBehind", "(II)I"⟩, 6) := ⟨⟨by decide +kernel, by decide +kernel⟩, List.mem_of_getElem? (i := 108) (by decide +kernel), List.mem_of_getElem? (i := 544) (by decide +kernel), List.mem_of_getElem? (i := 545) (by decide +kernel)⟩
def lw_privs_1 : List (MethodName × Nat) := [(⟨"OathDiary$History", "rowAt", "(I)LOathDiary$State;"⟩, 3), (⟨"OathDiary", "keepBroken", "()I"⟩, 6), (⟨"OathDiary$Lines", "shorten", "()V"⟩, 3), (⟨"OathDiary", "areaBetween", "(II)J"⟩, 6), (⟨"java/lang/Throwable", "fillInStackTrace", "(I)Ljava/lang/Throwable;"⟩, 6), (⟨"OathDiary", "brokenAmong", "(II)I"⟩, 6), (⟨"OathDiary", "trueNotes", "()I"⟩, 6), (⟨"OathDiary", "greatestError", "()I"⟩, 6), (⟨"OathDiary", "longestStep", "()I"⟩, 6), (⟨"OathDiary", "hashPoints", "(J)J"⟩, 6), (⟨"OathDiary", "refuseNoPoint", "(I)V"⟩, 6), (⟨"OathDiary", "hashStretches", "(J)J"⟩, 6), (⟨"OathDiary", "refuseNoStretch", "(I)V"⟩, 6), (⟨"OathDiary$Thinner", "findNeeds", "()V"⟩, 6), (⟨"OathDiary$Thinner", "findFewest", "(I)I"⟩, 6), (⟨"OathDiary$Thinner", "fewestBehind", "(II)I"⟩, 6)]
theorem lw_r1 : ∀ q ∈ lw_privs_1, lw_okq q := List.forall_mem_cons.mpr ⟨lw_p0, List.forall_mem_cons.mpr ⟨lw_p1, List.forall_mem_cons.mpr ⟨lw_p2, List.forall_mem_cons.mpr ⟨lw_p3, List.forall_mem_cons.mpr ⟨lw_p4, List.forall_mem_cons.mpr ⟨lw_p5, List.forall_mem_cons.mpr ⟨lw_p6, List.forall_mem_cons.mpr ⟨lw_p7, List.forall_mem_cons.mpr ⟨lw_p8, List.forall_mem_cons.mpr ⟨lw_p9, List.forall_mem_cons.mpr ⟨lw_p10, List.forall_mem_cons.mpr ⟨lw_p11, List.forall_mem_cons.mpr ⟨lw_p12, List.forall_mem_cons.mpr ⟨lw_p13, List.forall_mem_cons.mpr ⟨lw_p14, List.forall_mem_cons.mpr ⟨lw_p15, fun _ h => absurd h List.not_mem_nil⟩⟩⟩⟩⟩⟩⟩⟩⟩⟩⟩⟩⟩⟩⟩⟩
theorem lw_p16 : lw_okq (⟨"OathDiary", "hashNotes", "(J)J"⟩, 6) := ⟨⟨by decide +kernel, by decide +kernel⟩, List.mem_of_getElem? (i := 18) (by decide +kernel), List.mem_of_getElem? (i := 554) (by decide +kernel), List.mem_of_getElem? (i := 555) (by decide +kernel)⟩
theorem lw_p17 : lw_okq (⟨"OathDiary$Thinner", "halveBehind", "(II)V"⟩, 6) := ⟨⟨by decide +kernel, by decide +kernel⟩, List.mem_of_getElem? (i := 108) (by decide +kernel), List.mem_of_getElem? (i := 578) (by decide +kernel), List.mem_of_getElem? (i := 579) (by decide +kernel)⟩
theorem lw_p18 : lw_okq (⟨"OathDiary$Thinner", "chosenBehind", "(I)I"⟩, 6) := ⟨⟨by decide +kernel, by decide +kernel⟩, List.mem_of_getElem? (i := 108) (by decide +kernel), List.mem_of_getElem? (i := 582) (by decide +kernel), List.mem_of_getElem? (i := 583) (by decide +kernel)⟩
theorem lw_p19 : lw_okq (⟨"OathDiary$Thinner", "joinBehind", "(III)V"⟩, 6) := ⟨⟨by decide +kernel, by decide +kernel⟩, List.mem_of_getElem? (i := 108) (by decide +kernel), List.mem_of_getElem? (i := 588) (by decide +kernel), List.mem_of_getElem? (i := 589) (by decide +kernel)⟩
theorem lw_p20 : lw_okq (⟨"OathDiary", "hashText", "(J)J"⟩, 6) := ⟨⟨by decide +kernel, by decide +kernel⟩, List.mem_of_getElem? (i := 18) (by decide +kernel), List.mem_of_getElem? (i := 618) (by decide +kernel), List.mem_of_getElem? (i := 619) (by decide +kernel)⟩
theorem lw_p21 : lw_okq (⟨"OathDiary$State", "copyPoint", "(II)V"⟩, 11) := ⟨⟨by decide +kernel, by decide +kernel⟩, List.mem_of_getElem? (i := 26) (by decide +kernel), List.mem_of_getElem? (i := 663) (by decide +kernel), List.mem_of_getElem? (i := 664) (by decide +kernel)⟩
theorem lw_p22 : lw_okq (⟨"OathDiary", "pointsChanged", "()V"⟩, 6) := ⟨⟨by decide +kernel, by decide +kernel⟩, List.mem_of_getElem? (i := 18) (by decide +kernel), List.mem_of_getElem? (i := 667) (by decide +kernel), List.mem_of_getElem? (i := 668) (by decide +kernel)⟩
theorem lw_p23 : lw_okq (⟨"OathDiary$Text", "takePoint", "(II)V"⟩, 5) := ⟨⟨by decide +kernel, by decide +kernel⟩, List.mem_of_getElem? (i := 154) (by decide +kernel), List.mem_of_getElem? (i := 773) (by decide +kernel), List.mem_of_getElem? (i := 774) (by decide +kernel)⟩
theorem lw_p24 : lw_okq (⟨"OathDiary", "parsedTimesAreFree", "()Z"⟩, 6) := ⟨⟨by decide +kernel, by decide +kernel⟩, List.mem_of_getElem? (i := 18) (by decide +kernel), List.mem_of_getElem? (i := 777) (by decide +kernel), List.mem_of_getElem? (i := 778) (by decide +kernel)⟩
theorem lw_p25 : lw_okq (⟨"OathDiaryModel", "fails", "(I)I"⟩, 21) := ⟨⟨by decide +kernel, by decide +kernel⟩, List.mem_of_getElem? (i := 861) (by decide +kernel), List.mem_of_getElem? (i := 945) (by decide +kernel), List.mem_of_getElem? (i := 946) (by decide +kernel)⟩
theorem lw_p26 : lw_okq (⟨"OathDiaryModel", "hasTime", "(I)Z"⟩, 21) := ⟨⟨by decide +kernel, by decide +kernel⟩, List.mem_of_getElem? (i := 861) (by decide +kernel), List.mem_of_getElem? (i := 949) (by decide +kernel), List.mem_of_getElem? (i := 950) (by decide +kernel)⟩
theorem lw_p27 : lw_okq (⟨"OathDiaryModel", "time", "(I)I"⟩, 21) := ⟨⟨by decide +kernel, by decide +kernel⟩, List.mem_of_getElem? (i := 861) (by decide +kernel), List.mem_of_getElem? (i := 953) (by decide +kernel), List.mem_of_getElem? (i := 954) (by decide +kernel)⟩
theorem lw_p28 : lw_okq (⟨"OathDiaryModel", "save", "()V"⟩, 21) := ⟨⟨by decide +kernel, by decide +kernel⟩, List.mem_of_getElem? (i := 861) (by decide +kernel), List.mem_of_getElem? (i := 957) (by decide +kernel), List.mem_of_getElem? (i := 958) (by decide +kernel)⟩
theorem lw_p29 : lw_okq (⟨"OathDiaryModel", "adds", "(II)I"⟩, 21) := ⟨⟨by decide +kernel, by decide +kernel⟩, List.mem_of_getElem? (i := 861) (by decide +kernel), List.mem_of_getElem? (i := 961) (by decide +kernel), List.mem_of_getElem? (i := 962) (by decide +kernel)⟩
theorem lw_p30 : lw_okq (⟨"OathDiaryModel", "isPoint", "(I)Z"⟩, 21) := ⟨⟨by decide +kernel, by decide +kernel⟩, List.mem_of_getElem? (i := 861) (by decide +kernel), List.mem_of_getElem? (i := 969) (by decide +kernel), List.mem_of_getElem? (i := 970) (by decide +kernel)⟩
theorem lw_p31 : lw_okq (⟨"OathDiaryModel", "value", "(I)I"⟩, 21) := ⟨⟨by decide +kernel, by decide +kernel⟩, List.mem_of_getElem? (i := 861) (by decide +kernel), List.mem_of_getElem? (i := 973) (by decide +kernel), List.mem_of_getElem? (i := 974) (by decide +kernel)⟩
def lw_privs_2 : List (MethodName × Nat) := [(⟨"OathDiary", "hashNotes", "(J)J"⟩, 6), (⟨"OathDiary$Thinner", "halveBehind", "(II)V"⟩, 6), (⟨"OathDiary$Thinner", "chosenBehind", "(I)I"⟩, 6), (⟨"OathDiary$Thinner", "joinBehind", "(III)V"⟩, 6), (⟨"OathDiary", "hashText", "(J)J"⟩, 6), (⟨"OathDiary$State", "copyPoint", "(II)V"⟩, 11), (⟨"OathDiary", "pointsChanged", "()V"⟩, 6), (⟨"OathDiary$Text", "takePoint", "(II)V"⟩, 5), (⟨"OathDiary", "parsedTimesAreFree", "()Z"⟩, 6), (⟨"OathDiaryModel", "fails", "(I)I"⟩, 21), (⟨"OathDiaryModel", "hasTime", "(I)Z"⟩, 21), (⟨"OathDiaryModel", "time", "(I)I"⟩, 21), (⟨"OathDiaryModel", "save", "()V"⟩, 21), (⟨"OathDiaryModel", "adds", "(II)I"⟩, 21), (⟨"OathDiaryModel", "isPoint", "(I)Z"⟩, 21), (⟨"OathDiaryModel", "value", "(I)I"⟩, 21)]
theorem lw_r2 : ∀ q ∈ lw_privs_2, lw_okq q := List.forall_mem_cons.mpr ⟨lw_p16, List.forall_mem_cons.mpr ⟨lw_p17, List.forall_mem_cons.mpr ⟨lw_p18, List.forall_mem_cons.mpr ⟨lw_p19, List.forall_mem_cons.mpr ⟨lw_p20, List.forall_mem_cons.mpr ⟨lw_p21, List.forall_mem_cons.mpr ⟨lw_p22, List.forall_mem_cons.mpr ⟨lw_p23, List.forall_mem_cons.mpr ⟨lw_p24, List.forall_mem_cons.mpr ⟨lw_p25, List.forall_mem_cons.mpr ⟨lw_p26, List.forall_mem_cons.mpr ⟨lw_p27, List.forall_mem_cons.mpr ⟨lw_p28, List.forall_mem_cons.mpr ⟨lw_p29, List.forall_mem_cons.mpr ⟨lw_p30, List.forall_mem_cons.mpr ⟨lw_p31, fun _ h => absurd h List.not_mem_nil⟩⟩⟩⟩⟩⟩⟩⟩⟩⟩⟩⟩⟩⟩⟩⟩
theorem lw_p32 : lw_okq (⟨"OathDiaryModel", "against", "(I)I"⟩, 21) := ⟨⟨by decide +kernel, by decide +kernel⟩, List.mem_of_getElem? (i := 861) (by decide +kernel), List.mem_of_getElem? (i := 981) (by decide +kernel), List.mem_of_getElem? (i := 982) (by decide +kernel)⟩
theorem lw_p33 : lw_okq (⟨"OathDiaryModel", "isKept", "(I)Z"⟩, 21) := ⟨⟨by decide +kernel, by decide +kernel⟩, List.mem_of_getElem? (i := 861) (by decide +kernel), List.mem_of_getElem? (i := 985) (by decide +kernel), List.mem_of_getElem? (i := 986) (by decide +kernel)⟩
theorem lw_p34 : lw_okq (⟨"OathDiaryModel", "neighbors", "(I)V"⟩, 21) := ⟨⟨by decide +kernel, by decide +kernel⟩, List.mem_of_getElem? (i := 861) (by decide +kernel), List.mem_of_getElem? (i := 989) (by decide +kernel), List.mem_of_getElem? (i := 990) (by decide +kernel)⟩
theorem lw_p35 : lw_okq (⟨"OathDiaryModel", "around", "(I)V"⟩, 21) := ⟨⟨by decide +kernel, by decide +kernel⟩, List.mem_of_getElem? (i := 861) (by decide +kernel), List.mem_of_getElem? (i := 993) (by decide +kernel), List.mem_of_getElem? (i := 994) (by decide +kernel)⟩
theorem lw_p36 : lw_okq (⟨"OathDiaryModel", "stretchOf", "(I)I"⟩, 21) := ⟨⟨by decide +kernel, by decide +kernel⟩, List.mem_of_getElem? (i := 861) (by decide +kernel), List.mem_of_getElem? (i := 997) (by decide +kernel), List.mem_of_getElem? (i := 998) (by decide +kernel)⟩
theorem lw_p37 : lw_okq (⟨"OathDiaryModel", "isFirst", "(I)Z"⟩, 21) := ⟨⟨by decide +kernel, by decide +kernel⟩, List.mem_of_getElem? (i := 861) (by decide +kernel), List.mem_of_getElem? (i := 1001) (by decide +kernel), List.mem_of_getElem? (i := 1002) (by decide +kernel)⟩
theorem lw_p38 : lw_okq (⟨"OathDiaryModel", "canJoin", "(III)Z"⟩, 21) := ⟨⟨by decide +kernel, by decide +kernel⟩, List.mem_of_getElem? (i := 861) (by decide +kernel), List.mem_of_getElem? (i := 1005) (by decide +kernel), List.mem_of_getElem? (i := 1006) (by decide +kernel)⟩
theorem lw_p39 : lw_okq (⟨"OathDiaryModel", "withinMany", "(III)I"⟩, 21) := ⟨⟨by decide +kernel, by decide +kernel⟩, List.mem_of_getElem? (i := 861) (by decide +kernel), List.mem_of_getElem? (i := 1009) (by decide +kernel), List.mem_of_getElem? (i := 1010) (by decide +kernel)⟩
theorem lw_p40 : lw_okq (⟨"OathDiaryModel", "off", "(IIII)I"⟩, 21) := ⟨⟨by decide +kernel, by decide +kernel⟩, List.mem_of_getElem? (i := 861) (by decide +kernel), List.mem_of_getElem? (i := 1013) (by decide +kernel), List.mem_of_getElem? (i := 1014) (by decide +kernel)⟩
theorem lw_p41 : lw_okq (⟨"OathDiaryModel", "below", "(II)I"⟩, 21) := ⟨⟨by decide +kernel, by decide +kernel⟩, List.mem_of_getElem? (i := 861) (by decide +kernel), List.mem_of_getElem? (i := 1017) (by decide +kernel), List.mem_of_getElem? (i := 1018) (by decide +kernel)⟩
theorem lw_p42 : lw_okq (⟨"OathDiaryModel", "above", "(III)I"⟩, 21) := ⟨⟨by decide +kernel, by decide +kernel⟩, List.mem_of_getElem? (i := 861) (by decide +kernel), List.mem_of_getElem? (i := 1021) (by decide +kernel), List.mem_of_getElem? (i := 1022) (by decide +kernel)⟩
theorem lw_p43 : lw_okq (⟨"OathDiaryModel", "keeps", "(II)I"⟩, 21) := ⟨⟨by decide +kernel, by decide +kernel⟩, List.mem_of_getElem? (i := 861) (by decide +kernel), List.mem_of_getElem? (i := 1028) (by decide +kernel), List.mem_of_getElem? (i := 1029) (by decide +kernel)⟩
theorem lw_p44 : lw_okq (⟨"OathDiaryModel", "keptMany", "()I"⟩, 21) := ⟨⟨by decide +kernel, by decide +kernel⟩, List.mem_of_getElem? (i := 861) (by decide +kernel), List.mem_of_getElem? (i := 1032) (by decide +kernel), List.mem_of_getElem? (i := 1033) (by decide +kernel)⟩
theorem lw_p45 : lw_okq (⟨"OathDiaryModel", "isBroken", "(I)Z"⟩, 21) := ⟨⟨by decide +kernel, by decide +kernel⟩, List.mem_of_getElem? (i := 861) (by decide +kernel), List.mem_of_getElem? (i := 1044) (by decide +kernel), List.mem_of_getElem? (i := 1045) (by decide +kernel)⟩
theorem lw_p46 : lw_okq (⟨"OathDiaryModel", "isTrue", "(II)Z"⟩, 21) := ⟨⟨by decide +kernel, by decide +kernel⟩, List.mem_of_getElem? (i := 861) (by decide +kernel), List.mem_of_getElem? (i := 1048) (by decide +kernel), List.mem_of_getElem? (i := 1049) (by decide +kernel)⟩
theorem lw_p47 : lw_okq (⟨"OathDiaryModel", "farFrom", "(II)I"⟩, 21) := ⟨⟨by decide +kernel, by decide +kernel⟩, List.mem_of_getElem? (i := 861) (by decide +kernel), List.mem_of_getElem? (i := 1052) (by decide +kernel), List.mem_of_getElem? (i := 1053) (by decide +kernel)⟩
def lw_privs_3 : List (MethodName × Nat) := [(⟨"OathDiaryModel", "against", "(I)I"⟩, 21), (⟨"OathDiaryModel", "isKept", "(I)Z"⟩, 21), (⟨"OathDiaryModel", "neighbors", "(I)V"⟩, 21), (⟨"OathDiaryModel", "around", "(I)V"⟩, 21), (⟨"OathDiaryModel", "stretchOf", "(I)I"⟩, 21), (⟨"OathDiaryModel", "isFirst", "(I)Z"⟩, 21), (⟨"OathDiaryModel", "canJoin", "(III)Z"⟩, 21), (⟨"OathDiaryModel", "withinMany", "(III)I"⟩, 21), (⟨"OathDiaryModel", "off", "(IIII)I"⟩, 21), (⟨"OathDiaryModel", "below", "(II)I"⟩, 21), (⟨"OathDiaryModel", "above", "(III)I"⟩, 21), (⟨"OathDiaryModel", "keeps", "(II)I"⟩, 21), (⟨"OathDiaryModel", "keptMany", "()I"⟩, 21), (⟨"OathDiaryModel", "isBroken", "(I)Z"⟩, 21), (⟨"OathDiaryModel", "isTrue", "(II)Z"⟩, 21), (⟨"OathDiaryModel", "farFrom", "(II)I"⟩, 21)]
theorem lw_r3 : ∀ q ∈ lw_privs_3, lw_okq q := List.forall_mem_cons.mpr ⟨lw_p32, List.forall_mem_cons.mpr ⟨lw_p33, List.forall_mem_cons.mpr ⟨lw_p34, List.forall_mem_cons.mpr ⟨lw_p35, List.forall_mem_cons.mpr ⟨lw_p36, List.forall_mem_cons.mpr ⟨lw_p37, List.forall_mem_cons.mpr ⟨lw_p38, List.forall_mem_cons.mpr ⟨lw_p39, List.forall_mem_cons.mpr ⟨lw_p40, List.forall_mem_cons.mpr ⟨lw_p41, List.forall_mem_cons.mpr ⟨lw_p42, List.forall_mem_cons.mpr ⟨lw_p43, List.forall_mem_cons.mpr ⟨lw_p44, List.forall_mem_cons.mpr ⟨lw_p45, List.forall_mem_cons.mpr ⟨lw_p46, List.forall_mem_cons.mpr ⟨lw_p47, fun _ h => absurd h List.not_mem_nil⟩⟩⟩⟩⟩⟩⟩⟩⟩⟩⟩⟩⟩⟩⟩⟩
theorem lw_p48 : lw_okq (⟨"OathDiaryModel", "read", "(I)V"⟩, 21) := ⟨⟨by decide +kernel, by decide +kernel⟩, List.mem_of_getElem? (i := 861) (by decide +kernel), List.mem_of_getElem? (i := 1056) (by decide +kernel), List.mem_of_getElem? (i := 1057) (by decide +kernel)⟩
theorem lw_p49 : lw_okq (⟨"OathDiaryModel", "keptAt", "(I)I"⟩, 21) := ⟨⟨by decide +kernel, by decide +kernel⟩, List.mem_of_getElem? (i := 861) (by decide +kernel), List.mem_of_getElem? (i := 1060) (by decide +kernel), List.mem_of_getElem? (i := 1061) (by decide +kernel)⟩
theorem lw_p50 : lw_okq (⟨"OathDiaryModel", "choose", "(I)I"⟩, 21) := ⟨⟨by decide +kernel, by decide +kernel⟩, List.mem_of_getElem? (i := 861) (by decide +kernel), List.mem_of_getElem? (i := 1068) (by decide +kernel), List.mem_of_getElem? (i := 1069) (by decide +kernel)⟩
theorem lw_p51 : lw_okq (⟨"OathDiaryModel", "lastWith", "(I)I"⟩, 21) := ⟨⟨by decide +kernel, by decide +kernel⟩, List.mem_of_getElem? (i := 861) (by decide +kernel), List.mem_of_getElem? (i := 1072) (by decide +kernel), List.mem_of_getElem? (i := 1073) (by decide +kernel)⟩
theorem lw_p52 : lw_okq (⟨"OathDiaryModel", "far", "(II)V"⟩, 21) := ⟨⟨by decide +kernel, by decide +kernel⟩, List.mem_of_getElem? (i := 861) (by decide +kernel), List.mem_of_getElem? (i := 1076) (by decide +kernel), List.mem_of_getElem? (i := 1077) (by decide +kernel)⟩
theorem lw_p53 : lw_okq (⟨"OathDiaryModel", "halves", "(II)V"⟩, 21) := ⟨⟨by decide +kernel, by decide +kernel⟩, List.mem_of_getElem? (i := 861) (by decide +kernel), List.mem_of_getElem? (i := 1080) (by decide +kernel), List.mem_of_getElem? (i := 1081) (by decide +kernel)⟩
theorem lw_p54 : lw_okq (⟨"OathDiaryModel", "worst", "(II)I"⟩, 21) := ⟨⟨by decide +kernel, by decide +kernel⟩, List.mem_of_getElem? (i := 861) (by decide +kernel), List.mem_of_getElem? (i := 1084) (by decide +kernel), List.mem_of_getElem? (i := 1085) (by decide +kernel)⟩
theorem lw_p55 : lw_okq (⟨"OathDiaryModel", "few", "(III)V"⟩, 21) := ⟨⟨by decide +kernel, by decide +kernel⟩, List.mem_of_getElem? (i := 861) (by decide +kernel), List.mem_of_getElem? (i := 1088) (by decide +kernel), List.mem_of_getElem? (i := 1089) (by decide +kernel)⟩
theorem lw_p56 : lw_okq (⟨"OathDiaryModel", "stretches", "()I"⟩, 21) := ⟨⟨by decide +kernel, by decide +kernel⟩, List.mem_of_getElem? (i := 861) (by decide +kernel), List.mem_of_getElem? (i := 1096) (by decide +kernel), List.mem_of_getElem? (i := 1097) (by decide +kernel)⟩
theorem lw_p57 : lw_okq (⟨"OathDiaryModel", "firstOf", "(I)I"⟩, 21) := ⟨⟨by decide +kernel, by decide +kernel⟩, List.mem_of_getElem? (i := 861) (by decide +kernel), List.mem_of_getElem? (i := 1100) (by decide +kernel), List.mem_of_getElem? (i := 1101) (by decide +kernel)⟩
theorem lw_p58 : lw_okq (⟨"OathDiaryModel", "isTrueNote", "(I)Z"⟩, 21) := ⟨⟨by decide +kernel, by decide +kernel⟩, List.mem_of_getElem? (i := 861) (by decide +kernel), List.mem_of_getElem? (i := 1116) (by decide +kernel), List.mem_of_getElem? (i := 1117) (by decide +kernel)⟩
theorem lw_p59 : lw_okq (⟨"OathDiaryModel", "reads", "()I"⟩, 21) := ⟨⟨by decide +kernel, by decide +kernel⟩, List.mem_of_getElem? (i := 861) (by decide +kernel), List.mem_of_getElem? (i := 1132) (by decide +kernel), List.mem_of_getElem? (i := 1133) (by decide +kernel)⟩
theorem lw_p60 : lw_okq (⟨"OathDiaryModel", "readPoint", "()Z"⟩, 21) := ⟨⟨by decide +kernel, by decide +kernel⟩, List.mem_of_getElem? (i := 861) (by decide +kernel), List.mem_of_getElem? (i := 1136) (by decide +kernel), List.mem_of_getElem? (i := 1137) (by decide +kernel)⟩
theorem lw_p61 : lw_okq (⟨"OathDiaryModel", "readNumber", "(I)Z"⟩, 21) := ⟨⟨by decide +kernel, by decide +kernel⟩, List.mem_of_getElem? (i := 861) (by decide +kernel), List.mem_of_getElem? (i := 1140) (by decide +kernel), List.mem_of_getElem? (i := 1141) (by decide +kernel)⟩
theorem lw_p62 : lw_okq (⟨"OathDiaryModel", "sign", "(I)Z"⟩, 21) := ⟨⟨by decide +kernel, by decide +kernel⟩, List.mem_of_getElem? (i := 861) (by decide +kernel), List.mem_of_getElem? (i := 1144) (by decide +kernel), List.mem_of_getElem? (i := 1145) (by decide +kernel)⟩
theorem lw_p63 : lw_okq (⟨"OathDiaryModel", "aboutPoint", "(II)I"⟩, 21) := ⟨⟨by decide +kernel, by decide +kernel⟩, List.mem_of_getElem? (i := 861) (by decide +kernel), List.mem_of_getElem? (i := 1160) (by decide +kernel), List.mem_of_getElem? (i := 1161) (by decide +kernel)⟩
def lw_privs_4 : List (MethodName × Nat) := [(⟨"OathDiaryModel", "read", "(I)V"⟩, 21), (⟨"OathDiaryModel", "keptAt", "(I)I"⟩, 21), (⟨"OathDiaryModel", "choose", "(I)I"⟩, 21), (⟨"OathDiaryModel", "lastWith", "(I)I"⟩, 21), (⟨"OathDiaryModel", "far", "(II)V"⟩, 21), (⟨"OathDiaryModel", "halves", "(II)V"⟩, 21), (⟨"OathDiaryModel", "worst", "(II)I"⟩, 21), (⟨"OathDiaryModel", "few", "(III)V"⟩, 21), (⟨"OathDiaryModel", "stretches", "()I"⟩, 21), (⟨"OathDiaryModel", "firstOf", "(I)I"⟩, 21), (⟨"OathDiaryModel", "isTrueNote", "(I)Z"⟩, 21), (⟨"OathDiaryModel", "reads", "()I"⟩, 21), (⟨"OathDiaryModel", "readPoint", "()Z"⟩, 21), (⟨"OathDiaryModel", "readNumber", "(I)Z"⟩, 21), (⟨"OathDiaryModel", "sign", "(I)Z"⟩, 21), (⟨"OathDiaryModel", "aboutPoint", "(II)I"⟩, 21)]
theorem lw_r4 : ∀ q ∈ lw_privs_4, lw_okq q := List.forall_mem_cons.mpr ⟨lw_p48, List.forall_mem_cons.mpr ⟨lw_p49, List.forall_mem_cons.mpr ⟨lw_p50, List.forall_mem_cons.mpr ⟨lw_p51, List.forall_mem_cons.mpr ⟨lw_p52, List.forall_mem_cons.mpr ⟨lw_p53, List.forall_mem_cons.mpr ⟨lw_p54, List.forall_mem_cons.mpr ⟨lw_p55, List.forall_mem_cons.mpr ⟨lw_p56, List.forall_mem_cons.mpr ⟨lw_p57, List.forall_mem_cons.mpr ⟨lw_p58, List.forall_mem_cons.mpr ⟨lw_p59, List.forall_mem_cons.mpr ⟨lw_p60, List.forall_mem_cons.mpr ⟨lw_p61, List.forall_mem_cons.mpr ⟨lw_p62, List.forall_mem_cons.mpr ⟨lw_p63, fun _ h => absurd h List.not_mem_nil⟩⟩⟩⟩⟩⟩⟩⟩⟩⟩⟩⟩⟩⟩⟩⟩
theorem lw_p64 : lw_okq (⟨"OathDiaryModel", "errorOf", "(II)I"⟩, 21) := ⟨⟨by decide +kernel, by decide +kernel⟩, List.mem_of_getElem? (i := 861) (by decide +kernel), List.mem_of_getElem? (i := 1172) (by decide +kernel), List.mem_of_getElem? (i := 1173) (by decide +kernel)⟩
theorem lw_p65 : lw_okq (⟨"OathDiaryModel", "aboutStretch", "(II)I"⟩, 21) := ⟨⟨by decide +kernel, by decide +kernel⟩, List.mem_of_getElem? (i := 861) (by decide +kernel), List.mem_of_getElem? (i := 1190) (by decide +kernel), List.mem_of_getElem? (i := 1191) (by decide +kernel)⟩
theorem lw_p66 : lw_okq (⟨"OathDiaryModel", "aboutNote", "(II)I"⟩, 21) := ⟨⟨by decide +kernel, by decide +kernel⟩, List.mem_of_getElem? (i := 861) (by decide +kernel), List.mem_of_getElem? (i := 1198) (by decide +kernel), List.mem_of_getElem? (i := 1199) (by decide +kernel)⟩
theorem lw_p67 : lw_okq (⟨"OathDiaryModel", "number", "(I)I"⟩, 21) := ⟨⟨by decide +kernel, by decide +kernel⟩, List.mem_of_getElem? (i := 861) (by decide +kernel), List.mem_of_getElem? (i := 1206) (by decide +kernel), List.mem_of_getElem? (i := 1207) (by decide +kernel)⟩
theorem lw_p68 : lw_okq (⟨"OathDiaryModel", "brokenMany", "()I"⟩, 21) := ⟨⟨by decide +kernel, by decide +kernel⟩, List.mem_of_getElem? (i := 861) (by decide +kernel), List.mem_of_getElem? (i := 1210) (by decide +kernel), List.mem_of_getElem? (i := 1211) (by decide +kernel)⟩
theorem lw_p69 : lw_okq (⟨"OathDiaryModel", "trueMany", "()I"⟩, 21) := ⟨⟨by decide +kernel, by decide +kernel⟩, List.mem_of_getElem? (i := 861) (by decide +kernel), List.mem_of_getElem? (i := 1214) (by decide +kernel), List.mem_of_getElem? (i := 1215) (by decide +kernel)⟩
theorem lw_p70 : lw_okq (⟨"OathDiaryModel", "greatestError", "()I"⟩, 21) := ⟨⟨by decide +kernel, by decide +kernel⟩, List.mem_of_getElem? (i := 861) (by decide +kernel), List.mem_of_getElem? (i := 1218) (by decide +kernel), List.mem_of_getElem? (i := 1219) (by decide +kernel)⟩
theorem lw_p71 : lw_okq (⟨"OathDiaryModel", "greatestStep", "()I"⟩, 21) := ⟨⟨by decide +kernel, by decide +kernel⟩, List.mem_of_getElem? (i := 861) (by decide +kernel), List.mem_of_getElem? (i := 1222) (by decide +kernel), List.mem_of_getElem? (i := 1223) (by decide +kernel)⟩
theorem lw_p72 : lw_okq (⟨"OathDiaryModel", "oathFor", "(I)I"⟩, 21) := ⟨⟨by decide +kernel, by decide +kernel⟩, List.mem_of_getElem? (i := 861) (by decide +kernel), List.mem_of_getElem? (i := 1250) (by decide +kernel), List.mem_of_getElem? (i := 1251) (by decide +kernel)⟩
theorem lw_p73 : lw_okq (⟨"OathDiaryModel", "fewestBy", "(I)I"⟩, 21) := ⟨⟨by decide +kernel, by decide +kernel⟩, List.mem_of_getElem? (i := 861) (by decide +kernel), List.mem_of_getElem? (i := 1254) (by decide +kernel), List.mem_of_getElem? (i := 1255) (by decide +kernel)⟩
theorem lw_p74 : lw_okq (⟨"OathDiaryModel", "missedLeast", "(I)I"⟩, 21) := ⟨⟨by decide +kernel, by decide +kernel⟩, List.mem_of_getElem? (i := 861) (by decide +kernel), List.mem_of_getElem? (i := 1262) (by decide +kernel), List.mem_of_getElem? (i := 1263) (by decide +kernel)⟩
theorem lw_p75 : lw_okq (⟨"OathDiaryModel", "share", "()D"⟩, 21) := ⟨⟨by decide +kernel, by decide +kernel⟩, List.mem_of_getElem? (i := 861) (by decide +kernel), List.mem_of_getElem? (i := 1270) (by decide +kernel), List.mem_of_getElem? (i := 1271) (by decide +kernel)⟩
def lw_privs_5 : List (MethodName × Nat) := [(⟨"OathDiaryModel", "errorOf", "(II)I"⟩, 21), (⟨"OathDiaryModel", "aboutStretch", "(II)I"⟩, 21), (⟨"OathDiaryModel", "aboutNote", "(II)I"⟩, 21), (⟨"OathDiaryModel", "number", "(I)I"⟩, 21), (⟨"OathDiaryModel", "brokenMany", "()I"⟩, 21), (⟨"OathDiaryModel", "trueMany", "()I"⟩, 21), (⟨"OathDiaryModel", "greatestError", "()I"⟩, 21), (⟨"OathDiaryModel", "greatestStep", "()I"⟩, 21), (⟨"OathDiaryModel", "oathFor", "(I)I"⟩, 21), (⟨"OathDiaryModel", "fewestBy", "(I)I"⟩, 21), (⟨"OathDiaryModel", "missedLeast", "(I)I"⟩, 21), (⟨"OathDiaryModel", "share", "()D"⟩, 21)]
theorem lw_r5 : ∀ q ∈ lw_privs_5, lw_okq q := List.forall_mem_cons.mpr ⟨lw_p64, List.forall_mem_cons.mpr ⟨lw_p65, List.forall_mem_cons.mpr ⟨lw_p66, List.forall_mem_cons.mpr ⟨lw_p67, List.forall_mem_cons.mpr ⟨lw_p68, List.forall_mem_cons.mpr ⟨lw_p69, List.forall_mem_cons.mpr ⟨lw_p70, List.forall_mem_cons.mpr ⟨lw_p71, List.forall_mem_cons.mpr ⟨lw_p72, List.forall_mem_cons.mpr ⟨lw_p73, List.forall_mem_cons.mpr ⟨lw_p74, List.forall_mem_cons.mpr ⟨lw_p75, fun _ h => absurd h List.not_mem_nil⟩⟩⟩⟩⟩⟩⟩⟩⟩⟩⟩⟩
def lw_privs : List (MethodName × Nat) := lw_privs_1 ++ (lw_privs_2 ++ (lw_privs_3 ++ (lw_privs_4 ++ (lw_privs_5))))
def lw_tbl : List Cond := k2_sels lw_privs ++ tables_1
theorem lw_privs_ok : ∀ q ∈ lw_privs, lw_okq q := by
  show ∀ q ∈ lw_privs_1 ++ (lw_privs_2 ++ (lw_privs_3 ++ (lw_privs_4 ++ (lw_privs_5)))), lw_okq q
  exact List.forall_mem_append.mpr ⟨lw_r1, List.forall_mem_append.mpr ⟨lw_r2, List.forall_mem_append.mpr ⟨lw_r3, List.forall_mem_append.mpr ⟨lw_r4, lw_r5⟩⟩⟩⟩
/-- the streams that the claim lets the run draw from -/
abbrev lw_cs : List Choice := [Jvm.Choice.named "NaN.bits"]
theorem lw_bits : nanBits ∈ lw_cs := by first | decide | exact List.mem_cons_self | simp [lw_cs, nanBits]
-- ===== end of PART A; then your names; then what follows =====
end
section
/-! ===== BEGIN words of one list among another's, by their places ===== -/
theorem goodIn_r {big : List Cond} (ws : List Cond) (ps : List Nat) (hp : ws = ps.filterMap (fun i => big[i]?)) (h : ws.all goodWord = true) : GoodIn big ws := by
  intro w hw
  have h1 := List.all_eq_true.mp h w hw
  rw [hp] at hw
  obtain ⟨i, -, hi⟩ := List.mem_filterMap.mp hw
  have hm : w ∈ big := by first | exact List.mem_of_getElem? hi | exact List.getElem?_mem hi
  exact ⟨hm, good_of_word h1⟩
theorem goodIn_app {big a b : List Cond} (ha : GoodIn big a) (hb : GoodIn big b) : GoodIn big (a ++ b) := fun w h => (List.mem_append.mp h).elim (ha w) (hb w)
theorem goodIn_ca {big a b : List Cond} {c : Cond} (ha : GoodIn big (c :: a)) (hb : GoodIn big b) : GoodIn big (c :: (a ++ b)) := fun w h => (List.mem_cons.mp h).elim (fun e => ha w (List.mem_cons.mpr (Or.inl e))) (fun h => (List.mem_append.mp h).elim (fun h => ha w (List.mem_cons.mpr (Or.inr h))) (hb w))
theorem goodIn_sub {big ws : List Cond} (hm : ∀ w ∈ ws, w ∈ big) (h : ws.all goodWord = true) : GoodIn big ws := fun w hw => ⟨hm w hw, good_of_word (List.all_eq_true.mp h w hw)⟩
/-! ===== END ===== -/

/-! ===== BEGIN exceptions that leave a method, and their catching by the caller (launches without stack traces) ===== -/
section VXA
/-! The laws vx_back, vx_callV, vx_callS, vx_callSW, vx_throw0, vx_throwS follow proofs of the library, with one case more: JvmDerived/Free/Laws.lean (Back.of_free), Shelf42/LK1.lean (callV, callS), Shelf/KitTraced.lean (throwNew0V, throwNewS). -/
/-- where a method has thrown q: the class by its name, the cell, what was written, the world -/
def vx_T (XC : String → State → State → Prop) (st : State) (q : Addr) (t : State) (mc ms : Nat) (free : Addr → Prop) : Prop :=
  ∃ (E : String) (ce : Cell) (L : List Loc), XC E st t ∧ t.heap[q]? = some ce ∧ ce.vm = .none ∧ st.vm.findClass E = some ce.cls ∧ st.WarmedH t.vm ∧ st.sameButNew ({ t with vm := st.vm } : State) L mc ms ∧ ∀ z ∈ L, free z.base
def vx_Q (Qc : Array Value → State → Outcome → State → Prop) (XC : String → State → State → Prop) (mc ms : Nat) (free : Addr → Prop) : Array Value → State → Outcome → State → Prop := fun a st o t =>
  (Qc a st o t ∧ ∃ L, FrameEnd st o t L mc ms ∧ ∀ q ∈ L, free q.base) ∨ ∃ q, o = .threw q ∧ vx_T XC st q t mc ms free
/-- a callee that returns or throws -/
def vx_Met (l : Launch) (y : MethodName) (ws : List Cond) (rm : Room) (Pc : Array Value → State → Prop) (Qc : Array Value → State → Outcome → State → Prop) (XC : String → State → State → Prop) (mc ms : Nat) (free : Addr → Prop) : Prop :=
  MetFree l y (headSpec ws rm) Pc (fun _ _ _ _ _ => True) (vx_Q Qc XC mc ms free)
def vx_Post (XC : String → State → State → Prop) (mc ms : Nat) (free : Addr → Prop) : Pt → Array Value → Addr → Pt → Prop := fun A a q B =>
  ∃ (g : JFrame) (mk : MethodId) (t : State) (L : List Loc) (E : String) (ce : Cell), B.U.heap = t.heap ∧ B.U.vm = t.vm ∧ XC E (A.U.calling g mk a) t ∧ t.heap[q]? = some ce ∧ ce.vm = .none ∧ A.U.vm.findClass E = some ce.cls ∧ B.locs = A.locs ++ L ∧ (∀ z ∈ L, free z.base) ∧ B.cells = A.cells + mc ∧ B.slots = A.slots + ms
def vx_Back (l : Launch) (R : Room) (p : Program) (e : Env) (below : List Frame) (s : State) (sargs : Array Value) (y : MethodName) (len W9 : Nat)
    (Pre : Pt → Array Value → Prop) (Post : Pt → Array Value → Option Value → Pt → Prop) (PostX : Pt → Array Value → Addr → Pt → Prop) : Prop :=
  ∀ (m : MethodId) (meth : Method) (c : Code) (A : Pt) (g : JFrame) (ig : Instr) (mk : MethodId) (a : Array Value),
    Stand p l e R s m sargs below meth c A.U A.locs A.cells A.slots → g.method = m → g.locals.size = c.maxLocals → decode c.code g.pc = .ok (ig, len) →
    2 * g.monitorRoom + (g.stack.map fun v => v.category).sum ≤ W9 → A.U.methodNamed? y = some mk → Pre A a →
    (∃ (v : Option Value) (B : Pt), Stand p l e R s m sargs below meth c B.U B.locs B.cells B.slots ∧ Post A a v B ∧
      Steps p.tables e below (doInvoke e (A.U.setTop g) [] mk a).1 (B.U.setTop { g with pc := g.pc + len, stack := v.toList ++ g.stack })) ∨
    (∃ (q : Addr) (B : Pt), Stand p l e R s m sargs below meth c B.U B.locs B.cells B.slots ∧ PostX A a q B ∧
      Steps p.tables e below (doInvoke e (A.U.setTop g) [] mk a).1 ((B.U.setTop g).pushFrame (.throwing q)))
section Payer
variable {l : Launch} {R : Room} {p : Program} {e : Env} {below : List Frame} {s : State} {sargs : Array Value} {y : MethodName} {len W9 : Nat}
theorem vx_back {ws : List Cond} {rm : Room} {Pc : Array Value → State → Prop} {Qc : Array Value → State → Outcome → State → Prop} {XC : String → State → State → Prop} {mc ms : Nat} {free : Addr → Prop} {bytes : ByteArray} {maxL : Nat} {ret : Option FieldType}
    (hM : vx_Met l y ws rm Pc Qc XC mc ms free) (hblind : FrameBlind Pc) (hrc : rm.cells = mc) (hrs : rm.slots = ms)
    (hframes : rm.frames + 1 ≤ R.frames) (hlocals : W9 + (maxL + 11) + rm.locals ≤ R.locals)
    (hws : ∀ w ∈ ws, ∀ a' U, s.WarmedH U.vm → w.before a' U = true) (hcode : Cond.code y bytes maxL ret ∈ ws) (hinit : ∀ a' U, s.WarmedH U.vm → (Cond.initialized y.cls).before a' U = true) :
    vx_Back l R p e below s sargs y len W9 (PreOf R mc ms Pc) (PostOf Qc mc ms free) (vx_Post XC mc ms free) := by
  intro m meth c A g ig mk a X hg hsize hdg hW hn hp
  have h1 : (headSpec ws rm).pre.before a A.U = true := atoms_intro fun w hw => hws w hw _ _ X.warmed
  have h2 : (Cond.code y bytes maxL ret).before a A.U = true := hws _ hcode _ _ X.warmed
  have h3 : (Cond.initialized y.cls).before a A.U = true := hinit _ _ X.warmed
  have h4 : A.cells + (headSpec ws rm).room.cells ≤ R.cells := by rw [show (headSpec ws rm).room.cells = mc from hrc]; exact hp.1
  have h5 : A.slots + (headSpec ws rm).room.slots ≤ R.slots := by rw [show (headSpec ws rm).room.slots = ms from hrs]; exact hp.2.1
  have hPc : Pc a (A.U.calling g mk a) := hblind _ _ _ _ hp.2.2
  obtain ⟨U, Ls, c0, s0⟩ := A
  dsimp only [Pt.U, Pt.locs, Pt.cells, Pt.slots] at h1 h2 h3 h4 h5 X hn hPc ⊢
  obtain ⟨methY, cY, hmY, hcY, -, hlY, -, -, -, -⟩ := Cond.code_spec hn h2
  obtain ⟨kY, hkY, -⟩ := className_of_methodNamed hn
  have hinitY : kY.init = .initialized := Cond.initialized_spec (findClass_of_methodNamed hn) hkY h3
  have h : At U g.method c below := by rw [hg]; exact X.here
  have hlocals9 : W9 + (maxL + 11) + (headSpec ws rm).room.locals ≤ R.locals := hlocals
  have happ : (headSpec ws rm).appliesLoose y e.platform (U.calling g mk a) = true :=
    Spec.appliesLoose_calling (g := g) h hdg hn hkY hinitY
      (X.room_calling (g := g) (R' := (headSpec ws rm).room) hsize hmY hcY hframes (by rw [hlY]; omega) h4 h5) h1
  obtain ⟨mid, hmid⟩ := h.above
  have hfr : (U.setTop g).frames = (.java g :: mid) ++ below := by rw [State.frames_setTop' g h.top, hmid]; rfl
  obtain ⟨o, s₂, hsteps, -, hend, hq⟩ := Steps.callFree hM p X.admits X.cas X.clock (acts := []) hfr happ hPc trivial
  have hq' : vx_Q Qc XC mc ms free a (U.calling g mk a) o s₂ := hq
  rw [State.frames_setTop' g h.top] at hend
  obtain ⟨g₀, hg0⟩ := Option.isSome_iff_exists.mp h.top
  obtain ⟨r, hr⟩ := State.topJava?_eq_some.mp hg0
  have hr' : (({ U with heap := s₂.heap, slotsUsed := s₂.slotsUsed } : State).setVm s₂.vm).frames = .java g₀ :: r := hr
  rcases hq' with ⟨hqc, L, hfe, hL⟩ | ⟨q, rfl, E, ce, L, hx, hce, hcv, hcl, hW₂, hsm, hL⟩
  · obtain ⟨⟨v, rfl⟩, hW₂, e2, q2, q3, q4, q5, q6⟩ := id hfe
    have e3 : s₂ = ({ (U.calling g mk a).setFrames s₂.frames with heap := s₂.heap, slotsUsed := s₂.slotsUsed } : State).setVm s₂.vm := by
      have : s₂ = ({ s₂ with vm := (U.calling g mk a).vm } : State).setVm s₂.vm := rfl
      rw [e2] at this
      exact this
    obtain ⟨c₂, i₂, len₂, hc₂, hd₂, hf₂⟩ := hend
    have hW' : U.WarmedH s₂.vm := hW₂
    have hcc : c₂ = c := by
      have h1 : s₂.code? g.method = U.code? g.method := by
        rw [State.code?_eq, State.code?_eq, hW'.alike.method?]
      exact Option.some.inj (hc₂.symm.trans (h1.trans h.code))
    subst hcc
    have hlen : len₂ = len := by rw [hdg] at hd₂; cases hd₂; rfl
    subst hlen
    have hs₂ : s₂ = (({ U with heap := s₂.heap, slotsUsed := s₂.slotsUsed } : State).setVm s₂.vm).setTop { g with pc := g.pc + len₂, stack := v.toList ++ g.stack } := by
      refine e3.trans ?_
      rw [hf₂, State.calling_eq h.top, State.setFrames_setFrames, State.setTop_of_frames _ hr', hr]
      rfl
    have hsame : U.sameButNew ({ U with heap := s₂.heap, slotsUsed := s₂.slotsUsed } : State) L mc ms := by
      refine ⟨?_, q2, q3, q4, q5, q6⟩
      obtain ⟨t, ht, -⟩ := State.frames_cons hr
      show ({ U with heap := s₂.heap, slotsUsed := s₂.slotsUsed } : State) = { U.setFrames U.frames with heap := s₂.heap, slotsUsed := s₂.slotsUsed }
      rw [State.setFrames_self ht]
    subst hg
    refine Or.inl ⟨v, ⟨(({ U with heap := s₂.heap, slotsUsed := s₂.slotsUsed } : State).setVm s₂.vm), Ls ++ L, c0 + mc, s0 + ms⟩,
      ⟨X.admits, X.cas, X.clock, X.frames, X.room, X.hears, X.method, X.code, (X.here.setHeapUsed s₂.heap s₂.slotsUsed).setVm hW'.alike, X.tail, State.WarmedH.trans X.warmed hW', X.limits, X.bytes, X.same.trans (hsame.setVm s.vm)⟩,
      ⟨g, mk, s₂, L, rfl, rfl, hqc, rfl, hL, rfl, rfl⟩, ?_⟩
    show Steps p.tables e below _ ((({ U with heap := s₂.heap, slotsUsed := s₂.slotsUsed } : State).setVm s₂.vm).setTop { g with pc := g.pc + len₂, stack := v.toList ++ g.stack })
    rw [← hs₂]
    exact hsteps
  · obtain ⟨e2, q2, q3, q4, q5, q6⟩ := id hsm
    have e3 : s₂ = ({ (U.calling g mk a).setFrames s₂.frames with heap := s₂.heap, slotsUsed := s₂.slotsUsed } : State).setVm s₂.vm := by
      have : s₂ = ({ s₂ with vm := (U.calling g mk a).vm } : State).setVm s₂.vm := rfl
      rw [e2] at this
      exact this
    have hf₂ : s₂.frames = .throwing q :: .java g :: U.frames.tail := hend
    have hW' : U.WarmedH s₂.vm := hW₂
    have hs₂ : s₂ = ((({ U with heap := s₂.heap, slotsUsed := s₂.slotsUsed } : State).setVm s₂.vm).setTop g).pushFrame (.throwing q) := by
      refine e3.trans ?_
      rw [hf₂, State.calling_eq h.top, State.setFrames_setFrames, State.pushFrame, State.frames_setTop _ hr', State.setTop_of_frames _ hr', State.setFrames_setFrames, hr]
      rfl
    have hsame : U.sameButNew ({ U with heap := s₂.heap, slotsUsed := s₂.slotsUsed } : State) L mc ms := by
      refine ⟨?_, q2, q3, q4, q5, q6⟩
      obtain ⟨t, ht, -⟩ := State.frames_cons hr
      show ({ U with heap := s₂.heap, slotsUsed := s₂.slotsUsed } : State) = { U.setFrames U.frames with heap := s₂.heap, slotsUsed := s₂.slotsUsed }
      rw [State.setFrames_self ht]
    subst hg
    refine Or.inr ⟨q, ⟨(({ U with heap := s₂.heap, slotsUsed := s₂.slotsUsed } : State).setVm s₂.vm), Ls ++ L, c0 + mc, s0 + ms⟩,
      ⟨X.admits, X.cas, X.clock, X.frames, X.room, X.hears, X.method, X.code, (X.here.setHeapUsed s₂.heap s₂.slotsUsed).setVm hW'.alike, X.tail, State.WarmedH.trans X.warmed hW', X.limits, X.bytes, X.same.trans (hsame.setVm s.vm)⟩,
      ⟨g, mk, s₂, L, E, ce, rfl, rfl, hx, hce, hcv, hcl, rfl, hL, rfl, rfl⟩, ?_⟩
    show Steps p.tables e below _ (((({ U with heap := s₂.heap, slotsUsed := s₂.slotsUsed } : State).setVm s₂.vm).setTop g).pushFrame (.throwing q))
    rw [← hs₂]
    exact hsteps
end Payer
section Calls
variable {p : Program} {l : Launch} {e : Env} {R : Room} {s : State} {m : MethodId} {args : Array Value} {below : List Frame} {meth : Method} {c : Code} {T : State} {locs : List Loc} {cells slots : Nat}
theorem vx_callV (X : Stand p l e R s m args below meth c T locs cells slots) (hexec : p.tables.exec = Jvm.exec) {own C : String} {index : Nat} {y : MethodName} {bytes : ByteArray} {maxL : Nat} {ret : Option FieldType}
    (hown : s.vm.findClass own = some m.cls) (hlink : (Cond.methodLink own index y).before args s = true) (hinst : (Cond.instanceMethod y).before args s = true) (hsel : (Cond.selects C y y).before args s = true)
    (hcode : (Cond.code y bytes maxL ret).before args s = true) (hy : y.cls ≠ "java/lang/invoke/MethodHandle" ∧ y.cls ≠ "java/lang/invoke/VarHandle")
    {W9 : Nat} {Pre : Pt → Array Value → Prop} {Post : Pt → Array Value → Option Value → Pt → Prop} {PostX : Pt → Array Value → Addr → Pt → Prop} (hK : vx_Back l R p e below s args y 3 W9 Pre Post PostX)
    {b : Addr} {cellB : Cell} (hcell : T.heap[b]? = some cellB) (hobj : cellB.vm.isStatics = false) (hcls : s.vm.findClass C = some cellB.cls)
    {g : JFrame} (hg : g.method = m) (hsize : g.locals.size = c.maxLocals) {argsL rest : List Value} (hlen : ∀ sig, parseMethodDescriptor y.desc = some sig → argsL.length = sig.parameters.length)
    (hstack : g.stack = argsL.reverse ++ .ref b :: rest) (hW : 2 * g.monitorRoom + (rest.map fun v => v.category).sum ≤ W9) (hdg : decode c.code g.pc = .ok (.invokevirtual index, 3))
    (hpre : ∀ vm₁, s.WarmedH vm₁ → Pre ⟨T.setVm vm₁, locs, cells, slots⟩ (Value.ref b :: argsL).toArray) :
    (∃ (v : Option Value) (vm₁ : Vm) (B : Pt), s.WarmedH vm₁ ∧ Stand p l e R s m args below meth c B.U B.locs B.cells B.slots ∧ Post ⟨T.setVm vm₁, locs, cells, slots⟩ (Value.ref b :: argsL).toArray v B ∧
      ∀ target, Steps p.tables e below (B.U.setTop { g with pc := g.pc + 3, stack := v.toList ++ rest }) target → Steps p.tables e below (T.setTop g) target) ∨
    (∃ (q : Addr) (vm₁ : Vm) (B : Pt), s.WarmedH vm₁ ∧ Stand p l e R s m args below meth c B.U B.locs B.cells B.slots ∧ PostX ⟨T.setVm vm₁, locs, cells, slots⟩ (Value.ref b :: argsL).toArray q B ∧
      Steps p.tables e below (T.setTop g) ((B.U.setTop { g with stack := rest }).pushFrame (.throwing q))) := by
  obtain ⟨mk, methM, hnamed, hmethM, hstM, habM⟩ := Cond.instanceMethod_spec hinst
  obtain ⟨methM', cM, hmethM', -, -, -, -, -, -, hsigM⟩ := Cond.code_spec hnamed hcode
  cases hmethM.symm.trans hmethM'
  obtain ⟨c2, r2, m2, q1, q2, q3, q4, kP, hkP, hkPi⟩ := Cond.selects_spec hsel
  cases hcls.symm.trans q1
  cases (State.methodFound?_of_named hnamed hy).symm.trans q2
  cases hnamed.symm.trans q3
  have hselP : selectMethod e.platform s.vm cellB.cls mk = .method mk := by rw [Launch.admits_selectMethod X.admits]; exact q4
  obtain ⟨vm₁, X₁, hstep₁⟩ := X.invokevirtual hexec hown hlink hnamed hmethM hstM hkP hkPi hy (a := b) (cell := cellB) hcell
    (fun z h => by rw [h] at hobj; cases hobj) hselP hmethM habM hkP hkPi (g := g) hg (argsL := argsL) (rest := rest) (hlen _ hsigM) hstack hdg
  rcases hK m meth c ⟨T.setVm vm₁, locs, cells, slots⟩ { g with stack := rest } (.invokevirtual index) mk (Value.ref b :: argsL).toArray X₁ hg hsize hdg hW (X₁.named hnamed) (hpre vm₁ X₁.warmed) with ⟨v, B, X', hpost, hsteps⟩ | ⟨q, B, X', hpost, hsteps⟩
  · exact Or.inl ⟨v, vm₁, B, X₁.warmed, X', hpost, fun target h => hstep₁ _ fun acts => by rw [doInvoke_state]; exact hsteps.trans h⟩
  · exact Or.inr ⟨q, vm₁, B, X₁.warmed, X', hpost, hstep₁ _ fun acts => by rw [doInvoke_state]; exact hsteps⟩
theorem vx_callS (X : Stand p l e R s m args below meth c T locs cells slots) (hexec : p.tables.exec = Jvm.exec) {own : String} {index : Nat} {y : MethodName} {bytes : ByteArray} {maxL : Nat} {ret : Option FieldType}
    (hown : s.vm.findClass own = some m.cls) (hlink : (Cond.methodLink own index y).before args s = true) (hstat : (Cond.static y).before args s = true) (hinit : (Cond.initialized y.cls).before args s = true)
    (hcode : (Cond.code y bytes maxL ret).before args s = true) (hy : y.cls ≠ "java/lang/invoke/MethodHandle" ∧ y.cls ≠ "java/lang/invoke/VarHandle")
    {W9 : Nat} {Pre : Pt → Array Value → Prop} {Post : Pt → Array Value → Option Value → Pt → Prop} {PostX : Pt → Array Value → Addr → Pt → Prop} (hK : vx_Back l R p e below s args y 3 W9 Pre Post PostX)
    {g : JFrame} (hg : g.method = m) (hsize : g.locals.size = c.maxLocals) {argsL rest : List Value} (hlen : ∀ sig, parseMethodDescriptor y.desc = some sig → argsL.length = sig.parameters.length)
    (hstack : g.stack = argsL.reverse ++ rest) (hW : 2 * g.monitorRoom + (rest.map fun v => v.category).sum ≤ W9) (hdg : decode c.code g.pc = .ok (.invokestatic index, 3))
    (hpre : ∀ vm₁, s.WarmedH vm₁ → Pre ⟨T.setVm vm₁, locs, cells, slots⟩ argsL.toArray) :
    (∃ (v : Option Value) (vm₁ : Vm) (B : Pt), s.WarmedH vm₁ ∧ Stand p l e R s m args below meth c B.U B.locs B.cells B.slots ∧ Post ⟨T.setVm vm₁, locs, cells, slots⟩ argsL.toArray v B ∧
      ∀ target, Steps p.tables e below (B.U.setTop { g with pc := g.pc + 3, stack := v.toList ++ rest }) target → Steps p.tables e below (T.setTop g) target) ∨
    (∃ (q : Addr) (vm₁ : Vm) (B : Pt), s.WarmedH vm₁ ∧ Stand p l e R s m args below meth c B.U B.locs B.cells B.slots ∧ PostX ⟨T.setVm vm₁, locs, cells, slots⟩ argsL.toArray q B ∧
      Steps p.tables e below (T.setTop g) ((B.U.setTop { g with stack := rest }).pushFrame (.throwing q))) := by
  obtain ⟨mk, hnamed⟩ := Cond.code_named hcode
  obtain ⟨methM, cM, hmethM, -, -, -, -, -, -, hsigM⟩ := Cond.code_spec hnamed hcode
  have hstatic : methM.isStatic = true := Cond.static_spec hnamed hmethM hstat
  obtain ⟨kP, hkP, -⟩ := className_of_methodNamed hnamed
  have hinitP : kP.init = .initialized := Cond.initialized_spec (findClass_of_methodNamed hnamed) hkP hinit
  obtain ⟨vm₁, X₁, hstep₁⟩ := X.invokestatic hexec hown hlink hnamed hmethM hstatic hkP hinitP hy (g := g) hg (argsL := argsL) (rest := rest) (hlen _ hsigM) hstack hdg
  rcases hK m meth c ⟨T.setVm vm₁, locs, cells, slots⟩ { g with stack := rest } (.invokestatic index) mk argsL.toArray X₁ hg hsize hdg hW (X₁.named hnamed) (hpre vm₁ X₁.warmed) with ⟨v, B, X', hpost, hsteps⟩ | ⟨q, B, X', hpost, hsteps⟩
  · exact Or.inl ⟨v, vm₁, B, X₁.warmed, X', hpost, fun target h => hstep₁ _ fun acts => by rw [doInvoke_state]; exact hsteps.trans h⟩
  · exact Or.inr ⟨q, vm₁, B, X₁.warmed, X', hpost, hstep₁ _ fun acts => by rw [doInvoke_state]; exact hsteps⟩
end Calls
theorem vx_cls {s : State} {T : State} {vm₁ : Vm} {E : String} {k : ClassId} (hW : s.WarmedH vm₁) (h : (T.setVm vm₁).vm.findClass E = some k) : s.vm.findClass E = some k := by
  have h1 : vm₁.findClass E = some k := h
  rw [hW.alike.findClass] at h1
  exact h1
/-- the method's frame g, with q thrown over it -/
def vx_W (p : Program) (l : Launch) (e : Env) (R : Room) (s : State) (m : MethodId) (args : Array Value) (below : List Frame) (meth : Method) (c : Code) (H : Heap) (locs : List Loc) (cells slots : Nat) (Q : State → Prop) (g : JFrame) (q : Addr) : Prop :=
  ∀ T : State, T.heap = H → Stand p l e R s m args below meth c T locs cells slots → ∃ t, Steps p.tables e below ((T.setTop g).pushFrame (.throwing q)) t ∧ Q t
def vx_Run (p : Program) (l : Launch) (e : Env) (R : Room) (s : State) (m : MethodId) (args : Array Value) (below : List Frame) (meth : Method) (c : Code) (H : Heap) (locs : List Loc) (cells slots mc ms : Nat) (g : JFrame) (rest : List Value) (Qa : State → Outcome → State → Prop) (XC : String → State → State → Prop) (free : Addr → Prop) : Prop :=
  ∀ T : State, T.heap = H → Stand p l e R s m args below meth c T locs cells slots →
    (∃ (v : Option Value) (st₀ t T' : State) (L : List Loc), st₀.heap = H ∧ Stand p l e R s m args below meth c T' (locs ++ L) (cells + mc) (slots + ms) ∧ (∀ q ∈ L, free q.base) ∧ T'.heap = t.heap ∧ T'.vm = t.vm ∧ Qa st₀ (.returned v) t ∧
      Goes p e below T g T' { g with pc := g.pc + 3, stack := v.toList ++ rest }) ∨
    (∃ (q : Addr) (st₀ t T' : State) (L : List Loc) (E : String) (ce : Cell), st₀.heap = H ∧ Stand p l e R s m args below meth c T' (locs ++ L) (cells + mc) (slots + ms) ∧ (∀ z ∈ L, free z.base) ∧ T'.heap = t.heap ∧ T'.vm = t.vm ∧ XC E st₀ t ∧ t.heap[q]? = some ce ∧ ce.vm = .none ∧ s.vm.findClass E = some ce.cls ∧
      Steps p.tables e below (T.setTop g) ((T'.setTop { g with stack := rest }).pushFrame (.throwing q)))
def vx_X {S : Type} (px : S → Prop) (B : String → S → State → Prop) (A : Nat → Prop) : String → State → State → Prop := fun E st t => ∃ u : S, px u ∧ B E u t ∧ va_F A st t
section Runs
variable {p : Program} {l : Launch} {e : Env} {R : Room} {s : State} {m : MethodId} {args : Array Value} {below : List Frame} {meth : Method} {c : Code} {H : Heap} {locs : List Loc} {cells slots : Nat}
variable {y : MethodName} {bytes cc : ByteArray} {maxL nL mc ms n index : Nat} {ret : Option FieldType} {ws : List Cond} {rm : Room} {Pc : Array Value → State → Prop} {Qc : Array Value → State → Outcome → State → Prop} {XC : String → State → State → Prop} {free : Addr → Prop} {Ts : List Cond} {own C : String} {b : Addr} {As rest : List Value} {g : JFrame}
theorem vx_callBack (cb : CallB R s args own index y bytes maxL ret ws rm mc ms n) (hM : vx_Met l y ws rm Pc Qc XC mc ms free) (hbl : FrameBlind Pc) : vx_Back l R p e below s args y 3 8 (PreOf R mc ms Pc) (PostOf Qc mc ms free) (vx_Post XC mc ms free) := by
  obtain ⟨hrc, hrs, hfr, hlo, hws, hcw, -, hini, -⟩ := cb
  exact vx_back (bytes := bytes) (maxL := maxL) (ret := ret) hM hbl hrc hrs hfr hlo hws hcw (fun a' U hW => word_at hW (Or.inl (by first | rfl | simp [Cond.onTables, Cond.keeps, Cond.steady])) hini)
theorem vx_runV (S : CallFix p m c cc nL s args Ts own) (hM : vx_Met l y ws rm Pc Qc XC mc ms free) (cw : CallW R s args own C index y bytes maxL ret ws rm mc ms n) (hp : PreV s H C b Pc As)
    (hg : g.method = m) (hn : As.length = n) (hsize : g.locals.size = nL) (hstack : g.stack = As.reverse ++ .ref b :: rest) (hW : 2 * g.monitorRoom + (rest.map fun v => v.category).sum ≤ 8) (hdg : decode cc g.pc = .ok (.invokevirtual index, 3)) (hf : cells + mc ≤ R.cells ∧ slots + ms ≤ R.slots) :
    vx_Run p l e R s m args below meth c H locs cells slots mc ms g rest (Qc (Value.ref b :: As).toArray) XC free := by
  have hK : vx_Back l R p e below s args y 3 8 (PreOf R mc ms Pc) (PostOf Qc mc ms free) (vx_Post XC mc ms free) := vx_callBack cw.1 hM hp.1
  obtain ⟨⟨-, -, -, -, -, -, hcode, -, hy, hlen, hl⟩, hin, hse⟩ := cw
  obtain ⟨hx, hb, hml, ho, -⟩ := S
  obtain ⟨-, ⟨cellB, hcB, hoB, hclB⟩, hPc⟩ := hp
  intro T hT X
  rcases vx_callV X hx (C := C) (bytes := bytes) (maxL := maxL) (ret := ret) ho hl hin hse hcode hy hK (by rw [hT]; exact hcB) hoB hclB hg (hsize.trans hml.symm) (argsL := As) (rest := rest) (fun sig h => hn.trans (hlen sig h)) hstack hW (by rw [hb]; exact hdg)
    (fun vm₁ hW₁ => ⟨hf.1, hf.2, hPc (T.setVm vm₁) hT hW₁⟩) with ⟨v, vm₁, ⟨U', l2, c2, s2⟩, hW₁, X', ⟨g', mk, t, L, e1, e2, hq, h1, hL, h2, h3⟩, st⟩ | ⟨q, vm₁, ⟨U', l2, c2, s2⟩, hW₁, X', ⟨g', mk, t, L, E, ce, e1, e2, hq, hce, hcv, hcl, h1, hL, h2, h3⟩, st⟩
  · dsimp only [Pt.U, Pt.locs, Pt.cells, Pt.slots] at X' e1 e2 h1 h2 h3 st
    subst h1; subst h2; subst h3
    exact Or.inl ⟨v, (T.setVm vm₁).calling g' mk (Value.ref b :: As).toArray, t, U', L, hT, X', hL, e1, e2, hq, st⟩
  · dsimp only [Pt.U, Pt.locs, Pt.cells, Pt.slots] at X' e1 e2 h1 h2 h3 st hcl
    subst h1; subst h2; subst h3
    exact Or.inr ⟨q, (T.setVm vm₁).calling g' mk (Value.ref b :: As).toArray, t, U', L, E, ce, hT, X', hL, e1, e2, hq, hce, hcv, vx_cls hW₁ hcl, st⟩
theorem vx_runS (S : CallFix p m c cc nL s args Ts own) (hM : vx_Met l y ws rm Pc Qc XC mc ms free) (cw : CallB R s args own index y bytes maxL ret ws rm mc ms n ∧ (Cond.static y).before args s = true) (hp : PreS s H Pc As)
    (hg : g.method = m) (hn : As.length = n) (hsize : g.locals.size = nL) (hstack : g.stack = As.reverse ++ rest) (hW : 2 * g.monitorRoom + (rest.map fun v => v.category).sum ≤ 8) (hdg : decode cc g.pc = .ok (.invokestatic index, 3)) (hf : cells + mc ≤ R.cells ∧ slots + ms ≤ R.slots) :
    vx_Run p l e R s m args below meth c H locs cells slots mc ms g rest (Qc As.toArray) XC free := by
  have hK : vx_Back l R p e below s args y 3 8 (PreOf R mc ms Pc) (PostOf Qc mc ms free) (vx_Post XC mc ms free) := vx_callBack cw.1 hM hp.1
  obtain ⟨⟨-, -, -, -, -, -, hcode, hini, hy, hlen, hl⟩, hstt⟩ := cw
  obtain ⟨hx, hb, hml, ho, -⟩ := S
  intro T hT X
  rcases vx_callS X hx (bytes := bytes) (maxL := maxL) (ret := ret) ho hl hstt hini hcode hy hK hg (hsize.trans hml.symm) (argsL := As) (rest := rest) (fun sig h => hn.trans (hlen sig h)) hstack hW (by rw [hb]; exact hdg)
    (fun vm₁ hW₁ => ⟨hf.1, hf.2, hp.2 (T.setVm vm₁) hT hW₁⟩) with ⟨v, vm₁, ⟨U', l2, c2, s2⟩, hW₁, X', ⟨g', mk, t, L, e1, e2, hq, h1, hL, h2, h3⟩, st⟩ | ⟨q, vm₁, ⟨U', l2, c2, s2⟩, hW₁, X', ⟨g', mk, t, L, E, ce, e1, e2, hq, hce, hcv, hcl, h1, hL, h2, h3⟩, st⟩
  · dsimp only [Pt.U, Pt.locs, Pt.cells, Pt.slots] at X' e1 e2 h1 h2 h3 st
    subst h1; subst h2; subst h3
    exact Or.inl ⟨v, (T.setVm vm₁).calling g' mk As.toArray, t, U', L, hT, X', hL, e1, e2, hq, st⟩
  · dsimp only [Pt.U, Pt.locs, Pt.cells, Pt.slots] at X' e1 e2 h1 h2 h3 st hcl
    subst h1; subst h2; subst h3
    exact Or.inr ⟨q, (T.setVm vm₁).calling g' mk As.toArray, t, U', L, E, ce, hT, X', hL, e1, e2, hq, hce, hcv, vx_cls hW₁ hcl, st⟩
end Runs
section Rows
variable {p : Program} {l : Launch} {e : Env} {R : Room} {s : State} {m : MethodId} {args : Array Value} {below : List Frame} {meth : Method} {c : Code} {H : Heap} {locs : List Loc} {cells slots : Nat} {Q : State → Prop}
variable {mc ms : Nat} {free : Addr → Prop} {A0 A1 : Nat → Prop} {H0 : Heap} {a : Array Value} {pc : Nat} {ls : Array Slot} {st0 rest : List Value}
theorem vx_keep {st₀ t T' : State} {L : List Loc} (h0 : st₀.heap = H) (e1 : T'.heap = t.heap) (hS : va_S A0 H0 H locs) (hA : ∀ q, q < H.size → A1 q → A0 q) (hf : ∀ q, free q → A0 q) (hL : ∀ q ∈ L, free q.base) (hF : va_F A1 st₀ t) :
    H.size ≤ T'.heap.size ∧ (∀ q : Nat, q < H.size → ¬ A1 q → T'.heap[q]? = H[q]?) ∧ va_S A0 H0 T'.heap (locs ++ L) := by
  obtain ⟨hz, hk⟩ := hF
  rw [h0] at hz hk
  exact ⟨by rw [e1]; exact hz, fun q h1 h2 => by rw [e1]; exact hk q h1 h2,
    ⟨Nat.le_trans hS.1 (by rw [e1]; exact hz), fun q h1 h2 => by rw [e1, hk q (Nat.lt_of_lt_of_le h1 hS.1) (fun z => h2 (hA q (Nat.lt_of_lt_of_le h1 hS.1) z))]; exact hS.2.1 q h1 h2, fun q hq => by
      rcases List.mem_append.mp hq with h | h
      · exact hS.2.2 q h
      · exact hf _ (hL q h)⟩⟩
theorem vx_calli {S SX : Type} {post : Int32 → S → Prop} {px : SX → Prop} {B : S → State → Prop} {BX : String → SX → State → Prop} {AX : Nat → Prop} (hr : vx_Run p l e R s m args below meth c H locs cells slots mc ms (F0 m pc ls st0) rest (va_Qi post B A1 a) (vx_X px BX AX) free) (hS : va_S A0 H0 H locs) (hA : ∀ q, q < H.size → A1 q → A0 q) (hf : ∀ q, free q → A0 q) (hAX : ∀ q, q < H.size → AX q → A0 q)
    (kx : ∀ (E : String) (ce : Cell) (q9 : Addr) (u : SX) (t : State) (H1 : Heap) (locs1 : List Loc), t.heap = H1 → s.vm.Alike t.vm → px u → BX E u t → H.size ≤ H1.size → (∀ q : Nat, q < H.size → ¬ AX q → H1[q]? = H[q]?) → va_S A0 H0 H1 locs1 → H1[q9]? = some ce → ce.vm = .none → s.vm.findClass E = some ce.cls → vx_W p l e R s m args below meth c H1 locs1 (cells + mc) (slots + ms) Q (F0 m pc ls rest) q9)
    (kk : ∀ (r : Int32) (u : S) (t : State) (H1 : Heap) (locs1 : List Loc), t.heap = H1 → s.vm.Alike t.vm → post r u → B u t → H.size ≤ H1.size → (∀ q : Nat, q < H.size → ¬ A1 q → H1[q]? = H[q]?) → va_S A0 H0 H1 locs1 → W p l e R s m args below meth c H1 locs1 (cells + mc) (slots + ms) Q (F0 m (pc + 3) ls (.int r :: rest))) : W p l e R s m args below meth c H locs cells slots Q (F0 m pc ls st0) := by
  intro T hT X
  rcases hr T hT X with ⟨v, st₀, t, T', L, h0, X', hL, e1, e2, ⟨⟨r, u, hv, hp, hb⟩, hF⟩, st⟩ | ⟨q, st₀, t, T', L, E, ce, h0, X', hL, e1, e2, ⟨u, hp, hb, hF⟩, hce, hcv, hcl, st⟩
  · cases hv
    obtain ⟨k1, k2, k3⟩ := vx_keep h0 e1 hS hA hf hL hF
    obtain ⟨t2, a1, b1⟩ := kk r u t T'.heap (locs ++ L) e1.symm (by rw [← e2]; exact X'.warmed.alike) hp hb k1 k2 k3 T' rfl X'
    exact ⟨t2, st t2 a1, b1⟩
  · obtain ⟨k1, k2, k3⟩ := vx_keep h0 e1 hS hAX hf hL hF
    obtain ⟨t2, a1, b1⟩ := kx E ce q u t T'.heap (locs ++ L) e1.symm (by rw [← e2]; exact X'.warmed.alike) hp hb k1 k2 k3 (by rw [e1]; exact hce) hcv hcl T' rfl X'
    exact ⟨t2, st.trans a1, b1⟩
theorem vx_calll {S SX : Type} {post : Int64 → S → Prop} {px : SX → Prop} {B : S → State → Prop} {BX : String → SX → State → Prop} {AX : Nat → Prop} (hr : vx_Run p l e R s m args below meth c H locs cells slots mc ms (F0 m pc ls st0) rest (va_Ql post B A1 a) (vx_X px BX AX) free) (hS : va_S A0 H0 H locs) (hA : ∀ q, q < H.size → A1 q → A0 q) (hf : ∀ q, free q → A0 q) (hAX : ∀ q, q < H.size → AX q → A0 q)
    (kx : ∀ (E : String) (ce : Cell) (q9 : Addr) (u : SX) (t : State) (H1 : Heap) (locs1 : List Loc), t.heap = H1 → s.vm.Alike t.vm → px u → BX E u t → H.size ≤ H1.size → (∀ q : Nat, q < H.size → ¬ AX q → H1[q]? = H[q]?) → va_S A0 H0 H1 locs1 → H1[q9]? = some ce → ce.vm = .none → s.vm.findClass E = some ce.cls → vx_W p l e R s m args below meth c H1 locs1 (cells + mc) (slots + ms) Q (F0 m pc ls rest) q9)
    (kk : ∀ (r : Int64) (u : S) (t : State) (H1 : Heap) (locs1 : List Loc), t.heap = H1 → s.vm.Alike t.vm → post r u → B u t → H.size ≤ H1.size → (∀ q : Nat, q < H.size → ¬ A1 q → H1[q]? = H[q]?) → va_S A0 H0 H1 locs1 → W p l e R s m args below meth c H1 locs1 (cells + mc) (slots + ms) Q (F0 m (pc + 3) ls (.long r :: rest))) : W p l e R s m args below meth c H locs cells slots Q (F0 m pc ls st0) := by
  intro T hT X
  rcases hr T hT X with ⟨v, st₀, t, T', L, h0, X', hL, e1, e2, ⟨⟨r, u, hv, hp, hb⟩, hF⟩, st⟩ | ⟨q, st₀, t, T', L, E, ce, h0, X', hL, e1, e2, ⟨u, hp, hb, hF⟩, hce, hcv, hcl, st⟩
  · cases hv
    obtain ⟨k1, k2, k3⟩ := vx_keep h0 e1 hS hA hf hL hF
    obtain ⟨t2, a1, b1⟩ := kk r u t T'.heap (locs ++ L) e1.symm (by rw [← e2]; exact X'.warmed.alike) hp hb k1 k2 k3 T' rfl X'
    exact ⟨t2, st t2 a1, b1⟩
  · obtain ⟨k1, k2, k3⟩ := vx_keep h0 e1 hS hAX hf hL hF
    obtain ⟨t2, a1, b1⟩ := kx E ce q u t T'.heap (locs ++ L) e1.symm (by rw [← e2]; exact X'.warmed.alike) hp hb k1 k2 k3 (by rw [e1]; exact hce) hcv hcl T' rfl X'
    exact ⟨t2, st.trans a1, b1⟩
theorem vx_callf {S SX : Type} {post : UInt32 → S → Prop} {px : SX → Prop} {B : S → State → Prop} {BX : String → SX → State → Prop} {AX : Nat → Prop} (hr : vx_Run p l e R s m args below meth c H locs cells slots mc ms (F0 m pc ls st0) rest (va_Qf post B A1 a) (vx_X px BX AX) free) (hS : va_S A0 H0 H locs) (hA : ∀ q, q < H.size → A1 q → A0 q) (hf : ∀ q, free q → A0 q) (hAX : ∀ q, q < H.size → AX q → A0 q)
    (kx : ∀ (E : String) (ce : Cell) (q9 : Addr) (u : SX) (t : State) (H1 : Heap) (locs1 : List Loc), t.heap = H1 → s.vm.Alike t.vm → px u → BX E u t → H.size ≤ H1.size → (∀ q : Nat, q < H.size → ¬ AX q → H1[q]? = H[q]?) → va_S A0 H0 H1 locs1 → H1[q9]? = some ce → ce.vm = .none → s.vm.findClass E = some ce.cls → vx_W p l e R s m args below meth c H1 locs1 (cells + mc) (slots + ms) Q (F0 m pc ls rest) q9)
    (kk : ∀ (r : UInt32) (u : S) (t : State) (H1 : Heap) (locs1 : List Loc), t.heap = H1 → s.vm.Alike t.vm → post r u → B u t → H.size ≤ H1.size → (∀ q : Nat, q < H.size → ¬ A1 q → H1[q]? = H[q]?) → va_S A0 H0 H1 locs1 → W p l e R s m args below meth c H1 locs1 (cells + mc) (slots + ms) Q (F0 m (pc + 3) ls (.float r :: rest))) : W p l e R s m args below meth c H locs cells slots Q (F0 m pc ls st0) := by
  intro T hT X
  rcases hr T hT X with ⟨v, st₀, t, T', L, h0, X', hL, e1, e2, ⟨⟨r, u, hv, hp, hb⟩, hF⟩, st⟩ | ⟨q, st₀, t, T', L, E, ce, h0, X', hL, e1, e2, ⟨u, hp, hb, hF⟩, hce, hcv, hcl, st⟩
  · cases hv
    obtain ⟨k1, k2, k3⟩ := vx_keep h0 e1 hS hA hf hL hF
    obtain ⟨t2, a1, b1⟩ := kk r u t T'.heap (locs ++ L) e1.symm (by rw [← e2]; exact X'.warmed.alike) hp hb k1 k2 k3 T' rfl X'
    exact ⟨t2, st t2 a1, b1⟩
  · obtain ⟨k1, k2, k3⟩ := vx_keep h0 e1 hS hAX hf hL hF
    obtain ⟨t2, a1, b1⟩ := kx E ce q u t T'.heap (locs ++ L) e1.symm (by rw [← e2]; exact X'.warmed.alike) hp hb k1 k2 k3 (by rw [e1]; exact hce) hcv hcl T' rfl X'
    exact ⟨t2, st.trans a1, b1⟩
theorem vx_calld {S SX : Type} {post : UInt64 → S → Prop} {px : SX → Prop} {B : S → State → Prop} {BX : String → SX → State → Prop} {AX : Nat → Prop} (hr : vx_Run p l e R s m args below meth c H locs cells slots mc ms (F0 m pc ls st0) rest (va_Qd post B A1 a) (vx_X px BX AX) free) (hS : va_S A0 H0 H locs) (hA : ∀ q, q < H.size → A1 q → A0 q) (hf : ∀ q, free q → A0 q) (hAX : ∀ q, q < H.size → AX q → A0 q)
    (kx : ∀ (E : String) (ce : Cell) (q9 : Addr) (u : SX) (t : State) (H1 : Heap) (locs1 : List Loc), t.heap = H1 → s.vm.Alike t.vm → px u → BX E u t → H.size ≤ H1.size → (∀ q : Nat, q < H.size → ¬ AX q → H1[q]? = H[q]?) → va_S A0 H0 H1 locs1 → H1[q9]? = some ce → ce.vm = .none → s.vm.findClass E = some ce.cls → vx_W p l e R s m args below meth c H1 locs1 (cells + mc) (slots + ms) Q (F0 m pc ls rest) q9)
    (kk : ∀ (r : UInt64) (u : S) (t : State) (H1 : Heap) (locs1 : List Loc), t.heap = H1 → s.vm.Alike t.vm → post r u → B u t → H.size ≤ H1.size → (∀ q : Nat, q < H.size → ¬ A1 q → H1[q]? = H[q]?) → va_S A0 H0 H1 locs1 → W p l e R s m args below meth c H1 locs1 (cells + mc) (slots + ms) Q (F0 m (pc + 3) ls (.double r :: rest))) : W p l e R s m args below meth c H locs cells slots Q (F0 m pc ls st0) := by
  intro T hT X
  rcases hr T hT X with ⟨v, st₀, t, T', L, h0, X', hL, e1, e2, ⟨⟨r, u, hv, hp, hb⟩, hF⟩, st⟩ | ⟨q, st₀, t, T', L, E, ce, h0, X', hL, e1, e2, ⟨u, hp, hb, hF⟩, hce, hcv, hcl, st⟩
  · cases hv
    obtain ⟨k1, k2, k3⟩ := vx_keep h0 e1 hS hA hf hL hF
    obtain ⟨t2, a1, b1⟩ := kk r u t T'.heap (locs ++ L) e1.symm (by rw [← e2]; exact X'.warmed.alike) hp hb k1 k2 k3 T' rfl X'
    exact ⟨t2, st t2 a1, b1⟩
  · obtain ⟨k1, k2, k3⟩ := vx_keep h0 e1 hS hAX hf hL hF
    obtain ⟨t2, a1, b1⟩ := kx E ce q u t T'.heap (locs ++ L) e1.symm (by rw [← e2]; exact X'.warmed.alike) hp hb k1 k2 k3 (by rw [e1]; exact hce) hcv hcl T' rfl X'
    exact ⟨t2, st.trans a1, b1⟩
theorem vx_callv {S SX : Type} {post : S → Prop} {px : SX → Prop} {B : S → State → Prop} {BX : String → SX → State → Prop} {AX : Nat → Prop} (hr : vx_Run p l e R s m args below meth c H locs cells slots mc ms (F0 m pc ls st0) rest (va_Qv post B A1 a) (vx_X px BX AX) free) (hS : va_S A0 H0 H locs) (hA : ∀ q, q < H.size → A1 q → A0 q) (hf : ∀ q, free q → A0 q) (hAX : ∀ q, q < H.size → AX q → A0 q)
    (kx : ∀ (E : String) (ce : Cell) (q9 : Addr) (u : SX) (t : State) (H1 : Heap) (locs1 : List Loc), t.heap = H1 → s.vm.Alike t.vm → px u → BX E u t → H.size ≤ H1.size → (∀ q : Nat, q < H.size → ¬ AX q → H1[q]? = H[q]?) → va_S A0 H0 H1 locs1 → H1[q9]? = some ce → ce.vm = .none → s.vm.findClass E = some ce.cls → vx_W p l e R s m args below meth c H1 locs1 (cells + mc) (slots + ms) Q (F0 m pc ls rest) q9)
    (kk : ∀ (u : S) (t : State) (H1 : Heap) (locs1 : List Loc), t.heap = H1 → s.vm.Alike t.vm → post u → B u t → H.size ≤ H1.size → (∀ q : Nat, q < H.size → ¬ A1 q → H1[q]? = H[q]?) → va_S A0 H0 H1 locs1 → W p l e R s m args below meth c H1 locs1 (cells + mc) (slots + ms) Q (F0 m (pc + 3) ls (rest))) : W p l e R s m args below meth c H locs cells slots Q (F0 m pc ls st0) := by
  intro T hT X
  rcases hr T hT X with ⟨v, st₀, t, T', L, h0, X', hL, e1, e2, ⟨⟨u, hv, hp, hb⟩, hF⟩, st⟩ | ⟨q, st₀, t, T', L, E, ce, h0, X', hL, e1, e2, ⟨u, hp, hb, hF⟩, hce, hcv, hcl, st⟩
  · cases hv
    obtain ⟨k1, k2, k3⟩ := vx_keep h0 e1 hS hA hf hL hF
    obtain ⟨t2, a1, b1⟩ := kk u t T'.heap (locs ++ L) e1.symm (by rw [← e2]; exact X'.warmed.alike) hp hb k1 k2 k3 T' rfl X'
    exact ⟨t2, st t2 a1, b1⟩
  · obtain ⟨k1, k2, k3⟩ := vx_keep h0 e1 hS hAX hf hL hF
    obtain ⟨t2, a1, b1⟩ := kx E ce q u t T'.heap (locs ++ L) e1.symm (by rw [← e2]; exact X'.warmed.alike) hp hb k1 k2 k3 (by rw [e1]; exact hce) hcv hcl T' rfl X'
    exact ⟨t2, st.trans a1, b1⟩
/-- caught by the row x of this method's table; the rows ahead don't take it -/
theorem vx_catch {own name : String} {E : String} {ce : Cell} {q : Addr} (hown : s.vm.findClass own = some m.cls) (pre : List ExceptionTableEntry) (x : ExceptionTableEntry) (suf : List ExceptionTableEntry) (hsplit : c.exceptionTable.toList = pre ++ x :: suf)
    (hpass : ∀ z ∈ pre, covers z pc = false ∨ (z.catchType ≠ 0 ∧ ∃ nm : String, (Cond.classLink own z.catchType nm).before args s = true ∧ va_Nc E nm s)) (hx : covers x pc = true) (h0 : x.catchType ≠ 0)
    (hlink : (Cond.classLink own x.catchType name).before args s = true) (hcast : (Cond.castable E name).before args s = true) (hcell : H[q]? = some ce) (hv : ce.vm = .none) (hcl : s.vm.findClass E = some ce.cls)
    (kk : W p l e R s m args below meth c H locs cells slots Q (F0 m x.handlerPc ls [.ref q])) : vx_W p l e R s m args below meth c H locs cells slots Q (F0 m pc ls rest) q := by
  intro T hT X
  have hpl : e.platform.magicAccessors = ({} : Platform).magicAccessors := by rw [X.admits.platform]
  obtain ⟨c3, c4, hc3, hc4, hasg⟩ := Cond.castable_spec hcast
  cases Option.some.inj (hc3.symm.trans hcl)
  obtain ⟨c5, hc5, hcl5⟩ := Cond.classLink_spec hown hlink e.platform hpl
  cases Option.some.inj (hc4.symm.trans hc5)
  obtain ⟨vm', X', st⟩ := X.thenCaughtThrough q (g := F0 m pc ls rest) rfl (Steps.refl _) (by rw [hT]; exact hcell) (by rw [hv]; rfl) (by obtain ⟨k9, h9, -⟩ := Vm.findClass_spec hcl; exact ⟨k9, h9⟩) pre x suf hsplit
    (fun z hz => by
      rcases hpass z hz with h | ⟨hz0, nm, hl1, hn1⟩
      · exact Or.inl h
      · obtain ⟨c6, hc6, hcl6⟩ := Cond.classLink_spec hown hl1 e.platform hpl
        obtain ⟨a8, b8, h1, h2, h3⟩ := hn1
        cases Option.some.inj (h1.symm.trans hcl)
        cases Option.some.inj (h2.symm.trans hc6)
        exact Or.inr ⟨hz0, _, hcl6, h3⟩) hx (Or.inr ⟨h0, c4, hcl5, hasg⟩)
  obtain ⟨t, a1, b1⟩ := kk (T.setVm vm') hT X'
  exact ⟨t, st.trans a1, b1⟩
end Rows
section Ends
variable {p : Program} {l : Launch} {e : Env} {R : Room} {s : State} {m : MethodId} {args : Array Value} {below : List Frame} {meth : Method} {c : Code} {H : Heap} {locs : List Loc} {cells slots : Nat} {Q : State → Prop}
variable {mc ms : Nat} {free : Addr → Prop} {A0 A1 : Nat → Prop} {H0 : Heap} {a : Array Value} {ls : Array Slot} {st0 rest : List Value}
variable {Qc : Array Value → State → Outcome → State → Prop} {XC : String → State → State → Prop}
/-- what a body that may throw owes at its end -/
def vx_MQ (below : List Frame) (Qc : Array Value → State → Outcome → State → Prop) (XC : String → State → State → Prop) (a : Array Value) (s : State) (mc ms : Nat) (free : Addr → Prop) : State → Prop := fun t =>
  ∃ o, t.status = .running ∧ Ended t below o ∧ vx_Q Qc XC mc ms free a s o t
theorem vx_ret {g : JFrame} {mc ms : Nat} (k : W p l e R s m args below meth c H locs cells slots (MQ below Qc args s mc ms free) g) : W p l e R s m args below meth c H locs cells slots (vx_MQ below Qc XC args s mc ms free) g := by
  intro T hT X
  obtain ⟨t, a1, o, b1, b2, b3, b4⟩ := k T hT X
  exact ⟨t, a1, o, b1, b2, Or.inl ⟨b3, b4⟩⟩
/-- not caught here: it goes on to the caller -/
theorem vx_widen {g : JFrame} {q : Addr} {k n : Nat} (h1 : cells ≤ k) (h2 : slots ≤ n) (kk : vx_W p l e R s m args below meth c H locs k n Q g q) : vx_W p l e R s m args below meth c H locs cells slots Q g q := fun T hT X => kk T hT (stand_widen X h1 h2)
theorem vx_out {pc : Nat} {E : String} {ce : Cell} {q : Addr} {mc ms : Nat} (hout : ∀ x ∈ c.exceptionTable.toList, covers x pc = false) (hlocks : meth.locks = false) (hcell : H[q]? = some ce) (hv : ce.vm = .none) (hcl : s.vm.findClass E = some ce.cls)
    (hx : ∀ t : State, t.heap = H → s.vm.Alike t.vm → XC E s t) (hf : ∀ z ∈ locs, free z.base) (hc : cells ≤ mc) (hs : slots ≤ ms) :
    vx_W p l e R s m args below meth c H locs cells slots (vx_MQ below Qc XC args s mc ms free) (F0 m pc ls rest) q := by
  intro T hT X
  obtain ⟨st1, hrun, hend, hW, hsm⟩ := X.leaveThrown q (g := F0 m pc ls rest) rfl rfl rfl hout hlocks
  have hcell9 : (T.setFrames (.throwing q :: below)).heap[q]? = some ce := by
    show T.heap[q]? = some ce
    rw [hT]; exact hcell
  exact ⟨_, st1, .threw q, hrun, hend, Or.inr ⟨q, rfl, E, ce, locs, hx _ hT hW.alike, hcell9, hv, hcl, hW, hsm.mono hc hs, hf⟩⟩
theorem vx_frame {U : State} {k n : Nat} (h : s.sameButNew ({ U with vm := s.vm } : State) locs k n) : s.heap.size ≤ U.heap.size ∧ ∀ q : Nat, q < s.heap.size → (∀ z ∈ locs, z.base ≠ q) → U.heap[q]? = s.heap[q]? := by
  obtain ⟨-, h2, -, -, -, h6⟩ := h
  refine ⟨h2, fun q hq hz => ?_⟩
  obtain ⟨c9, e1, e2, e3, e4⟩ := h6 q _ (Array.getElem?_eq_getElem hq)
  have hs : c9.slots = (s.heap[q]).slots := Array.ext_getElem? fun i => e4 i fun hm => hz _ hm rfl
  have h9 : c9 = s.heap[q] := by
    rw [hs] at e2
    exact e2
  have e5 : U.heap[q]? = some c9 := e1
  rw [e5, h9, Array.getElem?_eq_getElem hq]
/-- the words of a throw but the four that speak of the heap -/
def vx_no (w : Cond) : Bool := decide (w ≠ .isRef (.static Bundle.tN "UNASSIGNED_STACK" Bundle.steD)) && decide (w ≠ .isRef (.static Bundle.tN "SUPPRESSED_SENTINEL" Bundle.listD)) && decide (w ≠ .laysStatic Bundle.tN "UNASSIGNED_STACK" Bundle.steD) && decide (w ≠ .laysStatic Bundle.tN "SUPPRESSED_SENTINEL" Bundle.listD)
def vx_at0 (own : String) (ic : Nat) (X : String) (names : List String) : List Cond := (Bundle.ownAtoms0 own ic X names).filter vx_no
def vx_atS (own : String) (ic : Nat) (X : String) (names : List String) : List Cond := (Bundle.ownAtoms own ic X names).filter vx_no
/-- a word that the tables alone decide, or a good one -/
def vx_ot (w : Cond) : Bool := w.onTables || goodWord w
theorem vx_ot_at {args a' : Array Value} {s U : State} {w : Cond} (hW : s.WarmedH U.vm) (hvm : s.vm = U.vm) (hg : vx_ot w = true) (h : w.before args s = true) : w.before a' U = true := by
  simp only [vx_ot, Bool.or_eq_true] at hg
  rcases hg with hg | hg
  · exact va_tabs hg hvm h
  · exact word_at hW (good_of_word hg) h
/-- a list's words: the good ones out of the method's own list, the others by premises of their own -/
theorem vx_hat {args : Array Value} {s : State} {L B : List Cond} (h1 : ∀ w ∈ L.filter goodWord, w.before args s = true) (h2 : ∀ w ∈ L.filter (fun w => !goodWord w), w ∈ B) (h3 : ∀ w ∈ B, w.before args s = true) : ∀ w ∈ L, w.before args s = true := by
  intro w hw
  by_cases g : goodWord w = true
  · exact h1 w (List.mem_filter.mpr ⟨hw, g⟩)
  · refine h3 w (h2 w (List.mem_filter.mpr ⟨hw, ?_⟩))
    show (!goodWord w) = true
    cases hgw : goodWord w
    · rfl
    · exact absurd hgw g
theorem vx_c {args : Array Value} {s : State} {w : Cond} {B : List Cond} (h : w.before args s = true) (t : ∀ w ∈ B, w.before args s = true) : ∀ w' ∈ w :: B, w'.before args s = true := fun w' h' => (List.mem_cons.mp h').elim (fun e => by rw [e]; exact h) (t w')
theorem vx_n {args : Array Value} {s : State} : ∀ w ∈ ([] : List Cond), w.before args s = true := fun _ h => nomatch h
theorem vx_own {args : Array Value} {s : State} {L : List Cond} (h1 : ∀ w ∈ L.filter vx_no, w.before args s = true)
    (hU : (Cond.isRef (.static Bundle.tN "UNASSIGNED_STACK" Bundle.steD)).before args s = true) (hN : (Cond.isRef (.static Bundle.tN "SUPPRESSED_SENTINEL" Bundle.listD)).before args s = true)
    (lU : (Cond.laysStatic Bundle.tN "UNASSIGNED_STACK" Bundle.steD).before args s = true) (lN : (Cond.laysStatic Bundle.tN "SUPPRESSED_SENTINEL" Bundle.listD).before args s = true) : ∀ w ∈ L, w.before args s = true := by
  intro w hw
  by_cases e1 : w = .isRef (.static Bundle.tN "UNASSIGNED_STACK" Bundle.steD)
  · rw [e1]; exact hU
  · by_cases e2 : w = .isRef (.static Bundle.tN "SUPPRESSED_SENTINEL" Bundle.listD)
    · rw [e2]; exact hN
    · by_cases e3 : w = .laysStatic Bundle.tN "UNASSIGNED_STACK" Bundle.steD
      · rw [e3]; exact lU
      · by_cases e4 : w = .laysStatic Bundle.tN "SUPPRESSED_SENTINEL" Bundle.listD
        · rw [e4]; exact lN
        · exact h1 w (List.mem_filter.mpr ⟨hw, by unfold vx_no; rw [decide_eq_true e1, decide_eq_true e2, decide_eq_true e3, decide_eq_true e4]; rfl⟩)
/-- where a static field lies, its class's statics cell in H -/
def vx_L (C n d : String) (A : Nat → Prop) (U : State) (H : Heap) : Prop := ∃ (c : ClassId) (k : Class) (i : Nat) (f : Field) (a : Nat) (cell : Cell), U.vm.findClass C = some c ∧ U.fieldFound? C n d = some (c, k, i, f) ∧ f.isStatic = true ∧ k.statics = some a ∧ H[a]? = some cell ∧ cell.vm.isStatics = true ∧ cell.cls = c ∧ f.slot < cell.slots.size ∧ k.staticTypes[f.slot]? = some f.type ∧ ¬ A a
theorem vx_L.moved {C n d : String} {A : Nat → Prop} {u U : State} {H : Heap} (hvm : u.vm.Alike U.vm) (h : vx_L C n d A u H) : vx_L C n d A U H := by
  obtain ⟨c, k, i, f, a, cell, h1, h2, h3, h4, h5, h6, h7, h8, h9, h10⟩ := h
  obtain ⟨k', hi', he⟩ := State.fieldFound?_setVm hvm h2
  exact ⟨c, k', i, f, a, cell, by rw [hvm.findClass]; exact h1, hi', h3, by rw [he]; exact h4, h5, h6, h7, h8, by rw [he]; exact h9, h10⟩
theorem vx_L.kept {C n d : String} {A : Nat → Prop} {U : State} {H H1 : Heap} (h : vx_L C n d A U H) (hq : ∀ a : Nat, a < H.size → ¬ A a → H1[a]? = H[a]?) : vx_L C n d A U H1 := by
  obtain ⟨c, k, i, f, a, cell, h1, h2, h3, h4, h5, h6, h7, h8, h9, h10⟩ := h
  exact ⟨c, k, i, f, a, cell, h1, h2, h3, h4, by rw [hq a (Array.getElem?_eq_some_iff.mp h5).1 h10]; exact h5, h6, h7, h8, h9, h10⟩
theorem vx_L.narrow {C n d : String} {A B : Nat → Prop} {U : State} {H : Heap} (h : vx_L C n d A U H) (hAB : ∀ q, B q → A q) : vx_L C n d B U H := by
  obtain ⟨c, k, i, f, a, cell, h1, h2, h3, h4, h5, h6, h7, h8, h9, h10⟩ := h
  exact ⟨c, k, i, f, a, cell, h1, h2, h3, h4, h5, h6, h7, h8, h9, fun z => h10 (hAB _ z)⟩
theorem vx_L.word {C n d : String} {A : Nat → Prop} {s : State} {args : Array Value} (h : vx_L C n d A s s.heap) : (Cond.laysStatic C n d).before args s = true := by
  obtain ⟨c, k, i, f, a, cell, h1, h2, h3, h4, h5, h6, h7, h8, h9, -⟩ := h
  show (Cond.laysStatic C n d).holds args s none s [] = true
  exact Cond.laysStatic_of h1 h2 h3 h4 h5 h6 h7 h8 h9
/-- .. and what it holds: null or some reference -/
def vx_Zq (C n d : String) (A : Nat → Prop) (U : State) (H : Heap) : Prop := va_Zq C n d A U H ∧ vx_L C n d A U H
theorem vx_Zq.moved {C n d : String} {A : Nat → Prop} {u U : State} {H : Heap} (hvm : u.vm.Alike U.vm) (h : vx_Zq C n d A u H) : vx_Zq C n d A U H := ⟨va_Zq.moved hvm h.1, vx_L.moved hvm h.2⟩
theorem vx_Zq.kept {C n d : String} {A : Nat → Prop} {U : State} {H H1 : Heap} (h : vx_Zq C n d A U H) (hq : ∀ a : Nat, a < H.size → ¬ A a → H1[a]? = H[a]?) : vx_Zq C n d A U H1 := ⟨va_Zq.kept h.1 hq, vx_L.kept h.2 hq⟩
theorem vx_Zq.narrow {C n d : String} {A B : Nat → Prop} {U : State} {H : Heap} (h : vx_Zq C n d A U H) (hAB : ∀ q, B q → A q) : vx_Zq C n d B U H := ⟨va_Zq.narrow h.1 hAB, vx_L.narrow h.2 hAB⟩
theorem vx_Zqof {args : Array Value} {s : State} {C n d : String} {A : Nat → Prop} (hl : (Cond.laysStatic C n d).before args s = true) (hini : (Cond.initialized C).before args s = true) (h : (Cond.isRef (.static C n d)).before args s = true) (hA : ∀ a : Nat, a < s.heap.size → ¬ A a) : vx_Zq C n d A s s.heap := by
  refine ⟨va_Zqof hl hini h hA, ?_⟩
  obtain ⟨c, k, i, f, a, cell, h1, h2, h3, h4, h5, h6, h7, h8, h9⟩ := Cond.laysStatic_spec hl
  exact ⟨c, k, i, f, a, cell, h1, h2, h3, h4, h5, h6, h7, h8, h9, hA a (Array.getElem?_eq_some_iff.mp h5).1⟩
theorem vx_isRef {C n d : String} {v : Value} {A : Nat → Prop} {s : State} {args : Array Value} (h : va_Z C n d v A s s.heap) (hv : v.isRef = true) : (Cond.isRef (.static C n d)).before args s = true := by
  obtain ⟨cf, kf, fi, f, a, cell, h1, h2, h3, h4, h5, h6, h7, -⟩ := h
  have he : (Term.static C n d).eval args s none [] s = some v := by
    simp [Term.eval, State.fieldNamed?, h1, h2, h4, h5, h6, h7]
  simp only [Cond.before, Cond.holds, Cond.value, he]
  cases v <;> simp_all [Value.isRef]
theorem vx_isRefq {C n d : String} {A : Nat → Prop} {s : State} {args : Array Value} (h : va_Zq C n d A s s.heap) : (Cond.isRef (.static C n d)).before args s = true := by
  rcases h with h | ⟨t, h⟩
  · exact vx_isRef h rfl
  · exact vx_isRef h rfl
/-- the same frame, seen from here: as if the method were called anew in this heap -/
theorem vx_rebase {T : State} (X : Stand p l e R s m args below meth c T locs cells slots) {R' : Room} (hf : R'.frames ≤ R.frames) (hl : R'.locals ≤ R.locals) (hc : cells + R'.cells ≤ R.cells) (hs : slots + R'.slots ≤ R.slots) :
    Stand p l e R' ((T.setVm s.vm).setFrames (.invoking m args :: below)) m args below meth c T [] 0 0 := by
  have htop : (T.setVm s.vm).topJava?.isSome := X.here.top
  have hF : ((T.setVm s.vm).setFrames (.invoking m args :: below)).frames = .invoking m args :: below := State.frames_setFrames _ (State.cur_lt_of_top htop)
  obtain ⟨g₀, hg0⟩ := Option.isSome_iff_exists.mp htop
  obtain ⟨r, hr⟩ := State.topJava?_eq_some.mp hg0
  have hl9 : e.platform.stackLimits (T.setVm s.vm).me = e.platform.stackLimits s.me := X.limits
  have hb9 : (T.setVm s.vm).me.stackBytes = s.me.stackBytes := X.bytes
  refine ⟨X.admits, X.cas, X.clock, hF, ?_, X.hears, X.method, X.code, X.here, X.tail, X.warmed, ?_, ?_, ?_⟩
  · have h := X.room
    have hU : ((T.setVm s.vm).setFrames (.invoking m args :: below)).localsInUse = s.localsInUse := by
      rw [State.localsInUse_invoking hF (meth := meth) (c := c) X.method X.code, State.localsInUse_invoking X.frames X.method X.code]
    simp only [State.hasRoom, Bool.and_eq_true, decide_eq_true_eq] at h ⊢
    obtain ⟨⟨⟨⟨h1, h2, h3, h4, h5, h6⟩, h7⟩, h8⟩, h9⟩ := h
    rw [X.frames, List.length_cons] at h2 h3
    have q1 := X.heapSize
    have q2 := X.used
    simp only [hF, hU, List.length_cons, State.stackLimits_setFrames, State.stackBytes_setFrames, hl9, hb9]
    refine ⟨⟨⟨⟨by omega, by omega, by omega, by omega, by omega, h6⟩, ?_⟩, ?_⟩, X.book⟩
    · show T.heap.size + R'.cells ≤ e.platform.maxCells
      omega
    · show T.slotsUsed + R'.slots ≤ e.platform.maxSlots
      omega
  · rw [State.stackLimits_setFrames]; rfl
  · rw [State.stackBytes_setFrames]; rfl
  · refine ⟨?_, Nat.le_refl _, Nat.le_refl _, ?_, ?_, fun a c9 h9 => ⟨c9, h9, rfl, rfl, fun _ _ => rfl⟩⟩
    · obtain ⟨t, ht, -⟩ := State.frames_cons hr
      show T.setVm s.vm = { ((T.setVm s.vm).setFrames (.invoking m args :: below)).setFrames (T.setVm s.vm).frames with heap := T.heap, slotsUsed := T.slotsUsed }
      rw [State.setFrames_setFrames, State.setFrames_self ht]
      rfl
    · show T.slotsUsed = T.slotsUsed + ((T.heap.toList.drop T.heap.size).map (·.slots.size)).sum
      rw [List.drop_eq_nil_of_le (Nat.le_of_eq Array.length_toList)]
      rfl
    · show ((T.heap.toList.drop T.heap.size).map (·.slots.size)).sum ≤ 0
      rw [List.drop_eq_nil_of_le (Nat.le_of_eq Array.length_toList)]
      exact Nat.le_refl _
/-- 'throw new E()': new; dup; invokespecial; athrow -/
theorem vx_throw0 {cc : ByteArray} {pc : Nat} (hexec : p.tables.exec = Jvm.exec) (hb : c.code = cc) (hl : l.stackTraces = false) {own cls : String} {names : List String} {ik ic mc ms : Nat} {A : Nat → Prop}
    (hown : s.vm.findClass own = some m.cls) (hcls : Bundle.fit cls = true) (hnames : ∀ n ∈ names, Bundle.fit n = true)
    (hk : (Cond.classLink own ik cls).before args s = true) (hini : (Cond.initialized cls).before args s = true) (hat : ∀ w ∈ vx_at0 own ic cls names, w.before args s = true)
    (hgood : ∀ w ∈ Cond.classLink own ik cls :: Cond.initialized cls :: vx_at0 own ic cls names, vx_ot w = true)
    (hU : vx_Zq Bundle.tN "UNASSIGNED_STACK" Bundle.steD A s s.heap) (hN : vx_Zq Bundle.tN "SUPPRESSED_SENTINEL" Bundle.listD A s s.heap) (hS : va_S A s.heap H locs) (hsize : ls.size = c.maxLocals)
    (d0 : decode cc pc = .ok (.new ik, 3)) (d3 : decode cc (pc + 3) = .ok (.dup, 1)) (d4 : decode cc (pc + 4) = .ok (.invokespecial ic, 3)) (d7 : decode cc (pc + 7) = .ok (.athrow, 1))
    (hout : ∀ x ∈ c.exceptionTable.toList, covers x (pc + 7) = false)
    (hRframes : names.length + 3 < R.frames) (hRlocals : (rest.map fun v => v.category).sum + (13 * (names.length + 1) + 42) ≤ R.locals) (hRcells : cells + 1 ≤ R.cells) (hRslots : slots + 6 ≤ R.slots) (hlocks : meth.locks = false)
    (hx : ∀ t : State, s.vm.Alike t.vm → H.size ≤ t.heap.size → (∀ q : Nat, q < H.size → t.heap[q]? = H[q]?) → XC cls s t)
    (hf : ∀ z ∈ locs, free z.base) (hc : cells + 1 ≤ mc) (hs : slots + 6 ≤ ms) :
    W p l e R s m args below meth c H locs cells slots (vx_MQ below Qc XC args s mc ms free) (F0 m pc ls rest) := by
  intro T hT X
  have htr : e.platform.stackTraces = false := (show e.platform.stackTraces = l.stackTraces by rw [X.admits.platform]).trans hl
  have Y := vx_rebase X (R' := { frames := R.frames, locals := R.locals, cells := 1, slots := 6 }) (Nat.le_refl _) (Nat.le_refl _) hRcells hRslots
  obtain ⟨s', hA⟩ : ∃ z, z = (T.setVm s.vm).setFrames (.invoking m args :: below) := ⟨_, rfl⟩
  rw [← hA] at Y
  have hvm : s'.vm = s.vm := by rw [hA]; rfl
  have hhp : s'.heap = H := by rw [hA]; exact hT
  have hW0 : s.WarmedH s'.vm := by rw [hvm]; exact State.WarmedH.refl s
  have hat' : ∀ w ∈ vx_at0 own ic cls names, w.before args s' = true := fun w hw => vx_ot_at hW0 hvm.symm (hgood w (List.mem_cons_of_mem _ (List.mem_cons_of_mem _ hw))) (hat w hw)
  have hk' : (Cond.classLink own ik cls).before args s' = true := vx_ot_at hW0 hvm.symm (hgood _ List.mem_cons_self) hk
  have hini' : (Cond.initialized cls).before args s' = true := vx_ot_at hW0 hvm.symm (hgood _ (List.mem_cons_of_mem _ List.mem_cons_self)) hini
  have hU' : vx_Zq Bundle.tN "UNASSIGNED_STACK" Bundle.steD A s' s'.heap := by rw [hhp]; exact vx_Zq.moved hW0.alike (hU.kept hS.2.1)
  have hN' : vx_Zq Bundle.tN "SUPPRESSED_SENTINEL" Bundle.listD A s' s'.heap := by rw [hhp]; exact vx_Zq.moved hW0.alike (hN.kept hS.2.1)
  have h : ∀ w ∈ Bundle.ownAtoms0 own ic cls names, w.before args s' = true := vx_own hat' (vx_isRefq hU'.1) (vx_isRefq hN'.1) hU'.2.word hN'.2.word
  have hown' : s'.vm.findClass own = some m.cls := by rw [hvm]; exact hown
  have hins : (Cond.instantiable cls 6).before args s' = true := h _ (by simp [Bundle.ownAtoms0])
  obtain ⟨vm₁, cX, kX, hfX, hkX, -, -, X₁, st1⟩ := Y.newCold hexec (own := own) (C := cls) (index := ik) (n := 6) hown' hk' hins hini'
    (g := F0 m pc ls rest) rfl (by rw [hb]; exact d0) (Nat.le_refl _) (Nat.le_refl _)
  generalize hT1 : (T.setVm vm₁).pushCell { cls := cX, slots := kX.instanceTypes.map defaultValue, vm := .none } = T1 at X₁ st1
  have hcat : (Value.ref T.heap.size).category = 1 := rfl
  have hcellA : T1.heap[T.heap.size]? = some (freshCell cX kX) := by rw [← hT1]; exact State.heap_pushCell_size _ _
  have d3' : decode c.code (pc + 3) = .ok (.dup, 1) := by rw [hb]; exact d3
  obtain ⟨U, hsteps, hrun, hend, hW, hsame, ce, hce, hO⟩ := X₁.ctorThrow0 hexec htr (own := own) (cls := cls) (names := names) (ic := ic) hown' hcls hnames h (fun x hx => nomatch hx) hfX hkX hcellA (by rw [hhp, hT]; exact Nat.le_refl _)
    (g := { method := m, pc := pc + 4, locals := ls, stack := .ref T.heap.size :: .ref T.heap.size :: rest, locked := none }) rfl hsize rfl rfl (rest := rest) rfl
    (by rw [hb]; exact d4) (by rw [hb]; exact d7) hout hRframes (by simp only [List.map_cons, List.sum_cons, hcat]; omega) hlocks
  obtain ⟨f1, f2⟩ := vx_frame hsame
  rw [hhp] at f1 f2
  have hWs : s.WarmedH U.vm := State.WarmedH.trans hW0 hW
  have hcl : s.vm.findClass cls = some ce.cls := by
    have h9 := hO.cls
    rw [hvm] at h9
    exact h9
  have hall : s.sameButNew ({ U with vm := s.vm } : State) locs mc ms := by
    subst hA
    obtain ⟨e1, e2⟩ := hsame
    rw [State.setFrames_setFrames] at e1
    have h2 : (T.setVm s.vm).sameButNew ({ U with vm := s.vm } : State) [] (0 + 1) (0 + 6) := ⟨e1, e2⟩
    have h3 := X.same.trans h2
    rw [List.append_nil] at h3
    exact h3.mono hc hs
  refine ⟨U, ?_, .threw T.heap.size, hrun, hend, Or.inr ⟨T.heap.size, rfl, cls, ce, locs, hx U hWs.alike f1 (fun q hq => f2 q hq (fun z hz => nomatch hz)), hce, hO.vm, hcl, hWs, hall, hf⟩⟩
  refine st1 _ ?_
  show Steps p.tables e below (T1.setTop { method := m, pc := pc + 3, locals := ls, stack := .ref T.heap.size :: rest, locked := none }) _
  jvm_step X₁.here [X₁.here.top, hexec, d3', Value.category]
  exact hsteps
/-- 'throw new E("text")': new; dup; ldc; invokespecial; athrow -/
theorem vx_throwS {cc : ByteArray} {pc : Nat} (hexec : p.tables.exec = Jvm.exec) (hb : c.code = cc) (hl : l.stackTraces = false) {own cls text : String} {names : List String} {ik is ic mc ms sa : Nat} {A : Nat → Prop}
    (hown : s.vm.findClass own = some m.cls) (hcls : Bundle.fit cls = true) (hnames : ∀ n ∈ names, Bundle.fit n = true)
    (hk : (Cond.classLink own ik cls).before args s = true) (hini : (Cond.initialized cls).before args s = true) (hstr : vk_R own is text sa s) (hat : ∀ w ∈ vx_atS own ic cls names, w.before args s = true)
    (hgood : ∀ w ∈ Cond.classLink own ik cls :: Cond.initialized cls :: vx_atS own ic cls names, vx_ot w = true)
    (hU : vx_Zq Bundle.tN "UNASSIGNED_STACK" Bundle.steD A s s.heap) (hN : vx_Zq Bundle.tN "SUPPRESSED_SENTINEL" Bundle.listD A s s.heap) (hS : va_S A s.heap H locs) (hsize : ls.size = c.maxLocals)
    (d0 : decode cc pc = .ok (.new ik, 3)) (d3 : decode cc (pc + 3) = .ok (.dup, 1)) (d4 : decode cc (pc + 4) = .ok (.ldc is, 2)) (d6 : decode cc (pc + 6) = .ok (.invokespecial ic, 3)) (d9 : decode cc (pc + 9) = .ok (.athrow, 1))
    (hout : ∀ x ∈ c.exceptionTable.toList, covers x (pc + 9) = false)
    (hRframes : names.length + 3 < R.frames) (hRlocals : (rest.map fun v => v.category).sum + (13 * (names.length + 1) + 43) ≤ R.locals) (hRcells : cells + 1 ≤ R.cells) (hRslots : slots + 6 ≤ R.slots) (hlocks : meth.locks = false)
    (hx : ∀ t : State, s.vm.Alike t.vm → H.size ≤ t.heap.size → (∀ q : Nat, q < H.size → t.heap[q]? = H[q]?) → XC cls s t)
    (hf : ∀ z ∈ locs, free z.base) (hc : cells + 1 ≤ mc) (hs : slots + 6 ≤ ms) :
    W p l e R s m args below meth c H locs cells slots (vx_MQ below Qc XC args s mc ms free) (F0 m pc ls rest) := by
  intro T hT X
  have htr : e.platform.stackTraces = false := (show e.platform.stackTraces = l.stackTraces by rw [X.admits.platform]).trans hl
  have Y := vx_rebase X (R' := { frames := R.frames, locals := R.locals, cells := 1, slots := 6 }) (Nat.le_refl _) (Nat.le_refl _) hRcells hRslots
  obtain ⟨s', hA⟩ : ∃ z, z = (T.setVm s.vm).setFrames (.invoking m args :: below) := ⟨_, rfl⟩
  rw [← hA] at Y
  have hvm : s'.vm = s.vm := by rw [hA]; rfl
  have hhp : s'.heap = H := by rw [hA]; exact hT
  have hW0 : s.WarmedH s'.vm := by rw [hvm]; exact State.WarmedH.refl s
  have hat' : ∀ w ∈ vx_atS own ic cls names, w.before args s' = true := fun w hw => vx_ot_at hW0 hvm.symm (hgood w (List.mem_cons_of_mem _ (List.mem_cons_of_mem _ hw))) (hat w hw)
  have hk' : (Cond.classLink own ik cls).before args s' = true := vx_ot_at hW0 hvm.symm (hgood _ List.mem_cons_self) hk
  have hini' : (Cond.initialized cls).before args s' = true := vx_ot_at hW0 hvm.symm (hgood _ (List.mem_cons_of_mem _ List.mem_cons_self)) hini
  have hU' : vx_Zq Bundle.tN "UNASSIGNED_STACK" Bundle.steD A s' s'.heap := by rw [hhp]; exact vx_Zq.moved hW0.alike (hU.kept hS.2.1)
  have hN' : vx_Zq Bundle.tN "SUPPRESSED_SENTINEL" Bundle.listD A s' s'.heap := by rw [hhp]; exact vx_Zq.moved hW0.alike (hN.kept hS.2.1)
  have h : ∀ w ∈ Bundle.ownAtoms own ic cls names, w.before args s' = true := vx_own hat' (vx_isRefq hU'.1) (vx_isRefq hN'.1) hU'.2.word hN'.2.word
  have hown' : s'.vm.findClass own = some m.cls := by rw [hvm]; exact hown
  have hins : (Cond.instantiable cls 6).before args s' = true := h _ (by simp [Bundle.ownAtoms])
  obtain ⟨vm₁, cX, kX, hfX, hkX, -, -, X₁, st1⟩ := Y.newCold hexec (own := own) (C := cls) (index := ik) (n := 6) hown' hk' hins hini'
    (g := F0 m pc ls rest) rfl (by rw [hb]; exact d0) (Nat.le_refl _) (Nat.le_refl _)
  generalize hT1 : (T.setVm vm₁).pushCell { cls := cX, slots := kX.instanceTypes.map defaultValue, vm := .none } = T1 at X₁ st1
  have hcat : (Value.ref T.heap.size).category = 1 := rfl
  have hcellA : T1.heap[T.heap.size]? = some (freshCell cX kX) := by rw [← hT1]; exact State.heap_pushCell_size _ _
  have d3' : decode c.code (pc + 3) = .ok (.dup, 1) := by rw [hb]; exact d3
  have d4' : decode c.code (pc + 4) = .ok (.ldc is, 2) := by rw [hb]; exact d4
  have hstr' : vk_R own is text sa s' := vk_R.warm hW0 hstr
  obtain ⟨U, hsteps, hrun, hend, hW, hsame, ce, hce, hO⟩ := X₁.ctorThrowS hexec htr (own := own) (cls := cls) (names := names) (ic := ic) hown' hcls hnames h (fun x hx => nomatch hx) hfX hkX hcellA (by rw [hhp, hT]; exact Nat.le_refl _) (msg := .ref sa) rfl
    (g := { method := m, pc := pc + 6, locals := ls, stack := .ref sa :: .ref T.heap.size :: .ref T.heap.size :: rest, locked := none }) rfl hsize rfl rfl (rest := rest) rfl
    (by rw [hb]; exact d6) (by rw [hb]; exact d9) hout hRframes (by simp only [List.map_cons, List.sum_cons, hcat]; omega) hlocks
  obtain ⟨f1, f2⟩ := vx_frame hsame
  rw [hhp] at f1 f2
  have hWs : s.WarmedH U.vm := State.WarmedH.trans hW0 hW
  have hcl : s.vm.findClass cls = some ce.cls := by
    have h9 := hO.cls
    rw [hvm] at h9
    exact h9
  have hall : s.sameButNew ({ U with vm := s.vm } : State) locs mc ms := by
    subst hA
    obtain ⟨e1, e2⟩ := hsame
    rw [State.setFrames_setFrames] at e1
    have h2 : (T.setVm s.vm).sameButNew ({ U with vm := s.vm } : State) [] (0 + 1) (0 + 6) := ⟨e1, e2⟩
    have h3 := X.same.trans h2
    rw [List.append_nil] at h3
    exact h3.mono hc hs
  refine ⟨U, ?_, .threw T.heap.size, hrun, hend, Or.inr ⟨T.heap.size, rfl, cls, ce, locs, hx U hWs.alike f1 (fun q hq => f2 q hq (fun z hz => nomatch hz)), hce, hO.vm, hcl, hWs, hall, hf⟩⟩
  refine st1 _ ?_
  show Steps p.tables e below (T1.setTop { method := m, pc := pc + 3, locals := ls, stack := .ref T.heap.size :: rest, locked := none }) _
  jvm_step X₁.here [X₁.here.top, hexec, d3', Value.category]
  exact X₁.ldcString hexec (own := own) (text := text) (index := is) (a := sa) hown' hstr'.1 hstr'.2
    (g := { method := m, pc := pc + 4, locals := ls, stack := .ref T.heap.size :: .ref T.heap.size :: rest, locked := none }) rfl d4' _ hsteps
/-- 'throw new E("text")', the text by a wide index -/
theorem vx_throwSW {cc : ByteArray} {pc : Nat} (hexec : p.tables.exec = Jvm.exec) (hb : c.code = cc) (hl : l.stackTraces = false) {own cls text : String} {names : List String} {ik is ic mc ms sa : Nat} {A : Nat → Prop}
    (hown : s.vm.findClass own = some m.cls) (hcls : Bundle.fit cls = true) (hnames : ∀ n ∈ names, Bundle.fit n = true)
    (hk : (Cond.classLink own ik cls).before args s = true) (hini : (Cond.initialized cls).before args s = true) (hstr : vk_R own is text sa s) (hat : ∀ w ∈ vx_atS own ic cls names, w.before args s = true)
    (hgood : ∀ w ∈ Cond.classLink own ik cls :: Cond.initialized cls :: vx_atS own ic cls names, vx_ot w = true)
    (hU : vx_Zq Bundle.tN "UNASSIGNED_STACK" Bundle.steD A s s.heap) (hN : vx_Zq Bundle.tN "SUPPRESSED_SENTINEL" Bundle.listD A s s.heap) (hS : va_S A s.heap H locs) (hsize : ls.size = c.maxLocals)
    (d0 : decode cc pc = .ok (.new ik, 3)) (d3 : decode cc (pc + 3) = .ok (.dup, 1)) (d4 : decode cc (pc + 4) = .ok (.ldc_w is, 3)) (d7 : decode cc (pc + 7) = .ok (.invokespecial ic, 3)) (d10 : decode cc (pc + 10) = .ok (.athrow, 1))
    (hout : ∀ x ∈ c.exceptionTable.toList, covers x (pc + 10) = false)
    (hRframes : names.length + 3 < R.frames) (hRlocals : (rest.map fun v => v.category).sum + (13 * (names.length + 1) + 43) ≤ R.locals) (hRcells : cells + 1 ≤ R.cells) (hRslots : slots + 6 ≤ R.slots) (hlocks : meth.locks = false)
    (hx : ∀ t : State, s.vm.Alike t.vm → H.size ≤ t.heap.size → (∀ q : Nat, q < H.size → t.heap[q]? = H[q]?) → XC cls s t)
    (hf : ∀ z ∈ locs, free z.base) (hc : cells + 1 ≤ mc) (hs : slots + 6 ≤ ms) :
    W p l e R s m args below meth c H locs cells slots (vx_MQ below Qc XC args s mc ms free) (F0 m pc ls rest) := by
  intro T hT X
  have htr : e.platform.stackTraces = false := (show e.platform.stackTraces = l.stackTraces by rw [X.admits.platform]).trans hl
  have Y := vx_rebase X (R' := { frames := R.frames, locals := R.locals, cells := 1, slots := 6 }) (Nat.le_refl _) (Nat.le_refl _) hRcells hRslots
  obtain ⟨s', hA⟩ : ∃ z, z = (T.setVm s.vm).setFrames (.invoking m args :: below) := ⟨_, rfl⟩
  rw [← hA] at Y
  have hvm : s'.vm = s.vm := by rw [hA]; rfl
  have hhp : s'.heap = H := by rw [hA]; exact hT
  have hW0 : s.WarmedH s'.vm := by rw [hvm]; exact State.WarmedH.refl s
  have hat' : ∀ w ∈ vx_atS own ic cls names, w.before args s' = true := fun w hw => vx_ot_at hW0 hvm.symm (hgood w (List.mem_cons_of_mem _ (List.mem_cons_of_mem _ hw))) (hat w hw)
  have hk' : (Cond.classLink own ik cls).before args s' = true := vx_ot_at hW0 hvm.symm (hgood _ List.mem_cons_self) hk
  have hini' : (Cond.initialized cls).before args s' = true := vx_ot_at hW0 hvm.symm (hgood _ (List.mem_cons_of_mem _ List.mem_cons_self)) hini
  have hU' : vx_Zq Bundle.tN "UNASSIGNED_STACK" Bundle.steD A s' s'.heap := by rw [hhp]; exact vx_Zq.moved hW0.alike (hU.kept hS.2.1)
  have hN' : vx_Zq Bundle.tN "SUPPRESSED_SENTINEL" Bundle.listD A s' s'.heap := by rw [hhp]; exact vx_Zq.moved hW0.alike (hN.kept hS.2.1)
  have h : ∀ w ∈ Bundle.ownAtoms own ic cls names, w.before args s' = true := vx_own hat' (vx_isRefq hU'.1) (vx_isRefq hN'.1) hU'.2.word hN'.2.word
  have hown' : s'.vm.findClass own = some m.cls := by rw [hvm]; exact hown
  have hins : (Cond.instantiable cls 6).before args s' = true := h _ (by simp [Bundle.ownAtoms])
  obtain ⟨vm₁, cX, kX, hfX, hkX, -, -, X₁, st1⟩ := Y.newCold hexec (own := own) (C := cls) (index := ik) (n := 6) hown' hk' hins hini'
    (g := F0 m pc ls rest) rfl (by rw [hb]; exact d0) (Nat.le_refl _) (Nat.le_refl _)
  generalize hT1 : (T.setVm vm₁).pushCell { cls := cX, slots := kX.instanceTypes.map defaultValue, vm := .none } = T1 at X₁ st1
  have hcat : (Value.ref T.heap.size).category = 1 := rfl
  have hcellA : T1.heap[T.heap.size]? = some (freshCell cX kX) := by rw [← hT1]; exact State.heap_pushCell_size _ _
  have d3' : decode c.code (pc + 3) = .ok (.dup, 1) := by rw [hb]; exact d3
  have d4' : decode c.code (pc + 4) = .ok (.ldc_w is, 3) := by rw [hb]; exact d4
  have hstr' : vk_R own is text sa s' := vk_R.warm hW0 hstr
  obtain ⟨U, hsteps, hrun, hend, hW, hsame, ce, hce, hO⟩ := X₁.ctorThrowS hexec htr (own := own) (cls := cls) (names := names) (ic := ic) hown' hcls hnames h (fun x hx => nomatch hx) hfX hkX hcellA (by rw [hhp, hT]; exact Nat.le_refl _) (msg := .ref sa) rfl
    (g := { method := m, pc := pc + 7, locals := ls, stack := .ref sa :: .ref T.heap.size :: .ref T.heap.size :: rest, locked := none }) rfl hsize rfl rfl (rest := rest) rfl
    (by rw [hb]; exact d7) (by rw [hb]; exact d10) hout hRframes (by simp only [List.map_cons, List.sum_cons, hcat]; omega) hlocks
  obtain ⟨f1, f2⟩ := vx_frame hsame
  rw [hhp] at f1 f2
  have hWs : s.WarmedH U.vm := State.WarmedH.trans hW0 hW
  have hcl : s.vm.findClass cls = some ce.cls := by
    have h9 := hO.cls
    rw [hvm] at h9
    exact h9
  have hall : s.sameButNew ({ U with vm := s.vm } : State) locs mc ms := by
    subst hA
    obtain ⟨e1, e2⟩ := hsame
    rw [State.setFrames_setFrames] at e1
    have h2 : (T.setVm s.vm).sameButNew ({ U with vm := s.vm } : State) [] (0 + 1) (0 + 6) := ⟨e1, e2⟩
    have h3 := X.same.trans h2
    rw [List.append_nil] at h3
    exact h3.mono hc hs
  refine ⟨U, ?_, .threw T.heap.size, hrun, hend, Or.inr ⟨T.heap.size, rfl, cls, ce, locs, hx U hWs.alike f1 (fun q hq => f2 q hq (fun z hz => nomatch hz)), hce, hO.vm, hcl, hWs, hall, hf⟩⟩
  refine st1 _ ?_
  show Steps p.tables e below (T1.setTop { method := m, pc := pc + 3, locals := ls, stack := .ref T.heap.size :: rest, locked := none }) _
  jvm_step X₁.here [X₁.here.top, hexec, d3', Value.category]
  exact X₁.ldcStringW hexec (own := own) (text := text) (index := is) (a := sa) hown' hstr'.1 hstr'.2
    (g := { method := m, pc := pc + 4, locals := ls, stack := .ref T.heap.size :: .ref T.heap.size :: rest, locked := none }) rfl d4' _ hsteps
end Ends
section Bodies
variable {l : Launch}
theorem vx_ofW {y : MethodName} {ws ws' : List Cond} {rm : Room} {Pc : Array Value → State → Prop} {Qc : Array Value → State → Outcome → State → Prop} {XC : String → State → State → Prop} {mc ms : Nat} {free : Addr → Prop} {cc : ByteArray} {maxL : Nat} {ret : Option FieldType}
    (hy : plainName y.cls = true) (hw : ws = Cond.code y cc maxL ret :: ws')
    (body : ∀ p e s m args below meth c s₁, BodyLoose p l y (headSpec ws rm) cc maxL ret e s m args below meth c s₁ → c.maxLocals = maxL → (∀ x ∈ c.exceptionTable.toList, False) → Pc args s →
      W p l e (headSpec ws rm).room s m args below meth c s.heap [] 0 0 (vx_MQ below Qc XC args s mc ms free) (entryFrame m args maxL)) : vx_Met l y ws rm Pc Qc XC mc ms free := by
  refine MetFree.of_bodyS (code := cc) (maxLocals := maxL) (ret := ret) hy ?_ ?_
  · intro args s m h hn
    obtain ⟨meth, c, h1, h2, h3, h4, h5, h6, -, -⟩ := Cond.code_spec hn (atoms_spec (ws := ws) h _ (by rw [hw]; exact List.mem_cons_self))
    exact ⟨meth, c, h1, h2, h3, h4, h5, h6⟩
  · intro p e s m args below meth c s₁ B hml hP _
    have hh0 : s₁.heap = s.heap := by rw [B.state]; rfl
    have ht : ∀ x ∈ c.exceptionTable.toList, False := by
      obtain ⟨meth9, c9, h1, h2, -, -, -, -, h7, -⟩ := Cond.code_spec B.named (atoms_spec (ws := ws) B.pre _ (by rw [hw]; exact List.mem_cons_self))
      cases Option.some.inj (h1.symm.trans B.method)
      cases Option.some.inj (h2.symm.trans (Stand.of_body B).code)
      intro x hx
      rw [Array.isEmpty_iff.mp h7] at hx
      cases hx
    obtain ⟨t, a1, o, b1, b2, b3⟩ := body p e s m args below meth c s₁ B hml ht hP s₁ hh0 (Stand.of_body B)
    exact ⟨t, o, a1, b1, b2, b3⟩
/-- the table of a body with handlers -/
theorem vx_table {p : Program} {x y : MethodName} {S : Spec} {cc bytes : ByteArray} {maxL maxL' : Nat} {ret ret' : Option FieldType} {e : Env} {s s₁ : State} {m : MethodId} {args : Array Value} {below : List Frame} {meth : Method} {c : Code} {hh : List (Nat × Nat × Nat × Nat)}
    (B : BodyLoose p l y S cc maxL ret e s m args below meth c s₁) (h : (Cond.codeWith y bytes maxL' ret' hh).before args s = true) : c.exceptionTable.toList = tableOf hh := by
  obtain ⟨m9, meth9, c9, hn9, h1, h2, -, -, h6, -⟩ := Cond.codeWith_spec h
  cases Option.some.inj (hn9.symm.trans B.named)
  cases Option.some.inj (h1.symm.trans B.method)
  cases Option.some.inj (h2.symm.trans (Stand.of_body B).code)
  rw [← h6, table_eq]
end Bodies
end VXA
/-! ===== END ===== -/
/-! ===== BEGIN a static call of a method with an exception table ===== -/
section VXS
variable {p : Program} {l : Launch} {e : Env} {R : Room} {s : State} {m : MethodId} {args : Array Value} {below : List Frame} {meth : Method} {c : Code} {T : State} {H : Heap} {locs : List Loc} {cells slots : Nat}
abbrev vx_CSW (R : Room) (s : State) (args : Array Value) (own : String) (index : Nat) (y : MethodName) (bytes : ByteArray) (maxL : Nat) (ret : Option FieldType) (hh : List (Nat × Nat × Nat × Nat)) (ws : List Cond) (rm : Room) (mc ms n : Nat) : Prop :=
  (rm.cells = mc ∧ rm.slots = ms ∧ rm.frames + 1 ≤ R.frames ∧ 8 + (maxL + 11) + rm.locals ≤ R.locals ∧ (∀ w ∈ ws, ∀ (a' : Array Value) (U : State), s.WarmedH U.vm → w.before a' U = true) ∧ Cond.codeWith y bytes maxL ret hh ∈ ws) ∧
  (Cond.codeWith y bytes maxL ret hh).before args s = true ∧ (Cond.initialized y.cls).before args s = true ∧ (y.cls ≠ "java/lang/invoke/MethodHandle" ∧ y.cls ≠ "java/lang/invoke/VarHandle") ∧
  (∀ sig, parseMethodDescriptor y.desc = some sig → n = sig.parameters.length) ∧ (Cond.methodLink own index y).before args s = true ∧ (Cond.static y).before args s = true
theorem vx_cwSW {own : String} {index maxL mc ms : Nat} {y : MethodName} {bytes : ByteArray} {ret : Option FieldType} {hh : List (Nat × Nat × Nat × Nat)} {Ts ws ws' : List Cond} {rm : Room} (n : Nat) (ht : ∀ w ∈ Ts, w.before args s = true) (hT : GoodIn Ts (va_wsS own index y ws)) (hw : ws = Cond.codeWith y bytes maxL ret hh :: ws') (hrc : rm.cells = mc) (hrs : rm.slots = ms)
    (hd : y.cls ≠ "java/lang/invoke/MethodHandle" ∧ y.cls ≠ "java/lang/invoke/VarHandle" ∧ (parseMethodDescriptor y.desc).map (fun d => d.parameters.length) = some n) (hR : rm.frames + 1 ≤ R.frames ∧ 8 + (maxL + 11) + rm.locals ≤ R.locals) :
    vx_CSW R s args own index y bytes maxL ret hh ws rm mc ms n := by
  have ok : ∀ w ∈ va_wsS own index y ws, w.before args s = true := fun w h => ht w (hT w h).1
  have hG : GoodIn Ts ws := fun w h => hT w (by unfold va_wsS; exact List.mem_append_right _ h)
  have hc : Cond.codeWith y bytes maxL ret hh ∈ ws := by rw [hw]; exact List.mem_cons_self
  refine ⟨⟨hrc, hrs, hR.1, hR.2, pay_in ht hG, hc⟩, ht _ (hG _ hc).1, ok _ (by simp [va_wsS]), ⟨hd.1, hd.2.1⟩, fun sig h => ?_, ok _ (by simp [va_wsS]), ok _ (by simp [va_wsS])⟩
  have h2 := hd.2.2
  rw [h] at h2
  exact (Option.some.inj h2).symm
theorem vx_callSW (X : Stand p l e R s m args below meth c T locs cells slots) (hexec : p.tables.exec = Jvm.exec) {own : String} {index : Nat} {y : MethodName} {bytes : ByteArray} {maxL : Nat} {ret : Option FieldType} {hh : List (Nat × Nat × Nat × Nat)}
    (hown : s.vm.findClass own = some m.cls) (hlink : (Cond.methodLink own index y).before args s = true) (hstat : (Cond.static y).before args s = true) (hinit : (Cond.initialized y.cls).before args s = true)
    (hcode : (Cond.codeWith y bytes maxL ret hh).before args s = true) (hy : y.cls ≠ "java/lang/invoke/MethodHandle" ∧ y.cls ≠ "java/lang/invoke/VarHandle")
    {W9 : Nat} {Pre : Pt → Array Value → Prop} {Post : Pt → Array Value → Option Value → Pt → Prop} (hK : Back l R p e below s args y 3 W9 Pre Post)
    {g : JFrame} (hg : g.method = m) (hsize : g.locals.size = c.maxLocals) {argsL rest : List Value} (hlen : ∀ sig, parseMethodDescriptor y.desc = some sig → argsL.length = sig.parameters.length)
    (hstack : g.stack = argsL.reverse ++ rest) (hW : 2 * g.monitorRoom + (rest.map fun v => v.category).sum ≤ W9) (hdg : decode c.code g.pc = .ok (.invokestatic index, 3))
    (hpre : ∀ vm₁, s.WarmedH vm₁ → Pre ⟨T.setVm vm₁, locs, cells, slots⟩ argsL.toArray) :
    ∃ (v : Option Value) (vm₁ : Vm) (B : Pt), s.WarmedH vm₁ ∧ Stand p l e R s m args below meth c B.U B.locs B.cells B.slots ∧ Post ⟨T.setVm vm₁, locs, cells, slots⟩ argsL.toArray v B ∧
      ∀ target, Steps p.tables e below (B.U.setTop { g with pc := g.pc + 3, stack := v.toList ++ rest }) target → Steps p.tables e below (T.setTop g) target := by
  obtain ⟨mk, methM, cM, hnamed, hmethM, -, -, -, -, -, -, hsigM⟩ := Cond.codeWith_spec hcode
  have hstatic : methM.isStatic = true := Cond.static_spec hnamed hmethM hstat
  obtain ⟨kP, hkP, -⟩ := className_of_methodNamed hnamed
  have hinitP : kP.init = .initialized := Cond.initialized_spec (findClass_of_methodNamed hnamed) hkP hinit
  obtain ⟨vm₁, X₁, hstep₁⟩ := X.invokestatic hexec hown hlink hnamed hmethM hstatic hkP hinitP hy (g := g) hg (argsL := argsL) (rest := rest) (hlen _ hsigM) hstack hdg
  obtain ⟨v, B, X', hpost, hsteps⟩ := hK m meth c ⟨T.setVm vm₁, locs, cells, slots⟩ { g with stack := rest } (.invokestatic index) mk argsL.toArray X₁ hg hsize hdg hW (X₁.named hnamed) (hpre vm₁ X₁.warmed)
  exact ⟨v, vm₁, B, X₁.warmed, X', hpost, fun target h => hstep₁ _ fun acts => by rw [doInvoke_state]; exact hsteps.trans h⟩
theorem vx_runSW {y : MethodName} {bytes cc : ByteArray} {maxL nL mc ms n index : Nat} {ret : Option FieldType} {hh : List (Nat × Nat × Nat × Nat)} {ws : List Cond} {rm : Room} {Pc : Array Value → State → Prop} {Qc : Array Value → State → Outcome → State → Prop} {free : Addr → Prop} {Ts : List Cond} {own : String} {As rest : List Value} {g : JFrame}
    (S : CallFix p m c cc nL s args Ts own) (hM : Met l y ws rm Pc Qc mc ms free) (cw : vx_CSW R s args own index y bytes maxL ret hh ws rm mc ms n) (hp : PreS s H Pc As)
    (hg : g.method = m) (hn : As.length = n) (hsize : g.locals.size = nL) (hstack : g.stack = As.reverse ++ rest) (hW : 2 * g.monitorRoom + (rest.map fun v => v.category).sum ≤ 8) (hdg : decode cc g.pc = .ok (.invokestatic index, 3)) (hf : cells + mc ≤ R.cells ∧ slots + ms ≤ R.slots) :
    va_Run p l e R s m args below meth c H locs cells slots mc ms g rest (Qc As.toArray) (free) := by
  obtain ⟨⟨hrc, hrs, hfr, hlo, hws, hcw⟩, hcode, hini, hy, hlen, hl, hstt⟩ := cw
  have hK : Back l R p e below s args y 3 8 (PreOf R mc ms Pc) (PostOf Qc mc ms free) := va_backW (hh := hh) (bytes := bytes) (maxL := maxL) (ret := ret) hM hp.1 hrc hrs hfr hlo hws hcw (fun a' U hW => word_at hW (Or.inl (by first | rfl | simp [Cond.onTables, Cond.keeps, Cond.steady])) hini)
  obtain ⟨hx, hb, hml, ho, -⟩ := S
  intro T hT X
  obtain ⟨v, vm₁, ⟨U', l2, c2, s2⟩, hW₁, X', ⟨g', mk, t, L, e1, e2, hq, h1, hL, h2, h3⟩, st⟩ := vx_callSW X hx (hh := hh) (bytes := bytes) (maxL := maxL) (ret := ret) ho hl hstt hini hcode hy hK hg (hsize.trans hml.symm) (argsL := As) (rest := rest) (fun sig h => hn.trans (hlen sig h)) hstack hW (by rw [hb]; exact hdg)
    (fun vm₁ hW₁ => ⟨hf.1, hf.2, hp.2 (T.setVm vm₁) hT hW₁⟩)
  dsimp only [Pt.U, Pt.locs, Pt.cells, Pt.slots] at X' e1 e2 h1 h2 h3 st
  subst h1; subst h2; subst h3
  exact ⟨v, (T.setVm vm₁).calling g' mk As.toArray, t, U', L, hT, X', hL, e1, e2, hq, st⟩
/-- not caught here, past rows that name other classes: it goes on to the caller -/
theorem vx_outP {p : Program} {l : Launch} {e : Env} {R : Room} {s : State} {m : MethodId} {args : Array Value} {below : List Frame} {meth : Method} {c : Code} {H : Heap} {locs : List Loc} {cells slots : Nat} {free : Addr → Prop} {ls : Array Slot} {rest : List Value} {Qc : Array Value → State → Outcome → State → Prop} {XC : String → State → State → Prop}
    {pc : Nat} {own E : String} {ce : Cell} {q : Addr} {mc ms : Nat} (hown : s.vm.findClass own = some m.cls) (hlocks : meth.locks = false)
    (hpass : ∀ z ∈ c.exceptionTable.toList, covers z pc = false ∨ (z.catchType ≠ 0 ∧ ∃ nm : String, (Cond.classLink own z.catchType nm).before args s = true ∧ va_Nc E nm s)) (hcell : H[q]? = some ce) (hv : ce.vm = .none) (hcl : s.vm.findClass E = some ce.cls)
    (hx : ∀ t : State, t.heap = H → s.vm.Alike t.vm → XC E s t) (hf : ∀ z ∈ locs, free z.base) (hc : cells ≤ mc) (hs : slots ≤ ms) :
    vx_W p l e R s m args below meth c H locs cells slots (vx_MQ below Qc XC args s mc ms free) (F0 m pc ls rest) q := by
  intro T hT X
  have hpl : e.platform.magicAccessors = ({} : Platform).magicAccessors := by rw [X.admits.platform]
  obtain ⟨vm', hW', X', st⟩ := X.outThrough hlocks q (g := F0 m pc ls rest) rfl rfl rfl (cell := ce) (by rw [hT]; exact hcell) (by rw [hv]; rfl)
    (by obtain ⟨k9, h9, -⟩ := Vm.findClass_spec hcl; exact ⟨k9, h9⟩) (fun z hz => by
      rcases hpass z hz with h | ⟨hz0, nm, hl1, hn1⟩
      · exact Or.inl h
      · obtain ⟨c6, hc6, hcl6⟩ := Cond.classLink_spec hown hl1 e.platform hpl
        obtain ⟨a8, b8, h1, h2, h3⟩ := hn1
        cases Option.some.inj (h1.symm.trans hcl)
        cases Option.some.inj (h2.symm.trans hc6)
        exact Or.inr ⟨hz0, _, hcl6, h3⟩)
  obtain ⟨g₀, hfr⟩ := X'.frames_eq
  have hcell9 : ((T.setVm vm').setFrames (.throwing q :: below)).heap[q]? = some ce := by
    show T.heap[q]? = some ce
    rw [hT]; exact hcell
  have hend : Ended ((T.setVm vm').setFrames (.throwing q :: below)) below (.threw q) := State.frames_setFrames _ (State.cur_lt_of_frames hfr)
  refine ⟨(T.setVm vm').setFrames (.throwing q :: below), ?_, .threw q, X'.here.running, hend, Or.inr ⟨q, rfl, E, ce, locs, hx _ hT (X'.ends _).1.alike, hcell9, hv, hcl, (X'.ends _).1, (X'.ends _).2.mono hc hs, hf⟩⟩
  rw [X.pushThrowing_eq]
  exact st
/-- a thing of a world lies in the heap -/
theorem vx_lt {D : va_G} {cl : List vw_C} {ws : va_W} {H1 : Heap} (h : va_P D cl ws H1) {k : Nat} {q : Nat × va_E} (hk : ws[k]? = some q) : q.1 < H1.size := (h k q hk).lt
end VXS
/-! ===== END ===== -/
/-! ===== BEGIN methods with a table of their own: called by a name, returning or throwing ===== -/
section VXH
/-! vx_backW, vx_callVX, vx_callSX, vx_callVW, vx_runVW, vx_runVX, vx_runSX, vx_ofWH follow the same proofs as their sisters above (Free/Laws.lean, Shelf42/LK1.lean); vx_outP calls Shelf42/NT130.lean (outThrough). -/
section
variable {l : Launch} {R : Room} {p : Program} {e : Env} {below : List Frame} {s : State} {sargs : Array Value} {y : MethodName} {len W9 : Nat}
theorem vx_backW {ws : List Cond} {rm : Room} {Pc : Array Value → State → Prop} {Qc : Array Value → State → Outcome → State → Prop} {XC : String → State → State → Prop} {mc ms : Nat} {free : Addr → Prop} {bytes : ByteArray} {maxL : Nat} {ret : Option FieldType} {hh : List (Nat × Nat × Nat × Nat)}
    (hM : vx_Met l y ws rm Pc Qc XC mc ms free) (hblind : FrameBlind Pc) (hrc : rm.cells = mc) (hrs : rm.slots = ms)
    (hframes : rm.frames + 1 ≤ R.frames) (hlocals : W9 + (maxL + 11) + rm.locals ≤ R.locals)
    (hws : ∀ w ∈ ws, ∀ a' U, s.WarmedH U.vm → w.before a' U = true) (hcode : Cond.codeWith y bytes maxL ret hh ∈ ws) (hinit : ∀ a' U, s.WarmedH U.vm → (Cond.initialized y.cls).before a' U = true) :
    vx_Back l R p e below s sargs y len W9 (PreOf R mc ms Pc) (PostOf Qc mc ms free) (vx_Post XC mc ms free) := by
  intro m meth c A g ig mk a X hg hsize hdg hW hn hp
  have h1 : (headSpec ws rm).pre.before a A.U = true := atoms_intro fun w hw => hws w hw _ _ X.warmed
  have h2 : (Cond.codeWith y bytes maxL ret hh).before a A.U = true := hws _ hcode _ _ X.warmed
  have h3 : (Cond.initialized y.cls).before a A.U = true := hinit _ _ X.warmed
  have h4 : A.cells + (headSpec ws rm).room.cells ≤ R.cells := by rw [show (headSpec ws rm).room.cells = mc from hrc]; exact hp.1
  have h5 : A.slots + (headSpec ws rm).room.slots ≤ R.slots := by rw [show (headSpec ws rm).room.slots = ms from hrs]; exact hp.2.1
  have hPc : Pc a (A.U.calling g mk a) := hblind _ _ _ _ hp.2.2
  obtain ⟨U, Ls, c0, s0⟩ := A
  dsimp only [Pt.U, Pt.locs, Pt.cells, Pt.slots] at h1 h2 h3 h4 h5 X hn hPc ⊢
  obtain ⟨m9, methY, cY, hn9, hmY, hcY, -, hlY, -⟩ := Cond.codeWith_spec h2
  cases Option.some.inj (hn9.symm.trans hn)
  obtain ⟨kY, hkY, -⟩ := className_of_methodNamed hn
  have hinitY : kY.init = .initialized := Cond.initialized_spec (findClass_of_methodNamed hn) hkY h3
  have h : At U g.method c below := by rw [hg]; exact X.here
  have hlocals9 : W9 + (maxL + 11) + (headSpec ws rm).room.locals ≤ R.locals := hlocals
  have happ : (headSpec ws rm).appliesLoose y e.platform (U.calling g mk a) = true :=
    Spec.appliesLoose_calling (g := g) h hdg hn hkY hinitY
      (X.room_calling (g := g) (R' := (headSpec ws rm).room) hsize hmY hcY hframes (by rw [hlY]; omega) h4 h5) h1
  obtain ⟨mid, hmid⟩ := h.above
  have hfr : (U.setTop g).frames = (.java g :: mid) ++ below := by rw [State.frames_setTop' g h.top, hmid]; rfl
  obtain ⟨o, s₂, hsteps, -, hend, hq⟩ := Steps.callFree hM p X.admits X.cas X.clock (acts := []) hfr happ hPc trivial
  have hq' : vx_Q Qc XC mc ms free a (U.calling g mk a) o s₂ := hq
  rw [State.frames_setTop' g h.top] at hend
  obtain ⟨g₀, hg0⟩ := Option.isSome_iff_exists.mp h.top
  obtain ⟨r, hr⟩ := State.topJava?_eq_some.mp hg0
  have hr' : (({ U with heap := s₂.heap, slotsUsed := s₂.slotsUsed } : State).setVm s₂.vm).frames = .java g₀ :: r := hr
  rcases hq' with ⟨hqc, L, hfe, hL⟩ | ⟨q, rfl, E, ce, L, hx, hce, hcv, hcl, hW₂, hsm, hL⟩
  · obtain ⟨⟨v, rfl⟩, hW₂, e2, q2, q3, q4, q5, q6⟩ := id hfe
    have e3 : s₂ = ({ (U.calling g mk a).setFrames s₂.frames with heap := s₂.heap, slotsUsed := s₂.slotsUsed } : State).setVm s₂.vm := by
      have : s₂ = ({ s₂ with vm := (U.calling g mk a).vm } : State).setVm s₂.vm := rfl
      rw [e2] at this
      exact this
    obtain ⟨c₂, i₂, len₂, hc₂, hd₂, hf₂⟩ := hend
    have hW' : U.WarmedH s₂.vm := hW₂
    have hcc : c₂ = c := by
      have h1 : s₂.code? g.method = U.code? g.method := by
        rw [State.code?_eq, State.code?_eq, hW'.alike.method?]
      exact Option.some.inj (hc₂.symm.trans (h1.trans h.code))
    subst hcc
    have hlen : len₂ = len := by rw [hdg] at hd₂; cases hd₂; rfl
    subst hlen
    have hs₂ : s₂ = (({ U with heap := s₂.heap, slotsUsed := s₂.slotsUsed } : State).setVm s₂.vm).setTop { g with pc := g.pc + len₂, stack := v.toList ++ g.stack } := by
      refine e3.trans ?_
      rw [hf₂, State.calling_eq h.top, State.setFrames_setFrames, State.setTop_of_frames _ hr', hr]
      rfl
    have hsame : U.sameButNew ({ U with heap := s₂.heap, slotsUsed := s₂.slotsUsed } : State) L mc ms := by
      refine ⟨?_, q2, q3, q4, q5, q6⟩
      obtain ⟨t, ht, -⟩ := State.frames_cons hr
      show ({ U with heap := s₂.heap, slotsUsed := s₂.slotsUsed } : State) = { U.setFrames U.frames with heap := s₂.heap, slotsUsed := s₂.slotsUsed }
      rw [State.setFrames_self ht]
    subst hg
    refine Or.inl ⟨v, ⟨(({ U with heap := s₂.heap, slotsUsed := s₂.slotsUsed } : State).setVm s₂.vm), Ls ++ L, c0 + mc, s0 + ms⟩,
      ⟨X.admits, X.cas, X.clock, X.frames, X.room, X.hears, X.method, X.code, (X.here.setHeapUsed s₂.heap s₂.slotsUsed).setVm hW'.alike, X.tail, State.WarmedH.trans X.warmed hW', X.limits, X.bytes, X.same.trans (hsame.setVm s.vm)⟩,
      ⟨g, mk, s₂, L, rfl, rfl, hqc, rfl, hL, rfl, rfl⟩, ?_⟩
    show Steps p.tables e below _ ((({ U with heap := s₂.heap, slotsUsed := s₂.slotsUsed } : State).setVm s₂.vm).setTop { g with pc := g.pc + len₂, stack := v.toList ++ g.stack })
    rw [← hs₂]
    exact hsteps
  · obtain ⟨e2, q2, q3, q4, q5, q6⟩ := id hsm
    have e3 : s₂ = ({ (U.calling g mk a).setFrames s₂.frames with heap := s₂.heap, slotsUsed := s₂.slotsUsed } : State).setVm s₂.vm := by
      have : s₂ = ({ s₂ with vm := (U.calling g mk a).vm } : State).setVm s₂.vm := rfl
      rw [e2] at this
      exact this
    have hf₂ : s₂.frames = .throwing q :: .java g :: U.frames.tail := hend
    have hW' : U.WarmedH s₂.vm := hW₂
    have hs₂ : s₂ = ((({ U with heap := s₂.heap, slotsUsed := s₂.slotsUsed } : State).setVm s₂.vm).setTop g).pushFrame (.throwing q) := by
      refine e3.trans ?_
      rw [hf₂, State.calling_eq h.top, State.setFrames_setFrames, State.pushFrame, State.frames_setTop _ hr', State.setTop_of_frames _ hr', State.setFrames_setFrames, hr]
      rfl
    have hsame : U.sameButNew ({ U with heap := s₂.heap, slotsUsed := s₂.slotsUsed } : State) L mc ms := by
      refine ⟨?_, q2, q3, q4, q5, q6⟩
      obtain ⟨t, ht, -⟩ := State.frames_cons hr
      show ({ U with heap := s₂.heap, slotsUsed := s₂.slotsUsed } : State) = { U.setFrames U.frames with heap := s₂.heap, slotsUsed := s₂.slotsUsed }
      rw [State.setFrames_self ht]
    subst hg
    refine Or.inr ⟨q, ⟨(({ U with heap := s₂.heap, slotsUsed := s₂.slotsUsed } : State).setVm s₂.vm), Ls ++ L, c0 + mc, s0 + ms⟩,
      ⟨X.admits, X.cas, X.clock, X.frames, X.room, X.hears, X.method, X.code, (X.here.setHeapUsed s₂.heap s₂.slotsUsed).setVm hW'.alike, X.tail, State.WarmedH.trans X.warmed hW', X.limits, X.bytes, X.same.trans (hsame.setVm s.vm)⟩,
      ⟨g, mk, s₂, L, E, ce, rfl, rfl, hx, hce, hcv, hcl, rfl, hL, rfl, rfl⟩, ?_⟩
    show Steps p.tables e below _ (((({ U with heap := s₂.heap, slotsUsed := s₂.slotsUsed } : State).setVm s₂.vm).setTop g).pushFrame (.throwing q))
    rw [← hs₂]
    exact hsteps
end
variable {p : Program} {l : Launch} {e : Env} {R : Room} {s : State} {m : MethodId} {args : Array Value} {below : List Frame} {meth : Method} {c : Code} {T : State} {H : Heap} {locs : List Loc} {cells slots : Nat}
theorem vx_callVX (X : Stand p l e R s m args below meth c T locs cells slots) (hexec : p.tables.exec = Jvm.exec) {own C : String} {index : Nat} {y : MethodName} {bytes : ByteArray} {maxL : Nat} {ret : Option FieldType} {hh : List (Nat × Nat × Nat × Nat)}
    (hown : s.vm.findClass own = some m.cls) (hlink : (Cond.methodLink own index y).before args s = true) (hinst : (Cond.instanceMethod y).before args s = true) (hsel : (Cond.selects C y y).before args s = true)
    (hcode : (Cond.codeWith y bytes maxL ret hh).before args s = true) (hy : y.cls ≠ "java/lang/invoke/MethodHandle" ∧ y.cls ≠ "java/lang/invoke/VarHandle")
    {W9 : Nat} {Pre : Pt → Array Value → Prop} {Post : Pt → Array Value → Option Value → Pt → Prop} {PostX : Pt → Array Value → Addr → Pt → Prop} (hK : vx_Back l R p e below s args y 3 W9 Pre Post PostX)
    {b : Addr} {cellB : Cell} (hcell : T.heap[b]? = some cellB) (hobj : cellB.vm.isStatics = false) (hcls : s.vm.findClass C = some cellB.cls)
    {g : JFrame} (hg : g.method = m) (hsize : g.locals.size = c.maxLocals) {argsL rest : List Value} (hlen : ∀ sig, parseMethodDescriptor y.desc = some sig → argsL.length = sig.parameters.length)
    (hstack : g.stack = argsL.reverse ++ .ref b :: rest) (hW : 2 * g.monitorRoom + (rest.map fun v => v.category).sum ≤ W9) (hdg : decode c.code g.pc = .ok (.invokevirtual index, 3))
    (hpre : ∀ vm₁, s.WarmedH vm₁ → Pre ⟨T.setVm vm₁, locs, cells, slots⟩ (Value.ref b :: argsL).toArray) :
    (∃ (v : Option Value) (vm₁ : Vm) (B : Pt), s.WarmedH vm₁ ∧ Stand p l e R s m args below meth c B.U B.locs B.cells B.slots ∧ Post ⟨T.setVm vm₁, locs, cells, slots⟩ (Value.ref b :: argsL).toArray v B ∧
      ∀ target, Steps p.tables e below (B.U.setTop { g with pc := g.pc + 3, stack := v.toList ++ rest }) target → Steps p.tables e below (T.setTop g) target) ∨
    (∃ (q : Addr) (vm₁ : Vm) (B : Pt), s.WarmedH vm₁ ∧ Stand p l e R s m args below meth c B.U B.locs B.cells B.slots ∧ PostX ⟨T.setVm vm₁, locs, cells, slots⟩ (Value.ref b :: argsL).toArray q B ∧
      Steps p.tables e below (T.setTop g) ((B.U.setTop { g with stack := rest }).pushFrame (.throwing q))) := by
  obtain ⟨mk, methM, hnamed, hmethM, hstM, habM⟩ := Cond.instanceMethod_spec hinst
  obtain ⟨m8, methM', cM, hn8, hmethM', -, -, -, -, -, -, hsigM⟩ := Cond.codeWith_spec hcode
  cases Option.some.inj (hn8.symm.trans hnamed)
  cases hmethM.symm.trans hmethM'
  obtain ⟨c2, r2, m2, q1, q2, q3, q4, kP, hkP, hkPi⟩ := Cond.selects_spec hsel
  cases hcls.symm.trans q1
  cases (State.methodFound?_of_named hnamed hy).symm.trans q2
  cases hnamed.symm.trans q3
  have hselP : selectMethod e.platform s.vm cellB.cls mk = .method mk := by rw [Launch.admits_selectMethod X.admits]; exact q4
  obtain ⟨vm₁, X₁, hstep₁⟩ := X.invokevirtual hexec hown hlink hnamed hmethM hstM hkP hkPi hy (a := b) (cell := cellB) hcell
    (fun z h => by rw [h] at hobj; cases hobj) hselP hmethM habM hkP hkPi (g := g) hg (argsL := argsL) (rest := rest) (hlen _ hsigM) hstack hdg
  rcases hK m meth c ⟨T.setVm vm₁, locs, cells, slots⟩ { g with stack := rest } (.invokevirtual index) mk (Value.ref b :: argsL).toArray X₁ hg hsize hdg hW (X₁.named hnamed) (hpre vm₁ X₁.warmed) with ⟨v, B, X', hpost, hsteps⟩ | ⟨q, B, X', hpost, hsteps⟩
  · exact Or.inl ⟨v, vm₁, B, X₁.warmed, X', hpost, fun target h => hstep₁ _ fun acts => by rw [doInvoke_state]; exact hsteps.trans h⟩
  · exact Or.inr ⟨q, vm₁, B, X₁.warmed, X', hpost, hstep₁ _ fun acts => by rw [doInvoke_state]; exact hsteps⟩
theorem vx_callSX (X : Stand p l e R s m args below meth c T locs cells slots) (hexec : p.tables.exec = Jvm.exec) {own : String} {index : Nat} {y : MethodName} {bytes : ByteArray} {maxL : Nat} {ret : Option FieldType} {hh : List (Nat × Nat × Nat × Nat)}
    (hown : s.vm.findClass own = some m.cls) (hlink : (Cond.methodLink own index y).before args s = true) (hstat : (Cond.static y).before args s = true) (hinit : (Cond.initialized y.cls).before args s = true)
    (hcode : (Cond.codeWith y bytes maxL ret hh).before args s = true) (hy : y.cls ≠ "java/lang/invoke/MethodHandle" ∧ y.cls ≠ "java/lang/invoke/VarHandle")
    {W9 : Nat} {Pre : Pt → Array Value → Prop} {Post : Pt → Array Value → Option Value → Pt → Prop} {PostX : Pt → Array Value → Addr → Pt → Prop} (hK : vx_Back l R p e below s args y 3 W9 Pre Post PostX)
    {g : JFrame} (hg : g.method = m) (hsize : g.locals.size = c.maxLocals) {argsL rest : List Value} (hlen : ∀ sig, parseMethodDescriptor y.desc = some sig → argsL.length = sig.parameters.length)
    (hstack : g.stack = argsL.reverse ++ rest) (hW : 2 * g.monitorRoom + (rest.map fun v => v.category).sum ≤ W9) (hdg : decode c.code g.pc = .ok (.invokestatic index, 3))
    (hpre : ∀ vm₁, s.WarmedH vm₁ → Pre ⟨T.setVm vm₁, locs, cells, slots⟩ argsL.toArray) :
    (∃ (v : Option Value) (vm₁ : Vm) (B : Pt), s.WarmedH vm₁ ∧ Stand p l e R s m args below meth c B.U B.locs B.cells B.slots ∧ Post ⟨T.setVm vm₁, locs, cells, slots⟩ argsL.toArray v B ∧
      ∀ target, Steps p.tables e below (B.U.setTop { g with pc := g.pc + 3, stack := v.toList ++ rest }) target → Steps p.tables e below (T.setTop g) target) ∨
    (∃ (q : Addr) (vm₁ : Vm) (B : Pt), s.WarmedH vm₁ ∧ Stand p l e R s m args below meth c B.U B.locs B.cells B.slots ∧ PostX ⟨T.setVm vm₁, locs, cells, slots⟩ argsL.toArray q B ∧
      Steps p.tables e below (T.setTop g) ((B.U.setTop { g with stack := rest }).pushFrame (.throwing q))) := by
  obtain ⟨mk, methM, cM, hnamed, hmethM, -, -, -, -, -, -, hsigM⟩ := Cond.codeWith_spec hcode
  have hstatic : methM.isStatic = true := Cond.static_spec hnamed hmethM hstat
  obtain ⟨kP, hkP, -⟩ := className_of_methodNamed hnamed
  have hinitP : kP.init = .initialized := Cond.initialized_spec (findClass_of_methodNamed hnamed) hkP hinit
  obtain ⟨vm₁, X₁, hstep₁⟩ := X.invokestatic hexec hown hlink hnamed hmethM hstatic hkP hinitP hy (g := g) hg (argsL := argsL) (rest := rest) (hlen _ hsigM) hstack hdg
  rcases hK m meth c ⟨T.setVm vm₁, locs, cells, slots⟩ { g with stack := rest } (.invokestatic index) mk argsL.toArray X₁ hg hsize hdg hW (X₁.named hnamed) (hpre vm₁ X₁.warmed) with ⟨v, B, X', hpost, hsteps⟩ | ⟨q, B, X', hpost, hsteps⟩
  · exact Or.inl ⟨v, vm₁, B, X₁.warmed, X', hpost, fun target h => hstep₁ _ fun acts => by rw [doInvoke_state]; exact hsteps.trans h⟩
  · exact Or.inr ⟨q, vm₁, B, X₁.warmed, X', hpost, hstep₁ _ fun acts => by rw [doInvoke_state]; exact hsteps⟩
theorem vx_callVW (X : Stand p l e R s m args below meth c T locs cells slots) (hexec : p.tables.exec = Jvm.exec) {own C : String} {index : Nat} {y : MethodName} {bytes : ByteArray} {maxL : Nat} {ret : Option FieldType} {hh : List (Nat × Nat × Nat × Nat)}
    (hown : s.vm.findClass own = some m.cls) (hlink : (Cond.methodLink own index y).before args s = true) (hinst : (Cond.instanceMethod y).before args s = true) (hsel : (Cond.selects C y y).before args s = true)
    (hcode : (Cond.codeWith y bytes maxL ret hh).before args s = true) (hy : y.cls ≠ "java/lang/invoke/MethodHandle" ∧ y.cls ≠ "java/lang/invoke/VarHandle")
    {W9 : Nat} {Pre : Pt → Array Value → Prop} {Post : Pt → Array Value → Option Value → Pt → Prop} (hK : Back l R p e below s args y 3 W9 Pre Post)
    {b : Addr} {cellB : Cell} (hcell : T.heap[b]? = some cellB) (hobj : cellB.vm.isStatics = false) (hcls : s.vm.findClass C = some cellB.cls)
    {g : JFrame} (hg : g.method = m) (hsize : g.locals.size = c.maxLocals) {argsL rest : List Value} (hlen : ∀ sig, parseMethodDescriptor y.desc = some sig → argsL.length = sig.parameters.length)
    (hstack : g.stack = argsL.reverse ++ .ref b :: rest) (hW : 2 * g.monitorRoom + (rest.map fun v => v.category).sum ≤ W9) (hdg : decode c.code g.pc = .ok (.invokevirtual index, 3))
    (hpre : ∀ vm₁, s.WarmedH vm₁ → Pre ⟨T.setVm vm₁, locs, cells, slots⟩ (Value.ref b :: argsL).toArray) :
    ∃ (v : Option Value) (vm₁ : Vm) (B : Pt), s.WarmedH vm₁ ∧ Stand p l e R s m args below meth c B.U B.locs B.cells B.slots ∧ Post ⟨T.setVm vm₁, locs, cells, slots⟩ (Value.ref b :: argsL).toArray v B ∧
      ∀ target, Steps p.tables e below (B.U.setTop { g with pc := g.pc + 3, stack := v.toList ++ rest }) target → Steps p.tables e below (T.setTop g) target := by
  obtain ⟨mk, methM, hnamed, hmethM, hstM, habM⟩ := Cond.instanceMethod_spec hinst
  obtain ⟨m8, methM', cM, hn8, hmethM', -, -, -, -, -, -, hsigM⟩ := Cond.codeWith_spec hcode
  cases Option.some.inj (hn8.symm.trans hnamed)
  cases hmethM.symm.trans hmethM'
  obtain ⟨c2, r2, m2, q1, q2, q3, q4, kP, hkP, hkPi⟩ := Cond.selects_spec hsel
  cases hcls.symm.trans q1
  cases (State.methodFound?_of_named hnamed hy).symm.trans q2
  cases hnamed.symm.trans q3
  have hselP : selectMethod e.platform s.vm cellB.cls mk = .method mk := by rw [Launch.admits_selectMethod X.admits]; exact q4
  obtain ⟨vm₁, X₁, hstep₁⟩ := X.invokevirtual hexec hown hlink hnamed hmethM hstM hkP hkPi hy (a := b) (cell := cellB) hcell
    (fun z h => by rw [h] at hobj; cases hobj) hselP hmethM habM hkP hkPi (g := g) hg (argsL := argsL) (rest := rest) (hlen _ hsigM) hstack hdg
  obtain ⟨v, B, X', hpost, hsteps⟩ := hK m meth c ⟨T.setVm vm₁, locs, cells, slots⟩ { g with stack := rest } (.invokevirtual index) mk (Value.ref b :: argsL).toArray X₁ hg hsize hdg hW (X₁.named hnamed) (hpre vm₁ X₁.warmed)
  exact ⟨v, vm₁, B, X₁.warmed, X', hpost, fun target h => hstep₁ _ fun acts => by rw [doInvoke_state]; exact hsteps.trans h⟩
abbrev vx_CVW (R : Room) (s : State) (args : Array Value) (own C : String) (index : Nat) (y : MethodName) (bytes : ByteArray) (maxL : Nat) (ret : Option FieldType) (hh : List (Nat × Nat × Nat × Nat)) (ws : List Cond) (rm : Room) (mc ms n : Nat) : Prop :=
  (rm.cells = mc ∧ rm.slots = ms ∧ rm.frames + 1 ≤ R.frames ∧ 8 + (maxL + 11) + rm.locals ≤ R.locals ∧ (∀ w ∈ ws, ∀ (a' : Array Value) (U : State), s.WarmedH U.vm → w.before a' U = true) ∧ Cond.codeWith y bytes maxL ret hh ∈ ws) ∧
  (Cond.codeWith y bytes maxL ret hh).before args s = true ∧ (Cond.initialized y.cls).before args s = true ∧ (y.cls ≠ "java/lang/invoke/MethodHandle" ∧ y.cls ≠ "java/lang/invoke/VarHandle") ∧
  (∀ sig, parseMethodDescriptor y.desc = some sig → n = sig.parameters.length) ∧ (Cond.methodLink own index y).before args s = true ∧ (Cond.instanceMethod y).before args s = true ∧ (Cond.selects C y y).before args s = true
theorem vx_cwVW {own C : String} {index maxL mc ms : Nat} {y : MethodName} {bytes : ByteArray} {ret : Option FieldType} {hh : List (Nat × Nat × Nat × Nat)} {Ts ws ws' : List Cond} {rm : Room} (n : Nat) (ht : ∀ w ∈ Ts, w.before args s = true) (hT : GoodIn Ts (wsV own index C y ws)) (hw : ws = Cond.codeWith y bytes maxL ret hh :: ws') (hrc : rm.cells = mc) (hrs : rm.slots = ms)
    (hd : y.cls = C ∧ y.cls ≠ "java/lang/invoke/MethodHandle" ∧ y.cls ≠ "java/lang/invoke/VarHandle" ∧ (parseMethodDescriptor y.desc).map (fun d => d.parameters.length) = some n) (hR : rm.frames + 1 ≤ R.frames ∧ 8 + (maxL + 11) + rm.locals ≤ R.locals) :
    vx_CVW R s args own C index y bytes maxL ret hh ws rm mc ms n := by
  obtain ⟨hC, hd⟩ := hd
  subst hC
  have ok : ∀ w ∈ wsV own index y.cls y ws, w.before args s = true := fun w h => ht w (hT w h).1
  have hG : GoodIn Ts ws := fun w h => hT w (by unfold wsV; exact List.mem_append_right _ h)
  have hc : Cond.codeWith y bytes maxL ret hh ∈ ws := by rw [hw]; exact List.mem_cons_self
  refine ⟨⟨hrc, hrs, hR.1, hR.2, pay_in ht hG, hc⟩, ht _ (hG _ hc).1, ok _ (by simp [wsV]), ⟨hd.1, hd.2.1⟩, fun sig h => ?_, ok _ (by simp [wsV]), ok _ (by simp [wsV]), ok _ (by simp [wsV])⟩
  have h2 := hd.2.2
  rw [h] at h2
  exact (Option.some.inj h2).symm
theorem vx_runVW {y : MethodName} {bytes cc : ByteArray} {maxL nL mc ms n index : Nat} {ret : Option FieldType} {hh : List (Nat × Nat × Nat × Nat)} {ws : List Cond} {rm : Room} {Pc : Array Value → State → Prop} {Qc : Array Value → State → Outcome → State → Prop} {free : Addr → Prop} {Ts : List Cond} {own C : String} {b : Addr} {As rest : List Value} {g : JFrame}
    (S : CallFix p m c cc nL s args Ts own) (hM : Met l y ws rm Pc Qc mc ms free) (cw : vx_CVW R s args own C index y bytes maxL ret hh ws rm mc ms n) (hp : PreV s H C b Pc As)
    (hg : g.method = m) (hn : As.length = n) (hsize : g.locals.size = nL) (hstack : g.stack = As.reverse ++ .ref b :: rest) (hW : 2 * g.monitorRoom + (rest.map fun v => v.category).sum ≤ 8) (hdg : decode cc g.pc = .ok (.invokevirtual index, 3)) (hf : cells + mc ≤ R.cells ∧ slots + ms ≤ R.slots) :
    va_Run p l e R s m args below meth c H locs cells slots mc ms g rest (Qc (Value.ref b :: As).toArray) free := by
  obtain ⟨⟨hrc, hrs, hfr, hlo, hws, hcw⟩, hcode, hini, hy, hlen, hl, hin, hse⟩ := cw
  have hK : Back l R p e below s args y 3 8 (PreOf R mc ms Pc) (PostOf Qc mc ms free) := va_backW (hh := hh) (bytes := bytes) (maxL := maxL) (ret := ret) hM hp.1 hrc hrs hfr hlo hws hcw (fun a' U hW => word_at hW (Or.inl (by first | rfl | simp [Cond.onTables, Cond.keeps, Cond.steady])) hini)
  obtain ⟨hx, hb, hml, ho, -⟩ := S
  obtain ⟨-, ⟨cellB, hcB, hoB, hclB⟩, hPc⟩ := hp
  intro T hT X
  obtain ⟨v, vm₁, ⟨U', l2, c2, s2⟩, hW₁, X', ⟨g', mk, t, L, e1, e2, hq, h1, hL, h2, h3⟩, st⟩ := vx_callVW X hx (C := C) (hh := hh) (bytes := bytes) (maxL := maxL) (ret := ret) ho hl hin hse hcode hy hK (by rw [hT]; exact hcB) hoB hclB hg (hsize.trans hml.symm) (argsL := As) (rest := rest) (fun sig h => hn.trans (hlen sig h)) hstack hW (by rw [hb]; exact hdg)
    (fun vm₁ hW₁ => ⟨hf.1, hf.2, hPc (T.setVm vm₁) hT hW₁⟩)
  dsimp only [Pt.U, Pt.locs, Pt.cells, Pt.slots] at X' e1 e2 h1 h2 h3 st
  subst h1; subst h2; subst h3
  exact ⟨v, (T.setVm vm₁).calling g' mk (Value.ref b :: As).toArray, t, U', L, hT, X', hL, e1, e2, hq, st⟩
section
variable {y : MethodName} {bytes cc : ByteArray} {maxL nL mc ms n index : Nat} {ret : Option FieldType} {ws : List Cond} {rm : Room} {Pc : Array Value → State → Prop} {Qc : Array Value → State → Outcome → State → Prop} {XC : String → State → State → Prop} {free : Addr → Prop} {Ts : List Cond} {own C : String} {b : Addr} {As rest : List Value} {g : JFrame}
theorem vx_runVX {hh : List (Nat × Nat × Nat × Nat)} (S : CallFix p m c cc nL s args Ts own) (hM : vx_Met l y ws rm Pc Qc XC mc ms free) (cw : vx_CVW R s args own C index y bytes maxL ret hh ws rm mc ms n) (hp : PreV s H C b Pc As)
    (hg : g.method = m) (hn : As.length = n) (hsize : g.locals.size = nL) (hstack : g.stack = As.reverse ++ .ref b :: rest) (hW : 2 * g.monitorRoom + (rest.map fun v => v.category).sum ≤ 8) (hdg : decode cc g.pc = .ok (.invokevirtual index, 3)) (hf : cells + mc ≤ R.cells ∧ slots + ms ≤ R.slots) :
    vx_Run p l e R s m args below meth c H locs cells slots mc ms g rest (Qc (Value.ref b :: As).toArray) XC free := by
  obtain ⟨⟨hrc, hrs, hfr, hlo, hws, hcw⟩, hcode, hini, hy, hlen, hl, hin, hse⟩ := cw
  have hK : vx_Back l R p e below s args y 3 8 (PreOf R mc ms Pc) (PostOf Qc mc ms free) (vx_Post XC mc ms free) := vx_backW (hh := hh) (bytes := bytes) (maxL := maxL) (ret := ret) hM hp.1 hrc hrs hfr hlo hws hcw (fun a' U hW => word_at hW (Or.inl (by first | rfl | simp [Cond.onTables, Cond.keeps, Cond.steady])) hini)
  obtain ⟨hx, hb, hml, ho, -⟩ := S
  obtain ⟨-, ⟨cellB, hcB, hoB, hclB⟩, hPc⟩ := hp
  intro T hT X
  rcases vx_callVX X hx (C := C) (hh := hh) (bytes := bytes) (maxL := maxL) (ret := ret) ho hl hin hse hcode hy hK (by rw [hT]; exact hcB) hoB hclB hg (hsize.trans hml.symm) (argsL := As) (rest := rest) (fun sig h => hn.trans (hlen sig h)) hstack hW (by rw [hb]; exact hdg)
    (fun vm₁ hW₁ => ⟨hf.1, hf.2, hPc (T.setVm vm₁) hT hW₁⟩) with ⟨v, vm₁, ⟨U', l2, c2, s2⟩, hW₁, X', ⟨g', mk, t, L, e1, e2, hq, h1, hL, h2, h3⟩, st⟩ | ⟨q, vm₁, ⟨U', l2, c2, s2⟩, hW₁, X', ⟨g', mk, t, L, E, ce, e1, e2, hq, hce, hcv, hcl, h1, hL, h2, h3⟩, st⟩
  · dsimp only [Pt.U, Pt.locs, Pt.cells, Pt.slots] at X' e1 e2 h1 h2 h3 st
    subst h1; subst h2; subst h3
    exact Or.inl ⟨v, (T.setVm vm₁).calling g' mk (Value.ref b :: As).toArray, t, U', L, hT, X', hL, e1, e2, hq, st⟩
  · dsimp only [Pt.U, Pt.locs, Pt.cells, Pt.slots] at X' e1 e2 h1 h2 h3 st hcl
    subst h1; subst h2; subst h3
    exact Or.inr ⟨q, (T.setVm vm₁).calling g' mk (Value.ref b :: As).toArray, t, U', L, E, ce, hT, X', hL, e1, e2, hq, hce, hcv, vx_cls hW₁ hcl, st⟩
theorem vx_runSX {hh : List (Nat × Nat × Nat × Nat)} (S : CallFix p m c cc nL s args Ts own) (hM : vx_Met l y ws rm Pc Qc XC mc ms free) (cw : vx_CSW R s args own index y bytes maxL ret hh ws rm mc ms n) (hp : PreS s H Pc As)
    (hg : g.method = m) (hn : As.length = n) (hsize : g.locals.size = nL) (hstack : g.stack = As.reverse ++ rest) (hW : 2 * g.monitorRoom + (rest.map fun v => v.category).sum ≤ 8) (hdg : decode cc g.pc = .ok (.invokestatic index, 3)) (hf : cells + mc ≤ R.cells ∧ slots + ms ≤ R.slots) :
    vx_Run p l e R s m args below meth c H locs cells slots mc ms g rest (Qc As.toArray) XC free := by
  obtain ⟨⟨hrc, hrs, hfr, hlo, hws, hcw⟩, hcode, hini, hy, hlen, hl, hstt⟩ := cw
  have hK : vx_Back l R p e below s args y 3 8 (PreOf R mc ms Pc) (PostOf Qc mc ms free) (vx_Post XC mc ms free) := vx_backW (hh := hh) (bytes := bytes) (maxL := maxL) (ret := ret) hM hp.1 hrc hrs hfr hlo hws hcw (fun a' U hW => word_at hW (Or.inl (by first | rfl | simp [Cond.onTables, Cond.keeps, Cond.steady])) hini)
  obtain ⟨hx, hb, hml, ho, -⟩ := S
  intro T hT X
  rcases vx_callSX X hx (hh := hh) (bytes := bytes) (maxL := maxL) (ret := ret) ho hl hstt hini hcode hy hK hg (hsize.trans hml.symm) (argsL := As) (rest := rest) (fun sig h => hn.trans (hlen sig h)) hstack hW (by rw [hb]; exact hdg)
    (fun vm₁ hW₁ => ⟨hf.1, hf.2, hp.2 (T.setVm vm₁) hT hW₁⟩) with ⟨v, vm₁, ⟨U', l2, c2, s2⟩, hW₁, X', ⟨g', mk, t, L, e1, e2, hq, h1, hL, h2, h3⟩, st⟩ | ⟨q, vm₁, ⟨U', l2, c2, s2⟩, hW₁, X', ⟨g', mk, t, L, E, ce, e1, e2, hq, hce, hcv, hcl, h1, hL, h2, h3⟩, st⟩
  · dsimp only [Pt.U, Pt.locs, Pt.cells, Pt.slots] at X' e1 e2 h1 h2 h3 st
    subst h1; subst h2; subst h3
    exact Or.inl ⟨v, (T.setVm vm₁).calling g' mk As.toArray, t, U', L, hT, X', hL, e1, e2, hq, st⟩
  · dsimp only [Pt.U, Pt.locs, Pt.cells, Pt.slots] at X' e1 e2 h1 h2 h3 st hcl
    subst h1; subst h2; subst h3
    exact Or.inr ⟨q, (T.setVm vm₁).calling g' mk As.toArray, t, U', L, E, ce, hT, X', hL, e1, e2, hq, hce, hcv, vx_cls hW₁ hcl, st⟩
end
end VXH
theorem vx_ofWH {l : Launch} {y : MethodName} {ws ws' : List Cond} {rm : Room} {Pc : Array Value → State → Prop} {Qc : Array Value → State → Outcome → State → Prop} {XC : String → State → State → Prop} {mc ms : Nat} {free : Addr → Prop} {cc : ByteArray} {maxL : Nat} {ret : Option FieldType} {hh : List (Nat × Nat × Nat × Nat)}
    (hy : plainName y.cls = true) (hw : ws = Cond.codeWith y cc maxL ret hh :: ws')
    (body : ∀ p e s m args below meth c s₁, BodyLoose p l y (headSpec ws rm) cc maxL ret e s m args below meth c s₁ → c.maxLocals = maxL → Pc args s →
      W p l e (headSpec ws rm).room s m args below meth c s.heap [] 0 0 (vx_MQ below Qc XC args s mc ms free) (entryFrame m args maxL)) : vx_Met l y ws rm Pc Qc XC mc ms free := by
  refine MetFree.of_bodyS (code := cc) (maxLocals := maxL) (ret := ret) hy ?_ ?_
  · intro args s m h hn
    obtain ⟨m9, meth, c, hn9, h1, h2, h3, h4, -, h5, h6, -⟩ := Cond.codeWith_spec (atoms_spec (ws := ws) h _ (by rw [hw]; exact List.mem_cons_self))
    cases hn.symm.trans hn9
    exact ⟨meth, c, h1, h2, h3, h4, h5, h6⟩
  · intro p e s m args below meth c s₁ B hml hP _
    have hh0 : s₁.heap = s.heap := by rw [B.state]; rfl
    obtain ⟨t, a1, o, b1, b2, b3⟩ := body p e s m args below meth c s₁ B hml hP s₁ hh0 (Stand.of_body B)
    exact ⟨t, o, a1, b1, b2, b3⟩
/-! ===== END ===== -/
end
section
/-! ===== BEGIN printed: names, fields, word lists, decode rows ===== -/
def RX0 : String := "OathDiary$History"
def TX0 : u_T := fun k => match k with
  | 0 => ("OathDiary$History", "rows", "[LOathDiary$State;", true)
  | 1 => ("OathDiary$History", "oldest", "I", false)
  | _ => ("OathDiary$History", "size", "I", false)
def tyX0 : Nat → FieldType := fun k => match k with
  | 0 => .array (.object "OathDiary$State")
  | 1 => .int
  | _ => .int
abbrev wsX00 : List Cond := u_ws RX0 TX0 3
theorem nmX0 : ∀ a, a < 3 → ∀ b, b < 3 → a ≠ b → (TX0 a).2.1 ≠ (TX0 b).2.1 := by decide +kernel
theorem tyX0_ok : ∀ k, k < 3 → parseFieldDescriptor (TX0 k).2.2.1 = some (tyX0 k) := by decide +kernel
abbrev cX0_init : ByteArray := prog_2_method_1_code
def yX0_init : MethodName := ⟨RX0, "<init>", "()V"⟩
abbrev cX0_remember : ByteArray := prog_2_method_2_code
def yX0_remember : MethodName := ⟨RX0, "remember", "(LOathDiary$State;)V"⟩
abbrev cX0_restore : ByteArray := prog_2_method_3_code
def yX0_restore : MethodName := ⟨RX0, "restore", "(LOathDiary$State;)V"⟩
abbrev cX0_rowAt : ByteArray := prog_2_method_4_code
def yX0_rowAt : MethodName := ⟨RX0, "rowAt", "(I)LOathDiary$State;"⟩
def RX1 : String := "OathDiary$Lines"
def TX1 : u_T := fun k => match k with
  | 0 => ("OathDiary$Lines", "state", "LOathDiary$State;", true)
  | 1 => ("OathDiary$Lines", "numerator", "I", false)
  | _ => ("OathDiary$Lines", "denominator", "I", false)
def tyX1 : Nat → FieldType := fun k => match k with
  | 0 => .object "OathDiary$State"
  | 1 => .int
  | _ => .int
abbrev wsX10 : List Cond := u_ws RX1 TX1 3
theorem nmX1 : ∀ a, a < 3 → ∀ b, b < 3 → a ≠ b → (TX1 a).2.1 ≠ (TX1 b).2.1 := by decide +kernel
theorem tyX1_ok : ∀ k, k < 3 → parseFieldDescriptor (TX1 k).2.2.1 = some (tyX1 k) := by decide +kernel
abbrev cX1_init : ByteArray := prog_3_method_1_code
def yX1_init : MethodName := ⟨RX1, "<init>", "(LOathDiary$State;)V"⟩
abbrev cX1_findWorst : ByteArray := prog_3_method_2_code
def yX1_findWorst : MethodName := ⟨RX1, "findWorst", "(II)I"⟩
abbrev cX1_canJoin : ByteArray := prog_3_method_3_code
def yX1_canJoin : MethodName := ⟨RX1, "canJoin", "(II)Z"⟩
abbrev cX1_findMiss : ByteArray := prog_3_method_4_code
def yX1_findMiss : MethodName := ⟨RX1, "findMiss", "(III)Z"⟩
abbrev cX1_isWithin : ByteArray := prog_3_method_5_code
def yX1_isWithin : MethodName := ⟨RX1, "isWithin", "(III)Z"⟩
abbrev cX1_isBroken : ByteArray := prog_3_method_6_code
def yX1_isBroken : MethodName := ⟨RX1, "isBroken", "(I)Z"⟩
abbrev cX1_reasonToKeep : ByteArray := prog_3_method_7_code
def yX1_reasonToKeep : MethodName := ⟨RX1, "reasonToKeep", "(I)I"⟩
abbrev cX1_findError : ByteArray := prog_3_method_8_code
def yX1_findError : MethodName := ⟨RX1, "findError", "(I)Z"⟩
abbrev cX1_findReading : ByteArray := prog_3_method_9_code
def yX1_findReading : MethodName := ⟨RX1, "findReading", "(I)Z"⟩
abbrev cX1_isTrue : ByteArray := prog_3_method_10_code
def yX1_isTrue : MethodName := ⟨RX1, "isTrue", "(I)Z"⟩
abbrev cX1_leastMissed : ByteArray := prog_3_method_11_code
def yX1_leastMissed : MethodName := ⟨RX1, "leastMissed", "()I"⟩
abbrev cX1_shorten : ByteArray := prog_3_method_12_code
def yX1_shorten : MethodName := ⟨RX1, "shorten", "()V"⟩
abbrev cX1_commonDivisor : ByteArray := prog_3_method_13_code
def yX1_commonDivisor : MethodName := ⟨RX1, "commonDivisor", "(II)I"⟩
def RX2 : String := "OathDiary$State"
def TX2 : u_T := fun k => match k with
  | 0 => ("OathDiary$State", "times", "[I", true)
  | 1 => ("OathDiary$State", "values", "[I", true)
  | 2 => ("OathDiary$State", "kept", "[I", true)
  | 3 => ("OathDiary$State", "stretches", "[I", true)
  | 4 => ("OathDiary$State", "settings", "[I", true)
  | 5 => ("OathDiary$State", "noteTimes", "[I", true)
  | 6 => ("OathDiary$State", "noteValues", "[I", true)
  | 7 => ("OathDiary$State", "points", "I", false)
  | 8 => ("OathDiary$State", "notes", "I", false)
  | 9 => ("OathDiary$State", "thinned", "I", false)
  | _ => ("OathDiary$State", "torn", "I", false)
def tyX2 : Nat → FieldType := fun k => match k with
  | 0 => .array .int
  | 1 => .array .int
  | 2 => .array .int
  | 3 => .array .int
  | 4 => .array .int
  | 5 => .array .int
  | 6 => .array .int
  | 7 => .int
  | 8 => .int
  | 9 => .int
  | _ => .int
abbrev wsX20 : List Cond := u_ws RX2 TX2 11
theorem nmX2 : ∀ a, a < 11 → ∀ b, b < 11 → a ≠ b → (TX2 a).2.1 ≠ (TX2 b).2.1 := by decide +kernel
theorem tyX2_ok : ∀ k, k < 11 → parseFieldDescriptor (TX2 k).2.2.1 = some (tyX2 k) := by decide +kernel
abbrev cX2_init : ByteArray := prog_4_method_1_code
def yX2_init : MethodName := ⟨RX2, "<init>", "()V"⟩
abbrev cX2_copyFrom : ByteArray := prog_4_method_2_code
def yX2_copyFrom : MethodName := ⟨RX2, "copyFrom", "(LOathDiary$State;)V"⟩
abbrev cX2_hasPoint : ByteArray := prog_4_method_3_code
def yX2_hasPoint : MethodName := ⟨RX2, "hasPoint", "(I)Z"⟩
abbrev cX2_isKept : ByteArray := prog_4_method_4_code
def yX2_isKept : MethodName := ⟨RX2, "isKept", "(I)Z"⟩
abbrev cX2_isStep : ByteArray := prog_4_method_5_code
def yX2_isStep : MethodName := ⟨RX2, "isStep", "()Z"⟩
abbrev cX2_placeOf : ByteArray := prog_4_method_6_code
def yX2_placeOf : MethodName := ⟨RX2, "placeOf", "(I)I"⟩
abbrev cX2_hasTime : ByteArray := prog_4_method_7_code
def yX2_hasTime : MethodName := ⟨RX2, "hasTime", "(I)Z"⟩
abbrev cX2_insert : ByteArray := prog_4_method_8_code
def yX2_insert : MethodName := ⟨RX2, "insert", "(II)I"⟩
abbrev cX2_removeRun : ByteArray := prog_4_method_9_code
def yX2_removeRun : MethodName := ⟨RX2, "removeRun", "(II)V"⟩
abbrev cX2_copyPoint : ByteArray := prog_4_method_10_code
def yX2_copyPoint : MethodName := ⟨RX2, "copyPoint", "(II)V"⟩
abbrev cX2_numberStretches : ByteArray := prog_4_method_11_code
def yX2_numberStretches : MethodName := ⟨RX2, "numberStretches", "()V"⟩
abbrev cX2_stretchCount : ByteArray := prog_4_method_12_code
def yX2_stretchCount : MethodName := ⟨RX2, "stretchCount", "()I"⟩
abbrev cX2_sameStretch : ByteArray := prog_4_method_13_code
def yX2_sameStretch : MethodName := ⟨RX2, "sameStretch", "(II)Z"⟩
abbrev cX2_beginsStretch : ByteArray := prog_4_method_14_code
def yX2_beginsStretch : MethodName := ⟨RX2, "beginsStretch", "(I)Z"⟩
abbrev cX2_endsStretch : ByteArray := prog_4_method_15_code
def yX2_endsStretch : MethodName := ⟨RX2, "endsStretch", "(I)Z"⟩
abbrev cX2_firstOf : ByteArray := prog_4_method_16_code
def yX2_firstOf : MethodName := ⟨RX2, "firstOf", "(I)I"⟩
abbrev cX2_sizeOf : ByteArray := prog_4_method_17_code
def yX2_sizeOf : MethodName := ⟨RX2, "sizeOf", "(I)I"⟩
abbrev cX2_keptOf : ByteArray := prog_4_method_18_code
def yX2_keptOf : MethodName := ⟨RX2, "keptOf", "(I)I"⟩
abbrev cX2_keptPoints : ByteArray := prog_4_method_19_code
def yX2_keptPoints : MethodName := ⟨RX2, "keptPoints", "()I"⟩
abbrev cX2_keptBelow : ByteArray := prog_4_method_20_code
def yX2_keptBelow : MethodName := ⟨RX2, "keptBelow", "(I)I"⟩
abbrev cX2_keptFrom : ByteArray := prog_4_method_21_code
def yX2_keptFrom : MethodName := ⟨RX2, "keptFrom", "(I)I"⟩
abbrev cX2_earlierKept : ByteArray := prog_4_method_22_code
def yX2_earlierKept : MethodName := ⟨RX2, "earlierKept", "(I)I"⟩
abbrev cX2_laterKept : ByteArray := prog_4_method_23_code
def yX2_laterKept : MethodName := ⟨RX2, "laterKept", "(I)I"⟩
def RX3 : String := "OathDiary$Text"
def TX3 : u_T := fun k => match k with
  | 0 => ("OathDiary$Text", "codes", "[I", true)
  | 1 => ("OathDiary$Text", "length", "I", false)
  | 2 => ("OathDiary$Text", "times", "[I", true)
  | 3 => ("OathDiary$Text", "values", "[I", true)
  | _ => ("OathDiary$Text", "parsed", "I", false)
def tyX3 : Nat → FieldType := fun k => match k with
  | 0 => .array .int
  | 1 => .int
  | 2 => .array .int
  | 3 => .array .int
  | _ => .int
abbrev wsX30 : List Cond := u_ws RX3 TX3 5
theorem nmX3 : ∀ a, a < 5 → ∀ b, b < 5 → a ≠ b → (TX3 a).2.1 ≠ (TX3 b).2.1 := by decide +kernel
theorem tyX3_ok : ∀ k, k < 5 → parseFieldDescriptor (TX3 k).2.2.1 = some (tyX3 k) := by decide +kernel
abbrev cX3_init : ByteArray := prog_5_method_1_code
def yX3_init : MethodName := ⟨RX3, "<init>", "()V"⟩
abbrev cX3_push : ByteArray := prog_5_method_2_code
def yX3_push : MethodName := ⟨RX3, "push", "(I)V"⟩
abbrev cX3_goodLength : ByteArray := prog_5_method_3_code
def yX3_goodLength : MethodName := ⟨RX3, "goodLength", "()I"⟩
abbrev cX3_isRow : ByteArray := prog_5_method_4_code
def yX3_isRow : MethodName := ⟨RX3, "isRow", "()Z"⟩
abbrev cX3_readRow : ByteArray := prog_5_method_5_code
def yX3_readRow : MethodName := ⟨RX3, "readRow", "()V"⟩
abbrev cX3_takePoint : ByteArray := prog_5_method_6_code
def yX3_takePoint : MethodName := ⟨RX3, "takePoint", "(II)V"⟩
abbrev cX3_placeAfter : ByteArray := prog_5_method_7_code
def yX3_placeAfter : MethodName := ⟨RX3, "placeAfter", "(II)I"⟩
abbrev cX3_placeAfterFirstDigit : ByteArray := prog_5_method_8_code
def yX3_placeAfterFirstDigit : MethodName := ⟨RX3, "placeAfterFirstDigit", "(III)I"⟩
abbrev cX3_isDigit : ByteArray := prog_5_method_9_code
def yX3_isDigit : MethodName := ⟨RX3, "isDigit", "(I)Z"⟩
def RX4 : String := "OathDiary$Thinner"
def TX4 : u_T := fun k => match k with
  | 0 => ("OathDiary$Thinner", "state", "LOathDiary$State;", true)
  | 1 => ("OathDiary$Thinner", "lines", "LOathDiary$Lines;", true)
  | 2 => ("OathDiary$Thinner", "chosen", "[I", true)
  | 3 => ("OathDiary$Thinner", "fewest", "[I", true)
  | 4 => ("OathDiary$Thinner", "needs", "[I", true)
  | _ => ("OathDiary$Thinner", "fresh", "Z", false)
def tyX4 : Nat → FieldType := fun k => match k with
  | 0 => .object "OathDiary$State"
  | 1 => .object "OathDiary$Lines"
  | 2 => .array .int
  | 3 => .array .int
  | 4 => .array .int
  | _ => .boolean
abbrev wsX40 : List Cond := u_ws RX4 TX4 6
theorem nmX4 : ∀ a, a < 6 → ∀ b, b < 6 → a ≠ b → (TX4 a).2.1 ≠ (TX4 b).2.1 := by decide +kernel
theorem tyX4_ok : ∀ k, k < 6 → parseFieldDescriptor (TX4 k).2.2.1 = some (tyX4 k) := by decide +kernel
abbrev cX4_init : ByteArray := prog_6_method_1_code
def yX4_init : MethodName := ⟨RX4, "<init>", "(LOathDiary$State;LOathDiary$Lines;)V"⟩
abbrev cX4_forget : ByteArray := prog_6_method_2_code
def yX4_forget : MethodName := ⟨RX4, "forget", "()V"⟩
abbrev cX4_choose : ByteArray := prog_6_method_3_code
def yX4_choose : MethodName := ⟨RX4, "choose", "(I)I"⟩
abbrev cX4_fewestOf : ByteArray := prog_6_method_4_code
def yX4_fewestOf : MethodName := ⟨RX4, "fewestOf", "(I)I"⟩
abbrev cX4_leastOathFor : ByteArray := prog_6_method_5_code
def yX4_leastOathFor : MethodName := ⟨RX4, "leastOathFor", "(I)I"⟩
abbrev cX4_joinBehind : ByteArray := prog_6_method_6_code
def yX4_joinBehind : MethodName := ⟨RX4, "joinBehind", "(III)V"⟩
abbrev cX4_halveBehind : ByteArray := prog_6_method_7_code
def yX4_halveBehind : MethodName := ⟨RX4, "halveBehind", "(II)V"⟩
abbrev cX4_chosenBehind : ByteArray := prog_6_method_8_code
def yX4_chosenBehind : MethodName := ⟨RX4, "chosenBehind", "(I)I"⟩
abbrev cX4_cell : ByteArray := prog_6_method_9_code
def yX4_cell : MethodName := ⟨RX4, "cell", "(II)I"⟩
abbrev cX4_findFewest : ByteArray := prog_6_method_10_code
def yX4_findFewest : MethodName := ⟨RX4, "findFewest", "(I)I"⟩
abbrev cX4_fewestBehind : ByteArray := prog_6_method_11_code
def yX4_fewestBehind : MethodName := ⟨RX4, "fewestBehind", "(II)I"⟩
abbrev cX4_findNeeds : ByteArray := prog_6_method_12_code
def yX4_findNeeds : MethodName := ⟨RX4, "findNeeds", "()V"⟩
def RX5 : String := "OathDiary"
def TX5 : u_T := fun k => match k with
  | 0 => ("OathDiary", "now", "LOathDiary$State;", true)
  | 1 => ("OathDiary", "lines", "LOathDiary$Lines;", true)
  | 2 => ("OathDiary", "thinner", "LOathDiary$Thinner;", true)
  | 3 => ("OathDiary", "history", "LOathDiary$History;", true)
  | 4 => ("OathDiary", "text", "LOathDiary$Text;", true)
  | _ => ("OathDiary", "marked", "[I", true)
def tyX5 : Nat → FieldType := fun k => match k with
  | 0 => .object "OathDiary$State"
  | 1 => .object "OathDiary$Lines"
  | 2 => .object "OathDiary$Thinner"
  | 3 => .object "OathDiary$History"
  | 4 => .object "OathDiary$Text"
  | _ => .array .int
abbrev wsX50 : List Cond := u_ws RX5 TX5 6
theorem nmX5 : ∀ a, a < 6 → ∀ b, b < 6 → a ≠ b → (TX5 a).2.1 ≠ (TX5 b).2.1 := by decide +kernel
theorem tyX5_ok : ∀ k, k < 6 → parseFieldDescriptor (TX5 k).2.2.1 = some (tyX5 k) := by decide +kernel
abbrev cX5_init : ByteArray := prog_1_method_1_code
def yX5_init : MethodName := ⟨RX5, "<init>", "()V"⟩
abbrev cX5_add : ByteArray := prog_1_method_2_code
def yX5_add : MethodName := ⟨RX5, "add", "(II)I"⟩
abbrev cX5_correct : ByteArray := prog_1_method_3_code
def yX5_correct : MethodName := ⟨RX5, "correct", "(II)I"⟩
abbrev cX5_drop : ByteArray := prog_1_method_4_code
def yX5_drop : MethodName := ⟨RX5, "drop", "(I)I"⟩
abbrev cX5_keep : ByteArray := prog_1_method_5_code
def yX5_keep : MethodName := ⟨RX5, "keep", "(I)I"⟩
abbrev cX5_mend : ByteArray := prog_1_method_6_code
def yX5_mend : MethodName := ⟨RX5, "mend", "()I"⟩
abbrev cX5_thin : ByteArray := prog_1_method_7_code
def yX5_thin : MethodName := ⟨RX5, "thin", "(I)I"⟩
abbrev cX5_tear : ByteArray := prog_1_method_8_code
def yX5_tear : MethodName := ⟨RX5, "tear", "(I)I"⟩
abbrev cX5_set : ByteArray := prog_1_method_9_code
def yX5_set : MethodName := ⟨RX5, "set", "(II)I"⟩
abbrev cX5_note : ByteArray := prog_1_method_10_code
def yX5_note : MethodName := ⟨RX5, "note", "(II)I"⟩
abbrev cX5_strike : ByteArray := prog_1_method_11_code
def yX5_strike : MethodName := ⟨RX5, "strike", "()I"⟩
abbrev cX5_append : ByteArray := prog_1_method_12_code
def yX5_append : MethodName := ⟨RX5, "append", "(I)I"⟩
abbrev cX5_clearBuffer : ByteArray := prog_1_method_13_code
def yX5_clearBuffer : MethodName := ⟨RX5, "clearBuffer", "()I"⟩
abbrev cX5_firstError : ByteArray := prog_1_method_14_code
def yX5_firstError : MethodName := ⟨RX5, "firstError", "()I"⟩
abbrev cX5_addAll : ByteArray := prog_1_method_15_code
def yX5_addAll : MethodName := ⟨RX5, "addAll", "()I"⟩
abbrev cX5_undo : ByteArray := prog_1_method_16_code
def yX5_undo : MethodName := ⟨RX5, "undo", "()I"⟩
abbrev cX5_point : ByteArray := prog_1_method_17_code
def yX5_point : MethodName := ⟨RX5, "point", "(II)I"⟩
abbrev cX5_error : ByteArray := prog_1_method_18_code
def yX5_error : MethodName := ⟨RX5, "error", "(II)I"⟩
abbrev cX5_reading : ByteArray := prog_1_method_19_code
def yX5_reading : MethodName := ⟨RX5, "reading", "(II)I"⟩
abbrev cX5_stretch : ByteArray := prog_1_method_20_code
def yX5_stretch : MethodName := ⟨RX5, "stretch", "(II)I"⟩
abbrev cX5_noteAt : ByteArray := prog_1_method_21_code
def yX5_noteAt : MethodName := ⟨RX5, "noteAt", "(II)I"⟩
abbrev cX5_count : ByteArray := prog_1_method_22_code
def yX5_count : MethodName := ⟨RX5, "count", "(I)I"⟩
abbrev cX5_setting : ByteArray := prog_1_method_23_code
def yX5_setting : MethodName := ⟨RX5, "setting", "(I)I"⟩
abbrev cX5_area : ByteArray := prog_1_method_24_code
def yX5_area : MethodName := ⟨RX5, "area", "(Z)J"⟩
abbrev cX5_whyNot : ByteArray := prog_1_method_25_code
def yX5_whyNot : MethodName := ⟨RX5, "whyNot", "(I)I"⟩
abbrev cX5_join : ByteArray := prog_1_method_26_code
def yX5_join : MethodName := ⟨RX5, "join", "(II)I"⟩
abbrev cX5_ifThinned : ByteArray := prog_1_method_27_code
def yX5_ifThinned : MethodName := ⟨RX5, "ifThinned", "(I)I"⟩
abbrev cX5_leastOath : ByteArray := prog_1_method_28_code
def yX5_leastOath : MethodName := ⟨RX5, "leastOath", "(I)I"⟩
abbrev cX5_cheapest : ByteArray := prog_1_method_29_code
def yX5_cheapest : MethodName := ⟨RX5, "cheapest", "(I)I"⟩
abbrev cX5_droppedShare : ByteArray := prog_1_method_30_code
def yX5_droppedShare : MethodName := ⟨RX5, "droppedShare", "()D"⟩
abbrev cX5_digest : ByteArray := prog_1_method_31_code
def yX5_digest : MethodName := ⟨RX5, "digest", "()J"⟩
abbrev cX5_isTime : ByteArray := prog_1_method_32_code
def yX5_isTime : MethodName := ⟨RX5, "isTime", "(I)Z"⟩
abbrev cX5_isValue : ByteArray := prog_1_method_33_code
def yX5_isValue : MethodName := ⟨RX5, "isValue", "(I)Z"⟩
abbrev cX5_isSettingValue : ByteArray := prog_1_method_34_code
def yX5_isSettingValue : MethodName := ⟨RX5, "isSettingValue", "(II)Z"⟩
abbrev cX5_refuseOutside : ByteArray := prog_1_method_35_code
def yX5_refuseOutside : MethodName := ⟨RX5, "refuseOutside", "(II)V"⟩
abbrev cX5_refuseNoWay : ByteArray := prog_1_method_36_code
def yX5_refuseNoWay : MethodName := ⟨RX5, "refuseNoWay", "(I)V"⟩
abbrev cX5_refuseNoSetting : ByteArray := prog_1_method_37_code
def yX5_refuseNoSetting : MethodName := ⟨RX5, "refuseNoSetting", "(I)V"⟩
abbrev cX5_refuseNoPoint : ByteArray := prog_1_method_38_code
def yX5_refuseNoPoint : MethodName := ⟨RX5, "refuseNoPoint", "(I)V"⟩
abbrev cX5_refuseNoStretch : ByteArray := prog_1_method_39_code
def yX5_refuseNoStretch : MethodName := ⟨RX5, "refuseNoStretch", "(I)V"⟩
abbrev cX5_parsedTimesAreFree : ByteArray := prog_1_method_40_code
def yX5_parsedTimesAreFree : MethodName := ⟨RX5, "parsedTimesAreFree", "()Z"⟩
abbrev cX5_pointsChanged : ByteArray := prog_1_method_41_code
def yX5_pointsChanged : MethodName := ⟨RX5, "pointsChanged", "()V"⟩
abbrev cX5_keepBroken : ByteArray := prog_1_method_42_code
def yX5_keepBroken : MethodName := ⟨RX5, "keepBroken", "()I"⟩
abbrev cX5_brokenAmong : ByteArray := prog_1_method_43_code
def yX5_brokenAmong : MethodName := ⟨RX5, "brokenAmong", "(II)I"⟩
abbrev cX5_trueNotes : ByteArray := prog_1_method_44_code
def yX5_trueNotes : MethodName := ⟨RX5, "trueNotes", "()I"⟩
abbrev cX5_greatestError : ByteArray := prog_1_method_45_code
def yX5_greatestError : MethodName := ⟨RX5, "greatestError", "()I"⟩
abbrev cX5_longestStep : ByteArray := prog_1_method_46_code
def yX5_longestStep : MethodName := ⟨RX5, "longestStep", "()I"⟩
abbrev cX5_areaBetween : ByteArray := prog_1_method_47_code
def yX5_areaBetween : MethodName := ⟨RX5, "areaBetween", "(II)J"⟩
abbrev cX5_roundedUp : ByteArray := prog_1_method_48_code
def yX5_roundedUp : MethodName := ⟨RX5, "roundedUp", "(II)I"⟩
abbrev cX5_hashPoints : ByteArray := prog_1_method_49_code
def yX5_hashPoints : MethodName := ⟨RX5, "hashPoints", "(J)J"⟩
abbrev cX5_hashStretches : ByteArray := prog_1_method_50_code
def yX5_hashStretches : MethodName := ⟨RX5, "hashStretches", "(J)J"⟩
abbrev cX5_hashNotes : ByteArray := prog_1_method_51_code
def yX5_hashNotes : MethodName := ⟨RX5, "hashNotes", "(J)J"⟩
abbrev cX5_hashText : ByteArray := prog_1_method_52_code
def yX5_hashText : MethodName := ⟨RX5, "hashText", "(J)J"⟩
abbrev cX5_bitsOf : ByteArray := prog_1_method_53_code
def yX5_bitsOf : MethodName := ⟨RX5, "bitsOf", "(D)J"⟩
def RX6 : String := "OathDiaryModel"
def TX6 : u_T := fun k => match k with
  | 0 => ("OathDiaryModel", "q", "[I", true)
  | 1 => ("OathDiaryModel", "saved", "[I", true)
  | 2 => ("OathDiaryModel", "saves", "I", false)
  | 3 => ("OathDiaryModel", "text", "[I", true)
  | 4 => ("OathDiaryModel", "length", "I", false)
  | 5 => ("OathDiaryModel", "thrown", "I", false)
  | 6 => ("OathDiaryModel", "lows", "[I", true)
  | 7 => ("OathDiaryModel", "highs", "[I", true)
  | 8 => ("OathDiaryModel", "choice", "[I", true)
  | 9 => ("OathDiaryModel", "ahead", "I", false)
  | 10 => ("OathDiaryModel", "behind", "I", false)
  | 11 => ("OathDiaryModel", "top", "I", false)
  | 12 => ("OathDiaryModel", "bottom", "I", false)
  | 13 => ("OathDiaryModel", "fewest", "[I", true)
  | 14 => ("OathDiaryModel", "next", "[I", true)
  | 15 => ("OathDiaryModel", "times", "[I", true)
  | 16 => ("OathDiaryModel", "values", "[I", true)
  | 17 => ("OathDiaryModel", "points", "I", false)
  | 18 => ("OathDiaryModel", "isWhole", "Z", false)
  | 19 => ("OathDiaryModel", "place", "I", false)
  | _ => ("OathDiaryModel", "number", "I", false)
def tyX6 : Nat → FieldType := fun k => match k with
  | 0 => .array .int
  | 1 => .array .int
  | 2 => .int
  | 3 => .array .int
  | 4 => .int
  | 5 => .int
  | 6 => .array .int
  | 7 => .array .int
  | 8 => .array .int
  | 9 => .int
  | 10 => .int
  | 11 => .int
  | 12 => .int
  | 13 => .array .int
  | 14 => .array .int
  | 15 => .array .int
  | 16 => .array .int
  | 17 => .int
  | 18 => .boolean
  | 19 => .int
  | _ => .int
abbrev wsX60 : List Cond := u_ws RX6 TX6 21
theorem nmX6 : ∀ a, a < 21 → ∀ b, b < 21 → a ≠ b → (TX6 a).2.1 ≠ (TX6 b).2.1 := by decide +kernel
theorem tyX6_ok : ∀ k, k < 21 → parseFieldDescriptor (TX6 k).2.2.1 = some (tyX6 k) := by decide +kernel
abbrev cX6_init : ByteArray := prog_8_method_1_code
def yX6_init : MethodName := ⟨RX6, "<init>", "()V"⟩
abbrev cX6_thrown : ByteArray := prog_8_method_2_code
def yX6_thrown : MethodName := ⟨RX6, "thrown", "()I"⟩
abbrev cX6_in : ByteArray := prog_8_method_3_code
def yX6_in : MethodName := ⟨RX6, "in", "(III)Z"⟩
abbrev cX6_fails : ByteArray := prog_8_method_4_code
def yX6_fails : MethodName := ⟨RX6, "fails", "(I)I"⟩
abbrev cX6_size : ByteArray := prog_8_method_5_code
def yX6_size : MethodName := ⟨RX6, "size", "(I)I"⟩
abbrev cX6_common : ByteArray := prog_8_method_6_code
def yX6_common : MethodName := ⟨RX6, "common", "(II)I"⟩
abbrev cX6_save : ByteArray := prog_8_method_7_code
def yX6_save : MethodName := ⟨RX6, "save", "()V"⟩
abbrev cX6_isPoint : ByteArray := prog_8_method_8_code
def yX6_isPoint : MethodName := ⟨RX6, "isPoint", "(I)Z"⟩
abbrev cX6_time : ByteArray := prog_8_method_9_code
def yX6_time : MethodName := ⟨RX6, "time", "(I)I"⟩
abbrev cX6_value : ByteArray := prog_8_method_10_code
def yX6_value : MethodName := ⟨RX6, "value", "(I)I"⟩
abbrev cX6_isKept : ByteArray := prog_8_method_11_code
def yX6_isKept : MethodName := ⟨RX6, "isKept", "(I)Z"⟩
abbrev cX6_keptMany : ByteArray := prog_8_method_12_code
def yX6_keptMany : MethodName := ⟨RX6, "keptMany", "()I"⟩
abbrev cX6_isFirst : ByteArray := prog_8_method_13_code
def yX6_isFirst : MethodName := ⟨RX6, "isFirst", "(I)Z"⟩
abbrev cX6_stretchOf : ByteArray := prog_8_method_14_code
def yX6_stretchOf : MethodName := ⟨RX6, "stretchOf", "(I)I"⟩
abbrev cX6_stretches : ByteArray := prog_8_method_15_code
def yX6_stretches : MethodName := ⟨RX6, "stretches", "()I"⟩
abbrev cX6_firstOf : ByteArray := prog_8_method_16_code
def yX6_firstOf : MethodName := ⟨RX6, "firstOf", "(I)I"⟩
abbrev cX6_lastWith : ByteArray := prog_8_method_17_code
def yX6_lastWith : MethodName := ⟨RX6, "lastWith", "(I)I"⟩
abbrev cX6_above : ByteArray := prog_8_method_18_code
def yX6_above : MethodName := ⟨RX6, "above", "(III)I"⟩
abbrev cX6_below : ByteArray := prog_8_method_19_code
def yX6_below : MethodName := ⟨RX6, "below", "(II)I"⟩
abbrev cX6_off : ByteArray := prog_8_method_20_code
def yX6_off : MethodName := ⟨RX6, "off", "(IIII)I"⟩
abbrev cX6_withinMany : ByteArray := prog_8_method_21_code
def yX6_withinMany : MethodName := ⟨RX6, "withinMany", "(III)I"⟩
abbrev cX6_canJoin : ByteArray := prog_8_method_22_code
def yX6_canJoin : MethodName := ⟨RX6, "canJoin", "(III)Z"⟩
abbrev cX6_around : ByteArray := prog_8_method_23_code
def yX6_around : MethodName := ⟨RX6, "around", "(I)V"⟩
abbrev cX6_keptAt : ByteArray := prog_8_method_24_code
def yX6_keptAt : MethodName := ⟨RX6, "keptAt", "(I)I"⟩
abbrev cX6_read : ByteArray := prog_8_method_25_code
def yX6_read : MethodName := ⟨RX6, "read", "(I)V"⟩
abbrev cX6_farFrom : ByteArray := prog_8_method_26_code
def yX6_farFrom : MethodName := ⟨RX6, "farFrom", "(II)I"⟩
abbrev cX6_isTrue : ByteArray := prog_8_method_27_code
def yX6_isTrue : MethodName := ⟨RX6, "isTrue", "(II)Z"⟩
abbrev cX6_isBroken : ByteArray := prog_8_method_28_code
def yX6_isBroken : MethodName := ⟨RX6, "isBroken", "(I)Z"⟩
abbrev cX6_lowest : ByteArray := prog_8_method_29_code
def yX6_lowest : MethodName := ⟨RX6, "lowest", "(III)I"⟩
abbrev cX6_far : ByteArray := prog_8_method_30_code
def yX6_far : MethodName := ⟨RX6, "far", "(II)V"⟩
abbrev cX6_worst : ByteArray := prog_8_method_31_code
def yX6_worst : MethodName := ⟨RX6, "worst", "(II)I"⟩
abbrev cX6_halves : ByteArray := prog_8_method_32_code
def yX6_halves : MethodName := ⟨RX6, "halves", "(II)V"⟩
abbrev cX6_few : ByteArray := prog_8_method_33_code
def yX6_few : MethodName := ⟨RX6, "few", "(III)V"⟩
abbrev cX6_choose : ByteArray := prog_8_method_34_code
def yX6_choose : MethodName := ⟨RX6, "choose", "(I)I"⟩
abbrev cX6_fewestBy : ByteArray := prog_8_method_35_code
def yX6_fewestBy : MethodName := ⟨RX6, "fewestBy", "(I)I"⟩
abbrev cX6_hasTime : ByteArray := prog_8_method_36_code
def yX6_hasTime : MethodName := ⟨RX6, "hasTime", "(I)Z"⟩
abbrev cX6_adds : ByteArray := prog_8_method_37_code
def yX6_adds : MethodName := ⟨RX6, "adds", "(II)I"⟩
abbrev cX6_isEntry : ByteArray := prog_8_method_38_code
def yX6_isEntry : MethodName := ⟨RX6, "isEntry", "(II)Z"⟩
abbrev cX6_add : ByteArray := prog_8_method_39_code
def yX6_add : MethodName := ⟨RX6, "add", "(II)I"⟩
abbrev cX6_correct : ByteArray := prog_8_method_40_code
def yX6_correct : MethodName := ⟨RX6, "correct", "(II)I"⟩
abbrev cX6_neighbors : ByteArray := prog_8_method_41_code
def yX6_neighbors : MethodName := ⟨RX6, "neighbors", "(I)V"⟩
abbrev cX6_against : ByteArray := prog_8_method_42_code
def yX6_against : MethodName := ⟨RX6, "against", "(I)I"⟩
abbrev cX6_keeps : ByteArray := prog_8_method_43_code
def yX6_keeps : MethodName := ⟨RX6, "keeps", "(II)I"⟩
abbrev cX6_drop : ByteArray := prog_8_method_44_code
def yX6_drop : MethodName := ⟨RX6, "drop", "(I)I"⟩
abbrev cX6_keep : ByteArray := prog_8_method_45_code
def yX6_keep : MethodName := ⟨RX6, "keep", "(I)I"⟩
abbrev cX6_mend : ByteArray := prog_8_method_46_code
def yX6_mend : MethodName := ⟨RX6, "mend", "()I"⟩
abbrev cX6_thin : ByteArray := prog_8_method_47_code
def yX6_thin : MethodName := ⟨RX6, "thin", "(I)I"⟩
abbrev cX6_tear : ByteArray := prog_8_method_48_code
def yX6_tear : MethodName := ⟨RX6, "tear", "(I)I"⟩
abbrev cX6_set : ByteArray := prog_8_method_49_code
def yX6_set : MethodName := ⟨RX6, "set", "(II)I"⟩
abbrev cX6_note : ByteArray := prog_8_method_50_code
def yX6_note : MethodName := ⟨RX6, "note", "(II)I"⟩
abbrev cX6_isTrueNote : ByteArray := prog_8_method_51_code
def yX6_isTrueNote : MethodName := ⟨RX6, "isTrueNote", "(I)Z"⟩
abbrev cX6_strike : ByteArray := prog_8_method_52_code
def yX6_strike : MethodName := ⟨RX6, "strike", "()I"⟩
abbrev cX6_append : ByteArray := prog_8_method_53_code
def yX6_append : MethodName := ⟨RX6, "append", "(I)I"⟩
abbrev cX6_clearBuffer : ByteArray := prog_8_method_54_code
def yX6_clearBuffer : MethodName := ⟨RX6, "clearBuffer", "()I"⟩
abbrev cX6_readNumber : ByteArray := prog_8_method_55_code
def yX6_readNumber : MethodName := ⟨RX6, "readNumber", "(I)Z"⟩
abbrev cX6_sign : ByteArray := prog_8_method_56_code
def yX6_sign : MethodName := ⟨RX6, "sign", "(I)Z"⟩
abbrev cX6_readPoint : ByteArray := prog_8_method_57_code
def yX6_readPoint : MethodName := ⟨RX6, "readPoint", "()Z"⟩
abbrev cX6_reads : ByteArray := prog_8_method_58_code
def yX6_reads : MethodName := ⟨RX6, "reads", "()I"⟩
abbrev cX6_firstError : ByteArray := prog_8_method_59_code
def yX6_firstError : MethodName := ⟨RX6, "firstError", "()I"⟩
abbrev cX6_addAll : ByteArray := prog_8_method_60_code
def yX6_addAll : MethodName := ⟨RX6, "addAll", "()I"⟩
abbrev cX6_undo : ByteArray := prog_8_method_61_code
def yX6_undo : MethodName := ⟨RX6, "undo", "()I"⟩
abbrev cX6_orNone : ByteArray := prog_8_method_62_code
def yX6_orNone : MethodName := ⟨RX6, "orNone", "(I)I"⟩
abbrev cX6_aboutPoint : ByteArray := prog_8_method_63_code
def yX6_aboutPoint : MethodName := ⟨RX6, "aboutPoint", "(II)I"⟩
abbrev cX6_point : ByteArray := prog_8_method_64_code
def yX6_point : MethodName := ⟨RX6, "point", "(II)I"⟩
abbrev cX6_errorOf : ByteArray := prog_8_method_65_code
def yX6_errorOf : MethodName := ⟨RX6, "errorOf", "(II)I"⟩
abbrev cX6_error : ByteArray := prog_8_method_66_code
def yX6_error : MethodName := ⟨RX6, "error", "(II)I"⟩
abbrev cX6_reading : ByteArray := prog_8_method_67_code
def yX6_reading : MethodName := ⟨RX6, "reading", "(II)I"⟩
abbrev cX6_aboutStretch : ByteArray := prog_8_method_68_code
def yX6_aboutStretch : MethodName := ⟨RX6, "aboutStretch", "(II)I"⟩
abbrev cX6_stretch : ByteArray := prog_8_method_69_code
def yX6_stretch : MethodName := ⟨RX6, "stretch", "(II)I"⟩
abbrev cX6_aboutNote : ByteArray := prog_8_method_70_code
def yX6_aboutNote : MethodName := ⟨RX6, "aboutNote", "(II)I"⟩
abbrev cX6_noteAt : ByteArray := prog_8_method_71_code
def yX6_noteAt : MethodName := ⟨RX6, "noteAt", "(II)I"⟩
abbrev cX6_brokenMany : ByteArray := prog_8_method_72_code
def yX6_brokenMany : MethodName := ⟨RX6, "brokenMany", "()I"⟩
abbrev cX6_trueMany : ByteArray := prog_8_method_73_code
def yX6_trueMany : MethodName := ⟨RX6, "trueMany", "()I"⟩
abbrev cX6_greatestError : ByteArray := prog_8_method_74_code
def yX6_greatestError : MethodName := ⟨RX6, "greatestError", "()I"⟩
abbrev cX6_greatestStep : ByteArray := prog_8_method_75_code
def yX6_greatestStep : MethodName := ⟨RX6, "greatestStep", "()I"⟩
abbrev cX6_number : ByteArray := prog_8_method_76_code
def yX6_number : MethodName := ⟨RX6, "number", "(I)I"⟩
abbrev cX6_count : ByteArray := prog_8_method_77_code
def yX6_count : MethodName := ⟨RX6, "count", "(I)I"⟩
abbrev cX6_setting : ByteArray := prog_8_method_78_code
def yX6_setting : MethodName := ⟨RX6, "setting", "(I)I"⟩
abbrev cX6_area : ByteArray := prog_8_method_79_code
def yX6_area : MethodName := ⟨RX6, "area", "(Z)J"⟩
abbrev cX6_whyNot : ByteArray := prog_8_method_80_code
def yX6_whyNot : MethodName := ⟨RX6, "whyNot", "(I)I"⟩
abbrev cX6_join : ByteArray := prog_8_method_81_code
def yX6_join : MethodName := ⟨RX6, "join", "(II)I"⟩
abbrev cX6_ifThinned : ByteArray := prog_8_method_82_code
def yX6_ifThinned : MethodName := ⟨RX6, "ifThinned", "(I)I"⟩
abbrev cX6_oathFor : ByteArray := prog_8_method_83_code
def yX6_oathFor : MethodName := ⟨RX6, "oathFor", "(I)I"⟩
abbrev cX6_leastOath : ByteArray := prog_8_method_84_code
def yX6_leastOath : MethodName := ⟨RX6, "leastOath", "(I)I"⟩
abbrev cX6_missedLeast : ByteArray := prog_8_method_85_code
def yX6_missedLeast : MethodName := ⟨RX6, "missedLeast", "(I)I"⟩
abbrev cX6_cheapest : ByteArray := prog_8_method_86_code
def yX6_cheapest : MethodName := ⟨RX6, "cheapest", "(I)I"⟩
abbrev cX6_share : ByteArray := prog_8_method_87_code
def yX6_share : MethodName := ⟨RX6, "share", "()D"⟩
abbrev cX6_droppedShare : ByteArray := prog_8_method_88_code
def yX6_droppedShare : MethodName := ⟨RX6, "droppedShare", "()D"⟩
abbrev cX6_digest : ByteArray := prog_8_method_89_code
def yX6_digest : MethodName := ⟨RX6, "digest", "()J"⟩
def RJxe99ae : String := "java/lang/Double"
def TJxe99ae : u_T := fun k => match k with
  | _ => ("", "", "", false)
def tyJxe99ae : Nat → FieldType := fun k => match k with
  | _ => .int
abbrev wsJxe99ae0 : List Cond := u_ws RJxe99ae TJxe99ae 0
theorem nmJxe99ae : ∀ a, a < 0 → ∀ b, b < 0 → a ≠ b → (TJxe99ae a).2.1 ≠ (TJxe99ae b).2.1 := by decide +kernel
theorem tyJxe99ae_ok : ∀ k, k < 0 → parseFieldDescriptor (TJxe99ae k).2.2.1 = some (tyJxe99ae k) := by decide +kernel
abbrev cJxe99ae_isNaN_b9ae7 : ByteArray := prog_9_method_6_code
def yJxe99ae_isNaN_b9ae7 : MethodName := ⟨RJxe99ae, "isNaN", "(D)Z"⟩
abbrev cJxe99ae_doubleToLongBits_ccdee : ByteArray := prog_9_method_23_code
def yJxe99ae_doubleToLongBits_ccdee : MethodName := ⟨RJxe99ae, "doubleToLongBits", "(D)J"⟩
def RJ9 : String := "java/lang/Math"
def TJ9 : u_T := fun k => match k with
  | _ => ("", "", "", false)
def tyJ9 : Nat → FieldType := fun k => match k with
  | _ => .int
abbrev wsJ90 : List Cond := u_ws RJ9 TJ9 0
theorem nmJ9 : ∀ a, a < 0 → ∀ b, b < 0 → a ≠ b → (TJ9 a).2.1 ≠ (TJ9 b).2.1 := by decide +kernel
theorem tyJ9_ok : ∀ k, k < 0 → parseFieldDescriptor (TJ9 k).2.2.1 = some (tyJ9 k) := by decide +kernel
abbrev cJ9_floorMod_7cf53 : ByteArray := prog_14_method_50_code
def yJ9_floorMod_7cf53 : MethodName := ⟨RJ9, "floorMod", "(II)I"⟩
abbrev cJ9_abs_0f7a4 : ByteArray := prog_14_method_59_code
def yJ9_abs_0f7a4 : MethodName := ⟨RJ9, "abs", "(I)I"⟩
abbrev cJ9_max_7cf53 : ByteArray := prog_14_method_65_code
def yJ9_max_7cf53 : MethodName := ⟨RJ9, "max", "(II)I"⟩
abbrev cJ9_min_7cf53 : ByteArray := prog_14_method_69_code
def yJ9_min_7cf53 : MethodName := ⟨RJ9, "min", "(II)I"⟩
def RJ0 : String := "java/lang/String"
def TJ0 : u_T := fun k => match k with
  | _ => ("", "", "", false)
def tyJ0 : Nat → FieldType := fun k => match k with
  | _ => .int
abbrev wsJ00 : List Cond := u_ws RJ0 TJ0 0
theorem nmJ0 : ∀ a, a < 0 → ∀ b, b < 0 → a ≠ b → (TJ0 a).2.1 ≠ (TJ0 b).2.1 := by decide +kernel
theorem tyJ0_ok : ∀ k, k < 0 → parseFieldDescriptor (TJ0 k).2.2.1 = some (tyJ0 k) := by decide +kernel
def RJ10 : String := "java/lang/System"
def TJ10 : u_T := fun k => match k with
  | _ => ("", "", "", false)
def tyJ10 : Nat → FieldType := fun k => match k with
  | _ => .int
abbrev wsJ100 : List Cond := u_ws RJ10 TJ10 0
theorem nmJ10 : ∀ a, a < 0 → ∀ b, b < 0 → a ≠ b → (TJ10 a).2.1 ≠ (TJ10 b).2.1 := by decide +kernel
theorem tyJ10_ok : ∀ k, k < 0 → parseFieldDescriptor (TJ10 k).2.2.1 = some (tyJ10 k) := by decide +kernel
def RL : String := "OathDiaryLaw"
abbrev cL_add : ByteArray := method_3_code
def yL_add : MethodName := ⟨RL, "add", "(LOathDiary;II[J)I"⟩
abbrev cL_correct : ByteArray := method_4_code
def yL_correct : MethodName := ⟨RL, "correct", "(LOathDiary;II[J)I"⟩
abbrev cL_drop : ByteArray := method_5_code
def yL_drop : MethodName := ⟨RL, "drop", "(LOathDiary;I[J)I"⟩
abbrev cL_keep : ByteArray := method_6_code
def yL_keep : MethodName := ⟨RL, "keep", "(LOathDiary;I[J)I"⟩
abbrev cL_thin : ByteArray := method_7_code
def yL_thin : MethodName := ⟨RL, "thin", "(LOathDiary;I[J)I"⟩
abbrev cL_tear : ByteArray := method_8_code
def yL_tear : MethodName := ⟨RL, "tear", "(LOathDiary;I[J)I"⟩
abbrev cL_set : ByteArray := method_9_code
def yL_set : MethodName := ⟨RL, "set", "(LOathDiary;II[J)I"⟩
abbrev cL_note : ByteArray := method_10_code
def yL_note : MethodName := ⟨RL, "note", "(LOathDiary;II[J)I"⟩
abbrev cL_append : ByteArray := method_11_code
def yL_append : MethodName := ⟨RL, "append", "(LOathDiary;I[J)I"⟩
abbrev cL_addAll : ByteArray := method_12_code
def yL_addAll : MethodName := ⟨RL, "addAll", "(LOathDiary;[J)I"⟩
abbrev cL_undo : ByteArray := method_13_code
def yL_undo : MethodName := ⟨RL, "undo", "(LOathDiary;[J)I"⟩
abbrev cL_point : ByteArray := method_14_code
def yL_point : MethodName := ⟨RL, "point", "(LOathDiary;II[J)I"⟩
abbrev cL_error : ByteArray := method_15_code
def yL_error : MethodName := ⟨RL, "error", "(LOathDiary;II[J)I"⟩
abbrev cL_reading : ByteArray := method_16_code
def yL_reading : MethodName := ⟨RL, "reading", "(LOathDiary;II[J)I"⟩
abbrev cL_stretch : ByteArray := method_17_code
def yL_stretch : MethodName := ⟨RL, "stretch", "(LOathDiary;II[J)I"⟩
abbrev cL_noteAt : ByteArray := method_18_code
def yL_noteAt : MethodName := ⟨RL, "noteAt", "(LOathDiary;II[J)I"⟩
abbrev cL_count : ByteArray := method_19_code
def yL_count : MethodName := ⟨RL, "count", "(LOathDiary;I[J)I"⟩
abbrev cL_setting : ByteArray := method_20_code
def yL_setting : MethodName := ⟨RL, "setting", "(LOathDiary;I[J)I"⟩
abbrev cL_whyNot : ByteArray := method_21_code
def yL_whyNot : MethodName := ⟨RL, "whyNot", "(LOathDiary;I[J)I"⟩
abbrev cL_join : ByteArray := method_22_code
def yL_join : MethodName := ⟨RL, "join", "(LOathDiary;II[J)I"⟩
abbrev cL_ifThinned : ByteArray := method_23_code
def yL_ifThinned : MethodName := ⟨RL, "ifThinned", "(LOathDiary;I[J)I"⟩
abbrev cL_leastOath : ByteArray := method_24_code
def yL_leastOath : MethodName := ⟨RL, "leastOath", "(LOathDiary;I[J)I"⟩
abbrev cL_cheapest : ByteArray := method_25_code
def yL_cheapest : MethodName := ⟨RL, "cheapest", "(LOathDiary;I[J)I"⟩
abbrev cL_law : ByteArray := code
def yL_law : MethodName := ⟨RL, "law", "([I)Z"⟩
end
section
/-! The small machine: whole numbers are numbers (Int), a reference is the place of its cell in one fixed layout, a memory says what number stands in which slot of which cell. -/
abbrev am_V : Type := Int ⊕ (Option Nat ⊕ (Int ⊕ UInt64))
abbrev am_M : Type := Nat → Int → Int
abbrev am_L : Type := List (Nat × am_V)
/-- a cell of the layout: an int array of a length, a long array, an array of references (all known), an object (its class, for each slot the reference that always stands there, or none for a number) -/
abbrev am_E : Type := (Nat ⊕ Nat) ⊕ (List Nat ⊕ (Nat × List (Option Nat)))
abbrev am_C : Type := Nat × Nat × am_L × List am_V × am_M
abbrev am_Q : Type := Option am_V → am_M → Prop
abbrev am_X : Type := Nat → am_M → Prop
def am_rg (x : Int) : Prop := -2147483648 ≤ x ∧ x ≤ 2147483647
def am_rl (x : Int) : Prop := -9223372036854775808 ≤ x ∧ x ≤ 9223372036854775807
def am_cat (v : am_V) : Nat := match v with
  | .inl _ => 1
  | .inr (.inl _) => 1
  | .inr (.inr _) => 2
def am_al {α : Type} (k : Nat) : List (Nat × α) → Option α
  | [] => none
  | q :: r => match Nat.beq q.1 k with
    | true => some q.2
    | false => am_al k r
def am_kl (i : Nat) (lv : am_L) : am_L := lv.filter (fun q => !(q.1 == i) && !(q.1 + 1 == i && am_cat q.2 == 2))
def am_kl2 (i : Nat) (lv : am_L) : am_L := lv.filter (fun q => !(q.1 == i) && (!(q.1 == i + 1) && !(q.1 + 1 == i && am_cat q.2 == 2)))
def am_st (nL i : Nat) (v : am_V) (lv : am_L) : Option am_L := match Nat.blt i nL with
  | true => some ((i, v) :: am_kl i lv)
  | false => none
def am_st2 (nL i : Nat) (v : am_V) (lv : am_L) : Option am_L := match Nat.blt (i + 1) nL with
  | true => some ((i, v) :: am_kl2 i lv)
  | false => none
def am_up (M : am_M) (k : Nat) (j x : Int) : am_M := fun k' j' => if k' = k ∧ j' = j then x else M k' j'
/-- the first n numbers of one row into another -/
def am_cp (M : am_M) (k0 k1 : Nat) (n : Int) : am_M := fun k j => if k = k1 ∧ 0 ≤ j ∧ j < n then M k0 j else M k j
def am_tg (pc : Nat) (off : Int) : Option Nat := match (pc : Int) + off with
  | .ofNat t => some t
  | .negSucc _ => none
def am_ldi (i : Nat) (lv : am_L) : Option Int := match am_al i lv with
  | some (.inl x) => some x
  | _ => none
def am_lda (i : Nat) (lv : am_L) : Option (Option Nat) := match am_al i lv with
  | some (.inr (.inl r)) => some r
  | _ => none
def am_ldl (i : Nat) (lv : am_L) : Option Int := match am_al i lv with
  | some (.inr (.inr (.inl x))) => some x
  | _ => none
def am_ldd (i : Nat) (lv : am_L) : Option UInt64 := match am_al i lv with
  | some (.inr (.inr (.inr x))) => some x
  | _ => none
abbrev am_R : Type := Option (List Prop × Nat × am_L × List am_V × am_M)
def am_lci (x y : Int) : Int := if y < x then 1 else if x = y then 0 else -1
def am_sti (nL i npc : Nat) (lv : am_L) (st : List am_V) (M : am_M) : am_R := match st with
  | .inl x :: r => (am_st nL i (.inl x) lv).map (fun lv' => ([], npc, lv', r, M))
  | _ => none
def am_sta (nL i npc : Nat) (lv : am_L) (st : List am_V) (M : am_M) : am_R := match st with
  | .inr (.inl x) :: r => (am_st nL i (.inr (.inl x)) lv).map (fun lv' => ([], npc, lv', r, M))
  | _ => none
def am_stl (nL i npc : Nat) (lv : am_L) (st : List am_V) (M : am_M) : am_R := match st with
  | .inr (.inr (.inl x)) :: r => (am_st2 nL i (.inr (.inr (.inl x))) lv).map (fun lv' => ([], npc, lv', r, M))
  | _ => none
def am_std (nL i npc : Nat) (lv : am_L) (st : List am_V) (M : am_M) : am_R := match st with
  | .inr (.inr (.inr x)) :: r => (am_st2 nL i (.inr (.inr (.inr x))) lv).map (fun lv' => ([], npc, lv', r, M))
  | _ => none
def am_guard (n : Nat) (f : Nat → Option (Instr × Nat)) (pc : Nat) : Option (Instr × Nat) := match Nat.blt pc n with
  | true => f pc
  | false => none
def am_lf (pc k : Nat) (i : Instr) (len : Nat) : Option (Instr × Nat) := match Nat.beq pc k with
  | true => some (i, len)
  | false => none
end
section
/-! The tables of this program, by a program of mine out of the printed texts. -/
abbrev tb_cl : List vw_C := [(RX0, TX0, 3), (RX1, TX1, 3), (RX2, TX2, 11), (RX3, TX3, 5), (RX4, TX4, 6), (RX5, TX5, 6), (RX6, TX6, 21)]
def tb_lay : List am_E := [(.inr (.inr (5, [some 1, some 9, some 10, some 14, some 64, some 68]))), (.inr (.inr (2, [some 2, some 3, some 4, some 5, some 6, some 7, some 8, none, none, none, none]))), (.inl (.inl 60)), (.inl (.inl 60)), (.inl (.inl 60)), (.inl (.inl 60)), (.inl (.inl 3)), (.inl (.inl 8)), (.inl (.inl 8)), (.inr (.inr (1, [some 1, none, none]))), (.inr (.inr (4, [some 1, some 9, some 11, some 12, some 13, none]))), (.inl (.inl 60)), (.inl (.inl 60)), (.inl (.inl 3600)), (.inr (.inr (0, [some 15, none, none]))), (.inr (.inl [16, 24, 32, 40, 48, 56])), (.inr (.inr (2, [some 17, some 18, some 19, some 20, some 21, some 22, some 23, none, none, none, none]))), (.inl (.inl 60)), (.inl (.inl 60)), (.inl (.inl 60)), (.inl (.inl 60)), (.inl (.inl 3)), (.inl (.inl 8)), (.inl (.inl 8)), (.inr (.inr (2, [some 25, some 26, some 27, some 28, some 29, some 30, some 31, none, none, none, none]))), (.inl (.inl 60)), (.inl (.inl 60)), (.inl (.inl 60)), (.inl (.inl 60)), (.inl (.inl 3)), (.inl (.inl 8)), (.inl (.inl 8)), (.inr (.inr (2, [some 33, some 34, some 35, some 36, some 37, some 38, some 39, none, none, none, none]))), (.inl (.inl 60)), (.inl (.inl 60)), (.inl (.inl 60)), (.inl (.inl 60)), (.inl (.inl 3)), (.inl (.inl 8)), (.inl (.inl 8)), (.inr (.inr (2, [some 41, some 42, some 43, some 44, some 45, some 46, some 47, none, none, none, none]))), (.inl (.inl 60)), (.inl (.inl 60)), (.inl (.inl 60)), (.inl (.inl 60)), (.inl (.inl 3)), (.inl (.inl 8)), (.inl (.inl 8)), (.inr (.inr (2, [some 49, some 50, some 51, some 52, some 53, some 54, some 55, none, none, none, none]))), (.inl (.inl 60)), (.inl (.inl 60)), (.inl (.inl 60)), (.inl (.inl 60)), (.inl (.inl 3)), (.inl (.inl 8)), (.inl (.inl 8)), (.inr (.inr (2, [some 57, some 58, some 59, some 60, some 61, some 62, some 63, none, none, none, none]))), (.inl (.inl 60)), (.inl (.inl 60)), (.inl (.inl 60)), (.inl (.inl 60)), (.inl (.inl 3)), (.inl (.inl 8)), (.inl (.inl 8)), (.inr (.inr (3, [some 65, none, some 66, some 67, none]))), (.inl (.inl 60)), (.inl (.inl 60)), (.inl (.inl 60)), (.inl (.inl 60)), (.inr (.inr (6, [some 70, some 71, none, some 72, none, none, some 73, some 74, some 75, none, none, none, none, some 76, some 77, some 78, some 79, none, none, none, none]))), (.inl (.inl 203)), (.inl (.inl 1218)), (.inl (.inl 60)), (.inl (.inl 3)), (.inl (.inl 3)), (.inl (.inl 60)), (.inl (.inl 60)), (.inl (.inl 60)), (.inl (.inl 60)), (.inl (.inl 60)), (.inl (.inr 1))]
def tb_cn (o : Nat) : String := match o with
  | 0 => RX0
  | 1 => RX1
  | 2 => RX2
  | 3 => RX3
  | 4 => RX4
  | 5 => RX5
  | 6 => RX6
  | 7 => RJ9
  | 8 => RJxe99ae
  | _ => RL
def tb_flL : List (Nat × List (Nat × (Nat × Nat × Nat × Nat))) := [(0, [(11, (0, 0, 2, 218)), (18, (0, 2, 0, 220)), (22, (0, 1, 0, 219))]), (1, [(9, (1, 0, 2, 169)), (15, (1, 1, 0, 170)), (19, (1, 2, 0, 173)), (29, (2, 0, 2, 108)), (33, (2, 1, 2, 111)), (49, (2, 4, 2, 120)), (85, (2, 8, 0, 133)), (88, (2, 5, 2, 123)), (94, (2, 6, 2, 126)), (97, (2, 7, 0, 131))]), (2, [(9, (2, 0, 2, 107)), (15, (2, 1, 2, 110)), (18, (2, 2, 2, 113)), (21, (2, 3, 2, 115)), (24, (2, 4, 2, 118)), (27, (2, 5, 2, 122)), (30, (2, 6, 2, 125)), (39, (2, 7, 0, 129)), (43, (2, 8, 0, 132)), (46, (2, 9, 0, 135)), (49, (2, 10, 0, 137))]), (3, [(9, (3, 0, 2, 235)), (15, (3, 2, 2, 239)), (18, (3, 3, 2, 241)), (21, (3, 1, 0, 237)), (29, (3, 4, 0, 243))]), (4, [(9, (4, 2, 2, 191)), (15, (4, 3, 2, 193)), (18, (4, 4, 2, 194)), (21, (4, 0, 2, 189)), (25, (4, 1, 2, 190)), (29, (4, 5, 1, 195)), (36, (2, 4, 2, 119)), (45, (2, 7, 0, 130)), (95, (2, 3, 2, 116)), (98, (1, 1, 0, 171)), (101, (1, 2, 0, 174))]), (5, [(10, (5, 0, 2, 256)), (21, (5, 1, 2, 257)), (30, (5, 2, 2, 258)), (37, (5, 3, 2, 259)), (44, (5, 4, 2, 260)), (48, (5, 5, 2, 261)), (66, (2, 7, 0, 128)), (94, (2, 1, 2, 112)), (103, (2, 2, 2, 114)), (124, (4, 2, 2, 192)), (127, (2, 9, 0, 136)), (143, (2, 10, 0, 138)), (153, (2, 4, 2, 121)), (156, (2, 8, 0, 134)), (161, (2, 5, 2, 124)), (164, (2, 6, 2, 127)), (172, (3, 1, 0, 238)), (192, (3, 4, 0, 244)), (200, (3, 2, 2, 240)), (203, (3, 3, 2, 242)), (204, (0, 2, 0, 221)), (215, (2, 0, 2, 109)), (219, (2, 3, 2, 117)), (232, (1, 1, 0, 172)), (235, (1, 2, 0, 175)), (372, (3, 0, 2, 236))]), (6, [(7, (6, 0, 2, 942)), (13, (6, 1, 2, 943)), (16, (6, 3, 2, 945)), (19, (6, 6, 2, 948)), (22, (6, 7, 2, 949)), (25, (6, 8, 2, 950)), (28, (6, 13, 2, 955)), (31, (6, 14, 2, 956)), (34, (6, 15, 2, 957)), (37, (6, 16, 2, 958)), (40, (6, 5, 0, 947)), (44, (6, 2, 0, 944)), (83, (6, 9, 0, 951)), (86, (6, 10, 0, 952)), (99, (6, 12, 0, 954)), (102, (6, 11, 0, 953)), (184, (6, 4, 0, 946)), (187, (6, 19, 0, 961)), (190, (6, 20, 0, 962)), (193, (6, 18, 1, 960)), (200, (6, 17, 0, 959))])]
def tb_ciL : List (Nat × List (Nat × (Int × Nat))) := [(1, [(28, (-1000000, 562))]), (2, [(60, (-1000000, 328))]), (4, [(70, (-1000000, 662))]), (5, [(231, (-1000000, 406))]), (6, [(213, (-1000000, 1242))])]
def tb_clL : List (Nat × List (Nat × (Int × Nat))) := [(5, [(294, (2381, 422)), (296, (31, 423)), (375, (1023, 690))]), (6, [(259, (2381, 1353)), (261, (31, 1354))]), (8, [(137, (9221120237041090560, 1365))])]
def tb_cdL : List (Nat × List (Nat × (UInt64 × Nat))) := [(5, [(377, (4611686018427387904, 691)), (379, (4841369599423283200, 692))])]
def tb_macL : List (Nat × List (Nat × (Nat × Nat))) := [(1, [(40, (0, 571)), (52, (2, 353))]), (2, [(33, (3, 294)), (69, (1, 325)), (75, (0, 341))]), (4, [(87, (0, 661))]), (5, [(352, (0, 522))]), (8, [(134, (4, 1362))])]
def tb_callL : List (Nat × List (Nat × (Nat × Nat × Bool × Nat))) := [(0, [(25, (2, 2, false, 283)), (29, (4, 2, false, 290)), (33, (3, 2, false, 287))]), (1, [(22, (12, 3, false, 348)), (36, (16, 1, false, 349)), (46, (47, 3, false, 567)), (56, (15, 4, false, 344)), (60, (8, 2, false, 309)), (64, (10, 2, false, 317)), (67, (13, 2, false, 333)), (70, (46, 3, false, 563)), (73, (21, 1, false, 374)), (76, (20, 2, false, 368)), (79, (11, 2, false, 372)), (82, (14, 2, false, 373)), (91, (19, 2, false, 364)), (100, (45, 2, false, 683)), (103, (22, 2, false, 378))]), (2, [(52, (9, 2, false, 313)), (56, (20, 2, false, 717)), (61, (81, 3, false, 738)), (65, (12, 3, false, 329)), (78, (11, 2, false, 321)), (81, (14, 2, false, 337))]), (3, [(25, (26, 2, false, 393)), (32, (100, 3, false, 848)), (36, (27, 3, false, 396)), (40, (28, 1, false, 399))]), (4, [(33, (56, 1, false, 605)), (41, (58, 2, false, 615)), (49, (60, 2, false, 624)), (53, (66, 2, false, 649)), (56, (67, 3, false, 653)), (60, (69, 4, false, 663)), (64, (52, 2, false, 628)), (67, (9, 2, false, 623)), (71, (12, 3, false, 609)), (75, (57, 2, false, 611)), (79, (68, 2, false, 657)), (82, (47, 3, false, 610)), (92, (59, 3, false, 619)), (104, (40, 2, true, 614))]), (5, [(52, (77, 1, false, 706)), (56, (78, 1, false, 709)), (70, (79, 2, false, 713)), (78, (1, 2, false, 279)), (81, (80, 3, false, 734)), (85, (82, 1, false, 742)), (88, (44, 2, false, 535)), (97, (45, 2, false, 558)), (106, (5, 1, false, 297)), (110, (8, 2, false, 407)), (115, (6, 1, false, 301)), (118, (64, 1, false, 642)), (121, (65, 2, false, 645)), (130, (51, 2, false, 584)), (133, (53, 2, false, 593)), (136, (52, 2, false, 589)), (139, (90, 3, false, 793)), (146, (92, 1, false, 804)), (149, (93, 2, false, 808)), (167, (18, 2, false, 360)), (177, (96, 2, false, 828)), (180, (25, 1, false, 389)), (183, (98, 1, false, 839)), (189, (99, 1, false, 844)), (195, (101, 1, false, 852)), (209, (103, 2, false, 865)), (212, (34, 2, false, 428)), (216, (7, 2, false, 305)), (222, (10, 2, false, 556)), (225, (13, 2, false, 557)), (228, (39, 2, false, 515)), (240, (19, 2, false, 885)), (243, (54, 2, false, 597)), (246, (35, 3, false, 499)), (249, (55, 2, false, 601)), (257, (36, 1, false, 503)), (260, (37, 1, false, 507)), (263, (38, 1, false, 511)), (266, (41, 1, false, 523)), (269, (30, 3, false, 408)), (275, (12, 3, false, 412)), (278, (108, 4, false, 920)), (282, (71, 2, false, 671)), (285, (73, 1, false, 679)), (288, (47, 3, false, 684)), (291, (40, 2, false, 519)), (298, (33, 2, false, 424)), (301, (42, 2, false, 527)), (305, (49, 2, false, 576)), (308, (61, 2, false, 629)), (311, (63, 2, false, 638)), (314, (70, 2, false, 667)), (317, (72, 2, false, 675)), (320, (29, 2, false, 685)), (324, (31, 1, false, 686)), (328, (74, 1, false, 687)), (332, (75, 2, false, 693)), (339, (9, 2, false, 539)), (346, (83, 1, false, 746)), (349, (84, 1, false, 750)), (357, (16, 1, false, 413)), (360, (43, 3, false, 531)), (363, (48, 3, false, 572)), (366, (50, 3, false, 580)), (369, (62, 3, false, 633))]), (6, [(47, (112, 3, false, 1017)), (51, (115, 2, false, 1028)), (55, (127, 2, false, 1076)), (59, (126, 2, false, 1072)), (62, (120, 2, false, 1048)), (65, (131, 3, false, 1092)), (69, (132, 4, false, 1096)), (73, (133, 1, false, 1100)), (76, (130, 5, false, 1088)), (80, (129, 4, false, 1084)), (89, (123, 2, false, 1060)), (92, (142, 2, false, 1135)), (95, (125, 2, false, 1068)), (105, (141, 2, false, 1131)), (108, (140, 3, false, 1127)), (111, (139, 3, false, 1123)), (115, (172, 2, false, 1254)), (118, (128, 4, false, 1080)), (121, (148, 3, false, 1159)), (124, (145, 2, false, 1147)), (127, (146, 3, false, 1151)), (131, (147, 3, false, 1155)), (134, (149, 4, false, 1163)), (138, (111, 2, false, 1014)), (141, (113, 2, false, 1020)), (144, (114, 2, false, 1024)), (147, (116, 1, false, 1032)), (150, (117, 3, false, 1036)), (153, (119, 2, false, 1044)), (156, (124, 2, false, 1064)), (159, (135, 1, false, 1107)), (163, (122, 2, false, 1056)), (166, (134, 3, false, 1103)), (169, (138, 2, false, 1119)), (172, (144, 2, false, 1143)), (175, (151, 1, false, 1171)), (178, (152, 2, false, 1175)), (181, (156, 2, false, 1191)), (197, (162, 2, false, 1215)), (203, (163, 2, false, 1219)), (206, (161, 1, false, 1211)), (210, (160, 1, false, 1207)), (214, (168, 1, false, 1239)), (217, (167, 3, false, 1235)), (220, (171, 3, false, 1251)), (223, (170, 3, false, 1247)), (226, (175, 3, false, 1265)), (229, (177, 3, false, 1273)), (232, (180, 1, false, 1285)), (235, (181, 1, false, 1289)), (238, (182, 1, false, 1293)), (241, (183, 1, false, 1297)), (244, (179, 2, false, 1281)), (246, (191, 2, false, 1329)), (249, (190, 2, false, 1325)), (252, (193, 2, false, 1337)), (255, (195, 1, false, 1345)), (263, (185, 2, false, 1355)), (267, (197, 1, false, 1356))]), (8, [(122, (198, 1, false, 1359))]), (9, [(7, (76, 3, false, 702)), (17, (85, 3, false, 758)), (22, (86, 2, false, 766)), (26, (87, 2, false, 774)), (29, (88, 2, false, 782)), (32, (89, 2, false, 789)), (35, (91, 3, false, 800)), (38, (94, 3, false, 814)), (41, (95, 2, false, 822)), (44, (97, 1, false, 835)), (48, (102, 1, false, 860)), (51, (43, 3, false, 872)), (54, (48, 3, false, 876)), (57, (104, 3, false, 880)), (60, (50, 3, false, 889)), (63, (62, 3, false, 893)), (66, (33, 2, false, 897)), (69, (105, 2, false, 901)), (72, (106, 2, false, 908)), (75, (107, 3, false, 915)), (78, (63, 2, false, 927)), (81, (70, 2, false, 931)), (84, (72, 2, false, 935)), (91, (199, 4, false, 697)), (96, (110, 3, false, 1010)), (97, (109, 1, false, 1006)), (100, (200, 4, false, 754)), (102, (118, 3, false, 1040)), (103, (201, 3, false, 763)), (106, (121, 2, false, 1052)), (107, (202, 3, false, 771)), (109, (136, 2, false, 1111)), (110, (0, 1, false, 275)), (113, (137, 1, false, 1115)), (114, (203, 3, false, 779)), (116, (143, 2, false, 1139)), (117, (204, 3, false, 786)), (119, (150, 2, false, 1167)), (120, (205, 4, false, 797)), (122, (153, 3, false, 1179)), (123, (206, 4, false, 811)), (125, (154, 3, false, 1183)), (126, (17, 1, false, 356)), (129, (155, 1, false, 1187)), (130, (207, 3, false, 819)), (132, (157, 2, false, 1195)), (133, (23, 1, false, 381)), (136, (158, 1, false, 1199)), (137, (24, 1, false, 385)), (140, (159, 1, false, 1203)), (141, (208, 2, false, 832)), (144, (164, 1, false, 1223)), (145, (209, 2, false, 857)), (147, (165, 1, false, 1227)), (148, (210, 4, false, 869)), (150, (166, 3, false, 1231)), (151, (211, 4, false, 873)), (153, (169, 3, false, 1243)), (154, (212, 4, false, 877)), (156, (173, 3, false, 1257)), (157, (213, 4, false, 886)), (159, (174, 3, false, 1261)), (160, (214, 4, false, 890)), (162, (176, 3, false, 1269)), (163, (215, 3, false, 894)), (165, (178, 2, false, 1277)), (166, (216, 3, false, 898)), (168, (184, 2, false, 1301)), (169, (29, 2, false, 402)), (173, (185, 2, false, 1305)), (174, (217, 3, false, 905)), (176, (186, 2, false, 1309)), (177, (218, 4, false, 912)), (179, (187, 3, false, 1313)), (180, (219, 3, false, 924)), (182, (188, 2, false, 1317)), (183, (220, 3, false, 928)), (185, (189, 2, false, 1321)), (186, (221, 3, false, 932)), (188, (192, 2, false, 1333)), (189, (31, 1, false, 414)), (193, (194, 1, false, 1341)), (194, (32, 1, false, 418)), (198, (196, 1, false, 1349))])]
def tb_thrL : List (Nat × List (Nat × (Nat × Nat))) := [(5, [(59, (0, 431)), (73, (1, 718)), (252, (2, 540))])]
def tb_thcL : List (Nat × List (Nat × Nat)) := [(5, [(63, 0), (77, 1), (256, 2)])]
def tb_strL : List (Nat × List (Nat × String)) := [(5, [(61, "time or value out of range"), (75, "no room, or the time is taken"), (92, "value out of range"), (101, "the point cannot be dropped"), (113, "the point is kept"), (159, "no room for a note"), (170, "code out of range"), (175, "the buffer is full"), (187, "the buffer is not a row of points"), (198, "no room, or a time is taken"), (207, "nothing is saved"), (238, "time out of range"), (254, "no such note"), (273, "the other point is not greater"), (335, "number out of range"), (337, "no such setting"), (342, "no such point"), (344, "no such stretch")])]
def tb_mA : List (Nat × (MethodName × ByteArray × Nat × Option FieldType × Nat × Bool × Nat)) := [(0, (yX5_mend, cX5_mend, 3, some .int, 5, false, 0)), (1, (yX0_remember, cX0_remember, 3, none, 0, false, 1)), (2, (yX0_rowAt, cX0_rowAt, 3, some (.object "OathDiary$State"), 0, false, 1)), (3, (yJ9_floorMod_7cf53, cJ9_floorMod_7cf53, 3, some .int, 7, true, 2)), (4, (yX2_copyFrom, cX2_copyFrom, 2, none, 2, false, 1)), (5, (yX2_keptPoints, cX2_keptPoints, 3, some .int, 2, false, 0)), (6, (yX5_keepBroken, cX5_keepBroken, 3, some .int, 5, false, 0)), (7, (yX1_isBroken, cX1_isBroken, 3, some .boolean, 1, false, 1)), (8, (yX2_isKept, cX2_isKept, 2, some .boolean, 2, false, 1)), (9, (yX2_hasPoint, cX2_hasPoint, 2, some .boolean, 2, false, 1)), (10, (yX2_earlierKept, cX2_earlierKept, 3, some .int, 2, false, 1)), (11, (yX2_keptBelow, cX2_keptBelow, 3, some .int, 2, false, 1)), (12, (yX2_sameStretch, cX2_sameStretch, 3, some .boolean, 2, false, 2)), (13, (yX2_laterKept, cX2_laterKept, 3, some .int, 2, false, 1)), (14, (yX2_keptFrom, cX2_keptFrom, 3, some .int, 2, false, 1)), (15, (yX1_findMiss, cX1_findMiss, 7, some .boolean, 1, false, 3)), (16, (yX2_isStep, cX2_isStep, 1, some .boolean, 2, false, 0)), (17, (yX5_strike, cX5_strike, 3, some .int, 5, false, 0)), (18, (yX1_isTrue, cX1_isTrue, 2, some .boolean, 1, false, 1)), (19, (yX1_findReading, cX1_findReading, 7, some .boolean, 1, false, 1)), (20, (yX2_placeOf, cX2_placeOf, 3, some .int, 2, false, 1)), (21, (yX1_shorten, cX1_shorten, 2, none, 1, false, 0)), (22, (yX1_commonDivisor, cX1_commonDivisor, 6, some .int, 1, true, 2)), (23, (yX5_clearBuffer, cX5_clearBuffer, 2, some .int, 5, false, 0)), (24, (yX5_firstError, cX5_firstError, 1, some .int, 5, false, 0)), (25, (yX3_goodLength, cX3_goodLength, 3, some .int, 3, false, 0)), (26, (yX3_placeAfter, cX3_placeAfter, 3, some .int, 3, true, 2)), (27, (yX3_placeAfterFirstDigit, cX3_placeAfterFirstDigit, 3, some .int, 3, true, 3)), (28, (yX3_isDigit, cX3_isDigit, 1, some .boolean, 3, true, 1)), (29, (yX5_area, cX5_area, 6, some .long, 5, false, 1)), (30, (yX5_areaBetween, cX5_areaBetween, 7, some .long, 5, false, 2)), (31, (yX5_droppedShare, cX5_droppedShare, 1, some .double, 5, false, 0)), (32, (yX5_digest, cX5_digest, 4, some .long, 5, false, 0)), (33, (yX5_count, cX5_count, 2, some .int, 5, false, 1)), (34, (yX5_refuseOutside, cX5_refuseOutside, 2, none, 5, true, 2)), (35, (yX5_brokenAmong, cX5_brokenAmong, 5, some .int, 5, false, 2)), (36, (yX2_stretchCount, cX2_stretchCount, 1, some .int, 2, false, 0)), (37, (yX5_trueNotes, cX5_trueNotes, 3, some .int, 5, false, 0)), (38, (yX5_greatestError, cX5_greatestError, 3, some .int, 5, false, 0)), (39, (yX1_findError, cX1_findError, 3, some .boolean, 1, false, 1)), (40, (yX5_roundedUp, cX5_roundedUp, 2, some .int, 5, true, 2)), (41, (yX5_longestStep, cX5_longestStep, 4, some .int, 5, false, 0)), (42, (yX5_hashPoints, cX5_hashPoints, 7, some .long, 5, false, 1)), (43, (yX5_point, cX5_point, 3, some .int, 5, false, 2)), (44, (yX5_refuseNoPoint, cX5_refuseNoPoint, 2, none, 5, false, 1)), (45, (yX1_reasonToKeep, cX1_reasonToKeep, 4, some .int, 1, false, 1)), (46, (yX1_canJoin, cX1_canJoin, 3, some .boolean, 1, false, 2)), (47, (yX1_findWorst, cX1_findWorst, 14, some .int, 1, false, 2)), (48, (yX5_error, cX5_error, 3, some .int, 5, false, 2)), (49, (yX5_hashStretches, cX5_hashStretches, 8, some .long, 5, false, 1)), (50, (yX5_stretch, cX5_stretch, 3, some .int, 5, false, 2)), (51, (yX5_refuseNoStretch, cX5_refuseNoStretch, 2, none, 5, false, 1)), (52, (yX2_firstOf, cX2_firstOf, 3, some .int, 2, false, 1)), (53, (yX2_sizeOf, cX2_sizeOf, 4, some .int, 2, false, 1)), (54, (yX2_keptOf, cX2_keptOf, 4, some .int, 2, false, 1)), (55, (yX4_fewestOf, cX4_fewestOf, 3, some .int, 4, false, 1)), (56, (yX4_findNeeds, cX4_findNeeds, 3, none, 4, false, 0)), (57, (yX4_cell, cX4_cell, 3, some .int, 4, true, 2)), (58, (yX4_findFewest, cX4_findFewest, 5, some .int, 4, false, 1)), (59, (yX4_fewestBehind, cX4_fewestBehind, 7, some .int, 4, false, 2)), (60, (yX2_beginsStretch, cX2_beginsStretch, 2, some .boolean, 2, false, 1)), (61, (yX5_hashNotes, cX5_hashNotes, 7, some .long, 5, false, 1)), (62, (yX5_noteAt, cX5_noteAt, 3, some .int, 5, false, 2)), (63, (yX5_ifThinned, cX5_ifThinned, 2, some .int, 5, false, 1)), (64, (yX5_refuseNoWay, cX5_refuseNoWay, 1, none, 5, true, 1)), (65, (yX4_choose, cX4_choose, 5, some .int, 4, false, 1)), (66, (yX2_endsStretch, cX2_endsStretch, 2, some .boolean, 2, false, 1)), (67, (yX4_halveBehind, cX4_halveBehind, 6, none, 4, false, 2)), (68, (yX4_chosenBehind, cX4_chosenBehind, 3, some .int, 4, false, 1)), (69, (yX4_joinBehind, cX4_joinBehind, 6, none, 4, false, 3)), (70, (yX5_leastOath, cX5_leastOath, 3, some .int, 5, false, 1)), (71, (yX4_leastOathFor, cX4_leastOathFor, 4, some .int, 4, false, 1)), (72, (yX5_cheapest, cX5_cheapest, 3, some .int, 5, false, 1)), (73, (yX1_leastMissed, cX1_leastMissed, 11, some .int, 1, false, 0)), (74, (yX5_bitsOf, cX5_bitsOf, 7, some .long, 5, true, 1)), (75, (yX5_hashText, cX5_hashText, 6, some .long, 5, false, 1)), (76, (yX5_add, cX5_add, 4, some .int, 5, false, 2)), (77, (yX5_isTime, cX5_isTime, 1, some .boolean, 5, true, 1)), (78, (yX5_isValue, cX5_isValue, 1, some .boolean, 5, true, 1)), (79, (yX2_hasTime, cX2_hasTime, 3, some .boolean, 2, false, 1)), (80, (yX2_insert, cX2_insert, 5, some .int, 2, false, 2)), (81, (yX2_copyPoint, cX2_copyPoint, 3, none, 2, false, 2)), (82, (yX5_pointsChanged, cX5_pointsChanged, 1, none, 5, false, 0)), (83, (yX2_numberStretches, cX2_numberStretches, 3, none, 2, false, 0)), (84, (yX4_forget, cX4_forget, 1, none, 4, false, 0)), (85, (yX5_correct, cX5_correct, 4, some .int, 5, false, 2)), (86, (yX5_drop, cX5_drop, 2, some .int, 5, false, 1)), (87, (yX5_keep, cX5_keep, 2, some .int, 5, false, 1)), (88, (yX5_thin, cX5_thin, 4, some .int, 5, false, 1)), (89, (yX5_tear, cX5_tear, 3, some .int, 5, false, 1)), (90, (yX2_removeRun, cX2_removeRun, 4, none, 2, false, 2)), (91, (yX5_set, cX5_set, 4, some .int, 5, false, 2)), (92, (yX5_refuseNoSetting, cX5_refuseNoSetting, 1, none, 5, true, 1)), (93, (yX5_isSettingValue, cX5_isSettingValue, 2, some .boolean, 5, true, 2)), (94, (yX5_note, cX5_note, 3, some .int, 5, false, 2)), (95, (yX5_append, cX5_append, 2, some .int, 5, false, 1)), (96, (yX3_push, cX3_push, 2, none, 3, false, 1)), (97, (yX5_addAll, cX5_addAll, 2, some .int, 5, false, 0)), (98, (yX3_isRow, cX3_isRow, 3, some .boolean, 3, false, 0)), (99, (yX3_readRow, cX3_readRow, 6, none, 3, false, 0)), (100, (yX3_takePoint, cX3_takePoint, 3, none, 3, false, 2)), (101, (yX5_parsedTimesAreFree, cX5_parsedTimesAreFree, 3, some .boolean, 5, false, 0)), (102, (yX5_undo, cX5_undo, 1, some .int, 5, false, 0)), (103, (yX0_restore, cX0_restore, 3, none, 0, false, 1)), (104, (yX5_reading, cX5_reading, 3, some .int, 5, false, 2)), (105, (yX5_setting, cX5_setting, 2, some .int, 5, false, 1)), (106, (yX5_whyNot, cX5_whyNot, 2, some .int, 5, false, 1)), (107, (yX5_join, cX5_join, 5, some .int, 5, false, 2)), (108, (yX1_isWithin, cX1_isWithin, 4, some .boolean, 1, false, 3)), (109, (yX6_thrown, cX6_thrown, 1, some .int, 6, false, 0)), (110, (yX6_add, cX6_add, 3, some .int, 6, false, 2)), (111, (yX6_isEntry, cX6_isEntry, 2, some .boolean, 6, true, 2)), (112, (yX6_in, cX6_in, 3, some .boolean, 6, true, 3)), (113, (yX6_fails, cX6_fails, 2, some .int, 6, false, 1)), (114, (yX6_hasTime, cX6_hasTime, 4, some .boolean, 6, false, 1)), (115, (yX6_time, cX6_time, 2, some .int, 6, false, 1)), (116, (yX6_save, cX6_save, 2, none, 6, false, 0)), (117, (yX6_adds, cX6_adds, 4, some .int, 6, false, 2)), (118, (yX6_correct, cX6_correct, 4, some .int, 6, false, 2)), (119, (yX6_isPoint, cX6_isPoint, 2, some .boolean, 6, false, 1)), (120, (yX6_value, cX6_value, 2, some .int, 6, false, 1)), (121, (yX6_drop, cX6_drop, 2, some .int, 6, false, 1)), (122, (yX6_against, cX6_against, 2, some .int, 6, false, 1)), (123, (yX6_isKept, cX6_isKept, 2, some .boolean, 6, false, 1)), (124, (yX6_neighbors, cX6_neighbors, 2, none, 6, false, 1)), (125, (yX6_around, cX6_around, 3, none, 6, false, 1)), (126, (yX6_stretchOf, cX6_stretchOf, 4, some .int, 6, false, 1)), (127, (yX6_isFirst, cX6_isFirst, 2, some .boolean, 6, false, 1)), (128, (yX6_canJoin, cX6_canJoin, 4, some .boolean, 6, false, 3)), (129, (yX6_withinMany, cX6_withinMany, 6, some .int, 6, false, 3)), (130, (yX6_off, cX6_off, 5, some .int, 6, false, 4)), (131, (yX6_below, cX6_below, 3, some .int, 6, false, 2)), (132, (yX6_above, cX6_above, 4, some .int, 6, false, 3)), (133, (yX6_size, cX6_size, 1, some .int, 6, true, 1)), (134, (yX6_keeps, cX6_keeps, 3, some .int, 6, false, 2)), (135, (yX6_keptMany, cX6_keptMany, 3, some .int, 6, false, 0)), (136, (yX6_keep, cX6_keep, 2, some .int, 6, false, 1)), (137, (yX6_mend, cX6_mend, 4, some .int, 6, false, 0)), (138, (yX6_isBroken, cX6_isBroken, 2, some .boolean, 6, false, 1)), (139, (yX6_isTrue, cX6_isTrue, 4, some .boolean, 6, false, 2)), (140, (yX6_farFrom, cX6_farFrom, 3, some .int, 6, false, 2)), (141, (yX6_read, cX6_read, 3, none, 6, false, 1)), (142, (yX6_keptAt, cX6_keptAt, 3, some .int, 6, false, 1)), (143, (yX6_thin, cX6_thin, 4, some .int, 6, false, 1)), (144, (yX6_choose, cX6_choose, 5, some .int, 6, false, 1)), (145, (yX6_lastWith, cX6_lastWith, 3, some .int, 6, false, 1)), (146, (yX6_far, cX6_far, 5, none, 6, false, 2)), (147, (yX6_halves, cX6_halves, 5, none, 6, false, 2)), (148, (yX6_worst, cX6_worst, 5, some .int, 6, false, 2)), (149, (yX6_few, cX6_few, 6, none, 6, false, 3)), (150, (yX6_tear, cX6_tear, 5, some .int, 6, false, 1)), (151, (yX6_stretches, cX6_stretches, 1, some .int, 6, false, 0)), (152, (yX6_firstOf, cX6_firstOf, 4, some .int, 6, false, 1)), (153, (yX6_set, cX6_set, 4, some .int, 6, false, 2)), (154, (yX6_note, cX6_note, 3, some .int, 6, false, 2)), (155, (yX6_strike, cX6_strike, 3, some .int, 6, false, 0)), (156, (yX6_isTrueNote, cX6_isTrueNote, 2, some .boolean, 6, false, 1)), (157, (yX6_append, cX6_append, 2, some .int, 6, false, 1)), (158, (yX6_clearBuffer, cX6_clearBuffer, 2, some .int, 6, false, 0)), (159, (yX6_firstError, cX6_firstError, 1, some .int, 6, false, 0)), (160, (yX6_reads, cX6_reads, 2, some .int, 6, false, 0)), (161, (yX6_readPoint, cX6_readPoint, 3, some .boolean, 6, false, 0)), (162, (yX6_readNumber, cX6_readNumber, 3, some .boolean, 6, false, 1)), (163, (yX6_sign, cX6_sign, 3, some .boolean, 6, false, 1)), (164, (yX6_addAll, cX6_addAll, 4, some .int, 6, false, 0)), (165, (yX6_undo, cX6_undo, 2, some .int, 6, false, 0)), (166, (yX6_point, cX6_point, 3, some .int, 6, false, 2)), (167, (yX6_aboutPoint, cX6_aboutPoint, 3, some .int, 6, false, 2)), (168, (yX6_orNone, cX6_orNone, 1, some .int, 6, true, 1)), (169, (yX6_error, cX6_error, 3, some .int, 6, false, 2)), (170, (yX6_errorOf, cX6_errorOf, 4, some .int, 6, false, 2)), (171, (yX6_lowest, cX6_lowest, 4, some .int, 6, true, 3)), (172, (yX6_common, cX6_common, 5, some .int, 6, true, 2)), (173, (yX6_reading, cX6_reading, 3, some .int, 6, false, 2)), (174, (yX6_stretch, cX6_stretch, 3, some .int, 6, false, 2)), (175, (yX6_aboutStretch, cX6_aboutStretch, 8, some .int, 6, false, 2)), (176, (yX6_noteAt, cX6_noteAt, 3, some .int, 6, false, 2)), (177, (yX6_aboutNote, cX6_aboutNote, 3, some .int, 6, false, 2)), (178, (yX6_count, cX6_count, 2, some .int, 6, false, 1)), (179, (yX6_number, cX6_number, 2, some .int, 6, false, 1)), (180, (yX6_brokenMany, cX6_brokenMany, 3, some .int, 6, false, 0)), (181, (yX6_trueMany, cX6_trueMany, 3, some .int, 6, false, 0)), (182, (yX6_greatestError, cX6_greatestError, 5, some .int, 6, false, 0)), (183, (yX6_greatestStep, cX6_greatestStep, 4, some .int, 6, false, 0)), (184, (yX6_setting, cX6_setting, 2, some .int, 6, false, 1)), (185, (yX6_area, cX6_area, 7, some .long, 6, false, 1)), (186, (yX6_whyNot, cX6_whyNot, 2, some .int, 6, false, 1)), (187, (yX6_join, cX6_join, 3, some .int, 6, false, 2)), (188, (yX6_ifThinned, cX6_ifThinned, 2, some .int, 6, false, 1)), (189, (yX6_leastOath, cX6_leastOath, 2, some .int, 6, false, 1)), (190, (yX6_oathFor, cX6_oathFor, 5, some .int, 6, false, 1)), (191, (yX6_fewestBy, cX6_fewestBy, 5, some .int, 6, false, 1)), (192, (yX6_cheapest, cX6_cheapest, 2, some .int, 6, false, 1)), (193, (yX6_missedLeast, cX6_missedLeast, 11, some .int, 6, false, 1)), (194, (yX6_droppedShare, cX6_droppedShare, 1, some .double, 6, false, 0)), (195, (yX6_share, cX6_share, 1, some .double, 6, false, 0)), (196, (yX6_digest, cX6_digest, 5, some .long, 6, false, 0)), (197, (yJxe99ae_doubleToLongBits_ccdee, cJxe99ae_doubleToLongBits_ccdee, 2, some .long, 8, true, 1)), (198, (yJxe99ae_isNaN_b9ae7, cJxe99ae_isNaN_b9ae7, 2, some .boolean, 8, true, 1))]
def tb_mW : List (Nat × (MethodName × ByteArray × Nat × Option FieldType × Nat × Bool × Nat)) := [(199, (yL_add, cL_add, 5, some .int, 9, true, 4)), (200, (yL_correct, cL_correct, 5, some .int, 9, true, 4)), (201, (yL_drop, cL_drop, 4, some .int, 9, true, 3)), (202, (yL_keep, cL_keep, 4, some .int, 9, true, 3)), (203, (yL_thin, cL_thin, 4, some .int, 9, true, 3)), (204, (yL_tear, cL_tear, 4, some .int, 9, true, 3)), (205, (yL_set, cL_set, 5, some .int, 9, true, 4)), (206, (yL_note, cL_note, 5, some .int, 9, true, 4)), (207, (yL_append, cL_append, 4, some .int, 9, true, 3)), (208, (yL_addAll, cL_addAll, 3, some .int, 9, true, 2)), (209, (yL_undo, cL_undo, 3, some .int, 9, true, 2)), (210, (yL_point, cL_point, 5, some .int, 9, true, 4)), (211, (yL_error, cL_error, 5, some .int, 9, true, 4)), (212, (yL_reading, cL_reading, 5, some .int, 9, true, 4)), (213, (yL_stretch, cL_stretch, 5, some .int, 9, true, 4)), (214, (yL_noteAt, cL_noteAt, 5, some .int, 9, true, 4)), (215, (yL_count, cL_count, 4, some .int, 9, true, 3)), (216, (yL_setting, cL_setting, 4, some .int, 9, true, 3)), (217, (yL_whyNot, cL_whyNot, 4, some .int, 9, true, 3)), (218, (yL_join, cL_join, 5, some .int, 9, true, 4)), (219, (yL_ifThinned, cL_ifThinned, 4, some .int, 9, true, 3)), (220, (yL_leastOath, cL_leastOath, 4, some .int, 9, true, 3)), (221, (yL_cheapest, cL_cheapest, 4, some .int, 9, true, 3))]
def tb_mL : List (Nat × (MethodName × ByteArray × Nat × Option FieldType × Nat × Bool × Nat)) := tb_mA ++ (tb_mW ++ [(222, (yL_law, cL_law, 9, some .boolean, 9, true, 1))])
def tb_cA : List Nat := [278, 282, 286, 289, 293, 300, 304, 308, 312, 316, 320, 324, 332, 336, 340, 347, 352, 359, 363, 367, 371, 377, 380, 384, 388, 392, 395, 398, 401, 405, 411, 417, 421, 427, 430, 502, 506, 510, 514, 518, 521, 526, 530, 534, 538, 561, 566, 570, 575, 579, 583, 587, 592, 596, 600, 604, 608, 613, 618, 622, 627, 632, 636, 641, 644, 648, 652, 656, 660, 666, 670, 674, 678, 682, 689, 696, 705, 708, 711, 716, 737, 741, 745, 749, 753, 761, 769, 777, 785, 792, 796, 803, 806, 810, 817, 825, 831, 838, 842, 847, 851, 855, 863, 868, 883, 904, 911, 918, 923, 1009, 1013, 1016, 1019, 1023, 1027, 1031, 1035, 1039, 1043, 1047, 1051, 1055, 1059, 1063, 1067, 1071, 1075, 1079, 1083, 1087, 1091, 1095, 1099, 1102, 1106, 1110, 1114, 1118, 1122, 1126, 1130, 1134, 1138, 1142, 1146, 1150, 1154, 1158, 1162, 1166, 1170, 1174, 1178, 1182, 1186, 1190, 1194, 1198, 1202, 1206, 1210, 1214, 1218, 1222, 1226, 1230, 1234, 1238, 1241, 1246, 1250, 1253, 1256, 1260, 1264, 1268, 1272, 1276, 1280, 1284, 1288, 1292, 1296, 1300, 1304, 1308, 1312, 1316, 1320, 1324, 1328, 1332, 1336, 1340, 1344, 1348, 1352, 1358, 1361]
def tb_cW : List Nat := [699, 756, 765, 773, 781, 788, 799, 813, 821, 834, 859, 871, 875, 879, 888, 892, 896, 900, 907, 914, 926, 930, 934]
def tb_mP : List (Nat × (Nat × Nat × Nat × Nat)) := [(0, (278, 276, 277, 77)), (1, (282, 280, 281, 81)), (2, (286, 285, 0, 81)), (3, (289, 288, 0, 89)), (4, (293, 291, 292, 78)), (5, (300, 298, 299, 78)), (6, (304, 303, 1, 77)), (7, (308, 306, 307, 79)), (8, (312, 310, 311, 78)), (9, (316, 314, 315, 78)), (10, (320, 318, 319, 78)), (11, (324, 322, 323, 78)), (12, (332, 330, 331, 78)), (13, (336, 334, 335, 78)), (14, (340, 338, 339, 78)), (15, (347, 345, 346, 79)), (16, (352, 350, 351, 78)), (17, (359, 357, 358, 77)), (18, (363, 361, 362, 79)), (19, (367, 365, 366, 79)), (20, (371, 369, 370, 78)), (21, (377, 376, 2, 79)), (22, (380, 379, 0, 79)), (23, (384, 382, 383, 77)), (24, (388, 386, 387, 77)), (25, (392, 390, 391, 82)), (26, (395, 394, 0, 82)), (27, (398, 397, 0, 82)), (28, (401, 400, 0, 82)), (29, (405, 403, 404, 77)), (30, (411, 410, 3, 77)), (31, (417, 415, 416, 77)), (32, (421, 419, 420, 77)), (33, (427, 425, 426, 77)), (34, (430, 429, 0, 77)), (35, (502, 501, 5, 77)), (36, (506, 504, 505, 78)), (37, (510, 509, 6, 77)), (38, (514, 513, 7, 77)), (39, (518, 516, 517, 79)), (40, (521, 520, 0, 77)), (41, (526, 525, 8, 77)), (42, (530, 529, 9, 77)), (43, (534, 532, 533, 77)), (44, (538, 537, 10, 77)), (45, (561, 559, 560, 79)), (46, (566, 564, 565, 79)), (47, (570, 568, 569, 79)), (48, (575, 573, 574, 77)), (49, (579, 578, 11, 77)), (50, (583, 581, 582, 77)), (51, (587, 586, 12, 77)), (52, (592, 590, 591, 78)), (53, (596, 594, 595, 78)), (54, (600, 598, 599, 78)), (55, (604, 602, 603, 80)), (56, (608, 607, 13, 80)), (57, (613, 612, 0, 80)), (58, (618, 617, 14, 80)), (59, (622, 621, 15, 80)), (60, (627, 625, 626, 78)), (61, (632, 631, 16, 77)), (62, (636, 634, 635, 77)), (63, (641, 639, 640, 77)), (64, (644, 643, 0, 77)), (65, (648, 646, 647, 80)), (66, (652, 650, 651, 78)), (67, (656, 655, 17, 80)), (68, (660, 659, 18, 80)), (69, (666, 665, 19, 80)), (70, (670, 668, 669, 77)), (71, (674, 672, 673, 80)), (72, (678, 676, 677, 77)), (73, (682, 680, 681, 79)), (74, (689, 688, 0, 77)), (75, (696, 695, 20, 77)), (76, (705, 703, 704, 77)), (77, (708, 707, 0, 77)), (78, (711, 710, 0, 77)), (79, (716, 714, 715, 78)), (80, (737, 735, 736, 78)), (81, (741, 740, 21, 78)), (82, (745, 744, 22, 77)), (83, (749, 747, 748, 78)), (84, (753, 751, 752, 80)), (85, (761, 759, 760, 77)), (86, (769, 767, 768, 77)), (87, (777, 775, 776, 77)), (88, (785, 783, 784, 77)), (89, (792, 790, 791, 77)), (90, (796, 794, 795, 78)), (91, (803, 801, 802, 77)), (92, (806, 805, 0, 77)), (93, (810, 809, 0, 77)), (94, (817, 815, 816, 77)), (95, (825, 823, 824, 77)), (96, (831, 829, 830, 82)), (97, (838, 836, 837, 77)), (98, (842, 840, 841, 82)), (99, (847, 845, 846, 82)), (100, (851, 850, 23, 82)), (101, (855, 854, 24, 77)), (102, (863, 861, 862, 77)), (103, (868, 866, 867, 81)), (104, (883, 881, 882, 77)), (105, (904, 902, 903, 77)), (106, (911, 909, 910, 77)), (107, (918, 916, 917, 77)), (108, (923, 921, 922, 79)), (109, (1009, 1007, 1008, 83)), (110, (1013, 1011, 1012, 83)), (111, (1016, 1015, 0, 83)), (112, (1019, 1018, 0, 83)), (113, (1023, 1022, 25, 83)), (114, (1027, 1026, 26, 83)), (115, (1031, 1030, 27, 83)), (116, (1035, 1034, 28, 83)), (117, (1039, 1038, 29, 83)), (118, (1043, 1041, 1042, 83)), (119, (1047, 1046, 30, 83)), (120, (1051, 1050, 31, 83)), (121, (1055, 1053, 1054, 83)), (122, (1059, 1058, 32, 83)), (123, (1063, 1062, 33, 83)), (124, (1067, 1066, 34, 83)), (125, (1071, 1070, 35, 83)), (126, (1075, 1074, 36, 83)), (127, (1079, 1078, 37, 83)), (128, (1083, 1082, 38, 83)), (129, (1087, 1086, 39, 83)), (130, (1091, 1090, 40, 83)), (131, (1095, 1094, 41, 83)), (132, (1099, 1098, 42, 83)), (133, (1102, 1101, 0, 83)), (134, (1106, 1105, 43, 83)), (135, (1110, 1109, 44, 83)), (136, (1114, 1112, 1113, 83)), (137, (1118, 1116, 1117, 83)), (138, (1122, 1121, 45, 83)), (139, (1126, 1125, 46, 83)), (140, (1130, 1129, 47, 83)), (141, (1134, 1133, 48, 83)), (142, (1138, 1137, 49, 83)), (143, (1142, 1140, 1141, 83)), (144, (1146, 1145, 50, 83)), (145, (1150, 1149, 51, 83)), (146, (1154, 1153, 52, 83)), (147, (1158, 1157, 53, 83)), (148, (1162, 1161, 54, 83)), (149, (1166, 1165, 55, 83)), (150, (1170, 1168, 1169, 83)), (151, (1174, 1173, 56, 83)), (152, (1178, 1177, 57, 83)), (153, (1182, 1180, 1181, 83)), (154, (1186, 1184, 1185, 83)), (155, (1190, 1188, 1189, 83)), (156, (1194, 1193, 58, 83)), (157, (1198, 1196, 1197, 83)), (158, (1202, 1200, 1201, 83)), (159, (1206, 1204, 1205, 83)), (160, (1210, 1209, 59, 83)), (161, (1214, 1213, 60, 83)), (162, (1218, 1217, 61, 83)), (163, (1222, 1221, 62, 83)), (164, (1226, 1224, 1225, 83)), (165, (1230, 1228, 1229, 83)), (166, (1234, 1232, 1233, 83)), (167, (1238, 1237, 63, 83)), (168, (1241, 1240, 0, 83)), (169, (1246, 1244, 1245, 83)), (170, (1250, 1249, 64, 83)), (171, (1253, 1252, 0, 83)), (172, (1256, 1255, 0, 83)), (173, (1260, 1258, 1259, 83)), (174, (1264, 1262, 1263, 83)), (175, (1268, 1267, 65, 83)), (176, (1272, 1270, 1271, 83)), (177, (1276, 1275, 66, 83)), (178, (1280, 1278, 1279, 83)), (179, (1284, 1283, 67, 83)), (180, (1288, 1287, 68, 83)), (181, (1292, 1291, 69, 83)), (182, (1296, 1295, 70, 83)), (183, (1300, 1299, 71, 83)), (184, (1304, 1302, 1303, 83)), (185, (1308, 1306, 1307, 83)), (186, (1312, 1310, 1311, 83)), (187, (1316, 1314, 1315, 83)), (188, (1320, 1318, 1319, 83)), (189, (1324, 1322, 1323, 83)), (190, (1328, 1327, 72, 83)), (191, (1332, 1331, 73, 83)), (192, (1336, 1334, 1335, 83)), (193, (1340, 1339, 74, 83)), (194, (1344, 1342, 1343, 83)), (195, (1348, 1347, 75, 83)), (196, (1352, 1350, 1351, 83)), (197, (1358, 1357, 0, 92)), (198, (1361, 1360, 0, 92)), (199, (699, 698, 0, 76)), (200, (756, 755, 0, 76)), (201, (765, 764, 0, 76)), (202, (773, 772, 0, 76)), (203, (781, 780, 0, 76)), (204, (788, 787, 0, 76)), (205, (799, 798, 0, 76)), (206, (813, 812, 0, 76)), (207, (821, 820, 0, 76)), (208, (834, 833, 0, 76)), (209, (859, 858, 0, 76)), (210, (871, 870, 0, 76)), (211, (875, 874, 0, 76)), (212, (879, 878, 0, 76)), (213, (888, 887, 0, 76)), (214, (892, 891, 0, 76)), (215, (896, 895, 0, 76)), (216, (900, 899, 0, 76)), (217, (907, 906, 0, 76)), (218, (914, 913, 0, 76)), (219, (926, 925, 0, 76)), (220, (930, 929, 0, 76)), (221, (934, 933, 0, 76))]
def tb_hhL : List (Nat × List (Nat × Nat × Nat × Nat)) := [(199, [(0, 10, 13, 13), (0, 10, 17, 15)]), (200, [(0, 10, 13, 20), (0, 10, 17, 13)]), (201, [(0, 9, 12, 20), (0, 9, 15, 15)]), (202, [(0, 9, 12, 20), (0, 9, 15, 15)]), (203, [(0, 9, 12, 13)]), (204, [(0, 9, 12, 20)]), (205, [(0, 10, 13, 20), (0, 10, 17, 13)]), (206, [(0, 10, 13, 13), (0, 10, 17, 15)]), (207, [(0, 9, 12, 13), (0, 9, 15, 15)]), (208, [(0, 8, 11, 13), (0, 8, 14, 15)]), (209, [(0, 8, 11, 15)]), (210, [(0, 10, 13, 20), (0, 10, 17, 13)]), (211, [(0, 10, 13, 20), (0, 10, 17, 13)]), (212, [(0, 10, 13, 13)]), (213, [(0, 10, 13, 20), (0, 10, 17, 13)]), (214, [(0, 10, 13, 20), (0, 10, 17, 13)]), (215, [(0, 9, 12, 13)]), (216, [(0, 9, 12, 20)]), (217, [(0, 9, 12, 20)]), (218, [(0, 10, 13, 20), (0, 10, 17, 13)]), (219, [(0, 9, 12, 13)]), (220, [(0, 9, 12, 13)]), (221, [(0, 9, 12, 13)])]
def tb_hnL : List (Nat × List (Nat × Nat × Nat × Nat × Nat × Nat)) := [(199, [(0, 10, 0, 13, 4, 15), (0, 10, 1, 17, 4, 19)]), (200, [(0, 10, 2, 13, 4, 15), (0, 10, 0, 17, 4, 19)]), (201, [(0, 9, 2, 12, 3, 13), (0, 9, 1, 15, 3, 16)]), (202, [(0, 9, 2, 12, 3, 13), (0, 9, 1, 15, 3, 16)]), (203, [(0, 9, 0, 12, 3, 13)]), (204, [(0, 9, 2, 12, 3, 13)]), (205, [(0, 10, 2, 13, 4, 15), (0, 10, 0, 17, 4, 19)]), (206, [(0, 10, 0, 13, 4, 15), (0, 10, 1, 17, 4, 19)]), (207, [(0, 9, 0, 12, 3, 13), (0, 9, 1, 15, 3, 16)]), (208, [(0, 8, 0, 11, 2, 12), (0, 8, 1, 14, 2, 15)]), (209, [(0, 8, 1, 11, 2, 12)]), (210, [(0, 10, 2, 13, 4, 15), (0, 10, 0, 17, 4, 19)]), (211, [(0, 10, 2, 13, 4, 15), (0, 10, 0, 17, 4, 19)]), (212, [(0, 10, 0, 13, 4, 15)]), (213, [(0, 10, 2, 13, 4, 15), (0, 10, 0, 17, 4, 19)]), (214, [(0, 10, 2, 13, 4, 15), (0, 10, 0, 17, 4, 19)]), (215, [(0, 9, 0, 12, 3, 13)]), (216, [(0, 9, 2, 12, 3, 13)]), (217, [(0, 9, 2, 12, 3, 13)]), (218, [(0, 10, 2, 13, 4, 15), (0, 10, 0, 17, 4, 19)]), (219, [(0, 9, 0, 12, 3, 13)]), (220, [(0, 9, 0, 12, 3, 13)]), (221, [(0, 9, 0, 12, 3, 13)])]
end
section
/-! The methods' instructions, by their places. -/
def tk_X5_mend : Nat → Option (Instr × Nat) := am_guard 53 (fun pc => (cond (Nat.blt pc 24) (cond (Nat.blt pc 12) (cond (Nat.blt pc 5) (cond (Nat.blt pc 1) (am_lf pc 0 (.aload_n 0) 1) (cond (Nat.blt pc 4) (am_lf pc 1 (.getfield 37) 3) (am_lf pc 4 (.aload_n 0) 1))) (cond (Nat.blt pc 8) (am_lf pc 5 (.getfield 10) 3) (cond (Nat.blt pc 11) (am_lf pc 8 (.invokevirtual 78) 3) (am_lf pc 11 (.aload_n 0) 1)))) (cond (Nat.blt pc 19) (cond (Nat.blt pc 15) (am_lf pc 12 (.getfield 10) 3) (cond (Nat.blt pc 18) (am_lf pc 15 (.invokevirtual 106) 3) (am_lf pc 18 (.istore_n 1) 1))) (cond (Nat.blt pc 21) (cond (Nat.blt pc 20) (am_lf pc 19 (.iconst 0) 1) (am_lf pc 20 (.istore_n 2) 1)) (cond (Nat.blt pc 22) (am_lf pc 21 (.iload_n 2) 1) (am_lf pc 22 (.bipush 60) 2))))) (cond (Nat.blt pc 40) (cond (Nat.blt pc 31) (cond (Nat.blt pc 27) (am_lf pc 24 (.if_icmp .ge 19) 3) (cond (Nat.blt pc 28) (am_lf pc 27 (.aload_n 0) 1) (am_lf pc 28 (.invokevirtual 115) 3))) (cond (Nat.blt pc 34) (am_lf pc 31 (.ifCond .ne 6) 3) (cond (Nat.blt pc 37) (am_lf pc 34 (.goto 9) 3) (am_lf pc 37 (.iinc 2 1) 3)))) (cond (Nat.blt pc 47) (cond (Nat.blt pc 43) (am_lf pc 40 (.goto (-19)) 3) (cond (Nat.blt pc 44) (am_lf pc 43 (.aload_n 0) 1) (am_lf pc 44 (.getfield 10) 3))) (cond (Nat.blt pc 51) (cond (Nat.blt pc 50) (am_lf pc 47 (.invokevirtual 106) 3) (am_lf pc 50 (.iload_n 1) 1)) (cond (Nat.blt pc 52) (am_lf pc 51 .isub 1) (am_lf pc 52 .ireturn 1)))))))
def tk_X0_remember : Nat → Option (Instr × Nat) := am_guard 66 (fun pc => (cond (Nat.blt pc 33) (cond (Nat.blt pc 16) (cond (Nat.blt pc 9) (cond (Nat.blt pc 4) (cond (Nat.blt pc 1) (am_lf pc 0 (.aload_n 0) 1) (am_lf pc 1 (.getfield 18) 3)) (cond (Nat.blt pc 6) (am_lf pc 4 (.bipush 6) 2) (am_lf pc 6 (.if_icmp .ne 26) 3))) (cond (Nat.blt pc 11) (cond (Nat.blt pc 10) (am_lf pc 9 (.aload_n 0) 1) (am_lf pc 10 (.aload_n 0) 1)) (cond (Nat.blt pc 14) (am_lf pc 11 (.getfield 22) 3) (cond (Nat.blt pc 15) (am_lf pc 14 (.iconst 1) 1) (am_lf pc 15 .iadd 1))))) (cond (Nat.blt pc 24) (cond (Nat.blt pc 19) (cond (Nat.blt pc 18) (am_lf pc 16 (.bipush 6) 2) (am_lf pc 18 .irem 1)) (cond (Nat.blt pc 22) (am_lf pc 19 (.putfield 22) 3) (cond (Nat.blt pc 23) (am_lf pc 22 (.aload_n 0) 1) (am_lf pc 23 .dup 1)))) (cond (Nat.blt pc 28) (cond (Nat.blt pc 27) (am_lf pc 24 (.getfield 18) 3) (am_lf pc 27 (.iconst 1) 1)) (cond (Nat.blt pc 29) (am_lf pc 28 .isub 1) (cond (Nat.blt pc 32) (am_lf pc 29 (.putfield 18) 3) (am_lf pc 32 (.aload_n 0) 1)))))) (cond (Nat.blt pc 50) (cond (Nat.blt pc 41) (cond (Nat.blt pc 37) (cond (Nat.blt pc 34) (am_lf pc 33 (.aload_n 0) 1) (am_lf pc 34 (.getfield 22) 3)) (cond (Nat.blt pc 38) (am_lf pc 37 (.aload_n 0) 1) (am_lf pc 38 (.getfield 18) 3))) (cond (Nat.blt pc 45) (cond (Nat.blt pc 42) (am_lf pc 41 .iadd 1) (am_lf pc 42 (.invokevirtual 25) 3)) (cond (Nat.blt pc 46) (am_lf pc 45 (.astore_n 2) 1) (cond (Nat.blt pc 47) (am_lf pc 46 (.aload_n 2) 1) (am_lf pc 47 (.ifnull 18) 3))))) (cond (Nat.blt pc 57) (cond (Nat.blt pc 52) (cond (Nat.blt pc 51) (am_lf pc 50 (.aload_n 2) 1) (am_lf pc 51 (.aload_n 1) 1)) (cond (Nat.blt pc 55) (am_lf pc 52 (.invokevirtual 29) 3) (cond (Nat.blt pc 56) (am_lf pc 55 (.aload_n 0) 1) (am_lf pc 56 .dup 1)))) (cond (Nat.blt pc 61) (cond (Nat.blt pc 60) (am_lf pc 57 (.getfield 18) 3) (am_lf pc 60 (.iconst 1) 1)) (cond (Nat.blt pc 62) (am_lf pc 61 .iadd 1) (cond (Nat.blt pc 65) (am_lf pc 62 (.putfield 18) 3) (am_lf pc 65 .return_ 1))))))))
def tk_X0_rowAt : Nat → Option (Instr × Nat) := am_guard 31 (fun pc => (cond (Nat.blt pc 16) (cond (Nat.blt pc 7) (cond (Nat.blt pc 3) (cond (Nat.blt pc 1) (am_lf pc 0 (.iload_n 1) 1) (am_lf pc 1 (.bipush 6) 2)) (cond (Nat.blt pc 6) (am_lf pc 3 (.invokestatic 33) 3) (am_lf pc 6 (.istore_n 2) 1))) (cond (Nat.blt pc 11) (cond (Nat.blt pc 8) (am_lf pc 7 (.iload_n 2) 1) (am_lf pc 8 (.ifCond .lt 21) 3)) (cond (Nat.blt pc 12) (am_lf pc 11 (.iload_n 2) 1) (cond (Nat.blt pc 13) (am_lf pc 12 (.aload_n 0) 1) (am_lf pc 13 (.getfield 11) 3))))) (cond (Nat.blt pc 24) (cond (Nat.blt pc 20) (cond (Nat.blt pc 17) (am_lf pc 16 .arraylength 1) (am_lf pc 17 (.if_icmp .ge 12) 3)) (cond (Nat.blt pc 21) (am_lf pc 20 (.aload_n 0) 1) (am_lf pc 21 (.getfield 11) 3))) (cond (Nat.blt pc 26) (cond (Nat.blt pc 25) (am_lf pc 24 (.iload_n 2) 1) (am_lf pc 25 .aaload 1)) (cond (Nat.blt pc 29) (am_lf pc 26 (.goto 4) 3) (cond (Nat.blt pc 30) (am_lf pc 29 .aconst_null 1) (am_lf pc 30 .areturn 1)))))))
def tk_J9_floorMod_7cf53 : Nat → Option (Instr × Nat) := am_guard 20 (fun pc => (cond (Nat.blt pc 10) (cond (Nat.blt pc 4) (cond (Nat.blt pc 2) (cond (Nat.blt pc 1) (am_lf pc 0 (.iload_n 0) 1) (am_lf pc 1 (.iload_n 1) 1)) (cond (Nat.blt pc 3) (am_lf pc 2 .irem 1) (am_lf pc 3 (.istore_n 2) 1))) (cond (Nat.blt pc 6) (cond (Nat.blt pc 5) (am_lf pc 4 (.iload_n 0) 1) (am_lf pc 5 (.iload_n 1) 1)) (cond (Nat.blt pc 7) (am_lf pc 6 .ixor 1) (am_lf pc 7 (.ifCond .ge 11) 3)))) (cond (Nat.blt pc 16) (cond (Nat.blt pc 14) (cond (Nat.blt pc 11) (am_lf pc 10 (.iload_n 2) 1) (am_lf pc 11 (.ifCond .eq 7) 3)) (cond (Nat.blt pc 15) (am_lf pc 14 (.iload_n 2) 1) (am_lf pc 15 (.iload_n 1) 1))) (cond (Nat.blt pc 18) (cond (Nat.blt pc 17) (am_lf pc 16 .iadd 1) (am_lf pc 17 .ireturn 1)) (cond (Nat.blt pc 19) (am_lf pc 18 (.iload_n 2) 1) (am_lf pc 19 .ireturn 1))))))
def tk_X2_copyFrom : Nat → Option (Instr × Nat) := am_guard 137 (fun pc => (cond (Nat.blt pc 66) (cond (Nat.blt pc 34) (cond (Nat.blt pc 16) (cond (Nat.blt pc 6) (cond (Nat.blt pc 4) (cond (Nat.blt pc 1) (am_lf pc 0 (.aload_n 1) 1) (am_lf pc 1 (.getfield 9) 3)) (cond (Nat.blt pc 5) (am_lf pc 4 (.iconst 0) 1) (am_lf pc 5 (.aload_n 0) 1))) (cond (Nat.blt pc 10) (cond (Nat.blt pc 9) (am_lf pc 6 (.getfield 9) 3) (am_lf pc 9 (.iconst 0) 1)) (cond (Nat.blt pc 12) (am_lf pc 10 (.bipush 60) 2) (cond (Nat.blt pc 15) (am_lf pc 12 (.invokestatic 33) 3) (am_lf pc 15 (.aload_n 1) 1))))) (cond (Nat.blt pc 24) (cond (Nat.blt pc 20) (cond (Nat.blt pc 19) (am_lf pc 16 (.getfield 15) 3) (am_lf pc 19 (.iconst 0) 1)) (cond (Nat.blt pc 21) (am_lf pc 20 (.aload_n 0) 1) (am_lf pc 21 (.getfield 15) 3))) (cond (Nat.blt pc 27) (cond (Nat.blt pc 25) (am_lf pc 24 (.iconst 0) 1) (am_lf pc 25 (.bipush 60) 2)) (cond (Nat.blt pc 30) (am_lf pc 27 (.invokestatic 33) 3) (cond (Nat.blt pc 31) (am_lf pc 30 (.aload_n 1) 1) (am_lf pc 31 (.getfield 18) 3)))))) (cond (Nat.blt pc 50) (cond (Nat.blt pc 40) (cond (Nat.blt pc 36) (cond (Nat.blt pc 35) (am_lf pc 34 (.iconst 0) 1) (am_lf pc 35 (.aload_n 0) 1)) (cond (Nat.blt pc 39) (am_lf pc 36 (.getfield 18) 3) (am_lf pc 39 (.iconst 0) 1))) (cond (Nat.blt pc 45) (cond (Nat.blt pc 42) (am_lf pc 40 (.bipush 60) 2) (am_lf pc 42 (.invokestatic 33) 3)) (cond (Nat.blt pc 46) (am_lf pc 45 (.aload_n 1) 1) (cond (Nat.blt pc 49) (am_lf pc 46 (.getfield 21) 3) (am_lf pc 49 (.iconst 0) 1))))) (cond (Nat.blt pc 57) (cond (Nat.blt pc 54) (cond (Nat.blt pc 51) (am_lf pc 50 (.aload_n 0) 1) (am_lf pc 51 (.getfield 21) 3)) (cond (Nat.blt pc 55) (am_lf pc 54 (.iconst 0) 1) (am_lf pc 55 (.bipush 60) 2))) (cond (Nat.blt pc 61) (cond (Nat.blt pc 60) (am_lf pc 57 (.invokestatic 33) 3) (am_lf pc 60 (.aload_n 1) 1)) (cond (Nat.blt pc 64) (am_lf pc 61 (.getfield 24) 3) (cond (Nat.blt pc 65) (am_lf pc 64 (.iconst 0) 1) (am_lf pc 65 (.aload_n 0) 1))))))) (cond (Nat.blt pc 99) (cond (Nat.blt pc 83) (cond (Nat.blt pc 74) (cond (Nat.blt pc 70) (cond (Nat.blt pc 69) (am_lf pc 66 (.getfield 24) 3) (am_lf pc 69 (.iconst 0) 1)) (cond (Nat.blt pc 71) (am_lf pc 70 (.iconst 3) 1) (am_lf pc 71 (.invokestatic 33) 3))) (cond (Nat.blt pc 78) (cond (Nat.blt pc 75) (am_lf pc 74 (.aload_n 1) 1) (am_lf pc 75 (.getfield 27) 3)) (cond (Nat.blt pc 79) (am_lf pc 78 (.iconst 0) 1) (cond (Nat.blt pc 80) (am_lf pc 79 (.aload_n 0) 1) (am_lf pc 80 (.getfield 27) 3))))) (cond (Nat.blt pc 90) (cond (Nat.blt pc 86) (cond (Nat.blt pc 84) (am_lf pc 83 (.iconst 0) 1) (am_lf pc 84 (.bipush 8) 2)) (cond (Nat.blt pc 89) (am_lf pc 86 (.invokestatic 33) 3) (am_lf pc 89 (.aload_n 1) 1))) (cond (Nat.blt pc 94) (cond (Nat.blt pc 93) (am_lf pc 90 (.getfield 30) 3) (am_lf pc 93 (.iconst 0) 1)) (cond (Nat.blt pc 95) (am_lf pc 94 (.aload_n 0) 1) (cond (Nat.blt pc 98) (am_lf pc 95 (.getfield 30) 3) (am_lf pc 98 (.iconst 0) 1)))))) (cond (Nat.blt pc 117) (cond (Nat.blt pc 106) (cond (Nat.blt pc 104) (cond (Nat.blt pc 101) (am_lf pc 99 (.bipush 8) 2) (am_lf pc 101 (.invokestatic 33) 3)) (cond (Nat.blt pc 105) (am_lf pc 104 (.aload_n 0) 1) (am_lf pc 105 (.aload_n 1) 1))) (cond (Nat.blt pc 112) (cond (Nat.blt pc 109) (am_lf pc 106 (.getfield 39) 3) (am_lf pc 109 (.putfield 39) 3)) (cond (Nat.blt pc 113) (am_lf pc 112 (.aload_n 0) 1) (cond (Nat.blt pc 114) (am_lf pc 113 (.aload_n 1) 1) (am_lf pc 114 (.getfield 43) 3))))) (cond (Nat.blt pc 128) (cond (Nat.blt pc 121) (cond (Nat.blt pc 120) (am_lf pc 117 (.putfield 43) 3) (am_lf pc 120 (.aload_n 0) 1)) (cond (Nat.blt pc 122) (am_lf pc 121 (.aload_n 1) 1) (cond (Nat.blt pc 125) (am_lf pc 122 (.getfield 46) 3) (am_lf pc 125 (.putfield 46) 3)))) (cond (Nat.blt pc 130) (cond (Nat.blt pc 129) (am_lf pc 128 (.aload_n 0) 1) (am_lf pc 129 (.aload_n 1) 1)) (cond (Nat.blt pc 133) (am_lf pc 130 (.getfield 49) 3) (cond (Nat.blt pc 136) (am_lf pc 133 (.putfield 49) 3) (am_lf pc 136 .return_ 1)))))))))
def tk_X2_keptPoints : Nat → Option (Instr × Nat) := am_guard 29 (fun pc => (cond (Nat.blt pc 13) (cond (Nat.blt pc 4) (cond (Nat.blt pc 2) (cond (Nat.blt pc 1) (am_lf pc 0 (.iconst 0) 1) (am_lf pc 1 (.istore_n 1) 1)) (cond (Nat.blt pc 3) (am_lf pc 2 (.iconst 0) 1) (am_lf pc 3 (.istore_n 2) 1))) (cond (Nat.blt pc 6) (cond (Nat.blt pc 5) (am_lf pc 4 (.iload_n 2) 1) (am_lf pc 5 (.aload_n 0) 1)) (cond (Nat.blt pc 9) (am_lf pc 6 (.getfield 39) 3) (cond (Nat.blt pc 12) (am_lf pc 9 (.if_icmp .ge 18) 3) (am_lf pc 12 (.iload_n 1) 1))))) (cond (Nat.blt pc 20) (cond (Nat.blt pc 17) (cond (Nat.blt pc 14) (am_lf pc 13 (.aload_n 0) 1) (am_lf pc 14 (.getfield 18) 3)) (cond (Nat.blt pc 18) (am_lf pc 17 (.iload_n 2) 1) (cond (Nat.blt pc 19) (am_lf pc 18 .iaload 1) (am_lf pc 19 .iadd 1)))) (cond (Nat.blt pc 24) (cond (Nat.blt pc 21) (am_lf pc 20 (.istore_n 1) 1) (am_lf pc 21 (.iinc 2 1) 3)) (cond (Nat.blt pc 27) (am_lf pc 24 (.goto (-20)) 3) (cond (Nat.blt pc 28) (am_lf pc 27 (.iload_n 1) 1) (am_lf pc 28 .ireturn 1)))))))
def tk_X5_keepBroken : Nat → Option (Instr × Nat) := am_guard 87 (fun pc => (cond (Nat.blt pc 43) (cond (Nat.blt pc 19) (cond (Nat.blt pc 7) (cond (Nat.blt pc 2) (cond (Nat.blt pc 1) (am_lf pc 0 (.iconst 0) 1) (am_lf pc 1 (.istore_n 1) 1)) (cond (Nat.blt pc 3) (am_lf pc 2 (.iload_n 1) 1) (cond (Nat.blt pc 4) (am_lf pc 3 (.aload_n 0) 1) (am_lf pc 4 (.getfield 10) 3)))) (cond (Nat.blt pc 14) (cond (Nat.blt pc 10) (am_lf pc 7 (.getfield 66) 3) (cond (Nat.blt pc 13) (am_lf pc 10 (.if_icmp .ge 31) 3) (am_lf pc 13 (.aload_n 0) 1))) (cond (Nat.blt pc 17) (am_lf pc 14 (.getfield 48) 3) (cond (Nat.blt pc 18) (am_lf pc 17 (.iload_n 1) 1) (am_lf pc 18 (.aload_n 0) 1))))) (cond (Nat.blt pc 33) (cond (Nat.blt pc 26) (cond (Nat.blt pc 22) (am_lf pc 19 (.getfield 21) 3) (cond (Nat.blt pc 23) (am_lf pc 22 (.iload_n 1) 1) (am_lf pc 23 (.invokevirtual 216) 3))) (cond (Nat.blt pc 29) (am_lf pc 26 (.ifCond .eq 7) 3) (cond (Nat.blt pc 30) (am_lf pc 29 (.iconst 1) 1) (am_lf pc 30 (.goto 4) 3)))) (cond (Nat.blt pc 38) (cond (Nat.blt pc 34) (am_lf pc 33 (.iconst 0) 1) (cond (Nat.blt pc 35) (am_lf pc 34 .iastore 1) (am_lf pc 35 (.iinc 1 1) 3))) (cond (Nat.blt pc 41) (am_lf pc 38 (.goto (-36)) 3) (cond (Nat.blt pc 42) (am_lf pc 41 (.iconst 0) 1) (am_lf pc 42 (.istore_n 1) 1)))))) (cond (Nat.blt pc 63) (cond (Nat.blt pc 53) (cond (Nat.blt pc 46) (cond (Nat.blt pc 44) (am_lf pc 43 (.iconst 0) 1) (cond (Nat.blt pc 45) (am_lf pc 44 (.istore_n 2) 1) (am_lf pc 45 (.iload_n 2) 1))) (cond (Nat.blt pc 47) (am_lf pc 46 (.aload_n 0) 1) (cond (Nat.blt pc 50) (am_lf pc 47 (.getfield 10) 3) (am_lf pc 50 (.getfield 66) 3)))) (cond (Nat.blt pc 60) (cond (Nat.blt pc 56) (am_lf pc 53 (.if_icmp .ge 32) 3) (cond (Nat.blt pc 57) (am_lf pc 56 (.aload_n 0) 1) (am_lf pc 57 (.getfield 48) 3))) (cond (Nat.blt pc 61) (am_lf pc 60 (.iload_n 2) 1) (cond (Nat.blt pc 62) (am_lf pc 61 .iaload 1) (am_lf pc 62 (.iconst 1) 1))))) (cond (Nat.blt pc 75) (cond (Nat.blt pc 70) (cond (Nat.blt pc 66) (am_lf pc 63 (.if_icmp .ne 16) 3) (cond (Nat.blt pc 67) (am_lf pc 66 (.aload_n 0) 1) (am_lf pc 67 (.getfield 10) 3))) (cond (Nat.blt pc 73) (am_lf pc 70 (.getfield 103) 3) (cond (Nat.blt pc 74) (am_lf pc 73 (.iload_n 2) 1) (am_lf pc 74 (.iconst 1) 1)))) (cond (Nat.blt pc 82) (cond (Nat.blt pc 76) (am_lf pc 75 .iastore 1) (cond (Nat.blt pc 79) (am_lf pc 76 (.iinc 1 1) 3) (am_lf pc 79 (.iinc 2 1) 3))) (cond (Nat.blt pc 85) (am_lf pc 82 (.goto (-37)) 3) (cond (Nat.blt pc 86) (am_lf pc 85 (.iload_n 1) 1) (am_lf pc 86 .ireturn 1))))))))
def tk_X1_isBroken : Nat → Option (Instr × Nat) := am_guard 66 (fun pc => (cond (Nat.blt pc 34) (cond (Nat.blt pc 15) (cond (Nat.blt pc 8) (cond (Nat.blt pc 4) (cond (Nat.blt pc 1) (am_lf pc 0 (.aload_n 0) 1) (am_lf pc 1 (.getfield 9) 3)) (cond (Nat.blt pc 5) (am_lf pc 4 (.iload_n 1) 1) (am_lf pc 5 (.invokevirtual 60) 3))) (cond (Nat.blt pc 12) (cond (Nat.blt pc 11) (am_lf pc 8 (.ifCond .eq 5) 3) (am_lf pc 11 (.iconst 0) 1)) (cond (Nat.blt pc 13) (am_lf pc 12 .ireturn 1) (cond (Nat.blt pc 14) (am_lf pc 13 (.aload_n 0) 1) (am_lf pc 14 (.aload_n 0) 1))))) (cond (Nat.blt pc 23) (cond (Nat.blt pc 19) (cond (Nat.blt pc 18) (am_lf pc 15 (.getfield 9) 3) (am_lf pc 18 (.iload_n 1) 1)) (cond (Nat.blt pc 22) (am_lf pc 19 (.invokevirtual 64) 3) (am_lf pc 22 (.aload_n 0) 1))) (cond (Nat.blt pc 27) (cond (Nat.blt pc 26) (am_lf pc 23 (.getfield 9) 3) (am_lf pc 26 (.iload_n 1) 1)) (cond (Nat.blt pc 30) (am_lf pc 27 (.invokevirtual 67) 3) (cond (Nat.blt pc 31) (am_lf pc 30 (.iload_n 1) 1) (am_lf pc 31 (.invokevirtual 56) 3)))))) (cond (Nat.blt pc 51) (cond (Nat.blt pc 40) (cond (Nat.blt pc 36) (cond (Nat.blt pc 35) (am_lf pc 34 (.istore_n 2) 1) (am_lf pc 35 (.iload_n 2) 1)) (cond (Nat.blt pc 39) (am_lf pc 36 (.ifCond .eq 24) 3) (am_lf pc 39 (.aload_n 0) 1))) (cond (Nat.blt pc 44) (cond (Nat.blt pc 43) (am_lf pc 40 (.getfield 15) 3) (am_lf pc 43 (.aload_n 0) 1)) (cond (Nat.blt pc 47) (am_lf pc 44 (.getfield 9) 3) (cond (Nat.blt pc 50) (am_lf pc 47 (.getfield 49) 3) (am_lf pc 50 (.iconst 0) 1))))) (cond (Nat.blt pc 57) (cond (Nat.blt pc 53) (cond (Nat.blt pc 52) (am_lf pc 51 .iaload 1) (am_lf pc 52 (.aload_n 0) 1)) (cond (Nat.blt pc 56) (am_lf pc 53 (.getfield 19) 3) (am_lf pc 56 .imul 1))) (cond (Nat.blt pc 61) (cond (Nat.blt pc 60) (am_lf pc 57 (.if_icmp .le 7) 3) (am_lf pc 60 (.iconst 1) 1)) (cond (Nat.blt pc 64) (am_lf pc 61 (.goto 4) 3) (cond (Nat.blt pc 65) (am_lf pc 64 (.iconst 0) 1) (am_lf pc 65 .ireturn 1))))))))
def tk_X2_isKept : Nat → Option (Instr × Nat) := am_guard 24 (fun pc => (cond (Nat.blt pc 13) (cond (Nat.blt pc 5) (cond (Nat.blt pc 1) (am_lf pc 0 (.aload_n 0) 1) (cond (Nat.blt pc 2) (am_lf pc 1 (.iload_n 1) 1) (am_lf pc 2 (.invokevirtual 52) 3))) (cond (Nat.blt pc 9) (cond (Nat.blt pc 8) (am_lf pc 5 (.ifCond .eq 17) 3) (am_lf pc 8 (.aload_n 0) 1)) (cond (Nat.blt pc 12) (am_lf pc 9 (.getfield 18) 3) (am_lf pc 12 (.iload_n 1) 1)))) (cond (Nat.blt pc 18) (cond (Nat.blt pc 14) (am_lf pc 13 .iaload 1) (cond (Nat.blt pc 15) (am_lf pc 14 (.iconst 1) 1) (am_lf pc 15 (.if_icmp .ne 7) 3))) (cond (Nat.blt pc 22) (cond (Nat.blt pc 19) (am_lf pc 18 (.iconst 1) 1) (am_lf pc 19 (.goto 4) 3)) (cond (Nat.blt pc 23) (am_lf pc 22 (.iconst 0) 1) (am_lf pc 23 .ireturn 1))))))
def tk_X2_hasPoint : Nat → Option (Instr × Nat) := am_guard 18 (fun pc => (cond (Nat.blt pc 9) (cond (Nat.blt pc 4) (cond (Nat.blt pc 1) (am_lf pc 0 (.iload_n 1) 1) (am_lf pc 1 (.ifCond .lt 15) 3)) (cond (Nat.blt pc 5) (am_lf pc 4 (.iload_n 1) 1) (cond (Nat.blt pc 6) (am_lf pc 5 (.aload_n 0) 1) (am_lf pc 6 (.getfield 39) 3)))) (cond (Nat.blt pc 13) (cond (Nat.blt pc 12) (am_lf pc 9 (.if_icmp .ge 7) 3) (am_lf pc 12 (.iconst 1) 1)) (cond (Nat.blt pc 16) (am_lf pc 13 (.goto 4) 3) (cond (Nat.blt pc 17) (am_lf pc 16 (.iconst 0) 1) (am_lf pc 17 .ireturn 1))))))
def tk_X2_earlierKept : Nat → Option (Instr × Nat) := am_guard 22 (fun pc => (cond (Nat.blt pc 8) (cond (Nat.blt pc 5) (cond (Nat.blt pc 1) (am_lf pc 0 (.aload_n 0) 1) (cond (Nat.blt pc 2) (am_lf pc 1 (.iload_n 1) 1) (am_lf pc 2 (.invokevirtual 78) 3))) (cond (Nat.blt pc 6) (am_lf pc 5 (.istore_n 2) 1) (cond (Nat.blt pc 7) (am_lf pc 6 (.aload_n 0) 1) (am_lf pc 7 (.iload_n 2) 1)))) (cond (Nat.blt pc 15) (cond (Nat.blt pc 9) (am_lf pc 8 (.iload_n 1) 1) (cond (Nat.blt pc 12) (am_lf pc 9 (.invokevirtual 65) 3) (am_lf pc 12 (.ifCond .eq 7) 3))) (cond (Nat.blt pc 19) (cond (Nat.blt pc 16) (am_lf pc 15 (.iload_n 2) 1) (am_lf pc 16 (.goto 5) 3)) (cond (Nat.blt pc 21) (am_lf pc 19 (.ldc 60) 2) (am_lf pc 21 .ireturn 1))))))
def tk_X2_keptBelow : Nat → Option (Instr × Nat) := am_guard 36 (fun pc => (cond (Nat.blt pc 16) (cond (Nat.blt pc 9) (cond (Nat.blt pc 2) (cond (Nat.blt pc 1) (am_lf pc 0 (.iload_n 1) 1) (am_lf pc 1 (.aload_n 0) 1)) (cond (Nat.blt pc 5) (am_lf pc 2 (.getfield 39) 3) (cond (Nat.blt pc 8) (am_lf pc 5 (.invokestatic 69) 3) (am_lf pc 8 (.iconst 1) 1)))) (cond (Nat.blt pc 11) (cond (Nat.blt pc 10) (am_lf pc 9 .isub 1) (am_lf pc 10 (.istore_n 2) 1)) (cond (Nat.blt pc 12) (am_lf pc 11 (.iload_n 2) 1) (cond (Nat.blt pc 15) (am_lf pc 12 (.ifCond .lt 21) 3) (am_lf pc 15 (.aload_n 0) 1))))) (cond (Nat.blt pc 25) (cond (Nat.blt pc 20) (cond (Nat.blt pc 19) (am_lf pc 16 (.getfield 18) 3) (am_lf pc 19 (.iload_n 2) 1)) (cond (Nat.blt pc 21) (am_lf pc 20 .iaload 1) (cond (Nat.blt pc 22) (am_lf pc 21 (.iconst 1) 1) (am_lf pc 22 (.if_icmp .ne 5) 3)))) (cond (Nat.blt pc 30) (cond (Nat.blt pc 26) (am_lf pc 25 (.iload_n 2) 1) (cond (Nat.blt pc 27) (am_lf pc 26 .ireturn 1) (am_lf pc 27 (.iinc 2 (-1)) 3))) (cond (Nat.blt pc 33) (am_lf pc 30 (.goto (-19)) 3) (cond (Nat.blt pc 35) (am_lf pc 33 (.ldc 60) 2) (am_lf pc 35 .ireturn 1)))))))
def tk_X2_sameStretch : Nat → Option (Instr × Nat) := am_guard 45 (fun pc => (cond (Nat.blt pc 24) (cond (Nat.blt pc 12) (cond (Nat.blt pc 5) (cond (Nat.blt pc 1) (am_lf pc 0 (.iload_n 1) 1) (cond (Nat.blt pc 4) (am_lf pc 1 (.ifCond .lt 42) 3) (am_lf pc 4 (.iload_n 1) 1))) (cond (Nat.blt pc 6) (am_lf pc 5 (.aload_n 0) 1) (cond (Nat.blt pc 9) (am_lf pc 6 (.getfield 39) 3) (am_lf pc 9 (.if_icmp .ge 34) 3)))) (cond (Nat.blt pc 17) (cond (Nat.blt pc 13) (am_lf pc 12 (.iload_n 2) 1) (cond (Nat.blt pc 16) (am_lf pc 13 (.ifCond .lt 30) 3) (am_lf pc 16 (.iload_n 2) 1))) (cond (Nat.blt pc 18) (am_lf pc 17 (.aload_n 0) 1) (cond (Nat.blt pc 21) (am_lf pc 18 (.getfield 39) 3) (am_lf pc 21 (.if_icmp .ge 22) 3))))) (cond (Nat.blt pc 34) (cond (Nat.blt pc 29) (cond (Nat.blt pc 25) (am_lf pc 24 (.aload_n 0) 1) (cond (Nat.blt pc 28) (am_lf pc 25 (.getfield 21) 3) (am_lf pc 28 (.iload_n 1) 1))) (cond (Nat.blt pc 30) (am_lf pc 29 .iaload 1) (cond (Nat.blt pc 31) (am_lf pc 30 (.aload_n 0) 1) (am_lf pc 31 (.getfield 21) 3)))) (cond (Nat.blt pc 39) (cond (Nat.blt pc 35) (am_lf pc 34 (.iload_n 2) 1) (cond (Nat.blt pc 36) (am_lf pc 35 .iaload 1) (am_lf pc 36 (.if_icmp .ne 7) 3))) (cond (Nat.blt pc 43) (cond (Nat.blt pc 40) (am_lf pc 39 (.iconst 1) 1) (am_lf pc 40 (.goto 4) 3)) (cond (Nat.blt pc 44) (am_lf pc 43 (.iconst 0) 1) (am_lf pc 44 .ireturn 1)))))))
def tk_X2_laterKept : Nat → Option (Instr × Nat) := am_guard 24 (fun pc => (cond (Nat.blt pc 9) (cond (Nat.blt pc 3) (cond (Nat.blt pc 1) (am_lf pc 0 (.aload_n 0) 1) (cond (Nat.blt pc 2) (am_lf pc 1 (.iload_n 1) 1) (am_lf pc 2 (.iconst 1) 1))) (cond (Nat.blt pc 7) (cond (Nat.blt pc 4) (am_lf pc 3 .iadd 1) (am_lf pc 4 (.invokevirtual 81) 3)) (cond (Nat.blt pc 8) (am_lf pc 7 (.istore_n 2) 1) (am_lf pc 8 (.aload_n 0) 1)))) (cond (Nat.blt pc 17) (cond (Nat.blt pc 11) (cond (Nat.blt pc 10) (am_lf pc 9 (.iload_n 1) 1) (am_lf pc 10 (.iload_n 2) 1)) (cond (Nat.blt pc 14) (am_lf pc 11 (.invokevirtual 65) 3) (am_lf pc 14 (.ifCond .eq 7) 3))) (cond (Nat.blt pc 21) (cond (Nat.blt pc 18) (am_lf pc 17 (.iload_n 2) 1) (am_lf pc 18 (.goto 5) 3)) (cond (Nat.blt pc 23) (am_lf pc 21 (.ldc 60) 2) (am_lf pc 23 .ireturn 1))))))
def tk_X2_keptFrom : Nat → Option (Instr × Nat) := am_guard 35 (fun pc => (cond (Nat.blt pc 18) (cond (Nat.blt pc 7) (cond (Nat.blt pc 2) (cond (Nat.blt pc 1) (am_lf pc 0 (.iload_n 1) 1) (am_lf pc 1 (.iconst 0) 1)) (cond (Nat.blt pc 5) (am_lf pc 2 (.invokestatic 75) 3) (cond (Nat.blt pc 6) (am_lf pc 5 (.istore_n 2) 1) (am_lf pc 6 (.iload_n 2) 1)))) (cond (Nat.blt pc 11) (cond (Nat.blt pc 8) (am_lf pc 7 (.aload_n 0) 1) (am_lf pc 8 (.getfield 39) 3)) (cond (Nat.blt pc 14) (am_lf pc 11 (.if_icmp .ge 21) 3) (cond (Nat.blt pc 15) (am_lf pc 14 (.aload_n 0) 1) (am_lf pc 15 (.getfield 18) 3))))) (cond (Nat.blt pc 25) (cond (Nat.blt pc 20) (cond (Nat.blt pc 19) (am_lf pc 18 (.iload_n 2) 1) (am_lf pc 19 .iaload 1)) (cond (Nat.blt pc 21) (am_lf pc 20 (.iconst 1) 1) (cond (Nat.blt pc 24) (am_lf pc 21 (.if_icmp .ne 5) 3) (am_lf pc 24 (.iload_n 2) 1)))) (cond (Nat.blt pc 29) (cond (Nat.blt pc 26) (am_lf pc 25 .ireturn 1) (am_lf pc 26 (.iinc 2 1) 3)) (cond (Nat.blt pc 32) (am_lf pc 29 (.goto (-23)) 3) (cond (Nat.blt pc 34) (am_lf pc 32 (.ldc 60) 2) (am_lf pc 34 .ireturn 1)))))))
def tk_X1_findMiss : Nat → Option (Instr × Nat) := am_guard 167 (fun pc => (cond (Nat.blt pc 85) (cond (Nat.blt pc 43) (cond (Nat.blt pc 19) (cond (Nat.blt pc 7) (cond (Nat.blt pc 2) (cond (Nat.blt pc 1) (am_lf pc 0 (.aload_n 0) 1) (am_lf pc 1 (.iconst 0) 1)) (cond (Nat.blt pc 5) (am_lf pc 2 (.putfield 15) 3) (cond (Nat.blt pc 6) (am_lf pc 5 (.aload_n 0) 1) (am_lf pc 6 (.iconst 1) 1)))) (cond (Nat.blt pc 14) (cond (Nat.blt pc 10) (am_lf pc 7 (.putfield 19) 3) (cond (Nat.blt pc 11) (am_lf pc 10 (.aload_n 0) 1) (am_lf pc 11 (.getfield 9) 3))) (cond (Nat.blt pc 15) (am_lf pc 14 (.iload_n 1) 1) (cond (Nat.blt pc 16) (am_lf pc 15 (.iload_n 2) 1) (am_lf pc 16 (.invokevirtual 22) 3))))) (cond (Nat.blt pc 31) (cond (Nat.blt pc 26) (cond (Nat.blt pc 22) (am_lf pc 19 (.ifCond .eq 15) 3) (cond (Nat.blt pc 23) (am_lf pc 22 (.aload_n 0) 1) (am_lf pc 23 (.getfield 9) 3))) (cond (Nat.blt pc 27) (am_lf pc 26 (.iload_n 1) 1) (cond (Nat.blt pc 28) (am_lf pc 27 (.iload_n 3) 1) (am_lf pc 28 (.invokevirtual 22) 3)))) (cond (Nat.blt pc 36) (cond (Nat.blt pc 34) (am_lf pc 31 (.ifCond .ne 5) 3) (cond (Nat.blt pc 35) (am_lf pc 34 (.iconst 0) 1) (am_lf pc 35 .ireturn 1))) (cond (Nat.blt pc 37) (am_lf pc 36 (.aload_n 0) 1) (cond (Nat.blt pc 40) (am_lf pc 37 (.getfield 9) 3) (am_lf pc 40 (.invokevirtual 36) 3)))))) (cond (Nat.blt pc 64) (cond (Nat.blt pc 54) (cond (Nat.blt pc 47) (cond (Nat.blt pc 45) (am_lf pc 43 (.istore 4) 2) (am_lf pc 45 (.iload 4) 2)) (cond (Nat.blt pc 50) (am_lf pc 47 (.ifCond .eq 7) 3) (cond (Nat.blt pc 51) (am_lf pc 50 (.iconst 0) 1) (am_lf pc 51 (.goto 22) 3)))) (cond (Nat.blt pc 61) (cond (Nat.blt pc 55) (am_lf pc 54 (.aload_n 0) 1) (cond (Nat.blt pc 58) (am_lf pc 55 (.getfield 9) 3) (am_lf pc 58 (.getfield 33) 3))) (cond (Nat.blt pc 62) (am_lf pc 61 (.iload_n 2) 1) (cond (Nat.blt pc 63) (am_lf pc 62 .iaload 1) (am_lf pc 63 (.aload_n 0) 1))))) (cond (Nat.blt pc 75) (cond (Nat.blt pc 71) (cond (Nat.blt pc 67) (am_lf pc 64 (.getfield 9) 3) (cond (Nat.blt pc 70) (am_lf pc 67 (.getfield 33) 3) (am_lf pc 70 (.iload_n 1) 1))) (cond (Nat.blt pc 72) (am_lf pc 71 .iaload 1) (cond (Nat.blt pc 73) (am_lf pc 72 .isub 1) (am_lf pc 73 (.istore 5) 2)))) (cond (Nat.blt pc 82) (cond (Nat.blt pc 76) (am_lf pc 75 (.aload_n 0) 1) (cond (Nat.blt pc 79) (am_lf pc 76 (.getfield 9) 3) (am_lf pc 79 (.getfield 33) 3))) (cond (Nat.blt pc 83) (am_lf pc 82 (.iload_n 3) 1) (cond (Nat.blt pc 84) (am_lf pc 83 .iaload 1) (am_lf pc 84 (.aload_n 0) 1))))))) (cond (Nat.blt pc 128) (cond (Nat.blt pc 106) (cond (Nat.blt pc 94) (cond (Nat.blt pc 91) (cond (Nat.blt pc 88) (am_lf pc 85 (.getfield 9) 3) (am_lf pc 88 (.getfield 33) 3)) (cond (Nat.blt pc 92) (am_lf pc 91 (.iload_n 1) 1) (cond (Nat.blt pc 93) (am_lf pc 92 .iaload 1) (am_lf pc 93 .isub 1)))) (cond (Nat.blt pc 99) (cond (Nat.blt pc 96) (am_lf pc 94 (.istore 6) 2) (cond (Nat.blt pc 97) (am_lf pc 96 (.aload_n 0) 1) (am_lf pc 97 (.iload 4) 2))) (cond (Nat.blt pc 102) (am_lf pc 99 (.ifCond .eq 7) 3) (cond (Nat.blt pc 103) (am_lf pc 102 (.iconst 1) 1) (am_lf pc 103 (.goto 22) 3))))) (cond (Nat.blt pc 116) (cond (Nat.blt pc 113) (cond (Nat.blt pc 107) (am_lf pc 106 (.aload_n 0) 1) (cond (Nat.blt pc 110) (am_lf pc 107 (.getfield 9) 3) (am_lf pc 110 (.getfield 29) 3))) (cond (Nat.blt pc 114) (am_lf pc 113 (.iload_n 2) 1) (cond (Nat.blt pc 115) (am_lf pc 114 .iaload 1) (am_lf pc 115 (.aload_n 0) 1)))) (cond (Nat.blt pc 123) (cond (Nat.blt pc 119) (am_lf pc 116 (.getfield 9) 3) (cond (Nat.blt pc 122) (am_lf pc 119 (.getfield 29) 3) (am_lf pc 122 (.iload_n 1) 1))) (cond (Nat.blt pc 124) (am_lf pc 123 .iaload 1) (cond (Nat.blt pc 125) (am_lf pc 124 .isub 1) (am_lf pc 125 (.putfield 19) 3)))))) (cond (Nat.blt pc 147) (cond (Nat.blt pc 136) (cond (Nat.blt pc 131) (cond (Nat.blt pc 129) (am_lf pc 128 (.aload_n 0) 1) (am_lf pc 129 (.iload 6) 2)) (cond (Nat.blt pc 132) (am_lf pc 131 (.aload_n 0) 1) (cond (Nat.blt pc 135) (am_lf pc 132 (.getfield 19) 3) (am_lf pc 135 .imul 1)))) (cond (Nat.blt pc 142) (cond (Nat.blt pc 138) (am_lf pc 136 (.iload 5) 2) (cond (Nat.blt pc 139) (am_lf pc 138 (.aload_n 0) 1) (am_lf pc 139 (.getfield 9) 3))) (cond (Nat.blt pc 145) (am_lf pc 142 (.getfield 29) 3) (cond (Nat.blt pc 146) (am_lf pc 145 (.iload_n 3) 1) (am_lf pc 146 .iaload 1))))) (cond (Nat.blt pc 157) (cond (Nat.blt pc 154) (cond (Nat.blt pc 148) (am_lf pc 147 (.aload_n 0) 1) (cond (Nat.blt pc 151) (am_lf pc 148 (.getfield 9) 3) (am_lf pc 151 (.getfield 29) 3))) (cond (Nat.blt pc 155) (am_lf pc 154 (.iload_n 1) 1) (cond (Nat.blt pc 156) (am_lf pc 155 .iaload 1) (am_lf pc 156 .isub 1)))) (cond (Nat.blt pc 162) (cond (Nat.blt pc 158) (am_lf pc 157 .imul 1) (cond (Nat.blt pc 159) (am_lf pc 158 .isub 1) (am_lf pc 159 (.invokestatic 52) 3))) (cond (Nat.blt pc 165) (am_lf pc 162 (.putfield 15) 3) (cond (Nat.blt pc 166) (am_lf pc 165 (.iconst 1) 1) (am_lf pc 166 .ireturn 1)))))))))
def tk_X2_isStep : Nat → Option (Instr × Nat) := am_guard 16 (fun pc => (cond (Nat.blt pc 7) (cond (Nat.blt pc 4) (cond (Nat.blt pc 1) (am_lf pc 0 (.aload_n 0) 1) (am_lf pc 1 (.getfield 24) 3)) (cond (Nat.blt pc 5) (am_lf pc 4 (.iconst 2) 1) (cond (Nat.blt pc 6) (am_lf pc 5 .iaload 1) (am_lf pc 6 (.iconst 1) 1)))) (cond (Nat.blt pc 11) (cond (Nat.blt pc 10) (am_lf pc 7 (.if_icmp .ne 7) 3) (am_lf pc 10 (.iconst 1) 1)) (cond (Nat.blt pc 14) (am_lf pc 11 (.goto 4) 3) (cond (Nat.blt pc 15) (am_lf pc 14 (.iconst 0) 1) (am_lf pc 15 .ireturn 1))))))
def tk_X5_strike : Nat → Option (Instr × Nat) := am_guard 92 (fun pc => (cond (Nat.blt pc 46) (cond (Nat.blt pc 20) (cond (Nat.blt pc 12) (cond (Nat.blt pc 5) (cond (Nat.blt pc 1) (am_lf pc 0 (.aload_n 0) 1) (cond (Nat.blt pc 4) (am_lf pc 1 (.getfield 37) 3) (am_lf pc 4 (.aload_n 0) 1))) (cond (Nat.blt pc 8) (am_lf pc 5 (.getfield 10) 3) (cond (Nat.blt pc 11) (am_lf pc 8 (.invokevirtual 78) 3) (am_lf pc 11 (.iconst 0) 1)))) (cond (Nat.blt pc 15) (cond (Nat.blt pc 13) (am_lf pc 12 (.istore_n 1) 1) (cond (Nat.blt pc 14) (am_lf pc 13 (.iconst 0) 1) (am_lf pc 14 (.istore_n 2) 1))) (cond (Nat.blt pc 16) (am_lf pc 15 (.iload_n 2) 1) (cond (Nat.blt pc 17) (am_lf pc 16 (.aload_n 0) 1) (am_lf pc 17 (.getfield 10) 3))))) (cond (Nat.blt pc 34) (cond (Nat.blt pc 27) (cond (Nat.blt pc 23) (am_lf pc 20 (.getfield 156) 3) (cond (Nat.blt pc 26) (am_lf pc 23 (.if_icmp .ge 59) 3) (am_lf pc 26 (.aload_n 0) 1))) (cond (Nat.blt pc 30) (am_lf pc 27 (.getfield 21) 3) (cond (Nat.blt pc 31) (am_lf pc 30 (.iload_n 2) 1) (am_lf pc 31 (.invokevirtual 167) 3)))) (cond (Nat.blt pc 41) (cond (Nat.blt pc 37) (am_lf pc 34 (.ifCond .ne 42) 3) (cond (Nat.blt pc 38) (am_lf pc 37 (.aload_n 0) 1) (am_lf pc 38 (.getfield 10) 3))) (cond (Nat.blt pc 44) (am_lf pc 41 (.getfield 161) 3) (cond (Nat.blt pc 45) (am_lf pc 44 (.iload_n 1) 1) (am_lf pc 45 (.aload_n 0) 1)))))) (cond (Nat.blt pc 70) (cond (Nat.blt pc 56) (cond (Nat.blt pc 53) (cond (Nat.blt pc 49) (am_lf pc 46 (.getfield 10) 3) (cond (Nat.blt pc 52) (am_lf pc 49 (.getfield 161) 3) (am_lf pc 52 (.iload_n 2) 1))) (cond (Nat.blt pc 54) (am_lf pc 53 .iaload 1) (cond (Nat.blt pc 55) (am_lf pc 54 .iastore 1) (am_lf pc 55 (.aload_n 0) 1)))) (cond (Nat.blt pc 63) (cond (Nat.blt pc 59) (am_lf pc 56 (.getfield 10) 3) (cond (Nat.blt pc 62) (am_lf pc 59 (.getfield 164) 3) (am_lf pc 62 (.iload_n 1) 1))) (cond (Nat.blt pc 64) (am_lf pc 63 (.aload_n 0) 1) (cond (Nat.blt pc 67) (am_lf pc 64 (.getfield 10) 3) (am_lf pc 67 (.getfield 164) 3))))) (cond (Nat.blt pc 82) (cond (Nat.blt pc 73) (cond (Nat.blt pc 71) (am_lf pc 70 (.iload_n 2) 1) (cond (Nat.blt pc 72) (am_lf pc 71 .iaload 1) (am_lf pc 72 .iastore 1))) (cond (Nat.blt pc 76) (am_lf pc 73 (.iinc 1 1) 3) (cond (Nat.blt pc 79) (am_lf pc 76 (.iinc 2 1) 3) (am_lf pc 79 (.goto (-64)) 3)))) (cond (Nat.blt pc 87) (cond (Nat.blt pc 83) (am_lf pc 82 (.aload_n 0) 1) (cond (Nat.blt pc 86) (am_lf pc 83 (.getfield 10) 3) (am_lf pc 86 (.iload_n 1) 1))) (cond (Nat.blt pc 90) (am_lf pc 87 (.putfield 156) 3) (cond (Nat.blt pc 91) (am_lf pc 90 (.iload_n 1) 1) (am_lf pc 91 .ireturn 1))))))))
def tk_X1_isTrue : Nat → Option (Instr × Nat) := am_guard 78 (fun pc => (cond (Nat.blt pc 41) (cond (Nat.blt pc 20) (cond (Nat.blt pc 9) (cond (Nat.blt pc 4) (cond (Nat.blt pc 1) (am_lf pc 0 (.iload_n 1) 1) (am_lf pc 1 (.ifCond .lt 30) 3)) (cond (Nat.blt pc 5) (am_lf pc 4 (.iload_n 1) 1) (cond (Nat.blt pc 6) (am_lf pc 5 (.aload_n 0) 1) (am_lf pc 6 (.getfield 9) 3)))) (cond (Nat.blt pc 15) (cond (Nat.blt pc 12) (am_lf pc 9 (.getfield 85) 3) (am_lf pc 12 (.if_icmp .ge 19) 3)) (cond (Nat.blt pc 16) (am_lf pc 15 (.aload_n 0) 1) (cond (Nat.blt pc 17) (am_lf pc 16 (.aload_n 0) 1) (am_lf pc 17 (.getfield 9) 3))))) (cond (Nat.blt pc 31) (cond (Nat.blt pc 24) (cond (Nat.blt pc 23) (am_lf pc 20 (.getfield 88) 3) (am_lf pc 23 (.iload_n 1) 1)) (cond (Nat.blt pc 25) (am_lf pc 24 .iaload 1) (cond (Nat.blt pc 28) (am_lf pc 25 (.invokevirtual 91) 3) (am_lf pc 28 (.ifCond .ne 5) 3)))) (cond (Nat.blt pc 34) (cond (Nat.blt pc 32) (am_lf pc 31 (.iconst 0) 1) (cond (Nat.blt pc 33) (am_lf pc 32 .ireturn 1) (am_lf pc 33 (.aload_n 0) 1))) (cond (Nat.blt pc 37) (am_lf pc 34 (.getfield 9) 3) (cond (Nat.blt pc 40) (am_lf pc 37 (.getfield 94) 3) (am_lf pc 40 (.iload_n 1) 1)))))) (cond (Nat.blt pc 59) (cond (Nat.blt pc 48) (cond (Nat.blt pc 43) (cond (Nat.blt pc 42) (am_lf pc 41 .iaload 1) (am_lf pc 42 (.aload_n 0) 1)) (cond (Nat.blt pc 46) (am_lf pc 43 (.getfield 19) 3) (cond (Nat.blt pc 47) (am_lf pc 46 .imul 1) (am_lf pc 47 (.aload_n 0) 1)))) (cond (Nat.blt pc 52) (cond (Nat.blt pc 51) (am_lf pc 48 (.getfield 15) 3) (am_lf pc 51 .isub 1)) (cond (Nat.blt pc 55) (am_lf pc 52 (.invokestatic 52) 3) (cond (Nat.blt pc 56) (am_lf pc 55 (.aload_n 0) 1) (am_lf pc 56 (.getfield 9) 3))))) (cond (Nat.blt pc 68) (cond (Nat.blt pc 63) (cond (Nat.blt pc 62) (am_lf pc 59 (.getfield 49) 3) (am_lf pc 62 (.iconst 0) 1)) (cond (Nat.blt pc 64) (am_lf pc 63 .iaload 1) (cond (Nat.blt pc 65) (am_lf pc 64 (.aload_n 0) 1) (am_lf pc 65 (.getfield 19) 3)))) (cond (Nat.blt pc 73) (cond (Nat.blt pc 69) (am_lf pc 68 .imul 1) (cond (Nat.blt pc 72) (am_lf pc 69 (.if_icmp .gt 7) 3) (am_lf pc 72 (.iconst 1) 1))) (cond (Nat.blt pc 76) (am_lf pc 73 (.goto 4) 3) (cond (Nat.blt pc 77) (am_lf pc 76 (.iconst 0) 1) (am_lf pc 77 .ireturn 1))))))))
def tk_X1_findReading : Nat → Option (Instr × Nat) := am_guard 199 (fun pc => (cond (Nat.blt pc 102) (cond (Nat.blt pc 51) (cond (Nat.blt pc 27) (cond (Nat.blt pc 10) (cond (Nat.blt pc 5) (cond (Nat.blt pc 1) (am_lf pc 0 (.aload_n 0) 1) (cond (Nat.blt pc 4) (am_lf pc 1 (.getfield 9) 3) (am_lf pc 4 (.iload_n 1) 1))) (cond (Nat.blt pc 8) (am_lf pc 5 (.invokevirtual 76) 3) (cond (Nat.blt pc 9) (am_lf pc 8 (.istore_n 2) 1) (am_lf pc 9 (.aload_n 0) 1)))) (cond (Nat.blt pc 17) (cond (Nat.blt pc 13) (am_lf pc 10 (.getfield 9) 3) (cond (Nat.blt pc 14) (am_lf pc 13 (.iload_n 2) 1) (am_lf pc 14 (.invokevirtual 60) 3))) (cond (Nat.blt pc 21) (cond (Nat.blt pc 20) (am_lf pc 17 (.ifCond .eq 36) 3) (am_lf pc 20 (.aload_n 0) 1)) (cond (Nat.blt pc 24) (am_lf pc 21 (.getfield 9) 3) (am_lf pc 24 (.getfield 29) 3))))) (cond (Nat.blt pc 38) (cond (Nat.blt pc 30) (cond (Nat.blt pc 28) (am_lf pc 27 (.iload_n 2) 1) (cond (Nat.blt pc 29) (am_lf pc 28 .iaload 1) (am_lf pc 29 (.iload_n 1) 1))) (cond (Nat.blt pc 34) (cond (Nat.blt pc 33) (am_lf pc 30 (.if_icmp .ne 23) 3) (am_lf pc 33 (.aload_n 0) 1)) (cond (Nat.blt pc 35) (am_lf pc 34 (.aload_n 0) 1) (am_lf pc 35 (.getfield 9) 3)))) (cond (Nat.blt pc 43) (cond (Nat.blt pc 41) (am_lf pc 38 (.getfield 33) 3) (cond (Nat.blt pc 42) (am_lf pc 41 (.iload_n 2) 1) (am_lf pc 42 .iaload 1))) (cond (Nat.blt pc 47) (cond (Nat.blt pc 46) (am_lf pc 43 (.putfield 15) 3) (am_lf pc 46 (.aload_n 0) 1)) (cond (Nat.blt pc 48) (am_lf pc 47 (.iconst 1) 1) (am_lf pc 48 (.putfield 19) 3)))))) (cond (Nat.blt pc 73) (cond (Nat.blt pc 61) (cond (Nat.blt pc 54) (cond (Nat.blt pc 52) (am_lf pc 51 (.iconst 1) 1) (cond (Nat.blt pc 53) (am_lf pc 52 .ireturn 1) (am_lf pc 53 (.aload_n 0) 1))) (cond (Nat.blt pc 57) (am_lf pc 54 (.getfield 9) 3) (cond (Nat.blt pc 58) (am_lf pc 57 (.iload_n 2) 1) (am_lf pc 58 (.invokevirtual 79) 3)))) (cond (Nat.blt pc 66) (cond (Nat.blt pc 62) (am_lf pc 61 (.istore_n 3) 1) (cond (Nat.blt pc 63) (am_lf pc 62 (.aload_n 0) 1) (am_lf pc 63 (.getfield 9) 3))) (cond (Nat.blt pc 70) (cond (Nat.blt pc 67) (am_lf pc 66 (.iload_n 2) 1) (am_lf pc 67 (.invokevirtual 82) 3)) (cond (Nat.blt pc 72) (am_lf pc 70 (.istore 4) 2) (am_lf pc 72 (.aload_n 0) 1))))) (cond (Nat.blt pc 87) (cond (Nat.blt pc 79) (cond (Nat.blt pc 76) (am_lf pc 73 (.getfield 9) 3) (cond (Nat.blt pc 77) (am_lf pc 76 (.iload_n 3) 1) (am_lf pc 77 (.iload 4) 2))) (cond (Nat.blt pc 85) (cond (Nat.blt pc 82) (am_lf pc 79 (.invokevirtual 22) 3) (am_lf pc 82 (.ifCond .ne 5) 3)) (cond (Nat.blt pc 86) (am_lf pc 85 (.iconst 0) 1) (am_lf pc 86 .ireturn 1)))) (cond (Nat.blt pc 94) (cond (Nat.blt pc 88) (am_lf pc 87 (.aload_n 0) 1) (cond (Nat.blt pc 91) (am_lf pc 88 (.getfield 9) 3) (am_lf pc 91 (.invokevirtual 36) 3))) (cond (Nat.blt pc 98) (cond (Nat.blt pc 96) (am_lf pc 94 (.istore 5) 2) (am_lf pc 96 (.iload 5) 2)) (cond (Nat.blt pc 101) (am_lf pc 98 (.ifCond .eq 7) 3) (am_lf pc 101 (.iconst 0) 1))))))) (cond (Nat.blt pc 155) (cond (Nat.blt pc 127) (cond (Nat.blt pc 115) (cond (Nat.blt pc 109) (cond (Nat.blt pc 105) (am_lf pc 102 (.goto 23) 3) (cond (Nat.blt pc 106) (am_lf pc 105 (.aload_n 0) 1) (am_lf pc 106 (.getfield 9) 3))) (cond (Nat.blt pc 112) (am_lf pc 109 (.getfield 33) 3) (cond (Nat.blt pc 114) (am_lf pc 112 (.iload 4) 2) (am_lf pc 114 .iaload 1)))) (cond (Nat.blt pc 122) (cond (Nat.blt pc 116) (am_lf pc 115 (.aload_n 0) 1) (cond (Nat.blt pc 119) (am_lf pc 116 (.getfield 9) 3) (am_lf pc 119 (.getfield 33) 3))) (cond (Nat.blt pc 124) (cond (Nat.blt pc 123) (am_lf pc 122 (.iload_n 3) 1) (am_lf pc 123 .iaload 1)) (cond (Nat.blt pc 125) (am_lf pc 124 .isub 1) (am_lf pc 125 (.istore 6) 2))))) (cond (Nat.blt pc 141) (cond (Nat.blt pc 133) (cond (Nat.blt pc 128) (am_lf pc 127 (.aload_n 0) 1) (cond (Nat.blt pc 130) (am_lf pc 128 (.iload 5) 2) (am_lf pc 130 (.ifCond .eq 7) 3))) (cond (Nat.blt pc 137) (cond (Nat.blt pc 134) (am_lf pc 133 (.iconst 1) 1) (am_lf pc 134 (.goto 23) 3)) (cond (Nat.blt pc 138) (am_lf pc 137 (.aload_n 0) 1) (am_lf pc 138 (.getfield 9) 3)))) (cond (Nat.blt pc 147) (cond (Nat.blt pc 144) (am_lf pc 141 (.getfield 29) 3) (cond (Nat.blt pc 146) (am_lf pc 144 (.iload 4) 2) (am_lf pc 146 .iaload 1))) (cond (Nat.blt pc 151) (cond (Nat.blt pc 148) (am_lf pc 147 (.aload_n 0) 1) (am_lf pc 148 (.getfield 9) 3)) (cond (Nat.blt pc 154) (am_lf pc 151 (.getfield 29) 3) (am_lf pc 154 (.iload_n 3) 1)))))) (cond (Nat.blt pc 177) (cond (Nat.blt pc 165) (cond (Nat.blt pc 160) (cond (Nat.blt pc 156) (am_lf pc 155 .iaload 1) (cond (Nat.blt pc 157) (am_lf pc 156 .isub 1) (am_lf pc 157 (.putfield 19) 3))) (cond (Nat.blt pc 161) (am_lf pc 160 (.aload_n 0) 1) (cond (Nat.blt pc 162) (am_lf pc 161 (.aload_n 0) 1) (am_lf pc 162 (.getfield 9) 3)))) (cond (Nat.blt pc 170) (cond (Nat.blt pc 168) (am_lf pc 165 (.getfield 33) 3) (cond (Nat.blt pc 169) (am_lf pc 168 (.iload_n 3) 1) (am_lf pc 169 .iaload 1))) (cond (Nat.blt pc 174) (cond (Nat.blt pc 171) (am_lf pc 170 (.aload_n 0) 1) (am_lf pc 171 (.getfield 19) 3)) (cond (Nat.blt pc 175) (am_lf pc 174 .imul 1) (am_lf pc 175 (.iload 6) 2))))) (cond (Nat.blt pc 188) (cond (Nat.blt pc 182) (cond (Nat.blt pc 178) (am_lf pc 177 (.iload_n 1) 1) (cond (Nat.blt pc 179) (am_lf pc 178 (.aload_n 0) 1) (am_lf pc 179 (.getfield 9) 3))) (cond (Nat.blt pc 186) (cond (Nat.blt pc 185) (am_lf pc 182 (.getfield 29) 3) (am_lf pc 185 (.iload_n 3) 1)) (cond (Nat.blt pc 187) (am_lf pc 186 .iaload 1) (am_lf pc 187 .isub 1)))) (cond (Nat.blt pc 193) (cond (Nat.blt pc 189) (am_lf pc 188 .imul 1) (cond (Nat.blt pc 190) (am_lf pc 189 .iadd 1) (am_lf pc 190 (.putfield 15) 3))) (cond (Nat.blt pc 197) (cond (Nat.blt pc 194) (am_lf pc 193 (.aload_n 0) 1) (am_lf pc 194 (.invokevirtual 73) 3)) (cond (Nat.blt pc 198) (am_lf pc 197 (.iconst 1) 1) (am_lf pc 198 .ireturn 1)))))))))
def tk_X2_placeOf : Nat → Option (Instr × Nat) := am_guard 33 (fun pc => (cond (Nat.blt pc 15) (cond (Nat.blt pc 4) (cond (Nat.blt pc 2) (cond (Nat.blt pc 1) (am_lf pc 0 (.iconst 0) 1) (am_lf pc 1 (.istore_n 2) 1)) (cond (Nat.blt pc 3) (am_lf pc 2 (.iload_n 2) 1) (am_lf pc 3 (.aload_n 0) 1))) (cond (Nat.blt pc 10) (cond (Nat.blt pc 7) (am_lf pc 4 (.getfield 39) 3) (am_lf pc 7 (.if_icmp .ge 21) 3)) (cond (Nat.blt pc 11) (am_lf pc 10 (.aload_n 0) 1) (cond (Nat.blt pc 14) (am_lf pc 11 (.getfield 9) 3) (am_lf pc 14 (.iload_n 2) 1))))) (cond (Nat.blt pc 22) (cond (Nat.blt pc 17) (cond (Nat.blt pc 16) (am_lf pc 15 .iaload 1) (am_lf pc 16 (.iload_n 1) 1)) (cond (Nat.blt pc 20) (am_lf pc 17 (.if_icmp .lt 5) 3) (cond (Nat.blt pc 21) (am_lf pc 20 (.iload_n 2) 1) (am_lf pc 21 .ireturn 1)))) (cond (Nat.blt pc 28) (cond (Nat.blt pc 25) (am_lf pc 22 (.iinc 2 1) 3) (am_lf pc 25 (.goto (-23)) 3)) (cond (Nat.blt pc 29) (am_lf pc 28 (.aload_n 0) 1) (cond (Nat.blt pc 32) (am_lf pc 29 (.getfield 39) 3) (am_lf pc 32 .ireturn 1)))))))
def tk_X1_shorten : Nat → Option (Instr × Nat) := am_guard 40 (fun pc => (cond (Nat.blt pc 21) (cond (Nat.blt pc 11) (cond (Nat.blt pc 4) (cond (Nat.blt pc 1) (am_lf pc 0 (.aload_n 0) 1) (am_lf pc 1 (.getfield 15) 3)) (cond (Nat.blt pc 7) (am_lf pc 4 (.invokestatic 52) 3) (cond (Nat.blt pc 8) (am_lf pc 7 (.aload_n 0) 1) (am_lf pc 8 (.getfield 19) 3)))) (cond (Nat.blt pc 16) (cond (Nat.blt pc 14) (am_lf pc 11 (.invokestatic 103) 3) (cond (Nat.blt pc 15) (am_lf pc 14 (.istore_n 1) 1) (am_lf pc 15 (.iload_n 1) 1))) (cond (Nat.blt pc 19) (am_lf pc 16 (.ifCond .le 23) 3) (cond (Nat.blt pc 20) (am_lf pc 19 (.aload_n 0) 1) (am_lf pc 20 .dup 1))))) (cond (Nat.blt pc 30) (cond (Nat.blt pc 25) (cond (Nat.blt pc 24) (am_lf pc 21 (.getfield 15) 3) (am_lf pc 24 (.iload_n 1) 1)) (cond (Nat.blt pc 26) (am_lf pc 25 .idiv 1) (cond (Nat.blt pc 29) (am_lf pc 26 (.putfield 15) 3) (am_lf pc 29 (.aload_n 0) 1)))) (cond (Nat.blt pc 35) (cond (Nat.blt pc 31) (am_lf pc 30 .dup 1) (cond (Nat.blt pc 34) (am_lf pc 31 (.getfield 19) 3) (am_lf pc 34 (.iload_n 1) 1))) (cond (Nat.blt pc 36) (am_lf pc 35 .idiv 1) (cond (Nat.blt pc 39) (am_lf pc 36 (.putfield 19) 3) (am_lf pc 39 .return_ 1)))))))
def tk_X1_commonDivisor : Nat → Option (Instr × Nat) := am_guard 36 (fun pc => (cond (Nat.blt pc 18) (cond (Nat.blt pc 5) (cond (Nat.blt pc 2) (cond (Nat.blt pc 1) (am_lf pc 0 (.iload_n 0) 1) (am_lf pc 1 (.istore_n 2) 1)) (cond (Nat.blt pc 3) (am_lf pc 2 (.iload_n 1) 1) (cond (Nat.blt pc 4) (am_lf pc 3 (.istore_n 3) 1) (am_lf pc 4 (.iconst 0) 1)))) (cond (Nat.blt pc 11) (cond (Nat.blt pc 7) (am_lf pc 5 (.istore 4) 2) (cond (Nat.blt pc 9) (am_lf pc 7 (.iload 4) 2) (am_lf pc 9 (.bipush 50) 2))) (cond (Nat.blt pc 14) (am_lf pc 11 (.if_icmp .ge 23) 3) (cond (Nat.blt pc 15) (am_lf pc 14 (.iload_n 3) 1) (am_lf pc 15 (.ifCond .eq 19) 3))))) (cond (Nat.blt pc 25) (cond (Nat.blt pc 21) (cond (Nat.blt pc 19) (am_lf pc 18 (.iload_n 2) 1) (cond (Nat.blt pc 20) (am_lf pc 19 (.iload_n 3) 1) (am_lf pc 20 .irem 1))) (cond (Nat.blt pc 23) (am_lf pc 21 (.istore 5) 2) (cond (Nat.blt pc 24) (am_lf pc 23 (.iload_n 3) 1) (am_lf pc 24 (.istore_n 2) 1)))) (cond (Nat.blt pc 31) (cond (Nat.blt pc 27) (am_lf pc 25 (.iload 5) 2) (cond (Nat.blt pc 28) (am_lf pc 27 (.istore_n 3) 1) (am_lf pc 28 (.iinc 4 1) 3))) (cond (Nat.blt pc 34) (am_lf pc 31 (.goto (-24)) 3) (cond (Nat.blt pc 35) (am_lf pc 34 (.iload_n 2) 1) (am_lf pc 35 .ireturn 1)))))))
def tk_X5_clearBuffer : Nat → Option (Instr × Nat) := am_guard 18 (fun pc => (cond (Nat.blt pc 9) (cond (Nat.blt pc 4) (cond (Nat.blt pc 1) (am_lf pc 0 (.aload_n 0) 1) (am_lf pc 1 (.getfield 44) 3)) (cond (Nat.blt pc 7) (am_lf pc 4 (.getfield 172) 3) (cond (Nat.blt pc 8) (am_lf pc 7 (.istore_n 1) 1) (am_lf pc 8 (.aload_n 0) 1)))) (cond (Nat.blt pc 13) (cond (Nat.blt pc 12) (am_lf pc 9 (.getfield 44) 3) (am_lf pc 12 (.iconst 0) 1)) (cond (Nat.blt pc 16) (am_lf pc 13 (.putfield 172) 3) (cond (Nat.blt pc 17) (am_lf pc 16 (.iload_n 1) 1) (am_lf pc 17 .ireturn 1))))))
def tk_X5_firstError : Nat → Option (Instr × Nat) := am_guard 8 (fun pc => (cond (Nat.blt pc 4) (cond (Nat.blt pc 1) (am_lf pc 0 (.aload_n 0) 1) (am_lf pc 1 (.getfield 44) 3)) (cond (Nat.blt pc 7) (am_lf pc 4 (.invokevirtual 180) 3) (am_lf pc 7 .ireturn 1))))
def tk_X3_goodLength : Nat → Option (Instr × Nat) := am_guard 41 (fun pc => (cond (Nat.blt pc 18) (cond (Nat.blt pc 6) (cond (Nat.blt pc 3) (cond (Nat.blt pc 1) (am_lf pc 0 (.iconst 0) 1) (cond (Nat.blt pc 2) (am_lf pc 1 (.istore_n 1) 1) (am_lf pc 2 (.iconst 0) 1))) (cond (Nat.blt pc 4) (am_lf pc 3 (.istore_n 2) 1) (cond (Nat.blt pc 5) (am_lf pc 4 (.iload_n 2) 1) (am_lf pc 5 (.aload_n 0) 1)))) (cond (Nat.blt pc 13) (cond (Nat.blt pc 9) (am_lf pc 6 (.getfield 21) 3) (cond (Nat.blt pc 12) (am_lf pc 9 (.if_icmp .ge 27) 3) (am_lf pc 12 (.iload_n 1) 1))) (cond (Nat.blt pc 14) (am_lf pc 13 (.aload_n 0) 1) (cond (Nat.blt pc 17) (am_lf pc 14 (.getfield 9) 3) (am_lf pc 17 (.iload_n 2) 1))))) (cond (Nat.blt pc 28) (cond (Nat.blt pc 23) (cond (Nat.blt pc 19) (am_lf pc 18 .iaload 1) (cond (Nat.blt pc 22) (am_lf pc 19 (.invokestatic 25) 3) (am_lf pc 22 (.istore_n 1) 1))) (cond (Nat.blt pc 24) (am_lf pc 23 (.iload_n 1) 1) (cond (Nat.blt pc 25) (am_lf pc 24 (.iconst (-1)) 1) (am_lf pc 25 (.if_icmp .ne 5) 3)))) (cond (Nat.blt pc 33) (cond (Nat.blt pc 29) (am_lf pc 28 (.iload_n 2) 1) (cond (Nat.blt pc 30) (am_lf pc 29 .ireturn 1) (am_lf pc 30 (.iinc 2 1) 3))) (cond (Nat.blt pc 37) (cond (Nat.blt pc 36) (am_lf pc 33 (.goto (-29)) 3) (am_lf pc 36 (.aload_n 0) 1)) (cond (Nat.blt pc 40) (am_lf pc 37 (.getfield 21) 3) (am_lf pc 40 .ireturn 1)))))))
def tk_X3_placeAfter : Nat → Option (Instr × Nat) := am_guard 135 (fun pc => (cond (Nat.blt pc 66) (cond (Nat.blt pc 31) (cond (Nat.blt pc 13) (cond (Nat.blt pc 6) (cond (Nat.blt pc 4) (cond (Nat.blt pc 1) (am_lf pc 0 (.iload_n 0) 1) (am_lf pc 1 (.ifCond .ne 10) 3)) (cond (Nat.blt pc 5) (am_lf pc 4 (.iload_n 1) 1) (am_lf pc 5 (.iconst 1) 1))) (cond (Nat.blt pc 10) (cond (Nat.blt pc 7) (am_lf pc 6 (.iconst 2) 1) (am_lf pc 7 (.invokestatic 36) 3)) (cond (Nat.blt pc 11) (am_lf pc 10 .ireturn 1) (cond (Nat.blt pc 12) (am_lf pc 11 (.iload_n 0) 1) (am_lf pc 12 (.iconst 5) 1))))) (cond (Nat.blt pc 24) (cond (Nat.blt pc 17) (cond (Nat.blt pc 16) (am_lf pc 13 (.if_icmp .gt 47) 3) (am_lf pc 16 (.iload_n 1) 1)) (cond (Nat.blt pc 19) (am_lf pc 17 (.bipush 58) 2) (cond (Nat.blt pc 22) (am_lf pc 19 (.if_icmp .ne 6) 3) (am_lf pc 22 (.bipush 6) 2)))) (cond (Nat.blt pc 26) (cond (Nat.blt pc 25) (am_lf pc 24 .ireturn 1) (am_lf pc 25 (.iload_n 0) 1)) (cond (Nat.blt pc 27) (am_lf pc 26 (.iconst 1) 1) (cond (Nat.blt pc 30) (am_lf pc 27 (.if_icmp .eq 8) 3) (am_lf pc 30 (.iload_n 0) 1)))))) (cond (Nat.blt pc 49) (cond (Nat.blt pc 40) (cond (Nat.blt pc 35) (cond (Nat.blt pc 32) (am_lf pc 31 (.iconst 5) 1) (am_lf pc 32 (.if_icmp .ne 7) 3)) (cond (Nat.blt pc 36) (am_lf pc 35 (.iconst 1) 1) (cond (Nat.blt pc 39) (am_lf pc 36 (.goto 4) 3) (am_lf pc 39 (.iconst 0) 1)))) (cond (Nat.blt pc 42) (cond (Nat.blt pc 41) (am_lf pc 40 (.istore_n 2) 1) (am_lf pc 41 (.iload_n 2) 1)) (cond (Nat.blt pc 45) (am_lf pc 42 (.ifCond .ne 16) 3) (cond (Nat.blt pc 46) (am_lf pc 45 (.iload_n 1) 1) (am_lf pc 46 (.invokestatic 40) 3))))) (cond (Nat.blt pc 58) (cond (Nat.blt pc 53) (cond (Nat.blt pc 52) (am_lf pc 49 (.ifCond .eq 9) 3) (am_lf pc 52 (.iload_n 0) 1)) (cond (Nat.blt pc 54) (am_lf pc 53 (.iconst 1) 1) (cond (Nat.blt pc 55) (am_lf pc 54 .iadd 1) (am_lf pc 55 (.goto 4) 3)))) (cond (Nat.blt pc 60) (cond (Nat.blt pc 59) (am_lf pc 58 (.iconst (-1)) 1) (am_lf pc 59 .ireturn 1)) (cond (Nat.blt pc 61) (am_lf pc 60 (.iload_n 0) 1) (cond (Nat.blt pc 63) (am_lf pc 61 (.bipush 6) 2) (am_lf pc 63 (.if_icmp .ne 12) 3))))))) (cond (Nat.blt pc 99) (cond (Nat.blt pc 82) (cond (Nat.blt pc 74) (cond (Nat.blt pc 69) (cond (Nat.blt pc 67) (am_lf pc 66 (.iload_n 1) 1) (am_lf pc 67 (.bipush 45) 2)) (cond (Nat.blt pc 72) (am_lf pc 69 (.if_icmp .ne 6) 3) (am_lf pc 72 (.bipush 7) 2))) (cond (Nat.blt pc 76) (cond (Nat.blt pc 75) (am_lf pc 74 .ireturn 1) (am_lf pc 75 (.iload_n 0) 1)) (cond (Nat.blt pc 78) (am_lf pc 76 (.bipush 7) 2) (cond (Nat.blt pc 81) (am_lf pc 78 (.if_icmp .gt 12) 3) (am_lf pc 81 (.iload_n 1) 1))))) (cond (Nat.blt pc 91) (cond (Nat.blt pc 86) (cond (Nat.blt pc 84) (am_lf pc 82 (.bipush 8) 2) (am_lf pc 84 (.bipush 9) 2)) (cond (Nat.blt pc 89) (am_lf pc 86 (.invokestatic 36) 3) (cond (Nat.blt pc 90) (am_lf pc 89 .ireturn 1) (am_lf pc 90 (.iload_n 1) 1)))) (cond (Nat.blt pc 96) (cond (Nat.blt pc 93) (am_lf pc 91 (.bipush 44) 2) (am_lf pc 93 (.if_icmp .ne 5) 3)) (cond (Nat.blt pc 97) (am_lf pc 96 (.iconst 0) 1) (cond (Nat.blt pc 98) (am_lf pc 97 .ireturn 1) (am_lf pc 98 (.iload_n 0) 1)))))) (cond (Nat.blt pc 117) (cond (Nat.blt pc 110) (cond (Nat.blt pc 104) (cond (Nat.blt pc 101) (am_lf pc 99 (.bipush 8) 2) (am_lf pc 101 (.if_icmp .eq 9) 3)) (cond (Nat.blt pc 105) (am_lf pc 104 (.iload_n 0) 1) (cond (Nat.blt pc 107) (am_lf pc 105 (.bipush 11) 2) (am_lf pc 107 (.if_icmp .ne 7) 3)))) (cond (Nat.blt pc 114) (cond (Nat.blt pc 111) (am_lf pc 110 (.iconst 1) 1) (am_lf pc 111 (.goto 4) 3)) (cond (Nat.blt pc 115) (am_lf pc 114 (.iconst 0) 1) (cond (Nat.blt pc 116) (am_lf pc 115 (.istore_n 2) 1) (am_lf pc 116 (.iload_n 2) 1))))) (cond (Nat.blt pc 128) (cond (Nat.blt pc 121) (cond (Nat.blt pc 120) (am_lf pc 117 (.ifCond .ne 16) 3) (am_lf pc 120 (.iload_n 1) 1)) (cond (Nat.blt pc 124) (am_lf pc 121 (.invokestatic 40) 3) (cond (Nat.blt pc 127) (am_lf pc 124 (.ifCond .eq 9) 3) (am_lf pc 127 (.iload_n 0) 1)))) (cond (Nat.blt pc 130) (cond (Nat.blt pc 129) (am_lf pc 128 (.iconst 1) 1) (am_lf pc 129 .iadd 1)) (cond (Nat.blt pc 133) (am_lf pc 130 (.goto 4) 3) (cond (Nat.blt pc 134) (am_lf pc 133 (.iconst (-1)) 1) (am_lf pc 134 .ireturn 1)))))))))
def tk_X3_placeAfterFirstDigit : Nat → Option (Instr × Nat) := am_guard 21 (fun pc => (cond (Nat.blt pc 9) (cond (Nat.blt pc 6) (cond (Nat.blt pc 1) (am_lf pc 0 (.iload_n 0) 1) (cond (Nat.blt pc 3) (am_lf pc 1 (.bipush 48) 2) (am_lf pc 3 (.if_icmp .ne 5) 3))) (cond (Nat.blt pc 7) (am_lf pc 6 (.iload_n 1) 1) (cond (Nat.blt pc 8) (am_lf pc 7 .ireturn 1) (am_lf pc 8 (.iload_n 0) 1)))) (cond (Nat.blt pc 16) (cond (Nat.blt pc 12) (am_lf pc 9 (.invokestatic 40) 3) (cond (Nat.blt pc 15) (am_lf pc 12 (.ifCond .eq 7) 3) (am_lf pc 15 (.iload_n 2) 1))) (cond (Nat.blt pc 19) (am_lf pc 16 (.goto 4) 3) (cond (Nat.blt pc 20) (am_lf pc 19 (.iconst (-1)) 1) (am_lf pc 20 .ireturn 1))))))
def tk_X3_isDigit : Nat → Option (Instr × Nat) := am_guard 18 (fun pc => (cond (Nat.blt pc 9) (cond (Nat.blt pc 3) (cond (Nat.blt pc 1) (am_lf pc 0 (.iload_n 0) 1) (am_lf pc 1 (.bipush 48) 2)) (cond (Nat.blt pc 6) (am_lf pc 3 (.if_icmp .lt 13) 3) (cond (Nat.blt pc 7) (am_lf pc 6 (.iload_n 0) 1) (am_lf pc 7 (.bipush 57) 2)))) (cond (Nat.blt pc 13) (cond (Nat.blt pc 12) (am_lf pc 9 (.if_icmp .gt 7) 3) (am_lf pc 12 (.iconst 1) 1)) (cond (Nat.blt pc 16) (am_lf pc 13 (.goto 4) 3) (cond (Nat.blt pc 17) (am_lf pc 16 (.iconst 0) 1) (am_lf pc 17 .ireturn 1))))))
def tk_X5_area : Nat → Option (Instr × Nat) := am_guard 60 (fun pc => (cond (Nat.blt pc 29) (cond (Nat.blt pc 11) (cond (Nat.blt pc 4) (cond (Nat.blt pc 1) (am_lf pc 0 (.lconst 0) 1) (cond (Nat.blt pc 2) (am_lf pc 1 (.lstore_n 2) 1) (am_lf pc 2 (.ldc 231) 2))) (cond (Nat.blt pc 7) (cond (Nat.blt pc 6) (am_lf pc 4 (.istore 4) 2) (am_lf pc 6 (.iconst 0) 1)) (cond (Nat.blt pc 9) (am_lf pc 7 (.istore 5) 2) (am_lf pc 9 (.iload 5) 2)))) (cond (Nat.blt pc 21) (cond (Nat.blt pc 15) (cond (Nat.blt pc 12) (am_lf pc 11 (.aload_n 0) 1) (am_lf pc 12 (.getfield 10) 3)) (cond (Nat.blt pc 18) (am_lf pc 15 (.getfield 66) 3) (am_lf pc 18 (.if_icmp .ge 40) 3))) (cond (Nat.blt pc 25) (cond (Nat.blt pc 22) (am_lf pc 21 (.iload_n 1) 1) (am_lf pc 22 (.ifCond .ne 15) 3)) (cond (Nat.blt pc 26) (am_lf pc 25 (.aload_n 0) 1) (am_lf pc 26 (.getfield 10) 3))))) (cond (Nat.blt pc 46) (cond (Nat.blt pc 38) (cond (Nat.blt pc 34) (cond (Nat.blt pc 31) (am_lf pc 29 (.iload 5) 2) (am_lf pc 31 (.invokevirtual 110) 3)) (cond (Nat.blt pc 37) (am_lf pc 34 (.ifCond .eq 18) 3) (am_lf pc 37 (.lload_n 2) 1))) (cond (Nat.blt pc 41) (cond (Nat.blt pc 39) (am_lf pc 38 (.aload_n 0) 1) (am_lf pc 39 (.iload 4) 2)) (cond (Nat.blt pc 43) (am_lf pc 41 (.iload 5) 2) (am_lf pc 43 (.invokevirtual 269) 3)))) (cond (Nat.blt pc 52) (cond (Nat.blt pc 48) (cond (Nat.blt pc 47) (am_lf pc 46 .ladd 1) (am_lf pc 47 (.lstore_n 2) 1)) (cond (Nat.blt pc 50) (am_lf pc 48 (.iload 5) 2) (am_lf pc 50 (.istore 4) 2))) (cond (Nat.blt pc 58) (cond (Nat.blt pc 55) (am_lf pc 52 (.iinc 5 1) 3) (am_lf pc 55 (.goto (-46)) 3)) (cond (Nat.blt pc 59) (am_lf pc 58 (.lload_n 2) 1) (am_lf pc 59 .lreturn 1)))))))
def tk_X5_areaBetween : Nat → Option (Instr × Nat) := am_guard 77 (fun pc => (cond (Nat.blt pc 40) (cond (Nat.blt pc 21) (cond (Nat.blt pc 9) (cond (Nat.blt pc 4) (cond (Nat.blt pc 1) (am_lf pc 0 (.aload_n 0) 1) (am_lf pc 1 (.getfield 10) 3)) (cond (Nat.blt pc 5) (am_lf pc 4 (.iload_n 1) 1) (cond (Nat.blt pc 6) (am_lf pc 5 (.iload_n 2) 1) (am_lf pc 6 (.invokevirtual 275) 3)))) (cond (Nat.blt pc 14) (cond (Nat.blt pc 12) (am_lf pc 9 (.ifCond .ne 5) 3) (cond (Nat.blt pc 13) (am_lf pc 12 (.lconst 0) 1) (am_lf pc 13 .lreturn 1))) (cond (Nat.blt pc 15) (am_lf pc 14 (.aload_n 0) 1) (cond (Nat.blt pc 18) (am_lf pc 15 (.getfield 10) 3) (am_lf pc 18 (.getfield 94) 3))))) (cond (Nat.blt pc 26) (cond (Nat.blt pc 23) (cond (Nat.blt pc 22) (am_lf pc 21 (.iload_n 1) 1) (am_lf pc 22 .iaload 1)) (cond (Nat.blt pc 24) (am_lf pc 23 .i2l 1) (cond (Nat.blt pc 25) (am_lf pc 24 (.lstore_n 3) 1) (am_lf pc 25 (.aload_n 0) 1)))) (cond (Nat.blt pc 35) (cond (Nat.blt pc 29) (am_lf pc 26 (.getfield 10) 3) (cond (Nat.blt pc 32) (am_lf pc 29 (.invokevirtual 357) 3) (am_lf pc 32 (.ifCond .eq 7) 3))) (cond (Nat.blt pc 36) (am_lf pc 35 (.lload_n 3) 1) (cond (Nat.blt pc 39) (am_lf pc 36 (.goto 13) 3) (am_lf pc 39 (.aload_n 0) 1)))))) (cond (Nat.blt pc 59) (cond (Nat.blt pc 49) (cond (Nat.blt pc 46) (cond (Nat.blt pc 43) (am_lf pc 40 (.getfield 10) 3) (am_lf pc 43 (.getfield 94) 3)) (cond (Nat.blt pc 47) (am_lf pc 46 (.iload_n 2) 1) (cond (Nat.blt pc 48) (am_lf pc 47 .iaload 1) (am_lf pc 48 .i2l 1)))) (cond (Nat.blt pc 54) (cond (Nat.blt pc 51) (am_lf pc 49 (.lstore 5) 2) (cond (Nat.blt pc 52) (am_lf pc 51 (.lload_n 3) 1) (am_lf pc 52 (.lload 5) 2))) (cond (Nat.blt pc 55) (am_lf pc 54 .ladd 1) (cond (Nat.blt pc 56) (am_lf pc 55 (.aload_n 0) 1) (am_lf pc 56 (.getfield 10) 3))))) (cond (Nat.blt pc 71) (cond (Nat.blt pc 64) (cond (Nat.blt pc 62) (am_lf pc 59 (.getfield 215) 3) (cond (Nat.blt pc 63) (am_lf pc 62 (.iload_n 2) 1) (am_lf pc 63 .iaload 1))) (cond (Nat.blt pc 65) (am_lf pc 64 (.aload_n 0) 1) (cond (Nat.blt pc 68) (am_lf pc 65 (.getfield 10) 3) (am_lf pc 68 (.getfield 215) 3)))) (cond (Nat.blt pc 74) (cond (Nat.blt pc 72) (am_lf pc 71 (.iload_n 1) 1) (cond (Nat.blt pc 73) (am_lf pc 72 .iaload 1) (am_lf pc 73 .isub 1))) (cond (Nat.blt pc 75) (am_lf pc 74 .i2l 1) (cond (Nat.blt pc 76) (am_lf pc 75 .lmul 1) (am_lf pc 76 .lreturn 1))))))))
def tk_X5_droppedShare : Nat → Option (Instr × Nat) := am_guard 38 (fun pc => (cond (Nat.blt pc 20) (cond (Nat.blt pc 11) (cond (Nat.blt pc 4) (cond (Nat.blt pc 1) (am_lf pc 0 (.aload_n 0) 1) (am_lf pc 1 (.getfield 10) 3)) (cond (Nat.blt pc 7) (am_lf pc 4 (.getfield 66) 3) (cond (Nat.blt pc 10) (am_lf pc 7 (.ifCond .ne 5) 3) (am_lf pc 10 (.dconst 0) 1)))) (cond (Nat.blt pc 13) (cond (Nat.blt pc 12) (am_lf pc 11 .dreturn 1) (am_lf pc 12 (.aload_n 0) 1)) (cond (Nat.blt pc 16) (am_lf pc 13 (.getfield 10) 3) (cond (Nat.blt pc 19) (am_lf pc 16 (.getfield 66) 3) (am_lf pc 19 (.aload_n 0) 1))))) (cond (Nat.blt pc 29) (cond (Nat.blt pc 26) (cond (Nat.blt pc 23) (am_lf pc 20 (.getfield 10) 3) (am_lf pc 23 (.invokevirtual 106) 3)) (cond (Nat.blt pc 27) (am_lf pc 26 .isub 1) (cond (Nat.blt pc 28) (am_lf pc 27 .i2d 1) (am_lf pc 28 (.aload_n 0) 1)))) (cond (Nat.blt pc 35) (cond (Nat.blt pc 32) (am_lf pc 29 (.getfield 10) 3) (am_lf pc 32 (.getfield 66) 3)) (cond (Nat.blt pc 36) (am_lf pc 35 .i2d 1) (cond (Nat.blt pc 37) (am_lf pc 36 .ddiv 1) (am_lf pc 37 .dreturn 1)))))))
def tk_X5_digest : Nat → Option (Instr × Nat) := am_guard 189 (fun pc => (cond (Nat.blt pc 96) (cond (Nat.blt pc 50) (cond (Nat.blt pc 23) (cond (Nat.blt pc 12) (cond (Nat.blt pc 5) (cond (Nat.blt pc 3) (am_lf pc 0 (.ldc2_w 294) 3) (cond (Nat.blt pc 4) (am_lf pc 3 (.lstore_n 1) 1) (am_lf pc 4 (.iconst 0) 1))) (cond (Nat.blt pc 7) (cond (Nat.blt pc 6) (am_lf pc 5 (.istore_n 3) 1) (am_lf pc 6 (.iload_n 3) 1)) (cond (Nat.blt pc 9) (am_lf pc 7 (.bipush 10) 2) (am_lf pc 9 (.if_icmp .gt 22) 3)))) (cond (Nat.blt pc 17) (cond (Nat.blt pc 15) (am_lf pc 12 (.ldc2_w 296) 3) (cond (Nat.blt pc 16) (am_lf pc 15 (.lload_n 1) 1) (am_lf pc 16 .lmul 1))) (cond (Nat.blt pc 19) (cond (Nat.blt pc 18) (am_lf pc 17 (.aload_n 0) 1) (am_lf pc 18 (.iload_n 3) 1)) (cond (Nat.blt pc 22) (am_lf pc 19 (.invokevirtual 298) 3) (am_lf pc 22 .i2l 1))))) (cond (Nat.blt pc 34) (cond (Nat.blt pc 28) (cond (Nat.blt pc 24) (am_lf pc 23 .ladd 1) (cond (Nat.blt pc 25) (am_lf pc 24 (.lstore_n 1) 1) (am_lf pc 25 (.iinc 3 1) 3))) (cond (Nat.blt pc 32) (cond (Nat.blt pc 31) (am_lf pc 28 (.goto (-22)) 3) (am_lf pc 31 (.iconst 0) 1)) (cond (Nat.blt pc 33) (am_lf pc 32 (.istore_n 3) 1) (am_lf pc 33 (.iload_n 3) 1)))) (cond (Nat.blt pc 42) (cond (Nat.blt pc 38) (cond (Nat.blt pc 35) (am_lf pc 34 (.iconst 3) 1) (am_lf pc 35 (.if_icmp .ge 26) 3)) (cond (Nat.blt pc 41) (am_lf pc 38 (.ldc2_w 296) 3) (am_lf pc 41 (.lload_n 1) 1))) (cond (Nat.blt pc 44) (cond (Nat.blt pc 43) (am_lf pc 42 .lmul 1) (am_lf pc 43 (.aload_n 0) 1)) (cond (Nat.blt pc 47) (am_lf pc 44 (.getfield 10) 3) (am_lf pc 47 (.getfield 153) 3)))))) (cond (Nat.blt pc 73) (cond (Nat.blt pc 61) (cond (Nat.blt pc 53) (cond (Nat.blt pc 51) (am_lf pc 50 (.iload_n 3) 1) (cond (Nat.blt pc 52) (am_lf pc 51 .iaload 1) (am_lf pc 52 .i2l 1))) (cond (Nat.blt pc 55) (cond (Nat.blt pc 54) (am_lf pc 53 .ladd 1) (am_lf pc 54 (.lstore_n 1) 1)) (cond (Nat.blt pc 58) (am_lf pc 55 (.iinc 3 1) 3) (am_lf pc 58 (.goto (-25)) 3)))) (cond (Nat.blt pc 67) (cond (Nat.blt pc 63) (cond (Nat.blt pc 62) (am_lf pc 61 (.aload_n 0) 1) (am_lf pc 62 (.lload_n 1) 1)) (cond (Nat.blt pc 66) (am_lf pc 63 (.invokevirtual 301) 3) (am_lf pc 66 (.lstore_n 1) 1))) (cond (Nat.blt pc 69) (cond (Nat.blt pc 68) (am_lf pc 67 (.aload_n 0) 1) (am_lf pc 68 (.lload_n 1) 1)) (cond (Nat.blt pc 72) (am_lf pc 69 (.invokevirtual 305) 3) (am_lf pc 72 (.lstore_n 1) 1))))) (cond (Nat.blt pc 82) (cond (Nat.blt pc 78) (cond (Nat.blt pc 74) (am_lf pc 73 (.aload_n 0) 1) (cond (Nat.blt pc 75) (am_lf pc 74 (.lload_n 1) 1) (am_lf pc 75 (.invokevirtual 308) 3))) (cond (Nat.blt pc 80) (cond (Nat.blt pc 79) (am_lf pc 78 (.lstore_n 1) 1) (am_lf pc 79 (.iconst 0) 1)) (cond (Nat.blt pc 81) (am_lf pc 80 (.istore_n 3) 1) (am_lf pc 81 (.iload_n 3) 1)))) (cond (Nat.blt pc 90) (cond (Nat.blt pc 86) (cond (Nat.blt pc 83) (am_lf pc 82 (.iconst 2) 1) (am_lf pc 83 (.if_icmp .gt 22) 3)) (cond (Nat.blt pc 89) (am_lf pc 86 (.ldc2_w 296) 3) (am_lf pc 89 (.lload_n 1) 1))) (cond (Nat.blt pc 92) (cond (Nat.blt pc 91) (am_lf pc 90 .lmul 1) (am_lf pc 91 (.aload_n 0) 1)) (cond (Nat.blt pc 93) (am_lf pc 92 (.iload_n 3) 1) (am_lf pc 93 (.invokevirtual 311) 3))))))) (cond (Nat.blt pc 143) (cond (Nat.blt pc 122) (cond (Nat.blt pc 109) (cond (Nat.blt pc 99) (cond (Nat.blt pc 97) (am_lf pc 96 .i2l 1) (cond (Nat.blt pc 98) (am_lf pc 97 .ladd 1) (am_lf pc 98 (.lstore_n 1) 1))) (cond (Nat.blt pc 105) (cond (Nat.blt pc 102) (am_lf pc 99 (.iinc 3 1) 3) (am_lf pc 102 (.goto (-21)) 3)) (cond (Nat.blt pc 108) (am_lf pc 105 (.ldc2_w 296) 3) (am_lf pc 108 (.lload_n 1) 1)))) (cond (Nat.blt pc 116) (cond (Nat.blt pc 111) (cond (Nat.blt pc 110) (am_lf pc 109 .lmul 1) (am_lf pc 110 (.aload_n 0) 1)) (cond (Nat.blt pc 113) (am_lf pc 111 (.bipush 10) 2) (am_lf pc 113 (.invokevirtual 314) 3))) (cond (Nat.blt pc 118) (cond (Nat.blt pc 117) (am_lf pc 116 .i2l 1) (am_lf pc 117 .ladd 1)) (cond (Nat.blt pc 119) (am_lf pc 118 (.lstore_n 1) 1) (am_lf pc 119 (.ldc2_w 296) 3))))) (cond (Nat.blt pc 131) (cond (Nat.blt pc 125) (cond (Nat.blt pc 123) (am_lf pc 122 (.lload_n 1) 1) (cond (Nat.blt pc 124) (am_lf pc 123 .lmul 1) (am_lf pc 124 (.aload_n 0) 1))) (cond (Nat.blt pc 129) (cond (Nat.blt pc 126) (am_lf pc 125 (.iconst 0) 1) (am_lf pc 126 (.invokevirtual 317) 3)) (cond (Nat.blt pc 130) (am_lf pc 129 .i2l 1) (am_lf pc 130 .ladd 1)))) (cond (Nat.blt pc 137) (cond (Nat.blt pc 135) (cond (Nat.blt pc 132) (am_lf pc 131 (.lstore_n 1) 1) (am_lf pc 132 (.ldc2_w 296) 3)) (cond (Nat.blt pc 136) (am_lf pc 135 (.lload_n 1) 1) (am_lf pc 136 .lmul 1))) (cond (Nat.blt pc 139) (cond (Nat.blt pc 138) (am_lf pc 137 (.aload_n 0) 1) (am_lf pc 138 (.iconst 1) 1)) (cond (Nat.blt pc 142) (am_lf pc 139 (.invokevirtual 317) 3) (am_lf pc 142 .i2l 1)))))) (cond (Nat.blt pc 164) (cond (Nat.blt pc 152) (cond (Nat.blt pc 148) (cond (Nat.blt pc 144) (am_lf pc 143 .ladd 1) (cond (Nat.blt pc 145) (am_lf pc 144 (.lstore_n 1) 1) (am_lf pc 145 (.ldc2_w 296) 3))) (cond (Nat.blt pc 150) (cond (Nat.blt pc 149) (am_lf pc 148 (.lload_n 1) 1) (am_lf pc 149 .lmul 1)) (cond (Nat.blt pc 151) (am_lf pc 150 (.aload_n 0) 1) (am_lf pc 151 (.iconst 0) 1)))) (cond (Nat.blt pc 160) (cond (Nat.blt pc 156) (cond (Nat.blt pc 155) (am_lf pc 152 (.invokevirtual 320) 3) (am_lf pc 155 .ladd 1)) (cond (Nat.blt pc 157) (am_lf pc 156 (.lstore_n 1) 1) (am_lf pc 157 (.ldc2_w 296) 3))) (cond (Nat.blt pc 162) (cond (Nat.blt pc 161) (am_lf pc 160 (.lload_n 1) 1) (am_lf pc 161 .lmul 1)) (cond (Nat.blt pc 163) (am_lf pc 162 (.aload_n 0) 1) (am_lf pc 163 (.iconst 1) 1))))) (cond (Nat.blt pc 175) (cond (Nat.blt pc 169) (cond (Nat.blt pc 167) (am_lf pc 164 (.invokevirtual 320) 3) (cond (Nat.blt pc 168) (am_lf pc 167 .ladd 1) (am_lf pc 168 (.lstore_n 1) 1))) (cond (Nat.blt pc 173) (cond (Nat.blt pc 172) (am_lf pc 169 (.ldc2_w 296) 3) (am_lf pc 172 (.lload_n 1) 1)) (cond (Nat.blt pc 174) (am_lf pc 173 .lmul 1) (am_lf pc 174 (.aload_n 0) 1)))) (cond (Nat.blt pc 183) (cond (Nat.blt pc 181) (cond (Nat.blt pc 178) (am_lf pc 175 (.invokevirtual 324) 3) (am_lf pc 178 (.invokestatic 328) 3)) (cond (Nat.blt pc 182) (am_lf pc 181 .ladd 1) (am_lf pc 182 (.lstore_n 1) 1))) (cond (Nat.blt pc 185) (cond (Nat.blt pc 184) (am_lf pc 183 (.aload_n 0) 1) (am_lf pc 184 (.lload_n 1) 1)) (cond (Nat.blt pc 188) (am_lf pc 185 (.invokevirtual 332) 3) (am_lf pc 188 .lreturn 1)))))))))
def tk_X5_count : Nat → Option (Instr × Nat) := am_guard 144 (fun pc => (cond (Nat.blt pc 97) (cond (Nat.blt pc 75) (cond (Nat.blt pc 61) (cond (Nat.blt pc 6) (cond (Nat.blt pc 1) (am_lf pc 0 (.iload_n 1) 1) (cond (Nat.blt pc 3) (am_lf pc 1 (.bipush 10) 2) (am_lf pc 3 (.invokestatic 212) 3))) (cond (Nat.blt pc 7) (am_lf pc 6 (.iload_n 1) 1) (cond (Nat.blt pc 60) (am_lf pc 7 (.tableswitch 129 0 9 #[53, 61, 69, 82, 90, 98, 103, 108, 116, 124]) 53) (am_lf pc 60 (.aload_n 0) 1)))) (cond (Nat.blt pc 68) (cond (Nat.blt pc 64) (am_lf pc 61 (.getfield 10) 3) (cond (Nat.blt pc 67) (am_lf pc 64 (.getfield 66) 3) (am_lf pc 67 .ireturn 1))) (cond (Nat.blt pc 69) (am_lf pc 68 (.aload_n 0) 1) (cond (Nat.blt pc 72) (am_lf pc 69 (.getfield 10) 3) (am_lf pc 72 (.invokevirtual 106) 3))))) (cond (Nat.blt pc 85) (cond (Nat.blt pc 78) (cond (Nat.blt pc 76) (am_lf pc 75 .ireturn 1) (cond (Nat.blt pc 77) (am_lf pc 76 (.aload_n 0) 1) (am_lf pc 77 (.iconst 0) 1))) (cond (Nat.blt pc 79) (am_lf pc 78 (.aload_n 0) 1) (cond (Nat.blt pc 82) (am_lf pc 79 (.getfield 10) 3) (am_lf pc 82 (.getfield 66) 3)))) (cond (Nat.blt pc 90) (cond (Nat.blt pc 88) (am_lf pc 85 (.invokevirtual 246) 3) (cond (Nat.blt pc 89) (am_lf pc 88 .ireturn 1) (am_lf pc 89 (.aload_n 0) 1))) (cond (Nat.blt pc 93) (am_lf pc 90 (.getfield 10) 3) (cond (Nat.blt pc 96) (am_lf pc 93 (.invokevirtual 257) 3) (am_lf pc 96 .ireturn 1)))))) (cond (Nat.blt pc 119) (cond (Nat.blt pc 109) (cond (Nat.blt pc 104) (cond (Nat.blt pc 98) (am_lf pc 97 (.aload_n 0) 1) (cond (Nat.blt pc 101) (am_lf pc 98 (.getfield 10) 3) (am_lf pc 101 (.getfield 156) 3))) (cond (Nat.blt pc 105) (am_lf pc 104 .ireturn 1) (cond (Nat.blt pc 106) (am_lf pc 105 (.aload_n 0) 1) (am_lf pc 106 (.invokevirtual 260) 3)))) (cond (Nat.blt pc 114) (cond (Nat.blt pc 110) (am_lf pc 109 .ireturn 1) (cond (Nat.blt pc 111) (am_lf pc 110 (.aload_n 0) 1) (am_lf pc 111 (.invokevirtual 263) 3))) (cond (Nat.blt pc 115) (am_lf pc 114 .ireturn 1) (cond (Nat.blt pc 116) (am_lf pc 115 (.aload_n 0) 1) (am_lf pc 116 (.getfield 10) 3))))) (cond (Nat.blt pc 131) (cond (Nat.blt pc 124) (cond (Nat.blt pc 122) (am_lf pc 119 (.getfield 127) 3) (cond (Nat.blt pc 123) (am_lf pc 122 .ireturn 1) (am_lf pc 123 (.aload_n 0) 1))) (cond (Nat.blt pc 127) (am_lf pc 124 (.getfield 10) 3) (cond (Nat.blt pc 130) (am_lf pc 127 (.getfield 143) 3) (am_lf pc 130 .ireturn 1)))) (cond (Nat.blt pc 136) (cond (Nat.blt pc 132) (am_lf pc 131 (.aload_n 0) 1) (cond (Nat.blt pc 135) (am_lf pc 132 (.invokevirtual 266) 3) (am_lf pc 135 .ireturn 1))) (cond (Nat.blt pc 140) (cond (Nat.blt pc 137) (am_lf pc 136 (.aload_n 0) 1) (am_lf pc 137 (.getfield 37) 3)) (cond (Nat.blt pc 143) (am_lf pc 140 (.getfield 204) 3) (am_lf pc 143 .ireturn 1))))))))
def tk_X5_refuseOutside : Nat → Option (Instr × Nat) := am_guard 21 (fun pc => (cond (Nat.blt pc 9) (cond (Nat.blt pc 4) (cond (Nat.blt pc 1) (am_lf pc 0 (.iload_n 0) 1) (am_lf pc 1 (.ifCond .lt 8) 3)) (cond (Nat.blt pc 5) (am_lf pc 4 (.iload_n 0) 1) (cond (Nat.blt pc 6) (am_lf pc 5 (.iload_n 1) 1) (am_lf pc 6 (.if_icmp .le 14) 3)))) (cond (Nat.blt pc 16) (cond (Nat.blt pc 12) (am_lf pc 9 (.new 59) 3) (cond (Nat.blt pc 13) (am_lf pc 12 .dup 1) (am_lf pc 13 (.ldc_w 335) 3))) (cond (Nat.blt pc 19) (am_lf pc 16 (.invokespecial 63) 3) (cond (Nat.blt pc 20) (am_lf pc 19 .athrow 1) (am_lf pc 20 .return_ 1))))))
def tk_X5_brokenAmong : Nat → Option (Instr × Nat) := am_guard 36 (fun pc => (cond (Nat.blt pc 15) (cond (Nat.blt pc 5) (cond (Nat.blt pc 2) (cond (Nat.blt pc 1) (am_lf pc 0 (.iconst 0) 1) (am_lf pc 1 (.istore_n 3) 1)) (cond (Nat.blt pc 3) (am_lf pc 2 (.iconst 0) 1) (am_lf pc 3 (.istore 4) 2))) (cond (Nat.blt pc 8) (cond (Nat.blt pc 7) (am_lf pc 5 (.iload 4) 2) (am_lf pc 7 (.iload_n 2) 1)) (cond (Nat.blt pc 11) (am_lf pc 8 (.if_icmp .ge 26) 3) (cond (Nat.blt pc 12) (am_lf pc 11 (.aload_n 0) 1) (am_lf pc 12 (.getfield 21) 3))))) (cond (Nat.blt pc 25) (cond (Nat.blt pc 18) (cond (Nat.blt pc 16) (am_lf pc 15 (.iload_n 1) 1) (am_lf pc 16 (.iload 4) 2)) (cond (Nat.blt pc 19) (am_lf pc 18 .iadd 1) (cond (Nat.blt pc 22) (am_lf pc 19 (.invokevirtual 216) 3) (am_lf pc 22 (.ifCond .eq 6) 3)))) (cond (Nat.blt pc 31) (cond (Nat.blt pc 28) (am_lf pc 25 (.iinc 3 1) 3) (am_lf pc 28 (.iinc 4 1) 3)) (cond (Nat.blt pc 34) (am_lf pc 31 (.goto (-26)) 3) (cond (Nat.blt pc 35) (am_lf pc 34 (.iload_n 3) 1) (am_lf pc 35 .ireturn 1)))))))
def tk_X2_stretchCount : Nat → Option (Instr × Nat) := am_guard 31 (fun pc => (cond (Nat.blt pc 17) (cond (Nat.blt pc 6) (cond (Nat.blt pc 2) (cond (Nat.blt pc 1) (am_lf pc 0 (.aload_n 0) 1) (am_lf pc 1 (.aload_n 0) 1)) (cond (Nat.blt pc 5) (am_lf pc 2 (.getfield 39) 3) (am_lf pc 5 (.iconst 1) 1))) (cond (Nat.blt pc 10) (cond (Nat.blt pc 7) (am_lf pc 6 .isub 1) (am_lf pc 7 (.invokevirtual 52) 3)) (cond (Nat.blt pc 13) (am_lf pc 10 (.ifCond .eq 19) 3) (cond (Nat.blt pc 14) (am_lf pc 13 (.aload_n 0) 1) (am_lf pc 14 (.getfield 21) 3))))) (cond (Nat.blt pc 24) (cond (Nat.blt pc 21) (cond (Nat.blt pc 18) (am_lf pc 17 (.aload_n 0) 1) (am_lf pc 18 (.getfield 39) 3)) (cond (Nat.blt pc 22) (am_lf pc 21 (.iconst 1) 1) (cond (Nat.blt pc 23) (am_lf pc 22 .isub 1) (am_lf pc 23 .iaload 1)))) (cond (Nat.blt pc 26) (cond (Nat.blt pc 25) (am_lf pc 24 (.iconst 1) 1) (am_lf pc 25 .iadd 1)) (cond (Nat.blt pc 29) (am_lf pc 26 (.goto 4) 3) (cond (Nat.blt pc 30) (am_lf pc 29 (.iconst 0) 1) (am_lf pc 30 .ireturn 1)))))))
def tk_X5_trueNotes : Nat → Option (Instr × Nat) := am_guard 37 (fun pc => (cond (Nat.blt pc 15) (cond (Nat.blt pc 4) (cond (Nat.blt pc 2) (cond (Nat.blt pc 1) (am_lf pc 0 (.iconst 0) 1) (am_lf pc 1 (.istore_n 1) 1)) (cond (Nat.blt pc 3) (am_lf pc 2 (.iconst 0) 1) (am_lf pc 3 (.istore_n 2) 1))) (cond (Nat.blt pc 6) (cond (Nat.blt pc 5) (am_lf pc 4 (.iload_n 2) 1) (am_lf pc 5 (.aload_n 0) 1)) (cond (Nat.blt pc 9) (am_lf pc 6 (.getfield 10) 3) (cond (Nat.blt pc 12) (am_lf pc 9 (.getfield 156) 3) (am_lf pc 12 (.if_icmp .ge 23) 3))))) (cond (Nat.blt pc 26) (cond (Nat.blt pc 19) (cond (Nat.blt pc 16) (am_lf pc 15 (.aload_n 0) 1) (am_lf pc 16 (.getfield 21) 3)) (cond (Nat.blt pc 20) (am_lf pc 19 (.iload_n 2) 1) (cond (Nat.blt pc 23) (am_lf pc 20 (.invokevirtual 167) 3) (am_lf pc 23 (.ifCond .eq 6) 3)))) (cond (Nat.blt pc 32) (cond (Nat.blt pc 29) (am_lf pc 26 (.iinc 1 1) 3) (am_lf pc 29 (.iinc 2 1) 3)) (cond (Nat.blt pc 35) (am_lf pc 32 (.goto (-28)) 3) (cond (Nat.blt pc 36) (am_lf pc 35 (.iload_n 1) 1) (am_lf pc 36 .ireturn 1)))))))
def tk_X5_greatestError : Nat → Option (Instr × Nat) := am_guard 67 (fun pc => (cond (Nat.blt pc 30) (cond (Nat.blt pc 12) (cond (Nat.blt pc 4) (cond (Nat.blt pc 2) (cond (Nat.blt pc 1) (am_lf pc 0 (.iconst 0) 1) (am_lf pc 1 (.istore_n 1) 1)) (cond (Nat.blt pc 3) (am_lf pc 2 (.iconst 0) 1) (am_lf pc 3 (.istore_n 2) 1))) (cond (Nat.blt pc 6) (cond (Nat.blt pc 5) (am_lf pc 4 (.iload_n 2) 1) (am_lf pc 5 (.aload_n 0) 1)) (cond (Nat.blt pc 9) (am_lf pc 6 (.getfield 10) 3) (am_lf pc 9 (.getfield 66) 3)))) (cond (Nat.blt pc 20) (cond (Nat.blt pc 16) (cond (Nat.blt pc 15) (am_lf pc 12 (.if_icmp .ge 53) 3) (am_lf pc 15 (.aload_n 0) 1)) (cond (Nat.blt pc 19) (am_lf pc 16 (.getfield 10) 3) (am_lf pc 19 (.iload_n 2) 1))) (cond (Nat.blt pc 26) (cond (Nat.blt pc 23) (am_lf pc 20 (.invokevirtual 110) 3) (am_lf pc 23 (.ifCond .ne 36) 3)) (cond (Nat.blt pc 27) (am_lf pc 26 (.aload_n 0) 1) (am_lf pc 27 (.getfield 21) 3))))) (cond (Nat.blt pc 46) (cond (Nat.blt pc 38) (cond (Nat.blt pc 34) (cond (Nat.blt pc 31) (am_lf pc 30 (.iload_n 2) 1) (am_lf pc 31 (.invokevirtual 228) 3)) (cond (Nat.blt pc 37) (am_lf pc 34 (.ifCond .eq 25) 3) (am_lf pc 37 (.iload_n 1) 1))) (cond (Nat.blt pc 42) (cond (Nat.blt pc 39) (am_lf pc 38 (.aload_n 0) 1) (am_lf pc 39 (.getfield 21) 3)) (cond (Nat.blt pc 45) (am_lf pc 42 (.getfield 232) 3) (am_lf pc 45 (.aload_n 0) 1)))) (cond (Nat.blt pc 58) (cond (Nat.blt pc 52) (cond (Nat.blt pc 49) (am_lf pc 46 (.getfield 21) 3) (am_lf pc 49 (.getfield 235) 3)) (cond (Nat.blt pc 55) (am_lf pc 52 (.invokestatic 291) 3) (am_lf pc 55 (.invokestatic 352) 3))) (cond (Nat.blt pc 62) (cond (Nat.blt pc 59) (am_lf pc 58 (.istore_n 1) 1) (am_lf pc 59 (.iinc 2 1) 3)) (cond (Nat.blt pc 65) (am_lf pc 62 (.goto (-58)) 3) (cond (Nat.blt pc 66) (am_lf pc 65 (.iload_n 1) 1) (am_lf pc 66 .ireturn 1))))))))
def tk_X1_findError : Nat → Option (Instr × Nat) := am_guard 51 (fun pc => (cond (Nat.blt pc 24) (cond (Nat.blt pc 13) (cond (Nat.blt pc 5) (cond (Nat.blt pc 1) (am_lf pc 0 (.aload_n 0) 1) (cond (Nat.blt pc 4) (am_lf pc 1 (.getfield 9) 3) (am_lf pc 4 (.iload_n 1) 1))) (cond (Nat.blt pc 11) (cond (Nat.blt pc 8) (am_lf pc 5 (.invokevirtual 60) 3) (am_lf pc 8 (.ifCond .eq 15) 3)) (cond (Nat.blt pc 12) (am_lf pc 11 (.aload_n 0) 1) (am_lf pc 12 (.iconst 0) 1)))) (cond (Nat.blt pc 18) (cond (Nat.blt pc 16) (am_lf pc 13 (.putfield 15) 3) (cond (Nat.blt pc 17) (am_lf pc 16 (.aload_n 0) 1) (am_lf pc 17 (.iconst 1) 1))) (cond (Nat.blt pc 22) (cond (Nat.blt pc 21) (am_lf pc 18 (.putfield 19) 3) (am_lf pc 21 (.iconst 1) 1)) (cond (Nat.blt pc 23) (am_lf pc 22 .ireturn 1) (am_lf pc 23 (.aload_n 0) 1))))) (cond (Nat.blt pc 37) (cond (Nat.blt pc 29) (cond (Nat.blt pc 25) (am_lf pc 24 (.aload_n 0) 1) (cond (Nat.blt pc 28) (am_lf pc 25 (.getfield 9) 3) (am_lf pc 28 (.iload_n 1) 1))) (cond (Nat.blt pc 33) (cond (Nat.blt pc 32) (am_lf pc 29 (.invokevirtual 64) 3) (am_lf pc 32 (.aload_n 0) 1)) (cond (Nat.blt pc 36) (am_lf pc 33 (.getfield 9) 3) (am_lf pc 36 (.iload_n 1) 1)))) (cond (Nat.blt pc 45) (cond (Nat.blt pc 41) (cond (Nat.blt pc 40) (am_lf pc 37 (.invokevirtual 67) 3) (am_lf pc 40 (.iload_n 1) 1)) (cond (Nat.blt pc 44) (am_lf pc 41 (.invokevirtual 56) 3) (am_lf pc 44 (.istore_n 2) 1))) (cond (Nat.blt pc 49) (cond (Nat.blt pc 46) (am_lf pc 45 (.aload_n 0) 1) (am_lf pc 46 (.invokevirtual 73) 3)) (cond (Nat.blt pc 50) (am_lf pc 49 (.iload_n 2) 1) (am_lf pc 50 .ireturn 1)))))))
def tk_X5_roundedUp : Nat → Option (Instr × Nat) := am_guard 16 (fun pc => (cond (Nat.blt pc 8) (cond (Nat.blt pc 5) (cond (Nat.blt pc 1) (am_lf pc 0 (.iload_n 1) 1) (cond (Nat.blt pc 4) (am_lf pc 1 (.ifCond .le 13) 3) (am_lf pc 4 (.iload_n 0) 1))) (cond (Nat.blt pc 6) (am_lf pc 5 (.iload_n 1) 1) (cond (Nat.blt pc 7) (am_lf pc 6 .iadd 1) (am_lf pc 7 (.iconst 1) 1)))) (cond (Nat.blt pc 11) (cond (Nat.blt pc 9) (am_lf pc 8 .isub 1) (cond (Nat.blt pc 10) (am_lf pc 9 (.iload_n 1) 1) (am_lf pc 10 .idiv 1))) (cond (Nat.blt pc 14) (am_lf pc 11 (.goto 4) 3) (cond (Nat.blt pc 15) (am_lf pc 14 (.iconst 0) 1) (am_lf pc 15 .ireturn 1))))))
def tk_X5_longestStep : Nat → Option (Instr × Nat) := am_guard 75 (fun pc => (cond (Nat.blt pc 38) (cond (Nat.blt pc 15) (cond (Nat.blt pc 6) (cond (Nat.blt pc 2) (cond (Nat.blt pc 1) (am_lf pc 0 (.iconst 0) 1) (am_lf pc 1 (.istore_n 1) 1)) (cond (Nat.blt pc 4) (am_lf pc 2 (.ldc 231) 2) (cond (Nat.blt pc 5) (am_lf pc 4 (.istore_n 2) 1) (am_lf pc 5 (.iconst 0) 1)))) (cond (Nat.blt pc 8) (cond (Nat.blt pc 7) (am_lf pc 6 (.istore_n 3) 1) (am_lf pc 7 (.iload_n 3) 1)) (cond (Nat.blt pc 9) (am_lf pc 8 (.aload_n 0) 1) (cond (Nat.blt pc 12) (am_lf pc 9 (.getfield 10) 3) (am_lf pc 12 (.getfield 66) 3))))) (cond (Nat.blt pc 26) (cond (Nat.blt pc 19) (cond (Nat.blt pc 18) (am_lf pc 15 (.if_icmp .ge 58) 3) (am_lf pc 18 (.aload_n 0) 1)) (cond (Nat.blt pc 22) (am_lf pc 19 (.getfield 10) 3) (cond (Nat.blt pc 23) (am_lf pc 22 (.iload_n 3) 1) (am_lf pc 23 (.invokevirtual 110) 3)))) (cond (Nat.blt pc 33) (cond (Nat.blt pc 29) (am_lf pc 26 (.ifCond .eq 41) 3) (cond (Nat.blt pc 30) (am_lf pc 29 (.aload_n 0) 1) (am_lf pc 30 (.getfield 10) 3))) (cond (Nat.blt pc 34) (am_lf pc 33 (.iload_n 2) 1) (cond (Nat.blt pc 35) (am_lf pc 34 (.iload_n 3) 1) (am_lf pc 35 (.invokevirtual 275) 3)))))) (cond (Nat.blt pc 58) (cond (Nat.blt pc 49) (cond (Nat.blt pc 42) (cond (Nat.blt pc 41) (am_lf pc 38 (.ifCond .eq 27) 3) (am_lf pc 41 (.iload_n 1) 1)) (cond (Nat.blt pc 43) (am_lf pc 42 (.aload_n 0) 1) (cond (Nat.blt pc 46) (am_lf pc 43 (.getfield 10) 3) (am_lf pc 46 (.getfield 215) 3)))) (cond (Nat.blt pc 51) (cond (Nat.blt pc 50) (am_lf pc 49 (.iload_n 3) 1) (am_lf pc 50 .iaload 1)) (cond (Nat.blt pc 52) (am_lf pc 51 (.aload_n 0) 1) (cond (Nat.blt pc 55) (am_lf pc 52 (.getfield 10) 3) (am_lf pc 55 (.getfield 215) 3))))) (cond (Nat.blt pc 65) (cond (Nat.blt pc 60) (cond (Nat.blt pc 59) (am_lf pc 58 (.iload_n 2) 1) (am_lf pc 59 .iaload 1)) (cond (Nat.blt pc 61) (am_lf pc 60 .isub 1) (cond (Nat.blt pc 64) (am_lf pc 61 (.invokestatic 352) 3) (am_lf pc 64 (.istore_n 1) 1)))) (cond (Nat.blt pc 70) (cond (Nat.blt pc 66) (am_lf pc 65 (.iload_n 3) 1) (cond (Nat.blt pc 67) (am_lf pc 66 (.istore_n 2) 1) (am_lf pc 67 (.iinc 3 1) 3))) (cond (Nat.blt pc 73) (am_lf pc 70 (.goto (-63)) 3) (cond (Nat.blt pc 74) (am_lf pc 73 (.iload_n 1) 1) (am_lf pc 74 .ireturn 1))))))))
def tk_X5_hashPoints : Nat → Option (Instr × Nat) := am_guard 87 (fun pc => (cond (Nat.blt pc 46) (cond (Nat.blt pc 22) (cond (Nat.blt pc 8) (cond (Nat.blt pc 3) (cond (Nat.blt pc 1) (am_lf pc 0 (.lload_n 1) 1) (cond (Nat.blt pc 2) (am_lf pc 1 (.lstore_n 3) 1) (am_lf pc 2 (.iconst 0) 1))) (cond (Nat.blt pc 5) (am_lf pc 3 (.istore 5) 2) (cond (Nat.blt pc 7) (am_lf pc 5 (.iload 5) 2) (am_lf pc 7 (.aload_n 0) 1)))) (cond (Nat.blt pc 17) (cond (Nat.blt pc 11) (am_lf pc 8 (.getfield 10) 3) (cond (Nat.blt pc 14) (am_lf pc 11 (.getfield 66) 3) (am_lf pc 14 (.if_icmp .ge 71) 3))) (cond (Nat.blt pc 18) (am_lf pc 17 (.iconst 0) 1) (cond (Nat.blt pc 20) (am_lf pc 18 (.istore 6) 2) (am_lf pc 20 (.iload 6) 2))))) (cond (Nat.blt pc 33) (cond (Nat.blt pc 30) (cond (Nat.blt pc 24) (am_lf pc 22 (.bipush 7) 2) (cond (Nat.blt pc 27) (am_lf pc 24 (.if_icmp .gt 25) 3) (am_lf pc 27 (.ldc2_w 296) 3))) (cond (Nat.blt pc 31) (am_lf pc 30 (.lload_n 3) 1) (cond (Nat.blt pc 32) (am_lf pc 31 .lmul 1) (am_lf pc 32 (.aload_n 0) 1)))) (cond (Nat.blt pc 40) (cond (Nat.blt pc 35) (am_lf pc 33 (.iload 5) 2) (cond (Nat.blt pc 37) (am_lf pc 35 (.iload 6) 2) (am_lf pc 37 (.invokevirtual 360) 3))) (cond (Nat.blt pc 42) (cond (Nat.blt pc 41) (am_lf pc 40 .i2l 1) (am_lf pc 41 .ladd 1)) (cond (Nat.blt pc 43) (am_lf pc 42 (.lstore_n 3) 1) (am_lf pc 43 (.iinc 6 1) 3)))))) (cond (Nat.blt pc 67) (cond (Nat.blt pc 57) (cond (Nat.blt pc 53) (cond (Nat.blt pc 49) (am_lf pc 46 (.goto (-26)) 3) (cond (Nat.blt pc 52) (am_lf pc 49 (.ldc2_w 296) 3) (am_lf pc 52 (.lload_n 3) 1))) (cond (Nat.blt pc 54) (am_lf pc 53 .lmul 1) (cond (Nat.blt pc 55) (am_lf pc 54 (.aload_n 0) 1) (am_lf pc 55 (.iload 5) 2)))) (cond (Nat.blt pc 62) (cond (Nat.blt pc 58) (am_lf pc 57 (.iconst 0) 1) (cond (Nat.blt pc 61) (am_lf pc 58 (.invokevirtual 363) 3) (am_lf pc 61 .i2l 1))) (cond (Nat.blt pc 63) (am_lf pc 62 .ladd 1) (cond (Nat.blt pc 64) (am_lf pc 63 (.lstore_n 3) 1) (am_lf pc 64 (.ldc2_w 296) 3))))) (cond (Nat.blt pc 76) (cond (Nat.blt pc 70) (cond (Nat.blt pc 68) (am_lf pc 67 (.lload_n 3) 1) (cond (Nat.blt pc 69) (am_lf pc 68 .lmul 1) (am_lf pc 69 (.aload_n 0) 1))) (cond (Nat.blt pc 72) (am_lf pc 70 (.iload 5) 2) (cond (Nat.blt pc 73) (am_lf pc 72 (.iconst 1) 1) (am_lf pc 73 (.invokevirtual 363) 3)))) (cond (Nat.blt pc 79) (cond (Nat.blt pc 77) (am_lf pc 76 .i2l 1) (cond (Nat.blt pc 78) (am_lf pc 77 .ladd 1) (am_lf pc 78 (.lstore_n 3) 1))) (cond (Nat.blt pc 85) (cond (Nat.blt pc 82) (am_lf pc 79 (.iinc 5 1) 3) (am_lf pc 82 (.goto (-77)) 3)) (cond (Nat.blt pc 86) (am_lf pc 85 (.lload_n 3) 1) (am_lf pc 86 .lreturn 1))))))))
def tk_X5_point : Nat → Option (Instr × Nat) := am_guard 140 (fun pc => (cond (Nat.blt pc 90) (cond (Nat.blt pc 66) (cond (Nat.blt pc 12) (cond (Nat.blt pc 5) (cond (Nat.blt pc 1) (am_lf pc 0 (.aload_n 0) 1) (cond (Nat.blt pc 2) (am_lf pc 1 (.iload_n 1) 1) (am_lf pc 2 (.invokevirtual 88) 3))) (cond (Nat.blt pc 8) (cond (Nat.blt pc 6) (am_lf pc 5 (.iload_n 2) 1) (am_lf pc 6 (.bipush 7) 2)) (cond (Nat.blt pc 11) (am_lf pc 8 (.invokestatic 212) 3) (am_lf pc 11 (.iload_n 2) 1)))) (cond (Nat.blt pc 60) (cond (Nat.blt pc 56) (am_lf pc 12 (.tableswitch 119 0 6 #[44, 54, 64, 74, 91, 101, 110]) 44) (cond (Nat.blt pc 57) (am_lf pc 56 (.aload_n 0) 1) (am_lf pc 57 (.getfield 10) 3))) (cond (Nat.blt pc 64) (cond (Nat.blt pc 63) (am_lf pc 60 (.getfield 215) 3) (am_lf pc 63 (.iload_n 1) 1)) (cond (Nat.blt pc 65) (am_lf pc 64 .iaload 1) (am_lf pc 65 .ireturn 1))))) (cond (Nat.blt pc 77) (cond (Nat.blt pc 73) (cond (Nat.blt pc 67) (am_lf pc 66 (.aload_n 0) 1) (cond (Nat.blt pc 70) (am_lf pc 67 (.getfield 10) 3) (am_lf pc 70 (.getfield 94) 3))) (cond (Nat.blt pc 75) (cond (Nat.blt pc 74) (am_lf pc 73 (.iload_n 1) 1) (am_lf pc 74 .iaload 1)) (cond (Nat.blt pc 76) (am_lf pc 75 .ireturn 1) (am_lf pc 76 (.aload_n 0) 1)))) (cond (Nat.blt pc 84) (cond (Nat.blt pc 80) (am_lf pc 77 (.getfield 10) 3) (cond (Nat.blt pc 83) (am_lf pc 80 (.getfield 103) 3) (am_lf pc 83 (.iload_n 1) 1))) (cond (Nat.blt pc 86) (cond (Nat.blt pc 85) (am_lf pc 84 .iaload 1) (am_lf pc 85 .ireturn 1)) (cond (Nat.blt pc 87) (am_lf pc 86 (.aload_n 0) 1) (am_lf pc 87 (.getfield 21) 3)))))) (cond (Nat.blt pc 114) (cond (Nat.blt pc 103) (cond (Nat.blt pc 97) (cond (Nat.blt pc 91) (am_lf pc 90 (.iload_n 1) 1) (cond (Nat.blt pc 94) (am_lf pc 91 (.invokevirtual 216) 3) (am_lf pc 94 (.ifCond .eq 7) 3))) (cond (Nat.blt pc 101) (cond (Nat.blt pc 98) (am_lf pc 97 (.iconst 1) 1) (am_lf pc 98 (.goto 4) 3)) (cond (Nat.blt pc 102) (am_lf pc 101 (.iconst 0) 1) (am_lf pc 102 .ireturn 1)))) (cond (Nat.blt pc 110) (cond (Nat.blt pc 104) (am_lf pc 103 (.aload_n 0) 1) (cond (Nat.blt pc 107) (am_lf pc 104 (.getfield 10) 3) (am_lf pc 107 (.getfield 219) 3))) (cond (Nat.blt pc 112) (cond (Nat.blt pc 111) (am_lf pc 110 (.iload_n 1) 1) (am_lf pc 111 .iaload 1)) (cond (Nat.blt pc 113) (am_lf pc 112 .ireturn 1) (am_lf pc 113 (.aload_n 0) 1))))) (cond (Nat.blt pc 127) (cond (Nat.blt pc 121) (cond (Nat.blt pc 117) (am_lf pc 114 (.getfield 10) 3) (cond (Nat.blt pc 118) (am_lf pc 117 (.iload_n 1) 1) (am_lf pc 118 (.invokevirtual 222) 3))) (cond (Nat.blt pc 123) (cond (Nat.blt pc 122) (am_lf pc 121 .ireturn 1) (am_lf pc 122 (.aload_n 0) 1)) (cond (Nat.blt pc 126) (am_lf pc 123 (.getfield 10) 3) (am_lf pc 126 (.iload_n 1) 1)))) (cond (Nat.blt pc 132) (cond (Nat.blt pc 130) (am_lf pc 127 (.invokevirtual 225) 3) (cond (Nat.blt pc 131) (am_lf pc 130 .ireturn 1) (am_lf pc 131 (.aload_n 0) 1))) (cond (Nat.blt pc 136) (cond (Nat.blt pc 135) (am_lf pc 132 (.getfield 21) 3) (am_lf pc 135 (.iload_n 1) 1)) (cond (Nat.blt pc 139) (am_lf pc 136 (.invokevirtual 97) 3) (am_lf pc 139 .ireturn 1))))))))
def tk_X5_refuseNoPoint : Nat → Option (Instr × Nat) := am_guard 23 (fun pc => (cond (Nat.blt pc 11) (cond (Nat.blt pc 4) (cond (Nat.blt pc 1) (am_lf pc 0 (.aload_n 0) 1) (am_lf pc 1 (.getfield 10) 3)) (cond (Nat.blt pc 5) (am_lf pc 4 (.iload_n 1) 1) (cond (Nat.blt pc 8) (am_lf pc 5 (.invokevirtual 339) 3) (am_lf pc 8 (.ifCond .ne 14) 3)))) (cond (Nat.blt pc 18) (cond (Nat.blt pc 14) (am_lf pc 11 (.new 252) 3) (cond (Nat.blt pc 15) (am_lf pc 14 .dup 1) (am_lf pc 15 (.ldc_w 342) 3))) (cond (Nat.blt pc 21) (am_lf pc 18 (.invokespecial 256) 3) (cond (Nat.blt pc 22) (am_lf pc 21 .athrow 1) (am_lf pc 22 .return_ 1))))))
def tk_X1_reasonToKeep : Nat → Option (Instr × Nat) := am_guard 60 (fun pc => (cond (Nat.blt pc 31) (cond (Nat.blt pc 14) (cond (Nat.blt pc 8) (cond (Nat.blt pc 4) (cond (Nat.blt pc 1) (am_lf pc 0 (.aload_n 0) 1) (am_lf pc 1 (.getfield 9) 3)) (cond (Nat.blt pc 5) (am_lf pc 4 (.iload_n 1) 1) (am_lf pc 5 (.invokevirtual 60) 3))) (cond (Nat.blt pc 12) (cond (Nat.blt pc 11) (am_lf pc 8 (.ifCond .ne 5) 3) (am_lf pc 11 (.iconst 1) 1)) (cond (Nat.blt pc 13) (am_lf pc 12 .ireturn 1) (am_lf pc 13 (.aload_n 0) 1)))) (cond (Nat.blt pc 22) (cond (Nat.blt pc 18) (cond (Nat.blt pc 17) (am_lf pc 14 (.getfield 9) 3) (am_lf pc 17 (.iload_n 1) 1)) (cond (Nat.blt pc 21) (am_lf pc 18 (.invokevirtual 64) 3) (am_lf pc 21 (.istore_n 2) 1))) (cond (Nat.blt pc 26) (cond (Nat.blt pc 23) (am_lf pc 22 (.aload_n 0) 1) (am_lf pc 23 (.getfield 9) 3)) (cond (Nat.blt pc 27) (am_lf pc 26 (.iload_n 1) 1) (cond (Nat.blt pc 30) (am_lf pc 27 (.invokevirtual 67) 3) (am_lf pc 30 (.istore_n 3) 1)))))) (cond (Nat.blt pc 45) (cond (Nat.blt pc 38) (cond (Nat.blt pc 34) (cond (Nat.blt pc 32) (am_lf pc 31 (.iload_n 2) 1) (am_lf pc 32 (.ldc 28) 2)) (cond (Nat.blt pc 37) (am_lf pc 34 (.if_icmp .eq 9) 3) (am_lf pc 37 (.iload_n 3) 1))) (cond (Nat.blt pc 43) (cond (Nat.blt pc 40) (am_lf pc 38 (.ldc 28) 2) (am_lf pc 40 (.if_icmp .ne 5) 3)) (cond (Nat.blt pc 44) (am_lf pc 43 (.iconst 2) 1) (am_lf pc 44 .ireturn 1)))) (cond (Nat.blt pc 51) (cond (Nat.blt pc 47) (cond (Nat.blt pc 46) (am_lf pc 45 (.aload_n 0) 1) (am_lf pc 46 (.iload_n 2) 1)) (cond (Nat.blt pc 48) (am_lf pc 47 (.iload_n 3) 1) (am_lf pc 48 (.invokevirtual 70) 3))) (cond (Nat.blt pc 55) (cond (Nat.blt pc 54) (am_lf pc 51 (.ifCond .eq 7) 3) (am_lf pc 54 (.iconst 0) 1)) (cond (Nat.blt pc 58) (am_lf pc 55 (.goto 4) 3) (cond (Nat.blt pc 59) (am_lf pc 58 (.iconst 3) 1) (am_lf pc 59 .ireturn 1))))))))
def tk_X1_canJoin : Nat → Option (Instr × Nat) := am_guard 46 (fun pc => (cond (Nat.blt pc 23) (cond (Nat.blt pc 8) (cond (Nat.blt pc 3) (cond (Nat.blt pc 1) (am_lf pc 0 (.aload_n 0) 1) (cond (Nat.blt pc 2) (am_lf pc 1 (.iload_n 1) 1) (am_lf pc 2 (.iload_n 2) 1))) (cond (Nat.blt pc 6) (am_lf pc 3 (.invokevirtual 46) 3) (cond (Nat.blt pc 7) (am_lf pc 6 .pop 1) (am_lf pc 7 (.aload_n 0) 1)))) (cond (Nat.blt pc 13) (cond (Nat.blt pc 11) (am_lf pc 8 (.getfield 9) 3) (cond (Nat.blt pc 12) (am_lf pc 11 (.iload_n 1) 1) (am_lf pc 12 (.iload_n 2) 1))) (cond (Nat.blt pc 19) (cond (Nat.blt pc 16) (am_lf pc 13 (.invokevirtual 22) 3) (am_lf pc 16 (.ifCond .eq 28) 3)) (cond (Nat.blt pc 20) (am_lf pc 19 (.aload_n 0) 1) (am_lf pc 20 (.getfield 15) 3))))) (cond (Nat.blt pc 33) (cond (Nat.blt pc 30) (cond (Nat.blt pc 24) (am_lf pc 23 (.aload_n 0) 1) (cond (Nat.blt pc 27) (am_lf pc 24 (.getfield 9) 3) (am_lf pc 27 (.getfield 49) 3))) (cond (Nat.blt pc 31) (am_lf pc 30 (.iconst 0) 1) (cond (Nat.blt pc 32) (am_lf pc 31 .iaload 1) (am_lf pc 32 (.aload_n 0) 1)))) (cond (Nat.blt pc 40) (cond (Nat.blt pc 36) (am_lf pc 33 (.getfield 19) 3) (cond (Nat.blt pc 37) (am_lf pc 36 .imul 1) (am_lf pc 37 (.if_icmp .gt 7) 3))) (cond (Nat.blt pc 44) (cond (Nat.blt pc 41) (am_lf pc 40 (.iconst 1) 1) (am_lf pc 41 (.goto 4) 3)) (cond (Nat.blt pc 45) (am_lf pc 44 (.iconst 0) 1) (am_lf pc 45 .ireturn 1)))))))
def tk_X1_findWorst : Nat → Option (Instr × Nat) := am_guard 192 (fun pc => (cond (Nat.blt pc 94) (cond (Nat.blt pc 53) (cond (Nat.blt pc 24) (cond (Nat.blt pc 10) (cond (Nat.blt pc 5) (cond (Nat.blt pc 1) (am_lf pc 0 (.aload_n 0) 1) (cond (Nat.blt pc 2) (am_lf pc 1 (.iconst 0) 1) (am_lf pc 2 (.putfield 15) 3))) (cond (Nat.blt pc 6) (am_lf pc 5 (.aload_n 0) 1) (cond (Nat.blt pc 7) (am_lf pc 6 (.iconst 1) 1) (am_lf pc 7 (.putfield 19) 3)))) (cond (Nat.blt pc 15) (cond (Nat.blt pc 11) (am_lf pc 10 (.aload_n 0) 1) (cond (Nat.blt pc 14) (am_lf pc 11 (.getfield 9) 3) (am_lf pc 14 (.iload_n 1) 1))) (cond (Nat.blt pc 19) (cond (Nat.blt pc 16) (am_lf pc 15 (.iload_n 2) 1) (am_lf pc 16 (.invokevirtual 22) 3)) (cond (Nat.blt pc 22) (am_lf pc 19 (.ifCond .ne 6) 3) (am_lf pc 22 (.ldc 28) 2))))) (cond (Nat.blt pc 37) (cond (Nat.blt pc 29) (cond (Nat.blt pc 25) (am_lf pc 24 .ireturn 1) (cond (Nat.blt pc 26) (am_lf pc 25 (.aload_n 0) 1) (am_lf pc 26 (.getfield 9) 3))) (cond (Nat.blt pc 33) (cond (Nat.blt pc 32) (am_lf pc 29 (.getfield 29) 3) (am_lf pc 32 (.astore_n 3) 1)) (cond (Nat.blt pc 34) (am_lf pc 33 (.aload_n 0) 1) (am_lf pc 34 (.getfield 9) 3)))) (cond (Nat.blt pc 43) (cond (Nat.blt pc 40) (am_lf pc 37 (.getfield 33) 3) (cond (Nat.blt pc 42) (am_lf pc 40 (.astore 4) 2) (am_lf pc 42 (.aload_n 0) 1))) (cond (Nat.blt pc 49) (cond (Nat.blt pc 46) (am_lf pc 43 (.getfield 9) 3) (am_lf pc 46 (.invokevirtual 36) 3)) (cond (Nat.blt pc 51) (am_lf pc 49 (.istore 5) 2) (am_lf pc 51 (.iload 5) 2)))))) (cond (Nat.blt pc 74) (cond (Nat.blt pc 63) (cond (Nat.blt pc 60) (cond (Nat.blt pc 56) (am_lf pc 53 (.ifCond .eq 7) 3) (cond (Nat.blt pc 57) (am_lf pc 56 (.iconst 1) 1) (am_lf pc 57 (.goto 10) 3))) (cond (Nat.blt pc 61) (am_lf pc 60 (.aload_n 3) 1) (cond (Nat.blt pc 62) (am_lf pc 61 (.iload_n 2) 1) (am_lf pc 62 .iaload 1)))) (cond (Nat.blt pc 66) (cond (Nat.blt pc 64) (am_lf pc 63 (.aload_n 3) 1) (cond (Nat.blt pc 65) (am_lf pc 64 (.iload_n 1) 1) (am_lf pc 65 .iaload 1))) (cond (Nat.blt pc 69) (cond (Nat.blt pc 67) (am_lf pc 66 .isub 1) (am_lf pc 67 (.istore 6) 2)) (cond (Nat.blt pc 71) (am_lf pc 69 (.iload 5) 2) (am_lf pc 71 (.ifCond .eq 7) 3))))) (cond (Nat.blt pc 85) (cond (Nat.blt pc 80) (cond (Nat.blt pc 75) (am_lf pc 74 (.iconst 0) 1) (cond (Nat.blt pc 78) (am_lf pc 75 (.goto 12) 3) (am_lf pc 78 (.aload 4) 2))) (cond (Nat.blt pc 82) (cond (Nat.blt pc 81) (am_lf pc 80 (.iload_n 2) 1) (am_lf pc 81 .iaload 1)) (cond (Nat.blt pc 84) (am_lf pc 82 (.aload 4) 2) (am_lf pc 84 (.iload_n 1) 1)))) (cond (Nat.blt pc 89) (cond (Nat.blt pc 86) (am_lf pc 85 .iaload 1) (cond (Nat.blt pc 87) (am_lf pc 86 .isub 1) (am_lf pc 87 (.istore 7) 2))) (cond (Nat.blt pc 91) (cond (Nat.blt pc 90) (am_lf pc 89 (.aload_n 3) 1) (am_lf pc 90 (.iload_n 1) 1)) (cond (Nat.blt pc 92) (am_lf pc 91 .iaload 1) (am_lf pc 92 (.istore 8) 2))))))) (cond (Nat.blt pc 137) (cond (Nat.blt pc 114) (cond (Nat.blt pc 104) (cond (Nat.blt pc 98) (cond (Nat.blt pc 96) (am_lf pc 94 (.aload 4) 2) (cond (Nat.blt pc 97) (am_lf pc 96 (.iload_n 1) 1) (am_lf pc 97 .iaload 1))) (cond (Nat.blt pc 100) (am_lf pc 98 (.istore 9) 2) (cond (Nat.blt pc 102) (am_lf pc 100 (.ldc 28) 2) (am_lf pc 102 (.istore 10) 2)))) (cond (Nat.blt pc 108) (cond (Nat.blt pc 105) (am_lf pc 104 (.iconst (-1)) 1) (cond (Nat.blt pc 107) (am_lf pc 105 (.istore 11) 2) (am_lf pc 107 (.iload_n 1) 1))) (cond (Nat.blt pc 110) (cond (Nat.blt pc 109) (am_lf pc 108 (.iconst 1) 1) (am_lf pc 109 .iadd 1)) (cond (Nat.blt pc 112) (am_lf pc 110 (.istore 12) 2) (am_lf pc 112 (.iload 12) 2))))) (cond (Nat.blt pc 126) (cond (Nat.blt pc 120) (cond (Nat.blt pc 115) (am_lf pc 114 (.iload_n 2) 1) (cond (Nat.blt pc 118) (am_lf pc 115 (.if_icmp .ge 58) 3) (am_lf pc 118 (.aload 4) 2))) (cond (Nat.blt pc 123) (cond (Nat.blt pc 122) (am_lf pc 120 (.iload 12) 2) (am_lf pc 122 .iaload 1)) (cond (Nat.blt pc 125) (am_lf pc 123 (.iload 9) 2) (am_lf pc 125 .isub 1)))) (cond (Nat.blt pc 131) (cond (Nat.blt pc 128) (am_lf pc 126 (.iload 6) 2) (cond (Nat.blt pc 129) (am_lf pc 128 .imul 1) (am_lf pc 129 (.iload 7) 2))) (cond (Nat.blt pc 134) (cond (Nat.blt pc 132) (am_lf pc 131 (.aload_n 3) 1) (am_lf pc 132 (.iload 12) 2)) (cond (Nat.blt pc 135) (am_lf pc 134 .iaload 1) (am_lf pc 135 (.iload 8) 2)))))) (cond (Nat.blt pc 163) (cond (Nat.blt pc 149) (cond (Nat.blt pc 140) (cond (Nat.blt pc 138) (am_lf pc 137 .isub 1) (cond (Nat.blt pc 139) (am_lf pc 138 .imul 1) (am_lf pc 139 .isub 1))) (cond (Nat.blt pc 144) (cond (Nat.blt pc 142) (am_lf pc 140 (.istore 13) 2) (am_lf pc 142 (.iload 13) 2)) (cond (Nat.blt pc 147) (am_lf pc 144 (.ifCond .ge 8) 3) (am_lf pc 147 (.iload 13) 2)))) (cond (Nat.blt pc 154) (cond (Nat.blt pc 150) (am_lf pc 149 .ineg 1) (cond (Nat.blt pc 152) (am_lf pc 150 (.istore 13) 2) (am_lf pc 152 (.iload 13) 2))) (cond (Nat.blt pc 159) (cond (Nat.blt pc 156) (am_lf pc 154 (.iload 11) 2) (am_lf pc 156 (.if_icmp .le 11) 3)) (cond (Nat.blt pc 161) (am_lf pc 159 (.iload 13) 2) (am_lf pc 161 (.istore 11) 2))))) (cond (Nat.blt pc 177) (cond (Nat.blt pc 170) (cond (Nat.blt pc 165) (am_lf pc 163 (.iload 12) 2) (cond (Nat.blt pc 167) (am_lf pc 165 (.istore 10) 2) (am_lf pc 167 (.iinc 12 1) 3))) (cond (Nat.blt pc 174) (cond (Nat.blt pc 173) (am_lf pc 170 (.goto (-58)) 3) (am_lf pc 173 (.aload_n 0) 1)) (cond (Nat.blt pc 176) (am_lf pc 174 (.iload 11) 2) (am_lf pc 176 (.iconst 0) 1)))) (cond (Nat.blt pc 184) (cond (Nat.blt pc 180) (am_lf pc 177 (.invokestatic 40) 3) (cond (Nat.blt pc 183) (am_lf pc 180 (.putfield 15) 3) (am_lf pc 183 (.aload_n 0) 1))) (cond (Nat.blt pc 189) (cond (Nat.blt pc 186) (am_lf pc 184 (.iload 6) 2) (am_lf pc 186 (.putfield 19) 3)) (cond (Nat.blt pc 191) (am_lf pc 189 (.iload 10) 2) (am_lf pc 191 .ireturn 1)))))))))
def tk_X5_error : Nat → Option (Instr × Nat) := am_guard 46 (fun pc => (cond (Nat.blt pc 21) (cond (Nat.blt pc 7) (cond (Nat.blt pc 2) (cond (Nat.blt pc 1) (am_lf pc 0 (.aload_n 0) 1) (am_lf pc 1 (.iload_n 1) 1)) (cond (Nat.blt pc 5) (am_lf pc 2 (.invokevirtual 88) 3) (cond (Nat.blt pc 6) (am_lf pc 5 (.iload_n 2) 1) (am_lf pc 6 (.iconst 1) 1)))) (cond (Nat.blt pc 14) (cond (Nat.blt pc 10) (am_lf pc 7 (.invokestatic 212) 3) (cond (Nat.blt pc 11) (am_lf pc 10 (.aload_n 0) 1) (am_lf pc 11 (.getfield 21) 3))) (cond (Nat.blt pc 15) (am_lf pc 14 (.iload_n 1) 1) (cond (Nat.blt pc 18) (am_lf pc 15 (.invokevirtual 228) 3) (am_lf pc 18 (.ifCond .ne 6) 3))))) (cond (Nat.blt pc 32) (cond (Nat.blt pc 25) (cond (Nat.blt pc 23) (am_lf pc 21 (.ldc 231) 2) (cond (Nat.blt pc 24) (am_lf pc 23 .ireturn 1) (am_lf pc 24 (.iload_n 2) 1))) (cond (Nat.blt pc 28) (am_lf pc 25 (.ifCond .ne 13) 3) (cond (Nat.blt pc 29) (am_lf pc 28 (.aload_n 0) 1) (am_lf pc 29 (.getfield 21) 3)))) (cond (Nat.blt pc 39) (cond (Nat.blt pc 35) (am_lf pc 32 (.getfield 232) 3) (cond (Nat.blt pc 38) (am_lf pc 35 (.goto 10) 3) (am_lf pc 38 (.aload_n 0) 1))) (cond (Nat.blt pc 42) (am_lf pc 39 (.getfield 21) 3) (cond (Nat.blt pc 45) (am_lf pc 42 (.getfield 235) 3) (am_lf pc 45 .ireturn 1)))))))
def tk_X5_hashStretches : Nat → Option (Instr × Nat) := am_guard 60 (fun pc => (cond (Nat.blt pc 30) (cond (Nat.blt pc 14) (cond (Nat.blt pc 6) (cond (Nat.blt pc 2) (cond (Nat.blt pc 1) (am_lf pc 0 (.lload_n 1) 1) (am_lf pc 1 (.lstore_n 3) 1)) (cond (Nat.blt pc 3) (am_lf pc 2 (.aload_n 0) 1) (am_lf pc 3 (.getfield 10) 3))) (cond (Nat.blt pc 11) (cond (Nat.blt pc 9) (am_lf pc 6 (.invokevirtual 257) 3) (am_lf pc 9 (.istore 5) 2)) (cond (Nat.blt pc 12) (am_lf pc 11 (.iconst 0) 1) (am_lf pc 12 (.istore 6) 2)))) (cond (Nat.blt pc 22) (cond (Nat.blt pc 18) (cond (Nat.blt pc 16) (am_lf pc 14 (.iload 6) 2) (am_lf pc 16 (.iload 5) 2)) (cond (Nat.blt pc 21) (am_lf pc 18 (.if_icmp .ge 40) 3) (am_lf pc 21 (.iconst 0) 1))) (cond (Nat.blt pc 26) (cond (Nat.blt pc 24) (am_lf pc 22 (.istore 7) 2) (am_lf pc 24 (.iload 7) 2)) (cond (Nat.blt pc 27) (am_lf pc 26 (.iconst 4) 1) (am_lf pc 27 (.if_icmp .gt 25) 3))))) (cond (Nat.blt pc 44) (cond (Nat.blt pc 36) (cond (Nat.blt pc 34) (cond (Nat.blt pc 33) (am_lf pc 30 (.ldc2_w 296) 3) (am_lf pc 33 (.lload_n 3) 1)) (cond (Nat.blt pc 35) (am_lf pc 34 .lmul 1) (am_lf pc 35 (.aload_n 0) 1))) (cond (Nat.blt pc 40) (cond (Nat.blt pc 38) (am_lf pc 36 (.iload 6) 2) (am_lf pc 38 (.iload 7) 2)) (cond (Nat.blt pc 43) (am_lf pc 40 (.invokevirtual 366) 3) (am_lf pc 43 .i2l 1)))) (cond (Nat.blt pc 52) (cond (Nat.blt pc 46) (cond (Nat.blt pc 45) (am_lf pc 44 .ladd 1) (am_lf pc 45 (.lstore_n 3) 1)) (cond (Nat.blt pc 49) (am_lf pc 46 (.iinc 7 1) 3) (am_lf pc 49 (.goto (-25)) 3))) (cond (Nat.blt pc 58) (cond (Nat.blt pc 55) (am_lf pc 52 (.iinc 6 1) 3) (am_lf pc 55 (.goto (-41)) 3)) (cond (Nat.blt pc 59) (am_lf pc 58 (.lload_n 3) 1) (am_lf pc 59 .lreturn 1)))))))
def tk_X5_stretch : Nat → Option (Instr × Nat) := am_guard 97 (fun pc => (cond (Nat.blt pc 59) (cond (Nat.blt pc 41) (cond (Nat.blt pc 6) (cond (Nat.blt pc 2) (cond (Nat.blt pc 1) (am_lf pc 0 (.aload_n 0) 1) (am_lf pc 1 (.iload_n 1) 1)) (cond (Nat.blt pc 5) (am_lf pc 2 (.invokevirtual 130) 3) (am_lf pc 5 (.iload_n 2) 1))) (cond (Nat.blt pc 10) (cond (Nat.blt pc 7) (am_lf pc 6 (.iconst 4) 1) (am_lf pc 7 (.invokestatic 212) 3)) (cond (Nat.blt pc 11) (am_lf pc 10 (.iload_n 2) 1) (cond (Nat.blt pc 40) (am_lf pc 11 (.tableswitch 77 0 3 #[29, 38, 47, 56]) 29) (am_lf pc 40 (.aload_n 0) 1))))) (cond (Nat.blt pc 50) (cond (Nat.blt pc 45) (cond (Nat.blt pc 44) (am_lf pc 41 (.getfield 10) 3) (am_lf pc 44 (.iload_n 1) 1)) (cond (Nat.blt pc 48) (am_lf pc 45 (.invokevirtual 136) 3) (cond (Nat.blt pc 49) (am_lf pc 48 .ireturn 1) (am_lf pc 49 (.aload_n 0) 1)))) (cond (Nat.blt pc 54) (cond (Nat.blt pc 53) (am_lf pc 50 (.getfield 10) 3) (am_lf pc 53 (.iload_n 1) 1)) (cond (Nat.blt pc 57) (am_lf pc 54 (.invokevirtual 133) 3) (cond (Nat.blt pc 58) (am_lf pc 57 .ireturn 1) (am_lf pc 58 (.aload_n 0) 1)))))) (cond (Nat.blt pc 77) (cond (Nat.blt pc 68) (cond (Nat.blt pc 63) (cond (Nat.blt pc 62) (am_lf pc 59 (.getfield 10) 3) (am_lf pc 62 (.iload_n 1) 1)) (cond (Nat.blt pc 66) (am_lf pc 63 (.invokevirtual 243) 3) (cond (Nat.blt pc 67) (am_lf pc 66 .ireturn 1) (am_lf pc 67 (.aload_n 0) 1)))) (cond (Nat.blt pc 72) (cond (Nat.blt pc 69) (am_lf pc 68 (.aload_n 0) 1) (am_lf pc 69 (.getfield 10) 3)) (cond (Nat.blt pc 73) (am_lf pc 72 (.iload_n 1) 1) (cond (Nat.blt pc 76) (am_lf pc 73 (.invokevirtual 136) 3) (am_lf pc 76 (.aload_n 0) 1))))) (cond (Nat.blt pc 88) (cond (Nat.blt pc 81) (cond (Nat.blt pc 80) (am_lf pc 77 (.getfield 10) 3) (am_lf pc 80 (.iload_n 1) 1)) (cond (Nat.blt pc 84) (am_lf pc 81 (.invokevirtual 133) 3) (cond (Nat.blt pc 87) (am_lf pc 84 (.invokevirtual 246) 3) (am_lf pc 87 .ireturn 1)))) (cond (Nat.blt pc 92) (cond (Nat.blt pc 89) (am_lf pc 88 (.aload_n 0) 1) (am_lf pc 89 (.getfield 30) 3)) (cond (Nat.blt pc 93) (am_lf pc 92 (.iload_n 1) 1) (cond (Nat.blt pc 96) (am_lf pc 93 (.invokevirtual 249) 3) (am_lf pc 96 .ireturn 1))))))))
def tk_X5_refuseNoStretch : Nat → Option (Instr × Nat) := am_guard 27 (fun pc => (cond (Nat.blt pc 12) (cond (Nat.blt pc 5) (cond (Nat.blt pc 1) (am_lf pc 0 (.iload_n 1) 1) (cond (Nat.blt pc 4) (am_lf pc 1 (.ifCond .lt 14) 3) (am_lf pc 4 (.iload_n 1) 1))) (cond (Nat.blt pc 6) (am_lf pc 5 (.aload_n 0) 1) (cond (Nat.blt pc 9) (am_lf pc 6 (.getfield 10) 3) (am_lf pc 9 (.invokevirtual 257) 3)))) (cond (Nat.blt pc 19) (cond (Nat.blt pc 15) (am_lf pc 12 (.if_icmp .lt 14) 3) (cond (Nat.blt pc 18) (am_lf pc 15 (.new 252) 3) (am_lf pc 18 .dup 1))) (cond (Nat.blt pc 25) (cond (Nat.blt pc 22) (am_lf pc 19 (.ldc_w 344) 3) (am_lf pc 22 (.invokespecial 256) 3)) (cond (Nat.blt pc 26) (am_lf pc 25 .athrow 1) (am_lf pc 26 .return_ 1))))))
def tk_X2_firstOf : Nat → Option (Instr × Nat) := am_guard 31 (fun pc => (cond (Nat.blt pc 15) (cond (Nat.blt pc 4) (cond (Nat.blt pc 2) (cond (Nat.blt pc 1) (am_lf pc 0 (.iconst 0) 1) (am_lf pc 1 (.istore_n 2) 1)) (cond (Nat.blt pc 3) (am_lf pc 2 (.iload_n 2) 1) (am_lf pc 3 (.aload_n 0) 1))) (cond (Nat.blt pc 10) (cond (Nat.blt pc 7) (am_lf pc 4 (.getfield 39) 3) (am_lf pc 7 (.if_icmp .ge 21) 3)) (cond (Nat.blt pc 11) (am_lf pc 10 (.aload_n 0) 1) (cond (Nat.blt pc 14) (am_lf pc 11 (.getfield 21) 3) (am_lf pc 14 (.iload_n 2) 1))))) (cond (Nat.blt pc 21) (cond (Nat.blt pc 17) (cond (Nat.blt pc 16) (am_lf pc 15 .iaload 1) (am_lf pc 16 (.iload_n 1) 1)) (cond (Nat.blt pc 20) (am_lf pc 17 (.if_icmp .ne 5) 3) (am_lf pc 20 (.iload_n 2) 1))) (cond (Nat.blt pc 25) (cond (Nat.blt pc 22) (am_lf pc 21 .ireturn 1) (am_lf pc 22 (.iinc 2 1) 3)) (cond (Nat.blt pc 28) (am_lf pc 25 (.goto (-23)) 3) (cond (Nat.blt pc 30) (am_lf pc 28 (.ldc 60) 2) (am_lf pc 30 .ireturn 1)))))))
def tk_X2_sizeOf : Nat → Option (Instr × Nat) := am_guard 33 (fun pc => (cond (Nat.blt pc 13) (cond (Nat.blt pc 4) (cond (Nat.blt pc 2) (cond (Nat.blt pc 1) (am_lf pc 0 (.iconst 0) 1) (am_lf pc 1 (.istore_n 2) 1)) (cond (Nat.blt pc 3) (am_lf pc 2 (.iconst 0) 1) (am_lf pc 3 (.istore_n 3) 1))) (cond (Nat.blt pc 6) (cond (Nat.blt pc 5) (am_lf pc 4 (.iload_n 3) 1) (am_lf pc 5 (.aload_n 0) 1)) (cond (Nat.blt pc 9) (am_lf pc 6 (.getfield 39) 3) (cond (Nat.blt pc 12) (am_lf pc 9 (.if_icmp .ge 22) 3) (am_lf pc 12 (.aload_n 0) 1))))) (cond (Nat.blt pc 22) (cond (Nat.blt pc 17) (cond (Nat.blt pc 16) (am_lf pc 13 (.getfield 21) 3) (am_lf pc 16 (.iload_n 3) 1)) (cond (Nat.blt pc 18) (am_lf pc 17 .iaload 1) (cond (Nat.blt pc 19) (am_lf pc 18 (.iload_n 1) 1) (am_lf pc 19 (.if_icmp .ne 6) 3)))) (cond (Nat.blt pc 28) (cond (Nat.blt pc 25) (am_lf pc 22 (.iinc 2 1) 3) (am_lf pc 25 (.iinc 3 1) 3)) (cond (Nat.blt pc 31) (am_lf pc 28 (.goto (-24)) 3) (cond (Nat.blt pc 32) (am_lf pc 31 (.iload_n 2) 1) (am_lf pc 32 .ireturn 1)))))))
def tk_X2_keptOf : Nat → Option (Instr × Nat) := am_guard 43 (fun pc => (cond (Nat.blt pc 18) (cond (Nat.blt pc 6) (cond (Nat.blt pc 3) (cond (Nat.blt pc 1) (am_lf pc 0 (.iconst 0) 1) (cond (Nat.blt pc 2) (am_lf pc 1 (.istore_n 2) 1) (am_lf pc 2 (.iconst 0) 1))) (cond (Nat.blt pc 4) (am_lf pc 3 (.istore_n 3) 1) (cond (Nat.blt pc 5) (am_lf pc 4 (.iload_n 3) 1) (am_lf pc 5 (.aload_n 0) 1)))) (cond (Nat.blt pc 13) (cond (Nat.blt pc 9) (am_lf pc 6 (.getfield 39) 3) (cond (Nat.blt pc 12) (am_lf pc 9 (.if_icmp .ge 32) 3) (am_lf pc 12 (.aload_n 0) 1))) (cond (Nat.blt pc 16) (am_lf pc 13 (.getfield 21) 3) (cond (Nat.blt pc 17) (am_lf pc 16 (.iload_n 3) 1) (am_lf pc 17 .iaload 1))))) (cond (Nat.blt pc 28) (cond (Nat.blt pc 23) (cond (Nat.blt pc 19) (am_lf pc 18 (.iload_n 1) 1) (cond (Nat.blt pc 22) (am_lf pc 19 (.if_icmp .ne 16) 3) (am_lf pc 22 (.aload_n 0) 1))) (cond (Nat.blt pc 26) (am_lf pc 23 (.getfield 18) 3) (cond (Nat.blt pc 27) (am_lf pc 26 (.iload_n 3) 1) (am_lf pc 27 .iaload 1)))) (cond (Nat.blt pc 35) (cond (Nat.blt pc 29) (am_lf pc 28 (.iconst 1) 1) (cond (Nat.blt pc 32) (am_lf pc 29 (.if_icmp .ne 6) 3) (am_lf pc 32 (.iinc 2 1) 3))) (cond (Nat.blt pc 41) (cond (Nat.blt pc 38) (am_lf pc 35 (.iinc 3 1) 3) (am_lf pc 38 (.goto (-34)) 3)) (cond (Nat.blt pc 42) (am_lf pc 41 (.iload_n 2) 1) (am_lf pc 42 .ireturn 1)))))))
def tk_X4_fewestOf : Nat → Option (Instr × Nat) := am_guard 49 (fun pc => (cond (Nat.blt pc 23) (cond (Nat.blt pc 12) (cond (Nat.blt pc 5) (cond (Nat.blt pc 1) (am_lf pc 0 (.aload_n 0) 1) (cond (Nat.blt pc 4) (am_lf pc 1 (.invokevirtual 33) 3) (am_lf pc 4 (.aload_n 0) 1))) (cond (Nat.blt pc 6) (am_lf pc 5 (.aload_n 0) 1) (cond (Nat.blt pc 9) (am_lf pc 6 (.getfield 21) 3) (am_lf pc 9 (.getfield 36) 3)))) (cond (Nat.blt pc 17) (cond (Nat.blt pc 13) (am_lf pc 12 (.iconst 0) 1) (cond (Nat.blt pc 14) (am_lf pc 13 .iaload 1) (am_lf pc 14 (.invokevirtual 41) 3))) (cond (Nat.blt pc 19) (cond (Nat.blt pc 18) (am_lf pc 17 .pop 1) (am_lf pc 18 (.aload_n 0) 1)) (cond (Nat.blt pc 22) (am_lf pc 19 (.getfield 21) 3) (am_lf pc 22 (.iload_n 1) 1))))) (cond (Nat.blt pc 38) (cond (Nat.blt pc 28) (cond (Nat.blt pc 26) (am_lf pc 23 (.invokevirtual 64) 3) (cond (Nat.blt pc 27) (am_lf pc 26 (.istore_n 2) 1) (am_lf pc 27 (.aload_n 0) 1))) (cond (Nat.blt pc 32) (cond (Nat.blt pc 31) (am_lf pc 28 (.getfield 21) 3) (am_lf pc 31 (.iload_n 2) 1)) (cond (Nat.blt pc 35) (am_lf pc 32 (.invokevirtual 67) 3) (am_lf pc 35 (.ifCond .eq 12) 3)))) (cond (Nat.blt pc 43) (cond (Nat.blt pc 39) (am_lf pc 38 (.aload_n 0) 1) (cond (Nat.blt pc 42) (am_lf pc 39 (.getfield 15) 3) (am_lf pc 42 (.iload_n 2) 1))) (cond (Nat.blt pc 47) (cond (Nat.blt pc 44) (am_lf pc 43 .iaload 1) (am_lf pc 44 (.goto 4) 3)) (cond (Nat.blt pc 48) (am_lf pc 47 (.iconst 0) 1) (am_lf pc 48 .ireturn 1)))))))
def tk_X4_findNeeds : Nat → Option (Instr × Nat) := am_guard 103 (fun pc => (cond (Nat.blt pc 48) (cond (Nat.blt pc 23) (cond (Nat.blt pc 10) (cond (Nat.blt pc 7) (cond (Nat.blt pc 1) (am_lf pc 0 (.aload_n 0) 1) (cond (Nat.blt pc 4) (am_lf pc 1 (.getfield 29) 3) (am_lf pc 4 (.ifCond .eq 4) 3))) (cond (Nat.blt pc 8) (am_lf pc 7 .return_ 1) (cond (Nat.blt pc 9) (am_lf pc 8 (.iconst 0) 1) (am_lf pc 9 (.istore_n 1) 1)))) (cond (Nat.blt pc 15) (cond (Nat.blt pc 11) (am_lf pc 10 (.iload_n 1) 1) (cond (Nat.blt pc 12) (am_lf pc 11 (.aload_n 0) 1) (am_lf pc 12 (.getfield 21) 3))) (cond (Nat.blt pc 21) (cond (Nat.blt pc 18) (am_lf pc 15 (.getfield 45) 3) (am_lf pc 18 (.if_icmp .ge 79) 3)) (cond (Nat.blt pc 22) (am_lf pc 21 (.iload_n 1) 1) (am_lf pc 22 (.iconst 1) 1))))) (cond (Nat.blt pc 33) (cond (Nat.blt pc 26) (cond (Nat.blt pc 24) (am_lf pc 23 .iadd 1) (cond (Nat.blt pc 25) (am_lf pc 24 (.istore_n 2) 1) (am_lf pc 25 (.iload_n 2) 1))) (cond (Nat.blt pc 27) (am_lf pc 26 (.aload_n 0) 1) (cond (Nat.blt pc 30) (am_lf pc 27 (.getfield 21) 3) (am_lf pc 30 (.getfield 45) 3)))) (cond (Nat.blt pc 40) (cond (Nat.blt pc 36) (am_lf pc 33 (.if_icmp .ge 58) 3) (cond (Nat.blt pc 37) (am_lf pc 36 (.aload_n 0) 1) (am_lf pc 37 (.getfield 21) 3))) (cond (Nat.blt pc 42) (cond (Nat.blt pc 41) (am_lf pc 40 (.iload_n 1) 1) (am_lf pc 41 (.iload_n 2) 1)) (cond (Nat.blt pc 45) (am_lf pc 42 (.invokevirtual 71) 3) (am_lf pc 45 (.ifCond .eq 46) 3)))))) (cond (Nat.blt pc 71) (cond (Nat.blt pc 58) (cond (Nat.blt pc 53) (cond (Nat.blt pc 49) (am_lf pc 48 (.aload_n 0) 1) (cond (Nat.blt pc 52) (am_lf pc 49 (.getfield 25) 3) (am_lf pc 52 (.iload_n 1) 1))) (cond (Nat.blt pc 54) (am_lf pc 53 (.iload_n 2) 1) (cond (Nat.blt pc 57) (am_lf pc 54 (.invokevirtual 82) 3) (am_lf pc 57 .pop 1)))) (cond (Nat.blt pc 63) (cond (Nat.blt pc 59) (am_lf pc 58 (.aload_n 0) 1) (cond (Nat.blt pc 62) (am_lf pc 59 (.getfield 18) 3) (am_lf pc 62 (.iload_n 1) 1))) (cond (Nat.blt pc 67) (cond (Nat.blt pc 64) (am_lf pc 63 (.iload_n 2) 1) (am_lf pc 64 (.invokestatic 75) 3)) (cond (Nat.blt pc 68) (am_lf pc 67 (.aload_n 0) 1) (am_lf pc 68 (.getfield 25) 3))))) (cond (Nat.blt pc 88) (cond (Nat.blt pc 78) (cond (Nat.blt pc 74) (am_lf pc 71 (.getfield 98) 3) (cond (Nat.blt pc 75) (am_lf pc 74 (.aload_n 0) 1) (am_lf pc 75 (.getfield 25) 3))) (cond (Nat.blt pc 84) (cond (Nat.blt pc 81) (am_lf pc 78 (.getfield 101) 3) (am_lf pc 81 (.invokestatic 104) 3)) (cond (Nat.blt pc 85) (am_lf pc 84 .iastore 1) (am_lf pc 85 (.iinc 2 1) 3)))) (cond (Nat.blt pc 97) (cond (Nat.blt pc 91) (am_lf pc 88 (.goto (-63)) 3) (cond (Nat.blt pc 94) (am_lf pc 91 (.iinc 1 1) 3) (am_lf pc 94 (.goto (-84)) 3))) (cond (Nat.blt pc 99) (cond (Nat.blt pc 98) (am_lf pc 97 (.aload_n 0) 1) (am_lf pc 98 (.iconst 1) 1)) (cond (Nat.blt pc 102) (am_lf pc 99 (.putfield 29) 3) (am_lf pc 102 .return_ 1))))))))
def tk_X4_cell : Nat → Option (Instr × Nat) := am_guard 41 (fun pc => (cond (Nat.blt pc 24) (cond (Nat.blt pc 11) (cond (Nat.blt pc 5) (cond (Nat.blt pc 1) (am_lf pc 0 (.iload_n 0) 1) (cond (Nat.blt pc 4) (am_lf pc 1 (.ifCond .lt 23) 3) (am_lf pc 4 (.iload_n 0) 1))) (cond (Nat.blt pc 7) (am_lf pc 5 (.bipush 60) 2) (cond (Nat.blt pc 10) (am_lf pc 7 (.if_icmp .ge 17) 3) (am_lf pc 10 (.iload_n 1) 1)))) (cond (Nat.blt pc 17) (cond (Nat.blt pc 14) (am_lf pc 11 (.ifCond .lt 13) 3) (cond (Nat.blt pc 15) (am_lf pc 14 (.iload_n 1) 1) (am_lf pc 15 (.bipush 60) 2))) (cond (Nat.blt pc 20) (am_lf pc 17 (.if_icmp .ge 7) 3) (cond (Nat.blt pc 21) (am_lf pc 20 (.iconst 1) 1) (am_lf pc 21 (.goto 4) 3))))) (cond (Nat.blt pc 33) (cond (Nat.blt pc 27) (cond (Nat.blt pc 25) (am_lf pc 24 (.iconst 0) 1) (cond (Nat.blt pc 26) (am_lf pc 25 (.istore_n 2) 1) (am_lf pc 26 (.iload_n 2) 1))) (cond (Nat.blt pc 30) (am_lf pc 27 (.ifCond .eq 12) 3) (cond (Nat.blt pc 31) (am_lf pc 30 (.iload_n 0) 1) (am_lf pc 31 (.bipush 60) 2)))) (cond (Nat.blt pc 36) (cond (Nat.blt pc 34) (am_lf pc 33 .imul 1) (cond (Nat.blt pc 35) (am_lf pc 34 (.iload_n 1) 1) (am_lf pc 35 .iadd 1))) (cond (Nat.blt pc 39) (am_lf pc 36 (.goto 4) 3) (cond (Nat.blt pc 40) (am_lf pc 39 (.iconst 0) 1) (am_lf pc 40 .ireturn 1)))))))
def tk_X4_findFewest : Nat → Option (Instr × Nat) := am_guard 62 (fun pc => (cond (Nat.blt pc 31) (cond (Nat.blt pc 13) (cond (Nat.blt pc 6) (cond (Nat.blt pc 2) (cond (Nat.blt pc 1) (am_lf pc 0 (.iconst 0) 1) (am_lf pc 1 (.istore_n 2) 1)) (cond (Nat.blt pc 3) (am_lf pc 2 (.aload_n 0) 1) (am_lf pc 3 (.getfield 21) 3))) (cond (Nat.blt pc 10) (cond (Nat.blt pc 9) (am_lf pc 6 (.getfield 45) 3) (am_lf pc 9 (.iconst 1) 1)) (cond (Nat.blt pc 11) (am_lf pc 10 .isub 1) (cond (Nat.blt pc 12) (am_lf pc 11 (.istore_n 3) 1) (am_lf pc 12 (.iload_n 3) 1))))) (cond (Nat.blt pc 22) (cond (Nat.blt pc 17) (cond (Nat.blt pc 16) (am_lf pc 13 (.ifCond .lt 47) 3) (am_lf pc 16 (.aload_n 0) 1)) (cond (Nat.blt pc 18) (am_lf pc 17 (.iload_n 3) 1) (cond (Nat.blt pc 19) (am_lf pc 18 (.iload_n 1) 1) (am_lf pc 19 (.invokevirtual 92) 3)))) (cond (Nat.blt pc 25) (cond (Nat.blt pc 24) (am_lf pc 22 (.istore 4) 2) (am_lf pc 24 (.aload_n 0) 1)) (cond (Nat.blt pc 28) (am_lf pc 25 (.getfield 15) 3) (cond (Nat.blt pc 29) (am_lf pc 28 (.iload_n 3) 1) (am_lf pc 29 (.iload 4) 2)))))) (cond (Nat.blt pc 46) (cond (Nat.blt pc 35) (cond (Nat.blt pc 33) (cond (Nat.blt pc 32) (am_lf pc 31 (.iconst 1) 1) (am_lf pc 32 .iadd 1)) (cond (Nat.blt pc 34) (am_lf pc 33 .iastore 1) (am_lf pc 34 (.aload_n 0) 1))) (cond (Nat.blt pc 39) (cond (Nat.blt pc 38) (am_lf pc 35 (.getfield 21) 3) (am_lf pc 38 (.iload_n 3) 1)) (cond (Nat.blt pc 42) (am_lf pc 39 (.invokevirtual 49) 3) (cond (Nat.blt pc 45) (am_lf pc 42 (.ifCond .eq 12) 3) (am_lf pc 45 (.iload_n 2) 1))))) (cond (Nat.blt pc 53) (cond (Nat.blt pc 50) (cond (Nat.blt pc 47) (am_lf pc 46 (.aload_n 0) 1) (am_lf pc 47 (.getfield 15) 3)) (cond (Nat.blt pc 51) (am_lf pc 50 (.iload_n 3) 1) (cond (Nat.blt pc 52) (am_lf pc 51 .iaload 1) (am_lf pc 52 .iadd 1)))) (cond (Nat.blt pc 57) (cond (Nat.blt pc 54) (am_lf pc 53 (.istore_n 2) 1) (am_lf pc 54 (.iinc 3 (-1)) 3)) (cond (Nat.blt pc 60) (am_lf pc 57 (.goto (-45)) 3) (cond (Nat.blt pc 61) (am_lf pc 60 (.iload_n 2) 1) (am_lf pc 61 .ireturn 1))))))))
def tk_X4_fewestBehind : Nat → Option (Instr × Nat) := am_guard 112 (fun pc => (cond (Nat.blt pc 53) (cond (Nat.blt pc 26) (cond (Nat.blt pc 13) (cond (Nat.blt pc 5) (cond (Nat.blt pc 1) (am_lf pc 0 (.aload_n 0) 1) (cond (Nat.blt pc 4) (am_lf pc 1 (.getfield 21) 3) (am_lf pc 4 (.iload_n 1) 1))) (cond (Nat.blt pc 11) (cond (Nat.blt pc 8) (am_lf pc 5 (.invokevirtual 67) 3) (am_lf pc 8 (.ifCond .ne 5) 3)) (cond (Nat.blt pc 12) (am_lf pc 11 (.iconst 0) 1) (am_lf pc 12 .ireturn 1)))) (cond (Nat.blt pc 21) (cond (Nat.blt pc 17) (cond (Nat.blt pc 14) (am_lf pc 13 (.aload_n 0) 1) (am_lf pc 14 (.getfield 21) 3)) (cond (Nat.blt pc 20) (am_lf pc 17 (.getfield 95) 3) (am_lf pc 20 (.iload_n 1) 1))) (cond (Nat.blt pc 23) (cond (Nat.blt pc 22) (am_lf pc 21 .iaload 1) (am_lf pc 22 (.istore_n 3) 1)) (cond (Nat.blt pc 24) (am_lf pc 23 (.iload_n 1) 1) (am_lf pc 24 (.bipush 60) 2))))) (cond (Nat.blt pc 35) (cond (Nat.blt pc 30) (cond (Nat.blt pc 27) (am_lf pc 26 .imul 1) (cond (Nat.blt pc 29) (am_lf pc 27 (.istore 4) 2) (am_lf pc 29 (.iconst 0) 1))) (cond (Nat.blt pc 33) (cond (Nat.blt pc 32) (am_lf pc 30 (.istore 5) 2) (am_lf pc 32 (.iload_n 1) 1)) (cond (Nat.blt pc 34) (am_lf pc 33 (.iconst 1) 1) (am_lf pc 34 .iadd 1)))) (cond (Nat.blt pc 43) (cond (Nat.blt pc 39) (cond (Nat.blt pc 37) (am_lf pc 35 (.istore 6) 2) (am_lf pc 37 (.iload 6) 2)) (cond (Nat.blt pc 40) (am_lf pc 39 (.aload_n 0) 1) (am_lf pc 40 (.getfield 21) 3))) (cond (Nat.blt pc 49) (cond (Nat.blt pc 46) (am_lf pc 43 (.getfield 45) 3) (am_lf pc 46 (.if_icmp .ge 63) 3)) (cond (Nat.blt pc 50) (am_lf pc 49 (.aload_n 0) 1) (am_lf pc 50 (.getfield 21) 3)))))) (cond (Nat.blt pc 82) (cond (Nat.blt pc 67) (cond (Nat.blt pc 59) (cond (Nat.blt pc 56) (am_lf pc 53 (.getfield 95) 3) (cond (Nat.blt pc 58) (am_lf pc 56 (.iload 6) 2) (am_lf pc 58 .iaload 1))) (cond (Nat.blt pc 63) (cond (Nat.blt pc 60) (am_lf pc 59 (.iload_n 3) 1) (am_lf pc 60 (.if_icmp .ne 49) 3)) (cond (Nat.blt pc 64) (am_lf pc 63 (.aload_n 0) 1) (am_lf pc 64 (.getfield 18) 3)))) (cond (Nat.blt pc 73) (cond (Nat.blt pc 71) (cond (Nat.blt pc 69) (am_lf pc 67 (.iload 4) 2) (am_lf pc 69 (.iload 6) 2)) (cond (Nat.blt pc 72) (am_lf pc 71 .iadd 1) (am_lf pc 72 .iaload 1))) (cond (Nat.blt pc 77) (cond (Nat.blt pc 74) (am_lf pc 73 (.iload_n 2) 1) (am_lf pc 74 (.if_icmp .gt 29) 3)) (cond (Nat.blt pc 79) (am_lf pc 77 (.iload 5) 2) (am_lf pc 79 (.ifCond .eq 15) 3))))) (cond (Nat.blt pc 95) (cond (Nat.blt pc 88) (cond (Nat.blt pc 83) (am_lf pc 82 (.aload_n 0) 1) (cond (Nat.blt pc 86) (am_lf pc 83 (.getfield 15) 3) (am_lf pc 86 (.iload 6) 2))) (cond (Nat.blt pc 91) (cond (Nat.blt pc 89) (am_lf pc 88 .iaload 1) (am_lf pc 89 (.iload 5) 2)) (cond (Nat.blt pc 94) (am_lf pc 91 (.if_icmp .ge 12) 3) (am_lf pc 94 (.aload_n 0) 1)))) (cond (Nat.blt pc 103) (cond (Nat.blt pc 100) (cond (Nat.blt pc 98) (am_lf pc 95 (.getfield 15) 3) (am_lf pc 98 (.iload 6) 2)) (cond (Nat.blt pc 101) (am_lf pc 100 .iaload 1) (am_lf pc 101 (.istore 5) 2))) (cond (Nat.blt pc 109) (cond (Nat.blt pc 106) (am_lf pc 103 (.iinc 6 1) 3) (am_lf pc 106 (.goto (-69)) 3)) (cond (Nat.blt pc 111) (am_lf pc 109 (.iload 5) 2) (am_lf pc 111 .ireturn 1))))))))
def tk_X2_beginsStretch : Nat → Option (Instr × Nat) := am_guard 17 (fun pc => (cond (Nat.blt pc 5) (cond (Nat.blt pc 2) (cond (Nat.blt pc 1) (am_lf pc 0 (.aload_n 0) 1) (am_lf pc 1 (.iload_n 1) 1)) (cond (Nat.blt pc 3) (am_lf pc 2 (.iconst 1) 1) (cond (Nat.blt pc 4) (am_lf pc 3 .isub 1) (am_lf pc 4 (.iload_n 1) 1)))) (cond (Nat.blt pc 12) (cond (Nat.blt pc 8) (am_lf pc 5 (.invokevirtual 65) 3) (cond (Nat.blt pc 11) (am_lf pc 8 (.ifCond .ne 7) 3) (am_lf pc 11 (.iconst 1) 1))) (cond (Nat.blt pc 15) (am_lf pc 12 (.goto 4) 3) (cond (Nat.blt pc 16) (am_lf pc 15 (.iconst 0) 1) (am_lf pc 16 .ireturn 1))))))
def tk_X5_hashNotes : Nat → Option (Instr × Nat) := am_guard 56 (fun pc => (cond (Nat.blt pc 29) (cond (Nat.blt pc 11) (cond (Nat.blt pc 3) (cond (Nat.blt pc 1) (am_lf pc 0 (.lload_n 1) 1) (cond (Nat.blt pc 2) (am_lf pc 1 (.lstore_n 3) 1) (am_lf pc 2 (.iconst 0) 1))) (cond (Nat.blt pc 7) (cond (Nat.blt pc 5) (am_lf pc 3 (.istore 5) 2) (am_lf pc 5 (.iload 5) 2)) (cond (Nat.blt pc 8) (am_lf pc 7 (.aload_n 0) 1) (am_lf pc 8 (.getfield 10) 3)))) (cond (Nat.blt pc 20) (cond (Nat.blt pc 17) (cond (Nat.blt pc 14) (am_lf pc 11 (.getfield 156) 3) (am_lf pc 14 (.if_icmp .ge 40) 3)) (cond (Nat.blt pc 18) (am_lf pc 17 (.iconst 0) 1) (am_lf pc 18 (.istore 6) 2))) (cond (Nat.blt pc 23) (cond (Nat.blt pc 22) (am_lf pc 20 (.iload 6) 2) (am_lf pc 22 (.iconst 2) 1)) (cond (Nat.blt pc 26) (am_lf pc 23 (.if_icmp .gt 25) 3) (am_lf pc 26 (.ldc2_w 296) 3))))) (cond (Nat.blt pc 40) (cond (Nat.blt pc 32) (cond (Nat.blt pc 30) (am_lf pc 29 (.lload_n 3) 1) (cond (Nat.blt pc 31) (am_lf pc 30 .lmul 1) (am_lf pc 31 (.aload_n 0) 1))) (cond (Nat.blt pc 36) (cond (Nat.blt pc 34) (am_lf pc 32 (.iload 5) 2) (am_lf pc 34 (.iload 6) 2)) (cond (Nat.blt pc 39) (am_lf pc 36 (.invokevirtual 369) 3) (am_lf pc 39 .i2l 1)))) (cond (Nat.blt pc 48) (cond (Nat.blt pc 42) (cond (Nat.blt pc 41) (am_lf pc 40 .ladd 1) (am_lf pc 41 (.lstore_n 3) 1)) (cond (Nat.blt pc 45) (am_lf pc 42 (.iinc 6 1) 3) (am_lf pc 45 (.goto (-25)) 3))) (cond (Nat.blt pc 54) (cond (Nat.blt pc 51) (am_lf pc 48 (.iinc 5 1) 3) (am_lf pc 51 (.goto (-46)) 3)) (cond (Nat.blt pc 55) (am_lf pc 54 (.lload_n 3) 1) (am_lf pc 55 .lreturn 1)))))))
def tk_X5_noteAt : Nat → Option (Instr × Nat) := am_guard 93 (fun pc => (cond (Nat.blt pc 60) (cond (Nat.blt pc 19) (cond (Nat.blt pc 6) (cond (Nat.blt pc 4) (cond (Nat.blt pc 1) (am_lf pc 0 (.iload_n 1) 1) (am_lf pc 1 (.ifCond .lt 14) 3)) (cond (Nat.blt pc 5) (am_lf pc 4 (.iload_n 1) 1) (am_lf pc 5 (.aload_n 0) 1))) (cond (Nat.blt pc 12) (cond (Nat.blt pc 9) (am_lf pc 6 (.getfield 10) 3) (am_lf pc 9 (.getfield 156) 3)) (cond (Nat.blt pc 15) (am_lf pc 12 (.if_icmp .lt 13) 3) (cond (Nat.blt pc 18) (am_lf pc 15 (.new 252) 3) (am_lf pc 18 .dup 1))))) (cond (Nat.blt pc 27) (cond (Nat.blt pc 24) (cond (Nat.blt pc 21) (am_lf pc 19 (.ldc 254) 2) (am_lf pc 21 (.invokespecial 256) 3)) (cond (Nat.blt pc 25) (am_lf pc 24 .athrow 1) (cond (Nat.blt pc 26) (am_lf pc 25 (.iload_n 2) 1) (am_lf pc 26 (.iconst 2) 1)))) (cond (Nat.blt pc 31) (cond (Nat.blt pc 30) (am_lf pc 27 (.invokestatic 212) 3) (am_lf pc 30 (.iload_n 2) 1)) (cond (Nat.blt pc 56) (am_lf pc 31 (.lookupswitch 45 #[(0, 25), (1, 35)]) 25) (cond (Nat.blt pc 57) (am_lf pc 56 (.aload_n 0) 1) (am_lf pc 57 (.getfield 10) 3)))))) (cond (Nat.blt pc 75) (cond (Nat.blt pc 66) (cond (Nat.blt pc 64) (cond (Nat.blt pc 63) (am_lf pc 60 (.getfield 161) 3) (am_lf pc 63 (.iload_n 1) 1)) (cond (Nat.blt pc 65) (am_lf pc 64 .iaload 1) (am_lf pc 65 .ireturn 1))) (cond (Nat.blt pc 70) (cond (Nat.blt pc 67) (am_lf pc 66 (.aload_n 0) 1) (am_lf pc 67 (.getfield 10) 3)) (cond (Nat.blt pc 73) (am_lf pc 70 (.getfield 164) 3) (cond (Nat.blt pc 74) (am_lf pc 73 (.iload_n 1) 1) (am_lf pc 74 .iaload 1))))) (cond (Nat.blt pc 84) (cond (Nat.blt pc 77) (cond (Nat.blt pc 76) (am_lf pc 75 .ireturn 1) (am_lf pc 76 (.aload_n 0) 1)) (cond (Nat.blt pc 80) (am_lf pc 77 (.getfield 21) 3) (cond (Nat.blt pc 81) (am_lf pc 80 (.iload_n 1) 1) (am_lf pc 81 (.invokevirtual 167) 3)))) (cond (Nat.blt pc 88) (cond (Nat.blt pc 87) (am_lf pc 84 (.ifCond .eq 7) 3) (am_lf pc 87 (.iconst 1) 1)) (cond (Nat.blt pc 91) (am_lf pc 88 (.goto 4) 3) (cond (Nat.blt pc 92) (am_lf pc 91 (.iconst 0) 1) (am_lf pc 92 .ireturn 1))))))))
def tk_X5_ifThinned : Nat → Option (Instr × Nat) := am_guard 13 (fun pc => (cond (Nat.blt pc 5) (cond (Nat.blt pc 1) (am_lf pc 0 (.iload_n 1) 1) (cond (Nat.blt pc 4) (am_lf pc 1 (.invokestatic 118) 3) (am_lf pc 4 (.aload_n 0) 1))) (cond (Nat.blt pc 9) (cond (Nat.blt pc 8) (am_lf pc 5 (.getfield 30) 3) (am_lf pc 8 (.iload_n 1) 1)) (cond (Nat.blt pc 12) (am_lf pc 9 (.invokevirtual 121) 3) (am_lf pc 12 .ireturn 1)))))
def tk_X5_refuseNoWay : Nat → Option (Instr × Nat) := am_guard 6 (fun pc => (cond (Nat.blt pc 2) (cond (Nat.blt pc 1) (am_lf pc 0 (.iload_n 0) 1) (am_lf pc 1 (.iconst 2) 1)) (cond (Nat.blt pc 5) (am_lf pc 2 (.invokestatic 212) 3) (am_lf pc 5 .return_ 1))))
def tk_X4_choose : Nat → Option (Instr × Nat) := am_guard 139 (fun pc => (cond (Nat.blt pc 69) (cond (Nat.blt pc 28) (cond (Nat.blt pc 15) (cond (Nat.blt pc 8) (cond (Nat.blt pc 4) (cond (Nat.blt pc 1) (am_lf pc 0 (.aload_n 0) 1) (am_lf pc 1 (.invokevirtual 33) 3)) (cond (Nat.blt pc 5) (am_lf pc 4 (.aload_n 0) 1) (am_lf pc 5 (.getfield 21) 3))) (cond (Nat.blt pc 12) (cond (Nat.blt pc 11) (am_lf pc 8 (.getfield 36) 3) (am_lf pc 11 (.iconst 0) 1)) (cond (Nat.blt pc 13) (am_lf pc 12 .iaload 1) (cond (Nat.blt pc 14) (am_lf pc 13 (.istore_n 2) 1) (am_lf pc 14 (.iload_n 1) 1))))) (cond (Nat.blt pc 21) (cond (Nat.blt pc 19) (cond (Nat.blt pc 16) (am_lf pc 15 (.iconst 2) 1) (am_lf pc 16 (.if_icmp .ne 9) 3)) (cond (Nat.blt pc 20) (am_lf pc 19 (.aload_n 0) 1) (am_lf pc 20 (.iload_n 2) 1))) (cond (Nat.blt pc 25) (cond (Nat.blt pc 24) (am_lf pc 21 (.invokevirtual 41) 3) (am_lf pc 24 .pop 1)) (cond (Nat.blt pc 26) (am_lf pc 25 (.iconst 0) 1) (cond (Nat.blt pc 27) (am_lf pc 26 (.istore_n 3) 1) (am_lf pc 27 (.iload_n 3) 1)))))) (cond (Nat.blt pc 47) (cond (Nat.blt pc 38) (cond (Nat.blt pc 32) (cond (Nat.blt pc 29) (am_lf pc 28 (.aload_n 0) 1) (am_lf pc 29 (.getfield 21) 3)) (cond (Nat.blt pc 35) (am_lf pc 32 (.getfield 45) 3) (am_lf pc 35 (.if_icmp .ge 42) 3))) (cond (Nat.blt pc 42) (cond (Nat.blt pc 39) (am_lf pc 38 (.aload_n 0) 1) (am_lf pc 39 (.getfield 9) 3)) (cond (Nat.blt pc 43) (am_lf pc 42 (.iload_n 3) 1) (cond (Nat.blt pc 44) (am_lf pc 43 (.aload_n 0) 1) (am_lf pc 44 (.getfield 21) 3))))) (cond (Nat.blt pc 58) (cond (Nat.blt pc 51) (cond (Nat.blt pc 48) (am_lf pc 47 (.iload_n 3) 1) (am_lf pc 48 (.invokevirtual 49) 3)) (cond (Nat.blt pc 54) (am_lf pc 51 (.ifCond .ne 14) 3) (cond (Nat.blt pc 55) (am_lf pc 54 (.aload_n 0) 1) (am_lf pc 55 (.getfield 21) 3)))) (cond (Nat.blt pc 62) (cond (Nat.blt pc 59) (am_lf pc 58 (.iload_n 3) 1) (am_lf pc 59 (.invokevirtual 53) 3)) (cond (Nat.blt pc 65) (am_lf pc 62 (.ifCond .eq 7) 3) (cond (Nat.blt pc 66) (am_lf pc 65 (.iconst 1) 1) (am_lf pc 66 (.goto 4) 3))))))) (cond (Nat.blt pc 102) (cond (Nat.blt pc 84) (cond (Nat.blt pc 77) (cond (Nat.blt pc 71) (cond (Nat.blt pc 70) (am_lf pc 69 (.iconst 0) 1) (am_lf pc 70 .iastore 1)) (cond (Nat.blt pc 74) (am_lf pc 71 (.iinc 3 1) 3) (am_lf pc 74 (.goto (-47)) 3))) (cond (Nat.blt pc 79) (cond (Nat.blt pc 78) (am_lf pc 77 (.iconst 0) 1) (am_lf pc 78 (.istore_n 3) 1)) (cond (Nat.blt pc 80) (am_lf pc 79 (.iconst 0) 1) (cond (Nat.blt pc 82) (am_lf pc 80 (.istore 4) 2) (am_lf pc 82 (.iload 4) 2))))) (cond (Nat.blt pc 94) (cond (Nat.blt pc 88) (cond (Nat.blt pc 85) (am_lf pc 84 (.aload_n 0) 1) (am_lf pc 85 (.getfield 21) 3)) (cond (Nat.blt pc 91) (am_lf pc 88 (.getfield 45) 3) (am_lf pc 91 (.if_icmp .ge 46) 3))) (cond (Nat.blt pc 98) (cond (Nat.blt pc 95) (am_lf pc 94 (.aload_n 0) 1) (am_lf pc 95 (.getfield 9) 3)) (cond (Nat.blt pc 100) (am_lf pc 98 (.iload 4) 2) (cond (Nat.blt pc 101) (am_lf pc 100 .iaload 1) (am_lf pc 101 (.iconst 1) 1)))))) (cond (Nat.blt pc 120) (cond (Nat.blt pc 110) (cond (Nat.blt pc 108) (cond (Nat.blt pc 105) (am_lf pc 102 (.if_icmp .ne 29) 3) (am_lf pc 105 (.iinc 3 1) 3)) (cond (Nat.blt pc 109) (am_lf pc 108 (.iload_n 1) 1) (am_lf pc 109 (.iconst 1) 1))) (cond (Nat.blt pc 114) (cond (Nat.blt pc 113) (am_lf pc 110 (.if_icmp .ne 13) 3) (am_lf pc 113 (.aload_n 0) 1)) (cond (Nat.blt pc 116) (am_lf pc 114 (.iload 4) 2) (cond (Nat.blt pc 117) (am_lf pc 116 (.iload_n 2) 1) (am_lf pc 117 (.invokevirtual 56) 3))))) (cond (Nat.blt pc 128) (cond (Nat.blt pc 124) (cond (Nat.blt pc 123) (am_lf pc 120 (.goto 11) 3) (am_lf pc 123 (.aload_n 0) 1)) (cond (Nat.blt pc 126) (am_lf pc 124 (.iload 4) 2) (cond (Nat.blt pc 127) (am_lf pc 126 (.iload_n 1) 1) (am_lf pc 127 (.iload_n 2) 1)))) (cond (Nat.blt pc 134) (cond (Nat.blt pc 131) (am_lf pc 128 (.invokevirtual 60) 3) (am_lf pc 131 (.iinc 4 1) 3)) (cond (Nat.blt pc 137) (am_lf pc 134 (.goto (-52)) 3) (cond (Nat.blt pc 138) (am_lf pc 137 (.iload_n 3) 1) (am_lf pc 138 .ireturn 1)))))))))
def tk_X2_endsStretch : Nat → Option (Instr × Nat) := am_guard 17 (fun pc => (cond (Nat.blt pc 5) (cond (Nat.blt pc 2) (cond (Nat.blt pc 1) (am_lf pc 0 (.aload_n 0) 1) (am_lf pc 1 (.iload_n 1) 1)) (cond (Nat.blt pc 3) (am_lf pc 2 (.iload_n 1) 1) (cond (Nat.blt pc 4) (am_lf pc 3 (.iconst 1) 1) (am_lf pc 4 .iadd 1)))) (cond (Nat.blt pc 12) (cond (Nat.blt pc 8) (am_lf pc 5 (.invokevirtual 65) 3) (cond (Nat.blt pc 11) (am_lf pc 8 (.ifCond .ne 7) 3) (am_lf pc 11 (.iconst 1) 1))) (cond (Nat.blt pc 15) (am_lf pc 12 (.goto 4) 3) (cond (Nat.blt pc 16) (am_lf pc 15 (.iconst 0) 1) (am_lf pc 16 .ireturn 1))))))
def tk_X4_halveBehind : Nat → Option (Instr × Nat) := am_guard 84 (fun pc => (cond (Nat.blt pc 40) (cond (Nat.blt pc 19) (cond (Nat.blt pc 8) (cond (Nat.blt pc 2) (cond (Nat.blt pc 1) (am_lf pc 0 (.iconst 0) 1) (am_lf pc 1 (.istore_n 3) 1)) (cond (Nat.blt pc 3) (am_lf pc 2 (.iload_n 3) 1) (cond (Nat.blt pc 5) (am_lf pc 3 (.bipush 60) 2) (am_lf pc 5 (.if_icmp .ge 78) 3)))) (cond (Nat.blt pc 13) (cond (Nat.blt pc 9) (am_lf pc 8 (.aload_n 0) 1) (cond (Nat.blt pc 10) (am_lf pc 9 (.iload_n 1) 1) (am_lf pc 10 (.invokevirtual 79) 3))) (cond (Nat.blt pc 15) (am_lf pc 13 (.istore 4) 2) (cond (Nat.blt pc 16) (am_lf pc 15 (.aload_n 0) 1) (am_lf pc 16 (.getfield 21) 3))))) (cond (Nat.blt pc 29) (cond (Nat.blt pc 22) (cond (Nat.blt pc 20) (am_lf pc 19 (.iload_n 1) 1) (am_lf pc 20 (.iload 4) 2)) (cond (Nat.blt pc 25) (am_lf pc 22 (.invokevirtual 71) 3) (cond (Nat.blt pc 28) (am_lf pc 25 (.ifCond .eq 18) 3) (am_lf pc 28 (.aload_n 0) 1)))) (cond (Nat.blt pc 35) (cond (Nat.blt pc 32) (am_lf pc 29 (.getfield 18) 3) (cond (Nat.blt pc 33) (am_lf pc 32 (.iload_n 1) 1) (am_lf pc 33 (.iload 4) 2))) (cond (Nat.blt pc 38) (am_lf pc 35 (.invokestatic 75) 3) (cond (Nat.blt pc 39) (am_lf pc 38 .iaload 1) (am_lf pc 39 (.iload_n 2) 1)))))) (cond (Nat.blt pc 62) (cond (Nat.blt pc 49) (cond (Nat.blt pc 44) (cond (Nat.blt pc 43) (am_lf pc 40 (.if_icmp .gt 4) 3) (am_lf pc 43 .return_ 1)) (cond (Nat.blt pc 45) (am_lf pc 44 (.aload_n 0) 1) (cond (Nat.blt pc 48) (am_lf pc 45 (.getfield 25) 3) (am_lf pc 48 (.iload_n 1) 1)))) (cond (Nat.blt pc 56) (cond (Nat.blt pc 51) (am_lf pc 49 (.iload 4) 2) (cond (Nat.blt pc 54) (am_lf pc 51 (.invokevirtual 82) 3) (am_lf pc 54 (.istore 5) 2))) (cond (Nat.blt pc 57) (am_lf pc 56 (.aload_n 0) 1) (cond (Nat.blt pc 60) (am_lf pc 57 (.getfield 21) 3) (am_lf pc 60 (.iload 5) 2))))) (cond (Nat.blt pc 73) (cond (Nat.blt pc 68) (cond (Nat.blt pc 65) (am_lf pc 62 (.invokevirtual 67) 3) (am_lf pc 65 (.ifCond .ne 4) 3)) (cond (Nat.blt pc 69) (am_lf pc 68 .return_ 1) (cond (Nat.blt pc 70) (am_lf pc 69 (.aload_n 0) 1) (am_lf pc 70 (.getfield 9) 3)))) (cond (Nat.blt pc 77) (cond (Nat.blt pc 75) (am_lf pc 73 (.iload 5) 2) (cond (Nat.blt pc 76) (am_lf pc 75 (.iconst 1) 1) (am_lf pc 76 .iastore 1))) (cond (Nat.blt pc 80) (am_lf pc 77 (.iinc 3 1) 3) (cond (Nat.blt pc 83) (am_lf pc 80 (.goto (-78)) 3) (am_lf pc 83 .return_ 1))))))))
def tk_X4_chosenBehind : Nat → Option (Instr × Nat) := am_guard 40 (fun pc => (cond (Nat.blt pc 19) (cond (Nat.blt pc 7) (cond (Nat.blt pc 2) (cond (Nat.blt pc 1) (am_lf pc 0 (.iload_n 1) 1) (am_lf pc 1 (.iconst 1) 1)) (cond (Nat.blt pc 3) (am_lf pc 2 .iadd 1) (cond (Nat.blt pc 4) (am_lf pc 3 (.iconst 0) 1) (am_lf pc 4 (.invokestatic 87) 3)))) (cond (Nat.blt pc 10) (cond (Nat.blt pc 8) (am_lf pc 7 (.istore_n 2) 1) (cond (Nat.blt pc 9) (am_lf pc 8 (.iload_n 2) 1) (am_lf pc 9 (.aload_n 0) 1))) (cond (Nat.blt pc 13) (am_lf pc 10 (.getfield 21) 3) (cond (Nat.blt pc 16) (am_lf pc 13 (.getfield 45) 3) (am_lf pc 16 (.if_icmp .ge 21) 3))))) (cond (Nat.blt pc 29) (cond (Nat.blt pc 24) (cond (Nat.blt pc 20) (am_lf pc 19 (.aload_n 0) 1) (cond (Nat.blt pc 23) (am_lf pc 20 (.getfield 9) 3) (am_lf pc 23 (.iload_n 2) 1))) (cond (Nat.blt pc 25) (am_lf pc 24 .iaload 1) (cond (Nat.blt pc 26) (am_lf pc 25 (.iconst 1) 1) (am_lf pc 26 (.if_icmp .ne 5) 3)))) (cond (Nat.blt pc 34) (cond (Nat.blt pc 30) (am_lf pc 29 (.iload_n 2) 1) (cond (Nat.blt pc 31) (am_lf pc 30 .ireturn 1) (am_lf pc 31 (.iinc 2 1) 3))) (cond (Nat.blt pc 37) (am_lf pc 34 (.goto (-26)) 3) (cond (Nat.blt pc 39) (am_lf pc 37 (.ldc 70) 2) (am_lf pc 39 .ireturn 1)))))))
def tk_X4_joinBehind : Nat → Option (Instr × Nat) := am_guard 102 (fun pc => (cond (Nat.blt pc 50) (cond (Nat.blt pc 25) (cond (Nat.blt pc 9) (cond (Nat.blt pc 5) (cond (Nat.blt pc 2) (am_lf pc 0 (.ldc 70) 2) (cond (Nat.blt pc 4) (am_lf pc 2 (.istore 4) 2) (am_lf pc 4 (.iload_n 1) 1))) (cond (Nat.blt pc 6) (am_lf pc 5 (.iconst 1) 1) (cond (Nat.blt pc 7) (am_lf pc 6 .iadd 1) (am_lf pc 7 (.istore 5) 2)))) (cond (Nat.blt pc 15) (cond (Nat.blt pc 11) (am_lf pc 9 (.iload 5) 2) (cond (Nat.blt pc 12) (am_lf pc 11 (.aload_n 0) 1) (am_lf pc 12 (.getfield 21) 3))) (cond (Nat.blt pc 21) (cond (Nat.blt pc 18) (am_lf pc 15 (.getfield 45) 3) (am_lf pc 18 (.if_icmp .ge 63) 3)) (cond (Nat.blt pc 22) (am_lf pc 21 (.aload_n 0) 1) (am_lf pc 22 (.getfield 21) 3))))) (cond (Nat.blt pc 38) (cond (Nat.blt pc 31) (cond (Nat.blt pc 26) (am_lf pc 25 (.iload_n 1) 1) (cond (Nat.blt pc 28) (am_lf pc 26 (.iload 5) 2) (am_lf pc 28 (.invokevirtual 71) 3))) (cond (Nat.blt pc 34) (am_lf pc 31 (.ifCond .eq 50) 3) (cond (Nat.blt pc 35) (am_lf pc 34 (.aload_n 0) 1) (am_lf pc 35 (.getfield 18) 3)))) (cond (Nat.blt pc 44) (cond (Nat.blt pc 39) (am_lf pc 38 (.iload_n 1) 1) (cond (Nat.blt pc 41) (am_lf pc 39 (.iload 5) 2) (am_lf pc 41 (.invokestatic 75) 3))) (cond (Nat.blt pc 46) (cond (Nat.blt pc 45) (am_lf pc 44 .iaload 1) (am_lf pc 45 (.iload_n 3) 1)) (cond (Nat.blt pc 49) (am_lf pc 46 (.if_icmp .gt 29) 3) (am_lf pc 49 (.iload_n 2) 1)))))) (cond (Nat.blt pc 73) (cond (Nat.blt pc 61) (cond (Nat.blt pc 57) (cond (Nat.blt pc 53) (am_lf pc 50 (.ifCond .eq 21) 3) (cond (Nat.blt pc 54) (am_lf pc 53 (.aload_n 0) 1) (am_lf pc 54 (.getfield 15) 3))) (cond (Nat.blt pc 59) (am_lf pc 57 (.iload 5) 2) (cond (Nat.blt pc 60) (am_lf pc 59 .iaload 1) (am_lf pc 60 (.iconst 1) 1)))) (cond (Nat.blt pc 66) (cond (Nat.blt pc 62) (am_lf pc 61 .iadd 1) (cond (Nat.blt pc 63) (am_lf pc 62 (.aload_n 0) 1) (am_lf pc 63 (.getfield 15) 3))) (cond (Nat.blt pc 68) (cond (Nat.blt pc 67) (am_lf pc 66 (.iload_n 1) 1) (am_lf pc 67 .iaload 1)) (cond (Nat.blt pc 71) (am_lf pc 68 (.if_icmp .ne 7) 3) (am_lf pc 71 (.iload 5) 2))))) (cond (Nat.blt pc 90) (cond (Nat.blt pc 81) (cond (Nat.blt pc 75) (am_lf pc 73 (.istore 4) 2) (cond (Nat.blt pc 78) (am_lf pc 75 (.iinc 5 1) 3) (am_lf pc 78 (.goto (-69)) 3))) (cond (Nat.blt pc 85) (cond (Nat.blt pc 82) (am_lf pc 81 (.aload_n 0) 1) (am_lf pc 82 (.getfield 21) 3)) (cond (Nat.blt pc 87) (am_lf pc 85 (.iload 4) 2) (am_lf pc 87 (.invokevirtual 67) 3)))) (cond (Nat.blt pc 97) (cond (Nat.blt pc 93) (am_lf pc 90 (.ifCond .eq 11) 3) (cond (Nat.blt pc 94) (am_lf pc 93 (.aload_n 0) 1) (am_lf pc 94 (.getfield 9) 3))) (cond (Nat.blt pc 100) (cond (Nat.blt pc 99) (am_lf pc 97 (.iload 4) 2) (am_lf pc 99 (.iconst 1) 1)) (cond (Nat.blt pc 101) (am_lf pc 100 .iastore 1) (am_lf pc 101 .return_ 1))))))))
def tk_X5_leastOath : Nat → Option (Instr × Nat) := am_guard 29 (fun pc => (cond (Nat.blt pc 14) (cond (Nat.blt pc 6) (cond (Nat.blt pc 1) (am_lf pc 0 (.iload_n 1) 1) (cond (Nat.blt pc 3) (am_lf pc 1 (.bipush 60) 2) (am_lf pc 3 (.invokestatic 212) 3))) (cond (Nat.blt pc 10) (cond (Nat.blt pc 7) (am_lf pc 6 (.aload_n 0) 1) (am_lf pc 7 (.getfield 30) 3)) (cond (Nat.blt pc 11) (am_lf pc 10 (.iload_n 1) 1) (am_lf pc 11 (.invokevirtual 282) 3)))) (cond (Nat.blt pc 22) (cond (Nat.blt pc 16) (cond (Nat.blt pc 15) (am_lf pc 14 (.istore_n 2) 1) (am_lf pc 15 (.iload_n 2) 1)) (cond (Nat.blt pc 19) (am_lf pc 16 (.sipush 500) 3) (am_lf pc 19 (.if_icmp .gt 7) 3))) (cond (Nat.blt pc 26) (cond (Nat.blt pc 23) (am_lf pc 22 (.iload_n 2) 1) (am_lf pc 23 (.goto 5) 3)) (cond (Nat.blt pc 28) (am_lf pc 26 (.ldc 231) 2) (am_lf pc 28 .ireturn 1))))))
def tk_X4_leastOathFor : Nat → Option (Instr × Nat) := am_guard 40 (fun pc => (cond (Nat.blt pc 20) (cond (Nat.blt pc 11) (cond (Nat.blt pc 5) (cond (Nat.blt pc 1) (am_lf pc 0 (.aload_n 0) 1) (cond (Nat.blt pc 4) (am_lf pc 1 (.invokevirtual 33) 3) (am_lf pc 4 (.iconst 0) 1))) (cond (Nat.blt pc 9) (cond (Nat.blt pc 6) (am_lf pc 5 (.istore_n 2) 1) (am_lf pc 6 (.sipush 256) 3)) (cond (Nat.blt pc 10) (am_lf pc 9 (.istore_n 3) 1) (am_lf pc 10 (.iload_n 3) 1)))) (cond (Nat.blt pc 16) (cond (Nat.blt pc 14) (am_lf pc 11 (.ifCond .le 27) 3) (cond (Nat.blt pc 15) (am_lf pc 14 (.aload_n 0) 1) (am_lf pc 15 (.iload_n 2) 1))) (cond (Nat.blt pc 18) (cond (Nat.blt pc 17) (am_lf pc 16 (.iload_n 3) 1) (am_lf pc 17 .iadd 1)) (cond (Nat.blt pc 19) (am_lf pc 18 (.iconst 1) 1) (am_lf pc 19 .isub 1))))) (cond (Nat.blt pc 31) (cond (Nat.blt pc 27) (cond (Nat.blt pc 23) (am_lf pc 20 (.invokevirtual 41) 3) (cond (Nat.blt pc 24) (am_lf pc 23 (.iload_n 1) 1) (am_lf pc 24 (.if_icmp .le 7) 3))) (cond (Nat.blt pc 29) (cond (Nat.blt pc 28) (am_lf pc 27 (.iload_n 2) 1) (am_lf pc 28 (.iload_n 3) 1)) (cond (Nat.blt pc 30) (am_lf pc 29 .iadd 1) (am_lf pc 30 (.istore_n 2) 1)))) (cond (Nat.blt pc 34) (cond (Nat.blt pc 32) (am_lf pc 31 (.iload_n 3) 1) (cond (Nat.blt pc 33) (am_lf pc 32 (.iconst 2) 1) (am_lf pc 33 .idiv 1))) (cond (Nat.blt pc 38) (cond (Nat.blt pc 35) (am_lf pc 34 (.istore_n 3) 1) (am_lf pc 35 (.goto (-25)) 3)) (cond (Nat.blt pc 39) (am_lf pc 38 (.iload_n 2) 1) (am_lf pc 39 .ireturn 1)))))))
def tk_X5_cheapest : Nat → Option (Instr × Nat) := am_guard 67 (fun pc => (cond (Nat.blt pc 30) (cond (Nat.blt pc 14) (cond (Nat.blt pc 6) (cond (Nat.blt pc 2) (cond (Nat.blt pc 1) (am_lf pc 0 (.iload_n 1) 1) (am_lf pc 1 (.iconst 1) 1)) (cond (Nat.blt pc 5) (am_lf pc 2 (.invokestatic 212) 3) (am_lf pc 5 (.aload_n 0) 1))) (cond (Nat.blt pc 12) (cond (Nat.blt pc 9) (am_lf pc 6 (.getfield 21) 3) (am_lf pc 9 (.invokevirtual 285) 3)) (cond (Nat.blt pc 13) (am_lf pc 12 (.istore_n 2) 1) (am_lf pc 13 (.iload_n 2) 1)))) (cond (Nat.blt pc 23) (cond (Nat.blt pc 19) (cond (Nat.blt pc 16) (am_lf pc 14 (.ldc 231) 2) (am_lf pc 16 (.if_icmp .eq 7) 3)) (cond (Nat.blt pc 20) (am_lf pc 19 (.iload_n 1) 1) (am_lf pc 20 (.ifCond .ne 5) 3))) (cond (Nat.blt pc 25) (cond (Nat.blt pc 24) (am_lf pc 23 (.iload_n 2) 1) (am_lf pc 24 .ireturn 1)) (cond (Nat.blt pc 26) (am_lf pc 25 (.aload_n 0) 1) (cond (Nat.blt pc 29) (am_lf pc 26 (.getfield 21) 3) (am_lf pc 29 (.aload_n 0) 1)))))) (cond (Nat.blt pc 48) (cond (Nat.blt pc 38) (cond (Nat.blt pc 34) (cond (Nat.blt pc 33) (am_lf pc 30 (.getfield 10) 3) (am_lf pc 33 (.iload_n 2) 1)) (cond (Nat.blt pc 37) (am_lf pc 34 (.invokevirtual 222) 3) (am_lf pc 37 (.aload_n 0) 1))) (cond (Nat.blt pc 42) (cond (Nat.blt pc 41) (am_lf pc 38 (.getfield 10) 3) (am_lf pc 41 (.iload_n 2) 1)) (cond (Nat.blt pc 45) (am_lf pc 42 (.invokevirtual 225) 3) (am_lf pc 45 (.invokevirtual 288) 3)))) (cond (Nat.blt pc 56) (cond (Nat.blt pc 50) (cond (Nat.blt pc 49) (am_lf pc 48 .pop 1) (am_lf pc 49 (.aload_n 0) 1)) (cond (Nat.blt pc 53) (am_lf pc 50 (.getfield 21) 3) (am_lf pc 53 (.getfield 232) 3))) (cond (Nat.blt pc 60) (cond (Nat.blt pc 57) (am_lf pc 56 (.aload_n 0) 1) (am_lf pc 57 (.getfield 21) 3)) (cond (Nat.blt pc 63) (am_lf pc 60 (.getfield 235) 3) (cond (Nat.blt pc 66) (am_lf pc 63 (.invokestatic 291) 3) (am_lf pc 66 .ireturn 1))))))))
def tk_X1_leastMissed : Nat → Option (Instr × Nat) := am_guard 106 (fun pc => (cond (Nat.blt pc 55) (cond (Nat.blt pc 24) (cond (Nat.blt pc 9) (cond (Nat.blt pc 4) (cond (Nat.blt pc 2) (am_lf pc 0 (.ldc 28) 2) (cond (Nat.blt pc 3) (am_lf pc 2 (.istore_n 1) 1) (am_lf pc 3 (.lconst 0) 1))) (cond (Nat.blt pc 6) (cond (Nat.blt pc 5) (am_lf pc 4 (.lstore_n 2) 1) (am_lf pc 5 (.lconst 1) 1)) (cond (Nat.blt pc 8) (am_lf pc 6 (.lstore 4) 2) (am_lf pc 8 (.iconst 0) 1)))) (cond (Nat.blt pc 14) (cond (Nat.blt pc 11) (am_lf pc 9 (.istore 6) 2) (cond (Nat.blt pc 13) (am_lf pc 11 (.iload 6) 2) (am_lf pc 13 (.aload_n 0) 1))) (cond (Nat.blt pc 20) (cond (Nat.blt pc 17) (am_lf pc 14 (.getfield 9) 3) (am_lf pc 17 (.getfield 97) 3)) (cond (Nat.blt pc 23) (am_lf pc 20 (.if_icmp .ge 84) 3) (am_lf pc 23 (.aload_n 0) 1))))) (cond (Nat.blt pc 39) (cond (Nat.blt pc 32) (cond (Nat.blt pc 26) (am_lf pc 24 (.iload 6) 2) (cond (Nat.blt pc 29) (am_lf pc 26 (.invokevirtual 100) 3) (am_lf pc 29 (.ifCond .ne 69) 3))) (cond (Nat.blt pc 34) (cond (Nat.blt pc 33) (am_lf pc 32 (.aload_n 0) 1) (am_lf pc 33 (.aload_n 0) 1)) (cond (Nat.blt pc 37) (am_lf pc 34 (.getfield 9) 3) (am_lf pc 37 (.iload 6) 2)))) (cond (Nat.blt pc 46) (cond (Nat.blt pc 42) (am_lf pc 39 (.invokevirtual 64) 3) (cond (Nat.blt pc 43) (am_lf pc 42 (.aload_n 0) 1) (am_lf pc 43 (.getfield 9) 3))) (cond (Nat.blt pc 51) (cond (Nat.blt pc 48) (am_lf pc 46 (.iload 6) 2) (am_lf pc 48 (.invokevirtual 67) 3)) (cond (Nat.blt pc 54) (am_lf pc 51 (.invokevirtual 46) 3) (am_lf pc 54 .pop 1)))))) (cond (Nat.blt pc 80) (cond (Nat.blt pc 67) (cond (Nat.blt pc 60) (cond (Nat.blt pc 56) (am_lf pc 55 (.aload_n 0) 1) (cond (Nat.blt pc 59) (am_lf pc 56 (.getfield 15) 3) (am_lf pc 59 .i2l 1))) (cond (Nat.blt pc 63) (cond (Nat.blt pc 62) (am_lf pc 60 (.lstore 7) 2) (am_lf pc 62 (.aload_n 0) 1)) (cond (Nat.blt pc 66) (am_lf pc 63 (.getfield 19) 3) (am_lf pc 66 .i2l 1)))) (cond (Nat.blt pc 72) (cond (Nat.blt pc 69) (am_lf pc 67 (.lstore 9) 2) (cond (Nat.blt pc 70) (am_lf pc 69 (.iload_n 1) 1) (am_lf pc 70 (.ldc 28) 2))) (cond (Nat.blt pc 77) (cond (Nat.blt pc 75) (am_lf pc 72 (.if_icmp .eq 16) 3) (am_lf pc 75 (.lload 7) 2)) (cond (Nat.blt pc 79) (am_lf pc 77 (.lload 4) 2) (am_lf pc 79 .lmul 1))))) (cond (Nat.blt pc 91) (cond (Nat.blt pc 84) (cond (Nat.blt pc 81) (am_lf pc 80 (.lload_n 2) 1) (cond (Nat.blt pc 83) (am_lf pc 81 (.lload 9) 2) (am_lf pc 83 .lmul 1))) (cond (Nat.blt pc 88) (cond (Nat.blt pc 85) (am_lf pc 84 .lcmp 1) (am_lf pc 85 (.ifCond .ge 13) 3)) (cond (Nat.blt pc 90) (am_lf pc 88 (.iload 6) 2) (am_lf pc 90 (.istore_n 1) 1)))) (cond (Nat.blt pc 98) (cond (Nat.blt pc 94) (cond (Nat.blt pc 93) (am_lf pc 91 (.lload 7) 2) (am_lf pc 93 (.lstore_n 2) 1)) (cond (Nat.blt pc 96) (am_lf pc 94 (.lload 9) 2) (am_lf pc 96 (.lstore 4) 2))) (cond (Nat.blt pc 104) (cond (Nat.blt pc 101) (am_lf pc 98 (.iinc 6 1) 3) (am_lf pc 101 (.goto (-90)) 3)) (cond (Nat.blt pc 105) (am_lf pc 104 (.iload_n 1) 1) (am_lf pc 105 .ireturn 1))))))))
def tk_X5_bitsOf : Nat → Option (Instr × Nat) := am_guard 64 (fun pc => (cond (Nat.blt pc 32) (cond (Nat.blt pc 15) (cond (Nat.blt pc 7) (cond (Nat.blt pc 2) (cond (Nat.blt pc 1) (am_lf pc 0 (.dload_n 0) 1) (am_lf pc 1 (.dconst 0) 1)) (cond (Nat.blt pc 3) (am_lf pc 2 (.dcmp .l) 1) (cond (Nat.blt pc 6) (am_lf pc 3 (.ifCond .gt 5) 3) (am_lf pc 6 (.lconst 0) 1)))) (cond (Nat.blt pc 9) (cond (Nat.blt pc 8) (am_lf pc 7 .lreturn 1) (am_lf pc 8 (.dload_n 0) 1)) (cond (Nat.blt pc 10) (am_lf pc 9 (.dstore_n 2) 1) (cond (Nat.blt pc 13) (am_lf pc 10 (.ldc2_w 375) 3) (am_lf pc 13 (.lstore 4) 2))))) (cond (Nat.blt pc 25) (cond (Nat.blt pc 18) (cond (Nat.blt pc 16) (am_lf pc 15 (.iconst 0) 1) (am_lf pc 16 (.istore 6) 2)) (cond (Nat.blt pc 20) (am_lf pc 18 (.iload 6) 2) (cond (Nat.blt pc 22) (am_lf pc 20 (.bipush 64) 2) (am_lf pc 22 (.if_icmp .ge 27) 3)))) (cond (Nat.blt pc 27) (cond (Nat.blt pc 26) (am_lf pc 25 (.dload_n 2) 1) (am_lf pc 26 (.dconst 1) 1)) (cond (Nat.blt pc 28) (am_lf pc 27 (.dcmp .g) 1) (cond (Nat.blt pc 31) (am_lf pc 28 (.ifCond .ge 21) 3) (am_lf pc 31 (.dload_n 2) 1)))))) (cond (Nat.blt pc 51) (cond (Nat.blt pc 40) (cond (Nat.blt pc 36) (cond (Nat.blt pc 35) (am_lf pc 32 (.ldc2_w 377) 3) (am_lf pc 35 .dmul 1)) (cond (Nat.blt pc 37) (am_lf pc 36 (.dstore_n 2) 1) (cond (Nat.blt pc 39) (am_lf pc 37 (.lload 4) 2) (am_lf pc 39 (.lconst 1) 1)))) (cond (Nat.blt pc 43) (cond (Nat.blt pc 41) (am_lf pc 40 .lsub 1) (am_lf pc 41 (.lstore 4) 2)) (cond (Nat.blt pc 46) (am_lf pc 43 (.iinc 6 1) 3) (cond (Nat.blt pc 49) (am_lf pc 46 (.goto (-28)) 3) (am_lf pc 49 (.lload 4) 2))))) (cond (Nat.blt pc 57) (cond (Nat.blt pc 54) (cond (Nat.blt pc 53) (am_lf pc 51 (.bipush 52) 2) (am_lf pc 53 .lshl 1)) (cond (Nat.blt pc 55) (am_lf pc 54 (.dload_n 2) 1) (cond (Nat.blt pc 56) (am_lf pc 55 (.dconst 1) 1) (am_lf pc 56 .dsub 1)))) (cond (Nat.blt pc 61) (cond (Nat.blt pc 60) (am_lf pc 57 (.ldc2_w 379) 3) (am_lf pc 60 .dmul 1)) (cond (Nat.blt pc 62) (am_lf pc 61 .d2l 1) (cond (Nat.blt pc 63) (am_lf pc 62 .ladd 1) (am_lf pc 63 .lreturn 1))))))))
def tk_X5_hashText : Nat → Option (Instr × Nat) := am_guard 56 (fun pc => (cond (Nat.blt pc 27) (cond (Nat.blt pc 13) (cond (Nat.blt pc 5) (cond (Nat.blt pc 3) (am_lf pc 0 (.ldc2_w 296) 3) (cond (Nat.blt pc 4) (am_lf pc 3 (.lload_n 1) 1) (am_lf pc 4 .lmul 1))) (cond (Nat.blt pc 9) (cond (Nat.blt pc 6) (am_lf pc 5 (.aload_n 0) 1) (am_lf pc 6 (.getfield 44) 3)) (cond (Nat.blt pc 12) (am_lf pc 9 (.getfield 172) 3) (am_lf pc 12 .i2l 1)))) (cond (Nat.blt pc 18) (cond (Nat.blt pc 15) (cond (Nat.blt pc 14) (am_lf pc 13 .ladd 1) (am_lf pc 14 (.lstore_n 3) 1)) (cond (Nat.blt pc 16) (am_lf pc 15 (.iconst 0) 1) (am_lf pc 16 (.istore 5) 2))) (cond (Nat.blt pc 21) (cond (Nat.blt pc 20) (am_lf pc 18 (.iload 5) 2) (am_lf pc 20 (.aload_n 0) 1)) (cond (Nat.blt pc 24) (am_lf pc 21 (.getfield 44) 3) (am_lf pc 24 (.getfield 172) 3))))) (cond (Nat.blt pc 44) (cond (Nat.blt pc 35) (cond (Nat.blt pc 33) (cond (Nat.blt pc 30) (am_lf pc 27 (.if_icmp .ge 27) 3) (am_lf pc 30 (.ldc2_w 296) 3)) (cond (Nat.blt pc 34) (am_lf pc 33 (.lload_n 3) 1) (am_lf pc 34 .lmul 1))) (cond (Nat.blt pc 39) (cond (Nat.blt pc 36) (am_lf pc 35 (.aload_n 0) 1) (am_lf pc 36 (.getfield 44) 3)) (cond (Nat.blt pc 42) (am_lf pc 39 (.getfield 372) 3) (am_lf pc 42 (.iload 5) 2)))) (cond (Nat.blt pc 48) (cond (Nat.blt pc 46) (cond (Nat.blt pc 45) (am_lf pc 44 .iaload 1) (am_lf pc 45 .i2l 1)) (cond (Nat.blt pc 47) (am_lf pc 46 .ladd 1) (am_lf pc 47 (.lstore_n 3) 1))) (cond (Nat.blt pc 54) (cond (Nat.blt pc 51) (am_lf pc 48 (.iinc 5 1) 3) (am_lf pc 51 (.goto (-33)) 3)) (cond (Nat.blt pc 55) (am_lf pc 54 (.lload_n 3) 1) (am_lf pc 55 .lreturn 1)))))))
def tk_X5_add : Nat → Option (Instr × Nat) := am_guard 84 (fun pc => (cond (Nat.blt pc 44) (cond (Nat.blt pc 23) (cond (Nat.blt pc 11) (cond (Nat.blt pc 4) (cond (Nat.blt pc 1) (am_lf pc 0 (.iload_n 1) 1) (am_lf pc 1 (.invokestatic 52) 3)) (cond (Nat.blt pc 7) (am_lf pc 4 (.ifCond .eq 10) 3) (cond (Nat.blt pc 8) (am_lf pc 7 (.iload_n 2) 1) (am_lf pc 8 (.invokestatic 56) 3)))) (cond (Nat.blt pc 17) (cond (Nat.blt pc 14) (am_lf pc 11 (.ifCond .ne 13) 3) (am_lf pc 14 (.new 59) 3)) (cond (Nat.blt pc 18) (am_lf pc 17 .dup 1) (cond (Nat.blt pc 20) (am_lf pc 18 (.ldc 61) 2) (am_lf pc 20 (.invokespecial 63) 3))))) (cond (Nat.blt pc 33) (cond (Nat.blt pc 25) (cond (Nat.blt pc 24) (am_lf pc 23 .athrow 1) (am_lf pc 24 (.aload_n 0) 1)) (cond (Nat.blt pc 28) (am_lf pc 25 (.getfield 10) 3) (cond (Nat.blt pc 31) (am_lf pc 28 (.getfield 66) 3) (am_lf pc 31 (.bipush 60) 2)))) (cond (Nat.blt pc 37) (cond (Nat.blt pc 36) (am_lf pc 33 (.if_icmp .ge 14) 3) (am_lf pc 36 (.aload_n 0) 1)) (cond (Nat.blt pc 40) (am_lf pc 37 (.getfield 10) 3) (cond (Nat.blt pc 41) (am_lf pc 40 (.iload_n 1) 1) (am_lf pc 41 (.invokevirtual 70) 3)))))) (cond (Nat.blt pc 65) (cond (Nat.blt pc 56) (cond (Nat.blt pc 50) (cond (Nat.blt pc 47) (am_lf pc 44 (.ifCond .eq 13) 3) (am_lf pc 47 (.new 73) 3)) (cond (Nat.blt pc 51) (am_lf pc 50 .dup 1) (cond (Nat.blt pc 53) (am_lf pc 51 (.ldc 75) 2) (am_lf pc 53 (.invokespecial 77) 3)))) (cond (Nat.blt pc 58) (cond (Nat.blt pc 57) (am_lf pc 56 .athrow 1) (am_lf pc 57 (.aload_n 0) 1)) (cond (Nat.blt pc 61) (am_lf pc 58 (.getfield 37) 3) (cond (Nat.blt pc 62) (am_lf pc 61 (.aload_n 0) 1) (am_lf pc 62 (.getfield 10) 3))))) (cond (Nat.blt pc 74) (cond (Nat.blt pc 69) (cond (Nat.blt pc 68) (am_lf pc 65 (.invokevirtual 78) 3) (am_lf pc 68 (.aload_n 0) 1)) (cond (Nat.blt pc 72) (am_lf pc 69 (.getfield 10) 3) (cond (Nat.blt pc 73) (am_lf pc 72 (.iload_n 1) 1) (am_lf pc 73 (.iload_n 2) 1)))) (cond (Nat.blt pc 79) (cond (Nat.blt pc 77) (am_lf pc 74 (.invokevirtual 81) 3) (cond (Nat.blt pc 78) (am_lf pc 77 (.istore_n 3) 1) (am_lf pc 78 (.aload_n 0) 1))) (cond (Nat.blt pc 82) (am_lf pc 79 (.invokevirtual 85) 3) (cond (Nat.blt pc 83) (am_lf pc 82 (.iload_n 3) 1) (am_lf pc 83 .ireturn 1))))))))
def tk_X5_isTime : Nat → Option (Instr × Nat) := am_guard 17 (fun pc => (cond (Nat.blt pc 8) (cond (Nat.blt pc 4) (cond (Nat.blt pc 1) (am_lf pc 0 (.iload_n 0) 1) (am_lf pc 1 (.ifCond .lt 14) 3)) (cond (Nat.blt pc 5) (am_lf pc 4 (.iload_n 0) 1) (am_lf pc 5 (.sipush 9999) 3))) (cond (Nat.blt pc 12) (cond (Nat.blt pc 11) (am_lf pc 8 (.if_icmp .gt 7) 3) (am_lf pc 11 (.iconst 1) 1)) (cond (Nat.blt pc 15) (am_lf pc 12 (.goto 4) 3) (cond (Nat.blt pc 16) (am_lf pc 15 (.iconst 0) 1) (am_lf pc 16 .ireturn 1))))))
def tk_X5_isValue : Nat → Option (Instr × Nat) := am_guard 20 (fun pc => (cond (Nat.blt pc 11) (cond (Nat.blt pc 4) (cond (Nat.blt pc 1) (am_lf pc 0 (.iload_n 0) 1) (am_lf pc 1 (.sipush (-999)) 3)) (cond (Nat.blt pc 7) (am_lf pc 4 (.if_icmp .lt 14) 3) (cond (Nat.blt pc 8) (am_lf pc 7 (.iload_n 0) 1) (am_lf pc 8 (.sipush 999) 3)))) (cond (Nat.blt pc 15) (cond (Nat.blt pc 14) (am_lf pc 11 (.if_icmp .gt 7) 3) (am_lf pc 14 (.iconst 1) 1)) (cond (Nat.blt pc 18) (am_lf pc 15 (.goto 4) 3) (cond (Nat.blt pc 19) (am_lf pc 18 (.iconst 0) 1) (am_lf pc 19 .ireturn 1))))))
def tk_X2_hasTime : Nat → Option (Instr × Nat) := am_guard 30 (fun pc => (cond (Nat.blt pc 15) (cond (Nat.blt pc 6) (cond (Nat.blt pc 2) (cond (Nat.blt pc 1) (am_lf pc 0 (.aload_n 0) 1) (am_lf pc 1 (.iload_n 1) 1)) (cond (Nat.blt pc 5) (am_lf pc 2 (.invokevirtual 56) 3) (am_lf pc 5 (.istore_n 2) 1))) (cond (Nat.blt pc 8) (cond (Nat.blt pc 7) (am_lf pc 6 (.aload_n 0) 1) (am_lf pc 7 (.iload_n 2) 1)) (cond (Nat.blt pc 11) (am_lf pc 8 (.invokevirtual 52) 3) (cond (Nat.blt pc 14) (am_lf pc 11 (.ifCond .eq 17) 3) (am_lf pc 14 (.aload_n 0) 1))))) (cond (Nat.blt pc 21) (cond (Nat.blt pc 19) (cond (Nat.blt pc 18) (am_lf pc 15 (.getfield 9) 3) (am_lf pc 18 (.iload_n 2) 1)) (cond (Nat.blt pc 20) (am_lf pc 19 .iaload 1) (am_lf pc 20 (.iload_n 1) 1))) (cond (Nat.blt pc 25) (cond (Nat.blt pc 24) (am_lf pc 21 (.if_icmp .ne 7) 3) (am_lf pc 24 (.iconst 1) 1)) (cond (Nat.blt pc 28) (am_lf pc 25 (.goto 4) 3) (cond (Nat.blt pc 29) (am_lf pc 28 (.iconst 0) 1) (am_lf pc 29 .ireturn 1)))))))
def tk_X2_insert : Nat → Option (Instr × Nat) := am_guard 79 (fun pc => (cond (Nat.blt pc 43) (cond (Nat.blt pc 19) (cond (Nat.blt pc 11) (cond (Nat.blt pc 4) (cond (Nat.blt pc 1) (am_lf pc 0 (.aload_n 0) 1) (am_lf pc 1 (.getfield 39) 3)) (cond (Nat.blt pc 6) (am_lf pc 4 (.bipush 60) 2) (cond (Nat.blt pc 9) (am_lf pc 6 (.if_icmp .lt 6) 3) (am_lf pc 9 (.ldc 60) 2)))) (cond (Nat.blt pc 14) (cond (Nat.blt pc 12) (am_lf pc 11 .ireturn 1) (cond (Nat.blt pc 13) (am_lf pc 12 (.aload_n 0) 1) (am_lf pc 13 (.iload_n 1) 1))) (cond (Nat.blt pc 17) (am_lf pc 14 (.invokevirtual 56) 3) (cond (Nat.blt pc 18) (am_lf pc 17 (.istore_n 3) 1) (am_lf pc 18 (.aload_n 0) 1))))) (cond (Nat.blt pc 31) (cond (Nat.blt pc 26) (cond (Nat.blt pc 22) (am_lf pc 19 (.getfield 39) 3) (cond (Nat.blt pc 24) (am_lf pc 22 (.istore 4) 2) (am_lf pc 24 (.iload 4) 2))) (cond (Nat.blt pc 27) (am_lf pc 26 (.iload_n 3) 1) (cond (Nat.blt pc 30) (am_lf pc 27 (.if_icmp .le 19) 3) (am_lf pc 30 (.aload_n 0) 1)))) (cond (Nat.blt pc 35) (cond (Nat.blt pc 33) (am_lf pc 31 (.iload 4) 2) (cond (Nat.blt pc 34) (am_lf pc 33 (.iconst 1) 1) (am_lf pc 34 .isub 1))) (cond (Nat.blt pc 37) (am_lf pc 35 (.iload 4) 2) (cond (Nat.blt pc 40) (am_lf pc 37 (.invokevirtual 61) 3) (am_lf pc 40 (.iinc 4 (-1)) 3)))))) (cond (Nat.blt pc 61) (cond (Nat.blt pc 53) (cond (Nat.blt pc 50) (cond (Nat.blt pc 46) (am_lf pc 43 (.goto (-19)) 3) (cond (Nat.blt pc 47) (am_lf pc 46 (.aload_n 0) 1) (am_lf pc 47 (.getfield 9) 3))) (cond (Nat.blt pc 51) (am_lf pc 50 (.iload_n 3) 1) (cond (Nat.blt pc 52) (am_lf pc 51 (.iload_n 1) 1) (am_lf pc 52 .iastore 1)))) (cond (Nat.blt pc 58) (cond (Nat.blt pc 54) (am_lf pc 53 (.aload_n 0) 1) (cond (Nat.blt pc 57) (am_lf pc 54 (.getfield 15) 3) (am_lf pc 57 (.iload_n 3) 1))) (cond (Nat.blt pc 59) (am_lf pc 58 (.iload_n 2) 1) (cond (Nat.blt pc 60) (am_lf pc 59 .iastore 1) (am_lf pc 60 (.aload_n 0) 1))))) (cond (Nat.blt pc 69) (cond (Nat.blt pc 66) (cond (Nat.blt pc 64) (am_lf pc 61 (.getfield 18) 3) (cond (Nat.blt pc 65) (am_lf pc 64 (.iload_n 3) 1) (am_lf pc 65 (.iconst 1) 1))) (cond (Nat.blt pc 67) (am_lf pc 66 .iastore 1) (cond (Nat.blt pc 68) (am_lf pc 67 (.aload_n 0) 1) (am_lf pc 68 .dup 1)))) (cond (Nat.blt pc 74) (cond (Nat.blt pc 72) (am_lf pc 69 (.getfield 39) 3) (cond (Nat.blt pc 73) (am_lf pc 72 (.iconst 1) 1) (am_lf pc 73 .iadd 1))) (cond (Nat.blt pc 77) (am_lf pc 74 (.putfield 39) 3) (cond (Nat.blt pc 78) (am_lf pc 77 (.iload_n 3) 1) (am_lf pc 78 .ireturn 1))))))))
def tk_X2_copyPoint : Nat → Option (Instr × Nat) := am_guard 57 (fun pc => (cond (Nat.blt pc 31) (cond (Nat.blt pc 15) (cond (Nat.blt pc 7) (cond (Nat.blt pc 4) (cond (Nat.blt pc 1) (am_lf pc 0 (.iload_n 1) 1) (am_lf pc 1 (.ifCond .lt 55) 3)) (cond (Nat.blt pc 5) (am_lf pc 4 (.iload_n 1) 1) (am_lf pc 5 (.bipush 60) 2))) (cond (Nat.blt pc 11) (cond (Nat.blt pc 10) (am_lf pc 7 (.if_icmp .ge 49) 3) (am_lf pc 10 (.iload_n 2) 1)) (cond (Nat.blt pc 14) (am_lf pc 11 (.ifCond .lt 45) 3) (am_lf pc 14 (.iload_n 2) 1)))) (cond (Nat.blt pc 24) (cond (Nat.blt pc 20) (cond (Nat.blt pc 17) (am_lf pc 15 (.bipush 60) 2) (am_lf pc 17 (.if_icmp .ge 39) 3)) (cond (Nat.blt pc 21) (am_lf pc 20 (.aload_n 0) 1) (am_lf pc 21 (.getfield 9) 3))) (cond (Nat.blt pc 26) (cond (Nat.blt pc 25) (am_lf pc 24 (.iload_n 2) 1) (am_lf pc 25 (.aload_n 0) 1)) (cond (Nat.blt pc 29) (am_lf pc 26 (.getfield 9) 3) (cond (Nat.blt pc 30) (am_lf pc 29 (.iload_n 1) 1) (am_lf pc 30 .iaload 1)))))) (cond (Nat.blt pc 44) (cond (Nat.blt pc 37) (cond (Nat.blt pc 33) (cond (Nat.blt pc 32) (am_lf pc 31 .iastore 1) (am_lf pc 32 (.aload_n 0) 1)) (cond (Nat.blt pc 36) (am_lf pc 33 (.getfield 15) 3) (am_lf pc 36 (.iload_n 2) 1))) (cond (Nat.blt pc 41) (cond (Nat.blt pc 38) (am_lf pc 37 (.aload_n 0) 1) (am_lf pc 38 (.getfield 15) 3)) (cond (Nat.blt pc 42) (am_lf pc 41 (.iload_n 1) 1) (cond (Nat.blt pc 43) (am_lf pc 42 .iaload 1) (am_lf pc 43 .iastore 1))))) (cond (Nat.blt pc 50) (cond (Nat.blt pc 48) (cond (Nat.blt pc 45) (am_lf pc 44 (.aload_n 0) 1) (am_lf pc 45 (.getfield 18) 3)) (cond (Nat.blt pc 49) (am_lf pc 48 (.iload_n 2) 1) (am_lf pc 49 (.aload_n 0) 1))) (cond (Nat.blt pc 54) (cond (Nat.blt pc 53) (am_lf pc 50 (.getfield 18) 3) (am_lf pc 53 (.iload_n 1) 1)) (cond (Nat.blt pc 55) (am_lf pc 54 .iaload 1) (cond (Nat.blt pc 56) (am_lf pc 55 .iastore 1) (am_lf pc 56 .return_ 1))))))))
def tk_X5_pointsChanged : Nat → Option (Instr × Nat) := am_guard 15 (fun pc => (cond (Nat.blt pc 7) (cond (Nat.blt pc 1) (am_lf pc 0 (.aload_n 0) 1) (cond (Nat.blt pc 4) (am_lf pc 1 (.getfield 10) 3) (am_lf pc 4 (.invokevirtual 346) 3))) (cond (Nat.blt pc 11) (cond (Nat.blt pc 8) (am_lf pc 7 (.aload_n 0) 1) (am_lf pc 8 (.getfield 30) 3)) (cond (Nat.blt pc 14) (am_lf pc 11 (.invokevirtual 349) 3) (am_lf pc 14 .return_ 1)))))
def tk_X2_numberStretches : Nat → Option (Instr × Nat) := am_guard 57 (fun pc => (cond (Nat.blt pc 27) (cond (Nat.blt pc 12) (cond (Nat.blt pc 4) (cond (Nat.blt pc 2) (cond (Nat.blt pc 1) (am_lf pc 0 (.iconst 0) 1) (am_lf pc 1 (.istore_n 1) 1)) (cond (Nat.blt pc 3) (am_lf pc 2 (.iconst 0) 1) (am_lf pc 3 (.istore_n 2) 1))) (cond (Nat.blt pc 6) (cond (Nat.blt pc 5) (am_lf pc 4 (.iload_n 2) 1) (am_lf pc 5 (.aload_n 0) 1)) (cond (Nat.blt pc 9) (am_lf pc 6 (.getfield 39) 3) (am_lf pc 9 (.if_icmp .ge 47) 3)))) (cond (Nat.blt pc 20) (cond (Nat.blt pc 16) (cond (Nat.blt pc 13) (am_lf pc 12 (.iload_n 2) 1) (am_lf pc 13 (.ifCond .le 30) 3)) (cond (Nat.blt pc 17) (am_lf pc 16 (.aload_n 0) 1) (am_lf pc 17 (.getfield 9) 3))) (cond (Nat.blt pc 22) (cond (Nat.blt pc 21) (am_lf pc 20 (.iload_n 2) 1) (am_lf pc 21 .iaload 1)) (cond (Nat.blt pc 23) (am_lf pc 22 (.aload_n 0) 1) (cond (Nat.blt pc 26) (am_lf pc 23 (.getfield 9) 3) (am_lf pc 26 (.iload_n 2) 1)))))) (cond (Nat.blt pc 40) (cond (Nat.blt pc 31) (cond (Nat.blt pc 29) (cond (Nat.blt pc 28) (am_lf pc 27 (.iconst 1) 1) (am_lf pc 28 .isub 1)) (cond (Nat.blt pc 30) (am_lf pc 29 .iaload 1) (am_lf pc 30 .isub 1))) (cond (Nat.blt pc 35) (cond (Nat.blt pc 32) (am_lf pc 31 (.aload_n 0) 1) (am_lf pc 32 (.getfield 24) 3)) (cond (Nat.blt pc 36) (am_lf pc 35 (.iconst 1) 1) (cond (Nat.blt pc 37) (am_lf pc 36 .iaload 1) (am_lf pc 37 (.if_icmp .le 6) 3))))) (cond (Nat.blt pc 48) (cond (Nat.blt pc 44) (cond (Nat.blt pc 43) (am_lf pc 40 (.iinc 1 1) 3) (am_lf pc 43 (.aload_n 0) 1)) (cond (Nat.blt pc 47) (am_lf pc 44 (.getfield 21) 3) (am_lf pc 47 (.iload_n 2) 1))) (cond (Nat.blt pc 50) (cond (Nat.blt pc 49) (am_lf pc 48 (.iload_n 1) 1) (am_lf pc 49 .iastore 1)) (cond (Nat.blt pc 53) (am_lf pc 50 (.iinc 2 1) 3) (cond (Nat.blt pc 56) (am_lf pc 53 (.goto (-49)) 3) (am_lf pc 56 .return_ 1))))))))
def tk_X4_forget : Nat → Option (Instr × Nat) := am_guard 6 (fun pc => (cond (Nat.blt pc 2) (cond (Nat.blt pc 1) (am_lf pc 0 (.aload_n 0) 1) (am_lf pc 1 (.iconst 0) 1)) (cond (Nat.blt pc 5) (am_lf pc 2 (.putfield 29) 3) (am_lf pc 5 .return_ 1))))
def tk_X5_correct : Nat → Option (Instr × Nat) := am_guard 59 (fun pc => (cond (Nat.blt pc 33) (cond (Nat.blt pc 16) (cond (Nat.blt pc 6) (cond (Nat.blt pc 2) (cond (Nat.blt pc 1) (am_lf pc 0 (.aload_n 0) 1) (am_lf pc 1 (.iload_n 1) 1)) (cond (Nat.blt pc 5) (am_lf pc 2 (.invokevirtual 88) 3) (am_lf pc 5 (.iload_n 2) 1))) (cond (Nat.blt pc 12) (cond (Nat.blt pc 9) (am_lf pc 6 (.invokestatic 56) 3) (am_lf pc 9 (.ifCond .ne 13) 3)) (cond (Nat.blt pc 15) (am_lf pc 12 (.new 59) 3) (am_lf pc 15 .dup 1)))) (cond (Nat.blt pc 23) (cond (Nat.blt pc 21) (cond (Nat.blt pc 18) (am_lf pc 16 (.ldc 92) 2) (am_lf pc 18 (.invokespecial 63) 3)) (cond (Nat.blt pc 22) (am_lf pc 21 .athrow 1) (am_lf pc 22 (.aload_n 0) 1))) (cond (Nat.blt pc 27) (cond (Nat.blt pc 26) (am_lf pc 23 (.getfield 37) 3) (am_lf pc 26 (.aload_n 0) 1)) (cond (Nat.blt pc 30) (am_lf pc 27 (.getfield 10) 3) (am_lf pc 30 (.invokevirtual 78) 3))))) (cond (Nat.blt pc 47) (cond (Nat.blt pc 41) (cond (Nat.blt pc 37) (cond (Nat.blt pc 34) (am_lf pc 33 (.aload_n 0) 1) (am_lf pc 34 (.getfield 10) 3)) (cond (Nat.blt pc 40) (am_lf pc 37 (.getfield 94) 3) (am_lf pc 40 (.iload_n 1) 1))) (cond (Nat.blt pc 43) (cond (Nat.blt pc 42) (am_lf pc 41 .iaload 1) (am_lf pc 42 (.istore_n 3) 1)) (cond (Nat.blt pc 44) (am_lf pc 43 (.aload_n 0) 1) (am_lf pc 44 (.getfield 10) 3)))) (cond (Nat.blt pc 53) (cond (Nat.blt pc 51) (cond (Nat.blt pc 50) (am_lf pc 47 (.getfield 94) 3) (am_lf pc 50 (.iload_n 1) 1)) (cond (Nat.blt pc 52) (am_lf pc 51 (.iload_n 2) 1) (am_lf pc 52 .iastore 1))) (cond (Nat.blt pc 57) (cond (Nat.blt pc 54) (am_lf pc 53 (.aload_n 0) 1) (am_lf pc 54 (.invokevirtual 85) 3)) (cond (Nat.blt pc 58) (am_lf pc 57 (.iload_n 3) 1) (am_lf pc 58 .ireturn 1)))))))
def tk_X5_drop : Nat → Option (Instr × Nat) := am_guard 55 (fun pc => (cond (Nat.blt pc 27) (cond (Nat.blt pc 13) (cond (Nat.blt pc 5) (cond (Nat.blt pc 1) (am_lf pc 0 (.aload_n 0) 1) (cond (Nat.blt pc 2) (am_lf pc 1 (.iload_n 1) 1) (am_lf pc 2 (.invokevirtual 88) 3))) (cond (Nat.blt pc 9) (cond (Nat.blt pc 6) (am_lf pc 5 (.aload_n 0) 1) (am_lf pc 6 (.getfield 21) 3)) (cond (Nat.blt pc 10) (am_lf pc 9 (.iload_n 1) 1) (am_lf pc 10 (.invokevirtual 97) 3)))) (cond (Nat.blt pc 20) (cond (Nat.blt pc 16) (am_lf pc 13 (.ifCond .eq 13) 3) (cond (Nat.blt pc 19) (am_lf pc 16 (.new 73) 3) (am_lf pc 19 .dup 1))) (cond (Nat.blt pc 25) (cond (Nat.blt pc 22) (am_lf pc 20 (.ldc 101) 2) (am_lf pc 22 (.invokespecial 77) 3)) (cond (Nat.blt pc 26) (am_lf pc 25 .athrow 1) (am_lf pc 26 (.aload_n 0) 1))))) (cond (Nat.blt pc 44) (cond (Nat.blt pc 34) (cond (Nat.blt pc 30) (am_lf pc 27 (.getfield 37) 3) (cond (Nat.blt pc 31) (am_lf pc 30 (.aload_n 0) 1) (am_lf pc 31 (.getfield 10) 3))) (cond (Nat.blt pc 38) (cond (Nat.blt pc 37) (am_lf pc 34 (.invokevirtual 78) 3) (am_lf pc 37 (.aload_n 0) 1)) (cond (Nat.blt pc 41) (am_lf pc 38 (.getfield 10) 3) (am_lf pc 41 (.getfield 103) 3)))) (cond (Nat.blt pc 47) (cond (Nat.blt pc 45) (am_lf pc 44 (.iload_n 1) 1) (cond (Nat.blt pc 46) (am_lf pc 45 (.iconst 0) 1) (am_lf pc 46 .iastore 1))) (cond (Nat.blt pc 51) (cond (Nat.blt pc 48) (am_lf pc 47 (.aload_n 0) 1) (am_lf pc 48 (.getfield 10) 3)) (cond (Nat.blt pc 54) (am_lf pc 51 (.invokevirtual 106) 3) (am_lf pc 54 .ireturn 1)))))))
def tk_X5_keep : Nat → Option (Instr × Nat) := am_guard 55 (fun pc => (cond (Nat.blt pc 27) (cond (Nat.blt pc 13) (cond (Nat.blt pc 5) (cond (Nat.blt pc 1) (am_lf pc 0 (.aload_n 0) 1) (cond (Nat.blt pc 2) (am_lf pc 1 (.iload_n 1) 1) (am_lf pc 2 (.invokevirtual 88) 3))) (cond (Nat.blt pc 9) (cond (Nat.blt pc 6) (am_lf pc 5 (.aload_n 0) 1) (am_lf pc 6 (.getfield 10) 3)) (cond (Nat.blt pc 10) (am_lf pc 9 (.iload_n 1) 1) (am_lf pc 10 (.invokevirtual 110) 3)))) (cond (Nat.blt pc 20) (cond (Nat.blt pc 16) (am_lf pc 13 (.ifCond .eq 13) 3) (cond (Nat.blt pc 19) (am_lf pc 16 (.new 73) 3) (am_lf pc 19 .dup 1))) (cond (Nat.blt pc 25) (cond (Nat.blt pc 22) (am_lf pc 20 (.ldc 113) 2) (am_lf pc 22 (.invokespecial 77) 3)) (cond (Nat.blt pc 26) (am_lf pc 25 .athrow 1) (am_lf pc 26 (.aload_n 0) 1))))) (cond (Nat.blt pc 44) (cond (Nat.blt pc 34) (cond (Nat.blt pc 30) (am_lf pc 27 (.getfield 37) 3) (cond (Nat.blt pc 31) (am_lf pc 30 (.aload_n 0) 1) (am_lf pc 31 (.getfield 10) 3))) (cond (Nat.blt pc 38) (cond (Nat.blt pc 37) (am_lf pc 34 (.invokevirtual 78) 3) (am_lf pc 37 (.aload_n 0) 1)) (cond (Nat.blt pc 41) (am_lf pc 38 (.getfield 10) 3) (am_lf pc 41 (.getfield 103) 3)))) (cond (Nat.blt pc 47) (cond (Nat.blt pc 45) (am_lf pc 44 (.iload_n 1) 1) (cond (Nat.blt pc 46) (am_lf pc 45 (.iconst 1) 1) (am_lf pc 46 .iastore 1))) (cond (Nat.blt pc 51) (cond (Nat.blt pc 48) (am_lf pc 47 (.aload_n 0) 1) (am_lf pc 48 (.getfield 10) 3)) (cond (Nat.blt pc 54) (am_lf pc 51 (.invokevirtual 106) 3) (am_lf pc 54 .ireturn 1)))))))
def tk_X5_thin : Nat → Option (Instr × Nat) := am_guard 76 (fun pc => (cond (Nat.blt pc 38) (cond (Nat.blt pc 20) (cond (Nat.blt pc 9) (cond (Nat.blt pc 4) (cond (Nat.blt pc 1) (am_lf pc 0 (.iload_n 1) 1) (am_lf pc 1 (.invokestatic 118) 3)) (cond (Nat.blt pc 5) (am_lf pc 4 (.aload_n 0) 1) (cond (Nat.blt pc 8) (am_lf pc 5 (.getfield 37) 3) (am_lf pc 8 (.aload_n 0) 1)))) (cond (Nat.blt pc 15) (cond (Nat.blt pc 12) (am_lf pc 9 (.getfield 10) 3) (am_lf pc 12 (.invokevirtual 78) 3)) (cond (Nat.blt pc 16) (am_lf pc 15 (.aload_n 0) 1) (cond (Nat.blt pc 19) (am_lf pc 16 (.getfield 30) 3) (am_lf pc 19 (.iload_n 1) 1))))) (cond (Nat.blt pc 27) (cond (Nat.blt pc 24) (cond (Nat.blt pc 23) (am_lf pc 20 (.invokevirtual 121) 3) (am_lf pc 23 (.istore_n 2) 1)) (cond (Nat.blt pc 25) (am_lf pc 24 (.iconst 0) 1) (cond (Nat.blt pc 26) (am_lf pc 25 (.istore_n 3) 1) (am_lf pc 26 (.iload_n 3) 1)))) (cond (Nat.blt pc 31) (cond (Nat.blt pc 28) (am_lf pc 27 (.aload_n 0) 1) (am_lf pc 28 (.getfield 10) 3)) (cond (Nat.blt pc 34) (am_lf pc 31 (.getfield 66) 3) (cond (Nat.blt pc 37) (am_lf pc 34 (.if_icmp .ge 27) 3) (am_lf pc 37 (.aload_n 0) 1)))))) (cond (Nat.blt pc 58) (cond (Nat.blt pc 49) (cond (Nat.blt pc 44) (cond (Nat.blt pc 41) (am_lf pc 38 (.getfield 10) 3) (am_lf pc 41 (.getfield 103) 3)) (cond (Nat.blt pc 45) (am_lf pc 44 (.iload_n 3) 1) (cond (Nat.blt pc 46) (am_lf pc 45 (.aload_n 0) 1) (am_lf pc 46 (.getfield 30) 3)))) (cond (Nat.blt pc 53) (cond (Nat.blt pc 52) (am_lf pc 49 (.getfield 124) 3) (am_lf pc 52 (.iload_n 3) 1)) (cond (Nat.blt pc 54) (am_lf pc 53 .iaload 1) (cond (Nat.blt pc 55) (am_lf pc 54 .iastore 1) (am_lf pc 55 (.iinc 3 1) 3))))) (cond (Nat.blt pc 69) (cond (Nat.blt pc 62) (cond (Nat.blt pc 61) (am_lf pc 58 (.goto (-32)) 3) (am_lf pc 61 (.aload_n 0) 1)) (cond (Nat.blt pc 65) (am_lf pc 62 (.getfield 10) 3) (cond (Nat.blt pc 66) (am_lf pc 65 .dup 1) (am_lf pc 66 (.getfield 127) 3)))) (cond (Nat.blt pc 71) (cond (Nat.blt pc 70) (am_lf pc 69 (.iconst 1) 1) (am_lf pc 70 .iadd 1)) (cond (Nat.blt pc 74) (am_lf pc 71 (.putfield 127) 3) (cond (Nat.blt pc 75) (am_lf pc 74 (.iload_n 2) 1) (am_lf pc 75 .ireturn 1))))))))
def tk_X5_tear : Nat → Option (Instr × Nat) := am_guard 60 (fun pc => (cond (Nat.blt pc 30) (cond (Nat.blt pc 16) (cond (Nat.blt pc 6) (cond (Nat.blt pc 2) (cond (Nat.blt pc 1) (am_lf pc 0 (.aload_n 0) 1) (am_lf pc 1 (.iload_n 1) 1)) (cond (Nat.blt pc 5) (am_lf pc 2 (.invokevirtual 130) 3) (am_lf pc 5 (.aload_n 0) 1))) (cond (Nat.blt pc 10) (cond (Nat.blt pc 9) (am_lf pc 6 (.getfield 37) 3) (am_lf pc 9 (.aload_n 0) 1)) (cond (Nat.blt pc 13) (am_lf pc 10 (.getfield 10) 3) (am_lf pc 13 (.invokevirtual 78) 3)))) (cond (Nat.blt pc 24) (cond (Nat.blt pc 20) (cond (Nat.blt pc 17) (am_lf pc 16 (.aload_n 0) 1) (am_lf pc 17 (.getfield 10) 3)) (cond (Nat.blt pc 21) (am_lf pc 20 (.iload_n 1) 1) (am_lf pc 21 (.invokevirtual 133) 3))) (cond (Nat.blt pc 26) (cond (Nat.blt pc 25) (am_lf pc 24 (.istore_n 2) 1) (am_lf pc 25 (.aload_n 0) 1)) (cond (Nat.blt pc 29) (am_lf pc 26 (.getfield 10) 3) (am_lf pc 29 (.aload_n 0) 1))))) (cond (Nat.blt pc 46) (cond (Nat.blt pc 38) (cond (Nat.blt pc 34) (cond (Nat.blt pc 33) (am_lf pc 30 (.getfield 10) 3) (am_lf pc 33 (.iload_n 1) 1)) (cond (Nat.blt pc 37) (am_lf pc 34 (.invokevirtual 136) 3) (am_lf pc 37 (.iload_n 2) 1))) (cond (Nat.blt pc 42) (cond (Nat.blt pc 41) (am_lf pc 38 (.invokevirtual 139) 3) (am_lf pc 41 (.aload_n 0) 1)) (cond (Nat.blt pc 45) (am_lf pc 42 (.getfield 10) 3) (am_lf pc 45 .dup 1)))) (cond (Nat.blt pc 54) (cond (Nat.blt pc 50) (cond (Nat.blt pc 49) (am_lf pc 46 (.getfield 143) 3) (am_lf pc 49 (.iload_n 2) 1)) (cond (Nat.blt pc 51) (am_lf pc 50 .iadd 1) (am_lf pc 51 (.putfield 143) 3))) (cond (Nat.blt pc 58) (cond (Nat.blt pc 55) (am_lf pc 54 (.aload_n 0) 1) (am_lf pc 55 (.invokevirtual 85) 3)) (cond (Nat.blt pc 59) (am_lf pc 58 (.iload_n 2) 1) (am_lf pc 59 .ireturn 1)))))))
def tk_X2_removeRun : Nat → Option (Instr × Nat) := am_guard 56 (fun pc => (cond (Nat.blt pc 25) (cond (Nat.blt pc 12) (cond (Nat.blt pc 8) (cond (Nat.blt pc 4) (cond (Nat.blt pc 1) (am_lf pc 0 (.iload_n 1) 1) (am_lf pc 1 (.ifCond .lt 17) 3)) (cond (Nat.blt pc 5) (am_lf pc 4 (.iload_n 2) 1) (am_lf pc 5 (.ifCond .lt 13) 3))) (cond (Nat.blt pc 10) (cond (Nat.blt pc 9) (am_lf pc 8 (.iload_n 1) 1) (am_lf pc 9 (.iload_n 2) 1)) (cond (Nat.blt pc 11) (am_lf pc 10 .iadd 1) (am_lf pc 11 (.aload_n 0) 1)))) (cond (Nat.blt pc 20) (cond (Nat.blt pc 18) (cond (Nat.blt pc 15) (am_lf pc 12 (.getfield 39) 3) (am_lf pc 15 (.if_icmp .le 4) 3)) (cond (Nat.blt pc 19) (am_lf pc 18 .return_ 1) (am_lf pc 19 (.iload_n 1) 1))) (cond (Nat.blt pc 22) (cond (Nat.blt pc 21) (am_lf pc 20 (.iload_n 2) 1) (am_lf pc 21 .iadd 1)) (cond (Nat.blt pc 23) (am_lf pc 22 (.istore_n 3) 1) (cond (Nat.blt pc 24) (am_lf pc 23 (.iload_n 3) 1) (am_lf pc 24 (.aload_n 0) 1)))))) (cond (Nat.blt pc 39) (cond (Nat.blt pc 33) (cond (Nat.blt pc 31) (cond (Nat.blt pc 28) (am_lf pc 25 (.getfield 39) 3) (am_lf pc 28 (.if_icmp .ge 17) 3)) (cond (Nat.blt pc 32) (am_lf pc 31 (.aload_n 0) 1) (am_lf pc 32 (.iload_n 3) 1))) (cond (Nat.blt pc 35) (cond (Nat.blt pc 34) (am_lf pc 33 (.iload_n 3) 1) (am_lf pc 34 (.iload_n 2) 1)) (cond (Nat.blt pc 36) (am_lf pc 35 .isub 1) (am_lf pc 36 (.invokevirtual 61) 3)))) (cond (Nat.blt pc 47) (cond (Nat.blt pc 45) (cond (Nat.blt pc 42) (am_lf pc 39 (.iinc 3 1) 3) (am_lf pc 42 (.goto (-19)) 3)) (cond (Nat.blt pc 46) (am_lf pc 45 (.aload_n 0) 1) (am_lf pc 46 .dup 1))) (cond (Nat.blt pc 51) (cond (Nat.blt pc 50) (am_lf pc 47 (.getfield 39) 3) (am_lf pc 50 (.iload_n 2) 1)) (cond (Nat.blt pc 52) (am_lf pc 51 .isub 1) (cond (Nat.blt pc 55) (am_lf pc 52 (.putfield 39) 3) (am_lf pc 55 .return_ 1))))))))
def tk_X5_set : Nat → Option (Instr × Nat) := am_guard 59 (fun pc => (cond (Nat.blt pc 33) (cond (Nat.blt pc 16) (cond (Nat.blt pc 6) (cond (Nat.blt pc 4) (cond (Nat.blt pc 1) (am_lf pc 0 (.iload_n 1) 1) (am_lf pc 1 (.invokestatic 146) 3)) (cond (Nat.blt pc 5) (am_lf pc 4 (.iload_n 1) 1) (am_lf pc 5 (.iload_n 2) 1))) (cond (Nat.blt pc 12) (cond (Nat.blt pc 9) (am_lf pc 6 (.invokestatic 149) 3) (am_lf pc 9 (.ifCond .ne 13) 3)) (cond (Nat.blt pc 15) (am_lf pc 12 (.new 59) 3) (am_lf pc 15 .dup 1)))) (cond (Nat.blt pc 23) (cond (Nat.blt pc 21) (cond (Nat.blt pc 18) (am_lf pc 16 (.ldc 92) 2) (am_lf pc 18 (.invokespecial 63) 3)) (cond (Nat.blt pc 22) (am_lf pc 21 .athrow 1) (am_lf pc 22 (.aload_n 0) 1))) (cond (Nat.blt pc 27) (cond (Nat.blt pc 26) (am_lf pc 23 (.getfield 37) 3) (am_lf pc 26 (.aload_n 0) 1)) (cond (Nat.blt pc 30) (am_lf pc 27 (.getfield 10) 3) (am_lf pc 30 (.invokevirtual 78) 3))))) (cond (Nat.blt pc 47) (cond (Nat.blt pc 41) (cond (Nat.blt pc 37) (cond (Nat.blt pc 34) (am_lf pc 33 (.aload_n 0) 1) (am_lf pc 34 (.getfield 10) 3)) (cond (Nat.blt pc 40) (am_lf pc 37 (.getfield 153) 3) (am_lf pc 40 (.iload_n 1) 1))) (cond (Nat.blt pc 43) (cond (Nat.blt pc 42) (am_lf pc 41 .iaload 1) (am_lf pc 42 (.istore_n 3) 1)) (cond (Nat.blt pc 44) (am_lf pc 43 (.aload_n 0) 1) (am_lf pc 44 (.getfield 10) 3)))) (cond (Nat.blt pc 53) (cond (Nat.blt pc 51) (cond (Nat.blt pc 50) (am_lf pc 47 (.getfield 153) 3) (am_lf pc 50 (.iload_n 1) 1)) (cond (Nat.blt pc 52) (am_lf pc 51 (.iload_n 2) 1) (am_lf pc 52 .iastore 1))) (cond (Nat.blt pc 57) (cond (Nat.blt pc 54) (am_lf pc 53 (.aload_n 0) 1) (am_lf pc 54 (.invokevirtual 85) 3)) (cond (Nat.blt pc 58) (am_lf pc 57 (.iload_n 3) 1) (am_lf pc 58 .ireturn 1)))))))
def tk_X5_refuseNoSetting : Nat → Option (Instr × Nat) := am_guard 21 (fun pc => (cond (Nat.blt pc 9) (cond (Nat.blt pc 4) (cond (Nat.blt pc 1) (am_lf pc 0 (.iload_n 0) 1) (am_lf pc 1 (.ifCond .lt 8) 3)) (cond (Nat.blt pc 5) (am_lf pc 4 (.iload_n 0) 1) (cond (Nat.blt pc 6) (am_lf pc 5 (.iconst 3) 1) (am_lf pc 6 (.if_icmp .lt 14) 3)))) (cond (Nat.blt pc 16) (cond (Nat.blt pc 12) (am_lf pc 9 (.new 252) 3) (cond (Nat.blt pc 13) (am_lf pc 12 .dup 1) (am_lf pc 13 (.ldc_w 337) 3))) (cond (Nat.blt pc 19) (am_lf pc 16 (.invokespecial 256) 3) (cond (Nat.blt pc 20) (am_lf pc 19 .athrow 1) (am_lf pc 20 .return_ 1))))))
def tk_X5_isSettingValue : Nat → Option (Instr × Nat) := am_guard 59 (fun pc => (cond (Nat.blt pc 28) (cond (Nat.blt pc 16) (cond (Nat.blt pc 8) (cond (Nat.blt pc 4) (cond (Nat.blt pc 1) (am_lf pc 0 (.iload_n 0) 1) (am_lf pc 1 (.ifCond .ne 20) 3)) (cond (Nat.blt pc 5) (am_lf pc 4 (.iload_n 1) 1) (am_lf pc 5 (.ifCond .lt 14) 3))) (cond (Nat.blt pc 12) (cond (Nat.blt pc 9) (am_lf pc 8 (.iload_n 1) 1) (am_lf pc 9 (.sipush 500) 3)) (cond (Nat.blt pc 15) (am_lf pc 12 (.if_icmp .gt 7) 3) (am_lf pc 15 (.iconst 1) 1)))) (cond (Nat.blt pc 22) (cond (Nat.blt pc 20) (cond (Nat.blt pc 19) (am_lf pc 16 (.goto 4) 3) (am_lf pc 19 (.iconst 0) 1)) (cond (Nat.blt pc 21) (am_lf pc 20 .ireturn 1) (am_lf pc 21 (.iload_n 0) 1))) (cond (Nat.blt pc 26) (cond (Nat.blt pc 23) (am_lf pc 22 (.iconst 1) 1) (am_lf pc 23 (.if_icmp .ne 21) 3)) (cond (Nat.blt pc 27) (am_lf pc 26 (.iload_n 1) 1) (am_lf pc 27 (.iconst 1) 1))))) (cond (Nat.blt pc 44) (cond (Nat.blt pc 38) (cond (Nat.blt pc 32) (cond (Nat.blt pc 31) (am_lf pc 28 (.if_icmp .lt 14) 3) (am_lf pc 31 (.iload_n 1) 1)) (cond (Nat.blt pc 35) (am_lf pc 32 (.sipush 2000) 3) (am_lf pc 35 (.if_icmp .gt 7) 3))) (cond (Nat.blt pc 42) (cond (Nat.blt pc 39) (am_lf pc 38 (.iconst 1) 1) (am_lf pc 39 (.goto 4) 3)) (cond (Nat.blt pc 43) (am_lf pc 42 (.iconst 0) 1) (am_lf pc 43 .ireturn 1)))) (cond (Nat.blt pc 50) (cond (Nat.blt pc 48) (cond (Nat.blt pc 45) (am_lf pc 44 (.iload_n 1) 1) (am_lf pc 45 (.ifCond .eq 8) 3)) (cond (Nat.blt pc 49) (am_lf pc 48 (.iload_n 1) 1) (am_lf pc 49 (.iconst 1) 1))) (cond (Nat.blt pc 54) (cond (Nat.blt pc 53) (am_lf pc 50 (.if_icmp .ne 7) 3) (am_lf pc 53 (.iconst 1) 1)) (cond (Nat.blt pc 57) (am_lf pc 54 (.goto 4) 3) (cond (Nat.blt pc 58) (am_lf pc 57 (.iconst 0) 1) (am_lf pc 58 .ireturn 1))))))))
def tk_X5_note : Nat → Option (Instr × Nat) := am_guard 122 (fun pc => (cond (Nat.blt pc 64) (cond (Nat.blt pc 31) (cond (Nat.blt pc 17) (cond (Nat.blt pc 7) (cond (Nat.blt pc 1) (am_lf pc 0 (.iload_n 1) 1) (cond (Nat.blt pc 4) (am_lf pc 1 (.invokestatic 52) 3) (am_lf pc 4 (.ifCond .eq 10) 3))) (cond (Nat.blt pc 11) (cond (Nat.blt pc 8) (am_lf pc 7 (.iload_n 2) 1) (am_lf pc 8 (.invokestatic 56) 3)) (cond (Nat.blt pc 14) (am_lf pc 11 (.ifCond .ne 13) 3) (am_lf pc 14 (.new 59) 3)))) (cond (Nat.blt pc 23) (cond (Nat.blt pc 18) (am_lf pc 17 .dup 1) (cond (Nat.blt pc 20) (am_lf pc 18 (.ldc 61) 2) (am_lf pc 20 (.invokespecial 63) 3))) (cond (Nat.blt pc 25) (cond (Nat.blt pc 24) (am_lf pc 23 .athrow 1) (am_lf pc 24 (.aload_n 0) 1)) (cond (Nat.blt pc 28) (am_lf pc 25 (.getfield 10) 3) (am_lf pc 28 (.getfield 156) 3))))) (cond (Nat.blt pc 49) (cond (Nat.blt pc 38) (cond (Nat.blt pc 34) (am_lf pc 31 (.ifCond .lt 15) 3) (cond (Nat.blt pc 35) (am_lf pc 34 (.aload_n 0) 1) (am_lf pc 35 (.getfield 10) 3))) (cond (Nat.blt pc 43) (cond (Nat.blt pc 41) (am_lf pc 38 (.getfield 156) 3) (am_lf pc 41 (.bipush 8) 2)) (cond (Nat.blt pc 46) (am_lf pc 43 (.if_icmp .lt 13) 3) (am_lf pc 46 (.new 73) 3)))) (cond (Nat.blt pc 56) (cond (Nat.blt pc 52) (cond (Nat.blt pc 50) (am_lf pc 49 .dup 1) (am_lf pc 50 (.ldc 159) 2)) (cond (Nat.blt pc 55) (am_lf pc 52 (.invokespecial 77) 3) (am_lf pc 55 .athrow 1))) (cond (Nat.blt pc 60) (cond (Nat.blt pc 57) (am_lf pc 56 (.aload_n 0) 1) (am_lf pc 57 (.getfield 37) 3)) (cond (Nat.blt pc 61) (am_lf pc 60 (.aload_n 0) 1) (am_lf pc 61 (.getfield 10) 3)))))) (cond (Nat.blt pc 97) (cond (Nat.blt pc 81) (cond (Nat.blt pc 71) (cond (Nat.blt pc 67) (am_lf pc 64 (.invokevirtual 78) 3) (cond (Nat.blt pc 68) (am_lf pc 67 (.aload_n 0) 1) (am_lf pc 68 (.getfield 10) 3))) (cond (Nat.blt pc 75) (cond (Nat.blt pc 74) (am_lf pc 71 (.getfield 161) 3) (am_lf pc 74 (.aload_n 0) 1)) (cond (Nat.blt pc 78) (am_lf pc 75 (.getfield 10) 3) (am_lf pc 78 (.getfield 156) 3)))) (cond (Nat.blt pc 87) (cond (Nat.blt pc 83) (cond (Nat.blt pc 82) (am_lf pc 81 (.iload_n 1) 1) (am_lf pc 82 .iastore 1)) (cond (Nat.blt pc 84) (am_lf pc 83 (.aload_n 0) 1) (am_lf pc 84 (.getfield 10) 3))) (cond (Nat.blt pc 91) (cond (Nat.blt pc 90) (am_lf pc 87 (.getfield 164) 3) (am_lf pc 90 (.aload_n 0) 1)) (cond (Nat.blt pc 94) (am_lf pc 91 (.getfield 10) 3) (am_lf pc 94 (.getfield 156) 3))))) (cond (Nat.blt pc 108) (cond (Nat.blt pc 100) (cond (Nat.blt pc 98) (am_lf pc 97 (.iload_n 2) 1) (cond (Nat.blt pc 99) (am_lf pc 98 .iastore 1) (am_lf pc 99 (.aload_n 0) 1))) (cond (Nat.blt pc 104) (cond (Nat.blt pc 103) (am_lf pc 100 (.getfield 10) 3) (am_lf pc 103 .dup 1)) (cond (Nat.blt pc 107) (am_lf pc 104 (.getfield 156) 3) (am_lf pc 107 (.iconst 1) 1)))) (cond (Nat.blt pc 116) (cond (Nat.blt pc 112) (cond (Nat.blt pc 109) (am_lf pc 108 .iadd 1) (am_lf pc 109 (.putfield 156) 3)) (cond (Nat.blt pc 113) (am_lf pc 112 (.aload_n 0) 1) (am_lf pc 113 (.getfield 10) 3))) (cond (Nat.blt pc 120) (cond (Nat.blt pc 119) (am_lf pc 116 (.getfield 156) 3) (am_lf pc 119 (.iconst 1) 1)) (cond (Nat.blt pc 121) (am_lf pc 120 .isub 1) (am_lf pc 121 .ireturn 1))))))))
def tk_X5_append : Nat → Option (Instr × Nat) := am_guard 60 (fun pc => (cond (Nat.blt pc 29) (cond (Nat.blt pc 15) (cond (Nat.blt pc 6) (cond (Nat.blt pc 1) (am_lf pc 0 (.iload_n 1) 1) (cond (Nat.blt pc 3) (am_lf pc 1 (.bipush 33) 2) (am_lf pc 3 (.if_icmp .lt 9) 3))) (cond (Nat.blt pc 9) (cond (Nat.blt pc 7) (am_lf pc 6 (.iload_n 1) 1) (am_lf pc 7 (.bipush 126) 2)) (cond (Nat.blt pc 12) (am_lf pc 9 (.if_icmp .le 13) 3) (am_lf pc 12 (.new 59) 3)))) (cond (Nat.blt pc 21) (cond (Nat.blt pc 16) (am_lf pc 15 .dup 1) (cond (Nat.blt pc 18) (am_lf pc 16 (.ldc 170) 2) (am_lf pc 18 (.invokespecial 63) 3))) (cond (Nat.blt pc 23) (cond (Nat.blt pc 22) (am_lf pc 21 .athrow 1) (am_lf pc 22 (.aload_n 0) 1)) (cond (Nat.blt pc 26) (am_lf pc 23 (.getfield 44) 3) (am_lf pc 26 (.getfield 172) 3))))) (cond (Nat.blt pc 44) (cond (Nat.blt pc 37) (cond (Nat.blt pc 31) (am_lf pc 29 (.bipush 60) 2) (cond (Nat.blt pc 34) (am_lf pc 31 (.if_icmp .lt 13) 3) (am_lf pc 34 (.new 73) 3))) (cond (Nat.blt pc 40) (cond (Nat.blt pc 38) (am_lf pc 37 .dup 1) (am_lf pc 38 (.ldc 175) 2)) (cond (Nat.blt pc 43) (am_lf pc 40 (.invokespecial 77) 3) (am_lf pc 43 .athrow 1)))) (cond (Nat.blt pc 52) (cond (Nat.blt pc 48) (cond (Nat.blt pc 45) (am_lf pc 44 (.aload_n 0) 1) (am_lf pc 45 (.getfield 44) 3)) (cond (Nat.blt pc 49) (am_lf pc 48 (.iload_n 1) 1) (am_lf pc 49 (.invokevirtual 177) 3))) (cond (Nat.blt pc 56) (cond (Nat.blt pc 53) (am_lf pc 52 (.aload_n 0) 1) (am_lf pc 53 (.getfield 44) 3)) (cond (Nat.blt pc 59) (am_lf pc 56 (.getfield 172) 3) (am_lf pc 59 .ireturn 1)))))))
def tk_X3_push : Nat → Option (Instr × Nat) := am_guard 37 (fun pc => (cond (Nat.blt pc 21) (cond (Nat.blt pc 11) (cond (Nat.blt pc 4) (cond (Nat.blt pc 1) (am_lf pc 0 (.aload_n 0) 1) (am_lf pc 1 (.getfield 21) 3)) (cond (Nat.blt pc 7) (am_lf pc 4 (.ifCond .lt 32) 3) (cond (Nat.blt pc 8) (am_lf pc 7 (.aload_n 0) 1) (am_lf pc 8 (.getfield 21) 3)))) (cond (Nat.blt pc 16) (cond (Nat.blt pc 13) (am_lf pc 11 (.bipush 60) 2) (am_lf pc 13 (.if_icmp .ge 23) 3)) (cond (Nat.blt pc 17) (am_lf pc 16 (.aload_n 0) 1) (cond (Nat.blt pc 20) (am_lf pc 17 (.getfield 9) 3) (am_lf pc 20 (.aload_n 0) 1))))) (cond (Nat.blt pc 28) (cond (Nat.blt pc 25) (cond (Nat.blt pc 24) (am_lf pc 21 (.getfield 21) 3) (am_lf pc 24 (.iload_n 1) 1)) (cond (Nat.blt pc 26) (am_lf pc 25 .iastore 1) (cond (Nat.blt pc 27) (am_lf pc 26 (.aload_n 0) 1) (am_lf pc 27 .dup 1)))) (cond (Nat.blt pc 32) (cond (Nat.blt pc 31) (am_lf pc 28 (.getfield 21) 3) (am_lf pc 31 (.iconst 1) 1)) (cond (Nat.blt pc 33) (am_lf pc 32 .iadd 1) (cond (Nat.blt pc 36) (am_lf pc 33 (.putfield 21) 3) (am_lf pc 36 .return_ 1)))))))
def tk_X5_addAll : Nat → Option (Instr × Nat) := am_guard 140 (fun pc => (cond (Nat.blt pc 72) (cond (Nat.blt pc 35) (cond (Nat.blt pc 19) (cond (Nat.blt pc 10) (cond (Nat.blt pc 4) (cond (Nat.blt pc 1) (am_lf pc 0 (.aload_n 0) 1) (am_lf pc 1 (.getfield 44) 3)) (cond (Nat.blt pc 7) (am_lf pc 4 (.invokevirtual 183) 3) (am_lf pc 7 (.ifCond .ne 13) 3))) (cond (Nat.blt pc 14) (cond (Nat.blt pc 13) (am_lf pc 10 (.new 59) 3) (am_lf pc 13 .dup 1)) (cond (Nat.blt pc 16) (am_lf pc 14 (.ldc 187) 2) (am_lf pc 16 (.invokespecial 63) 3)))) (cond (Nat.blt pc 27) (cond (Nat.blt pc 21) (cond (Nat.blt pc 20) (am_lf pc 19 .athrow 1) (am_lf pc 20 (.aload_n 0) 1)) (cond (Nat.blt pc 24) (am_lf pc 21 (.getfield 44) 3) (am_lf pc 24 (.invokevirtual 189) 3))) (cond (Nat.blt pc 31) (cond (Nat.blt pc 28) (am_lf pc 27 (.aload_n 0) 1) (am_lf pc 28 (.getfield 10) 3)) (cond (Nat.blt pc 34) (am_lf pc 31 (.getfield 66) 3) (am_lf pc 34 (.aload_n 0) 1))))) (cond (Nat.blt pc 54) (cond (Nat.blt pc 44) (cond (Nat.blt pc 41) (cond (Nat.blt pc 38) (am_lf pc 35 (.getfield 44) 3) (am_lf pc 38 (.getfield 192) 3)) (cond (Nat.blt pc 42) (am_lf pc 41 .iadd 1) (am_lf pc 42 (.bipush 60) 2))) (cond (Nat.blt pc 48) (cond (Nat.blt pc 47) (am_lf pc 44 (.if_icmp .gt 10) 3) (am_lf pc 47 (.aload_n 0) 1)) (cond (Nat.blt pc 51) (am_lf pc 48 (.invokevirtual 195) 3) (am_lf pc 51 (.ifCond .ne 13) 3)))) (cond (Nat.blt pc 63) (cond (Nat.blt pc 58) (cond (Nat.blt pc 57) (am_lf pc 54 (.new 73) 3) (am_lf pc 57 .dup 1)) (cond (Nat.blt pc 60) (am_lf pc 58 (.ldc 198) 2) (am_lf pc 60 (.invokespecial 77) 3))) (cond (Nat.blt pc 65) (cond (Nat.blt pc 64) (am_lf pc 63 .athrow 1) (am_lf pc 64 (.aload_n 0) 1)) (cond (Nat.blt pc 68) (am_lf pc 65 (.getfield 37) 3) (cond (Nat.blt pc 69) (am_lf pc 68 (.aload_n 0) 1) (am_lf pc 69 (.getfield 10) 3))))))) (cond (Nat.blt pc 105) (cond (Nat.blt pc 88) (cond (Nat.blt pc 78) (cond (Nat.blt pc 76) (cond (Nat.blt pc 75) (am_lf pc 72 (.invokevirtual 78) 3) (am_lf pc 75 (.iconst 0) 1)) (cond (Nat.blt pc 77) (am_lf pc 76 (.istore_n 1) 1) (am_lf pc 77 (.iload_n 1) 1))) (cond (Nat.blt pc 82) (cond (Nat.blt pc 79) (am_lf pc 78 (.aload_n 0) 1) (am_lf pc 79 (.getfield 44) 3)) (cond (Nat.blt pc 85) (am_lf pc 82 (.getfield 192) 3) (am_lf pc 85 (.if_icmp .ge 35) 3)))) (cond (Nat.blt pc 96) (cond (Nat.blt pc 92) (cond (Nat.blt pc 89) (am_lf pc 88 (.aload_n 0) 1) (am_lf pc 89 (.getfield 10) 3)) (cond (Nat.blt pc 93) (am_lf pc 92 (.aload_n 0) 1) (am_lf pc 93 (.getfield 44) 3))) (cond (Nat.blt pc 100) (cond (Nat.blt pc 99) (am_lf pc 96 (.getfield 200) 3) (am_lf pc 99 (.iload_n 1) 1)) (cond (Nat.blt pc 101) (am_lf pc 100 .iaload 1) (cond (Nat.blt pc 102) (am_lf pc 101 (.aload_n 0) 1) (am_lf pc 102 (.getfield 44) 3)))))) (cond (Nat.blt pc 121) (cond (Nat.blt pc 113) (cond (Nat.blt pc 109) (cond (Nat.blt pc 108) (am_lf pc 105 (.getfield 203) 3) (am_lf pc 108 (.iload_n 1) 1)) (cond (Nat.blt pc 110) (am_lf pc 109 .iaload 1) (am_lf pc 110 (.invokevirtual 81) 3))) (cond (Nat.blt pc 117) (cond (Nat.blt pc 114) (am_lf pc 113 .pop 1) (am_lf pc 114 (.iinc 1 1) 3)) (cond (Nat.blt pc 120) (am_lf pc 117 (.goto (-40)) 3) (am_lf pc 120 (.aload_n 0) 1)))) (cond (Nat.blt pc 129) (cond (Nat.blt pc 125) (cond (Nat.blt pc 124) (am_lf pc 121 (.getfield 44) 3) (am_lf pc 124 (.iconst 0) 1)) (cond (Nat.blt pc 128) (am_lf pc 125 (.putfield 172) 3) (am_lf pc 128 (.aload_n 0) 1))) (cond (Nat.blt pc 133) (cond (Nat.blt pc 132) (am_lf pc 129 (.invokevirtual 85) 3) (am_lf pc 132 (.aload_n 0) 1)) (cond (Nat.blt pc 136) (am_lf pc 133 (.getfield 10) 3) (cond (Nat.blt pc 139) (am_lf pc 136 (.getfield 66) 3) (am_lf pc 139 .ireturn 1)))))))))
def tk_X3_isRow : Nat → Option (Instr × Nat) := am_guard 46 (fun pc => (cond (Nat.blt pc 19) (cond (Nat.blt pc 6) (cond (Nat.blt pc 3) (cond (Nat.blt pc 1) (am_lf pc 0 (.iconst 0) 1) (cond (Nat.blt pc 2) (am_lf pc 1 (.istore_n 1) 1) (am_lf pc 2 (.iconst 0) 1))) (cond (Nat.blt pc 4) (am_lf pc 3 (.istore_n 2) 1) (cond (Nat.blt pc 5) (am_lf pc 4 (.iload_n 2) 1) (am_lf pc 5 (.aload_n 0) 1)))) (cond (Nat.blt pc 13) (cond (Nat.blt pc 9) (am_lf pc 6 (.getfield 21) 3) (cond (Nat.blt pc 12) (am_lf pc 9 (.if_icmp .ge 25) 3) (am_lf pc 12 (.iload_n 1) 1))) (cond (Nat.blt pc 17) (cond (Nat.blt pc 14) (am_lf pc 13 (.iconst (-1)) 1) (am_lf pc 14 (.if_icmp .eq 20) 3)) (cond (Nat.blt pc 18) (am_lf pc 17 (.iload_n 1) 1) (am_lf pc 18 (.aload_n 0) 1))))) (cond (Nat.blt pc 34) (cond (Nat.blt pc 24) (cond (Nat.blt pc 22) (am_lf pc 19 (.getfield 9) 3) (cond (Nat.blt pc 23) (am_lf pc 22 (.iload_n 2) 1) (am_lf pc 23 .iaload 1))) (cond (Nat.blt pc 28) (cond (Nat.blt pc 27) (am_lf pc 24 (.invokestatic 25) 3) (am_lf pc 27 (.istore_n 1) 1)) (cond (Nat.blt pc 31) (am_lf pc 28 (.iinc 2 1) 3) (am_lf pc 31 (.goto (-27)) 3)))) (cond (Nat.blt pc 40) (cond (Nat.blt pc 35) (am_lf pc 34 (.iload_n 1) 1) (cond (Nat.blt pc 37) (am_lf pc 35 (.bipush 8) 2) (am_lf pc 37 (.if_icmp .lt 7) 3))) (cond (Nat.blt pc 44) (cond (Nat.blt pc 41) (am_lf pc 40 (.iconst 1) 1) (am_lf pc 41 (.goto 4) 3)) (cond (Nat.blt pc 45) (am_lf pc 44 (.iconst 0) 1) (am_lf pc 45 .ireturn 1)))))))
def tk_X3_readRow : Nat → Option (Instr × Nat) := am_guard 106 (fun pc => (cond (Nat.blt pc 52) (cond (Nat.blt pc 24) (cond (Nat.blt pc 10) (cond (Nat.blt pc 6) (cond (Nat.blt pc 2) (cond (Nat.blt pc 1) (am_lf pc 0 (.aload_n 0) 1) (am_lf pc 1 (.iconst 0) 1)) (cond (Nat.blt pc 5) (am_lf pc 2 (.putfield 29) 3) (am_lf pc 5 (.iconst 0) 1))) (cond (Nat.blt pc 8) (cond (Nat.blt pc 7) (am_lf pc 6 (.istore_n 1) 1) (am_lf pc 7 (.iconst 0) 1)) (cond (Nat.blt pc 9) (am_lf pc 8 (.istore_n 2) 1) (am_lf pc 9 (.iconst 1) 1)))) (cond (Nat.blt pc 16) (cond (Nat.blt pc 12) (cond (Nat.blt pc 11) (am_lf pc 10 (.istore_n 3) 1) (am_lf pc 11 (.iconst 0) 1)) (cond (Nat.blt pc 14) (am_lf pc 12 (.istore 4) 2) (am_lf pc 14 (.iload 4) 2))) (cond (Nat.blt pc 20) (cond (Nat.blt pc 17) (am_lf pc 16 (.aload_n 0) 1) (am_lf pc 17 (.getfield 21) 3)) (cond (Nat.blt pc 23) (am_lf pc 20 (.if_icmp .ge 77) 3) (am_lf pc 23 (.aload_n 0) 1))))) (cond (Nat.blt pc 40) (cond (Nat.blt pc 32) (cond (Nat.blt pc 29) (cond (Nat.blt pc 27) (am_lf pc 24 (.getfield 9) 3) (am_lf pc 27 (.iload 4) 2)) (cond (Nat.blt pc 30) (am_lf pc 29 .iaload 1) (am_lf pc 30 (.istore 5) 2))) (cond (Nat.blt pc 36) (cond (Nat.blt pc 34) (am_lf pc 32 (.iload 5) 2) (am_lf pc 34 (.bipush 58) 2)) (cond (Nat.blt pc 39) (am_lf pc 36 (.if_icmp .ne 12) 3) (am_lf pc 39 (.iload_n 2) 1)))) (cond (Nat.blt pc 44) (cond (Nat.blt pc 42) (cond (Nat.blt pc 41) (am_lf pc 40 (.istore_n 1) 1) (am_lf pc 41 (.iconst 0) 1)) (cond (Nat.blt pc 43) (am_lf pc 42 (.istore_n 2) 1) (am_lf pc 43 (.iconst 1) 1))) (cond (Nat.blt pc 48) (cond (Nat.blt pc 45) (am_lf pc 44 (.istore_n 3) 1) (am_lf pc 45 (.goto 46) 3)) (cond (Nat.blt pc 50) (am_lf pc 48 (.iload 5) 2) (am_lf pc 50 (.bipush 45) 2)))))) (cond (Nat.blt pc 80) (cond (Nat.blt pc 68) (cond (Nat.blt pc 60) (cond (Nat.blt pc 56) (cond (Nat.blt pc 55) (am_lf pc 52 (.if_icmp .ne 8) 3) (am_lf pc 55 (.iconst (-1)) 1)) (cond (Nat.blt pc 57) (am_lf pc 56 (.istore_n 3) 1) (am_lf pc 57 (.goto 34) 3))) (cond (Nat.blt pc 64) (cond (Nat.blt pc 62) (am_lf pc 60 (.iload 5) 2) (am_lf pc 62 (.bipush 44) 2)) (cond (Nat.blt pc 67) (am_lf pc 64 (.if_icmp .ne 16) 3) (am_lf pc 67 (.aload_n 0) 1)))) (cond (Nat.blt pc 72) (cond (Nat.blt pc 70) (cond (Nat.blt pc 69) (am_lf pc 68 (.iload_n 1) 1) (am_lf pc 69 (.iload_n 3) 1)) (cond (Nat.blt pc 71) (am_lf pc 70 (.iload_n 2) 1) (am_lf pc 71 .imul 1))) (cond (Nat.blt pc 76) (cond (Nat.blt pc 75) (am_lf pc 72 (.invokevirtual 32) 3) (am_lf pc 75 (.iconst 0) 1)) (cond (Nat.blt pc 77) (am_lf pc 76 (.istore_n 2) 1) (am_lf pc 77 (.goto 14) 3))))) (cond (Nat.blt pc 91) (cond (Nat.blt pc 86) (cond (Nat.blt pc 83) (cond (Nat.blt pc 82) (am_lf pc 80 (.bipush 10) 2) (am_lf pc 82 (.iload_n 2) 1)) (cond (Nat.blt pc 84) (am_lf pc 83 .imul 1) (am_lf pc 84 (.iload 5) 2))) (cond (Nat.blt pc 89) (cond (Nat.blt pc 87) (am_lf pc 86 .iadd 1) (am_lf pc 87 (.bipush 48) 2)) (cond (Nat.blt pc 90) (am_lf pc 89 .isub 1) (am_lf pc 90 (.istore_n 2) 1)))) (cond (Nat.blt pc 99) (cond (Nat.blt pc 97) (cond (Nat.blt pc 94) (am_lf pc 91 (.iinc 4 1) 3) (am_lf pc 94 (.goto (-80)) 3)) (cond (Nat.blt pc 98) (am_lf pc 97 (.aload_n 0) 1) (am_lf pc 98 (.iload_n 1) 1))) (cond (Nat.blt pc 101) (cond (Nat.blt pc 100) (am_lf pc 99 (.iload_n 3) 1) (am_lf pc 100 (.iload_n 2) 1)) (cond (Nat.blt pc 102) (am_lf pc 101 .imul 1) (cond (Nat.blt pc 105) (am_lf pc 102 (.invokevirtual 32) 3) (am_lf pc 105 .return_ 1)))))))))
def tk_X3_takePoint : Nat → Option (Instr × Nat) := am_guard 47 (fun pc => (cond (Nat.blt pc 26) (cond (Nat.blt pc 13) (cond (Nat.blt pc 7) (cond (Nat.blt pc 1) (am_lf pc 0 (.aload_n 0) 1) (cond (Nat.blt pc 4) (am_lf pc 1 (.getfield 29) 3) (am_lf pc 4 (.ifCond .lt 42) 3))) (cond (Nat.blt pc 8) (am_lf pc 7 (.aload_n 0) 1) (cond (Nat.blt pc 11) (am_lf pc 8 (.getfield 29) 3) (am_lf pc 11 (.bipush 60) 2)))) (cond (Nat.blt pc 20) (cond (Nat.blt pc 16) (am_lf pc 13 (.if_icmp .ge 33) 3) (cond (Nat.blt pc 17) (am_lf pc 16 (.aload_n 0) 1) (am_lf pc 17 (.getfield 15) 3))) (cond (Nat.blt pc 24) (cond (Nat.blt pc 21) (am_lf pc 20 (.aload_n 0) 1) (am_lf pc 21 (.getfield 29) 3)) (cond (Nat.blt pc 25) (am_lf pc 24 (.iload_n 1) 1) (am_lf pc 25 .iastore 1))))) (cond (Nat.blt pc 36) (cond (Nat.blt pc 31) (cond (Nat.blt pc 27) (am_lf pc 26 (.aload_n 0) 1) (cond (Nat.blt pc 30) (am_lf pc 27 (.getfield 18) 3) (am_lf pc 30 (.aload_n 0) 1))) (cond (Nat.blt pc 34) (am_lf pc 31 (.getfield 29) 3) (cond (Nat.blt pc 35) (am_lf pc 34 (.iload_n 2) 1) (am_lf pc 35 .iastore 1)))) (cond (Nat.blt pc 41) (cond (Nat.blt pc 37) (am_lf pc 36 (.aload_n 0) 1) (cond (Nat.blt pc 38) (am_lf pc 37 .dup 1) (am_lf pc 38 (.getfield 29) 3))) (cond (Nat.blt pc 43) (cond (Nat.blt pc 42) (am_lf pc 41 (.iconst 1) 1) (am_lf pc 42 .iadd 1)) (cond (Nat.blt pc 46) (am_lf pc 43 (.putfield 29) 3) (am_lf pc 46 .return_ 1)))))))
def tk_X5_parsedTimesAreFree : Nat → Option (Instr × Nat) := am_guard 78 (fun pc => (cond (Nat.blt pc 37) (cond (Nat.blt pc 18) (cond (Nat.blt pc 7) (cond (Nat.blt pc 2) (cond (Nat.blt pc 1) (am_lf pc 0 (.iconst 0) 1) (am_lf pc 1 (.istore_n 1) 1)) (cond (Nat.blt pc 3) (am_lf pc 2 (.iload_n 1) 1) (cond (Nat.blt pc 4) (am_lf pc 3 (.aload_n 0) 1) (am_lf pc 4 (.getfield 44) 3)))) (cond (Nat.blt pc 13) (cond (Nat.blt pc 10) (am_lf pc 7 (.getfield 192) 3) (am_lf pc 10 (.if_icmp .ge 66) 3)) (cond (Nat.blt pc 14) (am_lf pc 13 (.aload_n 0) 1) (cond (Nat.blt pc 17) (am_lf pc 14 (.getfield 10) 3) (am_lf pc 17 (.aload_n 0) 1))))) (cond (Nat.blt pc 29) (cond (Nat.blt pc 24) (cond (Nat.blt pc 21) (am_lf pc 18 (.getfield 44) 3) (am_lf pc 21 (.getfield 200) 3)) (cond (Nat.blt pc 25) (am_lf pc 24 (.iload_n 1) 1) (cond (Nat.blt pc 26) (am_lf pc 25 .iaload 1) (am_lf pc 26 (.invokevirtual 70) 3)))) (cond (Nat.blt pc 34) (cond (Nat.blt pc 32) (am_lf pc 29 (.ifCond .eq 5) 3) (cond (Nat.blt pc 33) (am_lf pc 32 (.iconst 0) 1) (am_lf pc 33 .ireturn 1))) (cond (Nat.blt pc 35) (am_lf pc 34 (.iconst 0) 1) (cond (Nat.blt pc 36) (am_lf pc 35 (.istore_n 2) 1) (am_lf pc 36 (.iload_n 2) 1)))))) (cond (Nat.blt pc 57) (cond (Nat.blt pc 48) (cond (Nat.blt pc 41) (cond (Nat.blt pc 38) (am_lf pc 37 (.iload_n 1) 1) (am_lf pc 38 (.if_icmp .ge 32) 3)) (cond (Nat.blt pc 42) (am_lf pc 41 (.aload_n 0) 1) (cond (Nat.blt pc 45) (am_lf pc 42 (.getfield 44) 3) (am_lf pc 45 (.getfield 200) 3)))) (cond (Nat.blt pc 50) (cond (Nat.blt pc 49) (am_lf pc 48 (.iload_n 2) 1) (am_lf pc 49 .iaload 1)) (cond (Nat.blt pc 51) (am_lf pc 50 (.aload_n 0) 1) (cond (Nat.blt pc 54) (am_lf pc 51 (.getfield 44) 3) (am_lf pc 54 (.getfield 200) 3))))) (cond (Nat.blt pc 64) (cond (Nat.blt pc 59) (cond (Nat.blt pc 58) (am_lf pc 57 (.iload_n 1) 1) (am_lf pc 58 .iaload 1)) (cond (Nat.blt pc 62) (am_lf pc 59 (.if_icmp .ne 5) 3) (cond (Nat.blt pc 63) (am_lf pc 62 (.iconst 0) 1) (am_lf pc 63 .ireturn 1)))) (cond (Nat.blt pc 73) (cond (Nat.blt pc 67) (am_lf pc 64 (.iinc 2 1) 3) (cond (Nat.blt pc 70) (am_lf pc 67 (.goto (-31)) 3) (am_lf pc 70 (.iinc 1 1) 3))) (cond (Nat.blt pc 76) (am_lf pc 73 (.goto (-71)) 3) (cond (Nat.blt pc 77) (am_lf pc 76 (.iconst 1) 1) (am_lf pc 77 .ireturn 1))))))))
def tk_X5_undo : Nat → Option (Instr × Nat) := am_guard 43 (fun pc => (cond (Nat.blt pc 21) (cond (Nat.blt pc 13) (cond (Nat.blt pc 4) (cond (Nat.blt pc 1) (am_lf pc 0 (.aload_n 0) 1) (am_lf pc 1 (.getfield 37) 3)) (cond (Nat.blt pc 7) (am_lf pc 4 (.getfield 204) 3) (cond (Nat.blt pc 10) (am_lf pc 7 (.ifCond .ne 13) 3) (am_lf pc 10 (.new 73) 3)))) (cond (Nat.blt pc 16) (cond (Nat.blt pc 14) (am_lf pc 13 .dup 1) (am_lf pc 14 (.ldc 207) 2)) (cond (Nat.blt pc 19) (am_lf pc 16 (.invokespecial 77) 3) (cond (Nat.blt pc 20) (am_lf pc 19 .athrow 1) (am_lf pc 20 (.aload_n 0) 1))))) (cond (Nat.blt pc 32) (cond (Nat.blt pc 25) (cond (Nat.blt pc 24) (am_lf pc 21 (.getfield 37) 3) (am_lf pc 24 (.aload_n 0) 1)) (cond (Nat.blt pc 28) (am_lf pc 25 (.getfield 10) 3) (cond (Nat.blt pc 31) (am_lf pc 28 (.invokevirtual 209) 3) (am_lf pc 31 (.aload_n 0) 1)))) (cond (Nat.blt pc 36) (cond (Nat.blt pc 35) (am_lf pc 32 (.invokevirtual 85) 3) (am_lf pc 35 (.aload_n 0) 1)) (cond (Nat.blt pc 39) (am_lf pc 36 (.getfield 37) 3) (cond (Nat.blt pc 42) (am_lf pc 39 (.getfield 204) 3) (am_lf pc 42 .ireturn 1)))))))
def tk_X0_restore : Nat → Option (Instr × Nat) := am_guard 42 (fun pc => (cond (Nat.blt pc 20) (cond (Nat.blt pc 10) (cond (Nat.blt pc 7) (cond (Nat.blt pc 1) (am_lf pc 0 (.aload_n 0) 1) (cond (Nat.blt pc 4) (am_lf pc 1 (.getfield 18) 3) (am_lf pc 4 (.ifCond .ne 4) 3))) (cond (Nat.blt pc 8) (am_lf pc 7 .return_ 1) (cond (Nat.blt pc 9) (am_lf pc 8 (.aload_n 0) 1) (am_lf pc 9 .dup 1)))) (cond (Nat.blt pc 15) (cond (Nat.blt pc 13) (am_lf pc 10 (.getfield 18) 3) (cond (Nat.blt pc 14) (am_lf pc 13 (.iconst 1) 1) (am_lf pc 14 .isub 1))) (cond (Nat.blt pc 18) (am_lf pc 15 (.putfield 18) 3) (cond (Nat.blt pc 19) (am_lf pc 18 (.aload_n 0) 1) (am_lf pc 19 (.aload_n 0) 1))))) (cond (Nat.blt pc 32) (cond (Nat.blt pc 27) (cond (Nat.blt pc 23) (am_lf pc 20 (.getfield 22) 3) (cond (Nat.blt pc 24) (am_lf pc 23 (.aload_n 0) 1) (am_lf pc 24 (.getfield 18) 3))) (cond (Nat.blt pc 28) (am_lf pc 27 .iadd 1) (cond (Nat.blt pc 31) (am_lf pc 28 (.invokevirtual 25) 3) (am_lf pc 31 (.astore_n 2) 1)))) (cond (Nat.blt pc 37) (cond (Nat.blt pc 33) (am_lf pc 32 (.aload_n 2) 1) (cond (Nat.blt pc 36) (am_lf pc 33 (.ifnull 8) 3) (am_lf pc 36 (.aload_n 1) 1))) (cond (Nat.blt pc 38) (am_lf pc 37 (.aload_n 2) 1) (cond (Nat.blt pc 41) (am_lf pc 38 (.invokevirtual 29) 3) (am_lf pc 41 .return_ 1)))))))
def tk_X5_reading : Nat → Option (Instr × Nat) := am_guard 58 (fun pc => (cond (Nat.blt pc 27) (cond (Nat.blt pc 16) (cond (Nat.blt pc 7) (cond (Nat.blt pc 1) (am_lf pc 0 (.iload_n 1) 1) (cond (Nat.blt pc 4) (am_lf pc 1 (.invokestatic 52) 3) (am_lf pc 4 (.ifCond .ne 13) 3))) (cond (Nat.blt pc 11) (cond (Nat.blt pc 10) (am_lf pc 7 (.new 59) 3) (am_lf pc 10 .dup 1)) (cond (Nat.blt pc 13) (am_lf pc 11 (.ldc 238) 2) (am_lf pc 13 (.invokespecial 63) 3)))) (cond (Nat.blt pc 19) (cond (Nat.blt pc 17) (am_lf pc 16 .athrow 1) (cond (Nat.blt pc 18) (am_lf pc 17 (.iload_n 2) 1) (am_lf pc 18 (.iconst 1) 1))) (cond (Nat.blt pc 23) (cond (Nat.blt pc 22) (am_lf pc 19 (.invokestatic 212) 3) (am_lf pc 22 (.aload_n 0) 1)) (cond (Nat.blt pc 26) (am_lf pc 23 (.getfield 21) 3) (am_lf pc 26 (.iload_n 1) 1))))) (cond (Nat.blt pc 41) (cond (Nat.blt pc 35) (cond (Nat.blt pc 30) (am_lf pc 27 (.invokevirtual 240) 3) (cond (Nat.blt pc 33) (am_lf pc 30 (.ifCond .ne 6) 3) (am_lf pc 33 (.ldc 231) 2))) (cond (Nat.blt pc 37) (cond (Nat.blt pc 36) (am_lf pc 35 .ireturn 1) (am_lf pc 36 (.iload_n 2) 1)) (cond (Nat.blt pc 40) (am_lf pc 37 (.ifCond .ne 13) 3) (am_lf pc 40 (.aload_n 0) 1)))) (cond (Nat.blt pc 50) (cond (Nat.blt pc 44) (am_lf pc 41 (.getfield 21) 3) (cond (Nat.blt pc 47) (am_lf pc 44 (.getfield 232) 3) (am_lf pc 47 (.goto 10) 3))) (cond (Nat.blt pc 54) (cond (Nat.blt pc 51) (am_lf pc 50 (.aload_n 0) 1) (am_lf pc 51 (.getfield 21) 3)) (cond (Nat.blt pc 57) (am_lf pc 54 (.getfield 235) 3) (am_lf pc 57 .ireturn 1)))))))
def tk_X5_setting : Nat → Option (Instr × Nat) := am_guard 14 (fun pc => (cond (Nat.blt pc 8) (cond (Nat.blt pc 4) (cond (Nat.blt pc 1) (am_lf pc 0 (.iload_n 1) 1) (am_lf pc 1 (.invokestatic 146) 3)) (cond (Nat.blt pc 5) (am_lf pc 4 (.aload_n 0) 1) (am_lf pc 5 (.getfield 10) 3))) (cond (Nat.blt pc 12) (cond (Nat.blt pc 11) (am_lf pc 8 (.getfield 153) 3) (am_lf pc 11 (.iload_n 1) 1)) (cond (Nat.blt pc 13) (am_lf pc 12 .iaload 1) (am_lf pc 13 .ireturn 1)))))
def tk_X5_whyNot : Nat → Option (Instr × Nat) := am_guard 14 (fun pc => (cond (Nat.blt pc 6) (cond (Nat.blt pc 2) (cond (Nat.blt pc 1) (am_lf pc 0 (.aload_n 0) 1) (am_lf pc 1 (.iload_n 1) 1)) (cond (Nat.blt pc 5) (am_lf pc 2 (.invokevirtual 88) 3) (am_lf pc 5 (.aload_n 0) 1))) (cond (Nat.blt pc 10) (cond (Nat.blt pc 9) (am_lf pc 6 (.getfield 21) 3) (am_lf pc 9 (.iload_n 1) 1)) (cond (Nat.blt pc 13) (am_lf pc 10 (.invokevirtual 97) 3) (am_lf pc 13 .ireturn 1)))))
def tk_X5_join : Nat → Option (Instr × Nat) := am_guard 79 (fun pc => (cond (Nat.blt pc 40) (cond (Nat.blt pc 18) (cond (Nat.blt pc 7) (cond (Nat.blt pc 2) (cond (Nat.blt pc 1) (am_lf pc 0 (.aload_n 0) 1) (am_lf pc 1 (.iload_n 1) 1)) (cond (Nat.blt pc 5) (am_lf pc 2 (.invokevirtual 88) 3) (cond (Nat.blt pc 6) (am_lf pc 5 (.aload_n 0) 1) (am_lf pc 6 (.iload_n 2) 1)))) (cond (Nat.blt pc 11) (cond (Nat.blt pc 10) (am_lf pc 7 (.invokevirtual 88) 3) (am_lf pc 10 (.iload_n 2) 1)) (cond (Nat.blt pc 12) (am_lf pc 11 (.iload_n 1) 1) (cond (Nat.blt pc 15) (am_lf pc 12 (.if_icmp .gt 14) 3) (am_lf pc 15 (.new 59) 3))))) (cond (Nat.blt pc 27) (cond (Nat.blt pc 22) (cond (Nat.blt pc 19) (am_lf pc 18 .dup 1) (am_lf pc 19 (.ldc_w 273) 3)) (cond (Nat.blt pc 25) (am_lf pc 22 (.invokespecial 63) 3) (cond (Nat.blt pc 26) (am_lf pc 25 .athrow 1) (am_lf pc 26 (.aload_n 0) 1)))) (cond (Nat.blt pc 32) (cond (Nat.blt pc 30) (am_lf pc 27 (.getfield 10) 3) (cond (Nat.blt pc 31) (am_lf pc 30 (.iload_n 1) 1) (am_lf pc 31 (.iload_n 2) 1))) (cond (Nat.blt pc 35) (am_lf pc 32 (.invokevirtual 275) 3) (cond (Nat.blt pc 38) (am_lf pc 35 (.ifCond .ne 6) 3) (am_lf pc 38 (.ldc 231) 2)))))) (cond (Nat.blt pc 55) (cond (Nat.blt pc 45) (cond (Nat.blt pc 42) (cond (Nat.blt pc 41) (am_lf pc 40 .ireturn 1) (am_lf pc 41 (.iconst 0) 1)) (cond (Nat.blt pc 43) (am_lf pc 42 (.istore_n 3) 1) (cond (Nat.blt pc 44) (am_lf pc 43 (.iload_n 1) 1) (am_lf pc 44 (.iconst 1) 1)))) (cond (Nat.blt pc 50) (cond (Nat.blt pc 46) (am_lf pc 45 .iadd 1) (cond (Nat.blt pc 48) (am_lf pc 46 (.istore 4) 2) (am_lf pc 48 (.iload 4) 2))) (cond (Nat.blt pc 51) (am_lf pc 50 (.iload_n 2) 1) (cond (Nat.blt pc 54) (am_lf pc 51 (.if_icmp .ge 26) 3) (am_lf pc 54 (.aload_n 0) 1))))) (cond (Nat.blt pc 65) (cond (Nat.blt pc 59) (cond (Nat.blt pc 58) (am_lf pc 55 (.getfield 21) 3) (am_lf pc 58 (.iload_n 1) 1)) (cond (Nat.blt pc 60) (am_lf pc 59 (.iload_n 2) 1) (cond (Nat.blt pc 62) (am_lf pc 60 (.iload 4) 2) (am_lf pc 62 (.invokevirtual 278) 3)))) (cond (Nat.blt pc 74) (cond (Nat.blt pc 68) (am_lf pc 65 (.ifCond .eq 6) 3) (cond (Nat.blt pc 71) (am_lf pc 68 (.iinc 3 1) 3) (am_lf pc 71 (.iinc 4 1) 3))) (cond (Nat.blt pc 77) (am_lf pc 74 (.goto (-26)) 3) (cond (Nat.blt pc 78) (am_lf pc 77 (.iload_n 3) 1) (am_lf pc 78 .ireturn 1))))))))
def tk_X1_isWithin : Nat → Option (Instr × Nat) := am_guard 37 (fun pc => (cond (Nat.blt pc 18) (cond (Nat.blt pc 7) (cond (Nat.blt pc 2) (cond (Nat.blt pc 1) (am_lf pc 0 (.aload_n 0) 1) (am_lf pc 1 (.iload_n 1) 1)) (cond (Nat.blt pc 3) (am_lf pc 2 (.iload_n 2) 1) (cond (Nat.blt pc 4) (am_lf pc 3 (.iload_n 3) 1) (am_lf pc 4 (.invokevirtual 56) 3)))) (cond (Nat.blt pc 11) (cond (Nat.blt pc 10) (am_lf pc 7 (.ifCond .eq 28) 3) (am_lf pc 10 (.aload_n 0) 1)) (cond (Nat.blt pc 14) (am_lf pc 11 (.getfield 15) 3) (cond (Nat.blt pc 15) (am_lf pc 14 (.aload_n 0) 1) (am_lf pc 15 (.getfield 9) 3))))) (cond (Nat.blt pc 27) (cond (Nat.blt pc 22) (cond (Nat.blt pc 21) (am_lf pc 18 (.getfield 49) 3) (am_lf pc 21 (.iconst 0) 1)) (cond (Nat.blt pc 23) (am_lf pc 22 .iaload 1) (cond (Nat.blt pc 24) (am_lf pc 23 (.aload_n 0) 1) (am_lf pc 24 (.getfield 19) 3)))) (cond (Nat.blt pc 32) (cond (Nat.blt pc 28) (am_lf pc 27 .imul 1) (cond (Nat.blt pc 31) (am_lf pc 28 (.if_icmp .gt 7) 3) (am_lf pc 31 (.iconst 1) 1))) (cond (Nat.blt pc 35) (am_lf pc 32 (.goto 4) 3) (cond (Nat.blt pc 36) (am_lf pc 35 (.iconst 0) 1) (am_lf pc 36 .ireturn 1)))))))
def tk_X6_thrown : Nat → Option (Instr × Nat) := am_guard 5 (fun pc => (cond (Nat.blt pc 1) (am_lf pc 0 (.aload_n 0) 1) (cond (Nat.blt pc 4) (am_lf pc 1 (.getfield 40) 3) (am_lf pc 4 .ireturn 1))))
def tk_X6_add : Nat → Option (Instr × Nat) := am_guard 55 (fun pc => (cond (Nat.blt pc 27) (cond (Nat.blt pc 14) (cond (Nat.blt pc 6) (cond (Nat.blt pc 2) (cond (Nat.blt pc 1) (am_lf pc 0 (.aload_n 0) 1) (am_lf pc 1 (.iconst 0) 1)) (cond (Nat.blt pc 5) (am_lf pc 2 (.putfield 40) 3) (am_lf pc 5 (.iload_n 1) 1))) (cond (Nat.blt pc 10) (cond (Nat.blt pc 7) (am_lf pc 6 (.iload_n 2) 1) (am_lf pc 7 (.invokestatic 138) 3)) (cond (Nat.blt pc 13) (am_lf pc 10 (.ifCond .ne 9) 3) (am_lf pc 13 (.aload_n 0) 1)))) (cond (Nat.blt pc 20) (cond (Nat.blt pc 18) (cond (Nat.blt pc 15) (am_lf pc 14 (.iconst 1) 1) (am_lf pc 15 (.invokevirtual 141) 3)) (cond (Nat.blt pc 19) (am_lf pc 18 .ireturn 1) (am_lf pc 19 (.aload_n 0) 1))) (cond (Nat.blt pc 24) (cond (Nat.blt pc 23) (am_lf pc 20 (.getfield 7) 3) (am_lf pc 23 (.iconst 0) 1)) (cond (Nat.blt pc 25) (am_lf pc 24 .iaload 1) (am_lf pc 25 (.bipush 60) 2))))) (cond (Nat.blt pc 43) (cond (Nat.blt pc 35) (cond (Nat.blt pc 31) (cond (Nat.blt pc 30) (am_lf pc 27 (.if_icmp .eq 11) 3) (am_lf pc 30 (.aload_n 0) 1)) (cond (Nat.blt pc 32) (am_lf pc 31 (.iload_n 1) 1) (am_lf pc 32 (.invokevirtual 144) 3))) (cond (Nat.blt pc 39) (cond (Nat.blt pc 38) (am_lf pc 35 (.ifCond .eq 9) 3) (am_lf pc 38 (.aload_n 0) 1)) (cond (Nat.blt pc 40) (am_lf pc 39 (.iconst 2) 1) (am_lf pc 40 (.invokevirtual 141) 3)))) (cond (Nat.blt pc 49) (cond (Nat.blt pc 45) (cond (Nat.blt pc 44) (am_lf pc 43 .ireturn 1) (am_lf pc 44 (.aload_n 0) 1)) (cond (Nat.blt pc 48) (am_lf pc 45 (.invokevirtual 147) 3) (am_lf pc 48 (.aload_n 0) 1))) (cond (Nat.blt pc 51) (cond (Nat.blt pc 50) (am_lf pc 49 (.iload_n 1) 1) (am_lf pc 50 (.iload_n 2) 1)) (cond (Nat.blt pc 54) (am_lf pc 51 (.invokevirtual 150) 3) (am_lf pc 54 .ireturn 1)))))))
def tk_X6_isEntry : Nat → Option (Instr × Nat) := am_guard 30 (fun pc => (cond (Nat.blt pc 15) (cond (Nat.blt pc 5) (cond (Nat.blt pc 1) (am_lf pc 0 (.iload_n 0) 1) (cond (Nat.blt pc 2) (am_lf pc 1 (.iconst 0) 1) (am_lf pc 2 (.sipush 9999) 3))) (cond (Nat.blt pc 11) (cond (Nat.blt pc 8) (am_lf pc 5 (.invokestatic 47) 3) (am_lf pc 8 (.ifCond .eq 20) 3)) (cond (Nat.blt pc 12) (am_lf pc 11 (.iload_n 1) 1) (am_lf pc 12 (.sipush (-999)) 3)))) (cond (Nat.blt pc 24) (cond (Nat.blt pc 18) (am_lf pc 15 (.sipush 999) 3) (cond (Nat.blt pc 21) (am_lf pc 18 (.invokestatic 47) 3) (am_lf pc 21 (.ifCond .eq 7) 3))) (cond (Nat.blt pc 28) (cond (Nat.blt pc 25) (am_lf pc 24 (.iconst 1) 1) (am_lf pc 25 (.goto 4) 3)) (cond (Nat.blt pc 29) (am_lf pc 28 (.iconst 0) 1) (am_lf pc 29 .ireturn 1))))))
def tk_X6_in : Nat → Option (Instr × Nat) := am_guard 16 (fun pc => (cond (Nat.blt pc 7) (cond (Nat.blt pc 2) (cond (Nat.blt pc 1) (am_lf pc 0 (.iload_n 0) 1) (am_lf pc 1 (.iload_n 1) 1)) (cond (Nat.blt pc 5) (am_lf pc 2 (.if_icmp .lt 12) 3) (cond (Nat.blt pc 6) (am_lf pc 5 (.iload_n 0) 1) (am_lf pc 6 (.iload_n 2) 1)))) (cond (Nat.blt pc 11) (cond (Nat.blt pc 10) (am_lf pc 7 (.if_icmp .gt 7) 3) (am_lf pc 10 (.iconst 1) 1)) (cond (Nat.blt pc 14) (am_lf pc 11 (.goto 4) 3) (cond (Nat.blt pc 15) (am_lf pc 14 (.iconst 0) 1) (am_lf pc 15 .ireturn 1))))))
def tk_X6_fails : Nat → Option (Instr × Nat) := am_guard 7 (fun pc => (cond (Nat.blt pc 2) (cond (Nat.blt pc 1) (am_lf pc 0 (.aload_n 0) 1) (am_lf pc 1 (.iload_n 1) 1)) (cond (Nat.blt pc 5) (am_lf pc 2 (.putfield 40) 3) (cond (Nat.blt pc 6) (am_lf pc 5 (.iconst 0) 1) (am_lf pc 6 .ireturn 1)))))
def tk_X6_hasTime : Nat → Option (Instr × Nat) := am_guard 41 (fun pc => (cond (Nat.blt pc 18) (cond (Nat.blt pc 6) (cond (Nat.blt pc 3) (cond (Nat.blt pc 1) (am_lf pc 0 (.iconst 0) 1) (cond (Nat.blt pc 2) (am_lf pc 1 (.istore_n 2) 1) (am_lf pc 2 (.iconst 0) 1))) (cond (Nat.blt pc 4) (am_lf pc 3 (.istore_n 3) 1) (cond (Nat.blt pc 5) (am_lf pc 4 (.iload_n 3) 1) (am_lf pc 5 (.aload_n 0) 1)))) (cond (Nat.blt pc 11) (cond (Nat.blt pc 9) (am_lf pc 6 (.getfield 7) 3) (cond (Nat.blt pc 10) (am_lf pc 9 (.iconst 0) 1) (am_lf pc 10 .iaload 1))) (cond (Nat.blt pc 14) (am_lf pc 11 (.if_icmp .ge 28) 3) (cond (Nat.blt pc 15) (am_lf pc 14 (.iload_n 2) 1) (am_lf pc 15 (.ifCond .ne 12) 3))))) (cond (Nat.blt pc 28) (cond (Nat.blt pc 23) (cond (Nat.blt pc 19) (am_lf pc 18 (.aload_n 0) 1) (cond (Nat.blt pc 20) (am_lf pc 19 (.iload_n 3) 1) (am_lf pc 20 (.invokevirtual 51) 3))) (cond (Nat.blt pc 24) (am_lf pc 23 (.iload_n 1) 1) (cond (Nat.blt pc 27) (am_lf pc 24 (.if_icmp .ne 7) 3) (am_lf pc 27 (.iconst 1) 1)))) (cond (Nat.blt pc 33) (cond (Nat.blt pc 31) (am_lf pc 28 (.goto 4) 3) (cond (Nat.blt pc 32) (am_lf pc 31 (.iconst 0) 1) (am_lf pc 32 (.istore_n 2) 1))) (cond (Nat.blt pc 39) (cond (Nat.blt pc 36) (am_lf pc 33 (.iinc 3 1) 3) (am_lf pc 36 (.goto (-32)) 3)) (cond (Nat.blt pc 40) (am_lf pc 39 (.iload_n 2) 1) (am_lf pc 40 .ireturn 1)))))))
def tk_X6_time : Nat → Option (Instr × Nat) := am_guard 10 (fun pc => (cond (Nat.blt pc 6) (cond (Nat.blt pc 1) (am_lf pc 0 (.aload_n 0) 1) (cond (Nat.blt pc 4) (am_lf pc 1 (.getfield 7) 3) (am_lf pc 4 (.bipush 7) 2))) (cond (Nat.blt pc 8) (cond (Nat.blt pc 7) (am_lf pc 6 (.iload_n 1) 1) (am_lf pc 7 .iadd 1)) (cond (Nat.blt pc 9) (am_lf pc 8 .iaload 1) (am_lf pc 9 .ireturn 1)))))
def tk_X6_save : Nat → Option (Instr × Nat) := am_guard 97 (fun pc => (cond (Nat.blt pc 50) (cond (Nat.blt pc 24) (cond (Nat.blt pc 11) (cond (Nat.blt pc 6) (cond (Nat.blt pc 1) (am_lf pc 0 (.aload_n 0) 1) (cond (Nat.blt pc 4) (am_lf pc 1 (.getfield 44) 3) (am_lf pc 4 (.bipush 6) 2))) (cond (Nat.blt pc 9) (am_lf pc 6 (.if_icmp .ne 44) 3) (cond (Nat.blt pc 10) (am_lf pc 9 (.iconst 0) 1) (am_lf pc 10 (.istore_n 1) 1)))) (cond (Nat.blt pc 18) (cond (Nat.blt pc 12) (am_lf pc 11 (.iload_n 1) 1) (cond (Nat.blt pc 15) (am_lf pc 12 (.sipush 1015) 3) (am_lf pc 15 (.if_icmp .ge 25) 3))) (cond (Nat.blt pc 22) (cond (Nat.blt pc 19) (am_lf pc 18 (.aload_n 0) 1) (am_lf pc 19 (.getfield 13) 3)) (cond (Nat.blt pc 23) (am_lf pc 22 (.iload_n 1) 1) (am_lf pc 23 (.aload_n 0) 1))))) (cond (Nat.blt pc 37) (cond (Nat.blt pc 31) (cond (Nat.blt pc 27) (am_lf pc 24 (.getfield 13) 3) (cond (Nat.blt pc 28) (am_lf pc 27 (.iload_n 1) 1) (am_lf pc 28 (.sipush 203) 3))) (cond (Nat.blt pc 33) (cond (Nat.blt pc 32) (am_lf pc 31 .iadd 1) (am_lf pc 32 .iaload 1)) (cond (Nat.blt pc 34) (am_lf pc 33 .iastore 1) (am_lf pc 34 (.iinc 1 1) 3)))) (cond (Nat.blt pc 42) (cond (Nat.blt pc 40) (am_lf pc 37 (.goto (-26)) 3) (cond (Nat.blt pc 41) (am_lf pc 40 (.aload_n 0) 1) (am_lf pc 41 .dup 1))) (cond (Nat.blt pc 46) (cond (Nat.blt pc 45) (am_lf pc 42 (.getfield 44) 3) (am_lf pc 45 (.iconst 1) 1)) (cond (Nat.blt pc 47) (am_lf pc 46 .isub 1) (am_lf pc 47 (.putfield 44) 3)))))) (cond (Nat.blt pc 73) (cond (Nat.blt pc 60) (cond (Nat.blt pc 53) (cond (Nat.blt pc 51) (am_lf pc 50 (.iconst 0) 1) (cond (Nat.blt pc 52) (am_lf pc 51 (.istore_n 1) 1) (am_lf pc 52 (.iload_n 1) 1))) (cond (Nat.blt pc 56) (am_lf pc 53 (.sipush 203) 3) (cond (Nat.blt pc 59) (am_lf pc 56 (.if_icmp .ge 30) 3) (am_lf pc 59 (.aload_n 0) 1)))) (cond (Nat.blt pc 67) (cond (Nat.blt pc 63) (am_lf pc 60 (.getfield 13) 3) (cond (Nat.blt pc 66) (am_lf pc 63 (.sipush 203) 3) (am_lf pc 66 (.aload_n 0) 1))) (cond (Nat.blt pc 71) (cond (Nat.blt pc 70) (am_lf pc 67 (.getfield 44) 3) (am_lf pc 70 .imul 1)) (cond (Nat.blt pc 72) (am_lf pc 71 (.iload_n 1) 1) (am_lf pc 72 .iadd 1))))) (cond (Nat.blt pc 86) (cond (Nat.blt pc 78) (cond (Nat.blt pc 74) (am_lf pc 73 (.aload_n 0) 1) (cond (Nat.blt pc 77) (am_lf pc 74 (.getfield 7) 3) (am_lf pc 77 (.iload_n 1) 1))) (cond (Nat.blt pc 80) (cond (Nat.blt pc 79) (am_lf pc 78 .iaload 1) (am_lf pc 79 .iastore 1)) (cond (Nat.blt pc 83) (am_lf pc 80 (.iinc 1 1) 3) (am_lf pc 83 (.goto (-31)) 3)))) (cond (Nat.blt pc 91) (cond (Nat.blt pc 87) (am_lf pc 86 (.aload_n 0) 1) (cond (Nat.blt pc 88) (am_lf pc 87 .dup 1) (am_lf pc 88 (.getfield 44) 3))) (cond (Nat.blt pc 93) (cond (Nat.blt pc 92) (am_lf pc 91 (.iconst 1) 1) (am_lf pc 92 .iadd 1)) (cond (Nat.blt pc 96) (am_lf pc 93 (.putfield 44) 3) (am_lf pc 96 .return_ 1))))))))
def tk_X6_adds : Nat → Option (Instr × Nat) := am_guard 130 (fun pc => (cond (Nat.blt pc 66) (cond (Nat.blt pc 36) (cond (Nat.blt pc 15) (cond (Nat.blt pc 7) (cond (Nat.blt pc 4) (cond (Nat.blt pc 1) (am_lf pc 0 (.aload_n 0) 1) (am_lf pc 1 (.getfield 7) 3)) (cond (Nat.blt pc 5) (am_lf pc 4 (.iconst 0) 1) (cond (Nat.blt pc 6) (am_lf pc 5 .iaload 1) (am_lf pc 6 (.istore_n 3) 1)))) (cond (Nat.blt pc 12) (cond (Nat.blt pc 8) (am_lf pc 7 (.iload_n 3) 1) (cond (Nat.blt pc 11) (am_lf pc 8 (.ifCond .le 80) 3) (am_lf pc 11 (.aload_n 0) 1))) (cond (Nat.blt pc 13) (am_lf pc 12 (.iload_n 3) 1) (cond (Nat.blt pc 14) (am_lf pc 13 (.iconst 1) 1) (am_lf pc 14 .isub 1))))) (cond (Nat.blt pc 26) (cond (Nat.blt pc 19) (cond (Nat.blt pc 18) (am_lf pc 15 (.invokevirtual 51) 3) (am_lf pc 18 (.iload_n 1) 1)) (cond (Nat.blt pc 22) (am_lf pc 19 (.if_icmp .le 69) 3) (cond (Nat.blt pc 23) (am_lf pc 22 (.aload_n 0) 1) (am_lf pc 23 (.getfield 7) 3)))) (cond (Nat.blt pc 30) (cond (Nat.blt pc 28) (am_lf pc 26 (.bipush 7) 2) (cond (Nat.blt pc 29) (am_lf pc 28 (.iload_n 3) 1) (am_lf pc 29 .iadd 1))) (cond (Nat.blt pc 31) (am_lf pc 30 (.aload_n 0) 1) (cond (Nat.blt pc 34) (am_lf pc 31 (.getfield 7) 3) (am_lf pc 34 (.bipush 7) 2)))))) (cond (Nat.blt pc 50) (cond (Nat.blt pc 41) (cond (Nat.blt pc 38) (cond (Nat.blt pc 37) (am_lf pc 36 (.iload_n 3) 1) (am_lf pc 37 .iadd 1)) (cond (Nat.blt pc 39) (am_lf pc 38 (.iconst 1) 1) (cond (Nat.blt pc 40) (am_lf pc 39 .isub 1) (am_lf pc 40 .iaload 1)))) (cond (Nat.blt pc 46) (cond (Nat.blt pc 42) (am_lf pc 41 .iastore 1) (cond (Nat.blt pc 43) (am_lf pc 42 (.aload_n 0) 1) (am_lf pc 43 (.getfield 7) 3))) (cond (Nat.blt pc 48) (am_lf pc 46 (.bipush 67) 2) (cond (Nat.blt pc 49) (am_lf pc 48 (.iload_n 3) 1) (am_lf pc 49 .iadd 1))))) (cond (Nat.blt pc 58) (cond (Nat.blt pc 54) (cond (Nat.blt pc 51) (am_lf pc 50 (.aload_n 0) 1) (am_lf pc 51 (.getfield 7) 3)) (cond (Nat.blt pc 56) (am_lf pc 54 (.bipush 67) 2) (cond (Nat.blt pc 57) (am_lf pc 56 (.iload_n 3) 1) (am_lf pc 57 .iadd 1)))) (cond (Nat.blt pc 61) (cond (Nat.blt pc 59) (am_lf pc 58 (.iconst 1) 1) (cond (Nat.blt pc 60) (am_lf pc 59 .isub 1) (am_lf pc 60 .iaload 1))) (cond (Nat.blt pc 62) (am_lf pc 61 .iastore 1) (cond (Nat.blt pc 63) (am_lf pc 62 (.aload_n 0) 1) (am_lf pc 63 (.getfield 7) 3))))))) (cond (Nat.blt pc 99) (cond (Nat.blt pc 81) (cond (Nat.blt pc 74) (cond (Nat.blt pc 69) (cond (Nat.blt pc 68) (am_lf pc 66 (.bipush 127) 2) (am_lf pc 68 (.iload_n 3) 1)) (cond (Nat.blt pc 70) (am_lf pc 69 .iadd 1) (cond (Nat.blt pc 71) (am_lf pc 70 (.aload_n 0) 1) (am_lf pc 71 (.getfield 7) 3)))) (cond (Nat.blt pc 78) (cond (Nat.blt pc 76) (am_lf pc 74 (.bipush 127) 2) (cond (Nat.blt pc 77) (am_lf pc 76 (.iload_n 3) 1) (am_lf pc 77 .iadd 1))) (cond (Nat.blt pc 79) (am_lf pc 78 (.iconst 1) 1) (cond (Nat.blt pc 80) (am_lf pc 79 .isub 1) (am_lf pc 80 .iaload 1))))) (cond (Nat.blt pc 92) (cond (Nat.blt pc 85) (cond (Nat.blt pc 82) (am_lf pc 81 .iastore 1) (am_lf pc 82 (.iinc 3 (-1)) 3)) (cond (Nat.blt pc 88) (am_lf pc 85 (.goto (-78)) 3) (cond (Nat.blt pc 89) (am_lf pc 88 (.aload_n 0) 1) (am_lf pc 89 (.getfield 7) 3)))) (cond (Nat.blt pc 96) (cond (Nat.blt pc 94) (am_lf pc 92 (.bipush 7) 2) (cond (Nat.blt pc 95) (am_lf pc 94 (.iload_n 3) 1) (am_lf pc 95 .iadd 1))) (cond (Nat.blt pc 97) (am_lf pc 96 (.iload_n 1) 1) (cond (Nat.blt pc 98) (am_lf pc 97 .iastore 1) (am_lf pc 98 (.aload_n 0) 1)))))) (cond (Nat.blt pc 116) (cond (Nat.blt pc 107) (cond (Nat.blt pc 104) (cond (Nat.blt pc 102) (am_lf pc 99 (.getfield 7) 3) (am_lf pc 102 (.bipush 67) 2)) (cond (Nat.blt pc 105) (am_lf pc 104 (.iload_n 3) 1) (cond (Nat.blt pc 106) (am_lf pc 105 .iadd 1) (am_lf pc 106 (.iload_n 2) 1)))) (cond (Nat.blt pc 112) (cond (Nat.blt pc 108) (am_lf pc 107 .iastore 1) (cond (Nat.blt pc 109) (am_lf pc 108 (.aload_n 0) 1) (am_lf pc 109 (.getfield 7) 3))) (cond (Nat.blt pc 114) (am_lf pc 112 (.bipush 127) 2) (cond (Nat.blt pc 115) (am_lf pc 114 (.iload_n 3) 1) (am_lf pc 115 .iadd 1))))) (cond (Nat.blt pc 124) (cond (Nat.blt pc 119) (cond (Nat.blt pc 117) (am_lf pc 116 (.iconst 1) 1) (cond (Nat.blt pc 118) (am_lf pc 117 .iastore 1) (am_lf pc 118 (.aload_n 0) 1))) (cond (Nat.blt pc 122) (am_lf pc 119 (.getfield 7) 3) (cond (Nat.blt pc 123) (am_lf pc 122 (.iconst 0) 1) (am_lf pc 123 .dup2 1)))) (cond (Nat.blt pc 127) (cond (Nat.blt pc 125) (am_lf pc 124 .iaload 1) (cond (Nat.blt pc 126) (am_lf pc 125 (.iconst 1) 1) (am_lf pc 126 .iadd 1))) (cond (Nat.blt pc 128) (am_lf pc 127 .iastore 1) (cond (Nat.blt pc 129) (am_lf pc 128 (.iload_n 3) 1) (am_lf pc 129 .ireturn 1)))))))))
def tk_X6_correct : Nat → Option (Instr × Nat) := am_guard 60 (fun pc => (cond (Nat.blt pc 33) (cond (Nat.blt pc 14) (cond (Nat.blt pc 6) (cond (Nat.blt pc 2) (cond (Nat.blt pc 1) (am_lf pc 0 (.aload_n 0) 1) (am_lf pc 1 (.iconst 0) 1)) (cond (Nat.blt pc 5) (am_lf pc 2 (.putfield 40) 3) (am_lf pc 5 (.aload_n 0) 1))) (cond (Nat.blt pc 10) (cond (Nat.blt pc 7) (am_lf pc 6 (.iload_n 1) 1) (am_lf pc 7 (.invokevirtual 153) 3)) (cond (Nat.blt pc 13) (am_lf pc 10 (.ifCond .ne 9) 3) (am_lf pc 13 (.aload_n 0) 1)))) (cond (Nat.blt pc 20) (cond (Nat.blt pc 18) (cond (Nat.blt pc 15) (am_lf pc 14 (.iconst 1) 1) (am_lf pc 15 (.invokevirtual 141) 3)) (cond (Nat.blt pc 19) (am_lf pc 18 .ireturn 1) (am_lf pc 19 (.iload_n 2) 1))) (cond (Nat.blt pc 26) (cond (Nat.blt pc 23) (am_lf pc 20 (.sipush (-999)) 3) (am_lf pc 23 (.sipush 999) 3)) (cond (Nat.blt pc 29) (am_lf pc 26 (.invokestatic 47) 3) (cond (Nat.blt pc 32) (am_lf pc 29 (.ifCond .ne 9) 3) (am_lf pc 32 (.aload_n 0) 1)))))) (cond (Nat.blt pc 48) (cond (Nat.blt pc 39) (cond (Nat.blt pc 37) (cond (Nat.blt pc 34) (am_lf pc 33 (.iconst 2) 1) (am_lf pc 34 (.invokevirtual 141) 3)) (cond (Nat.blt pc 38) (am_lf pc 37 .ireturn 1) (am_lf pc 38 (.aload_n 0) 1))) (cond (Nat.blt pc 43) (cond (Nat.blt pc 42) (am_lf pc 39 (.invokevirtual 147) 3) (am_lf pc 42 (.aload_n 0) 1)) (cond (Nat.blt pc 44) (am_lf pc 43 (.iload_n 1) 1) (cond (Nat.blt pc 47) (am_lf pc 44 (.invokevirtual 62) 3) (am_lf pc 47 (.istore_n 3) 1))))) (cond (Nat.blt pc 55) (cond (Nat.blt pc 52) (cond (Nat.blt pc 49) (am_lf pc 48 (.aload_n 0) 1) (am_lf pc 49 (.getfield 7) 3)) (cond (Nat.blt pc 54) (am_lf pc 52 (.bipush 67) 2) (am_lf pc 54 (.iload_n 1) 1))) (cond (Nat.blt pc 57) (cond (Nat.blt pc 56) (am_lf pc 55 .iadd 1) (am_lf pc 56 (.iload_n 2) 1)) (cond (Nat.blt pc 58) (am_lf pc 57 .iastore 1) (cond (Nat.blt pc 59) (am_lf pc 58 (.iload_n 3) 1) (am_lf pc 59 .ireturn 1))))))))
def tk_X6_isPoint : Nat → Option (Instr × Nat) := am_guard 14 (fun pc => (cond (Nat.blt pc 7) (cond (Nat.blt pc 2) (cond (Nat.blt pc 1) (am_lf pc 0 (.iload_n 1) 1) (am_lf pc 1 (.iconst 0) 1)) (cond (Nat.blt pc 3) (am_lf pc 2 (.aload_n 0) 1) (cond (Nat.blt pc 6) (am_lf pc 3 (.getfield 7) 3) (am_lf pc 6 (.iconst 0) 1)))) (cond (Nat.blt pc 9) (cond (Nat.blt pc 8) (am_lf pc 7 .iaload 1) (am_lf pc 8 (.iconst 1) 1)) (cond (Nat.blt pc 10) (am_lf pc 9 .isub 1) (cond (Nat.blt pc 13) (am_lf pc 10 (.invokestatic 47) 3) (am_lf pc 13 .ireturn 1))))))
def tk_X6_value : Nat → Option (Instr × Nat) := am_guard 10 (fun pc => (cond (Nat.blt pc 6) (cond (Nat.blt pc 1) (am_lf pc 0 (.aload_n 0) 1) (cond (Nat.blt pc 4) (am_lf pc 1 (.getfield 7) 3) (am_lf pc 4 (.bipush 67) 2))) (cond (Nat.blt pc 8) (cond (Nat.blt pc 7) (am_lf pc 6 (.iload_n 1) 1) (am_lf pc 7 .iadd 1)) (cond (Nat.blt pc 9) (am_lf pc 8 .iaload 1) (am_lf pc 9 .ireturn 1)))))
def tk_X6_drop : Nat → Option (Instr × Nat) := am_guard 42 (fun pc => (cond (Nat.blt pc 20) (cond (Nat.blt pc 10) (cond (Nat.blt pc 5) (cond (Nat.blt pc 1) (am_lf pc 0 (.aload_n 0) 1) (cond (Nat.blt pc 2) (am_lf pc 1 (.iconst 0) 1) (am_lf pc 2 (.putfield 40) 3))) (cond (Nat.blt pc 6) (am_lf pc 5 (.aload_n 0) 1) (cond (Nat.blt pc 7) (am_lf pc 6 (.iload_n 1) 1) (am_lf pc 7 (.invokevirtual 153) 3)))) (cond (Nat.blt pc 15) (cond (Nat.blt pc 13) (am_lf pc 10 (.ifCond .ne 9) 3) (cond (Nat.blt pc 14) (am_lf pc 13 (.aload_n 0) 1) (am_lf pc 14 (.iconst 1) 1))) (cond (Nat.blt pc 18) (am_lf pc 15 (.invokevirtual 141) 3) (cond (Nat.blt pc 19) (am_lf pc 18 .ireturn 1) (am_lf pc 19 (.aload_n 0) 1))))) (cond (Nat.blt pc 32) (cond (Nat.blt pc 27) (cond (Nat.blt pc 21) (am_lf pc 20 (.iload_n 1) 1) (cond (Nat.blt pc 24) (am_lf pc 21 (.invokevirtual 163) 3) (am_lf pc 24 (.ifCond .le 11) 3))) (cond (Nat.blt pc 28) (am_lf pc 27 (.aload_n 0) 1) (cond (Nat.blt pc 29) (am_lf pc 28 (.iconst 2) 1) (am_lf pc 29 (.invokevirtual 141) 3)))) (cond (Nat.blt pc 37) (cond (Nat.blt pc 35) (am_lf pc 32 (.goto 9) 3) (cond (Nat.blt pc 36) (am_lf pc 35 (.aload_n 0) 1) (am_lf pc 36 (.iload_n 1) 1))) (cond (Nat.blt pc 38) (am_lf pc 37 (.iconst 0) 1) (cond (Nat.blt pc 41) (am_lf pc 38 (.invokevirtual 166) 3) (am_lf pc 41 .ireturn 1)))))))
def tk_X6_against : Nat → Option (Instr × Nat) := am_guard 60 (fun pc => (cond (Nat.blt pc 30) (cond (Nat.blt pc 12) (cond (Nat.blt pc 8) (cond (Nat.blt pc 2) (cond (Nat.blt pc 1) (am_lf pc 0 (.aload_n 0) 1) (am_lf pc 1 (.iload_n 1) 1)) (cond (Nat.blt pc 5) (am_lf pc 2 (.invokevirtual 89) 3) (am_lf pc 5 (.ifCond .ne 5) 3))) (cond (Nat.blt pc 10) (cond (Nat.blt pc 9) (am_lf pc 8 (.iconst 1) 1) (am_lf pc 9 .ireturn 1)) (cond (Nat.blt pc 11) (am_lf pc 10 (.aload_n 0) 1) (am_lf pc 11 (.iload_n 1) 1)))) (cond (Nat.blt pc 22) (cond (Nat.blt pc 16) (cond (Nat.blt pc 15) (am_lf pc 12 (.invokevirtual 156) 3) (am_lf pc 15 (.aload_n 0) 1)) (cond (Nat.blt pc 19) (am_lf pc 16 (.getfield 83) 3) (am_lf pc 19 (.ifCond .lt 10) 3))) (cond (Nat.blt pc 26) (cond (Nat.blt pc 23) (am_lf pc 22 (.aload_n 0) 1) (am_lf pc 23 (.getfield 86) 3)) (cond (Nat.blt pc 29) (am_lf pc 26 (.ifCond .ge 7) 3) (am_lf pc 29 (.iconst 2) 1))))) (cond (Nat.blt pc 46) (cond (Nat.blt pc 38) (cond (Nat.blt pc 34) (cond (Nat.blt pc 33) (am_lf pc 30 (.goto 29) 3) (am_lf pc 33 (.aload_n 0) 1)) (cond (Nat.blt pc 35) (am_lf pc 34 (.aload_n 0) 1) (am_lf pc 35 (.getfield 83) 3))) (cond (Nat.blt pc 42) (cond (Nat.blt pc 39) (am_lf pc 38 (.aload_n 0) 1) (am_lf pc 39 (.getfield 86) 3)) (cond (Nat.blt pc 43) (am_lf pc 42 (.aload_n 0) 1) (am_lf pc 43 (.getfield 7) 3)))) (cond (Nat.blt pc 54) (cond (Nat.blt pc 48) (cond (Nat.blt pc 47) (am_lf pc 46 (.iconst 4) 1) (am_lf pc 47 .iaload 1)) (cond (Nat.blt pc 51) (am_lf pc 48 (.invokevirtual 118) 3) (am_lf pc 51 (.ifCond .eq 7) 3))) (cond (Nat.blt pc 58) (cond (Nat.blt pc 55) (am_lf pc 54 (.iconst 0) 1) (am_lf pc 55 (.goto 4) 3)) (cond (Nat.blt pc 59) (am_lf pc 58 (.iconst 3) 1) (am_lf pc 59 .ireturn 1)))))))
def tk_X6_isKept : Nat → Option (Instr × Nat) := am_guard 19 (fun pc => (cond (Nat.blt pc 9) (cond (Nat.blt pc 6) (cond (Nat.blt pc 1) (am_lf pc 0 (.aload_n 0) 1) (cond (Nat.blt pc 4) (am_lf pc 1 (.getfield 7) 3) (am_lf pc 4 (.bipush 127) 2))) (cond (Nat.blt pc 7) (am_lf pc 6 (.iload_n 1) 1) (cond (Nat.blt pc 8) (am_lf pc 7 .iadd 1) (am_lf pc 8 .iaload 1)))) (cond (Nat.blt pc 14) (cond (Nat.blt pc 10) (am_lf pc 9 (.iconst 1) 1) (cond (Nat.blt pc 13) (am_lf pc 10 (.if_icmp .ne 7) 3) (am_lf pc 13 (.iconst 1) 1))) (cond (Nat.blt pc 17) (am_lf pc 14 (.goto 4) 3) (cond (Nat.blt pc 18) (am_lf pc 17 (.iconst 0) 1) (am_lf pc 18 .ireturn 1))))))
def tk_X6_neighbors : Nat → Option (Instr × Nat) := am_guard 80 (fun pc => (cond (Nat.blt pc 40) (cond (Nat.blt pc 18) (cond (Nat.blt pc 9) (cond (Nat.blt pc 2) (cond (Nat.blt pc 1) (am_lf pc 0 (.aload_n 0) 1) (am_lf pc 1 (.aload_n 0) 1)) (cond (Nat.blt pc 3) (am_lf pc 2 (.iload_n 1) 1) (cond (Nat.blt pc 6) (am_lf pc 3 (.invokevirtual 51) 3) (am_lf pc 6 (.invokevirtual 95) 3)))) (cond (Nat.blt pc 11) (cond (Nat.blt pc 10) (am_lf pc 9 (.aload_n 0) 1) (am_lf pc 10 (.aload_n 0) 1)) (cond (Nat.blt pc 14) (am_lf pc 11 (.getfield 83) 3) (cond (Nat.blt pc 17) (am_lf pc 14 (.ifCond .lt 26) 3) (am_lf pc 17 (.aload_n 0) 1))))) (cond (Nat.blt pc 27) (cond (Nat.blt pc 22) (cond (Nat.blt pc 19) (am_lf pc 18 (.aload_n 0) 1) (am_lf pc 19 (.getfield 83) 3)) (cond (Nat.blt pc 25) (am_lf pc 22 (.invokevirtual 59) 3) (cond (Nat.blt pc 26) (am_lf pc 25 (.aload_n 0) 1) (am_lf pc 26 (.iload_n 1) 1)))) (cond (Nat.blt pc 33) (cond (Nat.blt pc 30) (am_lf pc 27 (.invokevirtual 59) 3) (am_lf pc 30 (.if_icmp .ne 10) 3)) (cond (Nat.blt pc 34) (am_lf pc 33 (.aload_n 0) 1) (cond (Nat.blt pc 37) (am_lf pc 34 (.getfield 83) 3) (am_lf pc 37 (.goto 4) 3)))))) (cond (Nat.blt pc 60) (cond (Nat.blt pc 49) (cond (Nat.blt pc 44) (cond (Nat.blt pc 41) (am_lf pc 40 (.iconst (-1)) 1) (am_lf pc 41 (.putfield 83) 3)) (cond (Nat.blt pc 45) (am_lf pc 44 (.aload_n 0) 1) (cond (Nat.blt pc 46) (am_lf pc 45 (.aload_n 0) 1) (am_lf pc 46 (.getfield 86) 3)))) (cond (Nat.blt pc 53) (cond (Nat.blt pc 52) (am_lf pc 49 (.ifCond .lt 26) 3) (am_lf pc 52 (.aload_n 0) 1)) (cond (Nat.blt pc 54) (am_lf pc 53 (.aload_n 0) 1) (cond (Nat.blt pc 57) (am_lf pc 54 (.getfield 86) 3) (am_lf pc 57 (.invokevirtual 59) 3))))) (cond (Nat.blt pc 69) (cond (Nat.blt pc 62) (cond (Nat.blt pc 61) (am_lf pc 60 (.aload_n 0) 1) (am_lf pc 61 (.iload_n 1) 1)) (cond (Nat.blt pc 65) (am_lf pc 62 (.invokevirtual 59) 3) (cond (Nat.blt pc 68) (am_lf pc 65 (.if_icmp .ne 10) 3) (am_lf pc 68 (.aload_n 0) 1)))) (cond (Nat.blt pc 75) (cond (Nat.blt pc 72) (am_lf pc 69 (.getfield 86) 3) (am_lf pc 72 (.goto 4) 3)) (cond (Nat.blt pc 76) (am_lf pc 75 (.iconst (-1)) 1) (cond (Nat.blt pc 79) (am_lf pc 76 (.putfield 86) 3) (am_lf pc 79 .return_ 1))))))))
def tk_X6_around : Nat → Option (Instr × Nat) := am_guard 94 (fun pc => (cond (Nat.blt pc 41) (cond (Nat.blt pc 18) (cond (Nat.blt pc 10) (cond (Nat.blt pc 5) (cond (Nat.blt pc 1) (am_lf pc 0 (.aload_n 0) 1) (cond (Nat.blt pc 2) (am_lf pc 1 (.iconst (-1)) 1) (am_lf pc 2 (.putfield 83) 3))) (cond (Nat.blt pc 6) (am_lf pc 5 (.aload_n 0) 1) (cond (Nat.blt pc 7) (am_lf pc 6 (.iconst (-1)) 1) (am_lf pc 7 (.putfield 86) 3)))) (cond (Nat.blt pc 13) (cond (Nat.blt pc 11) (am_lf pc 10 (.iconst 0) 1) (cond (Nat.blt pc 12) (am_lf pc 11 (.istore_n 2) 1) (am_lf pc 12 (.iload_n 2) 1))) (cond (Nat.blt pc 14) (am_lf pc 13 (.aload_n 0) 1) (cond (Nat.blt pc 17) (am_lf pc 14 (.getfield 7) 3) (am_lf pc 17 (.iconst 0) 1))))) (cond (Nat.blt pc 28) (cond (Nat.blt pc 23) (cond (Nat.blt pc 19) (am_lf pc 18 .iaload 1) (cond (Nat.blt pc 22) (am_lf pc 19 (.if_icmp .ge 74) 3) (am_lf pc 22 (.aload_n 0) 1))) (cond (Nat.blt pc 24) (am_lf pc 23 (.aload_n 0) 1) (cond (Nat.blt pc 25) (am_lf pc 24 (.iload_n 2) 1) (am_lf pc 25 (.invokevirtual 89) 3)))) (cond (Nat.blt pc 33) (cond (Nat.blt pc 31) (am_lf pc 28 (.ifCond .eq 16) 3) (cond (Nat.blt pc 32) (am_lf pc 31 (.aload_n 0) 1) (am_lf pc 32 (.iload_n 2) 1))) (cond (Nat.blt pc 37) (cond (Nat.blt pc 36) (am_lf pc 33 (.invokevirtual 51) 3) (am_lf pc 36 (.iload_n 1) 1)) (cond (Nat.blt pc 40) (am_lf pc 37 (.if_icmp .ge 7) 3) (am_lf pc 40 (.iload_n 2) 1)))))) (cond (Nat.blt pc 65) (cond (Nat.blt pc 53) (cond (Nat.blt pc 48) (cond (Nat.blt pc 44) (am_lf pc 41 (.goto 7) 3) (cond (Nat.blt pc 45) (am_lf pc 44 (.aload_n 0) 1) (am_lf pc 45 (.getfield 83) 3))) (cond (Nat.blt pc 51) (am_lf pc 48 (.putfield 83) 3) (cond (Nat.blt pc 52) (am_lf pc 51 (.aload_n 0) 1) (am_lf pc 52 (.aload_n 0) 1)))) (cond (Nat.blt pc 60) (cond (Nat.blt pc 54) (am_lf pc 53 (.iload_n 2) 1) (cond (Nat.blt pc 57) (am_lf pc 54 (.invokevirtual 89) 3) (am_lf pc 57 (.ifCond .eq 23) 3))) (cond (Nat.blt pc 61) (am_lf pc 60 (.aload_n 0) 1) (cond (Nat.blt pc 62) (am_lf pc 61 (.iload_n 2) 1) (am_lf pc 62 (.invokevirtual 51) 3))))) (cond (Nat.blt pc 77) (cond (Nat.blt pc 70) (cond (Nat.blt pc 66) (am_lf pc 65 (.iload_n 1) 1) (cond (Nat.blt pc 69) (am_lf pc 66 (.if_icmp .le 14) 3) (am_lf pc 69 (.aload_n 0) 1))) (cond (Nat.blt pc 73) (am_lf pc 70 (.getfield 86) 3) (cond (Nat.blt pc 76) (am_lf pc 73 (.ifCond .ge 7) 3) (am_lf pc 76 (.iload_n 2) 1)))) (cond (Nat.blt pc 84) (cond (Nat.blt pc 80) (am_lf pc 77 (.goto 7) 3) (cond (Nat.blt pc 81) (am_lf pc 80 (.aload_n 0) 1) (am_lf pc 81 (.getfield 86) 3))) (cond (Nat.blt pc 90) (cond (Nat.blt pc 87) (am_lf pc 84 (.putfield 86) 3) (am_lf pc 87 (.iinc 2 1) 3)) (cond (Nat.blt pc 93) (am_lf pc 90 (.goto (-78)) 3) (am_lf pc 93 .return_ 1))))))))
def tk_X6_stretchOf : Nat → Option (Instr × Nat) := am_guard 33 (fun pc => (cond (Nat.blt pc 12) (cond (Nat.blt pc 5) (cond (Nat.blt pc 2) (cond (Nat.blt pc 1) (am_lf pc 0 (.iconst (-1)) 1) (am_lf pc 1 (.istore_n 2) 1)) (cond (Nat.blt pc 3) (am_lf pc 2 (.iconst 0) 1) (cond (Nat.blt pc 4) (am_lf pc 3 (.istore_n 3) 1) (am_lf pc 4 (.iload_n 3) 1)))) (cond (Nat.blt pc 9) (cond (Nat.blt pc 6) (am_lf pc 5 (.iload_n 1) 1) (am_lf pc 6 (.if_icmp .gt 25) 3)) (cond (Nat.blt pc 10) (am_lf pc 9 (.iload_n 2) 1) (cond (Nat.blt pc 11) (am_lf pc 10 (.aload_n 0) 1) (am_lf pc 11 (.iload_n 3) 1))))) (cond (Nat.blt pc 23) (cond (Nat.blt pc 18) (cond (Nat.blt pc 15) (am_lf pc 12 (.invokevirtual 55) 3) (am_lf pc 15 (.ifCond .eq 7) 3)) (cond (Nat.blt pc 19) (am_lf pc 18 (.iconst 1) 1) (cond (Nat.blt pc 22) (am_lf pc 19 (.goto 4) 3) (am_lf pc 22 (.iconst 0) 1)))) (cond (Nat.blt pc 28) (cond (Nat.blt pc 24) (am_lf pc 23 .iadd 1) (cond (Nat.blt pc 25) (am_lf pc 24 (.istore_n 2) 1) (am_lf pc 25 (.iinc 3 1) 3))) (cond (Nat.blt pc 31) (am_lf pc 28 (.goto (-24)) 3) (cond (Nat.blt pc 32) (am_lf pc 31 (.iload_n 2) 1) (am_lf pc 32 .ireturn 1)))))))
def tk_X6_isFirst : Nat → Option (Instr × Nat) := am_guard 32 (fun pc => (cond (Nat.blt pc 16) (cond (Nat.blt pc 9) (cond (Nat.blt pc 4) (cond (Nat.blt pc 1) (am_lf pc 0 (.iload_n 1) 1) (am_lf pc 1 (.ifCond .eq 25) 3)) (cond (Nat.blt pc 5) (am_lf pc 4 (.aload_n 0) 1) (cond (Nat.blt pc 6) (am_lf pc 5 (.iload_n 1) 1) (am_lf pc 6 (.invokevirtual 51) 3)))) (cond (Nat.blt pc 11) (cond (Nat.blt pc 10) (am_lf pc 9 (.aload_n 0) 1) (am_lf pc 10 (.iload_n 1) 1)) (cond (Nat.blt pc 12) (am_lf pc 11 (.iconst 1) 1) (cond (Nat.blt pc 13) (am_lf pc 12 .isub 1) (am_lf pc 13 (.invokevirtual 51) 3))))) (cond (Nat.blt pc 23) (cond (Nat.blt pc 18) (cond (Nat.blt pc 17) (am_lf pc 16 .isub 1) (am_lf pc 17 (.aload_n 0) 1)) (cond (Nat.blt pc 21) (am_lf pc 18 (.getfield 7) 3) (cond (Nat.blt pc 22) (am_lf pc 21 (.iconst 5) 1) (am_lf pc 22 .iaload 1)))) (cond (Nat.blt pc 27) (cond (Nat.blt pc 26) (am_lf pc 23 (.if_icmp .le 7) 3) (am_lf pc 26 (.iconst 1) 1)) (cond (Nat.blt pc 30) (am_lf pc 27 (.goto 4) 3) (cond (Nat.blt pc 31) (am_lf pc 30 (.iconst 0) 1) (am_lf pc 31 .ireturn 1)))))))
def tk_X6_canJoin : Nat → Option (Instr × Nat) := am_guard 21 (fun pc => (cond (Nat.blt pc 9) (cond (Nat.blt pc 3) (cond (Nat.blt pc 1) (am_lf pc 0 (.aload_n 0) 1) (cond (Nat.blt pc 2) (am_lf pc 1 (.iload_n 1) 1) (am_lf pc 2 (.iload_n 2) 1))) (cond (Nat.blt pc 7) (cond (Nat.blt pc 4) (am_lf pc 3 (.iload_n 3) 1) (am_lf pc 4 (.invokevirtual 80) 3)) (cond (Nat.blt pc 8) (am_lf pc 7 (.iload_n 2) 1) (am_lf pc 8 (.iload_n 1) 1)))) (cond (Nat.blt pc 15) (cond (Nat.blt pc 11) (cond (Nat.blt pc 10) (am_lf pc 9 .isub 1) (am_lf pc 10 (.iconst 1) 1)) (cond (Nat.blt pc 12) (am_lf pc 11 .isub 1) (am_lf pc 12 (.if_icmp .ne 7) 3))) (cond (Nat.blt pc 19) (cond (Nat.blt pc 16) (am_lf pc 15 (.iconst 1) 1) (am_lf pc 16 (.goto 4) 3)) (cond (Nat.blt pc 20) (am_lf pc 19 (.iconst 0) 1) (am_lf pc 20 .ireturn 1))))))
def tk_X6_withinMany : Nat → Option (Instr × Nat) := am_guard 62 (fun pc => (cond (Nat.blt pc 28) (cond (Nat.blt pc 14) (cond (Nat.blt pc 5) (cond (Nat.blt pc 3) (cond (Nat.blt pc 1) (am_lf pc 0 (.iconst 0) 1) (am_lf pc 1 (.istore 4) 2)) (cond (Nat.blt pc 4) (am_lf pc 3 (.iload_n 1) 1) (am_lf pc 4 (.iconst 1) 1))) (cond (Nat.blt pc 8) (cond (Nat.blt pc 6) (am_lf pc 5 .iadd 1) (am_lf pc 6 (.istore 5) 2)) (cond (Nat.blt pc 10) (am_lf pc 8 (.iload 5) 2) (cond (Nat.blt pc 11) (am_lf pc 10 (.iload_n 2) 1) (am_lf pc 11 (.if_icmp .ge 48) 3))))) (cond (Nat.blt pc 19) (cond (Nat.blt pc 17) (cond (Nat.blt pc 16) (am_lf pc 14 (.iload 4) 2) (am_lf pc 16 (.aload_n 0) 1)) (cond (Nat.blt pc 18) (am_lf pc 17 (.iload_n 1) 1) (am_lf pc 18 (.iload_n 2) 1))) (cond (Nat.blt pc 22) (cond (Nat.blt pc 20) (am_lf pc 19 (.aload_n 0) 1) (am_lf pc 20 (.iload 5) 2)) (cond (Nat.blt pc 25) (am_lf pc 22 (.invokevirtual 51) 3) (cond (Nat.blt pc 26) (am_lf pc 25 (.aload_n 0) 1) (am_lf pc 26 (.iload 5) 2)))))) (cond (Nat.blt pc 45) (cond (Nat.blt pc 36) (cond (Nat.blt pc 34) (cond (Nat.blt pc 31) (am_lf pc 28 (.invokevirtual 62) 3) (am_lf pc 31 (.invokevirtual 76) 3)) (cond (Nat.blt pc 35) (am_lf pc 34 (.iload_n 3) 1) (am_lf pc 35 (.aload_n 0) 1))) (cond (Nat.blt pc 38) (cond (Nat.blt pc 37) (am_lf pc 36 (.iload_n 1) 1) (am_lf pc 37 (.iload_n 2) 1)) (cond (Nat.blt pc 41) (am_lf pc 38 (.invokevirtual 65) 3) (cond (Nat.blt pc 42) (am_lf pc 41 .imul 1) (am_lf pc 42 (.if_icmp .gt 7) 3))))) (cond (Nat.blt pc 51) (cond (Nat.blt pc 49) (cond (Nat.blt pc 46) (am_lf pc 45 (.iconst 1) 1) (am_lf pc 46 (.goto 4) 3)) (cond (Nat.blt pc 50) (am_lf pc 49 (.iconst 0) 1) (am_lf pc 50 .iadd 1))) (cond (Nat.blt pc 56) (cond (Nat.blt pc 53) (am_lf pc 51 (.istore 4) 2) (am_lf pc 53 (.iinc 5 1) 3)) (cond (Nat.blt pc 59) (am_lf pc 56 (.goto (-48)) 3) (cond (Nat.blt pc 61) (am_lf pc 59 (.iload 4) 2) (am_lf pc 61 .ireturn 1))))))))
def tk_X6_off : Nat → Option (Instr × Nat) := am_guard 21 (fun pc => (cond (Nat.blt pc 10) (cond (Nat.blt pc 4) (cond (Nat.blt pc 2) (am_lf pc 0 (.iload 4) 2) (cond (Nat.blt pc 3) (am_lf pc 2 (.aload_n 0) 1) (am_lf pc 3 (.iload_n 1) 1))) (cond (Nat.blt pc 8) (cond (Nat.blt pc 5) (am_lf pc 4 (.iload_n 2) 1) (am_lf pc 5 (.invokevirtual 65) 3)) (cond (Nat.blt pc 9) (am_lf pc 8 .imul 1) (am_lf pc 9 (.aload_n 0) 1)))) (cond (Nat.blt pc 13) (cond (Nat.blt pc 11) (am_lf pc 10 (.iload_n 1) 1) (cond (Nat.blt pc 12) (am_lf pc 11 (.iload_n 2) 1) (am_lf pc 12 (.iload_n 3) 1))) (cond (Nat.blt pc 17) (cond (Nat.blt pc 16) (am_lf pc 13 (.invokevirtual 69) 3) (am_lf pc 16 .isub 1)) (cond (Nat.blt pc 20) (am_lf pc 17 (.invokestatic 73) 3) (am_lf pc 20 .ireturn 1))))))
def tk_X6_below : Nat → Option (Instr × Nat) := am_guard 27 (fun pc => (cond (Nat.blt pc 15) (cond (Nat.blt pc 7) (cond (Nat.blt pc 4) (cond (Nat.blt pc 1) (am_lf pc 0 (.aload_n 0) 1) (am_lf pc 1 (.getfield 7) 3)) (cond (Nat.blt pc 6) (am_lf pc 4 (.bipush 6) 2) (am_lf pc 6 .iaload 1))) (cond (Nat.blt pc 11) (cond (Nat.blt pc 8) (am_lf pc 7 (.iconst 1) 1) (am_lf pc 8 (.if_icmp .ne 7) 3)) (cond (Nat.blt pc 12) (am_lf pc 11 (.iconst 1) 1) (am_lf pc 12 (.goto 14) 3)))) (cond (Nat.blt pc 21) (cond (Nat.blt pc 17) (cond (Nat.blt pc 16) (am_lf pc 15 (.aload_n 0) 1) (am_lf pc 16 (.iload_n 2) 1)) (cond (Nat.blt pc 20) (am_lf pc 17 (.invokevirtual 51) 3) (am_lf pc 20 (.aload_n 0) 1))) (cond (Nat.blt pc 25) (cond (Nat.blt pc 22) (am_lf pc 21 (.iload_n 1) 1) (am_lf pc 22 (.invokevirtual 51) 3)) (cond (Nat.blt pc 26) (am_lf pc 25 .isub 1) (am_lf pc 26 .ireturn 1))))))
def tk_X6_above : Nat → Option (Instr × Nat) := am_guard 57 (fun pc => (cond (Nat.blt pc 31) (cond (Nat.blt pc 16) (cond (Nat.blt pc 7) (cond (Nat.blt pc 4) (cond (Nat.blt pc 1) (am_lf pc 0 (.aload_n 0) 1) (am_lf pc 1 (.getfield 7) 3)) (cond (Nat.blt pc 6) (am_lf pc 4 (.bipush 6) 2) (am_lf pc 6 .iaload 1))) (cond (Nat.blt pc 11) (cond (Nat.blt pc 8) (am_lf pc 7 (.iconst 1) 1) (am_lf pc 8 (.if_icmp .ne 11) 3)) (cond (Nat.blt pc 12) (am_lf pc 11 (.aload_n 0) 1) (cond (Nat.blt pc 13) (am_lf pc 12 (.iload_n 1) 1) (am_lf pc 13 (.invokevirtual 62) 3))))) (cond (Nat.blt pc 24) (cond (Nat.blt pc 20) (cond (Nat.blt pc 19) (am_lf pc 16 (.goto 40) 3) (am_lf pc 19 (.aload_n 0) 1)) (cond (Nat.blt pc 21) (am_lf pc 20 (.iload_n 1) 1) (am_lf pc 21 (.invokevirtual 62) 3))) (cond (Nat.blt pc 26) (cond (Nat.blt pc 25) (am_lf pc 24 (.aload_n 0) 1) (am_lf pc 25 (.iload_n 2) 1)) (cond (Nat.blt pc 29) (am_lf pc 26 (.invokevirtual 51) 3) (cond (Nat.blt pc 30) (am_lf pc 29 (.aload_n 0) 1) (am_lf pc 30 (.iload_n 1) 1)))))) (cond (Nat.blt pc 46) (cond (Nat.blt pc 37) (cond (Nat.blt pc 35) (cond (Nat.blt pc 34) (am_lf pc 31 (.invokevirtual 51) 3) (am_lf pc 34 .isub 1)) (cond (Nat.blt pc 36) (am_lf pc 35 .imul 1) (am_lf pc 36 (.aload_n 0) 1))) (cond (Nat.blt pc 41) (cond (Nat.blt pc 38) (am_lf pc 37 (.iload_n 2) 1) (am_lf pc 38 (.invokevirtual 62) 3)) (cond (Nat.blt pc 42) (am_lf pc 41 (.aload_n 0) 1) (cond (Nat.blt pc 43) (am_lf pc 42 (.iload_n 1) 1) (am_lf pc 43 (.invokevirtual 62) 3))))) (cond (Nat.blt pc 50) (cond (Nat.blt pc 48) (cond (Nat.blt pc 47) (am_lf pc 46 .isub 1) (am_lf pc 47 (.iload_n 3) 1)) (cond (Nat.blt pc 49) (am_lf pc 48 (.aload_n 0) 1) (am_lf pc 49 (.iload_n 1) 1))) (cond (Nat.blt pc 54) (cond (Nat.blt pc 53) (am_lf pc 50 (.invokevirtual 51) 3) (am_lf pc 53 .isub 1)) (cond (Nat.blt pc 55) (am_lf pc 54 .imul 1) (cond (Nat.blt pc 56) (am_lf pc 55 .iadd 1) (am_lf pc 56 .ireturn 1))))))))
def tk_X6_size : Nat → Option (Instr × Nat) := am_guard 11 (fun pc => (cond (Nat.blt pc 5) (cond (Nat.blt pc 1) (am_lf pc 0 (.iload_n 0) 1) (cond (Nat.blt pc 4) (am_lf pc 1 (.ifCond .ge 8) 3) (am_lf pc 4 (.iload_n 0) 1))) (cond (Nat.blt pc 9) (cond (Nat.blt pc 6) (am_lf pc 5 .ineg 1) (am_lf pc 6 (.goto 4) 3)) (cond (Nat.blt pc 10) (am_lf pc 9 (.iload_n 0) 1) (am_lf pc 10 .ireturn 1)))))
def tk_X6_keeps : Nat → Option (Instr × Nat) := am_guard 19 (fun pc => (cond (Nat.blt pc 11) (cond (Nat.blt pc 5) (cond (Nat.blt pc 1) (am_lf pc 0 (.aload_n 0) 1) (cond (Nat.blt pc 4) (am_lf pc 1 (.invokevirtual 147) 3) (am_lf pc 4 (.aload_n 0) 1))) (cond (Nat.blt pc 8) (am_lf pc 5 (.getfield 7) 3) (cond (Nat.blt pc 10) (am_lf pc 8 (.bipush 127) 2) (am_lf pc 10 (.iload_n 1) 1)))) (cond (Nat.blt pc 14) (cond (Nat.blt pc 12) (am_lf pc 11 .iadd 1) (cond (Nat.blt pc 13) (am_lf pc 12 (.iload_n 2) 1) (am_lf pc 13 .iastore 1))) (cond (Nat.blt pc 15) (am_lf pc 14 (.aload_n 0) 1) (cond (Nat.blt pc 18) (am_lf pc 15 (.invokevirtual 159) 3) (am_lf pc 18 .ireturn 1))))))
def tk_X6_keptMany : Nat → Option (Instr × Nat) := am_guard 34 (fun pc => (cond (Nat.blt pc 15) (cond (Nat.blt pc 5) (cond (Nat.blt pc 2) (cond (Nat.blt pc 1) (am_lf pc 0 (.iconst 0) 1) (am_lf pc 1 (.istore_n 1) 1)) (cond (Nat.blt pc 3) (am_lf pc 2 (.iconst 0) 1) (cond (Nat.blt pc 4) (am_lf pc 3 (.istore_n 2) 1) (am_lf pc 4 (.iload_n 2) 1)))) (cond (Nat.blt pc 10) (cond (Nat.blt pc 6) (am_lf pc 5 (.aload_n 0) 1) (cond (Nat.blt pc 9) (am_lf pc 6 (.getfield 7) 3) (am_lf pc 9 (.iconst 0) 1))) (cond (Nat.blt pc 11) (am_lf pc 10 .iaload 1) (cond (Nat.blt pc 14) (am_lf pc 11 (.if_icmp .ge 21) 3) (am_lf pc 14 (.iload_n 1) 1))))) (cond (Nat.blt pc 24) (cond (Nat.blt pc 21) (cond (Nat.blt pc 16) (am_lf pc 15 (.aload_n 0) 1) (cond (Nat.blt pc 19) (am_lf pc 16 (.getfield 7) 3) (am_lf pc 19 (.bipush 127) 2))) (cond (Nat.blt pc 22) (am_lf pc 21 (.iload_n 2) 1) (cond (Nat.blt pc 23) (am_lf pc 22 .iadd 1) (am_lf pc 23 .iaload 1)))) (cond (Nat.blt pc 29) (cond (Nat.blt pc 25) (am_lf pc 24 .iadd 1) (cond (Nat.blt pc 26) (am_lf pc 25 (.istore_n 1) 1) (am_lf pc 26 (.iinc 2 1) 3))) (cond (Nat.blt pc 32) (am_lf pc 29 (.goto (-25)) 3) (cond (Nat.blt pc 33) (am_lf pc 32 (.iload_n 1) 1) (am_lf pc 33 .ireturn 1)))))))
def tk_X6_keep : Nat → Option (Instr × Nat) := am_guard 42 (fun pc => (cond (Nat.blt pc 20) (cond (Nat.blt pc 10) (cond (Nat.blt pc 5) (cond (Nat.blt pc 1) (am_lf pc 0 (.aload_n 0) 1) (cond (Nat.blt pc 2) (am_lf pc 1 (.iconst 0) 1) (am_lf pc 2 (.putfield 40) 3))) (cond (Nat.blt pc 6) (am_lf pc 5 (.aload_n 0) 1) (cond (Nat.blt pc 7) (am_lf pc 6 (.iload_n 1) 1) (am_lf pc 7 (.invokevirtual 153) 3)))) (cond (Nat.blt pc 15) (cond (Nat.blt pc 13) (am_lf pc 10 (.ifCond .ne 9) 3) (cond (Nat.blt pc 14) (am_lf pc 13 (.aload_n 0) 1) (am_lf pc 14 (.iconst 1) 1))) (cond (Nat.blt pc 18) (am_lf pc 15 (.invokevirtual 141) 3) (cond (Nat.blt pc 19) (am_lf pc 18 .ireturn 1) (am_lf pc 19 (.aload_n 0) 1))))) (cond (Nat.blt pc 32) (cond (Nat.blt pc 27) (cond (Nat.blt pc 21) (am_lf pc 20 (.iload_n 1) 1) (cond (Nat.blt pc 24) (am_lf pc 21 (.invokevirtual 89) 3) (am_lf pc 24 (.ifCond .eq 11) 3))) (cond (Nat.blt pc 28) (am_lf pc 27 (.aload_n 0) 1) (cond (Nat.blt pc 29) (am_lf pc 28 (.iconst 2) 1) (am_lf pc 29 (.invokevirtual 141) 3)))) (cond (Nat.blt pc 37) (cond (Nat.blt pc 35) (am_lf pc 32 (.goto 9) 3) (cond (Nat.blt pc 36) (am_lf pc 35 (.aload_n 0) 1) (am_lf pc 36 (.iload_n 1) 1))) (cond (Nat.blt pc 38) (am_lf pc 37 (.iconst 1) 1) (cond (Nat.blt pc 41) (am_lf pc 38 (.invokevirtual 166) 3) (am_lf pc 41 .ireturn 1)))))))
def tk_X6_mend : Nat → Option (Instr × Nat) := am_guard 125 (fun pc => (cond (Nat.blt pc 62) (cond (Nat.blt pc 29) (cond (Nat.blt pc 15) (cond (Nat.blt pc 6) (cond (Nat.blt pc 2) (cond (Nat.blt pc 1) (am_lf pc 0 (.aload_n 0) 1) (am_lf pc 1 (.iconst 0) 1)) (cond (Nat.blt pc 5) (am_lf pc 2 (.putfield 40) 3) (am_lf pc 5 (.aload_n 0) 1))) (cond (Nat.blt pc 10) (cond (Nat.blt pc 9) (am_lf pc 6 (.invokevirtual 147) 3) (am_lf pc 9 (.aload_n 0) 1)) (cond (Nat.blt pc 13) (am_lf pc 10 (.invokevirtual 159) 3) (cond (Nat.blt pc 14) (am_lf pc 13 (.istore_n 1) 1) (am_lf pc 14 (.iconst 1) 1))))) (cond (Nat.blt pc 22) (cond (Nat.blt pc 17) (cond (Nat.blt pc 16) (am_lf pc 15 (.istore_n 2) 1) (am_lf pc 16 (.iload_n 2) 1)) (cond (Nat.blt pc 20) (am_lf pc 17 (.ifCond .eq 101) 3) (cond (Nat.blt pc 21) (am_lf pc 20 (.iconst 0) 1) (am_lf pc 21 (.istore_n 2) 1)))) (cond (Nat.blt pc 24) (cond (Nat.blt pc 23) (am_lf pc 22 (.iconst 0) 1) (am_lf pc 23 (.istore_n 3) 1)) (cond (Nat.blt pc 25) (am_lf pc 24 (.iload_n 3) 1) (cond (Nat.blt pc 26) (am_lf pc 25 (.aload_n 0) 1) (am_lf pc 26 (.getfield 7) 3)))))) (cond (Nat.blt pc 44) (cond (Nat.blt pc 35) (cond (Nat.blt pc 31) (cond (Nat.blt pc 30) (am_lf pc 29 (.iconst 0) 1) (am_lf pc 30 .iaload 1)) (cond (Nat.blt pc 34) (am_lf pc 31 (.if_icmp .ge 48) 3) (am_lf pc 34 (.aload_n 0) 1))) (cond (Nat.blt pc 39) (cond (Nat.blt pc 38) (am_lf pc 35 (.getfield 25) 3) (am_lf pc 38 (.iload_n 3) 1)) (cond (Nat.blt pc 40) (am_lf pc 39 (.aload_n 0) 1) (cond (Nat.blt pc 41) (am_lf pc 40 (.iload_n 3) 1) (am_lf pc 41 (.invokevirtual 169) 3))))) (cond (Nat.blt pc 53) (cond (Nat.blt pc 48) (cond (Nat.blt pc 47) (am_lf pc 44 (.ifCond .eq 7) 3) (am_lf pc 47 (.iconst 1) 1)) (cond (Nat.blt pc 51) (am_lf pc 48 (.goto 4) 3) (cond (Nat.blt pc 52) (am_lf pc 51 (.iconst 0) 1) (am_lf pc 52 .iastore 1)))) (cond (Nat.blt pc 57) (cond (Nat.blt pc 54) (am_lf pc 53 (.iload_n 2) 1) (am_lf pc 54 (.ifCond .ne 13) 3)) (cond (Nat.blt pc 58) (am_lf pc 57 (.aload_n 0) 1) (cond (Nat.blt pc 61) (am_lf pc 58 (.getfield 25) 3) (am_lf pc 61 (.iload_n 3) 1))))))) (cond (Nat.blt pc 95) (cond (Nat.blt pc 79) (cond (Nat.blt pc 68) (cond (Nat.blt pc 64) (cond (Nat.blt pc 63) (am_lf pc 62 .iaload 1) (am_lf pc 63 (.iconst 1) 1)) (cond (Nat.blt pc 67) (am_lf pc 64 (.if_icmp .ne 7) 3) (am_lf pc 67 (.iconst 1) 1))) (cond (Nat.blt pc 72) (cond (Nat.blt pc 71) (am_lf pc 68 (.goto 4) 3) (am_lf pc 71 (.iconst 0) 1)) (cond (Nat.blt pc 73) (am_lf pc 72 (.istore_n 2) 1) (cond (Nat.blt pc 76) (am_lf pc 73 (.iinc 3 1) 3) (am_lf pc 76 (.goto (-52)) 3))))) (cond (Nat.blt pc 86) (cond (Nat.blt pc 81) (cond (Nat.blt pc 80) (am_lf pc 79 (.iconst 0) 1) (am_lf pc 80 (.istore_n 3) 1)) (cond (Nat.blt pc 82) (am_lf pc 81 (.iload_n 3) 1) (cond (Nat.blt pc 83) (am_lf pc 82 (.aload_n 0) 1) (am_lf pc 83 (.getfield 7) 3)))) (cond (Nat.blt pc 88) (cond (Nat.blt pc 87) (am_lf pc 86 (.iconst 0) 1) (am_lf pc 87 .iaload 1)) (cond (Nat.blt pc 91) (am_lf pc 88 (.if_icmp .ge 27) 3) (cond (Nat.blt pc 92) (am_lf pc 91 (.aload_n 0) 1) (am_lf pc 92 (.getfield 7) 3)))))) (cond (Nat.blt pc 107) (cond (Nat.blt pc 100) (cond (Nat.blt pc 98) (cond (Nat.blt pc 97) (am_lf pc 95 (.bipush 127) 2) (am_lf pc 97 (.iload_n 3) 1)) (cond (Nat.blt pc 99) (am_lf pc 98 .iadd 1) (am_lf pc 99 .dup2 1))) (cond (Nat.blt pc 102) (cond (Nat.blt pc 101) (am_lf pc 100 .iaload 1) (am_lf pc 101 (.aload_n 0) 1)) (cond (Nat.blt pc 105) (am_lf pc 102 (.getfield 25) 3) (cond (Nat.blt pc 106) (am_lf pc 105 (.iload_n 3) 1) (am_lf pc 106 .iaload 1))))) (cond (Nat.blt pc 118) (cond (Nat.blt pc 109) (cond (Nat.blt pc 108) (am_lf pc 107 .ior 1) (am_lf pc 108 .iastore 1)) (cond (Nat.blt pc 112) (am_lf pc 109 (.iinc 3 1) 3) (cond (Nat.blt pc 115) (am_lf pc 112 (.goto (-31)) 3) (am_lf pc 115 (.goto (-99)) 3)))) (cond (Nat.blt pc 122) (cond (Nat.blt pc 119) (am_lf pc 118 (.aload_n 0) 1) (am_lf pc 119 (.invokevirtual 159) 3)) (cond (Nat.blt pc 123) (am_lf pc 122 (.iload_n 1) 1) (cond (Nat.blt pc 124) (am_lf pc 123 .isub 1) (am_lf pc 124 .ireturn 1)))))))))
def tk_X6_isBroken : Nat → Option (Instr × Nat) := am_guard 31 (fun pc => (cond (Nat.blt pc 14) (cond (Nat.blt pc 8) (cond (Nat.blt pc 2) (cond (Nat.blt pc 1) (am_lf pc 0 (.aload_n 0) 1) (am_lf pc 1 (.iload_n 1) 1)) (cond (Nat.blt pc 5) (am_lf pc 2 (.invokevirtual 89) 3) (am_lf pc 5 (.ifCond .ne 24) 3))) (cond (Nat.blt pc 10) (cond (Nat.blt pc 9) (am_lf pc 8 (.aload_n 0) 1) (am_lf pc 9 (.aload_n 0) 1)) (cond (Nat.blt pc 11) (am_lf pc 10 (.iload_n 1) 1) (am_lf pc 11 (.invokevirtual 51) 3)))) (cond (Nat.blt pc 22) (cond (Nat.blt pc 16) (cond (Nat.blt pc 15) (am_lf pc 14 (.aload_n 0) 1) (am_lf pc 15 (.iload_n 1) 1)) (cond (Nat.blt pc 19) (am_lf pc 16 (.invokevirtual 62) 3) (am_lf pc 19 (.invokevirtual 111) 3))) (cond (Nat.blt pc 26) (cond (Nat.blt pc 25) (am_lf pc 22 (.ifCond .ne 7) 3) (am_lf pc 25 (.iconst 1) 1)) (cond (Nat.blt pc 29) (am_lf pc 26 (.goto 4) 3) (cond (Nat.blt pc 30) (am_lf pc 29 (.iconst 0) 1) (am_lf pc 30 .ireturn 1)))))))
def tk_X6_isTrue : Nat → Option (Instr × Nat) := am_guard 32 (fun pc => (cond (Nat.blt pc 16) (cond (Nat.blt pc 7) (cond (Nat.blt pc 2) (cond (Nat.blt pc 1) (am_lf pc 0 (.aload_n 0) 1) (am_lf pc 1 (.iload_n 1) 1)) (cond (Nat.blt pc 3) (am_lf pc 2 (.iload_n 2) 1) (cond (Nat.blt pc 6) (am_lf pc 3 (.invokevirtual 108) 3) (am_lf pc 6 (.istore_n 3) 1)))) (cond (Nat.blt pc 11) (cond (Nat.blt pc 8) (am_lf pc 7 (.iload_n 3) 1) (am_lf pc 8 (.ifCond .lt 22) 3)) (cond (Nat.blt pc 12) (am_lf pc 11 (.iload_n 3) 1) (cond (Nat.blt pc 13) (am_lf pc 12 (.aload_n 0) 1) (am_lf pc 13 (.getfield 7) 3))))) (cond (Nat.blt pc 23) (cond (Nat.blt pc 18) (cond (Nat.blt pc 17) (am_lf pc 16 (.iconst 4) 1) (am_lf pc 17 .iaload 1)) (cond (Nat.blt pc 19) (am_lf pc 18 (.aload_n 0) 1) (cond (Nat.blt pc 22) (am_lf pc 19 (.getfield 99) 3) (am_lf pc 22 .imul 1)))) (cond (Nat.blt pc 27) (cond (Nat.blt pc 26) (am_lf pc 23 (.if_icmp .gt 7) 3) (am_lf pc 26 (.iconst 1) 1)) (cond (Nat.blt pc 30) (am_lf pc 27 (.goto 4) 3) (cond (Nat.blt pc 31) (am_lf pc 30 (.iconst 0) 1) (am_lf pc 31 .ireturn 1)))))))
def tk_X6_farFrom : Nat → Option (Instr × Nat) := am_guard 31 (fun pc => (cond (Nat.blt pc 16) (cond (Nat.blt pc 6) (cond (Nat.blt pc 2) (cond (Nat.blt pc 1) (am_lf pc 0 (.aload_n 0) 1) (am_lf pc 1 (.iload_n 1) 1)) (cond (Nat.blt pc 5) (am_lf pc 2 (.invokevirtual 105) 3) (am_lf pc 5 (.aload_n 0) 1))) (cond (Nat.blt pc 12) (cond (Nat.blt pc 9) (am_lf pc 6 (.getfield 99) 3) (am_lf pc 9 (.ifCond .ne 7) 3)) (cond (Nat.blt pc 13) (am_lf pc 12 (.iconst (-1)) 1) (am_lf pc 13 (.goto 17) 3)))) (cond (Nat.blt pc 22) (cond (Nat.blt pc 18) (cond (Nat.blt pc 17) (am_lf pc 16 (.iload_n 2) 1) (am_lf pc 17 (.aload_n 0) 1)) (cond (Nat.blt pc 21) (am_lf pc 18 (.getfield 99) 3) (am_lf pc 21 .imul 1))) (cond (Nat.blt pc 26) (cond (Nat.blt pc 23) (am_lf pc 22 (.aload_n 0) 1) (am_lf pc 23 (.getfield 102) 3)) (cond (Nat.blt pc 27) (am_lf pc 26 .isub 1) (cond (Nat.blt pc 30) (am_lf pc 27 (.invokestatic 73) 3) (am_lf pc 30 .ireturn 1)))))))
def tk_X6_read : Nat → Option (Instr × Nat) := am_guard 104 (fun pc => (cond (Nat.blt pc 51) (cond (Nat.blt pc 21) (cond (Nat.blt pc 8) (cond (Nat.blt pc 5) (cond (Nat.blt pc 1) (am_lf pc 0 (.aload_n 0) 1) (cond (Nat.blt pc 2) (am_lf pc 1 (.iload_n 1) 1) (am_lf pc 2 (.invokevirtual 92) 3))) (cond (Nat.blt pc 6) (am_lf pc 5 (.istore_n 2) 1) (cond (Nat.blt pc 7) (am_lf pc 6 (.aload_n 0) 1) (am_lf pc 7 (.iload_n 1) 1)))) (cond (Nat.blt pc 13) (cond (Nat.blt pc 11) (am_lf pc 8 (.invokevirtual 95) 3) (cond (Nat.blt pc 12) (am_lf pc 11 (.aload_n 0) 1) (am_lf pc 12 (.iconst 0) 1))) (cond (Nat.blt pc 17) (cond (Nat.blt pc 16) (am_lf pc 13 (.putfield 99) 3) (am_lf pc 16 (.iload_n 2) 1)) (cond (Nat.blt pc 20) (am_lf pc 17 (.ifCond .lt 20) 3) (am_lf pc 20 (.aload_n 0) 1))))) (cond (Nat.blt pc 34) (cond (Nat.blt pc 26) (cond (Nat.blt pc 22) (am_lf pc 21 (.aload_n 0) 1) (cond (Nat.blt pc 23) (am_lf pc 22 (.iload_n 2) 1) (am_lf pc 23 (.invokevirtual 62) 3))) (cond (Nat.blt pc 30) (cond (Nat.blt pc 29) (am_lf pc 26 (.putfield 102) 3) (am_lf pc 29 (.aload_n 0) 1)) (cond (Nat.blt pc 31) (am_lf pc 30 (.iconst 1) 1) (am_lf pc 31 (.putfield 99) 3)))) (cond (Nat.blt pc 41) (cond (Nat.blt pc 37) (am_lf pc 34 (.goto 69) 3) (cond (Nat.blt pc 38) (am_lf pc 37 (.aload_n 0) 1) (am_lf pc 38 (.getfield 83) 3))) (cond (Nat.blt pc 45) (cond (Nat.blt pc 44) (am_lf pc 41 (.ifCond .lt 62) 3) (am_lf pc 44 (.aload_n 0) 1)) (cond (Nat.blt pc 48) (am_lf pc 45 (.getfield 86) 3) (am_lf pc 48 (.ifCond .lt 55) 3)))))) (cond (Nat.blt pc 76) (cond (Nat.blt pc 61) (cond (Nat.blt pc 56) (cond (Nat.blt pc 52) (am_lf pc 51 (.aload_n 0) 1) (cond (Nat.blt pc 53) (am_lf pc 52 (.aload_n 0) 1) (am_lf pc 53 (.getfield 83) 3))) (cond (Nat.blt pc 59) (am_lf pc 56 (.invokevirtual 59) 3) (cond (Nat.blt pc 60) (am_lf pc 59 (.aload_n 0) 1) (am_lf pc 60 (.aload_n 0) 1)))) (cond (Nat.blt pc 70) (cond (Nat.blt pc 64) (am_lf pc 61 (.getfield 86) 3) (cond (Nat.blt pc 67) (am_lf pc 64 (.invokevirtual 59) 3) (am_lf pc 67 (.if_icmp .ne 36) 3))) (cond (Nat.blt pc 72) (cond (Nat.blt pc 71) (am_lf pc 70 (.aload_n 0) 1) (am_lf pc 71 (.aload_n 0) 1)) (cond (Nat.blt pc 73) (am_lf pc 72 (.aload_n 0) 1) (am_lf pc 73 (.getfield 83) 3))))) (cond (Nat.blt pc 89) (cond (Nat.blt pc 81) (cond (Nat.blt pc 77) (am_lf pc 76 (.aload_n 0) 1) (cond (Nat.blt pc 80) (am_lf pc 77 (.getfield 86) 3) (am_lf pc 80 (.iload_n 1) 1))) (cond (Nat.blt pc 87) (cond (Nat.blt pc 84) (am_lf pc 81 (.invokevirtual 69) 3) (am_lf pc 84 (.putfield 102) 3)) (cond (Nat.blt pc 88) (am_lf pc 87 (.aload_n 0) 1) (am_lf pc 88 (.aload_n 0) 1)))) (cond (Nat.blt pc 94) (cond (Nat.blt pc 90) (am_lf pc 89 (.aload_n 0) 1) (cond (Nat.blt pc 93) (am_lf pc 90 (.getfield 83) 3) (am_lf pc 93 (.aload_n 0) 1))) (cond (Nat.blt pc 100) (cond (Nat.blt pc 97) (am_lf pc 94 (.getfield 86) 3) (am_lf pc 97 (.invokevirtual 65) 3)) (cond (Nat.blt pc 103) (am_lf pc 100 (.putfield 99) 3) (am_lf pc 103 .return_ 1))))))))
def tk_X6_keptAt : Nat → Option (Instr × Nat) := am_guard 39 (fun pc => (cond (Nat.blt pc 17) (cond (Nat.blt pc 7) (cond (Nat.blt pc 2) (cond (Nat.blt pc 1) (am_lf pc 0 (.iconst 0) 1) (am_lf pc 1 (.istore_n 2) 1)) (cond (Nat.blt pc 3) (am_lf pc 2 (.iload_n 2) 1) (cond (Nat.blt pc 4) (am_lf pc 3 (.aload_n 0) 1) (am_lf pc 4 (.getfield 7) 3)))) (cond (Nat.blt pc 12) (cond (Nat.blt pc 8) (am_lf pc 7 (.iconst 0) 1) (cond (Nat.blt pc 9) (am_lf pc 8 .iaload 1) (am_lf pc 9 (.if_icmp .ge 28) 3))) (cond (Nat.blt pc 13) (am_lf pc 12 (.aload_n 0) 1) (cond (Nat.blt pc 14) (am_lf pc 13 (.iload_n 2) 1) (am_lf pc 14 (.invokevirtual 51) 3))))) (cond (Nat.blt pc 29) (cond (Nat.blt pc 22) (cond (Nat.blt pc 18) (am_lf pc 17 (.iload_n 1) 1) (cond (Nat.blt pc 21) (am_lf pc 18 (.if_icmp .ne 13) 3) (am_lf pc 21 (.aload_n 0) 1))) (cond (Nat.blt pc 23) (am_lf pc 22 (.iload_n 2) 1) (cond (Nat.blt pc 26) (am_lf pc 23 (.invokevirtual 89) 3) (am_lf pc 26 (.ifCond .eq 5) 3)))) (cond (Nat.blt pc 34) (cond (Nat.blt pc 30) (am_lf pc 29 (.iload_n 2) 1) (cond (Nat.blt pc 31) (am_lf pc 30 .ireturn 1) (am_lf pc 31 (.iinc 2 1) 3))) (cond (Nat.blt pc 37) (am_lf pc 34 (.goto (-32)) 3) (cond (Nat.blt pc 38) (am_lf pc 37 (.iconst (-1)) 1) (am_lf pc 38 .ireturn 1)))))))
def tk_X6_thin : Nat → Option (Instr × Nat) := am_guard 75 (fun pc => (cond (Nat.blt pc 38) (cond (Nat.blt pc 20) (cond (Nat.blt pc 8) (cond (Nat.blt pc 5) (cond (Nat.blt pc 1) (am_lf pc 0 (.aload_n 0) 1) (cond (Nat.blt pc 2) (am_lf pc 1 (.iconst 0) 1) (am_lf pc 2 (.putfield 40) 3))) (cond (Nat.blt pc 6) (am_lf pc 5 (.iload_n 1) 1) (cond (Nat.blt pc 7) (am_lf pc 6 (.iconst 0) 1) (am_lf pc 7 (.iconst 2) 1)))) (cond (Nat.blt pc 15) (cond (Nat.blt pc 11) (am_lf pc 8 (.invokestatic 47) 3) (cond (Nat.blt pc 14) (am_lf pc 11 (.ifCond .ne 9) 3) (am_lf pc 14 (.aload_n 0) 1))) (cond (Nat.blt pc 16) (am_lf pc 15 (.iconst 1) 1) (cond (Nat.blt pc 19) (am_lf pc 16 (.invokevirtual 141) 3) (am_lf pc 19 .ireturn 1))))) (cond (Nat.blt pc 30) (cond (Nat.blt pc 25) (cond (Nat.blt pc 21) (am_lf pc 20 (.aload_n 0) 1) (cond (Nat.blt pc 24) (am_lf pc 21 (.invokevirtual 147) 3) (am_lf pc 24 (.aload_n 0) 1))) (cond (Nat.blt pc 26) (am_lf pc 25 (.iload_n 1) 1) (cond (Nat.blt pc 29) (am_lf pc 26 (.invokevirtual 172) 3) (am_lf pc 29 (.istore_n 2) 1)))) (cond (Nat.blt pc 33) (cond (Nat.blt pc 31) (am_lf pc 30 (.iconst 0) 1) (cond (Nat.blt pc 32) (am_lf pc 31 (.istore_n 3) 1) (am_lf pc 32 (.iload_n 3) 1))) (cond (Nat.blt pc 34) (am_lf pc 33 (.aload_n 0) 1) (cond (Nat.blt pc 37) (am_lf pc 34 (.getfield 7) 3) (am_lf pc 37 (.iconst 0) 1)))))) (cond (Nat.blt pc 57) (cond (Nat.blt pc 49) (cond (Nat.blt pc 43) (cond (Nat.blt pc 39) (am_lf pc 38 .iaload 1) (cond (Nat.blt pc 42) (am_lf pc 39 (.if_icmp .ge 24) 3) (am_lf pc 42 (.aload_n 0) 1))) (cond (Nat.blt pc 46) (am_lf pc 43 (.getfield 7) 3) (cond (Nat.blt pc 48) (am_lf pc 46 (.bipush 127) 2) (am_lf pc 48 (.iload_n 3) 1)))) (cond (Nat.blt pc 54) (cond (Nat.blt pc 50) (am_lf pc 49 .iadd 1) (cond (Nat.blt pc 51) (am_lf pc 50 (.aload_n 0) 1) (am_lf pc 51 (.getfield 25) 3))) (cond (Nat.blt pc 55) (am_lf pc 54 (.iload_n 3) 1) (cond (Nat.blt pc 56) (am_lf pc 55 .iaload 1) (am_lf pc 56 .iastore 1))))) (cond (Nat.blt pc 69) (cond (Nat.blt pc 64) (cond (Nat.blt pc 60) (am_lf pc 57 (.iinc 3 1) 3) (cond (Nat.blt pc 63) (am_lf pc 60 (.goto (-28)) 3) (am_lf pc 63 (.aload_n 0) 1))) (cond (Nat.blt pc 67) (am_lf pc 64 (.getfield 7) 3) (cond (Nat.blt pc 68) (am_lf pc 67 (.iconst 2) 1) (am_lf pc 68 .dup2 1)))) (cond (Nat.blt pc 72) (cond (Nat.blt pc 70) (am_lf pc 69 .iaload 1) (cond (Nat.blt pc 71) (am_lf pc 70 (.iconst 1) 1) (am_lf pc 71 .iadd 1))) (cond (Nat.blt pc 73) (am_lf pc 72 .iastore 1) (cond (Nat.blt pc 74) (am_lf pc 73 (.iload_n 2) 1) (am_lf pc 74 .ireturn 1))))))))
def tk_X6_choose : Nat → Option (Instr × Nat) := am_guard 160 (fun pc => (cond (Nat.blt pc 77) (cond (Nat.blt pc 39) (cond (Nat.blt pc 21) (cond (Nat.blt pc 9) (cond (Nat.blt pc 3) (cond (Nat.blt pc 1) (am_lf pc 0 (.iconst 0) 1) (cond (Nat.blt pc 2) (am_lf pc 1 (.istore_n 2) 1) (am_lf pc 2 (.iload_n 2) 1))) (cond (Nat.blt pc 5) (am_lf pc 3 (.bipush 60) 2) (cond (Nat.blt pc 8) (am_lf pc 5 (.if_icmp .ge 16) 3) (am_lf pc 8 (.aload_n 0) 1)))) (cond (Nat.blt pc 14) (cond (Nat.blt pc 12) (am_lf pc 9 (.getfield 25) 3) (cond (Nat.blt pc 13) (am_lf pc 12 (.iload_n 2) 1) (am_lf pc 13 (.iconst 0) 1))) (cond (Nat.blt pc 15) (am_lf pc 14 .iastore 1) (cond (Nat.blt pc 18) (am_lf pc 15 (.iinc 2 1) 3) (am_lf pc 18 (.goto (-16)) 3))))) (cond (Nat.blt pc 29) (cond (Nat.blt pc 24) (cond (Nat.blt pc 22) (am_lf pc 21 (.iconst 0) 1) (cond (Nat.blt pc 23) (am_lf pc 22 (.istore_n 2) 1) (am_lf pc 23 (.iload_n 2) 1))) (cond (Nat.blt pc 25) (am_lf pc 24 (.aload_n 0) 1) (cond (Nat.blt pc 28) (am_lf pc 25 (.getfield 7) 3) (am_lf pc 28 (.iconst 0) 1)))) (cond (Nat.blt pc 34) (cond (Nat.blt pc 30) (am_lf pc 29 .iaload 1) (cond (Nat.blt pc 33) (am_lf pc 30 (.if_icmp .ge 96) 3) (am_lf pc 33 (.aload_n 0) 1))) (cond (Nat.blt pc 35) (am_lf pc 34 (.iload_n 2) 1) (cond (Nat.blt pc 38) (am_lf pc 35 (.invokevirtual 124) 3) (am_lf pc 38 (.istore_n 3) 1)))))) (cond (Nat.blt pc 59) (cond (Nat.blt pc 47) (cond (Nat.blt pc 44) (cond (Nat.blt pc 40) (am_lf pc 39 (.aload_n 0) 1) (cond (Nat.blt pc 43) (am_lf pc 40 (.getfield 25) 3) (am_lf pc 43 (.iload_n 2) 1))) (cond (Nat.blt pc 45) (am_lf pc 44 (.iconst 1) 1) (cond (Nat.blt pc 46) (am_lf pc 45 .iastore 1) (am_lf pc 46 (.iload_n 1) 1)))) (cond (Nat.blt pc 52) (cond (Nat.blt pc 50) (am_lf pc 47 (.ifCond .ne 12) 3) (cond (Nat.blt pc 51) (am_lf pc 50 (.aload_n 0) 1) (am_lf pc 51 (.iload_n 2) 1))) (cond (Nat.blt pc 53) (am_lf pc 52 (.iload_n 3) 1) (cond (Nat.blt pc 56) (am_lf pc 53 (.invokevirtual 127) 3) (am_lf pc 56 (.goto 63) 3))))) (cond (Nat.blt pc 67) (cond (Nat.blt pc 64) (cond (Nat.blt pc 60) (am_lf pc 59 (.iload_n 1) 1) (cond (Nat.blt pc 61) (am_lf pc 60 (.iconst 1) 1) (am_lf pc 61 (.if_icmp .ne 12) 3))) (cond (Nat.blt pc 65) (am_lf pc 64 (.aload_n 0) 1) (cond (Nat.blt pc 66) (am_lf pc 65 (.iload_n 2) 1) (am_lf pc 66 (.iload_n 3) 1)))) (cond (Nat.blt pc 74) (cond (Nat.blt pc 70) (am_lf pc 67 (.invokevirtual 131) 3) (cond (Nat.blt pc 73) (am_lf pc 70 (.goto 49) 3) (am_lf pc 73 (.aload_n 0) 1))) (cond (Nat.blt pc 75) (am_lf pc 74 (.iload_n 2) 1) (cond (Nat.blt pc 76) (am_lf pc 75 (.iload_n 3) 1) (am_lf pc 76 (.aload_n 0) 1))))))) (cond (Nat.blt pc 120) (cond (Nat.blt pc 99) (cond (Nat.blt pc 88) (cond (Nat.blt pc 82) (cond (Nat.blt pc 80) (am_lf pc 77 (.getfield 7) 3) (cond (Nat.blt pc 81) (am_lf pc 80 (.iconst 4) 1) (am_lf pc 81 .iaload 1))) (cond (Nat.blt pc 85) (am_lf pc 82 (.invokevirtual 134) 3) (cond (Nat.blt pc 86) (am_lf pc 85 (.iload_n 2) 1) (am_lf pc 86 (.istore 4) 2)))) (cond (Nat.blt pc 94) (cond (Nat.blt pc 90) (am_lf pc 88 (.iload 4) 2) (cond (Nat.blt pc 91) (am_lf pc 90 (.iload_n 3) 1) (am_lf pc 91 (.if_icmp .ge 28) 3))) (cond (Nat.blt pc 95) (am_lf pc 94 (.aload_n 0) 1) (cond (Nat.blt pc 98) (am_lf pc 95 (.getfield 25) 3) (am_lf pc 98 (.aload_n 0) 1))))) (cond (Nat.blt pc 108) (cond (Nat.blt pc 105) (cond (Nat.blt pc 102) (am_lf pc 99 (.getfield 31) 3) (cond (Nat.blt pc 104) (am_lf pc 102 (.iload 4) 2) (am_lf pc 104 .iaload 1))) (cond (Nat.blt pc 106) (am_lf pc 105 (.iconst 1) 1) (cond (Nat.blt pc 107) (am_lf pc 106 .iastore 1) (am_lf pc 107 (.aload_n 0) 1)))) (cond (Nat.blt pc 114) (cond (Nat.blt pc 111) (am_lf pc 108 (.getfield 31) 3) (cond (Nat.blt pc 113) (am_lf pc 111 (.iload 4) 2) (am_lf pc 113 .iaload 1))) (cond (Nat.blt pc 116) (am_lf pc 114 (.istore 4) 2) (cond (Nat.blt pc 119) (am_lf pc 116 (.goto (-28)) 3) (am_lf pc 119 (.iload_n 3) 1)))))) (cond (Nat.blt pc 138) (cond (Nat.blt pc 128) (cond (Nat.blt pc 123) (cond (Nat.blt pc 121) (am_lf pc 120 (.iconst 1) 1) (cond (Nat.blt pc 122) (am_lf pc 121 .iadd 1) (am_lf pc 122 (.istore_n 2) 1))) (cond (Nat.blt pc 126) (am_lf pc 123 (.goto (-100)) 3) (cond (Nat.blt pc 127) (am_lf pc 126 (.iconst 0) 1) (am_lf pc 127 (.istore_n 3) 1)))) (cond (Nat.blt pc 133) (cond (Nat.blt pc 129) (am_lf pc 128 (.iconst 0) 1) (cond (Nat.blt pc 131) (am_lf pc 129 (.istore 4) 2) (am_lf pc 131 (.iload 4) 2))) (cond (Nat.blt pc 134) (am_lf pc 133 (.aload_n 0) 1) (cond (Nat.blt pc 137) (am_lf pc 134 (.getfield 7) 3) (am_lf pc 137 (.iconst 0) 1))))) (cond (Nat.blt pc 149) (cond (Nat.blt pc 143) (cond (Nat.blt pc 139) (am_lf pc 138 .iaload 1) (cond (Nat.blt pc 142) (am_lf pc 139 (.if_icmp .ge 19) 3) (am_lf pc 142 (.iload_n 3) 1))) (cond (Nat.blt pc 144) (am_lf pc 143 (.aload_n 0) 1) (cond (Nat.blt pc 147) (am_lf pc 144 (.getfield 25) 3) (am_lf pc 147 (.iload 4) 2)))) (cond (Nat.blt pc 152) (cond (Nat.blt pc 150) (am_lf pc 149 .iaload 1) (cond (Nat.blt pc 151) (am_lf pc 150 .iadd 1) (am_lf pc 151 (.istore_n 3) 1))) (cond (Nat.blt pc 158) (cond (Nat.blt pc 155) (am_lf pc 152 (.iinc 4 1) 3) (am_lf pc 155 (.goto (-24)) 3)) (cond (Nat.blt pc 159) (am_lf pc 158 (.iload_n 3) 1) (am_lf pc 159 .ireturn 1)))))))))
def tk_X6_lastWith : Nat → Option (Instr × Nat) := am_guard 32 (fun pc => (cond (Nat.blt pc 14) (cond (Nat.blt pc 5) (cond (Nat.blt pc 2) (cond (Nat.blt pc 1) (am_lf pc 0 (.iload_n 1) 1) (am_lf pc 1 (.istore_n 2) 1)) (cond (Nat.blt pc 3) (am_lf pc 2 (.iload_n 2) 1) (cond (Nat.blt pc 4) (am_lf pc 3 (.iconst 1) 1) (am_lf pc 4 .iadd 1)))) (cond (Nat.blt pc 9) (cond (Nat.blt pc 6) (am_lf pc 5 (.aload_n 0) 1) (am_lf pc 6 (.getfield 7) 3)) (cond (Nat.blt pc 10) (am_lf pc 9 (.iconst 0) 1) (cond (Nat.blt pc 11) (am_lf pc 10 .iaload 1) (am_lf pc 11 (.if_icmp .ge 19) 3))))) (cond (Nat.blt pc 21) (cond (Nat.blt pc 16) (cond (Nat.blt pc 15) (am_lf pc 14 (.aload_n 0) 1) (am_lf pc 15 (.iload_n 2) 1)) (cond (Nat.blt pc 17) (am_lf pc 16 (.iconst 1) 1) (cond (Nat.blt pc 18) (am_lf pc 17 .iadd 1) (am_lf pc 18 (.invokevirtual 55) 3)))) (cond (Nat.blt pc 27) (cond (Nat.blt pc 24) (am_lf pc 21 (.ifCond .ne 9) 3) (am_lf pc 24 (.iinc 2 1) 3)) (cond (Nat.blt pc 30) (am_lf pc 27 (.goto (-25)) 3) (cond (Nat.blt pc 31) (am_lf pc 30 (.iload_n 2) 1) (am_lf pc 31 .ireturn 1)))))))
def tk_X6_far : Nat → Option (Instr × Nat) := am_guard 47 (fun pc => (cond (Nat.blt pc 19) (cond (Nat.blt pc 8) (cond (Nat.blt pc 3) (cond (Nat.blt pc 1) (am_lf pc 0 (.iload_n 1) 1) (cond (Nat.blt pc 2) (am_lf pc 1 (.istore_n 3) 1) (am_lf pc 2 (.iload_n 3) 1))) (cond (Nat.blt pc 4) (am_lf pc 3 (.iload_n 2) 1) (cond (Nat.blt pc 7) (am_lf pc 4 (.if_icmp .ge 42) 3) (am_lf pc 7 (.iload_n 2) 1)))) (cond (Nat.blt pc 12) (cond (Nat.blt pc 10) (am_lf pc 8 (.istore 4) 2) (cond (Nat.blt pc 11) (am_lf pc 10 (.aload_n 0) 1) (am_lf pc 11 (.iload_n 3) 1))) (cond (Nat.blt pc 15) (cond (Nat.blt pc 14) (am_lf pc 12 (.iload 4) 2) (am_lf pc 14 (.aload_n 0) 1)) (cond (Nat.blt pc 18) (am_lf pc 15 (.getfield 7) 3) (am_lf pc 18 (.iconst 4) 1))))) (cond (Nat.blt pc 36) (cond (Nat.blt pc 26) (cond (Nat.blt pc 20) (am_lf pc 19 .iaload 1) (cond (Nat.blt pc 23) (am_lf pc 20 (.invokevirtual 118) 3) (am_lf pc 23 (.ifCond .ne 9) 3))) (cond (Nat.blt pc 32) (cond (Nat.blt pc 29) (am_lf pc 26 (.iinc 4 (-1)) 3) (am_lf pc 29 (.goto (-19)) 3)) (cond (Nat.blt pc 33) (am_lf pc 32 (.aload_n 0) 1) (am_lf pc 33 (.getfield 25) 3)))) (cond (Nat.blt pc 40) (cond (Nat.blt pc 38) (am_lf pc 36 (.iload 4) 2) (cond (Nat.blt pc 39) (am_lf pc 38 (.iconst 1) 1) (am_lf pc 39 .iastore 1))) (cond (Nat.blt pc 43) (cond (Nat.blt pc 42) (am_lf pc 40 (.iload 4) 2) (am_lf pc 42 (.istore_n 3) 1)) (cond (Nat.blt pc 46) (am_lf pc 43 (.goto (-41)) 3) (am_lf pc 46 .return_ 1)))))))
def tk_X6_halves : Nat → Option (Instr × Nat) := am_guard 74 (fun pc => (cond (Nat.blt pc 35) (cond (Nat.blt pc 14) (cond (Nat.blt pc 7) (cond (Nat.blt pc 4) (cond (Nat.blt pc 1) (am_lf pc 0 (.aload_n 0) 1) (am_lf pc 1 (.getfield 25) 3)) (cond (Nat.blt pc 5) (am_lf pc 4 (.iload_n 2) 1) (cond (Nat.blt pc 6) (am_lf pc 5 (.iconst 1) 1) (am_lf pc 6 .iastore 1)))) (cond (Nat.blt pc 9) (cond (Nat.blt pc 8) (am_lf pc 7 (.iload_n 1) 1) (am_lf pc 8 (.istore_n 3) 1)) (cond (Nat.blt pc 10) (am_lf pc 9 (.iload_n 3) 1) (cond (Nat.blt pc 11) (am_lf pc 10 (.iload_n 2) 1) (am_lf pc 11 (.if_icmp .ge 62) 3))))) (cond (Nat.blt pc 20) (cond (Nat.blt pc 16) (cond (Nat.blt pc 15) (am_lf pc 14 (.iload_n 3) 1) (am_lf pc 15 (.iconst 1) 1)) (cond (Nat.blt pc 17) (am_lf pc 16 .iadd 1) (cond (Nat.blt pc 19) (am_lf pc 17 (.istore 4) 2) (am_lf pc 19 (.aload_n 0) 1)))) (cond (Nat.blt pc 26) (cond (Nat.blt pc 23) (am_lf pc 20 (.getfield 25) 3) (cond (Nat.blt pc 25) (am_lf pc 23 (.iload 4) 2) (am_lf pc 25 .iaload 1))) (cond (Nat.blt pc 29) (am_lf pc 26 (.ifCond .ne 9) 3) (cond (Nat.blt pc 32) (am_lf pc 29 (.iinc 4 1) 3) (am_lf pc 32 (.goto (-13)) 3)))))) (cond (Nat.blt pc 54) (cond (Nat.blt pc 43) (cond (Nat.blt pc 37) (cond (Nat.blt pc 36) (am_lf pc 35 (.aload_n 0) 1) (am_lf pc 36 (.iload_n 3) 1)) (cond (Nat.blt pc 39) (am_lf pc 37 (.iload 4) 2) (cond (Nat.blt pc 40) (am_lf pc 39 (.aload_n 0) 1) (am_lf pc 40 (.getfield 7) 3)))) (cond (Nat.blt pc 48) (cond (Nat.blt pc 44) (am_lf pc 43 (.iconst 4) 1) (cond (Nat.blt pc 45) (am_lf pc 44 .iaload 1) (am_lf pc 45 (.invokevirtual 118) 3))) (cond (Nat.blt pc 51) (am_lf pc 48 (.ifCond .eq 9) 3) (cond (Nat.blt pc 53) (am_lf pc 51 (.iload 4) 2) (am_lf pc 53 (.istore_n 3) 1))))) (cond (Nat.blt pc 63) (cond (Nat.blt pc 58) (cond (Nat.blt pc 57) (am_lf pc 54 (.goto 16) 3) (am_lf pc 57 (.aload_n 0) 1)) (cond (Nat.blt pc 61) (am_lf pc 58 (.getfield 25) 3) (cond (Nat.blt pc 62) (am_lf pc 61 (.aload_n 0) 1) (am_lf pc 62 (.iload_n 3) 1)))) (cond (Nat.blt pc 69) (cond (Nat.blt pc 65) (am_lf pc 63 (.iload 4) 2) (cond (Nat.blt pc 68) (am_lf pc 65 (.invokevirtual 121) 3) (am_lf pc 68 (.iconst 1) 1))) (cond (Nat.blt pc 70) (am_lf pc 69 .iastore 1) (cond (Nat.blt pc 73) (am_lf pc 70 (.goto (-61)) 3) (am_lf pc 73 .return_ 1))))))))
def tk_X6_worst : Nat → Option (Instr × Nat) := am_guard 67 (fun pc => (cond (Nat.blt pc 30) (cond (Nat.blt pc 12) (cond (Nat.blt pc 5) (cond (Nat.blt pc 2) (cond (Nat.blt pc 1) (am_lf pc 0 (.iload_n 1) 1) (am_lf pc 1 (.iconst 1) 1)) (cond (Nat.blt pc 3) (am_lf pc 2 .iadd 1) (cond (Nat.blt pc 4) (am_lf pc 3 (.istore_n 3) 1) (am_lf pc 4 (.iload_n 1) 1)))) (cond (Nat.blt pc 7) (cond (Nat.blt pc 6) (am_lf pc 5 (.iconst 2) 1) (am_lf pc 6 .iadd 1)) (cond (Nat.blt pc 9) (am_lf pc 7 (.istore 4) 2) (cond (Nat.blt pc 11) (am_lf pc 9 (.iload 4) 2) (am_lf pc 11 (.iload_n 2) 1))))) (cond (Nat.blt pc 19) (cond (Nat.blt pc 16) (cond (Nat.blt pc 15) (am_lf pc 12 (.if_icmp .ge 53) 3) (am_lf pc 15 (.aload_n 0) 1)) (cond (Nat.blt pc 17) (am_lf pc 16 (.iload_n 1) 1) (cond (Nat.blt pc 18) (am_lf pc 17 (.iload_n 2) 1) (am_lf pc 18 (.aload_n 0) 1)))) (cond (Nat.blt pc 24) (cond (Nat.blt pc 21) (am_lf pc 19 (.iload 4) 2) (am_lf pc 21 (.invokevirtual 51) 3)) (cond (Nat.blt pc 25) (am_lf pc 24 (.aload_n 0) 1) (cond (Nat.blt pc 27) (am_lf pc 25 (.iload 4) 2) (am_lf pc 27 (.invokevirtual 62) 3)))))) (cond (Nat.blt pc 46) (cond (Nat.blt pc 37) (cond (Nat.blt pc 34) (cond (Nat.blt pc 33) (am_lf pc 30 (.invokevirtual 76) 3) (am_lf pc 33 (.aload_n 0) 1)) (cond (Nat.blt pc 35) (am_lf pc 34 (.iload_n 1) 1) (cond (Nat.blt pc 36) (am_lf pc 35 (.iload_n 2) 1) (am_lf pc 36 (.aload_n 0) 1)))) (cond (Nat.blt pc 41) (cond (Nat.blt pc 38) (am_lf pc 37 (.iload_n 3) 1) (am_lf pc 38 (.invokevirtual 51) 3)) (cond (Nat.blt pc 42) (am_lf pc 41 (.aload_n 0) 1) (cond (Nat.blt pc 43) (am_lf pc 42 (.iload_n 3) 1) (am_lf pc 43 (.invokevirtual 62) 3))))) (cond (Nat.blt pc 58) (cond (Nat.blt pc 52) (cond (Nat.blt pc 49) (am_lf pc 46 (.invokevirtual 76) 3) (am_lf pc 49 (.if_icmp .le 8) 3)) (cond (Nat.blt pc 54) (am_lf pc 52 (.iload 4) 2) (cond (Nat.blt pc 57) (am_lf pc 54 (.goto 4) 3) (am_lf pc 57 (.iload_n 3) 1)))) (cond (Nat.blt pc 62) (cond (Nat.blt pc 59) (am_lf pc 58 (.istore_n 3) 1) (am_lf pc 59 (.iinc 4 1) 3)) (cond (Nat.blt pc 65) (am_lf pc 62 (.goto (-53)) 3) (cond (Nat.blt pc 66) (am_lf pc 65 (.iload_n 3) 1) (am_lf pc 66 .ireturn 1))))))))
def tk_X6_few : Nat → Option (Instr × Nat) := am_guard 108 (fun pc => (cond (Nat.blt pc 48) (cond (Nat.blt pc 24) (cond (Nat.blt pc 9) (cond (Nat.blt pc 5) (cond (Nat.blt pc 1) (am_lf pc 0 (.aload_n 0) 1) (cond (Nat.blt pc 4) (am_lf pc 1 (.getfield 28) 3) (am_lf pc 4 (.iload_n 2) 1))) (cond (Nat.blt pc 7) (cond (Nat.blt pc 6) (am_lf pc 5 (.iconst 1) 1) (am_lf pc 6 .iastore 1)) (cond (Nat.blt pc 8) (am_lf pc 7 (.iload_n 2) 1) (am_lf pc 8 (.iconst 1) 1)))) (cond (Nat.blt pc 15) (cond (Nat.blt pc 12) (cond (Nat.blt pc 10) (am_lf pc 9 .isub 1) (am_lf pc 10 (.istore 4) 2)) (cond (Nat.blt pc 14) (am_lf pc 12 (.iload 4) 2) (am_lf pc 14 (.iload_n 1) 1))) (cond (Nat.blt pc 19) (cond (Nat.blt pc 18) (am_lf pc 15 (.if_icmp .lt 92) 3) (am_lf pc 18 (.aload_n 0) 1)) (cond (Nat.blt pc 22) (am_lf pc 19 (.getfield 28) 3) (am_lf pc 22 (.iload 4) 2))))) (cond (Nat.blt pc 35) (cond (Nat.blt pc 29) (cond (Nat.blt pc 26) (am_lf pc 24 (.bipush 61) 2) (cond (Nat.blt pc 27) (am_lf pc 26 .iastore 1) (am_lf pc 27 (.iload 4) 2))) (cond (Nat.blt pc 31) (cond (Nat.blt pc 30) (am_lf pc 29 (.iconst 1) 1) (am_lf pc 30 .iadd 1)) (cond (Nat.blt pc 33) (am_lf pc 31 (.istore 5) 2) (am_lf pc 33 (.iload 5) 2)))) (cond (Nat.blt pc 41) (cond (Nat.blt pc 39) (cond (Nat.blt pc 36) (am_lf pc 35 (.iload_n 2) 1) (am_lf pc 36 (.if_icmp .gt 65) 3)) (cond (Nat.blt pc 40) (am_lf pc 39 (.iconst 1) 1) (am_lf pc 40 (.aload_n 0) 1))) (cond (Nat.blt pc 46) (cond (Nat.blt pc 44) (am_lf pc 41 (.getfield 28) 3) (am_lf pc 44 (.iload 5) 2)) (cond (Nat.blt pc 47) (am_lf pc 46 .iaload 1) (am_lf pc 47 .iadd 1)))))) (cond (Nat.blt pc 77) (cond (Nat.blt pc 61) (cond (Nat.blt pc 54) (cond (Nat.blt pc 49) (am_lf pc 48 (.aload_n 0) 1) (cond (Nat.blt pc 52) (am_lf pc 49 (.getfield 28) 3) (am_lf pc 52 (.iload 4) 2))) (cond (Nat.blt pc 58) (cond (Nat.blt pc 55) (am_lf pc 54 .iaload 1) (am_lf pc 55 (.if_icmp .gt 40) 3)) (cond (Nat.blt pc 59) (am_lf pc 58 (.aload_n 0) 1) (am_lf pc 59 (.iload 4) 2)))) (cond (Nat.blt pc 70) (cond (Nat.blt pc 64) (cond (Nat.blt pc 63) (am_lf pc 61 (.iload 5) 2) (am_lf pc 63 (.iload_n 3) 1)) (cond (Nat.blt pc 67) (am_lf pc 64 (.invokevirtual 118) 3) (am_lf pc 67 (.ifCond .eq 28) 3))) (cond (Nat.blt pc 74) (cond (Nat.blt pc 71) (am_lf pc 70 (.aload_n 0) 1) (am_lf pc 71 (.getfield 28) 3)) (cond (Nat.blt pc 76) (am_lf pc 74 (.iload 4) 2) (am_lf pc 76 (.iconst 1) 1))))) (cond (Nat.blt pc 90) (cond (Nat.blt pc 84) (cond (Nat.blt pc 81) (cond (Nat.blt pc 78) (am_lf pc 77 (.aload_n 0) 1) (am_lf pc 78 (.getfield 28) 3)) (cond (Nat.blt pc 83) (am_lf pc 81 (.iload 5) 2) (am_lf pc 83 .iaload 1))) (cond (Nat.blt pc 86) (cond (Nat.blt pc 85) (am_lf pc 84 .iadd 1) (am_lf pc 85 .iastore 1)) (cond (Nat.blt pc 87) (am_lf pc 86 (.aload_n 0) 1) (am_lf pc 87 (.getfield 31) 3)))) (cond (Nat.blt pc 98) (cond (Nat.blt pc 94) (cond (Nat.blt pc 92) (am_lf pc 90 (.iload 4) 2) (am_lf pc 92 (.iload 5) 2)) (cond (Nat.blt pc 95) (am_lf pc 94 .iastore 1) (am_lf pc 95 (.iinc 5 1) 3))) (cond (Nat.blt pc 104) (cond (Nat.blt pc 101) (am_lf pc 98 (.goto (-65)) 3) (am_lf pc 101 (.iinc 4 (-1)) 3)) (cond (Nat.blt pc 107) (am_lf pc 104 (.goto (-92)) 3) (am_lf pc 107 .return_ 1))))))))
def tk_X6_tear : Nat → Option (Instr × Nat) := am_guard 155 (fun pc => (cond (Nat.blt pc 80) (cond (Nat.blt pc 41) (cond (Nat.blt pc 20) (cond (Nat.blt pc 8) (cond (Nat.blt pc 5) (cond (Nat.blt pc 1) (am_lf pc 0 (.aload_n 0) 1) (cond (Nat.blt pc 2) (am_lf pc 1 (.iconst 0) 1) (am_lf pc 2 (.putfield 40) 3))) (cond (Nat.blt pc 6) (am_lf pc 5 (.iload_n 1) 1) (cond (Nat.blt pc 7) (am_lf pc 6 (.iconst 0) 1) (am_lf pc 7 (.aload_n 0) 1)))) (cond (Nat.blt pc 13) (cond (Nat.blt pc 11) (am_lf pc 8 (.invokevirtual 175) 3) (cond (Nat.blt pc 12) (am_lf pc 11 (.iconst 1) 1) (am_lf pc 12 .isub 1))) (cond (Nat.blt pc 16) (am_lf pc 13 (.invokestatic 47) 3) (cond (Nat.blt pc 19) (am_lf pc 16 (.ifCond .ne 9) 3) (am_lf pc 19 (.aload_n 0) 1))))) (cond (Nat.blt pc 30) (cond (Nat.blt pc 25) (cond (Nat.blt pc 21) (am_lf pc 20 (.iconst 1) 1) (cond (Nat.blt pc 24) (am_lf pc 21 (.invokevirtual 141) 3) (am_lf pc 24 .ireturn 1))) (cond (Nat.blt pc 26) (am_lf pc 25 (.aload_n 0) 1) (cond (Nat.blt pc 29) (am_lf pc 26 (.invokevirtual 147) 3) (am_lf pc 29 (.aload_n 0) 1)))) (cond (Nat.blt pc 35) (cond (Nat.blt pc 31) (am_lf pc 30 (.iload_n 1) 1) (cond (Nat.blt pc 34) (am_lf pc 31 (.invokevirtual 178) 3) (am_lf pc 34 (.istore_n 2) 1))) (cond (Nat.blt pc 37) (cond (Nat.blt pc 36) (am_lf pc 35 (.aload_n 0) 1) (am_lf pc 36 (.iload_n 2) 1)) (cond (Nat.blt pc 40) (am_lf pc 37 (.invokevirtual 124) 3) (am_lf pc 40 (.iconst 1) 1)))))) (cond (Nat.blt pc 57) (cond (Nat.blt pc 48) (cond (Nat.blt pc 44) (cond (Nat.blt pc 42) (am_lf pc 41 .iadd 1) (cond (Nat.blt pc 43) (am_lf pc 42 (.iload_n 2) 1) (am_lf pc 43 .isub 1))) (cond (Nat.blt pc 45) (am_lf pc 44 (.istore_n 3) 1) (cond (Nat.blt pc 46) (am_lf pc 45 (.iload_n 2) 1) (am_lf pc 46 (.istore 4) 2)))) (cond (Nat.blt pc 52) (cond (Nat.blt pc 50) (am_lf pc 48 (.iload 4) 2) (cond (Nat.blt pc 51) (am_lf pc 50 (.iload_n 3) 1) (am_lf pc 51 .iadd 1))) (cond (Nat.blt pc 53) (am_lf pc 52 (.aload_n 0) 1) (cond (Nat.blt pc 56) (am_lf pc 53 (.getfield 7) 3) (am_lf pc 56 (.iconst 0) 1))))) (cond (Nat.blt pc 69) (cond (Nat.blt pc 62) (cond (Nat.blt pc 58) (am_lf pc 57 .iaload 1) (cond (Nat.blt pc 61) (am_lf pc 58 (.if_icmp .ge 75) 3) (am_lf pc 61 (.aload_n 0) 1))) (cond (Nat.blt pc 65) (am_lf pc 62 (.getfield 7) 3) (cond (Nat.blt pc 67) (am_lf pc 65 (.bipush 7) 2) (am_lf pc 67 (.iload 4) 2)))) (cond (Nat.blt pc 74) (cond (Nat.blt pc 70) (am_lf pc 69 .iadd 1) (cond (Nat.blt pc 71) (am_lf pc 70 (.aload_n 0) 1) (am_lf pc 71 (.getfield 7) 3))) (cond (Nat.blt pc 78) (cond (Nat.blt pc 76) (am_lf pc 74 (.bipush 7) 2) (am_lf pc 76 (.iload 4) 2)) (cond (Nat.blt pc 79) (am_lf pc 78 .iadd 1) (am_lf pc 79 (.iload_n 3) 1))))))) (cond (Nat.blt pc 120) (cond (Nat.blt pc 100) (cond (Nat.blt pc 89) (cond (Nat.blt pc 83) (cond (Nat.blt pc 81) (am_lf pc 80 .iadd 1) (cond (Nat.blt pc 82) (am_lf pc 81 .iaload 1) (am_lf pc 82 .iastore 1))) (cond (Nat.blt pc 84) (am_lf pc 83 (.aload_n 0) 1) (cond (Nat.blt pc 87) (am_lf pc 84 (.getfield 7) 3) (am_lf pc 87 (.bipush 67) 2)))) (cond (Nat.blt pc 93) (cond (Nat.blt pc 91) (am_lf pc 89 (.iload 4) 2) (cond (Nat.blt pc 92) (am_lf pc 91 .iadd 1) (am_lf pc 92 (.aload_n 0) 1))) (cond (Nat.blt pc 96) (am_lf pc 93 (.getfield 7) 3) (cond (Nat.blt pc 98) (am_lf pc 96 (.bipush 67) 2) (am_lf pc 98 (.iload 4) 2))))) (cond (Nat.blt pc 106) (cond (Nat.blt pc 103) (cond (Nat.blt pc 101) (am_lf pc 100 .iadd 1) (cond (Nat.blt pc 102) (am_lf pc 101 (.iload_n 3) 1) (am_lf pc 102 .iadd 1))) (cond (Nat.blt pc 104) (am_lf pc 103 .iaload 1) (cond (Nat.blt pc 105) (am_lf pc 104 .iastore 1) (am_lf pc 105 (.aload_n 0) 1)))) (cond (Nat.blt pc 113) (cond (Nat.blt pc 109) (am_lf pc 106 (.getfield 7) 3) (cond (Nat.blt pc 111) (am_lf pc 109 (.bipush 127) 2) (am_lf pc 111 (.iload 4) 2))) (cond (Nat.blt pc 115) (cond (Nat.blt pc 114) (am_lf pc 113 .iadd 1) (am_lf pc 114 (.aload_n 0) 1)) (cond (Nat.blt pc 118) (am_lf pc 115 (.getfield 7) 3) (am_lf pc 118 (.bipush 127) 2)))))) (cond (Nat.blt pc 140) (cond (Nat.blt pc 127) (cond (Nat.blt pc 124) (cond (Nat.blt pc 122) (am_lf pc 120 (.iload 4) 2) (cond (Nat.blt pc 123) (am_lf pc 122 .iadd 1) (am_lf pc 123 (.iload_n 3) 1))) (cond (Nat.blt pc 125) (am_lf pc 124 .iadd 1) (cond (Nat.blt pc 126) (am_lf pc 125 .iaload 1) (am_lf pc 126 .iastore 1)))) (cond (Nat.blt pc 134) (cond (Nat.blt pc 130) (am_lf pc 127 (.iinc 4 1) 3) (cond (Nat.blt pc 133) (am_lf pc 130 (.goto (-82)) 3) (am_lf pc 133 (.aload_n 0) 1))) (cond (Nat.blt pc 138) (cond (Nat.blt pc 137) (am_lf pc 134 (.getfield 7) 3) (am_lf pc 137 (.iconst 0) 1)) (cond (Nat.blt pc 139) (am_lf pc 138 .dup2 1) (am_lf pc 139 .iaload 1))))) (cond (Nat.blt pc 148) (cond (Nat.blt pc 143) (cond (Nat.blt pc 141) (am_lf pc 140 (.iload_n 3) 1) (cond (Nat.blt pc 142) (am_lf pc 141 .isub 1) (am_lf pc 142 .iastore 1))) (cond (Nat.blt pc 144) (am_lf pc 143 (.aload_n 0) 1) (cond (Nat.blt pc 147) (am_lf pc 144 (.getfield 7) 3) (am_lf pc 147 (.iconst 3) 1)))) (cond (Nat.blt pc 151) (cond (Nat.blt pc 149) (am_lf pc 148 .dup2 1) (cond (Nat.blt pc 150) (am_lf pc 149 .iaload 1) (am_lf pc 150 (.iload_n 3) 1))) (cond (Nat.blt pc 153) (cond (Nat.blt pc 152) (am_lf pc 151 .iadd 1) (am_lf pc 152 .iastore 1)) (cond (Nat.blt pc 154) (am_lf pc 153 (.iload_n 3) 1) (am_lf pc 154 .ireturn 1)))))))))
def tk_X6_stretches : Nat → Option (Instr × Nat) := am_guard 28 (fun pc => (cond (Nat.blt pc 15) (cond (Nat.blt pc 6) (cond (Nat.blt pc 4) (cond (Nat.blt pc 1) (am_lf pc 0 (.aload_n 0) 1) (am_lf pc 1 (.getfield 7) 3)) (cond (Nat.blt pc 5) (am_lf pc 4 (.iconst 0) 1) (am_lf pc 5 .iaload 1))) (cond (Nat.blt pc 10) (cond (Nat.blt pc 9) (am_lf pc 6 (.ifCond .ne 7) 3) (am_lf pc 9 (.iconst 0) 1)) (cond (Nat.blt pc 13) (am_lf pc 10 (.goto 17) 3) (cond (Nat.blt pc 14) (am_lf pc 13 (.aload_n 0) 1) (am_lf pc 14 (.aload_n 0) 1))))) (cond (Nat.blt pc 21) (cond (Nat.blt pc 19) (cond (Nat.blt pc 18) (am_lf pc 15 (.getfield 7) 3) (am_lf pc 18 (.iconst 0) 1)) (cond (Nat.blt pc 20) (am_lf pc 19 .iaload 1) (am_lf pc 20 (.iconst 1) 1))) (cond (Nat.blt pc 25) (cond (Nat.blt pc 22) (am_lf pc 21 .isub 1) (am_lf pc 22 (.invokevirtual 59) 3)) (cond (Nat.blt pc 26) (am_lf pc 25 (.iconst 1) 1) (cond (Nat.blt pc 27) (am_lf pc 26 .iadd 1) (am_lf pc 27 .ireturn 1)))))))
def tk_X6_firstOf : Nat → Option (Instr × Nat) := am_guard 33 (fun pc => (cond (Nat.blt pc 14) (cond (Nat.blt pc 5) (cond (Nat.blt pc 2) (cond (Nat.blt pc 1) (am_lf pc 0 (.iconst 0) 1) (am_lf pc 1 (.istore_n 2) 1)) (cond (Nat.blt pc 3) (am_lf pc 2 (.iconst 0) 1) (cond (Nat.blt pc 4) (am_lf pc 3 (.istore_n 3) 1) (am_lf pc 4 (.iload_n 3) 1)))) (cond (Nat.blt pc 9) (cond (Nat.blt pc 6) (am_lf pc 5 (.iload_n 1) 1) (am_lf pc 6 (.if_icmp .ge 25) 3)) (cond (Nat.blt pc 12) (am_lf pc 9 (.iinc 2 1) 3) (cond (Nat.blt pc 13) (am_lf pc 12 (.iload_n 3) 1) (am_lf pc 13 (.aload_n 0) 1))))) (cond (Nat.blt pc 25) (cond (Nat.blt pc 18) (cond (Nat.blt pc 15) (am_lf pc 14 (.iload_n 2) 1) (am_lf pc 15 (.invokevirtual 55) 3)) (cond (Nat.blt pc 21) (am_lf pc 18 (.ifCond .eq 7) 3) (cond (Nat.blt pc 22) (am_lf pc 21 (.iconst 1) 1) (am_lf pc 22 (.goto 4) 3)))) (cond (Nat.blt pc 28) (cond (Nat.blt pc 26) (am_lf pc 25 (.iconst 0) 1) (cond (Nat.blt pc 27) (am_lf pc 26 .iadd 1) (am_lf pc 27 (.istore_n 3) 1))) (cond (Nat.blt pc 31) (am_lf pc 28 (.goto (-24)) 3) (cond (Nat.blt pc 32) (am_lf pc 31 (.iload_n 2) 1) (am_lf pc 32 .ireturn 1)))))))
def tk_X6_set : Nat → Option (Instr × Nat) := am_guard 69 (fun pc => (cond (Nat.blt pc 36) (cond (Nat.blt pc 19) (cond (Nat.blt pc 7) (cond (Nat.blt pc 2) (cond (Nat.blt pc 1) (am_lf pc 0 (.aload_n 0) 1) (am_lf pc 1 (.iconst 0) 1)) (cond (Nat.blt pc 5) (am_lf pc 2 (.putfield 40) 3) (cond (Nat.blt pc 6) (am_lf pc 5 (.iload_n 1) 1) (am_lf pc 6 (.iconst 0) 1)))) (cond (Nat.blt pc 14) (cond (Nat.blt pc 8) (am_lf pc 7 (.iconst 2) 1) (cond (Nat.blt pc 11) (am_lf pc 8 (.invokestatic 47) 3) (am_lf pc 11 (.ifCond .ne 9) 3))) (cond (Nat.blt pc 15) (am_lf pc 14 (.aload_n 0) 1) (cond (Nat.blt pc 16) (am_lf pc 15 (.iconst 1) 1) (am_lf pc 16 (.invokevirtual 141) 3))))) (cond (Nat.blt pc 26) (cond (Nat.blt pc 21) (cond (Nat.blt pc 20) (am_lf pc 19 .ireturn 1) (am_lf pc 20 (.iload_n 2) 1)) (cond (Nat.blt pc 22) (am_lf pc 21 (.aload_n 0) 1) (cond (Nat.blt pc 25) (am_lf pc 22 (.getfield 19) 3) (am_lf pc 25 (.iload_n 1) 1)))) (cond (Nat.blt pc 31) (cond (Nat.blt pc 27) (am_lf pc 26 .iaload 1) (cond (Nat.blt pc 28) (am_lf pc 27 (.aload_n 0) 1) (am_lf pc 28 (.getfield 22) 3))) (cond (Nat.blt pc 32) (am_lf pc 31 (.iload_n 1) 1) (cond (Nat.blt pc 33) (am_lf pc 32 .iaload 1) (am_lf pc 33 (.invokestatic 47) 3)))))) (cond (Nat.blt pc 55) (cond (Nat.blt pc 45) (cond (Nat.blt pc 40) (cond (Nat.blt pc 39) (am_lf pc 36 (.ifCond .ne 9) 3) (am_lf pc 39 (.aload_n 0) 1)) (cond (Nat.blt pc 41) (am_lf pc 40 (.iconst 2) 1) (cond (Nat.blt pc 44) (am_lf pc 41 (.invokevirtual 141) 3) (am_lf pc 44 .ireturn 1)))) (cond (Nat.blt pc 50) (cond (Nat.blt pc 46) (am_lf pc 45 (.aload_n 0) 1) (cond (Nat.blt pc 49) (am_lf pc 46 (.invokevirtual 147) 3) (am_lf pc 49 (.aload_n 0) 1))) (cond (Nat.blt pc 53) (am_lf pc 50 (.getfield 7) 3) (cond (Nat.blt pc 54) (am_lf pc 53 (.iconst 4) 1) (am_lf pc 54 (.iload_n 1) 1))))) (cond (Nat.blt pc 63) (cond (Nat.blt pc 58) (cond (Nat.blt pc 56) (am_lf pc 55 .iadd 1) (cond (Nat.blt pc 57) (am_lf pc 56 .iaload 1) (am_lf pc 57 (.istore_n 3) 1))) (cond (Nat.blt pc 59) (am_lf pc 58 (.aload_n 0) 1) (cond (Nat.blt pc 62) (am_lf pc 59 (.getfield 7) 3) (am_lf pc 62 (.iconst 4) 1)))) (cond (Nat.blt pc 66) (cond (Nat.blt pc 64) (am_lf pc 63 (.iload_n 1) 1) (cond (Nat.blt pc 65) (am_lf pc 64 .iadd 1) (am_lf pc 65 (.iload_n 2) 1))) (cond (Nat.blt pc 67) (am_lf pc 66 .iastore 1) (cond (Nat.blt pc 68) (am_lf pc 67 (.iload_n 3) 1) (am_lf pc 68 .ireturn 1))))))))
def tk_X6_note : Nat → Option (Instr × Nat) := am_guard 97 (fun pc => (cond (Nat.blt pc 55) (cond (Nat.blt pc 27) (cond (Nat.blt pc 14) (cond (Nat.blt pc 6) (cond (Nat.blt pc 2) (cond (Nat.blt pc 1) (am_lf pc 0 (.aload_n 0) 1) (am_lf pc 1 (.iconst 0) 1)) (cond (Nat.blt pc 5) (am_lf pc 2 (.putfield 40) 3) (am_lf pc 5 (.iload_n 1) 1))) (cond (Nat.blt pc 10) (cond (Nat.blt pc 7) (am_lf pc 6 (.iload_n 2) 1) (am_lf pc 7 (.invokestatic 138) 3)) (cond (Nat.blt pc 13) (am_lf pc 10 (.ifCond .ne 9) 3) (am_lf pc 13 (.aload_n 0) 1)))) (cond (Nat.blt pc 20) (cond (Nat.blt pc 18) (cond (Nat.blt pc 15) (am_lf pc 14 (.iconst 1) 1) (am_lf pc 15 (.invokevirtual 141) 3)) (cond (Nat.blt pc 19) (am_lf pc 18 .ireturn 1) (am_lf pc 19 (.aload_n 0) 1))) (cond (Nat.blt pc 24) (cond (Nat.blt pc 23) (am_lf pc 20 (.getfield 7) 3) (am_lf pc 23 (.iconst 1) 1)) (cond (Nat.blt pc 25) (am_lf pc 24 .iaload 1) (am_lf pc 25 (.bipush 8) 2))))) (cond (Nat.blt pc 41) (cond (Nat.blt pc 35) (cond (Nat.blt pc 31) (cond (Nat.blt pc 30) (am_lf pc 27 (.if_icmp .ne 9) 3) (am_lf pc 30 (.aload_n 0) 1)) (cond (Nat.blt pc 32) (am_lf pc 31 (.iconst 2) 1) (am_lf pc 32 (.invokevirtual 141) 3))) (cond (Nat.blt pc 37) (cond (Nat.blt pc 36) (am_lf pc 35 .ireturn 1) (am_lf pc 36 (.aload_n 0) 1)) (cond (Nat.blt pc 40) (am_lf pc 37 (.invokevirtual 147) 3) (am_lf pc 40 (.aload_n 0) 1)))) (cond (Nat.blt pc 49) (cond (Nat.blt pc 47) (cond (Nat.blt pc 44) (am_lf pc 41 (.getfield 7) 3) (am_lf pc 44 (.sipush 187) 3)) (cond (Nat.blt pc 48) (am_lf pc 47 (.iconst 2) 1) (am_lf pc 48 (.aload_n 0) 1))) (cond (Nat.blt pc 53) (cond (Nat.blt pc 52) (am_lf pc 49 (.getfield 7) 3) (am_lf pc 52 (.iconst 1) 1)) (cond (Nat.blt pc 54) (am_lf pc 53 .iaload 1) (am_lf pc 54 .imul 1)))))) (cond (Nat.blt pc 77) (cond (Nat.blt pc 67) (cond (Nat.blt pc 59) (cond (Nat.blt pc 57) (cond (Nat.blt pc 56) (am_lf pc 55 .iadd 1) (am_lf pc 56 (.iload_n 1) 1)) (cond (Nat.blt pc 58) (am_lf pc 57 .iastore 1) (am_lf pc 58 (.aload_n 0) 1))) (cond (Nat.blt pc 65) (cond (Nat.blt pc 62) (am_lf pc 59 (.getfield 7) 3) (am_lf pc 62 (.sipush 187) 3)) (cond (Nat.blt pc 66) (am_lf pc 65 (.iconst 2) 1) (am_lf pc 66 (.aload_n 0) 1)))) (cond (Nat.blt pc 73) (cond (Nat.blt pc 71) (cond (Nat.blt pc 70) (am_lf pc 67 (.getfield 7) 3) (am_lf pc 70 (.iconst 1) 1)) (cond (Nat.blt pc 72) (am_lf pc 71 .iaload 1) (am_lf pc 72 .imul 1))) (cond (Nat.blt pc 75) (cond (Nat.blt pc 74) (am_lf pc 73 .iadd 1) (am_lf pc 74 (.iconst 1) 1)) (cond (Nat.blt pc 76) (am_lf pc 75 .iadd 1) (am_lf pc 76 (.iload_n 2) 1))))) (cond (Nat.blt pc 87) (cond (Nat.blt pc 83) (cond (Nat.blt pc 79) (cond (Nat.blt pc 78) (am_lf pc 77 .iastore 1) (am_lf pc 78 (.aload_n 0) 1)) (cond (Nat.blt pc 82) (am_lf pc 79 (.getfield 7) 3) (am_lf pc 82 (.iconst 1) 1))) (cond (Nat.blt pc 85) (cond (Nat.blt pc 84) (am_lf pc 83 .dup2 1) (am_lf pc 84 .iaload 1)) (cond (Nat.blt pc 86) (am_lf pc 85 (.iconst 1) 1) (am_lf pc 86 .iadd 1)))) (cond (Nat.blt pc 93) (cond (Nat.blt pc 89) (cond (Nat.blt pc 88) (am_lf pc 87 .iastore 1) (am_lf pc 88 (.aload_n 0) 1)) (cond (Nat.blt pc 92) (am_lf pc 89 (.getfield 7) 3) (am_lf pc 92 (.iconst 1) 1))) (cond (Nat.blt pc 95) (cond (Nat.blt pc 94) (am_lf pc 93 .iaload 1) (am_lf pc 94 (.iconst 1) 1)) (cond (Nat.blt pc 96) (am_lf pc 95 .isub 1) (am_lf pc 96 .ireturn 1))))))))
def tk_X6_strike : Nat → Option (Instr × Nat) := am_guard 101 (fun pc => (cond (Nat.blt pc 52) (cond (Nat.blt pc 24) (cond (Nat.blt pc 12) (cond (Nat.blt pc 6) (cond (Nat.blt pc 2) (cond (Nat.blt pc 1) (am_lf pc 0 (.aload_n 0) 1) (am_lf pc 1 (.iconst 0) 1)) (cond (Nat.blt pc 5) (am_lf pc 2 (.putfield 40) 3) (am_lf pc 5 (.aload_n 0) 1))) (cond (Nat.blt pc 10) (cond (Nat.blt pc 9) (am_lf pc 6 (.invokevirtual 147) 3) (am_lf pc 9 (.iconst 0) 1)) (cond (Nat.blt pc 11) (am_lf pc 10 (.istore_n 1) 1) (am_lf pc 11 (.iconst 0) 1)))) (cond (Nat.blt pc 18) (cond (Nat.blt pc 14) (cond (Nat.blt pc 13) (am_lf pc 12 (.istore_n 2) 1) (am_lf pc 13 (.iload_n 2) 1)) (cond (Nat.blt pc 15) (am_lf pc 14 (.aload_n 0) 1) (am_lf pc 15 (.getfield 7) 3))) (cond (Nat.blt pc 20) (cond (Nat.blt pc 19) (am_lf pc 18 (.iconst 1) 1) (am_lf pc 19 .iaload 1)) (cond (Nat.blt pc 23) (am_lf pc 20 (.if_icmp .ge 72) 3) (am_lf pc 23 (.aload_n 0) 1))))) (cond (Nat.blt pc 40) (cond (Nat.blt pc 32) (cond (Nat.blt pc 28) (cond (Nat.blt pc 25) (am_lf pc 24 (.iload_n 2) 1) (am_lf pc 25 (.invokevirtual 181) 3)) (cond (Nat.blt pc 31) (am_lf pc 28 (.ifCond .ne 58) 3) (am_lf pc 31 (.aload_n 0) 1))) (cond (Nat.blt pc 38) (cond (Nat.blt pc 35) (am_lf pc 32 (.getfield 7) 3) (am_lf pc 35 (.sipush 187) 3)) (cond (Nat.blt pc 39) (am_lf pc 38 (.iconst 2) 1) (am_lf pc 39 (.iload_n 1) 1)))) (cond (Nat.blt pc 46) (cond (Nat.blt pc 42) (cond (Nat.blt pc 41) (am_lf pc 40 .imul 1) (am_lf pc 41 .iadd 1)) (cond (Nat.blt pc 43) (am_lf pc 42 (.aload_n 0) 1) (am_lf pc 43 (.getfield 7) 3))) (cond (Nat.blt pc 50) (cond (Nat.blt pc 49) (am_lf pc 46 (.sipush 187) 3) (am_lf pc 49 (.iconst 2) 1)) (cond (Nat.blt pc 51) (am_lf pc 50 (.iload_n 2) 1) (am_lf pc 51 .imul 1)))))) (cond (Nat.blt pc 76) (cond (Nat.blt pc 64) (cond (Nat.blt pc 56) (cond (Nat.blt pc 54) (cond (Nat.blt pc 53) (am_lf pc 52 .iadd 1) (am_lf pc 53 .iaload 1)) (cond (Nat.blt pc 55) (am_lf pc 54 .iastore 1) (am_lf pc 55 (.aload_n 0) 1))) (cond (Nat.blt pc 62) (cond (Nat.blt pc 59) (am_lf pc 56 (.getfield 7) 3) (am_lf pc 59 (.sipush 187) 3)) (cond (Nat.blt pc 63) (am_lf pc 62 (.iconst 2) 1) (am_lf pc 63 (.iload_n 1) 1)))) (cond (Nat.blt pc 68) (cond (Nat.blt pc 66) (cond (Nat.blt pc 65) (am_lf pc 64 .imul 1) (am_lf pc 65 .iadd 1)) (cond (Nat.blt pc 67) (am_lf pc 66 (.iconst 1) 1) (am_lf pc 67 .iadd 1))) (cond (Nat.blt pc 72) (cond (Nat.blt pc 69) (am_lf pc 68 (.aload_n 0) 1) (am_lf pc 69 (.getfield 7) 3)) (cond (Nat.blt pc 75) (am_lf pc 72 (.sipush 187) 3) (am_lf pc 75 (.iconst 2) 1))))) (cond (Nat.blt pc 86) (cond (Nat.blt pc 80) (cond (Nat.blt pc 78) (cond (Nat.blt pc 77) (am_lf pc 76 (.iload_n 2) 1) (am_lf pc 77 .imul 1)) (cond (Nat.blt pc 79) (am_lf pc 78 .iadd 1) (am_lf pc 79 (.iconst 1) 1))) (cond (Nat.blt pc 82) (cond (Nat.blt pc 81) (am_lf pc 80 .iadd 1) (am_lf pc 81 .iaload 1)) (cond (Nat.blt pc 83) (am_lf pc 82 .iastore 1) (am_lf pc 83 (.iinc 1 1) 3)))) (cond (Nat.blt pc 96) (cond (Nat.blt pc 92) (cond (Nat.blt pc 89) (am_lf pc 86 (.iinc 2 1) 3) (am_lf pc 89 (.goto (-76)) 3)) (cond (Nat.blt pc 93) (am_lf pc 92 (.aload_n 0) 1) (am_lf pc 93 (.getfield 7) 3))) (cond (Nat.blt pc 98) (cond (Nat.blt pc 97) (am_lf pc 96 (.iconst 1) 1) (am_lf pc 97 (.iload_n 1) 1)) (cond (Nat.blt pc 99) (am_lf pc 98 .iastore 1) (cond (Nat.blt pc 100) (am_lf pc 99 (.iload_n 1) 1) (am_lf pc 100 .ireturn 1)))))))))
def tk_X6_isTrueNote : Nat → Option (Instr × Nat) := am_guard 31 (fun pc => (cond (Nat.blt pc 14) (cond (Nat.blt pc 9) (cond (Nat.blt pc 2) (cond (Nat.blt pc 1) (am_lf pc 0 (.aload_n 0) 1) (am_lf pc 1 (.aload_n 0) 1)) (cond (Nat.blt pc 5) (am_lf pc 2 (.getfield 7) 3) (cond (Nat.blt pc 8) (am_lf pc 5 (.sipush 187) 3) (am_lf pc 8 (.iconst 2) 1)))) (cond (Nat.blt pc 11) (cond (Nat.blt pc 10) (am_lf pc 9 (.iload_n 1) 1) (am_lf pc 10 .imul 1)) (cond (Nat.blt pc 12) (am_lf pc 11 .iadd 1) (cond (Nat.blt pc 13) (am_lf pc 12 .iaload 1) (am_lf pc 13 (.aload_n 0) 1))))) (cond (Nat.blt pc 23) (cond (Nat.blt pc 20) (cond (Nat.blt pc 17) (am_lf pc 14 (.getfield 7) 3) (am_lf pc 17 (.sipush 187) 3)) (cond (Nat.blt pc 21) (am_lf pc 20 (.iconst 2) 1) (cond (Nat.blt pc 22) (am_lf pc 21 (.iload_n 1) 1) (am_lf pc 22 .imul 1)))) (cond (Nat.blt pc 26) (cond (Nat.blt pc 24) (am_lf pc 23 .iadd 1) (cond (Nat.blt pc 25) (am_lf pc 24 (.iconst 1) 1) (am_lf pc 25 .iadd 1))) (cond (Nat.blt pc 27) (am_lf pc 26 .iaload 1) (cond (Nat.blt pc 30) (am_lf pc 27 (.invokevirtual 111) 3) (am_lf pc 30 .ireturn 1)))))))
def tk_X6_append : Nat → Option (Instr × Nat) := am_guard 62 (fun pc => (cond (Nat.blt pc 32) (cond (Nat.blt pc 16) (cond (Nat.blt pc 6) (cond (Nat.blt pc 2) (cond (Nat.blt pc 1) (am_lf pc 0 (.aload_n 0) 1) (am_lf pc 1 (.iconst 0) 1)) (cond (Nat.blt pc 5) (am_lf pc 2 (.putfield 40) 3) (am_lf pc 5 (.iload_n 1) 1))) (cond (Nat.blt pc 10) (cond (Nat.blt pc 8) (am_lf pc 6 (.bipush 33) 2) (am_lf pc 8 (.bipush 126) 2)) (cond (Nat.blt pc 13) (am_lf pc 10 (.invokestatic 47) 3) (am_lf pc 13 (.ifCond .ne 9) 3)))) (cond (Nat.blt pc 22) (cond (Nat.blt pc 18) (cond (Nat.blt pc 17) (am_lf pc 16 (.aload_n 0) 1) (am_lf pc 17 (.iconst 1) 1)) (cond (Nat.blt pc 21) (am_lf pc 18 (.invokevirtual 141) 3) (am_lf pc 21 .ireturn 1))) (cond (Nat.blt pc 26) (cond (Nat.blt pc 23) (am_lf pc 22 (.aload_n 0) 1) (am_lf pc 23 (.getfield 184) 3)) (cond (Nat.blt pc 28) (am_lf pc 26 (.bipush 60) 2) (cond (Nat.blt pc 31) (am_lf pc 28 (.if_icmp .ne 9) 3) (am_lf pc 31 (.aload_n 0) 1)))))) (cond (Nat.blt pc 47) (cond (Nat.blt pc 38) (cond (Nat.blt pc 36) (cond (Nat.blt pc 33) (am_lf pc 32 (.iconst 2) 1) (am_lf pc 33 (.invokevirtual 141) 3)) (cond (Nat.blt pc 37) (am_lf pc 36 .ireturn 1) (am_lf pc 37 (.aload_n 0) 1))) (cond (Nat.blt pc 42) (cond (Nat.blt pc 41) (am_lf pc 38 (.getfield 16) 3) (am_lf pc 41 (.aload_n 0) 1)) (cond (Nat.blt pc 45) (am_lf pc 42 (.getfield 184) 3) (cond (Nat.blt pc 46) (am_lf pc 45 (.iload_n 1) 1) (am_lf pc 46 .iastore 1))))) (cond (Nat.blt pc 53) (cond (Nat.blt pc 49) (cond (Nat.blt pc 48) (am_lf pc 47 (.aload_n 0) 1) (am_lf pc 48 .dup 1)) (cond (Nat.blt pc 52) (am_lf pc 49 (.getfield 184) 3) (am_lf pc 52 (.iconst 1) 1))) (cond (Nat.blt pc 57) (cond (Nat.blt pc 54) (am_lf pc 53 .iadd 1) (am_lf pc 54 (.putfield 184) 3)) (cond (Nat.blt pc 58) (am_lf pc 57 (.aload_n 0) 1) (cond (Nat.blt pc 61) (am_lf pc 58 (.getfield 184) 3) (am_lf pc 61 .ireturn 1))))))))
def tk_X6_clearBuffer : Nat → Option (Instr × Nat) := am_guard 17 (fun pc => (cond (Nat.blt pc 9) (cond (Nat.blt pc 2) (cond (Nat.blt pc 1) (am_lf pc 0 (.aload_n 0) 1) (am_lf pc 1 (.iconst 0) 1)) (cond (Nat.blt pc 5) (am_lf pc 2 (.putfield 40) 3) (cond (Nat.blt pc 6) (am_lf pc 5 (.aload_n 0) 1) (am_lf pc 6 (.getfield 184) 3)))) (cond (Nat.blt pc 12) (cond (Nat.blt pc 10) (am_lf pc 9 (.istore_n 1) 1) (cond (Nat.blt pc 11) (am_lf pc 10 (.aload_n 0) 1) (am_lf pc 11 (.iconst 0) 1))) (cond (Nat.blt pc 15) (am_lf pc 12 (.putfield 184) 3) (cond (Nat.blt pc 16) (am_lf pc 15 (.iload_n 1) 1) (am_lf pc 16 .ireturn 1))))))
def tk_X6_firstError : Nat → Option (Instr × Nat) := am_guard 10 (fun pc => (cond (Nat.blt pc 5) (cond (Nat.blt pc 1) (am_lf pc 0 (.aload_n 0) 1) (cond (Nat.blt pc 2) (am_lf pc 1 (.iconst 0) 1) (am_lf pc 2 (.putfield 40) 3))) (cond (Nat.blt pc 6) (am_lf pc 5 (.aload_n 0) 1) (cond (Nat.blt pc 9) (am_lf pc 6 (.invokevirtual 210) 3) (am_lf pc 9 .ireturn 1)))))
def tk_X6_reads : Nat → Option (Instr × Nat) := am_guard 38 (fun pc => (cond (Nat.blt pc 16) (cond (Nat.blt pc 7) (cond (Nat.blt pc 2) (cond (Nat.blt pc 1) (am_lf pc 0 (.aload_n 0) 1) (am_lf pc 1 (.iconst 0) 1)) (cond (Nat.blt pc 5) (am_lf pc 2 (.putfield 187) 3) (cond (Nat.blt pc 6) (am_lf pc 5 (.aload_n 0) 1) (am_lf pc 6 (.iconst 0) 1)))) (cond (Nat.blt pc 11) (cond (Nat.blt pc 10) (am_lf pc 7 (.putfield 200) 3) (am_lf pc 10 (.iconst 1) 1)) (cond (Nat.blt pc 12) (am_lf pc 11 (.istore_n 1) 1) (cond (Nat.blt pc 13) (am_lf pc 12 (.iload_n 1) 1) (am_lf pc 13 (.ifCond .eq 20) 3))))) (cond (Nat.blt pc 26) (cond (Nat.blt pc 20) (cond (Nat.blt pc 17) (am_lf pc 16 (.aload_n 0) 1) (am_lf pc 17 (.getfield 200) 3)) (cond (Nat.blt pc 22) (am_lf pc 20 (.bipush 60) 2) (cond (Nat.blt pc 25) (am_lf pc 22 (.if_icmp .ge 11) 3) (am_lf pc 25 (.aload_n 0) 1)))) (cond (Nat.blt pc 33) (cond (Nat.blt pc 29) (am_lf pc 26 (.invokevirtual 206) 3) (cond (Nat.blt pc 30) (am_lf pc 29 (.istore_n 1) 1) (am_lf pc 30 (.goto (-18)) 3))) (cond (Nat.blt pc 34) (am_lf pc 33 (.aload_n 0) 1) (cond (Nat.blt pc 37) (am_lf pc 34 (.getfield 187) 3) (am_lf pc 37 .ireturn 1)))))))
def tk_X6_readPoint : Nat → Option (Instr × Nat) := am_guard 139 (fun pc => (cond (Nat.blt pc 68) (cond (Nat.blt pc 34) (cond (Nat.blt pc 15) (cond (Nat.blt pc 6) (cond (Nat.blt pc 2) (cond (Nat.blt pc 1) (am_lf pc 0 (.aload_n 0) 1) (am_lf pc 1 (.iconst 0) 1)) (cond (Nat.blt pc 5) (am_lf pc 2 (.putfield 193) 3) (am_lf pc 5 (.aload_n 0) 1))) (cond (Nat.blt pc 10) (cond (Nat.blt pc 7) (am_lf pc 6 (.iconst 4) 1) (am_lf pc 7 (.invokevirtual 197) 3)) (cond (Nat.blt pc 11) (am_lf pc 10 (.istore_n 1) 1) (cond (Nat.blt pc 12) (am_lf pc 11 (.aload_n 0) 1) (am_lf pc 12 (.getfield 34) 3))))) (cond (Nat.blt pc 24) (cond (Nat.blt pc 19) (cond (Nat.blt pc 16) (am_lf pc 15 (.aload_n 0) 1) (am_lf pc 16 (.getfield 200) 3)) (cond (Nat.blt pc 20) (am_lf pc 19 (.aload_n 0) 1) (cond (Nat.blt pc 23) (am_lf pc 20 (.getfield 190) 3) (am_lf pc 23 .iastore 1)))) (cond (Nat.blt pc 28) (cond (Nat.blt pc 25) (am_lf pc 24 (.iload_n 1) 1) (am_lf pc 25 (.ifCond .eq 16) 3)) (cond (Nat.blt pc 29) (am_lf pc 28 (.aload_n 0) 1) (cond (Nat.blt pc 31) (am_lf pc 29 (.bipush 58) 2) (am_lf pc 31 (.invokevirtual 203) 3)))))) (cond (Nat.blt pc 50) (cond (Nat.blt pc 42) (cond (Nat.blt pc 38) (cond (Nat.blt pc 37) (am_lf pc 34 (.ifCond .eq 7) 3) (am_lf pc 37 (.iconst 1) 1)) (cond (Nat.blt pc 41) (am_lf pc 38 (.goto 4) 3) (am_lf pc 41 (.iconst 0) 1))) (cond (Nat.blt pc 44) (cond (Nat.blt pc 43) (am_lf pc 42 (.istore_n 1) 1) (am_lf pc 43 (.iload_n 1) 1)) (cond (Nat.blt pc 47) (am_lf pc 44 (.ifCond .eq 16) 3) (cond (Nat.blt pc 48) (am_lf pc 47 (.aload_n 0) 1) (am_lf pc 48 (.bipush 45) 2))))) (cond (Nat.blt pc 61) (cond (Nat.blt pc 56) (cond (Nat.blt pc 53) (am_lf pc 50 (.invokevirtual 203) 3) (am_lf pc 53 (.ifCond .eq 7) 3)) (cond (Nat.blt pc 57) (am_lf pc 56 (.iconst 1) 1) (cond (Nat.blt pc 60) (am_lf pc 57 (.goto 4) 3) (am_lf pc 60 (.iconst 0) 1)))) (cond (Nat.blt pc 63) (cond (Nat.blt pc 62) (am_lf pc 61 (.istore_n 2) 1) (am_lf pc 62 (.iload_n 1) 1)) (cond (Nat.blt pc 66) (am_lf pc 63 (.ifCond .eq 15) 3) (cond (Nat.blt pc 67) (am_lf pc 66 (.aload_n 0) 1) (am_lf pc 67 (.iconst 3) 1))))))) (cond (Nat.blt pc 105) (cond (Nat.blt pc 85) (cond (Nat.blt pc 78) (cond (Nat.blt pc 74) (cond (Nat.blt pc 71) (am_lf pc 68 (.invokevirtual 197) 3) (am_lf pc 71 (.ifCond .eq 7) 3)) (cond (Nat.blt pc 75) (am_lf pc 74 (.iconst 1) 1) (am_lf pc 75 (.goto 4) 3))) (cond (Nat.blt pc 80) (cond (Nat.blt pc 79) (am_lf pc 78 (.iconst 0) 1) (am_lf pc 79 (.istore_n 1) 1)) (cond (Nat.blt pc 81) (am_lf pc 80 (.aload_n 0) 1) (cond (Nat.blt pc 84) (am_lf pc 81 (.getfield 37) 3) (am_lf pc 84 (.aload_n 0) 1))))) (cond (Nat.blt pc 96) (cond (Nat.blt pc 89) (cond (Nat.blt pc 88) (am_lf pc 85 (.getfield 200) 3) (am_lf pc 88 (.iload_n 2) 1)) (cond (Nat.blt pc 92) (am_lf pc 89 (.ifCond .eq 11) 3) (cond (Nat.blt pc 93) (am_lf pc 92 (.aload_n 0) 1) (am_lf pc 93 (.getfield 190) 3)))) (cond (Nat.blt pc 100) (cond (Nat.blt pc 97) (am_lf pc 96 .ineg 1) (am_lf pc 97 (.goto 7) 3)) (cond (Nat.blt pc 101) (am_lf pc 100 (.aload_n 0) 1) (cond (Nat.blt pc 104) (am_lf pc 101 (.getfield 190) 3) (am_lf pc 104 .iastore 1)))))) (cond (Nat.blt pc 120) (cond (Nat.blt pc 111) (cond (Nat.blt pc 107) (cond (Nat.blt pc 106) (am_lf pc 105 (.aload_n 0) 1) (am_lf pc 106 .dup 1)) (cond (Nat.blt pc 110) (am_lf pc 107 (.getfield 200) 3) (am_lf pc 110 (.iconst 1) 1))) (cond (Nat.blt pc 115) (cond (Nat.blt pc 112) (am_lf pc 111 .iadd 1) (am_lf pc 112 (.putfield 200) 3)) (cond (Nat.blt pc 116) (am_lf pc 115 (.aload_n 0) 1) (cond (Nat.blt pc 117) (am_lf pc 116 (.iload_n 1) 1) (am_lf pc 117 (.putfield 193) 3))))) (cond (Nat.blt pc 130) (cond (Nat.blt pc 124) (cond (Nat.blt pc 121) (am_lf pc 120 (.iload_n 1) 1) (am_lf pc 121 (.ifCond .eq 16) 3)) (cond (Nat.blt pc 125) (am_lf pc 124 (.aload_n 0) 1) (cond (Nat.blt pc 127) (am_lf pc 125 (.bipush 44) 2) (am_lf pc 127 (.invokevirtual 203) 3)))) (cond (Nat.blt pc 134) (cond (Nat.blt pc 133) (am_lf pc 130 (.ifCond .eq 7) 3) (am_lf pc 133 (.iconst 1) 1)) (cond (Nat.blt pc 137) (am_lf pc 134 (.goto 4) 3) (cond (Nat.blt pc 138) (am_lf pc 137 (.iconst 0) 1) (am_lf pc 138 .ireturn 1)))))))))
def tk_X6_readNumber : Nat → Option (Instr × Nat) := am_guard 120 (fun pc => (cond (Nat.blt pc 62) (cond (Nat.blt pc 28) (cond (Nat.blt pc 14) (cond (Nat.blt pc 6) (cond (Nat.blt pc 4) (cond (Nat.blt pc 1) (am_lf pc 0 (.aload_n 0) 1) (am_lf pc 1 (.getfield 187) 3)) (cond (Nat.blt pc 5) (am_lf pc 4 (.istore_n 2) 1) (am_lf pc 5 (.aload_n 0) 1))) (cond (Nat.blt pc 10) (cond (Nat.blt pc 7) (am_lf pc 6 (.iconst 0) 1) (am_lf pc 7 (.putfield 190) 3)) (cond (Nat.blt pc 11) (am_lf pc 10 (.aload_n 0) 1) (am_lf pc 11 (.getfield 187) 3)))) (cond (Nat.blt pc 22) (cond (Nat.blt pc 18) (cond (Nat.blt pc 15) (am_lf pc 14 (.aload_n 0) 1) (am_lf pc 15 (.getfield 184) 3)) (cond (Nat.blt pc 21) (am_lf pc 18 (.if_icmp .ge 88) 3) (am_lf pc 21 (.aload_n 0) 1))) (cond (Nat.blt pc 26) (cond (Nat.blt pc 25) (am_lf pc 22 (.getfield 187) 3) (am_lf pc 25 (.iload_n 2) 1)) (cond (Nat.blt pc 27) (am_lf pc 26 (.iload_n 1) 1) (am_lf pc 27 .iadd 1))))) (cond (Nat.blt pc 44) (cond (Nat.blt pc 36) (cond (Nat.blt pc 32) (cond (Nat.blt pc 31) (am_lf pc 28 (.if_icmp .ge 78) 3) (am_lf pc 31 (.aload_n 0) 1)) (cond (Nat.blt pc 35) (am_lf pc 32 (.getfield 16) 3) (am_lf pc 35 (.aload_n 0) 1))) (cond (Nat.blt pc 40) (cond (Nat.blt pc 39) (am_lf pc 36 (.getfield 187) 3) (am_lf pc 39 .iaload 1)) (cond (Nat.blt pc 42) (am_lf pc 40 (.bipush 48) 2) (am_lf pc 42 (.bipush 57) 2)))) (cond (Nat.blt pc 54) (cond (Nat.blt pc 50) (cond (Nat.blt pc 47) (am_lf pc 44 (.invokestatic 47) 3) (am_lf pc 47 (.ifCond .eq 59) 3)) (cond (Nat.blt pc 51) (am_lf pc 50 (.aload_n 0) 1) (am_lf pc 51 (.getfield 187) 3))) (cond (Nat.blt pc 58) (cond (Nat.blt pc 55) (am_lf pc 54 (.iload_n 2) 1) (am_lf pc 55 (.if_icmp .eq 14) 3)) (cond (Nat.blt pc 59) (am_lf pc 58 (.aload_n 0) 1) (am_lf pc 59 (.getfield 16) 3)))))) (cond (Nat.blt pc 89) (cond (Nat.blt pc 76) (cond (Nat.blt pc 69) (cond (Nat.blt pc 64) (cond (Nat.blt pc 63) (am_lf pc 62 (.iload_n 2) 1) (am_lf pc 63 .iaload 1)) (cond (Nat.blt pc 66) (am_lf pc 64 (.bipush 48) 2) (am_lf pc 66 (.if_icmp .eq 40) 3))) (cond (Nat.blt pc 72) (cond (Nat.blt pc 70) (am_lf pc 69 (.aload_n 0) 1) (am_lf pc 70 (.bipush 10) 2)) (cond (Nat.blt pc 73) (am_lf pc 72 (.aload_n 0) 1) (am_lf pc 73 (.getfield 190) 3)))) (cond (Nat.blt pc 82) (cond (Nat.blt pc 78) (cond (Nat.blt pc 77) (am_lf pc 76 .imul 1) (am_lf pc 77 (.aload_n 0) 1)) (cond (Nat.blt pc 81) (am_lf pc 78 (.getfield 16) 3) (am_lf pc 81 (.aload_n 0) 1))) (cond (Nat.blt pc 86) (cond (Nat.blt pc 85) (am_lf pc 82 (.getfield 187) 3) (am_lf pc 85 .iaload 1)) (cond (Nat.blt pc 87) (am_lf pc 86 .iadd 1) (am_lf pc 87 (.bipush 48) 2))))) (cond (Nat.blt pc 103) (cond (Nat.blt pc 95) (cond (Nat.blt pc 93) (cond (Nat.blt pc 90) (am_lf pc 89 .isub 1) (am_lf pc 90 (.putfield 190) 3)) (cond (Nat.blt pc 94) (am_lf pc 93 (.aload_n 0) 1) (am_lf pc 94 .dup 1))) (cond (Nat.blt pc 99) (cond (Nat.blt pc 98) (am_lf pc 95 (.getfield 187) 3) (am_lf pc 98 (.iconst 1) 1)) (cond (Nat.blt pc 100) (am_lf pc 99 .iadd 1) (am_lf pc 100 (.putfield 187) 3)))) (cond (Nat.blt pc 111) (cond (Nat.blt pc 107) (cond (Nat.blt pc 106) (am_lf pc 103 (.goto (-93)) 3) (am_lf pc 106 (.aload_n 0) 1)) (cond (Nat.blt pc 110) (am_lf pc 107 (.getfield 187) 3) (am_lf pc 110 (.iload_n 2) 1))) (cond (Nat.blt pc 115) (cond (Nat.blt pc 114) (am_lf pc 111 (.if_icmp .le 7) 3) (am_lf pc 114 (.iconst 1) 1)) (cond (Nat.blt pc 118) (am_lf pc 115 (.goto 4) 3) (cond (Nat.blt pc 119) (am_lf pc 118 (.iconst 0) 1) (am_lf pc 119 .ireturn 1)))))))))
def tk_X6_sign : Nat → Option (Instr × Nat) := am_guard 50 (fun pc => (cond (Nat.blt pc 28) (cond (Nat.blt pc 15) (cond (Nat.blt pc 5) (cond (Nat.blt pc 1) (am_lf pc 0 (.aload_n 0) 1) (cond (Nat.blt pc 4) (am_lf pc 1 (.getfield 187) 3) (am_lf pc 4 (.aload_n 0) 1))) (cond (Nat.blt pc 11) (cond (Nat.blt pc 8) (am_lf pc 5 (.getfield 184) 3) (am_lf pc 8 (.if_icmp .ge 20) 3)) (cond (Nat.blt pc 12) (am_lf pc 11 (.aload_n 0) 1) (am_lf pc 12 (.getfield 16) 3)))) (cond (Nat.blt pc 20) (cond (Nat.blt pc 16) (am_lf pc 15 (.aload_n 0) 1) (cond (Nat.blt pc 19) (am_lf pc 16 (.getfield 187) 3) (am_lf pc 19 .iaload 1))) (cond (Nat.blt pc 24) (cond (Nat.blt pc 21) (am_lf pc 20 (.iload_n 1) 1) (am_lf pc 21 (.if_icmp .ne 7) 3)) (cond (Nat.blt pc 25) (am_lf pc 24 (.iconst 1) 1) (am_lf pc 25 (.goto 4) 3))))) (cond (Nat.blt pc 39) (cond (Nat.blt pc 31) (cond (Nat.blt pc 29) (am_lf pc 28 (.iconst 0) 1) (cond (Nat.blt pc 30) (am_lf pc 29 (.istore_n 2) 1) (am_lf pc 30 (.aload_n 0) 1))) (cond (Nat.blt pc 35) (cond (Nat.blt pc 32) (am_lf pc 31 .dup 1) (am_lf pc 32 (.getfield 187) 3)) (cond (Nat.blt pc 36) (am_lf pc 35 (.iload_n 2) 1) (am_lf pc 36 (.ifCond .eq 7) 3)))) (cond (Nat.blt pc 44) (cond (Nat.blt pc 40) (am_lf pc 39 (.iconst 1) 1) (cond (Nat.blt pc 43) (am_lf pc 40 (.goto 4) 3) (am_lf pc 43 (.iconst 0) 1))) (cond (Nat.blt pc 48) (cond (Nat.blt pc 45) (am_lf pc 44 .iadd 1) (am_lf pc 45 (.putfield 187) 3)) (cond (Nat.blt pc 49) (am_lf pc 48 (.iload_n 2) 1) (am_lf pc 49 .ireturn 1)))))))
def tk_X6_addAll : Nat → Option (Instr × Nat) := am_guard 187 (fun pc => (cond (Nat.blt pc 92) (cond (Nat.blt pc 49) (cond (Nat.blt pc 25) (cond (Nat.blt pc 10) (cond (Nat.blt pc 5) (cond (Nat.blt pc 1) (am_lf pc 0 (.aload_n 0) 1) (cond (Nat.blt pc 2) (am_lf pc 1 (.iconst 0) 1) (am_lf pc 2 (.putfield 40) 3))) (cond (Nat.blt pc 6) (am_lf pc 5 (.aload_n 0) 1) (cond (Nat.blt pc 9) (am_lf pc 6 (.invokevirtual 210) 3) (am_lf pc 9 (.aload_n 0) 1)))) (cond (Nat.blt pc 17) (cond (Nat.blt pc 13) (am_lf pc 10 (.getfield 184) 3) (cond (Nat.blt pc 16) (am_lf pc 13 (.if_icmp .lt 10) 3) (am_lf pc 16 (.aload_n 0) 1))) (cond (Nat.blt pc 23) (cond (Nat.blt pc 20) (am_lf pc 17 (.getfield 193) 3) (am_lf pc 20 (.ifCond .ne 9) 3)) (cond (Nat.blt pc 24) (am_lf pc 23 (.aload_n 0) 1) (am_lf pc 24 (.iconst 1) 1))))) (cond (Nat.blt pc 35) (cond (Nat.blt pc 30) (cond (Nat.blt pc 28) (am_lf pc 25 (.invokevirtual 141) 3) (cond (Nat.blt pc 29) (am_lf pc 28 .ireturn 1) (am_lf pc 29 (.aload_n 0) 1))) (cond (Nat.blt pc 33) (am_lf pc 30 (.getfield 7) 3) (cond (Nat.blt pc 34) (am_lf pc 33 (.iconst 0) 1) (am_lf pc 34 .iaload 1)))) (cond (Nat.blt pc 40) (cond (Nat.blt pc 36) (am_lf pc 35 (.aload_n 0) 1) (cond (Nat.blt pc 39) (am_lf pc 36 (.getfield 200) 3) (am_lf pc 39 .iadd 1))) (cond (Nat.blt pc 45) (cond (Nat.blt pc 42) (am_lf pc 40 (.bipush 60) 2) (am_lf pc 42 (.if_icmp .gt 7) 3)) (cond (Nat.blt pc 46) (am_lf pc 45 (.iconst 1) 1) (am_lf pc 46 (.goto 4) 3)))))) (cond (Nat.blt pc 70) (cond (Nat.blt pc 55) (cond (Nat.blt pc 52) (cond (Nat.blt pc 50) (am_lf pc 49 (.iconst 0) 1) (cond (Nat.blt pc 51) (am_lf pc 50 (.istore_n 1) 1) (am_lf pc 51 (.iconst 0) 1))) (cond (Nat.blt pc 53) (am_lf pc 52 (.istore_n 2) 1) (cond (Nat.blt pc 54) (am_lf pc 53 (.iload_n 2) 1) (am_lf pc 54 (.aload_n 0) 1)))) (cond (Nat.blt pc 62) (cond (Nat.blt pc 58) (am_lf pc 55 (.getfield 200) 3) (cond (Nat.blt pc 61) (am_lf pc 58 (.if_icmp .ge 70) 3) (am_lf pc 61 (.iload_n 1) 1))) (cond (Nat.blt pc 66) (cond (Nat.blt pc 65) (am_lf pc 62 (.ifCond .eq 66) 3) (am_lf pc 65 (.aload_n 0) 1)) (cond (Nat.blt pc 67) (am_lf pc 66 (.aload_n 0) 1) (am_lf pc 67 (.getfield 34) 3))))) (cond (Nat.blt pc 83) (cond (Nat.blt pc 75) (cond (Nat.blt pc 71) (am_lf pc 70 (.iload_n 2) 1) (cond (Nat.blt pc 72) (am_lf pc 71 .iaload 1) (am_lf pc 72 (.invokevirtual 144) 3))) (cond (Nat.blt pc 79) (cond (Nat.blt pc 78) (am_lf pc 75 (.ifCond .ne 7) 3) (am_lf pc 78 (.iconst 1) 1)) (cond (Nat.blt pc 82) (am_lf pc 79 (.goto 4) 3) (am_lf pc 82 (.iconst 0) 1)))) (cond (Nat.blt pc 86) (cond (Nat.blt pc 84) (am_lf pc 83 (.istore_n 1) 1) (cond (Nat.blt pc 85) (am_lf pc 84 (.iconst 0) 1) (am_lf pc 85 (.istore_n 3) 1))) (cond (Nat.blt pc 88) (cond (Nat.blt pc 87) (am_lf pc 86 (.iload_n 3) 1) (am_lf pc 87 (.iload_n 2) 1)) (cond (Nat.blt pc 91) (am_lf pc 88 (.if_icmp .ge 34) 3) (am_lf pc 91 (.iload_n 1) 1))))))) (cond (Nat.blt pc 142) (cond (Nat.blt pc 115) (cond (Nat.blt pc 102) (cond (Nat.blt pc 99) (cond (Nat.blt pc 95) (am_lf pc 92 (.ifCond .eq 30) 3) (cond (Nat.blt pc 96) (am_lf pc 95 (.aload_n 0) 1) (am_lf pc 96 (.getfield 34) 3))) (cond (Nat.blt pc 100) (am_lf pc 99 (.iload_n 3) 1) (cond (Nat.blt pc 101) (am_lf pc 100 .iaload 1) (am_lf pc 101 (.aload_n 0) 1)))) (cond (Nat.blt pc 107) (cond (Nat.blt pc 105) (am_lf pc 102 (.getfield 34) 3) (cond (Nat.blt pc 106) (am_lf pc 105 (.iload_n 2) 1) (am_lf pc 106 .iaload 1))) (cond (Nat.blt pc 111) (cond (Nat.blt pc 110) (am_lf pc 107 (.if_icmp .eq 7) 3) (am_lf pc 110 (.iconst 1) 1)) (cond (Nat.blt pc 114) (am_lf pc 111 (.goto 4) 3) (am_lf pc 114 (.iconst 0) 1))))) (cond (Nat.blt pc 129) (cond (Nat.blt pc 122) (cond (Nat.blt pc 116) (am_lf pc 115 (.istore_n 1) 1) (cond (Nat.blt pc 119) (am_lf pc 116 (.iinc 3 1) 3) (am_lf pc 119 (.goto (-33)) 3))) (cond (Nat.blt pc 125) (am_lf pc 122 (.iinc 2 1) 3) (cond (Nat.blt pc 128) (am_lf pc 125 (.goto (-72)) 3) (am_lf pc 128 (.iload_n 1) 1)))) (cond (Nat.blt pc 134) (cond (Nat.blt pc 132) (am_lf pc 129 (.ifCond .ne 9) 3) (cond (Nat.blt pc 133) (am_lf pc 132 (.aload_n 0) 1) (am_lf pc 133 (.iconst 2) 1))) (cond (Nat.blt pc 138) (cond (Nat.blt pc 137) (am_lf pc 134 (.invokevirtual 141) 3) (am_lf pc 137 .ireturn 1)) (cond (Nat.blt pc 139) (am_lf pc 138 (.aload_n 0) 1) (am_lf pc 139 (.invokevirtual 147) 3)))))) (cond (Nat.blt pc 163) (cond (Nat.blt pc 152) (cond (Nat.blt pc 145) (cond (Nat.blt pc 143) (am_lf pc 142 (.iconst 0) 1) (cond (Nat.blt pc 144) (am_lf pc 143 (.istore_n 2) 1) (am_lf pc 144 (.iload_n 2) 1))) (cond (Nat.blt pc 146) (am_lf pc 145 (.aload_n 0) 1) (cond (Nat.blt pc 149) (am_lf pc 146 (.getfield 200) 3) (am_lf pc 149 (.if_icmp .ge 26) 3)))) (cond (Nat.blt pc 157) (cond (Nat.blt pc 153) (am_lf pc 152 (.aload_n 0) 1) (cond (Nat.blt pc 154) (am_lf pc 153 (.aload_n 0) 1) (am_lf pc 154 (.getfield 34) 3))) (cond (Nat.blt pc 159) (cond (Nat.blt pc 158) (am_lf pc 157 (.iload_n 2) 1) (am_lf pc 158 .iaload 1)) (cond (Nat.blt pc 160) (am_lf pc 159 (.aload_n 0) 1) (am_lf pc 160 (.getfield 37) 3))))) (cond (Nat.blt pc 176) (cond (Nat.blt pc 168) (cond (Nat.blt pc 164) (am_lf pc 163 (.iload_n 2) 1) (cond (Nat.blt pc 165) (am_lf pc 164 .iaload 1) (am_lf pc 165 (.invokevirtual 150) 3))) (cond (Nat.blt pc 172) (cond (Nat.blt pc 169) (am_lf pc 168 .pop 1) (am_lf pc 169 (.iinc 2 1) 3)) (cond (Nat.blt pc 175) (am_lf pc 172 (.goto (-28)) 3) (am_lf pc 175 (.aload_n 0) 1)))) (cond (Nat.blt pc 181) (cond (Nat.blt pc 177) (am_lf pc 176 (.iconst 0) 1) (cond (Nat.blt pc 180) (am_lf pc 177 (.putfield 184) 3) (am_lf pc 180 (.aload_n 0) 1))) (cond (Nat.blt pc 185) (cond (Nat.blt pc 184) (am_lf pc 181 (.getfield 7) 3) (am_lf pc 184 (.iconst 0) 1)) (cond (Nat.blt pc 186) (am_lf pc 185 .iaload 1) (am_lf pc 186 .ireturn 1)))))))))
def tk_X6_undo : Nat → Option (Instr × Nat) := am_guard 69 (fun pc => (cond (Nat.blt pc 31) (cond (Nat.blt pc 17) (cond (Nat.blt pc 6) (cond (Nat.blt pc 2) (cond (Nat.blt pc 1) (am_lf pc 0 (.aload_n 0) 1) (am_lf pc 1 (.iconst 0) 1)) (cond (Nat.blt pc 5) (am_lf pc 2 (.putfield 40) 3) (am_lf pc 5 (.aload_n 0) 1))) (cond (Nat.blt pc 12) (cond (Nat.blt pc 9) (am_lf pc 6 (.getfield 44) 3) (am_lf pc 9 (.ifCond .ne 9) 3)) (cond (Nat.blt pc 13) (am_lf pc 12 (.aload_n 0) 1) (cond (Nat.blt pc 14) (am_lf pc 13 (.iconst 1) 1) (am_lf pc 14 (.invokevirtual 141) 3))))) (cond (Nat.blt pc 24) (cond (Nat.blt pc 19) (cond (Nat.blt pc 18) (am_lf pc 17 .ireturn 1) (am_lf pc 18 (.aload_n 0) 1)) (cond (Nat.blt pc 20) (am_lf pc 19 .dup 1) (cond (Nat.blt pc 23) (am_lf pc 20 (.getfield 44) 3) (am_lf pc 23 (.iconst 1) 1)))) (cond (Nat.blt pc 28) (cond (Nat.blt pc 25) (am_lf pc 24 .isub 1) (am_lf pc 25 (.putfield 44) 3)) (cond (Nat.blt pc 29) (am_lf pc 28 (.iconst 0) 1) (cond (Nat.blt pc 30) (am_lf pc 29 (.istore_n 1) 1) (am_lf pc 30 (.iload_n 1) 1)))))) (cond (Nat.blt pc 53) (cond (Nat.blt pc 42) (cond (Nat.blt pc 37) (cond (Nat.blt pc 34) (am_lf pc 31 (.sipush 203) 3) (am_lf pc 34 (.if_icmp .ge 30) 3)) (cond (Nat.blt pc 38) (am_lf pc 37 (.aload_n 0) 1) (cond (Nat.blt pc 41) (am_lf pc 38 (.getfield 7) 3) (am_lf pc 41 (.iload_n 1) 1)))) (cond (Nat.blt pc 46) (cond (Nat.blt pc 43) (am_lf pc 42 (.aload_n 0) 1) (am_lf pc 43 (.getfield 13) 3)) (cond (Nat.blt pc 49) (am_lf pc 46 (.sipush 203) 3) (cond (Nat.blt pc 50) (am_lf pc 49 (.aload_n 0) 1) (am_lf pc 50 (.getfield 44) 3))))) (cond (Nat.blt pc 58) (cond (Nat.blt pc 55) (cond (Nat.blt pc 54) (am_lf pc 53 .imul 1) (am_lf pc 54 (.iload_n 1) 1)) (cond (Nat.blt pc 56) (am_lf pc 55 .iadd 1) (cond (Nat.blt pc 57) (am_lf pc 56 .iaload 1) (am_lf pc 57 .iastore 1)))) (cond (Nat.blt pc 64) (cond (Nat.blt pc 61) (am_lf pc 58 (.iinc 1 1) 3) (am_lf pc 61 (.goto (-31)) 3)) (cond (Nat.blt pc 65) (am_lf pc 64 (.aload_n 0) 1) (cond (Nat.blt pc 68) (am_lf pc 65 (.getfield 44) 3) (am_lf pc 68 .ireturn 1))))))))
def tk_X6_point : Nat → Option (Instr × Nat) := am_guard 44 (fun pc => (cond (Nat.blt pc 20) (cond (Nat.blt pc 10) (cond (Nat.blt pc 5) (cond (Nat.blt pc 1) (am_lf pc 0 (.aload_n 0) 1) (cond (Nat.blt pc 2) (am_lf pc 1 (.iconst 0) 1) (am_lf pc 2 (.putfield 40) 3))) (cond (Nat.blt pc 6) (am_lf pc 5 (.aload_n 0) 1) (cond (Nat.blt pc 7) (am_lf pc 6 (.iload_n 1) 1) (am_lf pc 7 (.invokevirtual 153) 3)))) (cond (Nat.blt pc 15) (cond (Nat.blt pc 13) (am_lf pc 10 (.ifCond .ne 9) 3) (cond (Nat.blt pc 14) (am_lf pc 13 (.aload_n 0) 1) (am_lf pc 14 (.iconst 1) 1))) (cond (Nat.blt pc 18) (am_lf pc 15 (.invokevirtual 141) 3) (cond (Nat.blt pc 19) (am_lf pc 18 .ireturn 1) (am_lf pc 19 (.iload_n 2) 1))))) (cond (Nat.blt pc 31) (cond (Nat.blt pc 26) (cond (Nat.blt pc 21) (am_lf pc 20 (.iconst 0) 1) (cond (Nat.blt pc 23) (am_lf pc 21 (.bipush 7) 2) (am_lf pc 23 (.invokestatic 47) 3))) (cond (Nat.blt pc 29) (am_lf pc 26 (.ifCond .eq 12) 3) (cond (Nat.blt pc 30) (am_lf pc 29 (.aload_n 0) 1) (am_lf pc 30 (.iload_n 1) 1)))) (cond (Nat.blt pc 38) (cond (Nat.blt pc 32) (am_lf pc 31 (.iload_n 2) 1) (cond (Nat.blt pc 35) (am_lf pc 32 (.invokevirtual 217) 3) (am_lf pc 35 (.goto 8) 3))) (cond (Nat.blt pc 40) (cond (Nat.blt pc 39) (am_lf pc 38 (.aload_n 0) 1) (am_lf pc 39 (.iconst 2) 1)) (cond (Nat.blt pc 43) (am_lf pc 40 (.invokevirtual 141) 3) (am_lf pc 43 .ireturn 1)))))))
def tk_X6_aboutPoint : Nat → Option (Instr × Nat) := am_guard 121 (fun pc => (cond (Nat.blt pc 82) (cond (Nat.blt pc 61) (cond (Nat.blt pc 53) (cond (Nat.blt pc 48) (cond (Nat.blt pc 1) (am_lf pc 0 (.iload_n 2) 1) (am_lf pc 1 (.tableswitch 95 0 7 #[47, 53, 59, 69, 83, 95, 95, 89]) 47)) (cond (Nat.blt pc 49) (am_lf pc 48 (.aload_n 0) 1) (cond (Nat.blt pc 50) (am_lf pc 49 (.iload_n 1) 1) (am_lf pc 50 (.invokevirtual 51) 3)))) (cond (Nat.blt pc 56) (cond (Nat.blt pc 54) (am_lf pc 53 .ireturn 1) (cond (Nat.blt pc 55) (am_lf pc 54 (.aload_n 0) 1) (am_lf pc 55 (.iload_n 1) 1))) (cond (Nat.blt pc 59) (am_lf pc 56 (.invokevirtual 62) 3) (cond (Nat.blt pc 60) (am_lf pc 59 .ireturn 1) (am_lf pc 60 (.aload_n 0) 1))))) (cond (Nat.blt pc 70) (cond (Nat.blt pc 67) (cond (Nat.blt pc 64) (am_lf pc 61 (.getfield 7) 3) (cond (Nat.blt pc 66) (am_lf pc 64 (.bipush 127) 2) (am_lf pc 66 (.iload_n 1) 1))) (cond (Nat.blt pc 68) (am_lf pc 67 .iadd 1) (cond (Nat.blt pc 69) (am_lf pc 68 .iaload 1) (am_lf pc 69 .ireturn 1)))) (cond (Nat.blt pc 75) (cond (Nat.blt pc 71) (am_lf pc 70 (.aload_n 0) 1) (cond (Nat.blt pc 72) (am_lf pc 71 (.iload_n 1) 1) (am_lf pc 72 (.invokevirtual 169) 3))) (cond (Nat.blt pc 78) (am_lf pc 75 (.ifCond .eq 7) 3) (cond (Nat.blt pc 79) (am_lf pc 78 (.iconst 1) 1) (am_lf pc 79 (.goto 4) 3)))))) (cond (Nat.blt pc 97) (cond (Nat.blt pc 89) (cond (Nat.blt pc 84) (cond (Nat.blt pc 83) (am_lf pc 82 (.iconst 0) 1) (am_lf pc 83 .ireturn 1)) (cond (Nat.blt pc 85) (am_lf pc 84 (.aload_n 0) 1) (cond (Nat.blt pc 86) (am_lf pc 85 (.iload_n 1) 1) (am_lf pc 86 (.invokevirtual 59) 3)))) (cond (Nat.blt pc 92) (cond (Nat.blt pc 90) (am_lf pc 89 .ireturn 1) (cond (Nat.blt pc 91) (am_lf pc 90 (.aload_n 0) 1) (am_lf pc 91 (.iload_n 1) 1))) (cond (Nat.blt pc 95) (am_lf pc 92 (.invokevirtual 163) 3) (cond (Nat.blt pc 96) (am_lf pc 95 .ireturn 1) (am_lf pc 96 (.aload_n 0) 1))))) (cond (Nat.blt pc 107) (cond (Nat.blt pc 102) (cond (Nat.blt pc 98) (am_lf pc 97 (.iload_n 1) 1) (cond (Nat.blt pc 101) (am_lf pc 98 (.invokevirtual 156) 3) (am_lf pc 101 (.iload_n 2) 1))) (cond (Nat.blt pc 103) (am_lf pc 102 (.iconst 5) 1) (cond (Nat.blt pc 106) (am_lf pc 103 (.if_icmp .ne 10) 3) (am_lf pc 106 (.aload_n 0) 1)))) (cond (Nat.blt pc 114) (cond (Nat.blt pc 110) (am_lf pc 107 (.getfield 83) 3) (cond (Nat.blt pc 113) (am_lf pc 110 (.goto 7) 3) (am_lf pc 113 (.aload_n 0) 1))) (cond (Nat.blt pc 117) (am_lf pc 114 (.getfield 86) 3) (cond (Nat.blt pc 120) (am_lf pc 117 (.invokestatic 214) 3) (am_lf pc 120 .ireturn 1))))))))
def tk_X6_orNone : Nat → Option (Instr × Nat) := am_guard 11 (fun pc => (cond (Nat.blt pc 6) (cond (Nat.blt pc 1) (am_lf pc 0 (.iload_n 0) 1) (cond (Nat.blt pc 4) (am_lf pc 1 (.ifCond .ge 8) 3) (am_lf pc 4 (.ldc 213) 2))) (cond (Nat.blt pc 9) (am_lf pc 6 (.goto 4) 3) (cond (Nat.blt pc 10) (am_lf pc 9 (.iload_n 0) 1) (am_lf pc 10 .ireturn 1)))))
def tk_X6_error : Nat → Option (Instr × Nat) := am_guard 43 (fun pc => (cond (Nat.blt pc 20) (cond (Nat.blt pc 10) (cond (Nat.blt pc 5) (cond (Nat.blt pc 1) (am_lf pc 0 (.aload_n 0) 1) (cond (Nat.blt pc 2) (am_lf pc 1 (.iconst 0) 1) (am_lf pc 2 (.putfield 40) 3))) (cond (Nat.blt pc 6) (am_lf pc 5 (.aload_n 0) 1) (cond (Nat.blt pc 7) (am_lf pc 6 (.iload_n 1) 1) (am_lf pc 7 (.invokevirtual 153) 3)))) (cond (Nat.blt pc 15) (cond (Nat.blt pc 13) (am_lf pc 10 (.ifCond .ne 9) 3) (cond (Nat.blt pc 14) (am_lf pc 13 (.aload_n 0) 1) (am_lf pc 14 (.iconst 1) 1))) (cond (Nat.blt pc 18) (am_lf pc 15 (.invokevirtual 141) 3) (cond (Nat.blt pc 19) (am_lf pc 18 .ireturn 1) (am_lf pc 19 (.iload_n 2) 1))))) (cond (Nat.blt pc 30) (cond (Nat.blt pc 25) (cond (Nat.blt pc 21) (am_lf pc 20 (.iconst 0) 1) (cond (Nat.blt pc 22) (am_lf pc 21 (.iconst 1) 1) (am_lf pc 22 (.invokestatic 47) 3))) (cond (Nat.blt pc 28) (am_lf pc 25 (.ifCond .eq 12) 3) (cond (Nat.blt pc 29) (am_lf pc 28 (.aload_n 0) 1) (am_lf pc 29 (.iload_n 1) 1)))) (cond (Nat.blt pc 37) (cond (Nat.blt pc 31) (am_lf pc 30 (.iload_n 2) 1) (cond (Nat.blt pc 34) (am_lf pc 31 (.invokevirtual 223) 3) (am_lf pc 34 (.goto 8) 3))) (cond (Nat.blt pc 39) (cond (Nat.blt pc 38) (am_lf pc 37 (.aload_n 0) 1) (am_lf pc 38 (.iconst 2) 1)) (cond (Nat.blt pc 42) (am_lf pc 39 (.invokevirtual 141) 3) (am_lf pc 42 .ireturn 1)))))))
def tk_X6_errorOf : Nat → Option (Instr × Nat) := am_guard 34 (fun pc => (cond (Nat.blt pc 15) (cond (Nat.blt pc 6) (cond (Nat.blt pc 2) (cond (Nat.blt pc 1) (am_lf pc 0 (.aload_n 0) 1) (am_lf pc 1 (.aload_n 0) 1)) (cond (Nat.blt pc 3) (am_lf pc 2 (.iload_n 1) 1) (am_lf pc 3 (.invokevirtual 51) 3))) (cond (Nat.blt pc 8) (cond (Nat.blt pc 7) (am_lf pc 6 (.aload_n 0) 1) (am_lf pc 7 (.iload_n 1) 1)) (cond (Nat.blt pc 11) (am_lf pc 8 (.invokevirtual 62) 3) (cond (Nat.blt pc 14) (am_lf pc 11 (.invokevirtual 108) 3) (am_lf pc 14 (.istore_n 3) 1))))) (cond (Nat.blt pc 25) (cond (Nat.blt pc 19) (cond (Nat.blt pc 16) (am_lf pc 15 (.iload_n 3) 1) (am_lf pc 16 (.ifCond .ge 8) 3)) (cond (Nat.blt pc 21) (am_lf pc 19 (.ldc 213) 2) (cond (Nat.blt pc 24) (am_lf pc 21 (.goto 12) 3) (am_lf pc 24 (.iload_n 3) 1)))) (cond (Nat.blt pc 29) (cond (Nat.blt pc 26) (am_lf pc 25 (.aload_n 0) 1) (am_lf pc 26 (.getfield 99) 3)) (cond (Nat.blt pc 30) (am_lf pc 29 (.iload_n 2) 1) (cond (Nat.blt pc 33) (am_lf pc 30 (.invokestatic 220) 3) (am_lf pc 33 .ireturn 1)))))))
def tk_X6_lowest : Nat → Option (Instr × Nat) := am_guard 23 (fun pc => (cond (Nat.blt pc 13) (cond (Nat.blt pc 5) (cond (Nat.blt pc 1) (am_lf pc 0 (.iload_n 0) 1) (cond (Nat.blt pc 4) (am_lf pc 1 (.invokestatic 73) 3) (am_lf pc 4 (.iload_n 1) 1))) (cond (Nat.blt pc 9) (cond (Nat.blt pc 8) (am_lf pc 5 (.invokestatic 115) 3) (am_lf pc 8 (.istore_n 3) 1)) (cond (Nat.blt pc 10) (am_lf pc 9 (.iload_n 2) 1) (am_lf pc 10 (.ifCond .ne 9) 3)))) (cond (Nat.blt pc 19) (cond (Nat.blt pc 15) (cond (Nat.blt pc 14) (am_lf pc 13 (.iload_n 0) 1) (am_lf pc 14 (.iload_n 3) 1)) (cond (Nat.blt pc 16) (am_lf pc 15 .idiv 1) (am_lf pc 16 (.goto 6) 3))) (cond (Nat.blt pc 21) (cond (Nat.blt pc 20) (am_lf pc 19 (.iload_n 1) 1) (am_lf pc 20 (.iload_n 3) 1)) (cond (Nat.blt pc 22) (am_lf pc 21 .idiv 1) (am_lf pc 22 .ireturn 1))))))
def tk_X6_common : Nat → Option (Instr × Nat) := am_guard 23 (fun pc => (cond (Nat.blt pc 10) (cond (Nat.blt pc 4) (cond (Nat.blt pc 2) (cond (Nat.blt pc 1) (am_lf pc 0 (.iload_n 0) 1) (am_lf pc 1 (.istore_n 2) 1)) (cond (Nat.blt pc 3) (am_lf pc 2 (.iload_n 1) 1) (am_lf pc 3 (.istore_n 3) 1))) (cond (Nat.blt pc 8) (cond (Nat.blt pc 5) (am_lf pc 4 (.iload_n 3) 1) (am_lf pc 5 (.ifCond .eq 16) 3)) (cond (Nat.blt pc 9) (am_lf pc 8 (.iload_n 2) 1) (am_lf pc 9 (.iload_n 3) 1)))) (cond (Nat.blt pc 15) (cond (Nat.blt pc 13) (cond (Nat.blt pc 11) (am_lf pc 10 .irem 1) (am_lf pc 11 (.istore 4) 2)) (cond (Nat.blt pc 14) (am_lf pc 13 (.iload_n 3) 1) (am_lf pc 14 (.istore_n 2) 1))) (cond (Nat.blt pc 18) (cond (Nat.blt pc 17) (am_lf pc 15 (.iload 4) 2) (am_lf pc 17 (.istore_n 3) 1)) (cond (Nat.blt pc 21) (am_lf pc 18 (.goto (-14)) 3) (cond (Nat.blt pc 22) (am_lf pc 21 (.iload_n 2) 1) (am_lf pc 22 .ireturn 1)))))))
def tk_X6_reading : Nat → Option (Instr × Nat) := am_guard 61 (fun pc => (cond (Nat.blt pc 30) (cond (Nat.blt pc 16) (cond (Nat.blt pc 6) (cond (Nat.blt pc 2) (cond (Nat.blt pc 1) (am_lf pc 0 (.aload_n 0) 1) (am_lf pc 1 (.iconst 0) 1)) (cond (Nat.blt pc 5) (am_lf pc 2 (.putfield 40) 3) (am_lf pc 5 (.iload_n 1) 1))) (cond (Nat.blt pc 10) (cond (Nat.blt pc 7) (am_lf pc 6 (.iconst 0) 1) (am_lf pc 7 (.sipush 9999) 3)) (cond (Nat.blt pc 13) (am_lf pc 10 (.invokestatic 47) 3) (am_lf pc 13 (.ifCond .eq 12) 3)))) (cond (Nat.blt pc 22) (cond (Nat.blt pc 18) (cond (Nat.blt pc 17) (am_lf pc 16 (.iload_n 2) 1) (am_lf pc 17 (.iconst 0) 1)) (cond (Nat.blt pc 19) (am_lf pc 18 (.iconst 1) 1) (am_lf pc 19 (.invokestatic 47) 3))) (cond (Nat.blt pc 26) (cond (Nat.blt pc 25) (am_lf pc 22 (.ifCond .ne 9) 3) (am_lf pc 25 (.aload_n 0) 1)) (cond (Nat.blt pc 27) (am_lf pc 26 (.iconst 1) 1) (am_lf pc 27 (.invokevirtual 141) 3))))) (cond (Nat.blt pc 45) (cond (Nat.blt pc 36) (cond (Nat.blt pc 32) (cond (Nat.blt pc 31) (am_lf pc 30 .ireturn 1) (am_lf pc 31 (.aload_n 0) 1)) (cond (Nat.blt pc 33) (am_lf pc 32 (.iload_n 1) 1) (am_lf pc 33 (.invokevirtual 105) 3))) (cond (Nat.blt pc 40) (cond (Nat.blt pc 37) (am_lf pc 36 (.aload_n 0) 1) (am_lf pc 37 (.getfield 99) 3)) (cond (Nat.blt pc 43) (am_lf pc 40 (.ifCond .ne 8) 3) (am_lf pc 43 (.ldc 213) 2)))) (cond (Nat.blt pc 53) (cond (Nat.blt pc 49) (cond (Nat.blt pc 48) (am_lf pc 45 (.goto 15) 3) (am_lf pc 48 (.aload_n 0) 1)) (cond (Nat.blt pc 52) (am_lf pc 49 (.getfield 102) 3) (am_lf pc 52 (.aload_n 0) 1))) (cond (Nat.blt pc 57) (cond (Nat.blt pc 56) (am_lf pc 53 (.getfield 99) 3) (am_lf pc 56 (.iload_n 2) 1)) (cond (Nat.blt pc 60) (am_lf pc 57 (.invokestatic 220) 3) (am_lf pc 60 .ireturn 1)))))))
def tk_X6_stretch : Nat → Option (Instr × Nat) := am_guard 49 (fun pc => (cond (Nat.blt pc 24) (cond (Nat.blt pc 11) (cond (Nat.blt pc 5) (cond (Nat.blt pc 1) (am_lf pc 0 (.aload_n 0) 1) (cond (Nat.blt pc 2) (am_lf pc 1 (.iconst 0) 1) (am_lf pc 2 (.putfield 40) 3))) (cond (Nat.blt pc 7) (cond (Nat.blt pc 6) (am_lf pc 5 (.iload_n 1) 1) (am_lf pc 6 (.iconst 0) 1)) (cond (Nat.blt pc 8) (am_lf pc 7 (.aload_n 0) 1) (am_lf pc 8 (.invokevirtual 175) 3)))) (cond (Nat.blt pc 16) (cond (Nat.blt pc 12) (am_lf pc 11 (.iconst 1) 1) (cond (Nat.blt pc 13) (am_lf pc 12 .isub 1) (am_lf pc 13 (.invokestatic 47) 3))) (cond (Nat.blt pc 20) (cond (Nat.blt pc 19) (am_lf pc 16 (.ifCond .ne 9) 3) (am_lf pc 19 (.aload_n 0) 1)) (cond (Nat.blt pc 21) (am_lf pc 20 (.iconst 1) 1) (am_lf pc 21 (.invokevirtual 141) 3))))) (cond (Nat.blt pc 35) (cond (Nat.blt pc 27) (cond (Nat.blt pc 25) (am_lf pc 24 .ireturn 1) (cond (Nat.blt pc 26) (am_lf pc 25 (.iload_n 2) 1) (am_lf pc 26 (.iconst 0) 1))) (cond (Nat.blt pc 31) (cond (Nat.blt pc 28) (am_lf pc 27 (.iconst 4) 1) (am_lf pc 28 (.invokestatic 47) 3)) (cond (Nat.blt pc 34) (am_lf pc 31 (.ifCond .eq 12) 3) (am_lf pc 34 (.aload_n 0) 1)))) (cond (Nat.blt pc 43) (cond (Nat.blt pc 37) (cond (Nat.blt pc 36) (am_lf pc 35 (.iload_n 1) 1) (am_lf pc 36 (.iload_n 2) 1)) (cond (Nat.blt pc 40) (am_lf pc 37 (.invokevirtual 226) 3) (am_lf pc 40 (.goto 8) 3))) (cond (Nat.blt pc 45) (cond (Nat.blt pc 44) (am_lf pc 43 (.aload_n 0) 1) (am_lf pc 44 (.iconst 2) 1)) (cond (Nat.blt pc 48) (am_lf pc 45 (.invokevirtual 141) 3) (am_lf pc 48 .ireturn 1)))))))
def tk_X6_aboutStretch : Nat → Option (Instr × Nat) := am_guard 129 (fun pc => (cond (Nat.blt pc 62) (cond (Nat.blt pc 28) (cond (Nat.blt pc 14) (cond (Nat.blt pc 6) (cond (Nat.blt pc 2) (cond (Nat.blt pc 1) (am_lf pc 0 (.aload_n 0) 1) (am_lf pc 1 (.iload_n 1) 1)) (cond (Nat.blt pc 5) (am_lf pc 2 (.invokevirtual 178) 3) (am_lf pc 5 (.istore_n 3) 1))) (cond (Nat.blt pc 8) (cond (Nat.blt pc 7) (am_lf pc 6 (.aload_n 0) 1) (am_lf pc 7 (.iload_n 3) 1)) (cond (Nat.blt pc 11) (am_lf pc 8 (.invokevirtual 124) 3) (cond (Nat.blt pc 13) (am_lf pc 11 (.istore 4) 2) (am_lf pc 13 (.iload_n 2) 1))))) (cond (Nat.blt pc 20) (cond (Nat.blt pc 18) (cond (Nat.blt pc 15) (am_lf pc 14 (.iconst 4) 1) (am_lf pc 15 (.if_icmp .ne 23) 3)) (cond (Nat.blt pc 19) (am_lf pc 18 (.aload_n 0) 1) (am_lf pc 19 (.iload_n 3) 1))) (cond (Nat.blt pc 23) (cond (Nat.blt pc 22) (am_lf pc 20 (.iload 4) 2) (am_lf pc 22 (.aload_n 0) 1)) (cond (Nat.blt pc 26) (am_lf pc 23 (.getfield 7) 3) (cond (Nat.blt pc 27) (am_lf pc 26 (.iconst 4) 1) (am_lf pc 27 .iaload 1)))))) (cond (Nat.blt pc 42) (cond (Nat.blt pc 36) (cond (Nat.blt pc 32) (cond (Nat.blt pc 31) (am_lf pc 28 (.invokevirtual 134) 3) (am_lf pc 31 (.aload_n 0) 1)) (cond (Nat.blt pc 35) (am_lf pc 32 (.getfield 28) 3) (am_lf pc 35 (.iload_n 3) 1))) (cond (Nat.blt pc 38) (cond (Nat.blt pc 37) (am_lf pc 36 .iaload 1) (am_lf pc 37 .ireturn 1)) (cond (Nat.blt pc 39) (am_lf pc 38 (.iconst 0) 1) (cond (Nat.blt pc 41) (am_lf pc 39 (.istore 5) 2) (am_lf pc 41 (.iconst 0) 1))))) (cond (Nat.blt pc 51) (cond (Nat.blt pc 45) (cond (Nat.blt pc 44) (am_lf pc 42 (.istore 6) 2) (am_lf pc 44 (.iload_n 3) 1)) (cond (Nat.blt pc 47) (am_lf pc 45 (.istore 7) 2) (cond (Nat.blt pc 49) (am_lf pc 47 (.iload 7) 2) (am_lf pc 49 (.iload 4) 2)))) (cond (Nat.blt pc 56) (cond (Nat.blt pc 54) (am_lf pc 51 (.if_icmp .gt 43) 3) (am_lf pc 54 (.iload 5) 2)) (cond (Nat.blt pc 57) (am_lf pc 56 (.aload_n 0) 1) (cond (Nat.blt pc 60) (am_lf pc 57 (.getfield 7) 3) (am_lf pc 60 (.bipush 127) 2))))))) (cond (Nat.blt pc 95) (cond (Nat.blt pc 77) (cond (Nat.blt pc 67) (cond (Nat.blt pc 65) (cond (Nat.blt pc 64) (am_lf pc 62 (.iload 7) 2) (am_lf pc 64 .iadd 1)) (cond (Nat.blt pc 66) (am_lf pc 65 .iaload 1) (am_lf pc 66 .iadd 1))) (cond (Nat.blt pc 71) (cond (Nat.blt pc 69) (am_lf pc 67 (.istore 5) 2) (am_lf pc 69 (.iload 6) 2)) (cond (Nat.blt pc 72) (am_lf pc 71 (.aload_n 0) 1) (cond (Nat.blt pc 74) (am_lf pc 72 (.iload 7) 2) (am_lf pc 74 (.invokevirtual 169) 3))))) (cond (Nat.blt pc 85) (cond (Nat.blt pc 81) (cond (Nat.blt pc 80) (am_lf pc 77 (.ifCond .eq 7) 3) (am_lf pc 80 (.iconst 1) 1)) (cond (Nat.blt pc 84) (am_lf pc 81 (.goto 4) 3) (am_lf pc 84 (.iconst 0) 1))) (cond (Nat.blt pc 88) (cond (Nat.blt pc 86) (am_lf pc 85 .iadd 1) (am_lf pc 86 (.istore 6) 2)) (cond (Nat.blt pc 91) (am_lf pc 88 (.iinc 7 1) 3) (cond (Nat.blt pc 94) (am_lf pc 91 (.goto (-44)) 3) (am_lf pc 94 (.iload_n 2) 1)))))) (cond (Nat.blt pc 111) (cond (Nat.blt pc 103) (cond (Nat.blt pc 99) (cond (Nat.blt pc 98) (am_lf pc 95 (.ifCond .ne 7) 3) (am_lf pc 98 (.iload_n 3) 1)) (cond (Nat.blt pc 102) (am_lf pc 99 (.goto 29) 3) (am_lf pc 102 (.iload_n 2) 1))) (cond (Nat.blt pc 107) (cond (Nat.blt pc 104) (am_lf pc 103 (.iconst 1) 1) (am_lf pc 104 (.if_icmp .ne 12) 3)) (cond (Nat.blt pc 109) (am_lf pc 107 (.iload 4) 2) (cond (Nat.blt pc 110) (am_lf pc 109 (.iconst 1) 1) (am_lf pc 110 .iadd 1))))) (cond (Nat.blt pc 118) (cond (Nat.blt pc 113) (cond (Nat.blt pc 112) (am_lf pc 111 (.iload_n 3) 1) (am_lf pc 112 .isub 1)) (cond (Nat.blt pc 116) (am_lf pc 113 (.goto 15) 3) (cond (Nat.blt pc 117) (am_lf pc 116 (.iload_n 2) 1) (am_lf pc 117 (.iconst 2) 1)))) (cond (Nat.blt pc 123) (cond (Nat.blt pc 121) (am_lf pc 118 (.if_icmp .ne 8) 3) (am_lf pc 121 (.iload 5) 2)) (cond (Nat.blt pc 126) (am_lf pc 123 (.goto 5) 3) (cond (Nat.blt pc 128) (am_lf pc 126 (.iload 6) 2) (am_lf pc 128 .ireturn 1)))))))))
def tk_X6_noteAt : Nat → Option (Instr × Nat) := am_guard 51 (fun pc => (cond (Nat.blt pc 23) (cond (Nat.blt pc 11) (cond (Nat.blt pc 5) (cond (Nat.blt pc 1) (am_lf pc 0 (.aload_n 0) 1) (cond (Nat.blt pc 2) (am_lf pc 1 (.iconst 0) 1) (am_lf pc 2 (.putfield 40) 3))) (cond (Nat.blt pc 7) (cond (Nat.blt pc 6) (am_lf pc 5 (.iload_n 1) 1) (am_lf pc 6 (.iconst 0) 1)) (cond (Nat.blt pc 8) (am_lf pc 7 (.aload_n 0) 1) (am_lf pc 8 (.getfield 7) 3)))) (cond (Nat.blt pc 15) (cond (Nat.blt pc 13) (cond (Nat.blt pc 12) (am_lf pc 11 (.iconst 1) 1) (am_lf pc 12 .iaload 1)) (cond (Nat.blt pc 14) (am_lf pc 13 (.iconst 1) 1) (am_lf pc 14 .isub 1))) (cond (Nat.blt pc 21) (cond (Nat.blt pc 18) (am_lf pc 15 (.invokestatic 47) 3) (am_lf pc 18 (.ifCond .ne 9) 3)) (cond (Nat.blt pc 22) (am_lf pc 21 (.aload_n 0) 1) (am_lf pc 22 (.iconst 1) 1))))) (cond (Nat.blt pc 37) (cond (Nat.blt pc 29) (cond (Nat.blt pc 27) (cond (Nat.blt pc 26) (am_lf pc 23 (.invokevirtual 141) 3) (am_lf pc 26 .ireturn 1)) (cond (Nat.blt pc 28) (am_lf pc 27 (.iload_n 2) 1) (am_lf pc 28 (.iconst 0) 1))) (cond (Nat.blt pc 33) (cond (Nat.blt pc 30) (am_lf pc 29 (.iconst 2) 1) (am_lf pc 30 (.invokestatic 47) 3)) (cond (Nat.blt pc 36) (am_lf pc 33 (.ifCond .eq 12) 3) (am_lf pc 36 (.aload_n 0) 1)))) (cond (Nat.blt pc 45) (cond (Nat.blt pc 39) (cond (Nat.blt pc 38) (am_lf pc 37 (.iload_n 1) 1) (am_lf pc 38 (.iload_n 2) 1)) (cond (Nat.blt pc 42) (am_lf pc 39 (.invokevirtual 229) 3) (am_lf pc 42 (.goto 8) 3))) (cond (Nat.blt pc 47) (cond (Nat.blt pc 46) (am_lf pc 45 (.aload_n 0) 1) (am_lf pc 46 (.iconst 2) 1)) (cond (Nat.blt pc 50) (am_lf pc 47 (.invokevirtual 141) 3) (am_lf pc 50 .ireturn 1)))))))
def tk_X6_aboutNote : Nat → Option (Instr × Nat) := am_guard 36 (fun pc => (cond (Nat.blt pc 21) (cond (Nat.blt pc 7) (cond (Nat.blt pc 2) (cond (Nat.blt pc 1) (am_lf pc 0 (.iload_n 2) 1) (am_lf pc 1 (.iconst 2) 1)) (cond (Nat.blt pc 5) (am_lf pc 2 (.if_icmp .ne 19) 3) (cond (Nat.blt pc 6) (am_lf pc 5 (.aload_n 0) 1) (am_lf pc 6 (.iload_n 1) 1)))) (cond (Nat.blt pc 14) (cond (Nat.blt pc 10) (am_lf pc 7 (.invokevirtual 181) 3) (cond (Nat.blt pc 13) (am_lf pc 10 (.ifCond .eq 7) 3) (am_lf pc 13 (.iconst 1) 1))) (cond (Nat.blt pc 17) (am_lf pc 14 (.goto 21) 3) (cond (Nat.blt pc 18) (am_lf pc 17 (.iconst 0) 1) (am_lf pc 18 (.goto 17) 3))))) (cond (Nat.blt pc 30) (cond (Nat.blt pc 25) (cond (Nat.blt pc 22) (am_lf pc 21 (.aload_n 0) 1) (am_lf pc 22 (.getfield 7) 3)) (cond (Nat.blt pc 28) (am_lf pc 25 (.sipush 187) 3) (cond (Nat.blt pc 29) (am_lf pc 28 (.iconst 2) 1) (am_lf pc 29 (.iload_n 1) 1)))) (cond (Nat.blt pc 33) (cond (Nat.blt pc 31) (am_lf pc 30 .imul 1) (cond (Nat.blt pc 32) (am_lf pc 31 .iadd 1) (am_lf pc 32 (.iload_n 2) 1))) (cond (Nat.blt pc 34) (am_lf pc 33 .iadd 1) (cond (Nat.blt pc 35) (am_lf pc 34 .iaload 1) (am_lf pc 35 .ireturn 1)))))))
def tk_X6_count : Nat → Option (Instr × Nat) := am_guard 29 (fun pc => (cond (Nat.blt pc 15) (cond (Nat.blt pc 6) (cond (Nat.blt pc 2) (cond (Nat.blt pc 1) (am_lf pc 0 (.aload_n 0) 1) (am_lf pc 1 (.iconst 0) 1)) (cond (Nat.blt pc 5) (am_lf pc 2 (.putfield 40) 3) (am_lf pc 5 (.iload_n 1) 1))) (cond (Nat.blt pc 9) (cond (Nat.blt pc 7) (am_lf pc 6 (.iconst 0) 1) (am_lf pc 7 (.bipush 10) 2)) (cond (Nat.blt pc 12) (am_lf pc 9 (.invokestatic 47) 3) (am_lf pc 12 (.ifCond .eq 11) 3)))) (cond (Nat.blt pc 23) (cond (Nat.blt pc 17) (cond (Nat.blt pc 16) (am_lf pc 15 (.aload_n 0) 1) (am_lf pc 16 (.iload_n 1) 1)) (cond (Nat.blt pc 20) (am_lf pc 17 (.invokevirtual 244) 3) (am_lf pc 20 (.goto 8) 3))) (cond (Nat.blt pc 25) (cond (Nat.blt pc 24) (am_lf pc 23 (.aload_n 0) 1) (am_lf pc 24 (.iconst 1) 1)) (cond (Nat.blt pc 28) (am_lf pc 25 (.invokevirtual 141) 3) (am_lf pc 28 .ireturn 1))))))
def tk_X6_number : Nat → Option (Instr × Nat) := am_guard 119 (fun pc => (cond (Nat.blt pc 85) (cond (Nat.blt pc 68) (cond (Nat.blt pc 61) (cond (Nat.blt pc 56) (cond (Nat.blt pc 1) (am_lf pc 0 (.iload_n 1) 1) (am_lf pc 1 (.tableswitch 113 0 9 #[55, 62, 67, 72, 77, 84, 89, 94, 101, 108]) 55)) (cond (Nat.blt pc 57) (am_lf pc 56 (.aload_n 0) 1) (cond (Nat.blt pc 60) (am_lf pc 57 (.getfield 7) 3) (am_lf pc 60 (.iconst 0) 1)))) (cond (Nat.blt pc 63) (cond (Nat.blt pc 62) (am_lf pc 61 .iaload 1) (am_lf pc 62 .ireturn 1)) (cond (Nat.blt pc 64) (am_lf pc 63 (.aload_n 0) 1) (cond (Nat.blt pc 67) (am_lf pc 64 (.invokevirtual 159) 3) (am_lf pc 67 .ireturn 1))))) (cond (Nat.blt pc 77) (cond (Nat.blt pc 72) (cond (Nat.blt pc 69) (am_lf pc 68 (.aload_n 0) 1) (am_lf pc 69 (.invokevirtual 232) 3)) (cond (Nat.blt pc 73) (am_lf pc 72 .ireturn 1) (cond (Nat.blt pc 74) (am_lf pc 73 (.aload_n 0) 1) (am_lf pc 74 (.invokevirtual 175) 3)))) (cond (Nat.blt pc 82) (cond (Nat.blt pc 78) (am_lf pc 77 .ireturn 1) (cond (Nat.blt pc 79) (am_lf pc 78 (.aload_n 0) 1) (am_lf pc 79 (.getfield 7) 3))) (cond (Nat.blt pc 83) (am_lf pc 82 (.iconst 1) 1) (cond (Nat.blt pc 84) (am_lf pc 83 .iaload 1) (am_lf pc 84 .ireturn 1)))))) (cond (Nat.blt pc 102) (cond (Nat.blt pc 94) (cond (Nat.blt pc 89) (cond (Nat.blt pc 86) (am_lf pc 85 (.aload_n 0) 1) (am_lf pc 86 (.invokevirtual 235) 3)) (cond (Nat.blt pc 90) (am_lf pc 89 .ireturn 1) (cond (Nat.blt pc 91) (am_lf pc 90 (.aload_n 0) 1) (am_lf pc 91 (.invokevirtual 238) 3)))) (cond (Nat.blt pc 99) (cond (Nat.blt pc 95) (am_lf pc 94 .ireturn 1) (cond (Nat.blt pc 96) (am_lf pc 95 (.aload_n 0) 1) (am_lf pc 96 (.getfield 7) 3))) (cond (Nat.blt pc 100) (am_lf pc 99 (.iconst 2) 1) (cond (Nat.blt pc 101) (am_lf pc 100 .iaload 1) (am_lf pc 101 .ireturn 1))))) (cond (Nat.blt pc 109) (cond (Nat.blt pc 106) (cond (Nat.blt pc 103) (am_lf pc 102 (.aload_n 0) 1) (am_lf pc 103 (.getfield 7) 3)) (cond (Nat.blt pc 107) (am_lf pc 106 (.iconst 3) 1) (cond (Nat.blt pc 108) (am_lf pc 107 .iaload 1) (am_lf pc 108 .ireturn 1)))) (cond (Nat.blt pc 114) (cond (Nat.blt pc 110) (am_lf pc 109 (.aload_n 0) 1) (cond (Nat.blt pc 113) (am_lf pc 110 (.invokevirtual 241) 3) (am_lf pc 113 .ireturn 1))) (cond (Nat.blt pc 115) (am_lf pc 114 (.aload_n 0) 1) (cond (Nat.blt pc 118) (am_lf pc 115 (.getfield 44) 3) (am_lf pc 118 .ireturn 1))))))))
def tk_X6_brokenMany : Nat → Option (Instr × Nat) := am_guard 38 (fun pc => (cond (Nat.blt pc 16) (cond (Nat.blt pc 6) (cond (Nat.blt pc 3) (cond (Nat.blt pc 1) (am_lf pc 0 (.iconst 0) 1) (cond (Nat.blt pc 2) (am_lf pc 1 (.istore_n 1) 1) (am_lf pc 2 (.iconst 0) 1))) (cond (Nat.blt pc 4) (am_lf pc 3 (.istore_n 2) 1) (cond (Nat.blt pc 5) (am_lf pc 4 (.iload_n 2) 1) (am_lf pc 5 (.aload_n 0) 1)))) (cond (Nat.blt pc 11) (cond (Nat.blt pc 9) (am_lf pc 6 (.getfield 7) 3) (cond (Nat.blt pc 10) (am_lf pc 9 (.iconst 0) 1) (am_lf pc 10 .iaload 1))) (cond (Nat.blt pc 14) (am_lf pc 11 (.if_icmp .ge 25) 3) (cond (Nat.blt pc 15) (am_lf pc 14 (.iload_n 1) 1) (am_lf pc 15 (.aload_n 0) 1))))) (cond (Nat.blt pc 28) (cond (Nat.blt pc 23) (cond (Nat.blt pc 17) (am_lf pc 16 (.iload_n 2) 1) (cond (Nat.blt pc 20) (am_lf pc 17 (.invokevirtual 169) 3) (am_lf pc 20 (.ifCond .eq 7) 3))) (cond (Nat.blt pc 24) (am_lf pc 23 (.iconst 1) 1) (cond (Nat.blt pc 27) (am_lf pc 24 (.goto 4) 3) (am_lf pc 27 (.iconst 0) 1)))) (cond (Nat.blt pc 33) (cond (Nat.blt pc 29) (am_lf pc 28 .iadd 1) (cond (Nat.blt pc 30) (am_lf pc 29 (.istore_n 1) 1) (am_lf pc 30 (.iinc 2 1) 3))) (cond (Nat.blt pc 36) (am_lf pc 33 (.goto (-29)) 3) (cond (Nat.blt pc 37) (am_lf pc 36 (.iload_n 1) 1) (am_lf pc 37 .ireturn 1)))))))
def tk_X6_trueMany : Nat → Option (Instr × Nat) := am_guard 38 (fun pc => (cond (Nat.blt pc 16) (cond (Nat.blt pc 6) (cond (Nat.blt pc 3) (cond (Nat.blt pc 1) (am_lf pc 0 (.iconst 0) 1) (cond (Nat.blt pc 2) (am_lf pc 1 (.istore_n 1) 1) (am_lf pc 2 (.iconst 0) 1))) (cond (Nat.blt pc 4) (am_lf pc 3 (.istore_n 2) 1) (cond (Nat.blt pc 5) (am_lf pc 4 (.iload_n 2) 1) (am_lf pc 5 (.aload_n 0) 1)))) (cond (Nat.blt pc 11) (cond (Nat.blt pc 9) (am_lf pc 6 (.getfield 7) 3) (cond (Nat.blt pc 10) (am_lf pc 9 (.iconst 1) 1) (am_lf pc 10 .iaload 1))) (cond (Nat.blt pc 14) (am_lf pc 11 (.if_icmp .ge 25) 3) (cond (Nat.blt pc 15) (am_lf pc 14 (.iload_n 1) 1) (am_lf pc 15 (.aload_n 0) 1))))) (cond (Nat.blt pc 28) (cond (Nat.blt pc 23) (cond (Nat.blt pc 17) (am_lf pc 16 (.iload_n 2) 1) (cond (Nat.blt pc 20) (am_lf pc 17 (.invokevirtual 181) 3) (am_lf pc 20 (.ifCond .eq 7) 3))) (cond (Nat.blt pc 24) (am_lf pc 23 (.iconst 1) 1) (cond (Nat.blt pc 27) (am_lf pc 24 (.goto 4) 3) (am_lf pc 27 (.iconst 0) 1)))) (cond (Nat.blt pc 33) (cond (Nat.blt pc 29) (am_lf pc 28 .iadd 1) (cond (Nat.blt pc 30) (am_lf pc 29 (.istore_n 1) 1) (am_lf pc 30 (.iinc 2 1) 3))) (cond (Nat.blt pc 36) (am_lf pc 33 (.goto (-29)) 3) (cond (Nat.blt pc 37) (am_lf pc 36 (.iload_n 1) 1) (am_lf pc 37 .ireturn 1)))))))
def tk_X6_greatestError : Nat → Option (Instr × Nat) := am_guard 85 (fun pc => (cond (Nat.blt pc 41) (cond (Nat.blt pc 16) (cond (Nat.blt pc 6) (cond (Nat.blt pc 3) (cond (Nat.blt pc 1) (am_lf pc 0 (.iconst 0) 1) (cond (Nat.blt pc 2) (am_lf pc 1 (.istore_n 1) 1) (am_lf pc 2 (.iconst 0) 1))) (cond (Nat.blt pc 4) (am_lf pc 3 (.istore_n 2) 1) (cond (Nat.blt pc 5) (am_lf pc 4 (.iload_n 2) 1) (am_lf pc 5 (.aload_n 0) 1)))) (cond (Nat.blt pc 11) (cond (Nat.blt pc 9) (am_lf pc 6 (.getfield 7) 3) (cond (Nat.blt pc 10) (am_lf pc 9 (.iconst 0) 1) (am_lf pc 10 .iaload 1))) (cond (Nat.blt pc 14) (am_lf pc 11 (.if_icmp .ge 72) 3) (cond (Nat.blt pc 15) (am_lf pc 14 (.aload_n 0) 1) (am_lf pc 15 (.iload_n 2) 1))))) (cond (Nat.blt pc 28) (cond (Nat.blt pc 23) (cond (Nat.blt pc 19) (am_lf pc 16 (.invokevirtual 89) 3) (cond (Nat.blt pc 22) (am_lf pc 19 (.ifCond .eq 7) 3) (am_lf pc 22 (.iconst (-1)) 1))) (cond (Nat.blt pc 26) (am_lf pc 23 (.goto 17) 3) (cond (Nat.blt pc 27) (am_lf pc 26 (.aload_n 0) 1) (am_lf pc 27 (.aload_n 0) 1)))) (cond (Nat.blt pc 33) (cond (Nat.blt pc 29) (am_lf pc 28 (.iload_n 2) 1) (cond (Nat.blt pc 32) (am_lf pc 29 (.invokevirtual 51) 3) (am_lf pc 32 (.aload_n 0) 1))) (cond (Nat.blt pc 37) (cond (Nat.blt pc 34) (am_lf pc 33 (.iload_n 2) 1) (am_lf pc 34 (.invokevirtual 62) 3)) (cond (Nat.blt pc 40) (am_lf pc 37 (.invokevirtual 108) 3) (am_lf pc 40 (.istore_n 3) 1)))))) (cond (Nat.blt pc 61) (cond (Nat.blt pc 51) (cond (Nat.blt pc 46) (cond (Nat.blt pc 42) (am_lf pc 41 (.iload_n 3) 1) (cond (Nat.blt pc 45) (am_lf pc 42 (.ifCond .ge 7) 3) (am_lf pc 45 (.iconst 0) 1))) (cond (Nat.blt pc 49) (am_lf pc 46 (.goto 16) 3) (cond (Nat.blt pc 50) (am_lf pc 49 (.iload_n 3) 1) (am_lf pc 50 (.aload_n 0) 1)))) (cond (Nat.blt pc 56) (cond (Nat.blt pc 54) (am_lf pc 51 (.getfield 99) 3) (cond (Nat.blt pc 55) (am_lf pc 54 .iadd 1) (am_lf pc 55 (.iconst 1) 1))) (cond (Nat.blt pc 57) (am_lf pc 56 .isub 1) (cond (Nat.blt pc 58) (am_lf pc 57 (.aload_n 0) 1) (am_lf pc 58 (.getfield 99) 3))))) (cond (Nat.blt pc 72) (cond (Nat.blt pc 66) (cond (Nat.blt pc 62) (am_lf pc 61 .idiv 1) (cond (Nat.blt pc 64) (am_lf pc 62 (.istore 4) 2) (am_lf pc 64 (.iload 4) 2))) (cond (Nat.blt pc 67) (am_lf pc 66 (.iload_n 1) 1) (cond (Nat.blt pc 70) (am_lf pc 67 (.if_icmp .le 8) 3) (am_lf pc 70 (.iload 4) 2)))) (cond (Nat.blt pc 77) (cond (Nat.blt pc 75) (am_lf pc 72 (.goto 4) 3) (cond (Nat.blt pc 76) (am_lf pc 75 (.iload_n 1) 1) (am_lf pc 76 (.istore_n 1) 1))) (cond (Nat.blt pc 83) (cond (Nat.blt pc 80) (am_lf pc 77 (.iinc 2 1) 3) (am_lf pc 80 (.goto (-76)) 3)) (cond (Nat.blt pc 84) (am_lf pc 83 (.iload_n 1) 1) (am_lf pc 84 .ireturn 1))))))))
def tk_X6_greatestStep : Nat → Option (Instr × Nat) := am_guard 72 (fun pc => (cond (Nat.blt pc 35) (cond (Nat.blt pc 14) (cond (Nat.blt pc 5) (cond (Nat.blt pc 2) (cond (Nat.blt pc 1) (am_lf pc 0 (.iconst 0) 1) (am_lf pc 1 (.istore_n 1) 1)) (cond (Nat.blt pc 3) (am_lf pc 2 (.iconst 0) 1) (cond (Nat.blt pc 4) (am_lf pc 3 (.istore_n 2) 1) (am_lf pc 4 (.iload_n 2) 1)))) (cond (Nat.blt pc 9) (cond (Nat.blt pc 6) (am_lf pc 5 (.aload_n 0) 1) (am_lf pc 6 (.getfield 7) 3)) (cond (Nat.blt pc 10) (am_lf pc 9 (.iconst 0) 1) (cond (Nat.blt pc 11) (am_lf pc 10 .iaload 1) (am_lf pc 11 (.if_icmp .ge 59) 3))))) (cond (Nat.blt pc 21) (cond (Nat.blt pc 16) (cond (Nat.blt pc 15) (am_lf pc 14 (.aload_n 0) 1) (am_lf pc 15 (.iload_n 2) 1)) (cond (Nat.blt pc 19) (am_lf pc 16 (.invokevirtual 156) 3) (cond (Nat.blt pc 20) (am_lf pc 19 (.aload_n 0) 1) (am_lf pc 20 (.iload_n 2) 1)))) (cond (Nat.blt pc 28) (cond (Nat.blt pc 24) (am_lf pc 21 (.invokevirtual 89) 3) (cond (Nat.blt pc 27) (am_lf pc 24 (.ifCond .eq 27) 3) (am_lf pc 27 (.aload_n 0) 1))) (cond (Nat.blt pc 31) (am_lf pc 28 (.getfield 86) 3) (cond (Nat.blt pc 34) (am_lf pc 31 (.ifCond .lt 20) 3) (am_lf pc 34 (.aload_n 0) 1)))))) (cond (Nat.blt pc 53) (cond (Nat.blt pc 44) (cond (Nat.blt pc 39) (cond (Nat.blt pc 36) (am_lf pc 35 (.aload_n 0) 1) (am_lf pc 36 (.getfield 86) 3)) (cond (Nat.blt pc 42) (am_lf pc 39 (.invokevirtual 51) 3) (cond (Nat.blt pc 43) (am_lf pc 42 (.aload_n 0) 1) (am_lf pc 43 (.iload_n 2) 1)))) (cond (Nat.blt pc 48) (cond (Nat.blt pc 47) (am_lf pc 44 (.invokevirtual 51) 3) (am_lf pc 47 .isub 1)) (cond (Nat.blt pc 51) (am_lf pc 48 (.goto 4) 3) (cond (Nat.blt pc 52) (am_lf pc 51 (.iconst 0) 1) (am_lf pc 52 (.istore_n 3) 1))))) (cond (Nat.blt pc 62) (cond (Nat.blt pc 55) (cond (Nat.blt pc 54) (am_lf pc 53 (.iload_n 3) 1) (am_lf pc 54 (.iload_n 1) 1)) (cond (Nat.blt pc 58) (am_lf pc 55 (.if_icmp .le 7) 3) (cond (Nat.blt pc 59) (am_lf pc 58 (.iload_n 3) 1) (am_lf pc 59 (.goto 4) 3)))) (cond (Nat.blt pc 67) (cond (Nat.blt pc 63) (am_lf pc 62 (.iload_n 1) 1) (cond (Nat.blt pc 64) (am_lf pc 63 (.istore_n 1) 1) (am_lf pc 64 (.iinc 2 1) 3))) (cond (Nat.blt pc 70) (am_lf pc 67 (.goto (-63)) 3) (cond (Nat.blt pc 71) (am_lf pc 70 (.iload_n 1) 1) (am_lf pc 71 .ireturn 1))))))))
def tk_X6_setting : Nat → Option (Instr × Nat) := am_guard 31 (fun pc => (cond (Nat.blt pc 15) (cond (Nat.blt pc 6) (cond (Nat.blt pc 2) (cond (Nat.blt pc 1) (am_lf pc 0 (.aload_n 0) 1) (am_lf pc 1 (.iconst 0) 1)) (cond (Nat.blt pc 5) (am_lf pc 2 (.putfield 40) 3) (am_lf pc 5 (.iload_n 1) 1))) (cond (Nat.blt pc 8) (cond (Nat.blt pc 7) (am_lf pc 6 (.iconst 0) 1) (am_lf pc 7 (.iconst 2) 1)) (cond (Nat.blt pc 11) (am_lf pc 8 (.invokestatic 47) 3) (cond (Nat.blt pc 14) (am_lf pc 11 (.ifCond .eq 14) 3) (am_lf pc 14 (.aload_n 0) 1))))) (cond (Nat.blt pc 22) (cond (Nat.blt pc 19) (cond (Nat.blt pc 18) (am_lf pc 15 (.getfield 7) 3) (am_lf pc 18 (.iconst 4) 1)) (cond (Nat.blt pc 20) (am_lf pc 19 (.iload_n 1) 1) (cond (Nat.blt pc 21) (am_lf pc 20 .iadd 1) (am_lf pc 21 .iaload 1)))) (cond (Nat.blt pc 26) (cond (Nat.blt pc 25) (am_lf pc 22 (.goto 8) 3) (am_lf pc 25 (.aload_n 0) 1)) (cond (Nat.blt pc 27) (am_lf pc 26 (.iconst 1) 1) (cond (Nat.blt pc 30) (am_lf pc 27 (.invokevirtual 141) 3) (am_lf pc 30 .ireturn 1)))))))
def tk_X6_area : Nat → Option (Instr × Nat) := am_guard 142 (fun pc => (cond (Nat.blt pc 71) (cond (Nat.blt pc 33) (cond (Nat.blt pc 13) (cond (Nat.blt pc 6) (cond (Nat.blt pc 2) (cond (Nat.blt pc 1) (am_lf pc 0 (.aload_n 0) 1) (am_lf pc 1 (.iconst 0) 1)) (cond (Nat.blt pc 5) (am_lf pc 2 (.putfield 40) 3) (am_lf pc 5 (.lconst 0) 1))) (cond (Nat.blt pc 8) (cond (Nat.blt pc 7) (am_lf pc 6 (.lstore_n 2) 1) (am_lf pc 7 (.iconst (-1)) 1)) (cond (Nat.blt pc 10) (am_lf pc 8 (.istore 4) 2) (cond (Nat.blt pc 11) (am_lf pc 10 (.iconst 0) 1) (am_lf pc 11 (.istore 5) 2))))) (cond (Nat.blt pc 21) (cond (Nat.blt pc 16) (cond (Nat.blt pc 15) (am_lf pc 13 (.iload 5) 2) (am_lf pc 15 (.aload_n 0) 1)) (cond (Nat.blt pc 19) (am_lf pc 16 (.getfield 7) 3) (cond (Nat.blt pc 20) (am_lf pc 19 (.iconst 0) 1) (am_lf pc 20 .iaload 1)))) (cond (Nat.blt pc 25) (cond (Nat.blt pc 24) (am_lf pc 21 (.if_icmp .ge 119) 3) (am_lf pc 24 (.aload_n 0) 1)) (cond (Nat.blt pc 27) (am_lf pc 25 (.iload 5) 2) (cond (Nat.blt pc 30) (am_lf pc 27 (.invokevirtual 55) 3) (am_lf pc 30 (.ifCond .eq 7) 3)))))) (cond (Nat.blt pc 51) (cond (Nat.blt pc 41) (cond (Nat.blt pc 37) (cond (Nat.blt pc 34) (am_lf pc 33 (.iconst (-1)) 1) (am_lf pc 34 (.goto 5) 3)) (cond (Nat.blt pc 39) (am_lf pc 37 (.iload 4) 2) (am_lf pc 39 (.istore 4) 2))) (cond (Nat.blt pc 45) (cond (Nat.blt pc 42) (am_lf pc 41 (.iload_n 1) 1) (am_lf pc 42 (.ifCond .ne 12) 3)) (cond (Nat.blt pc 46) (am_lf pc 45 (.aload_n 0) 1) (cond (Nat.blt pc 48) (am_lf pc 46 (.iload 5) 2) (am_lf pc 48 (.invokevirtual 89) 3))))) (cond (Nat.blt pc 63) (cond (Nat.blt pc 56) (cond (Nat.blt pc 54) (am_lf pc 51 (.ifCond .eq 83) 3) (am_lf pc 54 (.iload 4) 2)) (cond (Nat.blt pc 59) (am_lf pc 56 (.ifCond .ge 7) 3) (cond (Nat.blt pc 60) (am_lf pc 59 (.iconst 0) 1) (am_lf pc 60 (.goto 38) 3)))) (cond (Nat.blt pc 67) (cond (Nat.blt pc 64) (am_lf pc 63 (.aload_n 0) 1) (am_lf pc 64 (.getfield 7) 3)) (cond (Nat.blt pc 69) (am_lf pc 67 (.bipush 6) 2) (cond (Nat.blt pc 70) (am_lf pc 69 .iaload 1) (am_lf pc 70 (.iconst 1) 1))))))) (cond (Nat.blt pc 107) (cond (Nat.blt pc 88) (cond (Nat.blt pc 78) (cond (Nat.blt pc 75) (cond (Nat.blt pc 74) (am_lf pc 71 (.if_icmp .ne 14) 3) (am_lf pc 74 (.iconst 2) 1)) (cond (Nat.blt pc 76) (am_lf pc 75 (.aload_n 0) 1) (am_lf pc 76 (.iload 4) 2))) (cond (Nat.blt pc 82) (cond (Nat.blt pc 81) (am_lf pc 78 (.invokevirtual 62) 3) (am_lf pc 81 .imul 1)) (cond (Nat.blt pc 85) (am_lf pc 82 (.goto 16) 3) (cond (Nat.blt pc 86) (am_lf pc 85 (.aload_n 0) 1) (am_lf pc 86 (.iload 4) 2))))) (cond (Nat.blt pc 98) (cond (Nat.blt pc 92) (cond (Nat.blt pc 91) (am_lf pc 88 (.invokevirtual 62) 3) (am_lf pc 91 (.aload_n 0) 1)) (cond (Nat.blt pc 94) (am_lf pc 92 (.iload 5) 2) (cond (Nat.blt pc 97) (am_lf pc 94 (.invokevirtual 62) 3) (am_lf pc 97 .iadd 1)))) (cond (Nat.blt pc 101) (cond (Nat.blt pc 100) (am_lf pc 98 (.istore 6) 2) (am_lf pc 100 (.lload_n 2) 1)) (cond (Nat.blt pc 103) (am_lf pc 101 (.iload 4) 2) (cond (Nat.blt pc 106) (am_lf pc 103 (.ifCond .ge 7) 3) (am_lf pc 106 (.lconst 0) 1)))))) (cond (Nat.blt pc 126) (cond (Nat.blt pc 116) (cond (Nat.blt pc 112) (cond (Nat.blt pc 110) (am_lf pc 107 (.goto 21) 3) (am_lf pc 110 (.iload 6) 2)) (cond (Nat.blt pc 113) (am_lf pc 112 .i2l 1) (cond (Nat.blt pc 114) (am_lf pc 113 (.aload_n 0) 1) (am_lf pc 114 (.iload 5) 2)))) (cond (Nat.blt pc 120) (cond (Nat.blt pc 119) (am_lf pc 116 (.invokevirtual 51) 3) (am_lf pc 119 (.aload_n 0) 1)) (cond (Nat.blt pc 122) (am_lf pc 120 (.iload 4) 2) (cond (Nat.blt pc 125) (am_lf pc 122 (.invokevirtual 51) 3) (am_lf pc 125 .isub 1))))) (cond (Nat.blt pc 132) (cond (Nat.blt pc 128) (cond (Nat.blt pc 127) (am_lf pc 126 .i2l 1) (am_lf pc 127 .lmul 1)) (cond (Nat.blt pc 129) (am_lf pc 128 .ladd 1) (cond (Nat.blt pc 130) (am_lf pc 129 (.lstore_n 2) 1) (am_lf pc 130 (.iload 5) 2)))) (cond (Nat.blt pc 137) (cond (Nat.blt pc 134) (am_lf pc 132 (.istore 4) 2) (am_lf pc 134 (.iinc 5 1) 3)) (cond (Nat.blt pc 140) (am_lf pc 137 (.goto (-124)) 3) (cond (Nat.blt pc 141) (am_lf pc 140 (.lload_n 2) 1) (am_lf pc 141 .lreturn 1)))))))))
def tk_X6_whyNot : Nat → Option (Instr × Nat) := am_guard 27 (fun pc => (cond (Nat.blt pc 13) (cond (Nat.blt pc 5) (cond (Nat.blt pc 1) (am_lf pc 0 (.aload_n 0) 1) (cond (Nat.blt pc 2) (am_lf pc 1 (.iconst 0) 1) (am_lf pc 2 (.putfield 40) 3))) (cond (Nat.blt pc 7) (cond (Nat.blt pc 6) (am_lf pc 5 (.aload_n 0) 1) (am_lf pc 6 (.iload_n 1) 1)) (cond (Nat.blt pc 10) (am_lf pc 7 (.invokevirtual 153) 3) (am_lf pc 10 (.ifCond .eq 11) 3)))) (cond (Nat.blt pc 21) (cond (Nat.blt pc 15) (cond (Nat.blt pc 14) (am_lf pc 13 (.aload_n 0) 1) (am_lf pc 14 (.iload_n 1) 1)) (cond (Nat.blt pc 18) (am_lf pc 15 (.invokevirtual 163) 3) (am_lf pc 18 (.goto 8) 3))) (cond (Nat.blt pc 23) (cond (Nat.blt pc 22) (am_lf pc 21 (.aload_n 0) 1) (am_lf pc 22 (.iconst 1) 1)) (cond (Nat.blt pc 26) (am_lf pc 23 (.invokevirtual 141) 3) (am_lf pc 26 .ireturn 1))))))
def tk_X6_join : Nat → Option (Instr × Nat) := am_guard 69 (fun pc => (cond (Nat.blt pc 34) (cond (Nat.blt pc 18) (cond (Nat.blt pc 7) (cond (Nat.blt pc 2) (cond (Nat.blt pc 1) (am_lf pc 0 (.aload_n 0) 1) (am_lf pc 1 (.iconst 0) 1)) (cond (Nat.blt pc 5) (am_lf pc 2 (.putfield 40) 3) (cond (Nat.blt pc 6) (am_lf pc 5 (.aload_n 0) 1) (am_lf pc 6 (.iload_n 1) 1)))) (cond (Nat.blt pc 13) (cond (Nat.blt pc 10) (am_lf pc 7 (.invokevirtual 153) 3) (am_lf pc 10 (.ifCond .eq 11) 3)) (cond (Nat.blt pc 14) (am_lf pc 13 (.aload_n 0) 1) (cond (Nat.blt pc 15) (am_lf pc 14 (.iload_n 2) 1) (am_lf pc 15 (.invokevirtual 153) 3))))) (cond (Nat.blt pc 27) (cond (Nat.blt pc 22) (cond (Nat.blt pc 21) (am_lf pc 18 (.ifCond .ne 9) 3) (am_lf pc 21 (.aload_n 0) 1)) (cond (Nat.blt pc 23) (am_lf pc 22 (.iconst 1) 1) (cond (Nat.blt pc 26) (am_lf pc 23 (.invokevirtual 141) 3) (am_lf pc 26 .ireturn 1)))) (cond (Nat.blt pc 29) (cond (Nat.blt pc 28) (am_lf pc 27 (.iload_n 2) 1) (am_lf pc 28 (.iload_n 1) 1)) (cond (Nat.blt pc 32) (am_lf pc 29 (.if_icmp .gt 9) 3) (cond (Nat.blt pc 33) (am_lf pc 32 (.aload_n 0) 1) (am_lf pc 33 (.iconst 2) 1)))))) (cond (Nat.blt pc 52) (cond (Nat.blt pc 43) (cond (Nat.blt pc 38) (cond (Nat.blt pc 37) (am_lf pc 34 (.invokevirtual 141) 3) (am_lf pc 37 .ireturn 1)) (cond (Nat.blt pc 39) (am_lf pc 38 (.aload_n 0) 1) (cond (Nat.blt pc 40) (am_lf pc 39 (.iload_n 1) 1) (am_lf pc 40 (.invokevirtual 59) 3)))) (cond (Nat.blt pc 45) (cond (Nat.blt pc 44) (am_lf pc 43 (.aload_n 0) 1) (am_lf pc 44 (.iload_n 2) 1)) (cond (Nat.blt pc 48) (am_lf pc 45 (.invokevirtual 59) 3) (cond (Nat.blt pc 51) (am_lf pc 48 (.if_icmp .ne 18) 3) (am_lf pc 51 (.aload_n 0) 1))))) (cond (Nat.blt pc 59) (cond (Nat.blt pc 54) (cond (Nat.blt pc 53) (am_lf pc 52 (.iload_n 1) 1) (am_lf pc 53 (.iload_n 2) 1)) (cond (Nat.blt pc 55) (am_lf pc 54 (.aload_n 0) 1) (cond (Nat.blt pc 58) (am_lf pc 55 (.getfield 7) 3) (am_lf pc 58 (.iconst 4) 1)))) (cond (Nat.blt pc 63) (cond (Nat.blt pc 60) (am_lf pc 59 .iaload 1) (am_lf pc 60 (.invokevirtual 80) 3)) (cond (Nat.blt pc 66) (am_lf pc 63 (.goto 5) 3) (cond (Nat.blt pc 68) (am_lf pc 66 (.ldc 213) 2) (am_lf pc 68 .ireturn 1))))))))
def tk_X6_ifThinned : Nat → Option (Instr × Nat) := am_guard 28 (fun pc => (cond (Nat.blt pc 14) (cond (Nat.blt pc 6) (cond (Nat.blt pc 2) (cond (Nat.blt pc 1) (am_lf pc 0 (.aload_n 0) 1) (am_lf pc 1 (.iconst 0) 1)) (cond (Nat.blt pc 5) (am_lf pc 2 (.putfield 40) 3) (am_lf pc 5 (.iload_n 1) 1))) (cond (Nat.blt pc 8) (cond (Nat.blt pc 7) (am_lf pc 6 (.iconst 0) 1) (am_lf pc 7 (.iconst 2) 1)) (cond (Nat.blt pc 11) (am_lf pc 8 (.invokestatic 47) 3) (am_lf pc 11 (.ifCond .eq 11) 3)))) (cond (Nat.blt pc 22) (cond (Nat.blt pc 16) (cond (Nat.blt pc 15) (am_lf pc 14 (.aload_n 0) 1) (am_lf pc 15 (.iload_n 1) 1)) (cond (Nat.blt pc 19) (am_lf pc 16 (.invokevirtual 172) 3) (am_lf pc 19 (.goto 8) 3))) (cond (Nat.blt pc 24) (cond (Nat.blt pc 23) (am_lf pc 22 (.aload_n 0) 1) (am_lf pc 23 (.iconst 1) 1)) (cond (Nat.blt pc 27) (am_lf pc 24 (.invokevirtual 141) 3) (am_lf pc 27 .ireturn 1))))))
def tk_X6_leastOath : Nat → Option (Instr × Nat) := am_guard 29 (fun pc => (cond (Nat.blt pc 15) (cond (Nat.blt pc 6) (cond (Nat.blt pc 2) (cond (Nat.blt pc 1) (am_lf pc 0 (.aload_n 0) 1) (am_lf pc 1 (.iconst 0) 1)) (cond (Nat.blt pc 5) (am_lf pc 2 (.putfield 40) 3) (am_lf pc 5 (.iload_n 1) 1))) (cond (Nat.blt pc 9) (cond (Nat.blt pc 7) (am_lf pc 6 (.iconst 0) 1) (am_lf pc 7 (.bipush 60) 2)) (cond (Nat.blt pc 12) (am_lf pc 9 (.invokestatic 47) 3) (am_lf pc 12 (.ifCond .eq 11) 3)))) (cond (Nat.blt pc 23) (cond (Nat.blt pc 17) (cond (Nat.blt pc 16) (am_lf pc 15 (.aload_n 0) 1) (am_lf pc 16 (.iload_n 1) 1)) (cond (Nat.blt pc 20) (am_lf pc 17 (.invokevirtual 249) 3) (am_lf pc 20 (.goto 8) 3))) (cond (Nat.blt pc 25) (cond (Nat.blt pc 24) (am_lf pc 23 (.aload_n 0) 1) (am_lf pc 24 (.iconst 1) 1)) (cond (Nat.blt pc 28) (am_lf pc 25 (.invokevirtual 141) 3) (am_lf pc 28 .ireturn 1))))))
def tk_X6_oathFor : Nat → Option (Instr × Nat) := am_guard 58 (fun pc => (cond (Nat.blt pc 28) (cond (Nat.blt pc 15) (cond (Nat.blt pc 8) (cond (Nat.blt pc 4) (cond (Nat.blt pc 1) (am_lf pc 0 (.aload_n 0) 1) (am_lf pc 1 (.sipush 500) 3)) (cond (Nat.blt pc 7) (am_lf pc 4 (.invokevirtual 246) 3) (am_lf pc 7 (.iload_n 1) 1))) (cond (Nat.blt pc 13) (cond (Nat.blt pc 11) (am_lf pc 8 (.if_icmp .le 6) 3) (am_lf pc 11 (.ldc 213) 2)) (cond (Nat.blt pc 14) (am_lf pc 13 .ireturn 1) (am_lf pc 14 (.iconst 0) 1)))) (cond (Nat.blt pc 21) (cond (Nat.blt pc 19) (cond (Nat.blt pc 16) (am_lf pc 15 (.istore_n 2) 1) (am_lf pc 16 (.sipush 500) 3)) (cond (Nat.blt pc 20) (am_lf pc 19 (.istore_n 3) 1) (am_lf pc 20 (.iload_n 2) 1))) (cond (Nat.blt pc 25) (cond (Nat.blt pc 22) (am_lf pc 21 (.iload_n 3) 1) (am_lf pc 22 (.if_icmp .ge 34) 3)) (cond (Nat.blt pc 26) (am_lf pc 25 (.iload_n 2) 1) (cond (Nat.blt pc 27) (am_lf pc 26 (.iload_n 3) 1) (am_lf pc 27 .iadd 1)))))) (cond (Nat.blt pc 44) (cond (Nat.blt pc 33) (cond (Nat.blt pc 30) (cond (Nat.blt pc 29) (am_lf pc 28 (.iconst 2) 1) (am_lf pc 29 .idiv 1)) (cond (Nat.blt pc 32) (am_lf pc 30 (.istore 4) 2) (am_lf pc 32 (.aload_n 0) 1))) (cond (Nat.blt pc 38) (cond (Nat.blt pc 35) (am_lf pc 33 (.iload 4) 2) (am_lf pc 35 (.invokevirtual 246) 3)) (cond (Nat.blt pc 39) (am_lf pc 38 (.iload_n 1) 1) (cond (Nat.blt pc 42) (am_lf pc 39 (.if_icmp .gt 9) 3) (am_lf pc 42 (.iload 4) 2))))) (cond (Nat.blt pc 51) (cond (Nat.blt pc 48) (cond (Nat.blt pc 45) (am_lf pc 44 (.istore_n 3) 1) (am_lf pc 45 (.goto 8) 3)) (cond (Nat.blt pc 50) (am_lf pc 48 (.iload 4) 2) (am_lf pc 50 (.iconst 1) 1))) (cond (Nat.blt pc 53) (cond (Nat.blt pc 52) (am_lf pc 51 .iadd 1) (am_lf pc 52 (.istore_n 2) 1)) (cond (Nat.blt pc 56) (am_lf pc 53 (.goto (-33)) 3) (cond (Nat.blt pc 57) (am_lf pc 56 (.iload_n 2) 1) (am_lf pc 57 .ireturn 1))))))))
def tk_X6_fewestBy : Nat → Option (Instr × Nat) := am_guard 48 (fun pc => (cond (Nat.blt pc 23) (cond (Nat.blt pc 10) (cond (Nat.blt pc 4) (cond (Nat.blt pc 2) (cond (Nat.blt pc 1) (am_lf pc 0 (.iconst 0) 1) (am_lf pc 1 (.istore_n 2) 1)) (cond (Nat.blt pc 3) (am_lf pc 2 (.iconst 0) 1) (am_lf pc 3 (.istore_n 3) 1))) (cond (Nat.blt pc 6) (cond (Nat.blt pc 5) (am_lf pc 4 (.iload_n 3) 1) (am_lf pc 5 (.aload_n 0) 1)) (cond (Nat.blt pc 9) (am_lf pc 6 (.getfield 7) 3) (am_lf pc 9 (.iconst 0) 1)))) (cond (Nat.blt pc 16) (cond (Nat.blt pc 14) (cond (Nat.blt pc 11) (am_lf pc 10 .iaload 1) (am_lf pc 11 (.if_icmp .ge 35) 3)) (cond (Nat.blt pc 15) (am_lf pc 14 (.aload_n 0) 1) (am_lf pc 15 (.iload_n 3) 1))) (cond (Nat.blt pc 21) (cond (Nat.blt pc 19) (am_lf pc 16 (.invokevirtual 124) 3) (am_lf pc 19 (.istore 4) 2)) (cond (Nat.blt pc 22) (am_lf pc 21 (.aload_n 0) 1) (am_lf pc 22 (.iload_n 3) 1))))) (cond (Nat.blt pc 36) (cond (Nat.blt pc 30) (cond (Nat.blt pc 26) (cond (Nat.blt pc 25) (am_lf pc 23 (.iload 4) 2) (am_lf pc 25 (.iload_n 1) 1)) (cond (Nat.blt pc 29) (am_lf pc 26 (.invokevirtual 134) 3) (am_lf pc 29 (.iload_n 2) 1))) (cond (Nat.blt pc 34) (cond (Nat.blt pc 31) (am_lf pc 30 (.aload_n 0) 1) (am_lf pc 31 (.getfield 28) 3)) (cond (Nat.blt pc 35) (am_lf pc 34 (.iload_n 3) 1) (am_lf pc 35 .iaload 1)))) (cond (Nat.blt pc 41) (cond (Nat.blt pc 38) (cond (Nat.blt pc 37) (am_lf pc 36 .iadd 1) (am_lf pc 37 (.istore_n 2) 1)) (cond (Nat.blt pc 40) (am_lf pc 38 (.iload 4) 2) (am_lf pc 40 (.iconst 1) 1))) (cond (Nat.blt pc 43) (cond (Nat.blt pc 42) (am_lf pc 41 .iadd 1) (am_lf pc 42 (.istore_n 3) 1)) (cond (Nat.blt pc 46) (am_lf pc 43 (.goto (-39)) 3) (cond (Nat.blt pc 47) (am_lf pc 46 (.iload_n 2) 1) (am_lf pc 47 .ireturn 1))))))))
def tk_X6_cheapest : Nat → Option (Instr × Nat) := am_guard 28 (fun pc => (cond (Nat.blt pc 14) (cond (Nat.blt pc 6) (cond (Nat.blt pc 2) (cond (Nat.blt pc 1) (am_lf pc 0 (.aload_n 0) 1) (am_lf pc 1 (.iconst 0) 1)) (cond (Nat.blt pc 5) (am_lf pc 2 (.putfield 40) 3) (am_lf pc 5 (.iload_n 1) 1))) (cond (Nat.blt pc 8) (cond (Nat.blt pc 7) (am_lf pc 6 (.iconst 0) 1) (am_lf pc 7 (.iconst 1) 1)) (cond (Nat.blt pc 11) (am_lf pc 8 (.invokestatic 47) 3) (am_lf pc 11 (.ifCond .eq 11) 3)))) (cond (Nat.blt pc 22) (cond (Nat.blt pc 16) (cond (Nat.blt pc 15) (am_lf pc 14 (.aload_n 0) 1) (am_lf pc 15 (.iload_n 1) 1)) (cond (Nat.blt pc 19) (am_lf pc 16 (.invokevirtual 252) 3) (am_lf pc 19 (.goto 8) 3))) (cond (Nat.blt pc 24) (cond (Nat.blt pc 23) (am_lf pc 22 (.aload_n 0) 1) (am_lf pc 23 (.iconst 1) 1)) (cond (Nat.blt pc 27) (am_lf pc 24 (.invokevirtual 141) 3) (am_lf pc 27 .ireturn 1))))))
def tk_X6_missedLeast : Nat → Option (Instr × Nat) := am_guard 172 (fun pc => (cond (Nat.blt pc 89) (cond (Nat.blt pc 39) (cond (Nat.blt pc 17) (cond (Nat.blt pc 6) (cond (Nat.blt pc 3) (cond (Nat.blt pc 2) (am_lf pc 0 (.ldc 213) 2) (am_lf pc 2 (.istore_n 2) 1)) (cond (Nat.blt pc 4) (am_lf pc 3 (.lconst 0) 1) (cond (Nat.blt pc 5) (am_lf pc 4 (.lstore_n 3) 1) (am_lf pc 5 (.lconst 1) 1)))) (cond (Nat.blt pc 11) (cond (Nat.blt pc 8) (am_lf pc 6 (.lstore 5) 2) (cond (Nat.blt pc 9) (am_lf pc 8 (.iconst 0) 1) (am_lf pc 9 (.istore 7) 2))) (cond (Nat.blt pc 13) (am_lf pc 11 (.iload 7) 2) (cond (Nat.blt pc 14) (am_lf pc 13 (.aload_n 0) 1) (am_lf pc 14 (.getfield 7) 3))))) (cond (Nat.blt pc 28) (cond (Nat.blt pc 22) (cond (Nat.blt pc 18) (am_lf pc 17 (.iconst 0) 1) (cond (Nat.blt pc 19) (am_lf pc 18 .iaload 1) (am_lf pc 19 (.if_icmp .ge 130) 3))) (cond (Nat.blt pc 23) (am_lf pc 22 (.aload_n 0) 1) (cond (Nat.blt pc 25) (am_lf pc 23 (.iload 7) 2) (am_lf pc 25 (.invokevirtual 163) 3)))) (cond (Nat.blt pc 34) (cond (Nat.blt pc 31) (am_lf pc 28 (.ifCond .ne 115) 3) (cond (Nat.blt pc 32) (am_lf pc 31 (.iconst 0) 1) (am_lf pc 32 (.istore 8) 2))) (cond (Nat.blt pc 35) (am_lf pc 34 (.aload_n 0) 1) (cond (Nat.blt pc 38) (am_lf pc 35 (.getfield 83) 3) (am_lf pc 38 (.iconst 1) 1)))))) (cond (Nat.blt pc 61) (cond (Nat.blt pc 51) (cond (Nat.blt pc 44) (cond (Nat.blt pc 40) (am_lf pc 39 .iadd 1) (cond (Nat.blt pc 42) (am_lf pc 40 (.istore 9) 2) (am_lf pc 42 (.iload 9) 2))) (cond (Nat.blt pc 45) (am_lf pc 44 (.aload_n 0) 1) (cond (Nat.blt pc 48) (am_lf pc 45 (.getfield 86) 3) (am_lf pc 48 (.if_icmp .ge 51) 3)))) (cond (Nat.blt pc 56) (cond (Nat.blt pc 52) (am_lf pc 51 (.aload_n 0) 1) (cond (Nat.blt pc 53) (am_lf pc 52 (.aload_n 0) 1) (am_lf pc 53 (.getfield 83) 3))) (cond (Nat.blt pc 57) (am_lf pc 56 (.aload_n 0) 1) (cond (Nat.blt pc 60) (am_lf pc 57 (.getfield 86) 3) (am_lf pc 60 (.aload_n 0) 1))))) (cond (Nat.blt pc 75) (cond (Nat.blt pc 67) (cond (Nat.blt pc 63) (am_lf pc 61 (.iload 9) 2) (cond (Nat.blt pc 66) (am_lf pc 63 (.invokevirtual 51) 3) (am_lf pc 66 (.aload_n 0) 1))) (cond (Nat.blt pc 69) (am_lf pc 67 (.iload 9) 2) (cond (Nat.blt pc 72) (am_lf pc 69 (.invokevirtual 62) 3) (am_lf pc 72 (.invokevirtual 76) 3)))) (cond (Nat.blt pc 81) (cond (Nat.blt pc 77) (am_lf pc 75 (.istore 10) 2) (cond (Nat.blt pc 79) (am_lf pc 77 (.iload 10) 2) (am_lf pc 79 (.iload 8) 2))) (cond (Nat.blt pc 84) (am_lf pc 81 (.if_icmp .le 8) 3) (cond (Nat.blt pc 86) (am_lf pc 84 (.iload 10) 2) (am_lf pc 86 (.goto 5) 3))))))) (cond (Nat.blt pc 132) (cond (Nat.blt pc 112) (cond (Nat.blt pc 100) (cond (Nat.blt pc 93) (cond (Nat.blt pc 91) (am_lf pc 89 (.iload 8) 2) (am_lf pc 91 (.istore 8) 2)) (cond (Nat.blt pc 96) (am_lf pc 93 (.iinc 9 1) 3) (cond (Nat.blt pc 99) (am_lf pc 96 (.goto (-54)) 3) (am_lf pc 99 (.aload_n 0) 1)))) (cond (Nat.blt pc 105) (cond (Nat.blt pc 101) (am_lf pc 100 (.aload_n 0) 1) (cond (Nat.blt pc 104) (am_lf pc 101 (.getfield 83) 3) (am_lf pc 104 (.aload_n 0) 1))) (cond (Nat.blt pc 108) (am_lf pc 105 (.getfield 86) 3) (cond (Nat.blt pc 111) (am_lf pc 108 (.invokevirtual 65) 3) (am_lf pc 111 .i2l 1))))) (cond (Nat.blt pc 123) (cond (Nat.blt pc 118) (cond (Nat.blt pc 114) (am_lf pc 112 (.lstore 9) 2) (cond (Nat.blt pc 115) (am_lf pc 114 (.iload_n 2) 1) (am_lf pc 115 (.ifCond .lt 17) 3))) (cond (Nat.blt pc 120) (am_lf pc 118 (.iload 8) 2) (cond (Nat.blt pc 121) (am_lf pc 120 .i2l 1) (am_lf pc 121 (.lload 5) 2)))) (cond (Nat.blt pc 127) (cond (Nat.blt pc 124) (am_lf pc 123 .lmul 1) (cond (Nat.blt pc 125) (am_lf pc 124 (.lload_n 3) 1) (am_lf pc 125 (.lload 9) 2))) (cond (Nat.blt pc 128) (am_lf pc 127 .lmul 1) (cond (Nat.blt pc 129) (am_lf pc 128 .lcmp 1) (am_lf pc 129 (.ifCond .ge 14) 3)))))) (cond (Nat.blt pc 154) (cond (Nat.blt pc 141) (cond (Nat.blt pc 137) (cond (Nat.blt pc 134) (am_lf pc 132 (.iload 7) 2) (cond (Nat.blt pc 135) (am_lf pc 134 (.istore_n 2) 1) (am_lf pc 135 (.iload 8) 2))) (cond (Nat.blt pc 138) (am_lf pc 137 .i2l 1) (cond (Nat.blt pc 139) (am_lf pc 138 (.lstore_n 3) 1) (am_lf pc 139 (.lload 9) 2)))) (cond (Nat.blt pc 149) (cond (Nat.blt pc 143) (am_lf pc 141 (.lstore 5) 2) (cond (Nat.blt pc 146) (am_lf pc 143 (.iinc 7 1) 3) (am_lf pc 146 (.goto (-135)) 3))) (cond (Nat.blt pc 150) (am_lf pc 149 (.iload_n 2) 1) (cond (Nat.blt pc 153) (am_lf pc 150 (.ifCond .lt 7) 3) (am_lf pc 153 (.iload_n 1) 1))))) (cond (Nat.blt pc 165) (cond (Nat.blt pc 161) (cond (Nat.blt pc 157) (am_lf pc 154 (.ifCond .ne 7) 3) (cond (Nat.blt pc 158) (am_lf pc 157 (.iload_n 2) 1) (am_lf pc 158 (.goto 13) 3))) (cond (Nat.blt pc 162) (am_lf pc 161 (.lload_n 3) 1) (cond (Nat.blt pc 164) (am_lf pc 162 (.lload 5) 2) (am_lf pc 164 .ladd 1)))) (cond (Nat.blt pc 169) (cond (Nat.blt pc 166) (am_lf pc 165 (.lconst 1) 1) (cond (Nat.blt pc 167) (am_lf pc 166 .lsub 1) (am_lf pc 167 (.lload 5) 2))) (cond (Nat.blt pc 170) (am_lf pc 169 .ldiv 1) (cond (Nat.blt pc 171) (am_lf pc 170 .l2i 1) (am_lf pc 171 .ireturn 1)))))))))
def tk_X6_droppedShare : Nat → Option (Instr × Nat) := am_guard 10 (fun pc => (cond (Nat.blt pc 5) (cond (Nat.blt pc 1) (am_lf pc 0 (.aload_n 0) 1) (cond (Nat.blt pc 2) (am_lf pc 1 (.iconst 0) 1) (am_lf pc 2 (.putfield 40) 3))) (cond (Nat.blt pc 6) (am_lf pc 5 (.aload_n 0) 1) (cond (Nat.blt pc 9) (am_lf pc 6 (.invokevirtual 255) 3) (am_lf pc 9 .dreturn 1)))))
def tk_X6_share : Nat → Option (Instr × Nat) := am_guard 34 (fun pc => (cond (Nat.blt pc 19) (cond (Nat.blt pc 9) (cond (Nat.blt pc 4) (cond (Nat.blt pc 1) (am_lf pc 0 (.aload_n 0) 1) (am_lf pc 1 (.getfield 7) 3)) (cond (Nat.blt pc 5) (am_lf pc 4 (.iconst 0) 1) (cond (Nat.blt pc 6) (am_lf pc 5 .iaload 1) (am_lf pc 6 (.ifCond .ne 7) 3)))) (cond (Nat.blt pc 14) (cond (Nat.blt pc 10) (am_lf pc 9 (.dconst 0) 1) (cond (Nat.blt pc 13) (am_lf pc 10 (.goto 23) 3) (am_lf pc 13 (.aload_n 0) 1))) (cond (Nat.blt pc 17) (am_lf pc 14 (.getfield 7) 3) (cond (Nat.blt pc 18) (am_lf pc 17 (.iconst 0) 1) (am_lf pc 18 .iaload 1))))) (cond (Nat.blt pc 26) (cond (Nat.blt pc 23) (cond (Nat.blt pc 20) (am_lf pc 19 (.aload_n 0) 1) (am_lf pc 20 (.invokevirtual 159) 3)) (cond (Nat.blt pc 24) (am_lf pc 23 .isub 1) (cond (Nat.blt pc 25) (am_lf pc 24 .i2d 1) (am_lf pc 25 (.aload_n 0) 1)))) (cond (Nat.blt pc 31) (cond (Nat.blt pc 29) (am_lf pc 26 (.getfield 7) 3) (cond (Nat.blt pc 30) (am_lf pc 29 (.iconst 0) 1) (am_lf pc 30 .iaload 1))) (cond (Nat.blt pc 32) (am_lf pc 31 .i2d 1) (cond (Nat.blt pc 33) (am_lf pc 32 .ddiv 1) (am_lf pc 33 .dreturn 1)))))))
def tk_X6_digest : Nat → Option (Instr × Nat) := am_guard 358 (fun pc => (cond (Nat.blt pc 180) (cond (Nat.blt pc 92) (cond (Nat.blt pc 47) (cond (Nat.blt pc 23) (cond (Nat.blt pc 11) (cond (Nat.blt pc 5) (cond (Nat.blt pc 1) (am_lf pc 0 (.aload_n 0) 1) (cond (Nat.blt pc 2) (am_lf pc 1 (.iconst 0) 1) (am_lf pc 2 (.putfield 40) 3))) (cond (Nat.blt pc 9) (cond (Nat.blt pc 8) (am_lf pc 5 (.ldc2_w 259) 3) (am_lf pc 8 (.lstore_n 1) 1)) (cond (Nat.blt pc 10) (am_lf pc 9 (.iconst 0) 1) (am_lf pc 10 (.istore_n 3) 1)))) (cond (Nat.blt pc 17) (cond (Nat.blt pc 12) (am_lf pc 11 (.iload_n 3) 1) (cond (Nat.blt pc 14) (am_lf pc 12 (.bipush 11) 2) (am_lf pc 14 (.if_icmp .ge 22) 3))) (cond (Nat.blt pc 21) (cond (Nat.blt pc 20) (am_lf pc 17 (.ldc2_w 261) 3) (am_lf pc 20 (.lload_n 1) 1)) (cond (Nat.blt pc 22) (am_lf pc 21 .lmul 1) (am_lf pc 22 (.aload_n 0) 1))))) (cond (Nat.blt pc 36) (cond (Nat.blt pc 28) (cond (Nat.blt pc 24) (am_lf pc 23 (.iload_n 3) 1) (cond (Nat.blt pc 27) (am_lf pc 24 (.invokevirtual 244) 3) (am_lf pc 27 .i2l 1))) (cond (Nat.blt pc 30) (cond (Nat.blt pc 29) (am_lf pc 28 .ladd 1) (am_lf pc 29 (.lstore_n 1) 1)) (cond (Nat.blt pc 33) (am_lf pc 30 (.iinc 3 1) 3) (am_lf pc 33 (.goto (-22)) 3)))) (cond (Nat.blt pc 39) (cond (Nat.blt pc 37) (am_lf pc 36 (.iconst 0) 1) (cond (Nat.blt pc 38) (am_lf pc 37 (.istore_n 3) 1) (am_lf pc 38 (.iload_n 3) 1))) (cond (Nat.blt pc 43) (cond (Nat.blt pc 40) (am_lf pc 39 (.iconst 3) 1) (am_lf pc 40 (.if_icmp .ge 25) 3)) (cond (Nat.blt pc 46) (am_lf pc 43 (.ldc2_w 261) 3) (am_lf pc 46 (.lload_n 1) 1)))))) (cond (Nat.blt pc 67) (cond (Nat.blt pc 56) (cond (Nat.blt pc 52) (cond (Nat.blt pc 48) (am_lf pc 47 .lmul 1) (cond (Nat.blt pc 49) (am_lf pc 48 (.aload_n 0) 1) (am_lf pc 49 (.getfield 7) 3))) (cond (Nat.blt pc 54) (cond (Nat.blt pc 53) (am_lf pc 52 (.iconst 4) 1) (am_lf pc 53 (.iload_n 3) 1)) (cond (Nat.blt pc 55) (am_lf pc 54 .iadd 1) (am_lf pc 55 .iaload 1)))) (cond (Nat.blt pc 59) (cond (Nat.blt pc 57) (am_lf pc 56 .i2l 1) (cond (Nat.blt pc 58) (am_lf pc 57 .ladd 1) (am_lf pc 58 (.lstore_n 1) 1))) (cond (Nat.blt pc 65) (cond (Nat.blt pc 62) (am_lf pc 59 (.iinc 3 1) 3) (am_lf pc 62 (.goto (-24)) 3)) (cond (Nat.blt pc 66) (am_lf pc 65 (.iconst 0) 1) (am_lf pc 66 (.istore_n 3) 1))))) (cond (Nat.blt pc 78) (cond (Nat.blt pc 72) (cond (Nat.blt pc 68) (am_lf pc 67 (.iload_n 3) 1) (cond (Nat.blt pc 69) (am_lf pc 68 (.aload_n 0) 1) (am_lf pc 69 (.getfield 7) 3))) (cond (Nat.blt pc 74) (cond (Nat.blt pc 73) (am_lf pc 72 (.iconst 0) 1) (am_lf pc 73 .iaload 1)) (cond (Nat.blt pc 77) (am_lf pc 74 (.if_icmp .ge 66) 3) (am_lf pc 77 (.iconst 0) 1)))) (cond (Nat.blt pc 84) (cond (Nat.blt pc 80) (am_lf pc 78 (.istore 4) 2) (cond (Nat.blt pc 82) (am_lf pc 80 (.iload 4) 2) (am_lf pc 82 (.bipush 8) 2))) (cond (Nat.blt pc 90) (cond (Nat.blt pc 87) (am_lf pc 84 (.if_icmp .ge 24) 3) (am_lf pc 87 (.ldc2_w 261) 3)) (cond (Nat.blt pc 91) (am_lf pc 90 (.lload_n 1) 1) (am_lf pc 91 .lmul 1))))))) (cond (Nat.blt pc 137) (cond (Nat.blt pc 117) (cond (Nat.blt pc 102) (cond (Nat.blt pc 96) (cond (Nat.blt pc 93) (am_lf pc 92 (.aload_n 0) 1) (cond (Nat.blt pc 94) (am_lf pc 93 (.iload_n 3) 1) (am_lf pc 94 (.iload 4) 2))) (cond (Nat.blt pc 100) (cond (Nat.blt pc 99) (am_lf pc 96 (.invokevirtual 217) 3) (am_lf pc 99 .i2l 1)) (cond (Nat.blt pc 101) (am_lf pc 100 .ladd 1) (am_lf pc 101 (.lstore_n 1) 1)))) (cond (Nat.blt pc 111) (cond (Nat.blt pc 105) (am_lf pc 102 (.iinc 4 1) 3) (cond (Nat.blt pc 108) (am_lf pc 105 (.goto (-25)) 3) (am_lf pc 108 (.ldc2_w 261) 3))) (cond (Nat.blt pc 115) (cond (Nat.blt pc 114) (am_lf pc 111 (.ldc2_w 261) 3) (am_lf pc 114 (.lload_n 1) 1)) (cond (Nat.blt pc 116) (am_lf pc 115 .lmul 1) (am_lf pc 116 (.aload_n 0) 1))))) (cond (Nat.blt pc 126) (cond (Nat.blt pc 122) (cond (Nat.blt pc 118) (am_lf pc 117 (.iload_n 3) 1) (cond (Nat.blt pc 119) (am_lf pc 118 (.iconst 0) 1) (am_lf pc 119 (.invokevirtual 223) 3))) (cond (Nat.blt pc 124) (cond (Nat.blt pc 123) (am_lf pc 122 .i2l 1) (am_lf pc 123 .ladd 1)) (cond (Nat.blt pc 125) (am_lf pc 124 .lmul 1) (am_lf pc 125 (.aload_n 0) 1)))) (cond (Nat.blt pc 131) (cond (Nat.blt pc 127) (am_lf pc 126 (.iload_n 3) 1) (cond (Nat.blt pc 128) (am_lf pc 127 (.iconst 1) 1) (am_lf pc 128 (.invokevirtual 223) 3))) (cond (Nat.blt pc 133) (cond (Nat.blt pc 132) (am_lf pc 131 .i2l 1) (am_lf pc 132 .ladd 1)) (cond (Nat.blt pc 134) (am_lf pc 133 (.lstore_n 1) 1) (am_lf pc 134 (.iinc 3 1) 3)))))) (cond (Nat.blt pc 159) (cond (Nat.blt pc 148) (cond (Nat.blt pc 142) (cond (Nat.blt pc 140) (am_lf pc 137 (.goto (-70)) 3) (cond (Nat.blt pc 141) (am_lf pc 140 (.iconst 0) 1) (am_lf pc 141 (.istore_n 3) 1))) (cond (Nat.blt pc 144) (cond (Nat.blt pc 143) (am_lf pc 142 (.iload_n 3) 1) (am_lf pc 143 (.iconst 5) 1)) (cond (Nat.blt pc 145) (am_lf pc 144 (.aload_n 0) 1) (am_lf pc 145 (.invokevirtual 175) 3)))) (cond (Nat.blt pc 155) (cond (Nat.blt pc 149) (am_lf pc 148 .imul 1) (cond (Nat.blt pc 152) (am_lf pc 149 (.if_icmp .ge 27) 3) (am_lf pc 152 (.ldc2_w 261) 3))) (cond (Nat.blt pc 157) (cond (Nat.blt pc 156) (am_lf pc 155 (.lload_n 1) 1) (am_lf pc 156 .lmul 1)) (cond (Nat.blt pc 158) (am_lf pc 157 (.aload_n 0) 1) (am_lf pc 158 (.iload_n 3) 1))))) (cond (Nat.blt pc 168) (cond (Nat.blt pc 162) (cond (Nat.blt pc 160) (am_lf pc 159 (.iconst 5) 1) (cond (Nat.blt pc 161) (am_lf pc 160 .idiv 1) (am_lf pc 161 (.iload_n 3) 1))) (cond (Nat.blt pc 164) (cond (Nat.blt pc 163) (am_lf pc 162 (.iconst 5) 1) (am_lf pc 163 .irem 1)) (cond (Nat.blt pc 167) (am_lf pc 164 (.invokevirtual 226) 3) (am_lf pc 167 .i2l 1)))) (cond (Nat.blt pc 176) (cond (Nat.blt pc 170) (cond (Nat.blt pc 169) (am_lf pc 168 .ladd 1) (am_lf pc 169 (.lstore_n 1) 1)) (cond (Nat.blt pc 173) (am_lf pc 170 (.iinc 3 1) 3) (am_lf pc 173 (.goto (-31)) 3))) (cond (Nat.blt pc 178) (cond (Nat.blt pc 177) (am_lf pc 176 (.iconst 0) 1) (am_lf pc 177 (.istore_n 3) 1)) (cond (Nat.blt pc 179) (am_lf pc 178 (.iload_n 3) 1) (am_lf pc 179 (.iconst 3) 1)))))))) (cond (Nat.blt pc 269) (cond (Nat.blt pc 224) (cond (Nat.blt pc 200) (cond (Nat.blt pc 193) (cond (Nat.blt pc 185) (cond (Nat.blt pc 181) (am_lf pc 180 (.aload_n 0) 1) (cond (Nat.blt pc 184) (am_lf pc 181 (.getfield 7) 3) (am_lf pc 184 (.iconst 1) 1))) (cond (Nat.blt pc 187) (cond (Nat.blt pc 186) (am_lf pc 185 .iaload 1) (am_lf pc 186 .imul 1)) (cond (Nat.blt pc 190) (am_lf pc 187 (.if_icmp .ge 27) 3) (am_lf pc 190 (.ldc2_w 261) 3)))) (cond (Nat.blt pc 196) (cond (Nat.blt pc 194) (am_lf pc 193 (.lload_n 1) 1) (cond (Nat.blt pc 195) (am_lf pc 194 .lmul 1) (am_lf pc 195 (.aload_n 0) 1))) (cond (Nat.blt pc 198) (cond (Nat.blt pc 197) (am_lf pc 196 (.iload_n 3) 1) (am_lf pc 197 (.iconst 3) 1)) (cond (Nat.blt pc 199) (am_lf pc 198 .idiv 1) (am_lf pc 199 (.iload_n 3) 1))))) (cond (Nat.blt pc 211) (cond (Nat.blt pc 205) (cond (Nat.blt pc 201) (am_lf pc 200 (.iconst 3) 1) (cond (Nat.blt pc 202) (am_lf pc 201 .irem 1) (am_lf pc 202 (.invokevirtual 229) 3))) (cond (Nat.blt pc 207) (cond (Nat.blt pc 206) (am_lf pc 205 .i2l 1) (am_lf pc 206 .ladd 1)) (cond (Nat.blt pc 208) (am_lf pc 207 (.lstore_n 1) 1) (am_lf pc 208 (.iinc 3 1) 3)))) (cond (Nat.blt pc 216) (cond (Nat.blt pc 214) (am_lf pc 211 (.goto (-33)) 3) (cond (Nat.blt pc 215) (am_lf pc 214 (.iconst 0) 1) (am_lf pc 215 (.istore_n 3) 1))) (cond (Nat.blt pc 218) (cond (Nat.blt pc 217) (am_lf pc 216 (.iload_n 3) 1) (am_lf pc 217 (.iconst 3) 1)) (cond (Nat.blt pc 221) (am_lf pc 218 (.if_icmp .ge 22) 3) (am_lf pc 221 (.ldc2_w 261) 3)))))) (cond (Nat.blt pc 246) (cond (Nat.blt pc 233) (cond (Nat.blt pc 227) (cond (Nat.blt pc 225) (am_lf pc 224 (.lload_n 1) 1) (cond (Nat.blt pc 226) (am_lf pc 225 .lmul 1) (am_lf pc 226 (.aload_n 0) 1))) (cond (Nat.blt pc 231) (cond (Nat.blt pc 228) (am_lf pc 227 (.iload_n 3) 1) (am_lf pc 228 (.invokevirtual 172) 3)) (cond (Nat.blt pc 232) (am_lf pc 231 .i2l 1) (am_lf pc 232 .ladd 1)))) (cond (Nat.blt pc 240) (cond (Nat.blt pc 234) (am_lf pc 233 (.lstore_n 1) 1) (cond (Nat.blt pc 237) (am_lf pc 234 (.iinc 3 1) 3) (am_lf pc 237 (.goto (-21)) 3))) (cond (Nat.blt pc 244) (cond (Nat.blt pc 243) (am_lf pc 240 (.ldc2_w 261) 3) (am_lf pc 243 (.lload_n 1) 1)) (cond (Nat.blt pc 245) (am_lf pc 244 .lmul 1) (am_lf pc 245 (.aload_n 0) 1))))) (cond (Nat.blt pc 260) (cond (Nat.blt pc 252) (cond (Nat.blt pc 248) (am_lf pc 246 (.bipush 10) 2) (cond (Nat.blt pc 251) (am_lf pc 248 (.invokevirtual 249) 3) (am_lf pc 251 .i2l 1))) (cond (Nat.blt pc 254) (cond (Nat.blt pc 253) (am_lf pc 252 .ladd 1) (am_lf pc 253 (.lstore_n 1) 1)) (cond (Nat.blt pc 257) (am_lf pc 254 (.ldc2_w 261) 3) (am_lf pc 257 (.ldc2_w 261) 3)))) (cond (Nat.blt pc 263) (cond (Nat.blt pc 261) (am_lf pc 260 (.lload_n 1) 1) (cond (Nat.blt pc 262) (am_lf pc 261 .lmul 1) (am_lf pc 262 (.aload_n 0) 1))) (cond (Nat.blt pc 267) (cond (Nat.blt pc 264) (am_lf pc 263 (.iconst 0) 1) (am_lf pc 264 (.invokevirtual 252) 3)) (cond (Nat.blt pc 268) (am_lf pc 267 .i2l 1) (am_lf pc 268 .ladd 1))))))) (cond (Nat.blt pc 313) (cond (Nat.blt pc 291) (cond (Nat.blt pc 278) (cond (Nat.blt pc 272) (cond (Nat.blt pc 270) (am_lf pc 269 .lmul 1) (cond (Nat.blt pc 271) (am_lf pc 270 (.aload_n 0) 1) (am_lf pc 271 (.iconst 1) 1))) (cond (Nat.blt pc 276) (cond (Nat.blt pc 275) (am_lf pc 272 (.invokevirtual 252) 3) (am_lf pc 275 .i2l 1)) (cond (Nat.blt pc 277) (am_lf pc 276 .ladd 1) (am_lf pc 277 (.lstore_n 1) 1)))) (cond (Nat.blt pc 285) (cond (Nat.blt pc 281) (am_lf pc 278 (.ldc2_w 261) 3) (cond (Nat.blt pc 284) (am_lf pc 281 (.ldc2_w 261) 3) (am_lf pc 284 (.lload_n 1) 1))) (cond (Nat.blt pc 287) (cond (Nat.blt pc 286) (am_lf pc 285 .lmul 1) (am_lf pc 286 (.aload_n 0) 1)) (cond (Nat.blt pc 288) (am_lf pc 287 (.iconst 0) 1) (am_lf pc 288 (.invokevirtual 263) 3))))) (cond (Nat.blt pc 300) (cond (Nat.blt pc 294) (cond (Nat.blt pc 292) (am_lf pc 291 .ladd 1) (cond (Nat.blt pc 293) (am_lf pc 292 .lmul 1) (am_lf pc 293 (.aload_n 0) 1))) (cond (Nat.blt pc 298) (cond (Nat.blt pc 295) (am_lf pc 294 (.iconst 1) 1) (am_lf pc 295 (.invokevirtual 263) 3)) (cond (Nat.blt pc 299) (am_lf pc 298 .ladd 1) (am_lf pc 299 (.lstore_n 1) 1)))) (cond (Nat.blt pc 305) (cond (Nat.blt pc 303) (am_lf pc 300 (.ldc2_w 261) 3) (cond (Nat.blt pc 304) (am_lf pc 303 (.lload_n 1) 1) (am_lf pc 304 .lmul 1))) (cond (Nat.blt pc 309) (cond (Nat.blt pc 306) (am_lf pc 305 (.aload_n 0) 1) (am_lf pc 306 (.invokevirtual 255) 3)) (cond (Nat.blt pc 312) (am_lf pc 309 (.invokestatic 267) 3) (am_lf pc 312 .ladd 1)))))) (cond (Nat.blt pc 333) (cond (Nat.blt pc 324) (cond (Nat.blt pc 318) (cond (Nat.blt pc 314) (am_lf pc 313 (.lstore_n 1) 1) (cond (Nat.blt pc 317) (am_lf pc 314 (.ldc2_w 261) 3) (am_lf pc 317 (.lload_n 1) 1))) (cond (Nat.blt pc 320) (cond (Nat.blt pc 319) (am_lf pc 318 .lmul 1) (am_lf pc 319 (.aload_n 0) 1)) (cond (Nat.blt pc 323) (am_lf pc 320 (.getfield 184) 3) (am_lf pc 323 .i2l 1)))) (cond (Nat.blt pc 327) (cond (Nat.blt pc 325) (am_lf pc 324 .ladd 1) (cond (Nat.blt pc 326) (am_lf pc 325 (.lstore_n 1) 1) (am_lf pc 326 (.iconst 0) 1))) (cond (Nat.blt pc 329) (cond (Nat.blt pc 328) (am_lf pc 327 (.istore_n 3) 1) (am_lf pc 328 (.iload_n 3) 1)) (cond (Nat.blt pc 330) (am_lf pc 329 (.aload_n 0) 1) (am_lf pc 330 (.getfield 184) 3))))) (cond (Nat.blt pc 346) (cond (Nat.blt pc 340) (cond (Nat.blt pc 336) (am_lf pc 333 (.if_icmp .ge 23) 3) (cond (Nat.blt pc 339) (am_lf pc 336 (.ldc2_w 261) 3) (am_lf pc 339 (.lload_n 1) 1))) (cond (Nat.blt pc 342) (cond (Nat.blt pc 341) (am_lf pc 340 .lmul 1) (am_lf pc 341 (.aload_n 0) 1)) (cond (Nat.blt pc 345) (am_lf pc 342 (.getfield 16) 3) (am_lf pc 345 (.iload_n 3) 1)))) (cond (Nat.blt pc 350) (cond (Nat.blt pc 348) (cond (Nat.blt pc 347) (am_lf pc 346 .iaload 1) (am_lf pc 347 .i2l 1)) (cond (Nat.blt pc 349) (am_lf pc 348 .ladd 1) (am_lf pc 349 (.lstore_n 1) 1))) (cond (Nat.blt pc 356) (cond (Nat.blt pc 353) (am_lf pc 350 (.iinc 3 1) 3) (am_lf pc 353 (.goto (-25)) 3)) (cond (Nat.blt pc 357) (am_lf pc 356 (.lload_n 1) 1) (am_lf pc 357 .lreturn 1))))))))))
def tk_Jxe99ae_doubleToLongBits_ccdee : Nat → Option (Instr × Nat) := am_guard 16 (fun pc => (cond (Nat.blt pc 8) (cond (Nat.blt pc 4) (cond (Nat.blt pc 1) (am_lf pc 0 (.dload_n 0) 1) (am_lf pc 1 (.invokestatic 122) 3)) (cond (Nat.blt pc 7) (am_lf pc 4 (.ifCond .ne 8) 3) (am_lf pc 7 (.dload_n 0) 1))) (cond (Nat.blt pc 12) (cond (Nat.blt pc 11) (am_lf pc 8 (.invokestatic 134) 3) (am_lf pc 11 .lreturn 1)) (cond (Nat.blt pc 15) (am_lf pc 12 (.ldc2_w 137) 3) (am_lf pc 15 .lreturn 1)))))
def tk_Jxe99ae_isNaN_b9ae7 : Nat → Option (Instr × Nat) := am_guard 12 (fun pc => (cond (Nat.blt pc 6) (cond (Nat.blt pc 2) (cond (Nat.blt pc 1) (am_lf pc 0 (.dload_n 0) 1) (am_lf pc 1 (.dload_n 0) 1)) (cond (Nat.blt pc 3) (am_lf pc 2 (.dcmp .l) 1) (am_lf pc 3 (.ifCond .eq 7) 3))) (cond (Nat.blt pc 10) (cond (Nat.blt pc 7) (am_lf pc 6 (.iconst 1) 1) (am_lf pc 7 (.goto 4) 3)) (cond (Nat.blt pc 11) (am_lf pc 10 (.iconst 0) 1) (am_lf pc 11 .ireturn 1)))))
def tk_L_add : Nat → Option (Instr × Nat) := am_guard 23 (fun pc => (cond (Nat.blt pc 10) (cond (Nat.blt pc 4) (cond (Nat.blt pc 2) (cond (Nat.blt pc 1) (am_lf pc 0 (.aload_n 3) 1) (am_lf pc 1 (.iconst 0) 1)) (cond (Nat.blt pc 3) (am_lf pc 2 (.aload_n 0) 1) (am_lf pc 3 (.iload_n 1) 1))) (cond (Nat.blt pc 8) (cond (Nat.blt pc 5) (am_lf pc 4 (.iload_n 2) 1) (am_lf pc 5 (.invokevirtual 7) 3)) (cond (Nat.blt pc 9) (am_lf pc 8 .i2l 1) (am_lf pc 9 .lastore 1)))) (cond (Nat.blt pc 17) (cond (Nat.blt pc 15) (cond (Nat.blt pc 13) (am_lf pc 10 (.goto 11) 3) (am_lf pc 13 (.astore 4) 2)) (cond (Nat.blt pc 16) (am_lf pc 15 (.iconst 1) 1) (am_lf pc 16 .ireturn 1))) (cond (Nat.blt pc 20) (cond (Nat.blt pc 19) (am_lf pc 17 (.astore 4) 2) (am_lf pc 19 (.iconst 2) 1)) (cond (Nat.blt pc 21) (am_lf pc 20 .ireturn 1) (cond (Nat.blt pc 22) (am_lf pc 21 (.iconst 0) 1) (am_lf pc 22 .ireturn 1)))))))
def tk_L_correct : Nat → Option (Instr × Nat) := am_guard 23 (fun pc => (cond (Nat.blt pc 10) (cond (Nat.blt pc 4) (cond (Nat.blt pc 2) (cond (Nat.blt pc 1) (am_lf pc 0 (.aload_n 3) 1) (am_lf pc 1 (.iconst 0) 1)) (cond (Nat.blt pc 3) (am_lf pc 2 (.aload_n 0) 1) (am_lf pc 3 (.iload_n 1) 1))) (cond (Nat.blt pc 8) (cond (Nat.blt pc 5) (am_lf pc 4 (.iload_n 2) 1) (am_lf pc 5 (.invokevirtual 17) 3)) (cond (Nat.blt pc 9) (am_lf pc 8 .i2l 1) (am_lf pc 9 .lastore 1)))) (cond (Nat.blt pc 17) (cond (Nat.blt pc 15) (cond (Nat.blt pc 13) (am_lf pc 10 (.goto 11) 3) (am_lf pc 13 (.astore 4) 2)) (cond (Nat.blt pc 16) (am_lf pc 15 (.iconst 1) 1) (am_lf pc 16 .ireturn 1))) (cond (Nat.blt pc 20) (cond (Nat.blt pc 19) (am_lf pc 17 (.astore 4) 2) (am_lf pc 19 (.iconst 2) 1)) (cond (Nat.blt pc 21) (am_lf pc 20 .ireturn 1) (cond (Nat.blt pc 22) (am_lf pc 21 (.iconst 0) 1) (am_lf pc 22 .ireturn 1)))))))
def tk_L_drop : Nat → Option (Instr × Nat) := am_guard 20 (fun pc => (cond (Nat.blt pc 12) (cond (Nat.blt pc 4) (cond (Nat.blt pc 2) (cond (Nat.blt pc 1) (am_lf pc 0 (.aload_n 2) 1) (am_lf pc 1 (.iconst 0) 1)) (cond (Nat.blt pc 3) (am_lf pc 2 (.aload_n 0) 1) (am_lf pc 3 (.iload_n 1) 1))) (cond (Nat.blt pc 8) (cond (Nat.blt pc 7) (am_lf pc 4 (.invokevirtual 22) 3) (am_lf pc 7 .i2l 1)) (cond (Nat.blt pc 9) (am_lf pc 8 .lastore 1) (am_lf pc 9 (.goto 9) 3)))) (cond (Nat.blt pc 16) (cond (Nat.blt pc 14) (cond (Nat.blt pc 13) (am_lf pc 12 (.astore_n 3) 1) (am_lf pc 13 (.iconst 1) 1)) (cond (Nat.blt pc 15) (am_lf pc 14 .ireturn 1) (am_lf pc 15 (.astore_n 3) 1))) (cond (Nat.blt pc 18) (cond (Nat.blt pc 17) (am_lf pc 16 (.iconst 2) 1) (am_lf pc 17 .ireturn 1)) (cond (Nat.blt pc 19) (am_lf pc 18 (.iconst 0) 1) (am_lf pc 19 .ireturn 1))))))
def tk_L_keep : Nat → Option (Instr × Nat) := am_guard 20 (fun pc => (cond (Nat.blt pc 12) (cond (Nat.blt pc 4) (cond (Nat.blt pc 2) (cond (Nat.blt pc 1) (am_lf pc 0 (.aload_n 2) 1) (am_lf pc 1 (.iconst 0) 1)) (cond (Nat.blt pc 3) (am_lf pc 2 (.aload_n 0) 1) (am_lf pc 3 (.iload_n 1) 1))) (cond (Nat.blt pc 8) (cond (Nat.blt pc 7) (am_lf pc 4 (.invokevirtual 26) 3) (am_lf pc 7 .i2l 1)) (cond (Nat.blt pc 9) (am_lf pc 8 .lastore 1) (am_lf pc 9 (.goto 9) 3)))) (cond (Nat.blt pc 16) (cond (Nat.blt pc 14) (cond (Nat.blt pc 13) (am_lf pc 12 (.astore_n 3) 1) (am_lf pc 13 (.iconst 1) 1)) (cond (Nat.blt pc 15) (am_lf pc 14 .ireturn 1) (am_lf pc 15 (.astore_n 3) 1))) (cond (Nat.blt pc 18) (cond (Nat.blt pc 17) (am_lf pc 16 (.iconst 2) 1) (am_lf pc 17 .ireturn 1)) (cond (Nat.blt pc 19) (am_lf pc 18 (.iconst 0) 1) (am_lf pc 19 .ireturn 1))))))
def tk_L_thin : Nat → Option (Instr × Nat) := am_guard 17 (fun pc => (cond (Nat.blt pc 8) (cond (Nat.blt pc 3) (cond (Nat.blt pc 1) (am_lf pc 0 (.aload_n 2) 1) (cond (Nat.blt pc 2) (am_lf pc 1 (.iconst 0) 1) (am_lf pc 2 (.aload_n 0) 1))) (cond (Nat.blt pc 4) (am_lf pc 3 (.iload_n 1) 1) (cond (Nat.blt pc 7) (am_lf pc 4 (.invokevirtual 29) 3) (am_lf pc 7 .i2l 1)))) (cond (Nat.blt pc 13) (cond (Nat.blt pc 9) (am_lf pc 8 .lastore 1) (cond (Nat.blt pc 12) (am_lf pc 9 (.goto 6) 3) (am_lf pc 12 (.astore_n 3) 1))) (cond (Nat.blt pc 15) (cond (Nat.blt pc 14) (am_lf pc 13 (.iconst 1) 1) (am_lf pc 14 .ireturn 1)) (cond (Nat.blt pc 16) (am_lf pc 15 (.iconst 0) 1) (am_lf pc 16 .ireturn 1))))))
def tk_L_tear : Nat → Option (Instr × Nat) := am_guard 17 (fun pc => (cond (Nat.blt pc 8) (cond (Nat.blt pc 3) (cond (Nat.blt pc 1) (am_lf pc 0 (.aload_n 2) 1) (cond (Nat.blt pc 2) (am_lf pc 1 (.iconst 0) 1) (am_lf pc 2 (.aload_n 0) 1))) (cond (Nat.blt pc 4) (am_lf pc 3 (.iload_n 1) 1) (cond (Nat.blt pc 7) (am_lf pc 4 (.invokevirtual 32) 3) (am_lf pc 7 .i2l 1)))) (cond (Nat.blt pc 13) (cond (Nat.blt pc 9) (am_lf pc 8 .lastore 1) (cond (Nat.blt pc 12) (am_lf pc 9 (.goto 6) 3) (am_lf pc 12 (.astore_n 3) 1))) (cond (Nat.blt pc 15) (cond (Nat.blt pc 14) (am_lf pc 13 (.iconst 1) 1) (am_lf pc 14 .ireturn 1)) (cond (Nat.blt pc 16) (am_lf pc 15 (.iconst 0) 1) (am_lf pc 16 .ireturn 1))))))
def tk_L_set : Nat → Option (Instr × Nat) := am_guard 23 (fun pc => (cond (Nat.blt pc 10) (cond (Nat.blt pc 4) (cond (Nat.blt pc 2) (cond (Nat.blt pc 1) (am_lf pc 0 (.aload_n 3) 1) (am_lf pc 1 (.iconst 0) 1)) (cond (Nat.blt pc 3) (am_lf pc 2 (.aload_n 0) 1) (am_lf pc 3 (.iload_n 1) 1))) (cond (Nat.blt pc 8) (cond (Nat.blt pc 5) (am_lf pc 4 (.iload_n 2) 1) (am_lf pc 5 (.invokevirtual 35) 3)) (cond (Nat.blt pc 9) (am_lf pc 8 .i2l 1) (am_lf pc 9 .lastore 1)))) (cond (Nat.blt pc 17) (cond (Nat.blt pc 15) (cond (Nat.blt pc 13) (am_lf pc 10 (.goto 11) 3) (am_lf pc 13 (.astore 4) 2)) (cond (Nat.blt pc 16) (am_lf pc 15 (.iconst 1) 1) (am_lf pc 16 .ireturn 1))) (cond (Nat.blt pc 20) (cond (Nat.blt pc 19) (am_lf pc 17 (.astore 4) 2) (am_lf pc 19 (.iconst 2) 1)) (cond (Nat.blt pc 21) (am_lf pc 20 .ireturn 1) (cond (Nat.blt pc 22) (am_lf pc 21 (.iconst 0) 1) (am_lf pc 22 .ireturn 1)))))))
def tk_L_note : Nat → Option (Instr × Nat) := am_guard 23 (fun pc => (cond (Nat.blt pc 10) (cond (Nat.blt pc 4) (cond (Nat.blt pc 2) (cond (Nat.blt pc 1) (am_lf pc 0 (.aload_n 3) 1) (am_lf pc 1 (.iconst 0) 1)) (cond (Nat.blt pc 3) (am_lf pc 2 (.aload_n 0) 1) (am_lf pc 3 (.iload_n 1) 1))) (cond (Nat.blt pc 8) (cond (Nat.blt pc 5) (am_lf pc 4 (.iload_n 2) 1) (am_lf pc 5 (.invokevirtual 38) 3)) (cond (Nat.blt pc 9) (am_lf pc 8 .i2l 1) (am_lf pc 9 .lastore 1)))) (cond (Nat.blt pc 17) (cond (Nat.blt pc 15) (cond (Nat.blt pc 13) (am_lf pc 10 (.goto 11) 3) (am_lf pc 13 (.astore 4) 2)) (cond (Nat.blt pc 16) (am_lf pc 15 (.iconst 1) 1) (am_lf pc 16 .ireturn 1))) (cond (Nat.blt pc 20) (cond (Nat.blt pc 19) (am_lf pc 17 (.astore 4) 2) (am_lf pc 19 (.iconst 2) 1)) (cond (Nat.blt pc 21) (am_lf pc 20 .ireturn 1) (cond (Nat.blt pc 22) (am_lf pc 21 (.iconst 0) 1) (am_lf pc 22 .ireturn 1)))))))
def tk_L_append : Nat → Option (Instr × Nat) := am_guard 20 (fun pc => (cond (Nat.blt pc 12) (cond (Nat.blt pc 4) (cond (Nat.blt pc 2) (cond (Nat.blt pc 1) (am_lf pc 0 (.aload_n 2) 1) (am_lf pc 1 (.iconst 0) 1)) (cond (Nat.blt pc 3) (am_lf pc 2 (.aload_n 0) 1) (am_lf pc 3 (.iload_n 1) 1))) (cond (Nat.blt pc 8) (cond (Nat.blt pc 7) (am_lf pc 4 (.invokevirtual 41) 3) (am_lf pc 7 .i2l 1)) (cond (Nat.blt pc 9) (am_lf pc 8 .lastore 1) (am_lf pc 9 (.goto 9) 3)))) (cond (Nat.blt pc 16) (cond (Nat.blt pc 14) (cond (Nat.blt pc 13) (am_lf pc 12 (.astore_n 3) 1) (am_lf pc 13 (.iconst 1) 1)) (cond (Nat.blt pc 15) (am_lf pc 14 .ireturn 1) (am_lf pc 15 (.astore_n 3) 1))) (cond (Nat.blt pc 18) (cond (Nat.blt pc 17) (am_lf pc 16 (.iconst 2) 1) (am_lf pc 17 .ireturn 1)) (cond (Nat.blt pc 19) (am_lf pc 18 (.iconst 0) 1) (am_lf pc 19 .ireturn 1))))))
def tk_L_addAll : Nat → Option (Instr × Nat) := am_guard 19 (fun pc => (cond (Nat.blt pc 11) (cond (Nat.blt pc 3) (cond (Nat.blt pc 1) (am_lf pc 0 (.aload_n 1) 1) (cond (Nat.blt pc 2) (am_lf pc 1 (.iconst 0) 1) (am_lf pc 2 (.aload_n 0) 1))) (cond (Nat.blt pc 7) (cond (Nat.blt pc 6) (am_lf pc 3 (.invokevirtual 44) 3) (am_lf pc 6 .i2l 1)) (cond (Nat.blt pc 8) (am_lf pc 7 .lastore 1) (am_lf pc 8 (.goto 9) 3)))) (cond (Nat.blt pc 15) (cond (Nat.blt pc 13) (cond (Nat.blt pc 12) (am_lf pc 11 (.astore_n 2) 1) (am_lf pc 12 (.iconst 1) 1)) (cond (Nat.blt pc 14) (am_lf pc 13 .ireturn 1) (am_lf pc 14 (.astore_n 2) 1))) (cond (Nat.blt pc 17) (cond (Nat.blt pc 16) (am_lf pc 15 (.iconst 2) 1) (am_lf pc 16 .ireturn 1)) (cond (Nat.blt pc 18) (am_lf pc 17 (.iconst 0) 1) (am_lf pc 18 .ireturn 1))))))
def tk_L_undo : Nat → Option (Instr × Nat) := am_guard 16 (fun pc => (cond (Nat.blt pc 8) (cond (Nat.blt pc 3) (cond (Nat.blt pc 1) (am_lf pc 0 (.aload_n 1) 1) (cond (Nat.blt pc 2) (am_lf pc 1 (.iconst 0) 1) (am_lf pc 2 (.aload_n 0) 1))) (cond (Nat.blt pc 6) (am_lf pc 3 (.invokevirtual 48) 3) (cond (Nat.blt pc 7) (am_lf pc 6 .i2l 1) (am_lf pc 7 .lastore 1)))) (cond (Nat.blt pc 13) (cond (Nat.blt pc 11) (am_lf pc 8 (.goto 6) 3) (cond (Nat.blt pc 12) (am_lf pc 11 (.astore_n 2) 1) (am_lf pc 12 (.iconst 1) 1))) (cond (Nat.blt pc 14) (am_lf pc 13 .ireturn 1) (cond (Nat.blt pc 15) (am_lf pc 14 (.iconst 0) 1) (am_lf pc 15 .ireturn 1))))))
def tk_L_point : Nat → Option (Instr × Nat) := am_guard 23 (fun pc => (cond (Nat.blt pc 10) (cond (Nat.blt pc 4) (cond (Nat.blt pc 2) (cond (Nat.blt pc 1) (am_lf pc 0 (.aload_n 3) 1) (am_lf pc 1 (.iconst 0) 1)) (cond (Nat.blt pc 3) (am_lf pc 2 (.aload_n 0) 1) (am_lf pc 3 (.iload_n 1) 1))) (cond (Nat.blt pc 8) (cond (Nat.blt pc 5) (am_lf pc 4 (.iload_n 2) 1) (am_lf pc 5 (.invokevirtual 51) 3)) (cond (Nat.blt pc 9) (am_lf pc 8 .i2l 1) (am_lf pc 9 .lastore 1)))) (cond (Nat.blt pc 17) (cond (Nat.blt pc 15) (cond (Nat.blt pc 13) (am_lf pc 10 (.goto 11) 3) (am_lf pc 13 (.astore 4) 2)) (cond (Nat.blt pc 16) (am_lf pc 15 (.iconst 1) 1) (am_lf pc 16 .ireturn 1))) (cond (Nat.blt pc 20) (cond (Nat.blt pc 19) (am_lf pc 17 (.astore 4) 2) (am_lf pc 19 (.iconst 2) 1)) (cond (Nat.blt pc 21) (am_lf pc 20 .ireturn 1) (cond (Nat.blt pc 22) (am_lf pc 21 (.iconst 0) 1) (am_lf pc 22 .ireturn 1)))))))
def tk_L_error : Nat → Option (Instr × Nat) := am_guard 23 (fun pc => (cond (Nat.blt pc 10) (cond (Nat.blt pc 4) (cond (Nat.blt pc 2) (cond (Nat.blt pc 1) (am_lf pc 0 (.aload_n 3) 1) (am_lf pc 1 (.iconst 0) 1)) (cond (Nat.blt pc 3) (am_lf pc 2 (.aload_n 0) 1) (am_lf pc 3 (.iload_n 1) 1))) (cond (Nat.blt pc 8) (cond (Nat.blt pc 5) (am_lf pc 4 (.iload_n 2) 1) (am_lf pc 5 (.invokevirtual 54) 3)) (cond (Nat.blt pc 9) (am_lf pc 8 .i2l 1) (am_lf pc 9 .lastore 1)))) (cond (Nat.blt pc 17) (cond (Nat.blt pc 15) (cond (Nat.blt pc 13) (am_lf pc 10 (.goto 11) 3) (am_lf pc 13 (.astore 4) 2)) (cond (Nat.blt pc 16) (am_lf pc 15 (.iconst 1) 1) (am_lf pc 16 .ireturn 1))) (cond (Nat.blt pc 20) (cond (Nat.blt pc 19) (am_lf pc 17 (.astore 4) 2) (am_lf pc 19 (.iconst 2) 1)) (cond (Nat.blt pc 21) (am_lf pc 20 .ireturn 1) (cond (Nat.blt pc 22) (am_lf pc 21 (.iconst 0) 1) (am_lf pc 22 .ireturn 1)))))))
def tk_L_reading : Nat → Option (Instr × Nat) := am_guard 19 (fun pc => (cond (Nat.blt pc 9) (cond (Nat.blt pc 3) (cond (Nat.blt pc 1) (am_lf pc 0 (.aload_n 3) 1) (cond (Nat.blt pc 2) (am_lf pc 1 (.iconst 0) 1) (am_lf pc 2 (.aload_n 0) 1))) (cond (Nat.blt pc 5) (cond (Nat.blt pc 4) (am_lf pc 3 (.iload_n 1) 1) (am_lf pc 4 (.iload_n 2) 1)) (cond (Nat.blt pc 8) (am_lf pc 5 (.invokevirtual 57) 3) (am_lf pc 8 .i2l 1)))) (cond (Nat.blt pc 15) (cond (Nat.blt pc 10) (am_lf pc 9 .lastore 1) (cond (Nat.blt pc 13) (am_lf pc 10 (.goto 7) 3) (am_lf pc 13 (.astore 4) 2))) (cond (Nat.blt pc 17) (cond (Nat.blt pc 16) (am_lf pc 15 (.iconst 1) 1) (am_lf pc 16 .ireturn 1)) (cond (Nat.blt pc 18) (am_lf pc 17 (.iconst 0) 1) (am_lf pc 18 .ireturn 1))))))
def tk_L_stretch : Nat → Option (Instr × Nat) := am_guard 23 (fun pc => (cond (Nat.blt pc 10) (cond (Nat.blt pc 4) (cond (Nat.blt pc 2) (cond (Nat.blt pc 1) (am_lf pc 0 (.aload_n 3) 1) (am_lf pc 1 (.iconst 0) 1)) (cond (Nat.blt pc 3) (am_lf pc 2 (.aload_n 0) 1) (am_lf pc 3 (.iload_n 1) 1))) (cond (Nat.blt pc 8) (cond (Nat.blt pc 5) (am_lf pc 4 (.iload_n 2) 1) (am_lf pc 5 (.invokevirtual 60) 3)) (cond (Nat.blt pc 9) (am_lf pc 8 .i2l 1) (am_lf pc 9 .lastore 1)))) (cond (Nat.blt pc 17) (cond (Nat.blt pc 15) (cond (Nat.blt pc 13) (am_lf pc 10 (.goto 11) 3) (am_lf pc 13 (.astore 4) 2)) (cond (Nat.blt pc 16) (am_lf pc 15 (.iconst 1) 1) (am_lf pc 16 .ireturn 1))) (cond (Nat.blt pc 20) (cond (Nat.blt pc 19) (am_lf pc 17 (.astore 4) 2) (am_lf pc 19 (.iconst 2) 1)) (cond (Nat.blt pc 21) (am_lf pc 20 .ireturn 1) (cond (Nat.blt pc 22) (am_lf pc 21 (.iconst 0) 1) (am_lf pc 22 .ireturn 1)))))))
def tk_L_noteAt : Nat → Option (Instr × Nat) := am_guard 23 (fun pc => (cond (Nat.blt pc 10) (cond (Nat.blt pc 4) (cond (Nat.blt pc 2) (cond (Nat.blt pc 1) (am_lf pc 0 (.aload_n 3) 1) (am_lf pc 1 (.iconst 0) 1)) (cond (Nat.blt pc 3) (am_lf pc 2 (.aload_n 0) 1) (am_lf pc 3 (.iload_n 1) 1))) (cond (Nat.blt pc 8) (cond (Nat.blt pc 5) (am_lf pc 4 (.iload_n 2) 1) (am_lf pc 5 (.invokevirtual 63) 3)) (cond (Nat.blt pc 9) (am_lf pc 8 .i2l 1) (am_lf pc 9 .lastore 1)))) (cond (Nat.blt pc 17) (cond (Nat.blt pc 15) (cond (Nat.blt pc 13) (am_lf pc 10 (.goto 11) 3) (am_lf pc 13 (.astore 4) 2)) (cond (Nat.blt pc 16) (am_lf pc 15 (.iconst 1) 1) (am_lf pc 16 .ireturn 1))) (cond (Nat.blt pc 20) (cond (Nat.blt pc 19) (am_lf pc 17 (.astore 4) 2) (am_lf pc 19 (.iconst 2) 1)) (cond (Nat.blt pc 21) (am_lf pc 20 .ireturn 1) (cond (Nat.blt pc 22) (am_lf pc 21 (.iconst 0) 1) (am_lf pc 22 .ireturn 1)))))))
def tk_L_count : Nat → Option (Instr × Nat) := am_guard 17 (fun pc => (cond (Nat.blt pc 8) (cond (Nat.blt pc 3) (cond (Nat.blt pc 1) (am_lf pc 0 (.aload_n 2) 1) (cond (Nat.blt pc 2) (am_lf pc 1 (.iconst 0) 1) (am_lf pc 2 (.aload_n 0) 1))) (cond (Nat.blt pc 4) (am_lf pc 3 (.iload_n 1) 1) (cond (Nat.blt pc 7) (am_lf pc 4 (.invokevirtual 66) 3) (am_lf pc 7 .i2l 1)))) (cond (Nat.blt pc 13) (cond (Nat.blt pc 9) (am_lf pc 8 .lastore 1) (cond (Nat.blt pc 12) (am_lf pc 9 (.goto 6) 3) (am_lf pc 12 (.astore_n 3) 1))) (cond (Nat.blt pc 15) (cond (Nat.blt pc 14) (am_lf pc 13 (.iconst 1) 1) (am_lf pc 14 .ireturn 1)) (cond (Nat.blt pc 16) (am_lf pc 15 (.iconst 0) 1) (am_lf pc 16 .ireturn 1))))))
def tk_L_setting : Nat → Option (Instr × Nat) := am_guard 17 (fun pc => (cond (Nat.blt pc 8) (cond (Nat.blt pc 3) (cond (Nat.blt pc 1) (am_lf pc 0 (.aload_n 2) 1) (cond (Nat.blt pc 2) (am_lf pc 1 (.iconst 0) 1) (am_lf pc 2 (.aload_n 0) 1))) (cond (Nat.blt pc 4) (am_lf pc 3 (.iload_n 1) 1) (cond (Nat.blt pc 7) (am_lf pc 4 (.invokevirtual 69) 3) (am_lf pc 7 .i2l 1)))) (cond (Nat.blt pc 13) (cond (Nat.blt pc 9) (am_lf pc 8 .lastore 1) (cond (Nat.blt pc 12) (am_lf pc 9 (.goto 6) 3) (am_lf pc 12 (.astore_n 3) 1))) (cond (Nat.blt pc 15) (cond (Nat.blt pc 14) (am_lf pc 13 (.iconst 1) 1) (am_lf pc 14 .ireturn 1)) (cond (Nat.blt pc 16) (am_lf pc 15 (.iconst 0) 1) (am_lf pc 16 .ireturn 1))))))
def tk_L_whyNot : Nat → Option (Instr × Nat) := am_guard 17 (fun pc => (cond (Nat.blt pc 8) (cond (Nat.blt pc 3) (cond (Nat.blt pc 1) (am_lf pc 0 (.aload_n 2) 1) (cond (Nat.blt pc 2) (am_lf pc 1 (.iconst 0) 1) (am_lf pc 2 (.aload_n 0) 1))) (cond (Nat.blt pc 4) (am_lf pc 3 (.iload_n 1) 1) (cond (Nat.blt pc 7) (am_lf pc 4 (.invokevirtual 72) 3) (am_lf pc 7 .i2l 1)))) (cond (Nat.blt pc 13) (cond (Nat.blt pc 9) (am_lf pc 8 .lastore 1) (cond (Nat.blt pc 12) (am_lf pc 9 (.goto 6) 3) (am_lf pc 12 (.astore_n 3) 1))) (cond (Nat.blt pc 15) (cond (Nat.blt pc 14) (am_lf pc 13 (.iconst 1) 1) (am_lf pc 14 .ireturn 1)) (cond (Nat.blt pc 16) (am_lf pc 15 (.iconst 0) 1) (am_lf pc 16 .ireturn 1))))))
def tk_L_join : Nat → Option (Instr × Nat) := am_guard 23 (fun pc => (cond (Nat.blt pc 10) (cond (Nat.blt pc 4) (cond (Nat.blt pc 2) (cond (Nat.blt pc 1) (am_lf pc 0 (.aload_n 3) 1) (am_lf pc 1 (.iconst 0) 1)) (cond (Nat.blt pc 3) (am_lf pc 2 (.aload_n 0) 1) (am_lf pc 3 (.iload_n 1) 1))) (cond (Nat.blt pc 8) (cond (Nat.blt pc 5) (am_lf pc 4 (.iload_n 2) 1) (am_lf pc 5 (.invokevirtual 75) 3)) (cond (Nat.blt pc 9) (am_lf pc 8 .i2l 1) (am_lf pc 9 .lastore 1)))) (cond (Nat.blt pc 17) (cond (Nat.blt pc 15) (cond (Nat.blt pc 13) (am_lf pc 10 (.goto 11) 3) (am_lf pc 13 (.astore 4) 2)) (cond (Nat.blt pc 16) (am_lf pc 15 (.iconst 1) 1) (am_lf pc 16 .ireturn 1))) (cond (Nat.blt pc 20) (cond (Nat.blt pc 19) (am_lf pc 17 (.astore 4) 2) (am_lf pc 19 (.iconst 2) 1)) (cond (Nat.blt pc 21) (am_lf pc 20 .ireturn 1) (cond (Nat.blt pc 22) (am_lf pc 21 (.iconst 0) 1) (am_lf pc 22 .ireturn 1)))))))
def tk_L_ifThinned : Nat → Option (Instr × Nat) := am_guard 17 (fun pc => (cond (Nat.blt pc 8) (cond (Nat.blt pc 3) (cond (Nat.blt pc 1) (am_lf pc 0 (.aload_n 2) 1) (cond (Nat.blt pc 2) (am_lf pc 1 (.iconst 0) 1) (am_lf pc 2 (.aload_n 0) 1))) (cond (Nat.blt pc 4) (am_lf pc 3 (.iload_n 1) 1) (cond (Nat.blt pc 7) (am_lf pc 4 (.invokevirtual 78) 3) (am_lf pc 7 .i2l 1)))) (cond (Nat.blt pc 13) (cond (Nat.blt pc 9) (am_lf pc 8 .lastore 1) (cond (Nat.blt pc 12) (am_lf pc 9 (.goto 6) 3) (am_lf pc 12 (.astore_n 3) 1))) (cond (Nat.blt pc 15) (cond (Nat.blt pc 14) (am_lf pc 13 (.iconst 1) 1) (am_lf pc 14 .ireturn 1)) (cond (Nat.blt pc 16) (am_lf pc 15 (.iconst 0) 1) (am_lf pc 16 .ireturn 1))))))
def tk_L_leastOath : Nat → Option (Instr × Nat) := am_guard 17 (fun pc => (cond (Nat.blt pc 8) (cond (Nat.blt pc 3) (cond (Nat.blt pc 1) (am_lf pc 0 (.aload_n 2) 1) (cond (Nat.blt pc 2) (am_lf pc 1 (.iconst 0) 1) (am_lf pc 2 (.aload_n 0) 1))) (cond (Nat.blt pc 4) (am_lf pc 3 (.iload_n 1) 1) (cond (Nat.blt pc 7) (am_lf pc 4 (.invokevirtual 81) 3) (am_lf pc 7 .i2l 1)))) (cond (Nat.blt pc 13) (cond (Nat.blt pc 9) (am_lf pc 8 .lastore 1) (cond (Nat.blt pc 12) (am_lf pc 9 (.goto 6) 3) (am_lf pc 12 (.astore_n 3) 1))) (cond (Nat.blt pc 15) (cond (Nat.blt pc 14) (am_lf pc 13 (.iconst 1) 1) (am_lf pc 14 .ireturn 1)) (cond (Nat.blt pc 16) (am_lf pc 15 (.iconst 0) 1) (am_lf pc 16 .ireturn 1))))))
def tk_L_cheapest : Nat → Option (Instr × Nat) := am_guard 17 (fun pc => (cond (Nat.blt pc 8) (cond (Nat.blt pc 3) (cond (Nat.blt pc 1) (am_lf pc 0 (.aload_n 2) 1) (cond (Nat.blt pc 2) (am_lf pc 1 (.iconst 0) 1) (am_lf pc 2 (.aload_n 0) 1))) (cond (Nat.blt pc 4) (am_lf pc 3 (.iload_n 1) 1) (cond (Nat.blt pc 7) (am_lf pc 4 (.invokevirtual 84) 3) (am_lf pc 7 .i2l 1)))) (cond (Nat.blt pc 13) (cond (Nat.blt pc 9) (am_lf pc 8 .lastore 1) (cond (Nat.blt pc 12) (am_lf pc 9 (.goto 6) 3) (am_lf pc 12 (.astore_n 3) 1))) (cond (Nat.blt pc 15) (cond (Nat.blt pc 14) (am_lf pc 13 (.iconst 1) 1) (am_lf pc 14 .ireturn 1)) (cond (Nat.blt pc 16) (am_lf pc 15 (.iconst 0) 1) (am_lf pc 16 .ireturn 1))))))
def tk_L_law : Nat → Option (Instr × Nat) := am_guard 1713 (fun pc => (cond (Nat.blt pc 923) (cond (Nat.blt pc 524) (cond (Nat.blt pc 321) (cond (Nat.blt pc 227) (cond (Nat.blt pc 179) (cond (Nat.blt pc 26) (cond (Nat.blt pc 15) (cond (Nat.blt pc 7) (cond (Nat.blt pc 3) (am_lf pc 0 (.new 8) 3) (cond (Nat.blt pc 4) (am_lf pc 3 .dup 1) (am_lf pc 4 (.invokespecial 87) 3))) (cond (Nat.blt pc 11) (cond (Nat.blt pc 8) (am_lf pc 7 (.astore_n 1) 1) (am_lf pc 8 (.new 88) 3)) (cond (Nat.blt pc 12) (am_lf pc 11 .dup 1) (am_lf pc 12 (.invokespecial 90) 3)))) (cond (Nat.blt pc 20) (cond (Nat.blt pc 17) (cond (Nat.blt pc 16) (am_lf pc 15 (.astore_n 2) 1) (am_lf pc 16 (.iconst 1) 1)) (cond (Nat.blt pc 19) (am_lf pc 17 (.newarray .long) 2) (am_lf pc 19 (.astore_n 3) 1))) (cond (Nat.blt pc 23) (cond (Nat.blt pc 21) (am_lf pc 20 (.iconst 0) 1) (am_lf pc 21 (.istore 4) 2)) (cond (Nat.blt pc 25) (am_lf pc 23 (.iload 4) 2) (am_lf pc 25 (.aload_n 0) 1))))) (cond (Nat.blt pc 38) (cond (Nat.blt pc 32) (cond (Nat.blt pc 28) (cond (Nat.blt pc 27) (am_lf pc 26 .arraylength 1) (am_lf pc 27 (.iconst 3) 1)) (cond (Nat.blt pc 29) (am_lf pc 28 .isub 1) (am_lf pc 29 (.if_icmp .gt 1682) 3))) (cond (Nat.blt pc 35) (cond (Nat.blt pc 33) (am_lf pc 32 (.aload_n 0) 1) (am_lf pc 33 (.iload 4) 2)) (cond (Nat.blt pc 36) (am_lf pc 35 .iaload 1) (am_lf pc 36 (.bipush 31) 2)))) (cond (Nat.blt pc 174) (cond (Nat.blt pc 172) (cond (Nat.blt pc 39) (am_lf pc 38 .iand 1) (am_lf pc 39 (.tableswitch 1666 0 29 #[133, 201, 269, 325, 381, 394, 450, 506, 574, 642, 655, 711, 724, 737, 781, 825, 893, 961, 1029, 1097, 1165, 1221, 1277, 1319, 1375, 1443, 1499, 1555, 1611, 1652]) 133)) (cond (Nat.blt pc 173) (am_lf pc 172 (.aload_n 1) 1) (am_lf pc 173 (.aload_n 0) 1))) (cond (Nat.blt pc 177) (cond (Nat.blt pc 176) (am_lf pc 174 (.iload 4) 2) (am_lf pc 176 (.iconst 1) 1)) (cond (Nat.blt pc 178) (am_lf pc 177 .iadd 1) (am_lf pc 178 .iaload 1)))))) (cond (Nat.blt pc 199) (cond (Nat.blt pc 189) (cond (Nat.blt pc 183) (cond (Nat.blt pc 180) (am_lf pc 179 (.aload_n 0) 1) (cond (Nat.blt pc 182) (am_lf pc 180 (.iload 4) 2) (am_lf pc 182 (.iconst 2) 1))) (cond (Nat.blt pc 185) (cond (Nat.blt pc 184) (am_lf pc 183 .iadd 1) (am_lf pc 184 .iaload 1)) (cond (Nat.blt pc 186) (am_lf pc 185 (.aload_n 3) 1) (am_lf pc 186 (.invokestatic 91) 3)))) (cond (Nat.blt pc 195) (cond (Nat.blt pc 192) (cond (Nat.blt pc 191) (am_lf pc 189 (.istore 5) 2) (am_lf pc 191 (.aload_n 2) 1)) (cond (Nat.blt pc 193) (am_lf pc 192 (.aload_n 0) 1) (am_lf pc 193 (.iload 4) 2))) (cond (Nat.blt pc 197) (cond (Nat.blt pc 196) (am_lf pc 195 (.iconst 1) 1) (am_lf pc 196 .iadd 1)) (cond (Nat.blt pc 198) (am_lf pc 197 .iaload 1) (am_lf pc 198 (.aload_n 0) 1))))) (cond (Nat.blt pc 213) (cond (Nat.blt pc 204) (cond (Nat.blt pc 202) (cond (Nat.blt pc 201) (am_lf pc 199 (.iload 4) 2) (am_lf pc 201 (.iconst 2) 1)) (cond (Nat.blt pc 203) (am_lf pc 202 .iadd 1) (am_lf pc 203 .iaload 1))) (cond (Nat.blt pc 209) (cond (Nat.blt pc 207) (am_lf pc 204 (.invokevirtual 96) 3) (am_lf pc 207 (.istore 6) 2)) (cond (Nat.blt pc 210) (am_lf pc 209 (.aload_n 2) 1) (am_lf pc 210 (.invokevirtual 97) 3)))) (cond (Nat.blt pc 220) (cond (Nat.blt pc 218) (cond (Nat.blt pc 215) (am_lf pc 213 (.iload 5) 2) (am_lf pc 215 (.if_icmp .eq 5) 3)) (cond (Nat.blt pc 219) (am_lf pc 218 (.iconst 0) 1) (am_lf pc 219 .ireturn 1))) (cond (Nat.blt pc 225) (cond (Nat.blt pc 222) (am_lf pc 220 (.iload 5) 2) (am_lf pc 222 (.ifCond .ne 15) 3)) (cond (Nat.blt pc 226) (am_lf pc 225 (.aload_n 3) 1) (am_lf pc 226 (.iconst 0) 1))))))) (cond (Nat.blt pc 270) (cond (Nat.blt pc 248) (cond (Nat.blt pc 237) (cond (Nat.blt pc 231) (cond (Nat.blt pc 228) (am_lf pc 227 .laload 1) (cond (Nat.blt pc 230) (am_lf pc 228 (.iload 6) 2) (am_lf pc 230 .i2l 1))) (cond (Nat.blt pc 235) (cond (Nat.blt pc 232) (am_lf pc 231 .lcmp 1) (am_lf pc 232 (.ifCond .eq 5) 3)) (cond (Nat.blt pc 236) (am_lf pc 235 (.iconst 0) 1) (am_lf pc 236 .ireturn 1)))) (cond (Nat.blt pc 244) (cond (Nat.blt pc 241) (cond (Nat.blt pc 240) (am_lf pc 237 (.goto 1468) 3) (am_lf pc 240 (.aload_n 1) 1)) (cond (Nat.blt pc 242) (am_lf pc 241 (.aload_n 0) 1) (am_lf pc 242 (.iload 4) 2))) (cond (Nat.blt pc 246) (cond (Nat.blt pc 245) (am_lf pc 244 (.iconst 1) 1) (am_lf pc 245 .iadd 1)) (cond (Nat.blt pc 247) (am_lf pc 246 .iaload 1) (am_lf pc 247 (.aload_n 0) 1))))) (cond (Nat.blt pc 260) (cond (Nat.blt pc 253) (cond (Nat.blt pc 251) (cond (Nat.blt pc 250) (am_lf pc 248 (.iload 4) 2) (am_lf pc 250 (.iconst 2) 1)) (cond (Nat.blt pc 252) (am_lf pc 251 .iadd 1) (am_lf pc 252 .iaload 1))) (cond (Nat.blt pc 257) (cond (Nat.blt pc 254) (am_lf pc 253 (.aload_n 3) 1) (am_lf pc 254 (.invokestatic 100) 3)) (cond (Nat.blt pc 259) (am_lf pc 257 (.istore 5) 2) (am_lf pc 259 (.aload_n 2) 1)))) (cond (Nat.blt pc 265) (cond (Nat.blt pc 263) (cond (Nat.blt pc 261) (am_lf pc 260 (.aload_n 0) 1) (am_lf pc 261 (.iload 4) 2)) (cond (Nat.blt pc 264) (am_lf pc 263 (.iconst 1) 1) (am_lf pc 264 .iadd 1))) (cond (Nat.blt pc 267) (cond (Nat.blt pc 266) (am_lf pc 265 .iaload 1) (am_lf pc 266 (.aload_n 0) 1)) (cond (Nat.blt pc 269) (am_lf pc 267 (.iload 4) 2) (am_lf pc 269 (.iconst 2) 1)))))) (cond (Nat.blt pc 296) (cond (Nat.blt pc 283) (cond (Nat.blt pc 275) (cond (Nat.blt pc 271) (am_lf pc 270 .iadd 1) (cond (Nat.blt pc 272) (am_lf pc 271 .iaload 1) (am_lf pc 272 (.invokevirtual 102) 3))) (cond (Nat.blt pc 278) (cond (Nat.blt pc 277) (am_lf pc 275 (.istore 6) 2) (am_lf pc 277 (.aload_n 2) 1)) (cond (Nat.blt pc 281) (am_lf pc 278 (.invokevirtual 97) 3) (am_lf pc 281 (.iload 5) 2)))) (cond (Nat.blt pc 290) (cond (Nat.blt pc 287) (cond (Nat.blt pc 286) (am_lf pc 283 (.if_icmp .eq 5) 3) (am_lf pc 286 (.iconst 0) 1)) (cond (Nat.blt pc 288) (am_lf pc 287 .ireturn 1) (am_lf pc 288 (.iload 5) 2))) (cond (Nat.blt pc 294) (cond (Nat.blt pc 293) (am_lf pc 290 (.ifCond .ne 15) 3) (am_lf pc 293 (.aload_n 3) 1)) (cond (Nat.blt pc 295) (am_lf pc 294 (.iconst 0) 1) (am_lf pc 295 .laload 1))))) (cond (Nat.blt pc 309) (cond (Nat.blt pc 303) (cond (Nat.blt pc 299) (cond (Nat.blt pc 298) (am_lf pc 296 (.iload 6) 2) (am_lf pc 298 .i2l 1)) (cond (Nat.blt pc 300) (am_lf pc 299 .lcmp 1) (am_lf pc 300 (.ifCond .eq 5) 3))) (cond (Nat.blt pc 305) (cond (Nat.blt pc 304) (am_lf pc 303 (.iconst 0) 1) (am_lf pc 304 .ireturn 1)) (cond (Nat.blt pc 308) (am_lf pc 305 (.goto 1400) 3) (am_lf pc 308 (.aload_n 1) 1)))) (cond (Nat.blt pc 314) (cond (Nat.blt pc 312) (cond (Nat.blt pc 310) (am_lf pc 309 (.aload_n 0) 1) (am_lf pc 310 (.iload 4) 2)) (cond (Nat.blt pc 313) (am_lf pc 312 (.iconst 1) 1) (am_lf pc 313 .iadd 1))) (cond (Nat.blt pc 316) (cond (Nat.blt pc 315) (am_lf pc 314 .iaload 1) (am_lf pc 315 (.aload_n 3) 1)) (cond (Nat.blt pc 319) (am_lf pc 316 (.invokestatic 103) 3) (am_lf pc 319 (.istore 5) 2)))))))) (cond (Nat.blt pc 421) (cond (Nat.blt pc 370) (cond (Nat.blt pc 346) (cond (Nat.blt pc 331) (cond (Nat.blt pc 325) (cond (Nat.blt pc 322) (am_lf pc 321 (.aload_n 2) 1) (cond (Nat.blt pc 323) (am_lf pc 322 (.aload_n 0) 1) (am_lf pc 323 (.iload 4) 2))) (cond (Nat.blt pc 327) (cond (Nat.blt pc 326) (am_lf pc 325 (.iconst 1) 1) (am_lf pc 326 .iadd 1)) (cond (Nat.blt pc 328) (am_lf pc 327 .iaload 1) (am_lf pc 328 (.invokevirtual 106) 3)))) (cond (Nat.blt pc 339) (cond (Nat.blt pc 334) (cond (Nat.blt pc 333) (am_lf pc 331 (.istore 6) 2) (am_lf pc 333 (.aload_n 2) 1)) (cond (Nat.blt pc 337) (am_lf pc 334 (.invokevirtual 97) 3) (am_lf pc 337 (.iload 5) 2))) (cond (Nat.blt pc 343) (cond (Nat.blt pc 342) (am_lf pc 339 (.if_icmp .eq 5) 3) (am_lf pc 342 (.iconst 0) 1)) (cond (Nat.blt pc 344) (am_lf pc 343 .ireturn 1) (am_lf pc 344 (.iload 5) 2))))) (cond (Nat.blt pc 359) (cond (Nat.blt pc 352) (cond (Nat.blt pc 350) (cond (Nat.blt pc 349) (am_lf pc 346 (.ifCond .ne 15) 3) (am_lf pc 349 (.aload_n 3) 1)) (cond (Nat.blt pc 351) (am_lf pc 350 (.iconst 0) 1) (am_lf pc 351 .laload 1))) (cond (Nat.blt pc 355) (cond (Nat.blt pc 354) (am_lf pc 352 (.iload 6) 2) (am_lf pc 354 .i2l 1)) (cond (Nat.blt pc 356) (am_lf pc 355 .lcmp 1) (am_lf pc 356 (.ifCond .eq 5) 3)))) (cond (Nat.blt pc 365) (cond (Nat.blt pc 361) (cond (Nat.blt pc 360) (am_lf pc 359 (.iconst 0) 1) (am_lf pc 360 .ireturn 1)) (cond (Nat.blt pc 364) (am_lf pc 361 (.goto 1344) 3) (am_lf pc 364 (.aload_n 1) 1))) (cond (Nat.blt pc 368) (cond (Nat.blt pc 366) (am_lf pc 365 (.aload_n 0) 1) (am_lf pc 366 (.iload 4) 2)) (cond (Nat.blt pc 369) (am_lf pc 368 (.iconst 1) 1) (am_lf pc 369 .iadd 1)))))) (cond (Nat.blt pc 395) (cond (Nat.blt pc 381) (cond (Nat.blt pc 375) (cond (Nat.blt pc 371) (am_lf pc 370 .iaload 1) (cond (Nat.blt pc 372) (am_lf pc 371 (.aload_n 3) 1) (am_lf pc 372 (.invokestatic 107) 3))) (cond (Nat.blt pc 378) (cond (Nat.blt pc 377) (am_lf pc 375 (.istore 5) 2) (am_lf pc 377 (.aload_n 2) 1)) (cond (Nat.blt pc 379) (am_lf pc 378 (.aload_n 0) 1) (am_lf pc 379 (.iload 4) 2)))) (cond (Nat.blt pc 387) (cond (Nat.blt pc 383) (cond (Nat.blt pc 382) (am_lf pc 381 (.iconst 1) 1) (am_lf pc 382 .iadd 1)) (cond (Nat.blt pc 384) (am_lf pc 383 .iaload 1) (am_lf pc 384 (.invokevirtual 109) 3))) (cond (Nat.blt pc 390) (cond (Nat.blt pc 389) (am_lf pc 387 (.istore 6) 2) (am_lf pc 389 (.aload_n 2) 1)) (cond (Nat.blt pc 393) (am_lf pc 390 (.invokevirtual 97) 3) (am_lf pc 393 (.iload 5) 2))))) (cond (Nat.blt pc 408) (cond (Nat.blt pc 402) (cond (Nat.blt pc 399) (cond (Nat.blt pc 398) (am_lf pc 395 (.if_icmp .eq 5) 3) (am_lf pc 398 (.iconst 0) 1)) (cond (Nat.blt pc 400) (am_lf pc 399 .ireturn 1) (am_lf pc 400 (.iload 5) 2))) (cond (Nat.blt pc 406) (cond (Nat.blt pc 405) (am_lf pc 402 (.ifCond .ne 15) 3) (am_lf pc 405 (.aload_n 3) 1)) (cond (Nat.blt pc 407) (am_lf pc 406 (.iconst 0) 1) (am_lf pc 407 .laload 1)))) (cond (Nat.blt pc 415) (cond (Nat.blt pc 411) (cond (Nat.blt pc 410) (am_lf pc 408 (.iload 6) 2) (am_lf pc 410 .i2l 1)) (cond (Nat.blt pc 412) (am_lf pc 411 .lcmp 1) (am_lf pc 412 (.ifCond .eq 5) 3))) (cond (Nat.blt pc 417) (cond (Nat.blt pc 416) (am_lf pc 415 (.iconst 0) 1) (am_lf pc 416 .ireturn 1)) (cond (Nat.blt pc 420) (am_lf pc 417 (.goto 1288) 3) (am_lf pc 420 (.aload_n 1) 1))))))) (cond (Nat.blt pc 474) (cond (Nat.blt pc 446) (cond (Nat.blt pc 434) (cond (Nat.blt pc 428) (cond (Nat.blt pc 424) (am_lf pc 421 (.invokevirtual 110) 3) (cond (Nat.blt pc 425) (am_lf pc 424 (.aload_n 2) 1) (am_lf pc 425 (.invokevirtual 113) 3))) (cond (Nat.blt pc 432) (cond (Nat.blt pc 431) (am_lf pc 428 (.if_icmp .eq 1277) 3) (am_lf pc 431 (.iconst 0) 1)) (cond (Nat.blt pc 433) (am_lf pc 432 .ireturn 1) (am_lf pc 433 (.aload_n 1) 1)))) (cond (Nat.blt pc 439) (cond (Nat.blt pc 437) (cond (Nat.blt pc 435) (am_lf pc 434 (.aload_n 0) 1) (am_lf pc 435 (.iload 4) 2)) (cond (Nat.blt pc 438) (am_lf pc 437 (.iconst 1) 1) (am_lf pc 438 .iadd 1))) (cond (Nat.blt pc 441) (cond (Nat.blt pc 440) (am_lf pc 439 .iaload 1) (am_lf pc 440 (.aload_n 3) 1)) (cond (Nat.blt pc 444) (am_lf pc 441 (.invokestatic 114) 3) (am_lf pc 444 (.istore 5) 2))))) (cond (Nat.blt pc 458) (cond (Nat.blt pc 451) (cond (Nat.blt pc 448) (cond (Nat.blt pc 447) (am_lf pc 446 (.aload_n 2) 1) (am_lf pc 447 (.aload_n 0) 1)) (cond (Nat.blt pc 450) (am_lf pc 448 (.iload 4) 2) (am_lf pc 450 (.iconst 1) 1))) (cond (Nat.blt pc 453) (cond (Nat.blt pc 452) (am_lf pc 451 .iadd 1) (am_lf pc 452 .iaload 1)) (cond (Nat.blt pc 456) (am_lf pc 453 (.invokevirtual 116) 3) (am_lf pc 456 (.istore 6) 2)))) (cond (Nat.blt pc 467) (cond (Nat.blt pc 462) (cond (Nat.blt pc 459) (am_lf pc 458 (.aload_n 2) 1) (am_lf pc 459 (.invokevirtual 97) 3)) (cond (Nat.blt pc 464) (am_lf pc 462 (.iload 5) 2) (am_lf pc 464 (.if_icmp .eq 5) 3))) (cond (Nat.blt pc 469) (cond (Nat.blt pc 468) (am_lf pc 467 (.iconst 0) 1) (am_lf pc 468 .ireturn 1)) (cond (Nat.blt pc 471) (am_lf pc 469 (.iload 5) 2) (am_lf pc 471 (.ifCond .ne 15) 3)))))) (cond (Nat.blt pc 496) (cond (Nat.blt pc 485) (cond (Nat.blt pc 479) (cond (Nat.blt pc 476) (cond (Nat.blt pc 475) (am_lf pc 474 (.aload_n 3) 1) (am_lf pc 475 (.iconst 0) 1)) (cond (Nat.blt pc 477) (am_lf pc 476 .laload 1) (am_lf pc 477 (.iload 6) 2))) (cond (Nat.blt pc 481) (cond (Nat.blt pc 480) (am_lf pc 479 .i2l 1) (am_lf pc 480 .lcmp 1)) (cond (Nat.blt pc 484) (am_lf pc 481 (.ifCond .eq 5) 3) (am_lf pc 484 (.iconst 0) 1)))) (cond (Nat.blt pc 491) (cond (Nat.blt pc 489) (cond (Nat.blt pc 486) (am_lf pc 485 .ireturn 1) (am_lf pc 486 (.goto 1219) 3)) (cond (Nat.blt pc 490) (am_lf pc 489 (.aload_n 1) 1) (am_lf pc 490 (.aload_n 0) 1))) (cond (Nat.blt pc 494) (cond (Nat.blt pc 493) (am_lf pc 491 (.iload 4) 2) (am_lf pc 493 (.iconst 1) 1)) (cond (Nat.blt pc 495) (am_lf pc 494 .iadd 1) (am_lf pc 495 .iaload 1))))) (cond (Nat.blt pc 508) (cond (Nat.blt pc 503) (cond (Nat.blt pc 500) (cond (Nat.blt pc 497) (am_lf pc 496 (.aload_n 3) 1) (am_lf pc 497 (.invokestatic 117) 3)) (cond (Nat.blt pc 502) (am_lf pc 500 (.istore 5) 2) (am_lf pc 502 (.aload_n 2) 1))) (cond (Nat.blt pc 506) (cond (Nat.blt pc 504) (am_lf pc 503 (.aload_n 0) 1) (am_lf pc 504 (.iload 4) 2)) (cond (Nat.blt pc 507) (am_lf pc 506 (.iconst 1) 1) (am_lf pc 507 .iadd 1)))) (cond (Nat.blt pc 515) (cond (Nat.blt pc 512) (cond (Nat.blt pc 509) (am_lf pc 508 .iaload 1) (am_lf pc 509 (.invokevirtual 119) 3)) (cond (Nat.blt pc 514) (am_lf pc 512 (.istore 6) 2) (am_lf pc 514 (.aload_n 2) 1))) (cond (Nat.blt pc 520) (cond (Nat.blt pc 518) (am_lf pc 515 (.invokevirtual 97) 3) (am_lf pc 518 (.iload 5) 2)) (cond (Nat.blt pc 523) (am_lf pc 520 (.if_icmp .eq 5) 3) (am_lf pc 523 (.iconst 0) 1))))))))) (cond (Nat.blt pc 713) (cond (Nat.blt pc 618) (cond (Nat.blt pc 569) (cond (Nat.blt pc 547) (cond (Nat.blt pc 535) (cond (Nat.blt pc 530) (cond (Nat.blt pc 525) (am_lf pc 524 .ireturn 1) (cond (Nat.blt pc 527) (am_lf pc 525 (.iload 5) 2) (am_lf pc 527 (.ifCond .ne 15) 3))) (cond (Nat.blt pc 532) (cond (Nat.blt pc 531) (am_lf pc 530 (.aload_n 3) 1) (am_lf pc 531 (.iconst 0) 1)) (cond (Nat.blt pc 533) (am_lf pc 532 .laload 1) (am_lf pc 533 (.iload 6) 2)))) (cond (Nat.blt pc 541) (cond (Nat.blt pc 537) (cond (Nat.blt pc 536) (am_lf pc 535 .i2l 1) (am_lf pc 536 .lcmp 1)) (cond (Nat.blt pc 540) (am_lf pc 537 (.ifCond .eq 5) 3) (am_lf pc 540 (.iconst 0) 1))) (cond (Nat.blt pc 545) (cond (Nat.blt pc 542) (am_lf pc 541 .ireturn 1) (am_lf pc 542 (.goto 1163) 3)) (cond (Nat.blt pc 546) (am_lf pc 545 (.aload_n 1) 1) (am_lf pc 546 (.aload_n 0) 1))))) (cond (Nat.blt pc 557) (cond (Nat.blt pc 552) (cond (Nat.blt pc 550) (cond (Nat.blt pc 549) (am_lf pc 547 (.iload 4) 2) (am_lf pc 549 (.iconst 1) 1)) (cond (Nat.blt pc 551) (am_lf pc 550 .iadd 1) (am_lf pc 551 .iaload 1))) (cond (Nat.blt pc 555) (cond (Nat.blt pc 553) (am_lf pc 552 (.aload_n 0) 1) (am_lf pc 553 (.iload 4) 2)) (cond (Nat.blt pc 556) (am_lf pc 555 (.iconst 2) 1) (am_lf pc 556 .iadd 1)))) (cond (Nat.blt pc 564) (cond (Nat.blt pc 559) (cond (Nat.blt pc 558) (am_lf pc 557 .iaload 1) (am_lf pc 558 (.aload_n 3) 1)) (cond (Nat.blt pc 562) (am_lf pc 559 (.invokestatic 120) 3) (am_lf pc 562 (.istore 5) 2))) (cond (Nat.blt pc 566) (cond (Nat.blt pc 565) (am_lf pc 564 (.aload_n 2) 1) (am_lf pc 565 (.aload_n 0) 1)) (cond (Nat.blt pc 568) (am_lf pc 566 (.iload 4) 2) (am_lf pc 568 (.iconst 1) 1)))))) (cond (Nat.blt pc 593) (cond (Nat.blt pc 577) (cond (Nat.blt pc 572) (cond (Nat.blt pc 570) (am_lf pc 569 .iadd 1) (cond (Nat.blt pc 571) (am_lf pc 570 .iaload 1) (am_lf pc 571 (.aload_n 0) 1))) (cond (Nat.blt pc 575) (cond (Nat.blt pc 574) (am_lf pc 572 (.iload 4) 2) (am_lf pc 574 (.iconst 2) 1)) (cond (Nat.blt pc 576) (am_lf pc 575 .iadd 1) (am_lf pc 576 .iaload 1)))) (cond (Nat.blt pc 586) (cond (Nat.blt pc 582) (cond (Nat.blt pc 580) (am_lf pc 577 (.invokevirtual 122) 3) (am_lf pc 580 (.istore 6) 2)) (cond (Nat.blt pc 583) (am_lf pc 582 (.aload_n 2) 1) (am_lf pc 583 (.invokevirtual 97) 3))) (cond (Nat.blt pc 591) (cond (Nat.blt pc 588) (am_lf pc 586 (.iload 5) 2) (am_lf pc 588 (.if_icmp .eq 5) 3)) (cond (Nat.blt pc 592) (am_lf pc 591 (.iconst 0) 1) (am_lf pc 592 .ireturn 1))))) (cond (Nat.blt pc 605) (cond (Nat.blt pc 600) (cond (Nat.blt pc 598) (cond (Nat.blt pc 595) (am_lf pc 593 (.iload 5) 2) (am_lf pc 595 (.ifCond .ne 15) 3)) (cond (Nat.blt pc 599) (am_lf pc 598 (.aload_n 3) 1) (am_lf pc 599 (.iconst 0) 1))) (cond (Nat.blt pc 603) (cond (Nat.blt pc 601) (am_lf pc 600 .laload 1) (am_lf pc 601 (.iload 6) 2)) (cond (Nat.blt pc 604) (am_lf pc 603 .i2l 1) (am_lf pc 604 .lcmp 1)))) (cond (Nat.blt pc 613) (cond (Nat.blt pc 609) (cond (Nat.blt pc 608) (am_lf pc 605 (.ifCond .eq 5) 3) (am_lf pc 608 (.iconst 0) 1)) (cond (Nat.blt pc 610) (am_lf pc 609 .ireturn 1) (am_lf pc 610 (.goto 1095) 3))) (cond (Nat.blt pc 615) (cond (Nat.blt pc 614) (am_lf pc 613 (.aload_n 1) 1) (am_lf pc 614 (.aload_n 0) 1)) (cond (Nat.blt pc 617) (am_lf pc 615 (.iload 4) 2) (am_lf pc 617 (.iconst 1) 1))))))) (cond (Nat.blt pc 666) (cond (Nat.blt pc 638) (cond (Nat.blt pc 626) (cond (Nat.blt pc 621) (cond (Nat.blt pc 619) (am_lf pc 618 .iadd 1) (cond (Nat.blt pc 620) (am_lf pc 619 .iaload 1) (am_lf pc 620 (.aload_n 0) 1))) (cond (Nat.blt pc 624) (cond (Nat.blt pc 623) (am_lf pc 621 (.iload 4) 2) (am_lf pc 623 (.iconst 2) 1)) (cond (Nat.blt pc 625) (am_lf pc 624 .iadd 1) (am_lf pc 625 .iaload 1)))) (cond (Nat.blt pc 633) (cond (Nat.blt pc 630) (cond (Nat.blt pc 627) (am_lf pc 626 (.aload_n 3) 1) (am_lf pc 627 (.invokestatic 123) 3)) (cond (Nat.blt pc 632) (am_lf pc 630 (.istore 5) 2) (am_lf pc 632 (.aload_n 2) 1))) (cond (Nat.blt pc 636) (cond (Nat.blt pc 634) (am_lf pc 633 (.aload_n 0) 1) (am_lf pc 634 (.iload 4) 2)) (cond (Nat.blt pc 637) (am_lf pc 636 (.iconst 1) 1) (am_lf pc 637 .iadd 1))))) (cond (Nat.blt pc 650) (cond (Nat.blt pc 643) (cond (Nat.blt pc 640) (cond (Nat.blt pc 639) (am_lf pc 638 .iaload 1) (am_lf pc 639 (.aload_n 0) 1)) (cond (Nat.blt pc 642) (am_lf pc 640 (.iload 4) 2) (am_lf pc 642 (.iconst 2) 1))) (cond (Nat.blt pc 645) (cond (Nat.blt pc 644) (am_lf pc 643 .iadd 1) (am_lf pc 644 .iaload 1)) (cond (Nat.blt pc 648) (am_lf pc 645 (.invokevirtual 125) 3) (am_lf pc 648 (.istore 6) 2)))) (cond (Nat.blt pc 659) (cond (Nat.blt pc 654) (cond (Nat.blt pc 651) (am_lf pc 650 (.aload_n 2) 1) (am_lf pc 651 (.invokevirtual 97) 3)) (cond (Nat.blt pc 656) (am_lf pc 654 (.iload 5) 2) (am_lf pc 656 (.if_icmp .eq 5) 3))) (cond (Nat.blt pc 661) (cond (Nat.blt pc 660) (am_lf pc 659 (.iconst 0) 1) (am_lf pc 660 .ireturn 1)) (cond (Nat.blt pc 663) (am_lf pc 661 (.iload 5) 2) (am_lf pc 663 (.ifCond .ne 15) 3)))))) (cond (Nat.blt pc 692) (cond (Nat.blt pc 676) (cond (Nat.blt pc 669) (cond (Nat.blt pc 667) (am_lf pc 666 (.aload_n 3) 1) (cond (Nat.blt pc 668) (am_lf pc 667 (.iconst 0) 1) (am_lf pc 668 .laload 1))) (cond (Nat.blt pc 672) (cond (Nat.blt pc 671) (am_lf pc 669 (.iload 6) 2) (am_lf pc 671 .i2l 1)) (cond (Nat.blt pc 673) (am_lf pc 672 .lcmp 1) (am_lf pc 673 (.ifCond .eq 5) 3)))) (cond (Nat.blt pc 682) (cond (Nat.blt pc 678) (cond (Nat.blt pc 677) (am_lf pc 676 (.iconst 0) 1) (am_lf pc 677 .ireturn 1)) (cond (Nat.blt pc 681) (am_lf pc 678 (.goto 1027) 3) (am_lf pc 681 (.aload_n 1) 1))) (cond (Nat.blt pc 686) (cond (Nat.blt pc 685) (am_lf pc 682 (.invokevirtual 126) 3) (am_lf pc 685 (.aload_n 2) 1)) (cond (Nat.blt pc 689) (am_lf pc 686 (.invokevirtual 129) 3) (am_lf pc 689 (.if_icmp .eq 1016) 3))))) (cond (Nat.blt pc 701) (cond (Nat.blt pc 696) (cond (Nat.blt pc 694) (cond (Nat.blt pc 693) (am_lf pc 692 (.iconst 0) 1) (am_lf pc 693 .ireturn 1)) (cond (Nat.blt pc 695) (am_lf pc 694 (.aload_n 1) 1) (am_lf pc 695 (.aload_n 0) 1))) (cond (Nat.blt pc 699) (cond (Nat.blt pc 698) (am_lf pc 696 (.iload 4) 2) (am_lf pc 698 (.iconst 1) 1)) (cond (Nat.blt pc 700) (am_lf pc 699 .iadd 1) (am_lf pc 700 .iaload 1)))) (cond (Nat.blt pc 708) (cond (Nat.blt pc 705) (cond (Nat.blt pc 702) (am_lf pc 701 (.aload_n 3) 1) (am_lf pc 702 (.invokestatic 130) 3)) (cond (Nat.blt pc 707) (am_lf pc 705 (.istore 5) 2) (am_lf pc 707 (.aload_n 2) 1))) (cond (Nat.blt pc 711) (cond (Nat.blt pc 709) (am_lf pc 708 (.aload_n 0) 1) (am_lf pc 709 (.iload 4) 2)) (cond (Nat.blt pc 712) (am_lf pc 711 (.iconst 1) 1) (am_lf pc 712 .iadd 1)))))))) (cond (Nat.blt pc 822) (cond (Nat.blt pc 768) (cond (Nat.blt pc 740) (cond (Nat.blt pc 728) (cond (Nat.blt pc 719) (cond (Nat.blt pc 714) (am_lf pc 713 .iaload 1) (cond (Nat.blt pc 717) (am_lf pc 714 (.invokevirtual 132) 3) (am_lf pc 717 (.istore 6) 2))) (cond (Nat.blt pc 723) (cond (Nat.blt pc 720) (am_lf pc 719 (.aload_n 2) 1) (am_lf pc 720 (.invokevirtual 97) 3)) (cond (Nat.blt pc 725) (am_lf pc 723 (.iload 5) 2) (am_lf pc 725 (.if_icmp .eq 5) 3)))) (cond (Nat.blt pc 735) (cond (Nat.blt pc 730) (cond (Nat.blt pc 729) (am_lf pc 728 (.iconst 0) 1) (am_lf pc 729 .ireturn 1)) (cond (Nat.blt pc 732) (am_lf pc 730 (.iload 5) 2) (am_lf pc 732 (.ifCond .ne 15) 3))) (cond (Nat.blt pc 737) (cond (Nat.blt pc 736) (am_lf pc 735 (.aload_n 3) 1) (am_lf pc 736 (.iconst 0) 1)) (cond (Nat.blt pc 738) (am_lf pc 737 .laload 1) (am_lf pc 738 (.iload 6) 2))))) (cond (Nat.blt pc 754) (cond (Nat.blt pc 746) (cond (Nat.blt pc 742) (cond (Nat.blt pc 741) (am_lf pc 740 .i2l 1) (am_lf pc 741 .lcmp 1)) (cond (Nat.blt pc 745) (am_lf pc 742 (.ifCond .eq 5) 3) (am_lf pc 745 (.iconst 0) 1))) (cond (Nat.blt pc 750) (cond (Nat.blt pc 747) (am_lf pc 746 .ireturn 1) (am_lf pc 747 (.goto 958) 3)) (cond (Nat.blt pc 751) (am_lf pc 750 (.aload_n 1) 1) (am_lf pc 751 (.invokevirtual 133) 3)))) (cond (Nat.blt pc 762) (cond (Nat.blt pc 758) (cond (Nat.blt pc 755) (am_lf pc 754 (.aload_n 2) 1) (am_lf pc 755 (.invokevirtual 136) 3)) (cond (Nat.blt pc 761) (am_lf pc 758 (.if_icmp .eq 947) 3) (am_lf pc 761 (.iconst 0) 1))) (cond (Nat.blt pc 764) (cond (Nat.blt pc 763) (am_lf pc 762 .ireturn 1) (am_lf pc 763 (.aload_n 1) 1)) (cond (Nat.blt pc 767) (am_lf pc 764 (.invokevirtual 137) 3) (am_lf pc 767 (.aload_n 2) 1)))))) (cond (Nat.blt pc 798) (cond (Nat.blt pc 781) (cond (Nat.blt pc 775) (cond (Nat.blt pc 771) (am_lf pc 768 (.invokevirtual 140) 3) (cond (Nat.blt pc 774) (am_lf pc 771 (.if_icmp .eq 934) 3) (am_lf pc 774 (.iconst 0) 1))) (cond (Nat.blt pc 777) (cond (Nat.blt pc 776) (am_lf pc 775 .ireturn 1) (am_lf pc 776 (.aload_n 1) 1)) (cond (Nat.blt pc 778) (am_lf pc 777 (.aload_n 3) 1) (am_lf pc 778 (.invokestatic 141) 3)))) (cond (Nat.blt pc 789) (cond (Nat.blt pc 784) (cond (Nat.blt pc 783) (am_lf pc 781 (.istore 5) 2) (am_lf pc 783 (.aload_n 2) 1)) (cond (Nat.blt pc 787) (am_lf pc 784 (.invokevirtual 144) 3) (am_lf pc 787 (.istore 6) 2))) (cond (Nat.blt pc 793) (cond (Nat.blt pc 790) (am_lf pc 789 (.aload_n 2) 1) (am_lf pc 790 (.invokevirtual 97) 3)) (cond (Nat.blt pc 795) (am_lf pc 793 (.iload 5) 2) (am_lf pc 795 (.if_icmp .eq 5) 3))))) (cond (Nat.blt pc 810) (cond (Nat.blt pc 805) (cond (Nat.blt pc 800) (cond (Nat.blt pc 799) (am_lf pc 798 (.iconst 0) 1) (am_lf pc 799 .ireturn 1)) (cond (Nat.blt pc 802) (am_lf pc 800 (.iload 5) 2) (am_lf pc 802 (.ifCond .ne 15) 3))) (cond (Nat.blt pc 807) (cond (Nat.blt pc 806) (am_lf pc 805 (.aload_n 3) 1) (am_lf pc 806 (.iconst 0) 1)) (cond (Nat.blt pc 808) (am_lf pc 807 .laload 1) (am_lf pc 808 (.iload 6) 2)))) (cond (Nat.blt pc 816) (cond (Nat.blt pc 812) (cond (Nat.blt pc 811) (am_lf pc 810 .i2l 1) (am_lf pc 811 .lcmp 1)) (cond (Nat.blt pc 815) (am_lf pc 812 (.ifCond .eq 5) 3) (am_lf pc 815 (.iconst 0) 1))) (cond (Nat.blt pc 820) (cond (Nat.blt pc 817) (am_lf pc 816 .ireturn 1) (am_lf pc 817 (.goto 888) 3)) (cond (Nat.blt pc 821) (am_lf pc 820 (.aload_n 1) 1) (am_lf pc 821 (.aload_n 3) 1))))))) (cond (Nat.blt pc 874) (cond (Nat.blt pc 851) (cond (Nat.blt pc 837) (cond (Nat.blt pc 828) (cond (Nat.blt pc 825) (am_lf pc 822 (.invokestatic 145) 3) (cond (Nat.blt pc 827) (am_lf pc 825 (.istore 5) 2) (am_lf pc 827 (.aload_n 2) 1))) (cond (Nat.blt pc 833) (cond (Nat.blt pc 831) (am_lf pc 828 (.invokevirtual 147) 3) (am_lf pc 831 (.istore 6) 2)) (cond (Nat.blt pc 834) (am_lf pc 833 (.aload_n 2) 1) (am_lf pc 834 (.invokevirtual 97) 3)))) (cond (Nat.blt pc 844) (cond (Nat.blt pc 842) (cond (Nat.blt pc 839) (am_lf pc 837 (.iload 5) 2) (am_lf pc 839 (.if_icmp .eq 5) 3)) (cond (Nat.blt pc 843) (am_lf pc 842 (.iconst 0) 1) (am_lf pc 843 .ireturn 1))) (cond (Nat.blt pc 849) (cond (Nat.blt pc 846) (am_lf pc 844 (.iload 5) 2) (am_lf pc 846 (.ifCond .ne 15) 3)) (cond (Nat.blt pc 850) (am_lf pc 849 (.aload_n 3) 1) (am_lf pc 850 (.iconst 0) 1))))) (cond (Nat.blt pc 864) (cond (Nat.blt pc 856) (cond (Nat.blt pc 854) (cond (Nat.blt pc 852) (am_lf pc 851 .laload 1) (am_lf pc 852 (.iload 6) 2)) (cond (Nat.blt pc 855) (am_lf pc 854 .i2l 1) (am_lf pc 855 .lcmp 1))) (cond (Nat.blt pc 860) (cond (Nat.blt pc 859) (am_lf pc 856 (.ifCond .eq 5) 3) (am_lf pc 859 (.iconst 0) 1)) (cond (Nat.blt pc 861) (am_lf pc 860 .ireturn 1) (am_lf pc 861 (.goto 844) 3)))) (cond (Nat.blt pc 869) (cond (Nat.blt pc 866) (cond (Nat.blt pc 865) (am_lf pc 864 (.aload_n 1) 1) (am_lf pc 865 (.aload_n 0) 1)) (cond (Nat.blt pc 868) (am_lf pc 866 (.iload 4) 2) (am_lf pc 868 (.iconst 1) 1))) (cond (Nat.blt pc 871) (cond (Nat.blt pc 870) (am_lf pc 869 .iadd 1) (am_lf pc 870 .iaload 1)) (cond (Nat.blt pc 872) (am_lf pc 871 (.aload_n 0) 1) (am_lf pc 872 (.iload 4) 2)))))) (cond (Nat.blt pc 895) (cond (Nat.blt pc 885) (cond (Nat.blt pc 878) (cond (Nat.blt pc 876) (cond (Nat.blt pc 875) (am_lf pc 874 (.iconst 2) 1) (am_lf pc 875 .iadd 1)) (cond (Nat.blt pc 877) (am_lf pc 876 .iaload 1) (am_lf pc 877 (.aload_n 3) 1))) (cond (Nat.blt pc 883) (cond (Nat.blt pc 881) (am_lf pc 878 (.invokestatic 148) 3) (am_lf pc 881 (.istore 5) 2)) (cond (Nat.blt pc 884) (am_lf pc 883 (.aload_n 2) 1) (am_lf pc 884 (.aload_n 0) 1)))) (cond (Nat.blt pc 890) (cond (Nat.blt pc 888) (cond (Nat.blt pc 887) (am_lf pc 885 (.iload 4) 2) (am_lf pc 887 (.iconst 1) 1)) (cond (Nat.blt pc 889) (am_lf pc 888 .iadd 1) (am_lf pc 889 .iaload 1))) (cond (Nat.blt pc 893) (cond (Nat.blt pc 891) (am_lf pc 890 (.aload_n 0) 1) (am_lf pc 891 (.iload 4) 2)) (cond (Nat.blt pc 894) (am_lf pc 893 (.iconst 2) 1) (am_lf pc 894 .iadd 1))))) (cond (Nat.blt pc 911) (cond (Nat.blt pc 902) (cond (Nat.blt pc 899) (cond (Nat.blt pc 896) (am_lf pc 895 .iaload 1) (am_lf pc 896 (.invokevirtual 150) 3)) (cond (Nat.blt pc 901) (am_lf pc 899 (.istore 6) 2) (am_lf pc 901 (.aload_n 2) 1))) (cond (Nat.blt pc 907) (cond (Nat.blt pc 905) (am_lf pc 902 (.invokevirtual 97) 3) (am_lf pc 905 (.iload 5) 2)) (cond (Nat.blt pc 910) (am_lf pc 907 (.if_icmp .eq 5) 3) (am_lf pc 910 (.iconst 0) 1)))) (cond (Nat.blt pc 918) (cond (Nat.blt pc 914) (cond (Nat.blt pc 912) (am_lf pc 911 .ireturn 1) (am_lf pc 912 (.iload 5) 2)) (cond (Nat.blt pc 917) (am_lf pc 914 (.ifCond .ne 15) 3) (am_lf pc 917 (.aload_n 3) 1))) (cond (Nat.blt pc 920) (cond (Nat.blt pc 919) (am_lf pc 918 (.iconst 0) 1) (am_lf pc 919 .laload 1)) (cond (Nat.blt pc 922) (am_lf pc 920 (.iload 6) 2) (am_lf pc 922 .i2l 1)))))))))) (cond (Nat.blt pc 1306) (cond (Nat.blt pc 1109) (cond (Nat.blt pc 1014) (cond (Nat.blt pc 967) (cond (Nat.blt pc 944) (cond (Nat.blt pc 934) (cond (Nat.blt pc 928) (cond (Nat.blt pc 924) (am_lf pc 923 .lcmp 1) (cond (Nat.blt pc 927) (am_lf pc 924 (.ifCond .eq 5) 3) (am_lf pc 927 (.iconst 0) 1))) (cond (Nat.blt pc 932) (cond (Nat.blt pc 929) (am_lf pc 928 .ireturn 1) (am_lf pc 929 (.goto 776) 3)) (cond (Nat.blt pc 933) (am_lf pc 932 (.aload_n 1) 1) (am_lf pc 933 (.aload_n 0) 1)))) (cond (Nat.blt pc 939) (cond (Nat.blt pc 937) (cond (Nat.blt pc 936) (am_lf pc 934 (.iload 4) 2) (am_lf pc 936 (.iconst 1) 1)) (cond (Nat.blt pc 938) (am_lf pc 937 .iadd 1) (am_lf pc 938 .iaload 1))) (cond (Nat.blt pc 942) (cond (Nat.blt pc 940) (am_lf pc 939 (.aload_n 0) 1) (am_lf pc 940 (.iload 4) 2)) (cond (Nat.blt pc 943) (am_lf pc 942 (.iconst 2) 1) (am_lf pc 943 .iadd 1))))) (cond (Nat.blt pc 956) (cond (Nat.blt pc 951) (cond (Nat.blt pc 946) (cond (Nat.blt pc 945) (am_lf pc 944 .iaload 1) (am_lf pc 945 (.aload_n 3) 1)) (cond (Nat.blt pc 949) (am_lf pc 946 (.invokestatic 151) 3) (am_lf pc 949 (.istore 5) 2))) (cond (Nat.blt pc 953) (cond (Nat.blt pc 952) (am_lf pc 951 (.aload_n 2) 1) (am_lf pc 952 (.aload_n 0) 1)) (cond (Nat.blt pc 955) (am_lf pc 953 (.iload 4) 2) (am_lf pc 955 (.iconst 1) 1)))) (cond (Nat.blt pc 961) (cond (Nat.blt pc 958) (cond (Nat.blt pc 957) (am_lf pc 956 .iadd 1) (am_lf pc 957 .iaload 1)) (cond (Nat.blt pc 959) (am_lf pc 958 (.aload_n 0) 1) (am_lf pc 959 (.iload 4) 2))) (cond (Nat.blt pc 963) (cond (Nat.blt pc 962) (am_lf pc 961 (.iconst 2) 1) (am_lf pc 962 .iadd 1)) (cond (Nat.blt pc 964) (am_lf pc 963 .iaload 1) (am_lf pc 964 (.invokevirtual 153) 3)))))) (cond (Nat.blt pc 992) (cond (Nat.blt pc 980) (cond (Nat.blt pc 973) (cond (Nat.blt pc 969) (am_lf pc 967 (.istore 6) 2) (cond (Nat.blt pc 970) (am_lf pc 969 (.aload_n 2) 1) (am_lf pc 970 (.invokevirtual 97) 3))) (cond (Nat.blt pc 978) (cond (Nat.blt pc 975) (am_lf pc 973 (.iload 5) 2) (am_lf pc 975 (.if_icmp .eq 5) 3)) (cond (Nat.blt pc 979) (am_lf pc 978 (.iconst 0) 1) (am_lf pc 979 .ireturn 1)))) (cond (Nat.blt pc 987) (cond (Nat.blt pc 985) (cond (Nat.blt pc 982) (am_lf pc 980 (.iload 5) 2) (am_lf pc 982 (.ifCond .ne 15) 3)) (cond (Nat.blt pc 986) (am_lf pc 985 (.aload_n 3) 1) (am_lf pc 986 (.iconst 0) 1))) (cond (Nat.blt pc 990) (cond (Nat.blt pc 988) (am_lf pc 987 .laload 1) (am_lf pc 988 (.iload 6) 2)) (cond (Nat.blt pc 991) (am_lf pc 990 .i2l 1) (am_lf pc 991 .lcmp 1))))) (cond (Nat.blt pc 1005) (cond (Nat.blt pc 1000) (cond (Nat.blt pc 996) (cond (Nat.blt pc 995) (am_lf pc 992 (.ifCond .eq 5) 3) (am_lf pc 995 (.iconst 0) 1)) (cond (Nat.blt pc 997) (am_lf pc 996 .ireturn 1) (am_lf pc 997 (.goto 708) 3))) (cond (Nat.blt pc 1002) (cond (Nat.blt pc 1001) (am_lf pc 1000 (.aload_n 1) 1) (am_lf pc 1001 (.aload_n 0) 1)) (cond (Nat.blt pc 1004) (am_lf pc 1002 (.iload 4) 2) (am_lf pc 1004 (.iconst 1) 1)))) (cond (Nat.blt pc 1010) (cond (Nat.blt pc 1007) (cond (Nat.blt pc 1006) (am_lf pc 1005 .iadd 1) (am_lf pc 1006 .iaload 1)) (cond (Nat.blt pc 1008) (am_lf pc 1007 (.aload_n 0) 1) (am_lf pc 1008 (.iload 4) 2))) (cond (Nat.blt pc 1012) (cond (Nat.blt pc 1011) (am_lf pc 1010 (.iconst 2) 1) (am_lf pc 1011 .iadd 1)) (cond (Nat.blt pc 1013) (am_lf pc 1012 .iaload 1) (am_lf pc 1013 (.aload_n 3) 1))))))) (cond (Nat.blt pc 1064) (cond (Nat.blt pc 1037) (cond (Nat.blt pc 1025) (cond (Nat.blt pc 1020) (cond (Nat.blt pc 1017) (am_lf pc 1014 (.invokestatic 154) 3) (cond (Nat.blt pc 1019) (am_lf pc 1017 (.istore 5) 2) (am_lf pc 1019 (.aload_n 2) 1))) (cond (Nat.blt pc 1023) (cond (Nat.blt pc 1021) (am_lf pc 1020 (.aload_n 0) 1) (am_lf pc 1021 (.iload 4) 2)) (cond (Nat.blt pc 1024) (am_lf pc 1023 (.iconst 1) 1) (am_lf pc 1024 .iadd 1)))) (cond (Nat.blt pc 1030) (cond (Nat.blt pc 1027) (cond (Nat.blt pc 1026) (am_lf pc 1025 .iaload 1) (am_lf pc 1026 (.aload_n 0) 1)) (cond (Nat.blt pc 1029) (am_lf pc 1027 (.iload 4) 2) (am_lf pc 1029 (.iconst 2) 1))) (cond (Nat.blt pc 1032) (cond (Nat.blt pc 1031) (am_lf pc 1030 .iadd 1) (am_lf pc 1031 .iaload 1)) (cond (Nat.blt pc 1035) (am_lf pc 1032 (.invokevirtual 156) 3) (am_lf pc 1035 (.istore 6) 2))))) (cond (Nat.blt pc 1053) (cond (Nat.blt pc 1046) (cond (Nat.blt pc 1041) (cond (Nat.blt pc 1038) (am_lf pc 1037 (.aload_n 2) 1) (am_lf pc 1038 (.invokevirtual 97) 3)) (cond (Nat.blt pc 1043) (am_lf pc 1041 (.iload 5) 2) (am_lf pc 1043 (.if_icmp .eq 5) 3))) (cond (Nat.blt pc 1048) (cond (Nat.blt pc 1047) (am_lf pc 1046 (.iconst 0) 1) (am_lf pc 1047 .ireturn 1)) (cond (Nat.blt pc 1050) (am_lf pc 1048 (.iload 5) 2) (am_lf pc 1050 (.ifCond .ne 15) 3)))) (cond (Nat.blt pc 1058) (cond (Nat.blt pc 1055) (cond (Nat.blt pc 1054) (am_lf pc 1053 (.aload_n 3) 1) (am_lf pc 1054 (.iconst 0) 1)) (cond (Nat.blt pc 1056) (am_lf pc 1055 .laload 1) (am_lf pc 1056 (.iload 6) 2))) (cond (Nat.blt pc 1060) (cond (Nat.blt pc 1059) (am_lf pc 1058 .i2l 1) (am_lf pc 1059 .lcmp 1)) (cond (Nat.blt pc 1063) (am_lf pc 1060 (.ifCond .eq 5) 3) (am_lf pc 1063 (.iconst 0) 1)))))) (cond (Nat.blt pc 1085) (cond (Nat.blt pc 1074) (cond (Nat.blt pc 1069) (cond (Nat.blt pc 1065) (am_lf pc 1064 .ireturn 1) (cond (Nat.blt pc 1068) (am_lf pc 1065 (.goto 640) 3) (am_lf pc 1068 (.aload_n 1) 1))) (cond (Nat.blt pc 1072) (cond (Nat.blt pc 1070) (am_lf pc 1069 (.aload_n 0) 1) (am_lf pc 1070 (.iload 4) 2)) (cond (Nat.blt pc 1073) (am_lf pc 1072 (.iconst 1) 1) (am_lf pc 1073 .iadd 1)))) (cond (Nat.blt pc 1079) (cond (Nat.blt pc 1076) (cond (Nat.blt pc 1075) (am_lf pc 1074 .iaload 1) (am_lf pc 1075 (.aload_n 0) 1)) (cond (Nat.blt pc 1078) (am_lf pc 1076 (.iload 4) 2) (am_lf pc 1078 (.iconst 2) 1))) (cond (Nat.blt pc 1081) (cond (Nat.blt pc 1080) (am_lf pc 1079 .iadd 1) (am_lf pc 1080 .iaload 1)) (cond (Nat.blt pc 1082) (am_lf pc 1081 (.aload_n 3) 1) (am_lf pc 1082 (.invokestatic 157) 3))))) (cond (Nat.blt pc 1095) (cond (Nat.blt pc 1091) (cond (Nat.blt pc 1088) (cond (Nat.blt pc 1087) (am_lf pc 1085 (.istore 5) 2) (am_lf pc 1087 (.aload_n 2) 1)) (cond (Nat.blt pc 1089) (am_lf pc 1088 (.aload_n 0) 1) (am_lf pc 1089 (.iload 4) 2))) (cond (Nat.blt pc 1093) (cond (Nat.blt pc 1092) (am_lf pc 1091 (.iconst 1) 1) (am_lf pc 1092 .iadd 1)) (cond (Nat.blt pc 1094) (am_lf pc 1093 .iaload 1) (am_lf pc 1094 (.aload_n 0) 1)))) (cond (Nat.blt pc 1100) (cond (Nat.blt pc 1098) (cond (Nat.blt pc 1097) (am_lf pc 1095 (.iload 4) 2) (am_lf pc 1097 (.iconst 2) 1)) (cond (Nat.blt pc 1099) (am_lf pc 1098 .iadd 1) (am_lf pc 1099 .iaload 1))) (cond (Nat.blt pc 1105) (cond (Nat.blt pc 1103) (am_lf pc 1100 (.invokevirtual 159) 3) (am_lf pc 1103 (.istore 6) 2)) (cond (Nat.blt pc 1106) (am_lf pc 1105 (.aload_n 2) 1) (am_lf pc 1106 (.invokevirtual 97) 3)))))))) (cond (Nat.blt pc 1205) (cond (Nat.blt pc 1156) (cond (Nat.blt pc 1133) (cond (Nat.blt pc 1122) (cond (Nat.blt pc 1115) (cond (Nat.blt pc 1111) (am_lf pc 1109 (.iload 5) 2) (cond (Nat.blt pc 1114) (am_lf pc 1111 (.if_icmp .eq 5) 3) (am_lf pc 1114 (.iconst 0) 1))) (cond (Nat.blt pc 1118) (cond (Nat.blt pc 1116) (am_lf pc 1115 .ireturn 1) (am_lf pc 1116 (.iload 5) 2)) (cond (Nat.blt pc 1121) (am_lf pc 1118 (.ifCond .ne 15) 3) (am_lf pc 1121 (.aload_n 3) 1)))) (cond (Nat.blt pc 1127) (cond (Nat.blt pc 1124) (cond (Nat.blt pc 1123) (am_lf pc 1122 (.iconst 0) 1) (am_lf pc 1123 .laload 1)) (cond (Nat.blt pc 1126) (am_lf pc 1124 (.iload 6) 2) (am_lf pc 1126 .i2l 1))) (cond (Nat.blt pc 1131) (cond (Nat.blt pc 1128) (am_lf pc 1127 .lcmp 1) (am_lf pc 1128 (.ifCond .eq 5) 3)) (cond (Nat.blt pc 1132) (am_lf pc 1131 (.iconst 0) 1) (am_lf pc 1132 .ireturn 1))))) (cond (Nat.blt pc 1144) (cond (Nat.blt pc 1140) (cond (Nat.blt pc 1137) (cond (Nat.blt pc 1136) (am_lf pc 1133 (.goto 572) 3) (am_lf pc 1136 (.aload_n 1) 1)) (cond (Nat.blt pc 1138) (am_lf pc 1137 (.aload_n 0) 1) (am_lf pc 1138 (.iload 4) 2))) (cond (Nat.blt pc 1142) (cond (Nat.blt pc 1141) (am_lf pc 1140 (.iconst 1) 1) (am_lf pc 1141 .iadd 1)) (cond (Nat.blt pc 1143) (am_lf pc 1142 .iaload 1) (am_lf pc 1143 (.aload_n 0) 1)))) (cond (Nat.blt pc 1149) (cond (Nat.blt pc 1147) (cond (Nat.blt pc 1146) (am_lf pc 1144 (.iload 4) 2) (am_lf pc 1146 (.iconst 2) 1)) (cond (Nat.blt pc 1148) (am_lf pc 1147 .iadd 1) (am_lf pc 1148 .iaload 1))) (cond (Nat.blt pc 1153) (cond (Nat.blt pc 1150) (am_lf pc 1149 (.aload_n 3) 1) (am_lf pc 1150 (.invokestatic 160) 3)) (cond (Nat.blt pc 1155) (am_lf pc 1153 (.istore 5) 2) (am_lf pc 1155 (.aload_n 2) 1)))))) (cond (Nat.blt pc 1179) (cond (Nat.blt pc 1165) (cond (Nat.blt pc 1160) (cond (Nat.blt pc 1157) (am_lf pc 1156 (.aload_n 0) 1) (cond (Nat.blt pc 1159) (am_lf pc 1157 (.iload 4) 2) (am_lf pc 1159 (.iconst 1) 1))) (cond (Nat.blt pc 1162) (cond (Nat.blt pc 1161) (am_lf pc 1160 .iadd 1) (am_lf pc 1161 .iaload 1)) (cond (Nat.blt pc 1163) (am_lf pc 1162 (.aload_n 0) 1) (am_lf pc 1163 (.iload 4) 2)))) (cond (Nat.blt pc 1171) (cond (Nat.blt pc 1167) (cond (Nat.blt pc 1166) (am_lf pc 1165 (.iconst 2) 1) (am_lf pc 1166 .iadd 1)) (cond (Nat.blt pc 1168) (am_lf pc 1167 .iaload 1) (am_lf pc 1168 (.invokevirtual 162) 3))) (cond (Nat.blt pc 1174) (cond (Nat.blt pc 1173) (am_lf pc 1171 (.istore 6) 2) (am_lf pc 1173 (.aload_n 2) 1)) (cond (Nat.blt pc 1177) (am_lf pc 1174 (.invokevirtual 97) 3) (am_lf pc 1177 (.iload 5) 2))))) (cond (Nat.blt pc 1192) (cond (Nat.blt pc 1186) (cond (Nat.blt pc 1183) (cond (Nat.blt pc 1182) (am_lf pc 1179 (.if_icmp .eq 5) 3) (am_lf pc 1182 (.iconst 0) 1)) (cond (Nat.blt pc 1184) (am_lf pc 1183 .ireturn 1) (am_lf pc 1184 (.iload 5) 2))) (cond (Nat.blt pc 1190) (cond (Nat.blt pc 1189) (am_lf pc 1186 (.ifCond .ne 15) 3) (am_lf pc 1189 (.aload_n 3) 1)) (cond (Nat.blt pc 1191) (am_lf pc 1190 (.iconst 0) 1) (am_lf pc 1191 .laload 1)))) (cond (Nat.blt pc 1199) (cond (Nat.blt pc 1195) (cond (Nat.blt pc 1194) (am_lf pc 1192 (.iload 6) 2) (am_lf pc 1194 .i2l 1)) (cond (Nat.blt pc 1196) (am_lf pc 1195 .lcmp 1) (am_lf pc 1196 (.ifCond .eq 5) 3))) (cond (Nat.blt pc 1201) (cond (Nat.blt pc 1200) (am_lf pc 1199 (.iconst 0) 1) (am_lf pc 1200 .ireturn 1)) (cond (Nat.blt pc 1204) (am_lf pc 1201 (.goto 504) 3) (am_lf pc 1204 (.aload_n 1) 1))))))) (cond (Nat.blt pc 1255) (cond (Nat.blt pc 1227) (cond (Nat.blt pc 1215) (cond (Nat.blt pc 1209) (cond (Nat.blt pc 1206) (am_lf pc 1205 (.aload_n 0) 1) (cond (Nat.blt pc 1208) (am_lf pc 1206 (.iload 4) 2) (am_lf pc 1208 (.iconst 1) 1))) (cond (Nat.blt pc 1211) (cond (Nat.blt pc 1210) (am_lf pc 1209 .iadd 1) (am_lf pc 1210 .iaload 1)) (cond (Nat.blt pc 1212) (am_lf pc 1211 (.aload_n 3) 1) (am_lf pc 1212 (.invokestatic 163) 3)))) (cond (Nat.blt pc 1221) (cond (Nat.blt pc 1218) (cond (Nat.blt pc 1217) (am_lf pc 1215 (.istore 5) 2) (am_lf pc 1217 (.aload_n 2) 1)) (cond (Nat.blt pc 1219) (am_lf pc 1218 (.aload_n 0) 1) (am_lf pc 1219 (.iload 4) 2))) (cond (Nat.blt pc 1223) (cond (Nat.blt pc 1222) (am_lf pc 1221 (.iconst 1) 1) (am_lf pc 1222 .iadd 1)) (cond (Nat.blt pc 1224) (am_lf pc 1223 .iaload 1) (am_lf pc 1224 (.invokevirtual 165) 3))))) (cond (Nat.blt pc 1242) (cond (Nat.blt pc 1235) (cond (Nat.blt pc 1230) (cond (Nat.blt pc 1229) (am_lf pc 1227 (.istore 6) 2) (am_lf pc 1229 (.aload_n 2) 1)) (cond (Nat.blt pc 1233) (am_lf pc 1230 (.invokevirtual 97) 3) (am_lf pc 1233 (.iload 5) 2))) (cond (Nat.blt pc 1239) (cond (Nat.blt pc 1238) (am_lf pc 1235 (.if_icmp .eq 5) 3) (am_lf pc 1238 (.iconst 0) 1)) (cond (Nat.blt pc 1240) (am_lf pc 1239 .ireturn 1) (am_lf pc 1240 (.iload 5) 2)))) (cond (Nat.blt pc 1248) (cond (Nat.blt pc 1246) (cond (Nat.blt pc 1245) (am_lf pc 1242 (.ifCond .ne 15) 3) (am_lf pc 1245 (.aload_n 3) 1)) (cond (Nat.blt pc 1247) (am_lf pc 1246 (.iconst 0) 1) (am_lf pc 1247 .laload 1))) (cond (Nat.blt pc 1251) (cond (Nat.blt pc 1250) (am_lf pc 1248 (.iload 6) 2) (am_lf pc 1250 .i2l 1)) (cond (Nat.blt pc 1252) (am_lf pc 1251 .lcmp 1) (am_lf pc 1252 (.ifCond .eq 5) 3)))))) (cond (Nat.blt pc 1278) (cond (Nat.blt pc 1266) (cond (Nat.blt pc 1261) (cond (Nat.blt pc 1257) (cond (Nat.blt pc 1256) (am_lf pc 1255 (.iconst 0) 1) (am_lf pc 1256 .ireturn 1)) (cond (Nat.blt pc 1260) (am_lf pc 1257 (.goto 448) 3) (am_lf pc 1260 (.aload_n 1) 1))) (cond (Nat.blt pc 1264) (cond (Nat.blt pc 1262) (am_lf pc 1261 (.aload_n 0) 1) (am_lf pc 1262 (.iload 4) 2)) (cond (Nat.blt pc 1265) (am_lf pc 1264 (.iconst 1) 1) (am_lf pc 1265 .iadd 1)))) (cond (Nat.blt pc 1273) (cond (Nat.blt pc 1268) (cond (Nat.blt pc 1267) (am_lf pc 1266 .iaload 1) (am_lf pc 1267 (.aload_n 3) 1)) (cond (Nat.blt pc 1271) (am_lf pc 1268 (.invokestatic 166) 3) (am_lf pc 1271 (.istore 5) 2))) (cond (Nat.blt pc 1275) (cond (Nat.blt pc 1274) (am_lf pc 1273 (.aload_n 2) 1) (am_lf pc 1274 (.aload_n 0) 1)) (cond (Nat.blt pc 1277) (am_lf pc 1275 (.iload 4) 2) (am_lf pc 1277 (.iconst 1) 1))))) (cond (Nat.blt pc 1294) (cond (Nat.blt pc 1285) (cond (Nat.blt pc 1280) (cond (Nat.blt pc 1279) (am_lf pc 1278 .iadd 1) (am_lf pc 1279 .iaload 1)) (cond (Nat.blt pc 1283) (am_lf pc 1280 (.invokevirtual 168) 3) (am_lf pc 1283 (.istore 6) 2))) (cond (Nat.blt pc 1289) (cond (Nat.blt pc 1286) (am_lf pc 1285 (.aload_n 2) 1) (am_lf pc 1286 (.invokevirtual 97) 3)) (cond (Nat.blt pc 1291) (am_lf pc 1289 (.iload 5) 2) (am_lf pc 1291 (.if_icmp .eq 5) 3)))) (cond (Nat.blt pc 1301) (cond (Nat.blt pc 1296) (cond (Nat.blt pc 1295) (am_lf pc 1294 (.iconst 0) 1) (am_lf pc 1295 .ireturn 1)) (cond (Nat.blt pc 1298) (am_lf pc 1296 (.iload 5) 2) (am_lf pc 1298 (.ifCond .ne 15) 3))) (cond (Nat.blt pc 1303) (cond (Nat.blt pc 1302) (am_lf pc 1301 (.aload_n 3) 1) (am_lf pc 1302 (.iconst 0) 1)) (cond (Nat.blt pc 1304) (am_lf pc 1303 .laload 1) (am_lf pc 1304 (.iload 6) 2))))))))) (cond (Nat.blt pc 1500) (cond (Nat.blt pc 1405) (cond (Nat.blt pc 1357) (cond (Nat.blt pc 1330) (cond (Nat.blt pc 1317) (cond (Nat.blt pc 1311) (cond (Nat.blt pc 1307) (am_lf pc 1306 .i2l 1) (cond (Nat.blt pc 1308) (am_lf pc 1307 .lcmp 1) (am_lf pc 1308 (.ifCond .eq 5) 3))) (cond (Nat.blt pc 1313) (cond (Nat.blt pc 1312) (am_lf pc 1311 (.iconst 0) 1) (am_lf pc 1312 .ireturn 1)) (cond (Nat.blt pc 1316) (am_lf pc 1313 (.goto 392) 3) (am_lf pc 1316 (.aload_n 1) 1)))) (cond (Nat.blt pc 1322) (cond (Nat.blt pc 1320) (cond (Nat.blt pc 1318) (am_lf pc 1317 (.aload_n 0) 1) (am_lf pc 1318 (.iload 4) 2)) (cond (Nat.blt pc 1321) (am_lf pc 1320 (.iconst 1) 1) (am_lf pc 1321 .iadd 1))) (cond (Nat.blt pc 1326) (cond (Nat.blt pc 1323) (am_lf pc 1322 .iaload 1) (am_lf pc 1323 (.ifCond .eq 7) 3)) (cond (Nat.blt pc 1327) (am_lf pc 1326 (.iconst 1) 1) (am_lf pc 1327 (.goto 4) 3))))) (cond (Nat.blt pc 1341) (cond (Nat.blt pc 1336) (cond (Nat.blt pc 1334) (cond (Nat.blt pc 1331) (am_lf pc 1330 (.iconst 0) 1) (am_lf pc 1331 (.invokevirtual 169) 3)) (cond (Nat.blt pc 1335) (am_lf pc 1334 (.aload_n 2) 1) (am_lf pc 1335 (.aload_n 0) 1))) (cond (Nat.blt pc 1339) (cond (Nat.blt pc 1338) (am_lf pc 1336 (.iload 4) 2) (am_lf pc 1338 (.iconst 1) 1)) (cond (Nat.blt pc 1340) (am_lf pc 1339 .iadd 1) (am_lf pc 1340 .iaload 1)))) (cond (Nat.blt pc 1349) (cond (Nat.blt pc 1345) (cond (Nat.blt pc 1344) (am_lf pc 1341 (.ifCond .eq 7) 3) (am_lf pc 1344 (.iconst 1) 1)) (cond (Nat.blt pc 1348) (am_lf pc 1345 (.goto 4) 3) (am_lf pc 1348 (.iconst 0) 1))) (cond (Nat.blt pc 1353) (cond (Nat.blt pc 1352) (am_lf pc 1349 (.invokevirtual 173) 3) (am_lf pc 1352 .lcmp 1)) (cond (Nat.blt pc 1356) (am_lf pc 1353 (.ifCond .eq 352) 3) (am_lf pc 1356 (.iconst 0) 1)))))) (cond (Nat.blt pc 1377) (cond (Nat.blt pc 1365) (cond (Nat.blt pc 1360) (cond (Nat.blt pc 1358) (am_lf pc 1357 .ireturn 1) (cond (Nat.blt pc 1359) (am_lf pc 1358 (.aload_n 1) 1) (am_lf pc 1359 (.aload_n 0) 1))) (cond (Nat.blt pc 1363) (cond (Nat.blt pc 1362) (am_lf pc 1360 (.iload 4) 2) (am_lf pc 1362 (.iconst 1) 1)) (cond (Nat.blt pc 1364) (am_lf pc 1363 .iadd 1) (am_lf pc 1364 .iaload 1)))) (cond (Nat.blt pc 1372) (cond (Nat.blt pc 1369) (cond (Nat.blt pc 1366) (am_lf pc 1365 (.aload_n 3) 1) (am_lf pc 1366 (.invokestatic 174) 3)) (cond (Nat.blt pc 1371) (am_lf pc 1369 (.istore 5) 2) (am_lf pc 1371 (.aload_n 2) 1))) (cond (Nat.blt pc 1375) (cond (Nat.blt pc 1373) (am_lf pc 1372 (.aload_n 0) 1) (am_lf pc 1373 (.iload 4) 2)) (cond (Nat.blt pc 1376) (am_lf pc 1375 (.iconst 1) 1) (am_lf pc 1376 .iadd 1))))) (cond (Nat.blt pc 1393) (cond (Nat.blt pc 1384) (cond (Nat.blt pc 1381) (cond (Nat.blt pc 1378) (am_lf pc 1377 .iaload 1) (am_lf pc 1378 (.invokevirtual 176) 3)) (cond (Nat.blt pc 1383) (am_lf pc 1381 (.istore 6) 2) (am_lf pc 1383 (.aload_n 2) 1))) (cond (Nat.blt pc 1389) (cond (Nat.blt pc 1387) (am_lf pc 1384 (.invokevirtual 97) 3) (am_lf pc 1387 (.iload 5) 2)) (cond (Nat.blt pc 1392) (am_lf pc 1389 (.if_icmp .eq 5) 3) (am_lf pc 1392 (.iconst 0) 1)))) (cond (Nat.blt pc 1400) (cond (Nat.blt pc 1396) (cond (Nat.blt pc 1394) (am_lf pc 1393 .ireturn 1) (am_lf pc 1394 (.iload 5) 2)) (cond (Nat.blt pc 1399) (am_lf pc 1396 (.ifCond .ne 15) 3) (am_lf pc 1399 (.aload_n 3) 1))) (cond (Nat.blt pc 1402) (cond (Nat.blt pc 1401) (am_lf pc 1400 (.iconst 0) 1) (am_lf pc 1401 .laload 1)) (cond (Nat.blt pc 1404) (am_lf pc 1402 (.iload 6) 2) (am_lf pc 1404 .i2l 1))))))) (cond (Nat.blt pc 1449) (cond (Nat.blt pc 1426) (cond (Nat.blt pc 1416) (cond (Nat.blt pc 1410) (cond (Nat.blt pc 1406) (am_lf pc 1405 .lcmp 1) (cond (Nat.blt pc 1409) (am_lf pc 1406 (.ifCond .eq 5) 3) (am_lf pc 1409 (.iconst 0) 1))) (cond (Nat.blt pc 1414) (cond (Nat.blt pc 1411) (am_lf pc 1410 .ireturn 1) (am_lf pc 1411 (.goto 294) 3)) (cond (Nat.blt pc 1415) (am_lf pc 1414 (.aload_n 1) 1) (am_lf pc 1415 (.aload_n 0) 1)))) (cond (Nat.blt pc 1421) (cond (Nat.blt pc 1419) (cond (Nat.blt pc 1418) (am_lf pc 1416 (.iload 4) 2) (am_lf pc 1418 (.iconst 1) 1)) (cond (Nat.blt pc 1420) (am_lf pc 1419 .iadd 1) (am_lf pc 1420 .iaload 1))) (cond (Nat.blt pc 1424) (cond (Nat.blt pc 1422) (am_lf pc 1421 (.aload_n 0) 1) (am_lf pc 1422 (.iload 4) 2)) (cond (Nat.blt pc 1425) (am_lf pc 1424 (.iconst 2) 1) (am_lf pc 1425 .iadd 1))))) (cond (Nat.blt pc 1438) (cond (Nat.blt pc 1433) (cond (Nat.blt pc 1428) (cond (Nat.blt pc 1427) (am_lf pc 1426 .iaload 1) (am_lf pc 1427 (.aload_n 3) 1)) (cond (Nat.blt pc 1431) (am_lf pc 1428 (.invokestatic 177) 3) (am_lf pc 1431 (.istore 5) 2))) (cond (Nat.blt pc 1435) (cond (Nat.blt pc 1434) (am_lf pc 1433 (.aload_n 2) 1) (am_lf pc 1434 (.aload_n 0) 1)) (cond (Nat.blt pc 1437) (am_lf pc 1435 (.iload 4) 2) (am_lf pc 1437 (.iconst 1) 1)))) (cond (Nat.blt pc 1443) (cond (Nat.blt pc 1440) (cond (Nat.blt pc 1439) (am_lf pc 1438 .iadd 1) (am_lf pc 1439 .iaload 1)) (cond (Nat.blt pc 1441) (am_lf pc 1440 (.aload_n 0) 1) (am_lf pc 1441 (.iload 4) 2))) (cond (Nat.blt pc 1445) (cond (Nat.blt pc 1444) (am_lf pc 1443 (.iconst 2) 1) (am_lf pc 1444 .iadd 1)) (cond (Nat.blt pc 1446) (am_lf pc 1445 .iaload 1) (am_lf pc 1446 (.invokevirtual 179) 3)))))) (cond (Nat.blt pc 1477) (cond (Nat.blt pc 1464) (cond (Nat.blt pc 1457) (cond (Nat.blt pc 1452) (cond (Nat.blt pc 1451) (am_lf pc 1449 (.istore 6) 2) (am_lf pc 1451 (.aload_n 2) 1)) (cond (Nat.blt pc 1455) (am_lf pc 1452 (.invokevirtual 97) 3) (am_lf pc 1455 (.iload 5) 2))) (cond (Nat.blt pc 1461) (cond (Nat.blt pc 1460) (am_lf pc 1457 (.if_icmp .eq 5) 3) (am_lf pc 1460 (.iconst 0) 1)) (cond (Nat.blt pc 1462) (am_lf pc 1461 .ireturn 1) (am_lf pc 1462 (.iload 5) 2)))) (cond (Nat.blt pc 1470) (cond (Nat.blt pc 1468) (cond (Nat.blt pc 1467) (am_lf pc 1464 (.ifCond .ne 15) 3) (am_lf pc 1467 (.aload_n 3) 1)) (cond (Nat.blt pc 1469) (am_lf pc 1468 (.iconst 0) 1) (am_lf pc 1469 .laload 1))) (cond (Nat.blt pc 1473) (cond (Nat.blt pc 1472) (am_lf pc 1470 (.iload 6) 2) (am_lf pc 1472 .i2l 1)) (cond (Nat.blt pc 1474) (am_lf pc 1473 .lcmp 1) (am_lf pc 1474 (.ifCond .eq 5) 3))))) (cond (Nat.blt pc 1488) (cond (Nat.blt pc 1483) (cond (Nat.blt pc 1479) (cond (Nat.blt pc 1478) (am_lf pc 1477 (.iconst 0) 1) (am_lf pc 1478 .ireturn 1)) (cond (Nat.blt pc 1482) (am_lf pc 1479 (.goto 226) 3) (am_lf pc 1482 (.aload_n 1) 1))) (cond (Nat.blt pc 1486) (cond (Nat.blt pc 1484) (am_lf pc 1483 (.aload_n 0) 1) (am_lf pc 1484 (.iload 4) 2)) (cond (Nat.blt pc 1487) (am_lf pc 1486 (.iconst 1) 1) (am_lf pc 1487 .iadd 1)))) (cond (Nat.blt pc 1495) (cond (Nat.blt pc 1490) (cond (Nat.blt pc 1489) (am_lf pc 1488 .iaload 1) (am_lf pc 1489 (.aload_n 3) 1)) (cond (Nat.blt pc 1493) (am_lf pc 1490 (.invokestatic 180) 3) (am_lf pc 1493 (.istore 5) 2))) (cond (Nat.blt pc 1497) (cond (Nat.blt pc 1496) (am_lf pc 1495 (.aload_n 2) 1) (am_lf pc 1496 (.aload_n 0) 1)) (cond (Nat.blt pc 1499) (am_lf pc 1497 (.iload 4) 2) (am_lf pc 1499 (.iconst 1) 1)))))))) (cond (Nat.blt pc 1600) (cond (Nat.blt pc 1551) (cond (Nat.blt pc 1526) (cond (Nat.blt pc 1513) (cond (Nat.blt pc 1505) (cond (Nat.blt pc 1501) (am_lf pc 1500 .iadd 1) (cond (Nat.blt pc 1502) (am_lf pc 1501 .iaload 1) (am_lf pc 1502 (.invokevirtual 182) 3))) (cond (Nat.blt pc 1508) (cond (Nat.blt pc 1507) (am_lf pc 1505 (.istore 6) 2) (am_lf pc 1507 (.aload_n 2) 1)) (cond (Nat.blt pc 1511) (am_lf pc 1508 (.invokevirtual 97) 3) (am_lf pc 1511 (.iload 5) 2)))) (cond (Nat.blt pc 1520) (cond (Nat.blt pc 1517) (cond (Nat.blt pc 1516) (am_lf pc 1513 (.if_icmp .eq 5) 3) (am_lf pc 1516 (.iconst 0) 1)) (cond (Nat.blt pc 1518) (am_lf pc 1517 .ireturn 1) (am_lf pc 1518 (.iload 5) 2))) (cond (Nat.blt pc 1524) (cond (Nat.blt pc 1523) (am_lf pc 1520 (.ifCond .ne 15) 3) (am_lf pc 1523 (.aload_n 3) 1)) (cond (Nat.blt pc 1525) (am_lf pc 1524 (.iconst 0) 1) (am_lf pc 1525 .laload 1))))) (cond (Nat.blt pc 1539) (cond (Nat.blt pc 1533) (cond (Nat.blt pc 1529) (cond (Nat.blt pc 1528) (am_lf pc 1526 (.iload 6) 2) (am_lf pc 1528 .i2l 1)) (cond (Nat.blt pc 1530) (am_lf pc 1529 .lcmp 1) (am_lf pc 1530 (.ifCond .eq 5) 3))) (cond (Nat.blt pc 1535) (cond (Nat.blt pc 1534) (am_lf pc 1533 (.iconst 0) 1) (am_lf pc 1534 .ireturn 1)) (cond (Nat.blt pc 1538) (am_lf pc 1535 (.goto 170) 3) (am_lf pc 1538 (.aload_n 1) 1)))) (cond (Nat.blt pc 1544) (cond (Nat.blt pc 1542) (cond (Nat.blt pc 1540) (am_lf pc 1539 (.aload_n 0) 1) (am_lf pc 1540 (.iload 4) 2)) (cond (Nat.blt pc 1543) (am_lf pc 1542 (.iconst 1) 1) (am_lf pc 1543 .iadd 1))) (cond (Nat.blt pc 1546) (cond (Nat.blt pc 1545) (am_lf pc 1544 .iaload 1) (am_lf pc 1545 (.aload_n 3) 1)) (cond (Nat.blt pc 1549) (am_lf pc 1546 (.invokestatic 183) 3) (am_lf pc 1549 (.istore 5) 2)))))) (cond (Nat.blt pc 1576) (cond (Nat.blt pc 1561) (cond (Nat.blt pc 1555) (cond (Nat.blt pc 1552) (am_lf pc 1551 (.aload_n 2) 1) (cond (Nat.blt pc 1553) (am_lf pc 1552 (.aload_n 0) 1) (am_lf pc 1553 (.iload 4) 2))) (cond (Nat.blt pc 1557) (cond (Nat.blt pc 1556) (am_lf pc 1555 (.iconst 1) 1) (am_lf pc 1556 .iadd 1)) (cond (Nat.blt pc 1558) (am_lf pc 1557 .iaload 1) (am_lf pc 1558 (.invokevirtual 185) 3)))) (cond (Nat.blt pc 1569) (cond (Nat.blt pc 1564) (cond (Nat.blt pc 1563) (am_lf pc 1561 (.istore 6) 2) (am_lf pc 1563 (.aload_n 2) 1)) (cond (Nat.blt pc 1567) (am_lf pc 1564 (.invokevirtual 97) 3) (am_lf pc 1567 (.iload 5) 2))) (cond (Nat.blt pc 1573) (cond (Nat.blt pc 1572) (am_lf pc 1569 (.if_icmp .eq 5) 3) (am_lf pc 1572 (.iconst 0) 1)) (cond (Nat.blt pc 1574) (am_lf pc 1573 .ireturn 1) (am_lf pc 1574 (.iload 5) 2))))) (cond (Nat.blt pc 1589) (cond (Nat.blt pc 1582) (cond (Nat.blt pc 1580) (cond (Nat.blt pc 1579) (am_lf pc 1576 (.ifCond .ne 15) 3) (am_lf pc 1579 (.aload_n 3) 1)) (cond (Nat.blt pc 1581) (am_lf pc 1580 (.iconst 0) 1) (am_lf pc 1581 .laload 1))) (cond (Nat.blt pc 1585) (cond (Nat.blt pc 1584) (am_lf pc 1582 (.iload 6) 2) (am_lf pc 1584 .i2l 1)) (cond (Nat.blt pc 1586) (am_lf pc 1585 .lcmp 1) (am_lf pc 1586 (.ifCond .eq 5) 3)))) (cond (Nat.blt pc 1595) (cond (Nat.blt pc 1591) (cond (Nat.blt pc 1590) (am_lf pc 1589 (.iconst 0) 1) (am_lf pc 1590 .ireturn 1)) (cond (Nat.blt pc 1594) (am_lf pc 1591 (.goto 114) 3) (am_lf pc 1594 (.aload_n 1) 1))) (cond (Nat.blt pc 1598) (cond (Nat.blt pc 1596) (am_lf pc 1595 (.aload_n 0) 1) (am_lf pc 1596 (.iload 4) 2)) (cond (Nat.blt pc 1599) (am_lf pc 1598 (.iconst 1) 1) (am_lf pc 1599 .iadd 1))))))) (cond (Nat.blt pc 1651) (cond (Nat.blt pc 1625) (cond (Nat.blt pc 1611) (cond (Nat.blt pc 1605) (cond (Nat.blt pc 1601) (am_lf pc 1600 .iaload 1) (cond (Nat.blt pc 1602) (am_lf pc 1601 (.aload_n 3) 1) (am_lf pc 1602 (.invokestatic 186) 3))) (cond (Nat.blt pc 1608) (cond (Nat.blt pc 1607) (am_lf pc 1605 (.istore 5) 2) (am_lf pc 1607 (.aload_n 2) 1)) (cond (Nat.blt pc 1609) (am_lf pc 1608 (.aload_n 0) 1) (am_lf pc 1609 (.iload 4) 2)))) (cond (Nat.blt pc 1617) (cond (Nat.blt pc 1613) (cond (Nat.blt pc 1612) (am_lf pc 1611 (.iconst 1) 1) (am_lf pc 1612 .iadd 1)) (cond (Nat.blt pc 1614) (am_lf pc 1613 .iaload 1) (am_lf pc 1614 (.invokevirtual 188) 3))) (cond (Nat.blt pc 1620) (cond (Nat.blt pc 1619) (am_lf pc 1617 (.istore 6) 2) (am_lf pc 1619 (.aload_n 2) 1)) (cond (Nat.blt pc 1623) (am_lf pc 1620 (.invokevirtual 97) 3) (am_lf pc 1623 (.iload 5) 2))))) (cond (Nat.blt pc 1638) (cond (Nat.blt pc 1632) (cond (Nat.blt pc 1629) (cond (Nat.blt pc 1628) (am_lf pc 1625 (.if_icmp .eq 5) 3) (am_lf pc 1628 (.iconst 0) 1)) (cond (Nat.blt pc 1630) (am_lf pc 1629 .ireturn 1) (am_lf pc 1630 (.iload 5) 2))) (cond (Nat.blt pc 1636) (cond (Nat.blt pc 1635) (am_lf pc 1632 (.ifCond .ne 15) 3) (am_lf pc 1635 (.aload_n 3) 1)) (cond (Nat.blt pc 1637) (am_lf pc 1636 (.iconst 0) 1) (am_lf pc 1637 .laload 1)))) (cond (Nat.blt pc 1645) (cond (Nat.blt pc 1641) (cond (Nat.blt pc 1640) (am_lf pc 1638 (.iload 6) 2) (am_lf pc 1640 .i2l 1)) (cond (Nat.blt pc 1642) (am_lf pc 1641 .lcmp 1) (am_lf pc 1642 (.ifCond .eq 5) 3))) (cond (Nat.blt pc 1647) (cond (Nat.blt pc 1646) (am_lf pc 1645 (.iconst 0) 1) (am_lf pc 1646 .ireturn 1)) (cond (Nat.blt pc 1650) (am_lf pc 1647 (.goto 58) 3) (am_lf pc 1650 (.aload_n 1) 1)))))) (cond (Nat.blt pc 1683) (cond (Nat.blt pc 1667) (cond (Nat.blt pc 1660) (cond (Nat.blt pc 1656) (cond (Nat.blt pc 1654) (am_lf pc 1651 (.invokevirtual 189) 3) (am_lf pc 1654 (.dstore 5) 2)) (cond (Nat.blt pc 1657) (am_lf pc 1656 (.aload_n 2) 1) (am_lf pc 1657 (.invokevirtual 193) 3))) (cond (Nat.blt pc 1664) (cond (Nat.blt pc 1662) (am_lf pc 1660 (.dstore 7) 2) (am_lf pc 1662 (.dload 5) 2)) (cond (Nat.blt pc 1666) (am_lf pc 1664 (.dload 7) 2) (am_lf pc 1666 (.dcmp .l) 1)))) (cond (Nat.blt pc 1675) (cond (Nat.blt pc 1672) (cond (Nat.blt pc 1670) (am_lf pc 1667 (.ifCond .eq 21) 3) (am_lf pc 1670 (.dload 5) 2)) (cond (Nat.blt pc 1674) (am_lf pc 1672 (.dload 5) 2) (am_lf pc 1674 (.dcmp .l) 1))) (cond (Nat.blt pc 1680) (cond (Nat.blt pc 1678) (am_lf pc 1675 (.ifCond .eq 11) 3) (am_lf pc 1678 (.dload 7) 2)) (cond (Nat.blt pc 1682) (am_lf pc 1680 (.dload 7) 2) (am_lf pc 1682 (.dcmp .l) 1))))) (cond (Nat.blt pc 1699) (cond (Nat.blt pc 1691) (cond (Nat.blt pc 1687) (cond (Nat.blt pc 1686) (am_lf pc 1683 (.ifCond .ne 5) 3) (am_lf pc 1686 (.iconst 0) 1)) (cond (Nat.blt pc 1688) (am_lf pc 1687 .ireturn 1) (am_lf pc 1688 (.goto 17) 3))) (cond (Nat.blt pc 1695) (cond (Nat.blt pc 1692) (am_lf pc 1691 (.aload_n 1) 1) (am_lf pc 1692 (.invokevirtual 194) 3)) (cond (Nat.blt pc 1696) (am_lf pc 1695 (.aload_n 2) 1) (am_lf pc 1696 (.invokevirtual 198) 3)))) (cond (Nat.blt pc 1705) (cond (Nat.blt pc 1703) (cond (Nat.blt pc 1700) (am_lf pc 1699 .lcmp 1) (am_lf pc 1700 (.ifCond .eq 5) 3)) (cond (Nat.blt pc 1704) (am_lf pc 1703 (.iconst 0) 1) (am_lf pc 1704 .ireturn 1))) (cond (Nat.blt pc 1711) (cond (Nat.blt pc 1708) (am_lf pc 1705 (.iinc 4 3) 3) (am_lf pc 1708 (.goto (-1685)) 3)) (cond (Nat.blt pc 1712) (am_lf pc 1711 (.iconst 1) 1) (am_lf pc 1712 .ireturn 1))))))))))))
def tb_CL : List (Nat × ByteArray × (Nat → Option (Instr × Nat))) := [(0, cX5_mend, tk_X5_mend), (1, cX0_remember, tk_X0_remember), (2, cX0_rowAt, tk_X0_rowAt), (3, cJ9_floorMod_7cf53, tk_J9_floorMod_7cf53), (4, cX2_copyFrom, tk_X2_copyFrom), (5, cX2_keptPoints, tk_X2_keptPoints), (6, cX5_keepBroken, tk_X5_keepBroken), (7, cX1_isBroken, tk_X1_isBroken), (8, cX2_isKept, tk_X2_isKept), (9, cX2_hasPoint, tk_X2_hasPoint), (10, cX2_earlierKept, tk_X2_earlierKept), (11, cX2_keptBelow, tk_X2_keptBelow), (12, cX2_sameStretch, tk_X2_sameStretch), (13, cX2_laterKept, tk_X2_laterKept), (14, cX2_keptFrom, tk_X2_keptFrom), (15, cX1_findMiss, tk_X1_findMiss), (16, cX2_isStep, tk_X2_isStep), (17, cX5_strike, tk_X5_strike), (18, cX1_isTrue, tk_X1_isTrue), (19, cX1_findReading, tk_X1_findReading), (20, cX2_placeOf, tk_X2_placeOf), (21, cX1_shorten, tk_X1_shorten), (22, cX1_commonDivisor, tk_X1_commonDivisor), (23, cX5_clearBuffer, tk_X5_clearBuffer), (24, cX5_firstError, tk_X5_firstError), (25, cX3_goodLength, tk_X3_goodLength), (26, cX3_placeAfter, tk_X3_placeAfter), (27, cX3_placeAfterFirstDigit, tk_X3_placeAfterFirstDigit), (28, cX3_isDigit, tk_X3_isDigit), (29, cX5_area, tk_X5_area), (30, cX5_areaBetween, tk_X5_areaBetween), (31, cX5_droppedShare, tk_X5_droppedShare), (32, cX5_digest, tk_X5_digest), (33, cX5_count, tk_X5_count), (34, cX5_refuseOutside, tk_X5_refuseOutside), (35, cX5_brokenAmong, tk_X5_brokenAmong), (36, cX2_stretchCount, tk_X2_stretchCount), (37, cX5_trueNotes, tk_X5_trueNotes), (38, cX5_greatestError, tk_X5_greatestError), (39, cX1_findError, tk_X1_findError), (40, cX5_roundedUp, tk_X5_roundedUp), (41, cX5_longestStep, tk_X5_longestStep), (42, cX5_hashPoints, tk_X5_hashPoints), (43, cX5_point, tk_X5_point), (44, cX5_refuseNoPoint, tk_X5_refuseNoPoint), (45, cX1_reasonToKeep, tk_X1_reasonToKeep), (46, cX1_canJoin, tk_X1_canJoin), (47, cX1_findWorst, tk_X1_findWorst), (48, cX5_error, tk_X5_error), (49, cX5_hashStretches, tk_X5_hashStretches), (50, cX5_stretch, tk_X5_stretch), (51, cX5_refuseNoStretch, tk_X5_refuseNoStretch), (52, cX2_firstOf, tk_X2_firstOf), (53, cX2_sizeOf, tk_X2_sizeOf), (54, cX2_keptOf, tk_X2_keptOf), (55, cX4_fewestOf, tk_X4_fewestOf), (56, cX4_findNeeds, tk_X4_findNeeds), (57, cX4_cell, tk_X4_cell), (58, cX4_findFewest, tk_X4_findFewest), (59, cX4_fewestBehind, tk_X4_fewestBehind), (60, cX2_beginsStretch, tk_X2_beginsStretch), (61, cX5_hashNotes, tk_X5_hashNotes), (62, cX5_noteAt, tk_X5_noteAt), (63, cX5_ifThinned, tk_X5_ifThinned), (64, cX5_refuseNoWay, tk_X5_refuseNoWay), (65, cX4_choose, tk_X4_choose), (66, cX2_endsStretch, tk_X2_endsStretch), (67, cX4_halveBehind, tk_X4_halveBehind), (68, cX4_chosenBehind, tk_X4_chosenBehind), (69, cX4_joinBehind, tk_X4_joinBehind), (70, cX5_leastOath, tk_X5_leastOath), (71, cX4_leastOathFor, tk_X4_leastOathFor), (72, cX5_cheapest, tk_X5_cheapest), (73, cX1_leastMissed, tk_X1_leastMissed), (74, cX5_bitsOf, tk_X5_bitsOf), (75, cX5_hashText, tk_X5_hashText), (76, cX5_add, tk_X5_add), (77, cX5_isTime, tk_X5_isTime), (78, cX5_isValue, tk_X5_isValue), (79, cX2_hasTime, tk_X2_hasTime), (80, cX2_insert, tk_X2_insert), (81, cX2_copyPoint, tk_X2_copyPoint), (82, cX5_pointsChanged, tk_X5_pointsChanged), (83, cX2_numberStretches, tk_X2_numberStretches), (84, cX4_forget, tk_X4_forget), (85, cX5_correct, tk_X5_correct), (86, cX5_drop, tk_X5_drop), (87, cX5_keep, tk_X5_keep), (88, cX5_thin, tk_X5_thin), (89, cX5_tear, tk_X5_tear), (90, cX2_removeRun, tk_X2_removeRun), (91, cX5_set, tk_X5_set), (92, cX5_refuseNoSetting, tk_X5_refuseNoSetting), (93, cX5_isSettingValue, tk_X5_isSettingValue), (94, cX5_note, tk_X5_note), (95, cX5_append, tk_X5_append), (96, cX3_push, tk_X3_push), (97, cX5_addAll, tk_X5_addAll), (98, cX3_isRow, tk_X3_isRow), (99, cX3_readRow, tk_X3_readRow), (100, cX3_takePoint, tk_X3_takePoint), (101, cX5_parsedTimesAreFree, tk_X5_parsedTimesAreFree), (102, cX5_undo, tk_X5_undo), (103, cX0_restore, tk_X0_restore), (104, cX5_reading, tk_X5_reading), (105, cX5_setting, tk_X5_setting), (106, cX5_whyNot, tk_X5_whyNot), (107, cX5_join, tk_X5_join), (108, cX1_isWithin, tk_X1_isWithin), (109, cX6_thrown, tk_X6_thrown), (110, cX6_add, tk_X6_add), (111, cX6_isEntry, tk_X6_isEntry), (112, cX6_in, tk_X6_in), (113, cX6_fails, tk_X6_fails), (114, cX6_hasTime, tk_X6_hasTime), (115, cX6_time, tk_X6_time), (116, cX6_save, tk_X6_save), (117, cX6_adds, tk_X6_adds), (118, cX6_correct, tk_X6_correct), (119, cX6_isPoint, tk_X6_isPoint), (120, cX6_value, tk_X6_value), (121, cX6_drop, tk_X6_drop), (122, cX6_against, tk_X6_against), (123, cX6_isKept, tk_X6_isKept), (124, cX6_neighbors, tk_X6_neighbors), (125, cX6_around, tk_X6_around), (126, cX6_stretchOf, tk_X6_stretchOf), (127, cX6_isFirst, tk_X6_isFirst), (128, cX6_canJoin, tk_X6_canJoin), (129, cX6_withinMany, tk_X6_withinMany), (130, cX6_off, tk_X6_off), (131, cX6_below, tk_X6_below), (132, cX6_above, tk_X6_above), (133, cX6_size, tk_X6_size), (134, cX6_keeps, tk_X6_keeps), (135, cX6_keptMany, tk_X6_keptMany), (136, cX6_keep, tk_X6_keep), (137, cX6_mend, tk_X6_mend), (138, cX6_isBroken, tk_X6_isBroken), (139, cX6_isTrue, tk_X6_isTrue), (140, cX6_farFrom, tk_X6_farFrom), (141, cX6_read, tk_X6_read), (142, cX6_keptAt, tk_X6_keptAt), (143, cX6_thin, tk_X6_thin), (144, cX6_choose, tk_X6_choose), (145, cX6_lastWith, tk_X6_lastWith), (146, cX6_far, tk_X6_far), (147, cX6_halves, tk_X6_halves), (148, cX6_worst, tk_X6_worst), (149, cX6_few, tk_X6_few), (150, cX6_tear, tk_X6_tear), (151, cX6_stretches, tk_X6_stretches), (152, cX6_firstOf, tk_X6_firstOf), (153, cX6_set, tk_X6_set), (154, cX6_note, tk_X6_note), (155, cX6_strike, tk_X6_strike), (156, cX6_isTrueNote, tk_X6_isTrueNote), (157, cX6_append, tk_X6_append), (158, cX6_clearBuffer, tk_X6_clearBuffer), (159, cX6_firstError, tk_X6_firstError), (160, cX6_reads, tk_X6_reads), (161, cX6_readPoint, tk_X6_readPoint), (162, cX6_readNumber, tk_X6_readNumber), (163, cX6_sign, tk_X6_sign), (164, cX6_addAll, tk_X6_addAll), (165, cX6_undo, tk_X6_undo), (166, cX6_point, tk_X6_point), (167, cX6_aboutPoint, tk_X6_aboutPoint), (168, cX6_orNone, tk_X6_orNone), (169, cX6_error, tk_X6_error), (170, cX6_errorOf, tk_X6_errorOf), (171, cX6_lowest, tk_X6_lowest), (172, cX6_common, tk_X6_common), (173, cX6_reading, tk_X6_reading), (174, cX6_stretch, tk_X6_stretch), (175, cX6_aboutStretch, tk_X6_aboutStretch), (176, cX6_noteAt, tk_X6_noteAt), (177, cX6_aboutNote, tk_X6_aboutNote), (178, cX6_count, tk_X6_count), (179, cX6_number, tk_X6_number), (180, cX6_brokenMany, tk_X6_brokenMany), (181, cX6_trueMany, tk_X6_trueMany), (182, cX6_greatestError, tk_X6_greatestError), (183, cX6_greatestStep, tk_X6_greatestStep), (184, cX6_setting, tk_X6_setting), (185, cX6_area, tk_X6_area), (186, cX6_whyNot, tk_X6_whyNot), (187, cX6_join, tk_X6_join), (188, cX6_ifThinned, tk_X6_ifThinned), (189, cX6_leastOath, tk_X6_leastOath), (190, cX6_oathFor, tk_X6_oathFor), (191, cX6_fewestBy, tk_X6_fewestBy), (192, cX6_cheapest, tk_X6_cheapest), (193, cX6_missedLeast, tk_X6_missedLeast), (194, cX6_droppedShare, tk_X6_droppedShare), (195, cX6_share, tk_X6_share), (196, cX6_digest, tk_X6_digest), (197, cJxe99ae_doubleToLongBits_ccdee, tk_Jxe99ae_doubleToLongBits_ccdee), (198, cJxe99ae_isNaN_b9ae7, tk_Jxe99ae_isNaN_b9ae7), (199, cL_add, tk_L_add), (200, cL_correct, tk_L_correct), (201, cL_drop, tk_L_drop), (202, cL_keep, tk_L_keep), (203, cL_thin, tk_L_thin), (204, cL_tear, tk_L_tear), (205, cL_set, tk_L_set), (206, cL_note, tk_L_note), (207, cL_append, tk_L_append), (208, cL_addAll, tk_L_addAll), (209, cL_undo, tk_L_undo), (210, cL_point, tk_L_point), (211, cL_error, tk_L_error), (212, cL_reading, tk_L_reading), (213, cL_stretch, tk_L_stretch), (214, cL_noteAt, tk_L_noteAt), (215, cL_count, tk_L_count), (216, cL_setting, tk_L_setting), (217, cL_whyNot, tk_L_whyNot), (218, cL_join, tk_L_join), (219, cL_ifThinned, tk_L_ifThinned), (220, cL_leastOath, tk_L_leastOath), (221, cL_cheapest, tk_L_cheapest), (222, cL_law, tk_L_law)]
def tb_codeL : List (Nat × (Nat → Option (Instr × Nat))) := [(0, tk_X5_mend), (1, tk_X0_remember), (2, tk_X0_rowAt), (3, tk_J9_floorMod_7cf53), (4, tk_X2_copyFrom), (5, tk_X2_keptPoints), (6, tk_X5_keepBroken), (7, tk_X1_isBroken), (8, tk_X2_isKept), (9, tk_X2_hasPoint), (10, tk_X2_earlierKept), (11, tk_X2_keptBelow), (12, tk_X2_sameStretch), (13, tk_X2_laterKept), (14, tk_X2_keptFrom), (15, tk_X1_findMiss), (16, tk_X2_isStep), (17, tk_X5_strike), (18, tk_X1_isTrue), (19, tk_X1_findReading), (20, tk_X2_placeOf), (21, tk_X1_shorten), (22, tk_X1_commonDivisor), (23, tk_X5_clearBuffer), (24, tk_X5_firstError), (25, tk_X3_goodLength), (26, tk_X3_placeAfter), (27, tk_X3_placeAfterFirstDigit), (28, tk_X3_isDigit), (29, tk_X5_area), (30, tk_X5_areaBetween), (31, tk_X5_droppedShare), (32, tk_X5_digest), (33, tk_X5_count), (34, tk_X5_refuseOutside), (35, tk_X5_brokenAmong), (36, tk_X2_stretchCount), (37, tk_X5_trueNotes), (38, tk_X5_greatestError), (39, tk_X1_findError), (40, tk_X5_roundedUp), (41, tk_X5_longestStep), (42, tk_X5_hashPoints), (43, tk_X5_point), (44, tk_X5_refuseNoPoint), (45, tk_X1_reasonToKeep), (46, tk_X1_canJoin), (47, tk_X1_findWorst), (48, tk_X5_error), (49, tk_X5_hashStretches), (50, tk_X5_stretch), (51, tk_X5_refuseNoStretch), (52, tk_X2_firstOf), (53, tk_X2_sizeOf), (54, tk_X2_keptOf), (55, tk_X4_fewestOf), (56, tk_X4_findNeeds), (57, tk_X4_cell), (58, tk_X4_findFewest), (59, tk_X4_fewestBehind), (60, tk_X2_beginsStretch), (61, tk_X5_hashNotes), (62, tk_X5_noteAt), (63, tk_X5_ifThinned), (64, tk_X5_refuseNoWay), (65, tk_X4_choose), (66, tk_X2_endsStretch), (67, tk_X4_halveBehind), (68, tk_X4_chosenBehind), (69, tk_X4_joinBehind), (70, tk_X5_leastOath), (71, tk_X4_leastOathFor), (72, tk_X5_cheapest), (73, tk_X1_leastMissed), (74, tk_X5_bitsOf), (75, tk_X5_hashText), (76, tk_X5_add), (77, tk_X5_isTime), (78, tk_X5_isValue), (79, tk_X2_hasTime), (80, tk_X2_insert), (81, tk_X2_copyPoint), (82, tk_X5_pointsChanged), (83, tk_X2_numberStretches), (84, tk_X4_forget), (85, tk_X5_correct), (86, tk_X5_drop), (87, tk_X5_keep), (88, tk_X5_thin), (89, tk_X5_tear), (90, tk_X2_removeRun), (91, tk_X5_set), (92, tk_X5_refuseNoSetting), (93, tk_X5_isSettingValue), (94, tk_X5_note), (95, tk_X5_append), (96, tk_X3_push), (97, tk_X5_addAll), (98, tk_X3_isRow), (99, tk_X3_readRow), (100, tk_X3_takePoint), (101, tk_X5_parsedTimesAreFree), (102, tk_X5_undo), (103, tk_X0_restore), (104, tk_X5_reading), (105, tk_X5_setting), (106, tk_X5_whyNot), (107, tk_X5_join), (108, tk_X1_isWithin), (109, tk_X6_thrown), (110, tk_X6_add), (111, tk_X6_isEntry), (112, tk_X6_in), (113, tk_X6_fails), (114, tk_X6_hasTime), (115, tk_X6_time), (116, tk_X6_save), (117, tk_X6_adds), (118, tk_X6_correct), (119, tk_X6_isPoint), (120, tk_X6_value), (121, tk_X6_drop), (122, tk_X6_against), (123, tk_X6_isKept), (124, tk_X6_neighbors), (125, tk_X6_around), (126, tk_X6_stretchOf), (127, tk_X6_isFirst), (128, tk_X6_canJoin), (129, tk_X6_withinMany), (130, tk_X6_off), (131, tk_X6_below), (132, tk_X6_above), (133, tk_X6_size), (134, tk_X6_keeps), (135, tk_X6_keptMany), (136, tk_X6_keep), (137, tk_X6_mend), (138, tk_X6_isBroken), (139, tk_X6_isTrue), (140, tk_X6_farFrom), (141, tk_X6_read), (142, tk_X6_keptAt), (143, tk_X6_thin), (144, tk_X6_choose), (145, tk_X6_lastWith), (146, tk_X6_far), (147, tk_X6_halves), (148, tk_X6_worst), (149, tk_X6_few), (150, tk_X6_tear), (151, tk_X6_stretches), (152, tk_X6_firstOf), (153, tk_X6_set), (154, tk_X6_note), (155, tk_X6_strike), (156, tk_X6_isTrueNote), (157, tk_X6_append), (158, tk_X6_clearBuffer), (159, tk_X6_firstError), (160, tk_X6_reads), (161, tk_X6_readPoint), (162, tk_X6_readNumber), (163, tk_X6_sign), (164, tk_X6_addAll), (165, tk_X6_undo), (166, tk_X6_point), (167, tk_X6_aboutPoint), (168, tk_X6_orNone), (169, tk_X6_error), (170, tk_X6_errorOf), (171, tk_X6_lowest), (172, tk_X6_common), (173, tk_X6_reading), (174, tk_X6_stretch), (175, tk_X6_aboutStretch), (176, tk_X6_noteAt), (177, tk_X6_aboutNote), (178, tk_X6_count), (179, tk_X6_number), (180, tk_X6_brokenMany), (181, tk_X6_trueMany), (182, tk_X6_greatestError), (183, tk_X6_greatestStep), (184, tk_X6_setting), (185, tk_X6_area), (186, tk_X6_whyNot), (187, tk_X6_join), (188, tk_X6_ifThinned), (189, tk_X6_leastOath), (190, tk_X6_oathFor), (191, tk_X6_fewestBy), (192, tk_X6_cheapest), (193, tk_X6_missedLeast), (194, tk_X6_droppedShare), (195, tk_X6_share), (196, tk_X6_digest), (197, tk_Jxe99ae_doubleToLongBits_ccdee), (198, tk_Jxe99ae_isNaN_b9ae7), (199, tk_L_add), (200, tk_L_correct), (201, tk_L_drop), (202, tk_L_keep), (203, tk_L_thin), (204, tk_L_tear), (205, tk_L_set), (206, tk_L_note), (207, tk_L_append), (208, tk_L_addAll), (209, tk_L_undo), (210, tk_L_point), (211, tk_L_error), (212, tk_L_reading), (213, tk_L_stretch), (214, tk_L_noteAt), (215, tk_L_count), (216, tk_L_setting), (217, tk_L_whyNot), (218, tk_L_join), (219, tk_L_ifThinned), (220, tk_L_leastOath), (221, tk_L_cheapest), (222, tk_L_law)]
end
section
/-- what stands on the stack, in words -/
def am_cs : List am_V → Nat
  | [] => 0
  | v :: r => am_cat v + am_cs r
def am_al2 {α : Type} (o k : Nat) (L : List (Nat × List (Nat × α))) : Option α := match am_al o L with
  | some l => am_al k l
  | none => none
def tb_fl (o k : Nat) : Option (Nat × Nat × Nat) := match am_al2 o k tb_flL with
  | some (ci, j, t, _) => some (ci, j, t)
  | none => none
def tb_ci (o k : Nat) : Option Int := match am_al2 o k tb_ciL with
  | some (v, _) => some v
  | none => none
def tb_cL (o k : Nat) : Option Int := match am_al2 o k tb_clL with
  | some (v, _) => some v
  | none => none
def tb_cd (o k : Nat) : Option UInt64 := match am_al2 o k tb_cdL with
  | some (v, _) => some v
  | none => none
def tb_mac (o k : Nat) : Option Nat := match am_al2 o k tb_macL with
  | some (v, _) => some v
  | none => none
/-- a call: the method, how many values it takes, whether the link is a nest mate's -/
def tb_call (o k : Nat) : Option (Nat × Nat × Bool) := match am_al2 o k tb_callL with
  | some (y, n, b, _) => some (y, n, b)
  | none => none
def tb_thr (o k : Nat) : Option Nat := match am_al2 o k tb_thrL with
  | some (v, _) => some v
  | none => none
def tb_thc (o k : Nat) : Option Nat := am_al2 o k tb_thcL
def tb_str (o k : Nat) : Option String := am_al2 o k tb_strL
abbrev tb_T : Type := MethodName × ByteArray × Nat × Option FieldType × Nat × Bool × Nat
def tb_m (y : Nat) : Option tb_T := am_al y tb_mL
def tb_code (y : Nat) : Nat → Option (Instr × Nat) := match am_al y tb_codeL with
  | some f => f
  | none => fun _ => none
/-- 1 where a method catches (the law's wrappers): it may have made an exception when it returns -/
def tb_cost (y : Nat) : Nat := match am_al y tb_hnL with
  | some _ => 1
  | none => 0
def am_hfind (pc E : Nat) : List (Nat × Nat × Nat × Nat × Nat × Nat) → Option (Nat × Nat)
  | [] => none
  | (s, e, E', _, i, np) :: r => match Nat.ble s pc, Nat.blt pc e, Nat.beq E E' with
    | true, true, true => some (i, np)
    | _, _, _ => am_hfind pc E r
def tb_hn (y pc E : Nat) : Option (Nat × Nat) := match am_al y tb_hnL with
  | some l => am_hfind pc E l
  | none => none
/-- one instruction that goes on at one place -/
def am_s1 (o nL : Nat) (scr : Option (Int × (Int → Int))) (ins : Instr) (pc : Nat) (lv : am_L) (st : List am_V) (M : am_M) : am_R := match ins with
  | .iconst n => some ([], pc + 1, lv, .inl n :: st, M)
  | .bipush n => some ([-128 ≤ n ∧ n ≤ 127], pc + 2, lv, .inl n :: st, M)
  | .sipush n => some ([-32768 ≤ n ∧ n ≤ 32767], pc + 3, lv, .inl n :: st, M)
  | .lconst n => some ([], pc + 1, lv, .inr (.inr (.inl ((n.val : Nat) : Int))) :: st, M)
  | .dconst n => some ([], pc + 1, lv, .inr (.inr (.inr (if n.val = 0 then FP.dconst0 else FP.dconst1))) :: st, M)
  | .aconst_null => some ([], pc + 1, lv, .inr (.inl none) :: st, M)
  | .ldc k => (tb_ci o k).map (fun v => ([], pc + 2, lv, .inl v :: st, M))
  | .ldc2_w k => match tb_cL o k with
    | some v => some ([], pc + 3, lv, .inr (.inr (.inl v)) :: st, M)
    | none => (tb_cd o k).map (fun v => ([], pc + 3, lv, .inr (.inr (.inr v)) :: st, M))
  | .iload i => (am_ldi i lv).map (fun x => ([], pc + 2, lv, .inl x :: st, M))
  | .iload_n i => (am_ldi i.val lv).map (fun x => ([], pc + 1, lv, .inl x :: st, M))
  | .aload i => (am_lda i lv).map (fun x => ([], pc + 2, lv, .inr (.inl x) :: st, M))
  | .aload_n i => (am_lda i.val lv).map (fun x => ([], pc + 1, lv, .inr (.inl x) :: st, M))
  | .lload i => (am_ldl i lv).map (fun x => ([], pc + 2, lv, .inr (.inr (.inl x)) :: st, M))
  | .lload_n i => (am_ldl i.val lv).map (fun x => ([], pc + 1, lv, .inr (.inr (.inl x)) :: st, M))
  | .dload i => (am_ldd i lv).map (fun x => ([], pc + 2, lv, .inr (.inr (.inr x)) :: st, M))
  | .dload_n i => (am_ldd i.val lv).map (fun x => ([], pc + 1, lv, .inr (.inr (.inr x)) :: st, M))
  | .istore i => am_sti nL i (pc + 2) lv st M
  | .istore_n i => am_sti nL i.val (pc + 1) lv st M
  | .astore i => am_sta nL i (pc + 2) lv st M
  | .astore_n i => am_sta nL i.val (pc + 1) lv st M
  | .lstore i => am_stl nL i (pc + 2) lv st M
  | .lstore_n i => am_stl nL i.val (pc + 1) lv st M
  | .dstore i => am_std nL i (pc + 2) lv st M
  | .dstore_n i => am_std nL i.val (pc + 1) lv st M
  | .iinc i n => match am_ldi i lv with
    | some x => (am_st nL i (.inl (x + n)) lv).map (fun lv' => ([], pc + 3, lv', st, M))
    | none => none
  | .iadd => match st with
    | .inl y :: .inl x :: r => some ([], pc + 1, lv, .inl (x + y) :: r, M)
    | _ => none
  | .isub => match st with
    | .inl y :: .inl x :: r => some ([], pc + 1, lv, .inl (x - y) :: r, M)
    | _ => none
  | .imul => match st with
    | .inl y :: .inl x :: r => some ([], pc + 1, lv, .inl (x * y) :: r, M)
    | _ => none
  | .ineg => match st with
    | .inl x :: r => some ([], pc + 1, lv, .inl (-x) :: r, M)
    | _ => none
  | .idiv => match st with
    | .inl y :: .inl x :: r => some ([am_rg x ∧ am_rg y ∧ 0 < y], pc + 1, lv, .inl (x.tdiv y) :: r, M)
    | _ => none
  | .irem => match st with
    | .inl y :: .inl x :: r => some ([am_rg x ∧ am_rg y ∧ 0 < y], pc + 1, lv, .inl (x.tmod y) :: r, M)
    | _ => none
  | .iand => match st with
    | .inl y :: .inl x :: r => some ([], pc + 1, lv, .inl ((Int32.ofInt x &&& Int32.ofInt y).toInt) :: r, M)
    | _ => none
  | .ior => match st with
    | .inl y :: .inl x :: r => some ([], pc + 1, lv, .inl ((Int32.ofInt x ||| Int32.ofInt y).toInt) :: r, M)
    | _ => none
  | .ixor => match st with
    | .inl y :: .inl x :: r => some ([], pc + 1, lv, .inl ((Int32.ofInt x ^^^ Int32.ofInt y).toInt) :: r, M)
    | _ => none
  | .i2l => match st with
    | .inl x :: r => some ([am_rg x], pc + 1, lv, .inr (.inr (.inl x)) :: r, M)
    | _ => none
  | .l2i => match st with
    | .inr (.inr (.inl x)) :: r => some ([], pc + 1, lv, .inl x :: r, M)
    | _ => none
  | .i2d => match st with
    | .inl x :: r => some ([], pc + 1, lv, .inr (.inr (.inr (FP.i2d (Int32.ofInt x)))) :: r, M)
    | _ => none
  | .d2l => match st with
    | .inr (.inr (.inr x)) :: r => some ([], pc + 1, lv, .inr (.inr (.inl (FP.d2l x).toInt)) :: r, M)
    | _ => none
  | .ladd => match st with
    | .inr (.inr (.inl y)) :: .inr (.inr (.inl x)) :: r => some ([], pc + 1, lv, .inr (.inr (.inl (x + y))) :: r, M)
    | _ => none
  | .lsub => match st with
    | .inr (.inr (.inl y)) :: .inr (.inr (.inl x)) :: r => some ([], pc + 1, lv, .inr (.inr (.inl (x - y))) :: r, M)
    | _ => none
  | .lmul => match st with
    | .inr (.inr (.inl y)) :: .inr (.inr (.inl x)) :: r => some ([], pc + 1, lv, .inr (.inr (.inl (x * y))) :: r, M)
    | _ => none
  | .ldiv => match st with
    | .inr (.inr (.inl y)) :: .inr (.inr (.inl x)) :: r => some ([am_rl x ∧ am_rl y ∧ 0 < y], pc + 1, lv, .inr (.inr (.inl (x.tdiv y))) :: r, M)
    | _ => none
  | .lshl => match st with
    | .inl y :: .inr (.inr (.inl x)) :: r => some ([], pc + 1, lv, .inr (.inr (.inl (Int64.ofInt x <<< ((Int32.ofInt y).toInt64 &&& 63)).toInt)) :: r, M)
    | _ => none
  | .lcmp => match st with
    | .inr (.inr (.inl y)) :: .inr (.inr (.inl x)) :: r => some ([(am_rl x ∧ am_rl y) ∨ x = y], pc + 1, lv, .inl (am_lci x y) :: r, M)
    | _ => none
  | .ddiv => match st with
    | .inr (.inr (.inr y)) :: .inr (.inr (.inr x)) :: r => some ([vf_n64 (FP.ddiv x y)], pc + 1, lv, .inr (.inr (.inr (FP.ddiv x y))) :: r, M)
    | _ => none
  | .dmul => match st with
    | .inr (.inr (.inr y)) :: .inr (.inr (.inr x)) :: r => some ([vf_n64 (FP.dmul x y)], pc + 1, lv, .inr (.inr (.inr (FP.dmul x y))) :: r, M)
    | _ => none
  | .dsub => match st with
    | .inr (.inr (.inr y)) :: .inr (.inr (.inr x)) :: r => some ([vf_n64 (FP.dsub x y)], pc + 1, lv, .inr (.inr (.inr (FP.dsub x y))) :: r, M)
    | _ => none
  | .dcmp op => match st with
    | .inr (.inr (.inr y)) :: .inr (.inr (.inr x)) :: r => some ([], pc + 1, lv, .inl (Op.cmpValue (FP.dcmp x y) op).toInt :: r, M)
    | _ => none
  | .dup => match st with
    | .inl x :: r => some ([], pc + 1, lv, .inl x :: .inl x :: r, M)
    | .inr (.inl x) :: r => some ([], pc + 1, lv, .inr (.inl x) :: .inr (.inl x) :: r, M)
    | _ => none
  | .dup2 => match st with
    | .inl y :: .inr (.inl x) :: r => some ([], pc + 1, lv, .inl y :: .inr (.inl x) :: .inl y :: .inr (.inl x) :: r, M)
    | _ => none
  | .pop => match st with
    | .inl _ :: r => some ([], pc + 1, lv, r, M)
    | .inr (.inl _) :: r => some ([], pc + 1, lv, r, M)
    | _ => none
  | .goto off => (am_tg pc off).map (fun t => ([], t, lv, st, M))
  | .getfield k => match st with
    | .inr (.inl (some a)) :: r => match tb_fl o k, tb_lay[a]? with
      | some (ci, j, _), some (.inr (.inr (ci', fk))) => match Nat.beq ci ci', fk[j]? with
        | true, some none => some ([], pc + 3, lv, .inl (M a (j : Nat)) :: r, M)
        | true, some (some b) => some ([], pc + 3, lv, .inr (.inl (some b)) :: r, M)
        | _, _ => none
      | _, _ => none
    | _ => none
  | .putfield k => match st with
    | .inl x :: .inr (.inl (some a)) :: r => match tb_fl o k, tb_lay[a]? with
      | some (ci, j, t), some (.inr (.inr (ci', fk))) => match Nat.beq ci ci', fk[j]?, t with
        | true, some none, 0 => some ([], pc + 3, lv, r, am_up M a (j : Nat) x)
        | true, some none, 1 => some ([x = 0 ∨ x = 1], pc + 3, lv, r, am_up M a (j : Nat) x)
        | _, _, _ => none
      | _, _ => none
    | _ => none
  | .iaload => match st with
    | .inl i :: .inr (.inl (some a)) :: r => match tb_lay[a]?, scr with
      | some (.inl (.inl n)), _ => some ([0 ≤ i ∧ i < (n : Nat)], pc + 1, lv, .inl (M a i) :: r, M)
      | none, some (L, xs) => match Nat.beq a 999 with
        | true => some ([0 ≤ i ∧ i < L], pc + 1, lv, .inl (xs i) :: r, M)
        | false => none
      | _, _ => none
    | _ => none
  | .laload => match st with
    | .inl i :: .inr (.inl (some a)) :: r => match tb_lay[a]? with
      | some (.inl (.inr n)) => some ([0 ≤ i ∧ i < (n : Nat)], pc + 1, lv, .inr (.inr (.inl (M a i))) :: r, M)
      | _ => none
    | _ => none
  | .iastore => match st with
    | .inl x :: .inl i :: .inr (.inl (some a)) :: r => match tb_lay[a]? with
      | some (.inl (.inl n)) => some ([0 ≤ i ∧ i < (n : Nat)], pc + 1, lv, r, am_up M a i x)
      | _ => none
    | _ => none
  | .lastore => match st with
    | .inr (.inr (.inl x)) :: .inl i :: .inr (.inl (some a)) :: r => match tb_lay[a]? with
      | some (.inl (.inr n)) => some ([0 ≤ i ∧ i < (n : Nat)], pc + 1, lv, r, am_up M a i x)
      | _ => none
    | _ => none
  | .arraylength => match st with
    | .inr (.inl (some a)) :: r => match tb_lay[a]?, scr with
      | some (.inr (.inl rs)), _ => some ([], pc + 1, lv, .inl (rs.length : Nat) :: r, M)
      | none, some (L, _) => match Nat.beq a 999 with
        | true => some ([], pc + 1, lv, .inl L :: r, M)
        | false => none
      | _, _ => none
    | _ => none
  | .invokestatic k => match tb_mac o k, st with
    | some 0, .inl y :: .inl x :: r => some ([am_rg x ∧ am_rg y ∧ am_cs r ≤ 8], pc + 3, lv, .inl (if x < y then y else x) :: r, M)
    | some 1, .inl y :: .inl x :: r => some ([am_rg x ∧ am_rg y ∧ am_cs r ≤ 8], pc + 3, lv, .inl (if y < x then y else x) :: r, M)
    | some 2, .inl x :: r => some ([am_rg x ∧ am_cs r ≤ 8], pc + 3, lv, .inl (if 0 ≤ x then x else 0 - x) :: r, M)
    | some 3, .inl n :: .inl dp :: .inr (.inl (some a1)) :: .inl sp :: .inr (.inl (some a0)) :: r => match tb_lay[a0]?, tb_lay[a1]? with
      | some (.inl (.inl n0)), some (.inl (.inl n1)) => some ([sp = 0 ∧ dp = 0 ∧ 0 ≤ n ∧ n ≤ (n0 : Nat) ∧ n ≤ (n1 : Nat) ∧ am_cs r ≤ 8], pc + 3, lv, r, am_cp M a0 a1 n)
      | _, _ => none
    | some 4, .inr (.inr (.inr x)) :: r => some ([am_cs r ≤ 8], pc + 3, lv, .inr (.inr (.inl x.toInt64.toInt)) :: r, M)
    | _, _ => none
  | _ => none
def am_cmp (c : Jvm.ClassFile.Cond) (x y : Int) : Prop := match c with
  | .eq => x = y
  | .ne => ¬ x = y
  | .lt => x < y
  | .ge => y ≤ x
  | .gt => y < x
  | .le => x ≤ y
def am_br (ins : Instr) (pc : Nat) (st : List am_V) : Option (List Prop × Prop × Nat × List am_V) := match ins with
  | .if_icmp c off => match st with
    | .inl y :: .inl x :: r => (am_tg pc off).map (fun t => ([am_rg x, am_rg y], am_cmp c x y, t, r))
    | _ => none
  | .ifCond c off => match st with
    | .inl x :: r => (am_tg pc off).map (fun t => ([am_rg x], am_cmp c x 0, t, r))
    | _ => none
  | .ifnull off => match st with
    | .inr (.inl x) :: r => (am_tg pc off).map (fun t => ([], x = none, t, r))
    | _ => none
  | .ifnonnull off => match st with
    | .inr (.inl x) :: r => (am_tg pc off).map (fun t => ([], ¬ x = none, t, r))
    | _ => none
  | _ => none
/-- all of a list -/
def am_all : List Prop → Prop
  | [] => True
  | p :: r => p ∧ am_all r
def am_push (r : Option am_V) (st : List am_V) : List am_V := match r with
  | some v => v :: st
  | none => st
/-- the receiver of a call is an object of the method's own class -/
def am_recv (y : Nat) (as : List am_V) : Prop := match tb_m y, as with
  | some (_, _, _, _, _, true, _), _ => True
  | some (_, _, _, _, o, false, _), .inr (.inl (some a)) :: _ => ∃ fk, tb_lay[a]? = some (.inr (.inr (o, fk)))
  | _, _ => False
def am_iv (y k : Nat) (ins : Instr) : Prop := match tb_m y with
  | some (_, _, _, _, _, true, _) => ins = .invokestatic k
  | some (_, _, _, _, _, false, _) => ins = .invokevirtual k
  | none => False
abbrev am_CCt : Type := Nat → List am_V → am_M → am_Q → am_X → Prop
/-- a method's own data: its code, its class, its locals, its answer's type, its handlers -/
abbrev am_D : Type := (Nat → Option (Instr × Nat)) × Nat × Nat × Option FieldType × (Nat → Nat → Option (Nat × Nat))
/-- one step from a place, into X, or to the end in Q or QX -/
def am_F (CC : am_CCt) (d : am_D) (dep cap : Nat) (scr : Option (Int × (Int → Int))) (Q : am_Q) (QX : am_X) (X : am_C → Prop) (c : am_C) : Prop :=
  ∃ (lv : am_L) (ins : Instr) (len : Nat), (∀ q ∈ lv, q ∈ c.2.2.1) ∧ d.1 c.2.1 = some (ins, len) ∧
  ((∃ P pc' lv' st' M', am_s1 d.2.1 d.2.2.1 scr ins c.2.1 lv c.2.2.2.1 c.2.2.2.2 = some (P, pc', lv', st', M') ∧ am_all P ∧ X (c.1, pc', lv', st', M'))
  ∨ (∃ P b t st', am_br ins c.2.1 c.2.2.2.1 = some (P, b, t, st') ∧ am_all P ∧ (b → X (c.1, t, lv, st', c.2.2.2.2)) ∧ (¬ b → X (c.1, c.2.1 + 3, lv, st', c.2.2.2.2)))
  ∨ (∃ dflt lo hi offs x st' t, ins = .tableswitch dflt lo hi offs ∧ c.2.2.2.1 = .inl x :: st' ∧ am_rg x ∧ am_tg c.2.1 dflt = some t ∧ ((x < lo ∨ hi < x) → X (c.1, t, lv, st', c.2.2.2.2)) ∧ ∀ j : Nat, x = lo + (j : Int) → x ≤ hi → ∃ off t', offs[j]? = some off ∧ am_tg c.2.1 off = some t' ∧ X (c.1, t', lv, st', c.2.2.2.2))
  ∨ (∃ dflt ps x st', ins = .lookupswitch dflt ps ∧ (ps.toList.zip (ps.toList.drop 1)).all (fun (a, next) => a.1 < next.1) = true ∧ c.2.2.2.1 = .inl x :: st' ∧ am_rg x ∧ ∃ t, am_tg c.2.1 (Op.lookupswitch.offset ps.toList dflt x) = some t ∧ X (c.1, t, lv, st', c.2.2.2.2))
  ∨ (∃ i a rs st', ins = .aaload ∧ c.2.2.2.1 = .inl i :: .inr (.inl (some a)) :: st' ∧ tb_lay[a]? = some (.inr (.inl rs)) ∧ (0 ≤ i ∧ i < (rs.length : Nat)) ∧ ∀ (j r : Nat), rs[j]? = some r → i = (j : Int) → X (c.1, c.2.1 + 1, lv, .inr (.inl (some r)) :: st', c.2.2.2.2))
  ∨ (∃ k y n b Qc QXc, am_iv y k ins ∧ tb_call d.2.1 k = some (y, n, b) ∧ (c.2.2.2.1.take n).length = n ∧ am_recv y (c.2.2.2.1.take n).reverse ∧ am_cs (c.2.2.2.1.drop n) ≤ 8 ∧ c.1 + tb_cost y ≤ cap ∧ CC y (c.2.2.2.1.take n).reverse c.2.2.2.2 Qc QXc ∧
      (∀ r M', Qc r M' → X (c.1 + tb_cost y, c.2.1 + 3, lv, am_push r (c.2.2.2.1.drop n), M')) ∧
      (∀ E M', QXc E M' → match d.2.2.2.2 c.2.1 E with
        | none => QX E M'
        | some (i, np) => c.1 + 1 ≤ cap ∧ X (c.1 + 1, np, am_kl i lv, [], M')))
  ∨ (∃ x, ins = .ireturn ∧ c.2.2.2.1 = [.inl x] ∧ (d.2.2.2.1 = some .int ∨ (d.2.2.2.1 = some .boolean ∧ (x = 0 ∨ x = 1))) ∧ Q (some (.inl x)) c.2.2.2.2)
  ∨ (∃ x, ins = .lreturn ∧ c.2.2.2.1 = [.inr (.inr (.inl x))] ∧ d.2.2.2.1 = some .long ∧ Q (some (.inr (.inr (.inl x)))) c.2.2.2.2)
  ∨ (∃ x, ins = .dreturn ∧ c.2.2.2.1 = [.inr (.inr (.inr x))] ∧ d.2.2.2.1 = some .double ∧ Q (some (.inr (.inr (.inr x)))) c.2.2.2.2)
  ∨ (∃ x, ins = .areturn ∧ c.2.2.2.1 = [.inr (.inl x)] ∧ (∃ C, d.2.2.2.1 = some (.object C)) ∧ Q (some (.inr (.inl x))) c.2.2.2.2)
  ∨ (ins = .return_ ∧ c.2.2.2.1 = [] ∧ d.2.2.2.1 = none ∧ Q none c.2.2.2.2)
  ∨ (∃ ik is ic E, ins = .new ik ∧ 5 ≤ dep ∧ tb_thr d.2.1 ik = some E ∧ c.2.2.2.1 = [] ∧ d.1 (c.2.1 + 3) = some (.dup, 1) ∧ (tb_str d.2.1 is).isSome = true ∧ tb_thc d.2.1 ic = some E ∧
      ((d.1 (c.2.1 + 4) = some (.ldc is, 2) ∧ d.1 (c.2.1 + 6) = some (.invokespecial ic, 3) ∧ d.1 (c.2.1 + 9) = some (.athrow, 1)) ∨ (d.1 (c.2.1 + 4) = some (.ldc_w is, 3) ∧ d.1 (c.2.1 + 7) = some (.invokespecial ic, 3) ∧ d.1 (c.2.1 + 10) = some (.athrow, 1))) ∧ QX E c.2.2.2.2))
/-- from c on the method comes to an end in Q or QX: the least such set of places -/
def am_W (CC : am_CCt) (d : am_D) (dep cap : Nat) (scr : Option (Int × (Int → Int))) (Q : am_Q) (QX : am_X) (c : am_C) : Prop :=
  ∀ X : am_C → Prop, (∀ c', am_F CC d dep cap scr Q QX X c' → X c') → X c
def am_args : Nat → List am_V → am_L
  | _, [] => []
  | i, v :: vs => (i, v) :: am_args (match am_cat v with | 2 => i + 2 | _ => i + 1) vs
def am_dat (y : Nat) : am_D := match tb_m y with
  | some (_, _, nL, ret, o, _, _) => (tb_code y, o, nL, ret, tb_hn y)
  | none => (fun _ => none, 0, 0, none, fun _ _ => none)
/-- a method that catches throws nothing itself -/
def tb_thw (y : Nat) : Prop := tb_cost y = 0 ∧ y ≠ 40
def am_qx (y : Nat) (QX : am_X) : am_X := fun E M => tb_thw y ∧ QX E M
/-- a call of y, d deep at most, comes to its end in Q or QX -/
def am_CC : Nat → am_CCt
  | 0 => fun _ _ _ _ _ => False
  | n + 1 => fun y as M Q QX => am_cs as ≤ (am_dat y).2.2.1 ∧ am_W (am_CC n) (am_dat y) n (tb_cost y) none Q (am_qx y QX) (0, 0, am_args 0 as, [], M)
end
section
theorem am_F_mono {CC CC' : am_CCt} {d : am_D} {dep dep' cap : Nat} {scr : Option (Int × (Int → Int))} {Q Q' : am_Q} {QX QX' : am_X} {X Y : am_C → Prop} {c : am_C} (hdep : dep ≤ dep') (hC : ∀ y as M Q QX, CC y as M Q QX → CC' y as M Q QX) (hQ : ∀ r M, Q r M → Q' r M) (hQX : ∀ E M, QX E M → QX' E M) (hX : ∀ c, X c → Y c)
    (h : am_F CC d dep cap scr Q QX X c) : am_F CC' d dep' cap scr Q' QX' Y c := by
  obtain ⟨lv, ins, len, hsub, hcode, h⟩ := h
  refine ⟨lv, ins, len, hsub, hcode, ?_⟩
  rcases h with h | h | h | h | h | h | h | h | h | h | h | h
  · obtain ⟨P, pc', lv', st', M', h1, h2, h3⟩ := h
    exact Or.inl ⟨P, pc', lv', st', M', h1, h2, hX _ h3⟩
  · obtain ⟨P, b, t, st', h1, h2, h3, h4⟩ := h
    exact Or.inr (Or.inl ⟨P, b, t, st', h1, h2, fun hb => hX _ (h3 hb), fun hb => hX _ (h4 hb)⟩)
  · obtain ⟨dflt, lo, hi, offs, x, st', t, h1, h2, h3, h4, h5, h6⟩ := h
    refine Or.inr (Or.inr (Or.inl ⟨dflt, lo, hi, offs, x, st', t, h1, h2, h3, h4, fun q => hX _ (h5 q), fun j a b => ?_⟩))
    obtain ⟨off, t', g1, g2, g3⟩ := h6 j a b
    exact ⟨off, t', g1, g2, hX _ g3⟩
  · obtain ⟨dflt, ps, x, st', h1, h2, h3, h4, t, h5, h6⟩ := h
    exact Or.inr (Or.inr (Or.inr (Or.inl ⟨dflt, ps, x, st', h1, h2, h3, h4, t, h5, hX _ h6⟩)))
  · obtain ⟨i, a, rs, st', h1, h2, h3, h4, h5⟩ := h
    exact Or.inr (Or.inr (Or.inr (Or.inr (Or.inl ⟨i, a, rs, st', h1, h2, h3, h4, fun j r e1 e2 => hX _ (h5 j r e1 e2)⟩))))
  · obtain ⟨k, y, n, b, Qc, QXc, h1, h2, h3, h4, h5, h6, h7, h8, h9⟩ := h
    refine Or.inr (Or.inr (Or.inr (Or.inr (Or.inr (Or.inl ⟨k, y, n, b, Qc, QXc, h1, h2, h3, h4, h5, h6, hC _ _ _ _ _ h7, fun r M' q => hX _ (h8 r M' q), fun E M' q => ?_⟩)))))
    have g := h9 E M' q
    cases hh : d.2.2.2.2 c.2.1 E with
    | none => rw [hh] at g; exact hQX _ _ g
    | some z => rw [hh] at g; exact ⟨g.1, hX _ g.2⟩
  · obtain ⟨x, h1, h2, h3, h4⟩ := h
    exact Or.inr (Or.inr (Or.inr (Or.inr (Or.inr (Or.inr (Or.inl ⟨x, h1, h2, h3, hQ _ _ h4⟩))))))
  · obtain ⟨x, h1, h2, h3, h4⟩ := h
    exact Or.inr (Or.inr (Or.inr (Or.inr (Or.inr (Or.inr (Or.inr (Or.inl ⟨x, h1, h2, h3, hQ _ _ h4⟩)))))))
  · obtain ⟨x, h1, h2, h3, h4⟩ := h
    exact Or.inr (Or.inr (Or.inr (Or.inr (Or.inr (Or.inr (Or.inr (Or.inr (Or.inl ⟨x, h1, h2, h3, hQ _ _ h4⟩))))))))
  · obtain ⟨x, h1, h2, h3, h4⟩ := h
    exact Or.inr (Or.inr (Or.inr (Or.inr (Or.inr (Or.inr (Or.inr (Or.inr (Or.inr (Or.inl ⟨x, h1, h2, h3, hQ _ _ h4⟩)))))))))
  · obtain ⟨h1, h2, h3, h4⟩ := h
    exact Or.inr (Or.inr (Or.inr (Or.inr (Or.inr (Or.inr (Or.inr (Or.inr (Or.inr (Or.inr (Or.inl ⟨h1, h2, h3, hQ _ _ h4⟩))))))))))
  · obtain ⟨ik, is, ic, E, h1, h0, h2, h3, h4, h5, h6, h7, h8⟩ := h
    exact Or.inr (Or.inr (Or.inr (Or.inr (Or.inr (Or.inr (Or.inr (Or.inr (Or.inr (Or.inr (Or.inr ⟨ik, is, ic, E, h1, Nat.le_trans h0 hdep, h2, h3, h4, h5, h6, h7, hQX _ _ h8⟩))))))))))
theorem am_W_in {CC : am_CCt} {d : am_D} {dep cap : Nat} {scr : Option (Int × (Int → Int))} {Q : am_Q} {QX : am_X} {c : am_C} (h : am_F CC d dep cap scr Q QX (am_W CC d dep cap scr Q QX) c) : am_W CC d dep cap scr Q QX c := by
  intro X hX
  exact hX _ (am_F_mono (Nat.le_refl _) (fun _ _ _ _ _ h => h) (fun _ _ h => h) (fun _ _ h => h) (fun c' hc => hc X hX) h)
theorem am_W_mono' {CC CC' : am_CCt} {d : am_D} {dep dep' cap : Nat} {scr : Option (Int × (Int → Int))} {Q Q' : am_Q} {QX QX' : am_X} {c : am_C} (hdep : dep ≤ dep') (hC : ∀ y as M Q QX, CC y as M Q QX → CC' y as M Q QX) (hQ : ∀ r M, Q r M → Q' r M) (hQX : ∀ E M, QX E M → QX' E M) (h : am_W CC d dep cap scr Q QX c) : am_W CC' d dep' cap scr Q' QX' c :=
  h _ (fun _ hc => am_W_in (am_F_mono hdep hC hQ hQX (fun _ h => h) hc))
theorem am_W_mono {CC CC' : am_CCt} {d : am_D} {dep cap : Nat} {scr : Option (Int × (Int → Int))} {Q Q' : am_Q} {QX QX' : am_X} {c : am_C} (hC : ∀ y as M Q QX, CC y as M Q QX → CC' y as M Q QX) (hQ : ∀ r M, Q r M → Q' r M) (hQX : ∀ E M, QX E M → QX' E M) (h : am_W CC d dep cap scr Q QX c) : am_W CC' d dep cap scr Q' QX' c := am_W_mono' (Nat.le_refl _) hC hQ hQX h
/-- fewer locals known -/
theorem am_W_sub {CC : am_CCt} {d : am_D} {dep cap : Nat} {scr : Option (Int × (Int → Int))} {Q : am_Q} {QX : am_X} {b pc : Nat} {lv lv' : am_L} {st : List am_V} {M : am_M} (ks : List Nat) (hs : ks.filterMap (fun k => lv[k]?) = lv') (h : am_W CC d dep cap scr Q QX (b, pc, lv', st, M)) : am_W CC d dep cap scr Q QX (b, pc, lv, st, M) := by
  intro X hX
  refine hX _ ?_
  have key : ∀ c : am_C, am_W CC d dep cap scr Q QX c → am_F CC d dep cap scr Q QX X c := fun c hc => by
    have h1 : am_F CC d dep cap scr Q QX (am_W CC d dep cap scr Q QX) c := hc (fun c => am_F CC d dep cap scr Q QX (am_W CC d dep cap scr Q QX) c) (fun c h => am_F_mono (Nat.le_refl _) (fun _ _ _ _ _ h => h) (fun _ _ h => h) (fun _ _ h => h) (fun _ h => am_W_in h) h)
    exact am_F_mono (Nat.le_refl _) (fun _ _ _ _ _ h => h) (fun _ _ h => h) (fun _ _ h => h) (fun c' hc' => hc' X hX) h1
  obtain ⟨lv2, ins, len, hsub, h1, h2⟩ := key _ h
  refine ⟨lv2, ins, len, fun q hq => ?_, h1, h2⟩
  have h3 := hsub q hq
  change q ∈ lv' at h3
  rw [← hs] at h3
  obtain ⟨k, -, hk⟩ := List.mem_filterMap.mp h3
  exact List.mem_of_getElem? hk
theorem am_qx_mono {y : Nat} {QX QX' : am_X} (h : ∀ E M, QX E M → QX' E M) : ∀ E M, am_qx y QX E M → am_qx y QX' E M := fun E M q => ⟨q.1, h E M q.2⟩
theorem am_CC_mono : ∀ (n : Nat) {y : Nat} {as : List am_V} {M : am_M} {Q Q' : am_Q} {QX QX' : am_X}, (∀ r M, Q r M → Q' r M) → (∀ E M, QX E M → QX' E M) → am_CC n y as M Q QX → am_CC n y as M Q' QX'
  | 0, _, _, _, _, _, _, _, _, _, h => h
  | _ + 1, _, _, _, _, _, _, _, hQ, hX, h => ⟨h.1, am_W_mono (fun _ _ _ _ _ h => h) hQ (am_qx_mono hX) h.2⟩
/-- of a method that catches it doesn't matter what is said of its throwing -/
theorem am_CC_w : ∀ (n : Nat) {y : Nat} {as : List am_V} {M : am_M} {Q : am_Q} {QX QX' : am_X}, ¬ tb_thw y → am_CC n y as M Q QX → am_CC n y as M Q QX'
  | 0, _, _, _, _, _, _, _, h => h
  | _ + 1, _, _, _, _, _, _, hy, h => ⟨h.1, am_W_mono (fun _ _ _ _ _ h => h) (fun _ _ h => h) (fun _ _ q => absurd q.1 hy) h.2⟩
theorem am_CC_s : ∀ (n : Nat) {y : Nat} {as : List am_V} {M : am_M} {Q : am_Q} {QX : am_X}, am_CC n y as M Q QX → am_CC (n + 1) y as M Q QX
  | 0, _, _, _, _, _, h => h.elim
  | n + 1, _, _, _, _, _, h => ⟨h.1, am_W_mono' (Nat.le_succ n) (fun _ _ _ _ _ h => am_CC_s n h) (fun _ _ h => h) (fun _ _ h => h) h.2⟩
theorem am_CC_le {n m : Nat} (hnm : n ≤ m) {y : Nat} {as : List am_V} {M : am_M} {Q : am_Q} {QX : am_X} (h : am_CC n y as M Q QX) : am_CC m y as M Q QX := by
  induction hnm with
  | refl => exact h
  | step _ ih => exact am_CC_s _ ih
theorem am_F_or {CC : am_CCt} {d : am_D} {dep cap : Nat} {scr : Option (Int × (Int → Int))} {Q Q' : am_Q} {QX QX' : am_X} {X Y : am_C → Prop} {c : am_C}
    (hm : ∀ y as M Q Q' QX QX', (∀ r M, Q r M → Q' r M) → (∀ E M, QX E M → QX' E M) → CC y as M Q QX → CC y as M Q' QX')
    (ho : ∀ y as M Q Q' QX QX', CC y as M (fun r M => Q r M ∨ Q' r M) (fun E M => QX E M ∨ QX' E M) → CC y as M Q QX ∨ CC y as M Q' QX')
    (h : am_F CC d dep cap scr (fun r M => Q r M ∨ Q' r M) (fun E M => QX E M ∨ QX' E M) (fun c => X c ∨ Y c) c) : am_F CC d dep cap scr Q QX X c ∨ am_F CC d dep cap scr Q' QX' Y c := by
  obtain ⟨lv, ins, len, hsub, hcode, h⟩ := h
  have goL := fun z => (Or.inl ⟨lv, ins, len, hsub, hcode, z⟩ : am_F CC d dep cap scr Q QX X c ∨ am_F CC d dep cap scr Q' QX' Y c)
  have goR := fun z => (Or.inr ⟨lv, ins, len, hsub, hcode, z⟩ : am_F CC d dep cap scr Q QX X c ∨ am_F CC d dep cap scr Q' QX' Y c)
  rcases h with h | h | h | h | h | h | h | h | h | h | h | h
  · obtain ⟨P, pc', lv', st', M', h1, h2, h3 | h3⟩ := h
    · exact goL (Or.inl ⟨P, pc', lv', st', M', h1, h2, h3⟩)
    · exact goR (Or.inl ⟨P, pc', lv', st', M', h1, h2, h3⟩)
  · obtain ⟨P, b, t, st', h1, h2, h3, h4⟩ := h
    by_cases hb : b
    · rcases h3 hb with h3 | h3
      · exact goL (Or.inr (Or.inl ⟨P, b, t, st', h1, h2, fun _ => h3, fun q => absurd hb q⟩))
      · exact goR (Or.inr (Or.inl ⟨P, b, t, st', h1, h2, fun _ => h3, fun q => absurd hb q⟩))
    · rcases h4 hb with h3 | h3
      · exact goL (Or.inr (Or.inl ⟨P, b, t, st', h1, h2, fun q => absurd q hb, fun _ => h3⟩))
      · exact goR (Or.inr (Or.inl ⟨P, b, t, st', h1, h2, fun q => absurd q hb, fun _ => h3⟩))
  · obtain ⟨dflt, lo, hi, offs, x, st', t, h1, h2, h3, h4, h5, h6⟩ := h
    by_cases hb : x < lo ∨ hi < x
    · have no : ∀ j : Nat, x = lo + (j : Int) → ¬ x ≤ hi := fun j e q => by rcases hb with hb | hb <;> omega
      rcases h5 hb with g | g
      · exact goL (Or.inr (Or.inr (Or.inl ⟨dflt, lo, hi, offs, x, st', t, h1, h2, h3, h4, fun _ => g, fun j a b => absurd b (no j a)⟩)))
      · exact goR (Or.inr (Or.inr (Or.inl ⟨dflt, lo, hi, offs, x, st', t, h1, h2, h3, h4, fun _ => g, fun j a b => absurd b (no j a)⟩)))
    · obtain ⟨off, t', g1, g2, g3⟩ := h6 (x - lo).toNat (by omega) (by omega)
      have one : ∀ j : Nat, x = lo + (j : Int) → j = (x - lo).toNat := fun j e => by omega
      rcases g3 with g | g
      · exact goL (Or.inr (Or.inr (Or.inl ⟨dflt, lo, hi, offs, x, st', t, h1, h2, h3, h4, fun q => absurd q hb, fun j a b => by rw [one j a]; exact ⟨off, t', g1, g2, g⟩⟩)))
      · exact goR (Or.inr (Or.inr (Or.inl ⟨dflt, lo, hi, offs, x, st', t, h1, h2, h3, h4, fun q => absurd q hb, fun j a b => by rw [one j a]; exact ⟨off, t', g1, g2, g⟩⟩)))
  · obtain ⟨dflt, ps, x, st', h1, h2, h3, h4, t, h5, h6⟩ := h
    rcases h6 with h6 | h6
    · exact goL (Or.inr (Or.inr (Or.inr (Or.inl ⟨dflt, ps, x, st', h1, h2, h3, h4, t, h5, h6⟩))))
    · exact goR (Or.inr (Or.inr (Or.inr (Or.inl ⟨dflt, ps, x, st', h1, h2, h3, h4, t, h5, h6⟩))))
  · obtain ⟨i, a, rs, st', h1, h2, h3, h4, h5⟩ := h
    have hl : i.toNat < rs.length := by omega
    have e0 : rs[i.toNat]? = some rs[i.toNat] := List.getElem?_eq_getElem hl
    have one : ∀ (j r : Nat), rs[j]? = some r → i = (j : Int) → r = rs[i.toNat] := fun j r e1 e2 => by
      have e3 : j = i.toNat := by omega
      subst e3
      exact Option.some.inj (e1.symm.trans e0)
    rcases h5 i.toNat _ e0 (by omega) with g | g
    · exact goL (Or.inr (Or.inr (Or.inr (Or.inr (Or.inl ⟨i, a, rs, st', h1, h2, h3, h4, fun j r e1 e2 => by rw [one j r e1 e2]; exact g⟩)))))
    · exact goR (Or.inr (Or.inr (Or.inr (Or.inr (Or.inl ⟨i, a, rs, st', h1, h2, h3, h4, fun j r e1 e2 => by rw [one j r e1 e2]; exact g⟩)))))
  · obtain ⟨k, y, n, b, Qc, QXc, h1, h2, h3, h4, h5, h6, h7, h8, h9⟩ := h
    have h10 := hm y _ _ _ (fun r M' => X (c.1 + tb_cost y, c.2.1 + 3, lv, am_push r (c.2.2.2.1.drop n), M') ∨ Y (c.1 + tb_cost y, c.2.1 + 3, lv, am_push r (c.2.2.2.1.drop n), M')) _ (fun E M' => (match d.2.2.2.2 c.2.1 E with
        | none => QX E M'
        | some (i, np) => c.1 + 1 ≤ cap ∧ X (c.1 + 1, np, am_kl i lv, [], M')) ∨ (match d.2.2.2.2 c.2.1 E with
        | none => QX' E M'
        | some (i, np) => c.1 + 1 ≤ cap ∧ Y (c.1 + 1, np, am_kl i lv, [], M'))) h8 (fun E M' q => by
          have g := h9 E M' q
          cases hh : d.2.2.2.2 c.2.1 E with
          | none => rw [hh] at g; exact g
          | some z => rw [hh] at g; exact g.2.elim (fun q => Or.inl ⟨g.1, q⟩) (fun q => Or.inr ⟨g.1, q⟩)) h7
    rcases ho _ _ _ _ _ _ _ h10 with g | g
    · exact goL (Or.inr (Or.inr (Or.inr (Or.inr (Or.inr (Or.inl ⟨k, y, n, b, _, _, h1, h2, h3, h4, h5, h6, g, fun _ _ q => q, fun _ _ q => q⟩))))))
    · exact goR (Or.inr (Or.inr (Or.inr (Or.inr (Or.inr (Or.inl ⟨k, y, n, b, _, _, h1, h2, h3, h4, h5, h6, g, fun _ _ q => q, fun _ _ q => q⟩))))))
  · obtain ⟨x, h1, h2, h3, h4 | h4⟩ := h
    · exact goL (Or.inr (Or.inr (Or.inr (Or.inr (Or.inr (Or.inr (Or.inl ⟨x, h1, h2, h3, h4⟩)))))))
    · exact goR (Or.inr (Or.inr (Or.inr (Or.inr (Or.inr (Or.inr (Or.inl ⟨x, h1, h2, h3, h4⟩)))))))
  · obtain ⟨x, h1, h2, h3, h4 | h4⟩ := h
    · exact goL (Or.inr (Or.inr (Or.inr (Or.inr (Or.inr (Or.inr (Or.inr (Or.inl ⟨x, h1, h2, h3, h4⟩))))))))
    · exact goR (Or.inr (Or.inr (Or.inr (Or.inr (Or.inr (Or.inr (Or.inr (Or.inl ⟨x, h1, h2, h3, h4⟩))))))))
  · obtain ⟨x, h1, h2, h3, h4 | h4⟩ := h
    · exact goL (Or.inr (Or.inr (Or.inr (Or.inr (Or.inr (Or.inr (Or.inr (Or.inr (Or.inl ⟨x, h1, h2, h3, h4⟩)))))))))
    · exact goR (Or.inr (Or.inr (Or.inr (Or.inr (Or.inr (Or.inr (Or.inr (Or.inr (Or.inl ⟨x, h1, h2, h3, h4⟩)))))))))
  · obtain ⟨x, h1, h2, h3, h4 | h4⟩ := h
    · exact goL (Or.inr (Or.inr (Or.inr (Or.inr (Or.inr (Or.inr (Or.inr (Or.inr (Or.inr (Or.inl ⟨x, h1, h2, h3, h4⟩))))))))))
    · exact goR (Or.inr (Or.inr (Or.inr (Or.inr (Or.inr (Or.inr (Or.inr (Or.inr (Or.inr (Or.inl ⟨x, h1, h2, h3, h4⟩))))))))))
  · obtain ⟨h1, h2, h3, h4 | h4⟩ := h
    · exact goL (Or.inr (Or.inr (Or.inr (Or.inr (Or.inr (Or.inr (Or.inr (Or.inr (Or.inr (Or.inr (Or.inl ⟨h1, h2, h3, h4⟩)))))))))))
    · exact goR (Or.inr (Or.inr (Or.inr (Or.inr (Or.inr (Or.inr (Or.inr (Or.inr (Or.inr (Or.inr (Or.inl ⟨h1, h2, h3, h4⟩)))))))))))
  · obtain ⟨ik, is, ic, E, h1, h0, h2, h3, h4, h5, h6, h7, h8 | h8⟩ := h
    · exact goL (Or.inr (Or.inr (Or.inr (Or.inr (Or.inr (Or.inr (Or.inr (Or.inr (Or.inr (Or.inr (Or.inr ⟨ik, is, ic, E, h1, h0, h2, h3, h4, h5, h6, h7, h8⟩)))))))))))
    · exact goR (Or.inr (Or.inr (Or.inr (Or.inr (Or.inr (Or.inr (Or.inr (Or.inr (Or.inr (Or.inr (Or.inr ⟨ik, is, ic, E, h1, h0, h2, h3, h4, h5, h6, h7, h8⟩)))))))))))
theorem am_W_or {CC : am_CCt} {d : am_D} {dep cap : Nat} {scr : Option (Int × (Int → Int))} {Q Q' : am_Q} {QX QX' : am_X} {c : am_C}
    (hm : ∀ y as M Q Q' QX QX', (∀ r M, Q r M → Q' r M) → (∀ E M, QX E M → QX' E M) → CC y as M Q QX → CC y as M Q' QX')
    (ho : ∀ y as M Q Q' QX QX', CC y as M (fun r M => Q r M ∨ Q' r M) (fun E M => QX E M ∨ QX' E M) → CC y as M Q QX ∨ CC y as M Q' QX')
    (h : am_W CC d dep cap scr (fun r M => Q r M ∨ Q' r M) (fun E M => QX E M ∨ QX' E M) c) : am_W CC d dep cap scr Q QX c ∨ am_W CC d dep cap scr Q' QX' c :=
  h (fun c => am_W CC d dep cap scr Q QX c ∨ am_W CC d dep cap scr Q' QX' c) (fun _ hc => (am_F_or hm ho hc).elim (fun g => Or.inl (am_W_in g)) (fun g => Or.inr (am_W_in g)))
theorem am_CC_or : ∀ (n : Nat) (y : Nat) (as : List am_V) (M : am_M) (Q Q' : am_Q) (QX QX' : am_X), am_CC n y as M (fun r M => Q r M ∨ Q' r M) (fun E M => QX E M ∨ QX' E M) → am_CC n y as M Q QX ∨ am_CC n y as M Q' QX'
  | 0, _, _, _, _, _, _, _, h => h.elim
  | n + 1, _, _, _, _, _, _, _, h => Or.imp (fun z => ⟨h.1, z⟩) (fun z => ⟨h.1, z⟩) <| am_W_or (QX := am_qx _ _) (QX' := am_qx _ _) (fun _ _ _ _ _ _ _ h1 h2 h => am_CC_mono n h1 h2 h) (fun y as M Q Q' QX QX' h => am_CC_or n y as M Q Q' QX QX' h) (am_W_mono (fun _ _ _ _ _ h => h) (fun _ _ h => h) (fun _ _ q => q.2.elim (fun z => Or.inl ⟨q.1, z⟩) (fun z => Or.inr ⟨q.1, z⟩)) h.2)
/-- a call either always returns or always throws -/
theorem am_CC_split {n y : Nat} {as : List am_V} {M : am_M} {Q : am_Q} {QX : am_X} (h : am_CC n y as M Q QX) : am_CC n y as M Q (fun _ _ => False) ∨ am_CC n y as M (fun _ _ => False) QX :=
  am_CC_or n y as M Q (fun _ _ => False) (fun _ _ => False) QX (am_CC_mono n (fun _ _ h => Or.inl h) (fun _ _ h => Or.inr h) h)
end
section
/-! What the tables are checked for. -/
def am_GL : List Cond := lw_tbl.filter goodWord
def tb_at (pos : Nat) (w : Cond) : Bool := (match lw_tbl[pos]? with | some w' => decide (w' = w) | none => false) && goodWord w
theorem tb_at_in {pos : Nat} {w : Cond} (h : tb_at pos w = true) : w ∈ am_GL := by
  unfold tb_at at h
  rw [Bool.and_eq_true] at h
  obtain ⟨h1, h2⟩ := h
  cases hp : lw_tbl[pos]? with
  | none => rw [hp] at h1; cases h1
  | some w' =>
    rw [hp] at h1
    have e : w' = w := of_decide_eq_true h1
    subst e
    exact List.mem_filter.mpr ⟨List.mem_of_getElem? hp, h2⟩
theorem am_al_in {α : Type} {k : Nat} {v : α} : ∀ {l : List (Nat × α)}, am_al k l = some v → (k, v) ∈ l
  | [], h => by cases h
  | q :: r, h => by
    unfold am_al at h
    split at h
    next e =>
      cases h
      have e2 : q.1 = k := Nat.eq_of_beq_eq_true e
      rw [← e2]
      exact List.mem_cons_self
    next => exact List.mem_cons_of_mem _ (am_al_in h)
theorem am_al2_all {α : Type} {o k : Nat} {v : α} {L : List (Nat × List (Nat × α))} {f : Nat → Nat → α → Bool} (h : am_al2 o k L = some v) (ha : L.all (fun q => q.2.all (fun r => f q.1 r.1 r.2)) = true) : f o k v = true := by
  unfold am_al2 at h
  split at h
  next l e =>
    have h1 := List.all_eq_true.mp ha _ (am_al_in e)
    exact List.all_eq_true.mp h1 _ (am_al_in h)
  next => cases h
def tb_flok (o k : Nat) (v : Nat × Nat × Nat × Nat) : Bool := match tb_cl[v.1]? with
  | some (_, T, N) => Nat.blt v.2.1 N && tb_at v.2.2.2 (.fieldLink (tb_cn o) k (T v.2.1).1 (T v.2.1).2.1 (T v.2.1).2.2.1) && (match v.2.2.1 with | 0 => decide (parseFieldDescriptor (T v.2.1).2.2.1 = some .int) && !(T v.2.1).2.2.2 | 1 => decide (parseFieldDescriptor (T v.2.1).2.2.1 = some .boolean) && !(T v.2.1).2.2.2 | _ => true)
  | none => false
theorem tf_fl : tb_flL.all (fun q => q.2.all (fun r => tb_flok q.1 r.1 r.2)) = true := by decide +kernel
def tb_ciok (o k : Nat) (v : Int × Nat) : Bool := tb_at v.2 (.constant (tb_cn o) k (Int32.ofInt v.1))
theorem tf_ci : tb_ciL.all (fun q => q.2.all (fun r => tb_ciok q.1 r.1 r.2)) = true := by decide +kernel
def tb_clok (o k : Nat) (v : Int × Nat) : Bool := tb_at v.2 (.constantLong (tb_cn o) k (Int64.ofInt v.1))
theorem tf_cl : tb_clL.all (fun q => q.2.all (fun r => tb_clok q.1 r.1 r.2)) = true := by decide +kernel
def tb_cdok (o k : Nat) (v : UInt64 × Nat) : Bool := tb_at v.2 (.constantDouble (tb_cn o) k v.1)
theorem tf_cd : tb_cdL.all (fun q => q.2.all (fun r => tb_cdok q.1 r.1 r.2)) = true := by decide +kernel
def tb_macn (m : Nat) : MethodName := match m with
  | 0 => Lib.Math.max.name
  | 1 => Lib.Math.min.name
  | 2 => Lib.Math.abs.name
  | 3 => arraycopyName
  | _ => ⟨"java/lang/Double", "doubleToRawLongBits", "(D)J"⟩
def tb_macok (o k : Nat) (v : Nat × Nat) : Bool := tb_at v.2 (.methodLink (tb_cn o) k (tb_macn v.1))
theorem tf_mac : tb_macL.all (fun q => q.2.all (fun r => tb_macok q.1 r.1 r.2)) = true := by decide +kernel
def tb_nest : Cond := .methodLinkNest "OathDiary$Thinner" 104 ⟨"OathDiary", "roundedUp", "(II)I"⟩ "OathDiary"
def tb_callok (o k : Nat) (v : Nat × Nat × Bool × Nat) : Bool := match tb_m v.1 with
  | some (y, _, _, _, _, st, np) => (match v.2.2.1 with | false => tb_at v.2.2.2 (.methodLink (tb_cn o) k y) | true => decide (tb_nest = .methodLinkNest (tb_cn o) k y "OathDiary") && st) && Nat.beq v.2.1 (match st with | true => np | false => np + 1)
  | none => false
theorem tf_call : tb_callL.all (fun q => q.2.all (fun r => tb_callok q.1 r.1 r.2)) = true := by decide +kernel
def tb_mok (i : Nat) (v : tb_T) : Bool := match am_al i tb_mP, v with
  | some (_, ps, pl, pi), (y, _, nL, _, o, st, np) =>
      (match st with | true => tb_at ps (.static y) | false => tb_at ps (.instanceMethod y) && tb_at pl (.selects y.cls y y)) && tb_at pi (.initialized y.cls) && decide (y.cls = tb_cn o) &&
      decide (y.cls ≠ "java/lang/invoke/MethodHandle" ∧ y.cls ≠ "java/lang/invoke/VarHandle") && decide ((parseMethodDescriptor y.desc).map (fun d => d.parameters.length) = some np) && plainFor y && Nat.ble nL 14 && (match st with | true => true | false => match tb_cl[o]? with | some q => decide (q.1 = y.cls) | none => false) && (match am_al i tb_hhL with | some _ => st | none => true)
  | none, _ => Nat.beq i 222
theorem tf_m : tb_mL.all (fun q => tb_mok q.1 q.2) = true := by decide +kernel
theorem tf_clw : (tb_cl.all fun q => (u_ws q.1 q.2.1 q.2.2).all (fun w => decide (w ∈ am_GL))) = true := by decide +kernel
def tb_wA : List Cond := tb_mA.map (fun q => Cond.code q.2.1 q.2.2.1 q.2.2.2.1 q.2.2.2.2.1)
def tb_wW : List Cond := tb_mW.map (fun q => Cond.codeWith q.2.1 q.2.2.1 q.2.2.2.1 q.2.2.2.2.1 ((am_al q.1 tb_hhL).getD []))
set_option maxRecDepth 100000 in
theorem tf_wA : tb_wA = tb_cA.filterMap (fun i => lw_tbl[i]?) := rfl
set_option maxRecDepth 100000 in
theorem tf_wW : tb_wW = tb_cW.filterMap (fun i => lw_tbl[i]?) := rfl
theorem tf_wAg : tb_wA.all goodWord = true := by decide +kernel
theorem tf_wWg : tb_wW.all goodWord = true := by decide +kernel
theorem tf_mA : (tb_mA.all fun q => match am_al q.1 tb_hhL with | none => true | some _ => false) = true := by decide +kernel
theorem tf_mW : (tb_mW.all fun q => match am_al q.1 tb_hhL, am_al q.1 tb_hnL with | some _, some _ => q.2.2.2.2.2.2.1 | _, _ => false) = true := by decide +kernel
theorem tf_ma : [Cond.static Lib.Math.max.name, .code Lib.Math.max.name Lib.Math.max.code 2 (some .int), .static Lib.Math.min.name, .code Lib.Math.min.name Lib.Math.min.code 2 (some .int), .static Lib.Math.abs.name, .code Lib.Math.abs.name Lib.Math.abs.code 1 (some .int), .initialized "java/lang/Math",
  .native arraycopyName, .static arraycopyName, .initialized "java/lang/System", .native ⟨"java/lang/Double", "doubleToRawLongBits", "(D)J"⟩, .static ⟨"java/lang/Double", "doubleToRawLongBits", "(D)J"⟩, .initialized "java/lang/Double"].all (fun w => decide (w ∈ am_GL)) = true := by decide +kernel
end
section
/-! The small machine's values, locals and layout in the machine's. -/
def am_cv (ρ : Nat → Nat) (v : am_V) : Value := match v with
  | .inl x => .int (Int32.ofInt x)
  | .inr (.inl none) => .null
  | .inr (.inl (some k)) => .ref (ρ k)
  | .inr (.inr (.inl x)) => .long (Int64.ofInt x)
  | .inr (.inr (.inr d)) => .double d
theorem am_cat_cv (ρ : Nat → Nat) (v : am_V) : (am_cv ρ v).category = am_cat v := by
  rcases v with x | (_ | k) | x | d <;> rfl
def am_cl (ρ : Nat → Nat) (lv : am_L) : List (Nat × Value) := lv.map (fun q => (q.1, am_cv ρ q.2))
theorem am_cs_cv (ρ : Nat → Nat) : ∀ st : List am_V, ((st.map (am_cv ρ)).map fun v => v.category).sum = am_cs st
  | [] => rfl
  | v :: r => by
    rw [List.map_cons, List.map_cons, List.sum_cons, am_cs_cv ρ r, am_cat_cv]
    rfl
theorem am_at {ρ : Nat → Nat} {ls : Array Slot} {nL i : Nat} {lv : am_L} {v : am_V} (h : lv_has ls nL (am_cl ρ lv)) (hi : am_al i lv = some v) : ls[i]? = some (.val (am_cv ρ v)) :=
  h.2.2 (i, am_cv ρ v) (List.mem_map.mpr ⟨(i, v), am_al_in hi, rfl⟩)
theorem am_sub {ρ : Nat → Nat} {ls : Array Slot} {nL : Nat} {lv lv' : am_L} (h : lv_has ls nL (am_cl ρ lv)) (hs : ∀ q ∈ lv', q ∈ lv) : lv_has ls nL (am_cl ρ lv') := by
  refine ⟨h.1, h.2.1, fun q hq => ?_⟩
  obtain ⟨z, hz, rfl⟩ := List.mem_map.mp hq
  exact h.2.2 _ (List.mem_map.mpr ⟨z, hs z hz, rfl⟩)
theorem am_kl_cv (ρ : Nat → Nat) (i : Nat) (lv : am_L) : am_cl ρ (am_kl i lv) = (am_cl ρ lv).filter (fun q => !(q.1 == i) && !(q.1 + 1 == i && q.2.category == 2)) := by
  unfold am_cl am_kl
  rw [List.filter_map]
  congr 1
  refine List.filter_congr (fun q _ => ?_)
  simp only [Function.comp, am_cat_cv]
theorem am_kl2_cv (ρ : Nat → Nat) (i : Nat) (lv : am_L) : am_cl ρ (am_kl2 i lv) = (am_cl ρ lv).filter (fun q => !(q.1 == i) && (!(q.1 == i + 1) && !(q.1 + 1 == i && q.2.category == 2))) := by
  unfold am_cl am_kl2
  rw [List.filter_map]
  congr 1
  refine List.filter_congr (fun q _ => ?_)
  simp only [Function.comp, am_cat_cv]
theorem am_args_cv (ρ : Nat → Nat) : ∀ (i : Nat) (as : List am_V), am_cl ρ (am_args i as) = lv_args i (as.map (am_cv ρ))
  | _, [] => rfl
  | i, v :: vs => by
    have e : (match am_cat v with | 2 => i + 2 | _ => i + 1) = if (am_cv ρ v).category = 2 then i + 2 else i + 1 := by
      rw [am_cat_cv]
      rcases v with x | (_ | k) | x | d <;> rfl
    show (i, am_cv ρ v) :: am_cl ρ (am_args _ vs) = (i, am_cv ρ v) :: lv_args _ (vs.map (am_cv ρ))
    rw [am_args_cv ρ _ vs]
    exact congrArg (fun z => (i, am_cv ρ v) :: lv_args z (vs.map (am_cv ρ))) e
def am_fs (ρ : Nat → Nat) (M : am_M) (a : Nat) (fk : List (Option Nat)) : List Value := fk.mapIdx (fun j o => match o with
  | none => .int (Int32.ofInt (M a j))
  | some r => .ref (ρ r))
def am_ent (ρ : Nat → Nat) (cA : Nat → ClassId) (M : am_M) (a : Nat) (e : am_E) : va_E := match e with
  | .inl (.inl n) => .inl (cA 0, (n, .inl (fun j => Int32.ofInt (M a j))))
  | .inl (.inr n) => .inl (cA 1, (n, .inr (.inl (fun j => Int64.ofInt (M a j)))))
  | .inr (.inl rs) => .inl (cA 2, (rs.length, .inr (.inr (.inr (.inr (fun j => (rs[j]?).map ρ))))))
  | .inr (.inr (ci, fk)) => .inr (ci, am_fs ρ M a fk)
def am_ws (ρ : Nat → Nat) (cA : Nat → ClassId) (M : am_M) : va_W := tb_lay.mapIdx (fun a e => (ρ a, am_ent ρ cA M a e))
theorem am_ws_at {ρ : Nat → Nat} {cA : Nat → ClassId} {M : am_M} {a : Nat} {e : am_E} (h : tb_lay[a]? = some e) : (am_ws ρ cA M)[a]? = some (ρ a, am_ent ρ cA M a e) := by
  unfold am_ws
  rw [List.getElem?_mapIdx, h]
  rfl
theorem am_ws_in {ρ : Nat → Nat} {cA : Nat → ClassId} {M : am_M} {a : Nat} {q : Nat × va_E} (h : (am_ws ρ cA M)[a]? = some q) : ∃ e, tb_lay[a]? = some e ∧ q = (ρ a, am_ent ρ cA M a e) := by
  unfold am_ws at h
  rw [List.getElem?_mapIdx] at h
  cases he : tb_lay[a]? with
  | none => rw [he] at h; cases h
  | some e =>
    rw [he] at h
    exact ⟨e, rfl, (Option.some.inj h).symm⟩
theorem am_ent_eq {ρ : Nat → Nat} {cA : Nat → ClassId} {M M' : am_M} {a : Nat} (e : am_E) (h : ∀ j, M' a j = M a j) : am_ent ρ cA M' a e = am_ent ρ cA M a e := by
  rcases e with (n | n) | rs | ⟨ci, fk⟩
  · simp only [am_ent, h]
  · simp only [am_ent, h]
  · rfl
  · simp only [am_ent, am_fs, h]
theorem am_ws_set {ρ : Nat → Nat} {cA : Nat → ClassId} {M M' : am_M} {a : Nat} {e : am_E} (he : tb_lay[a]? = some e) (h : ∀ a' j, a' ≠ a → M' a' j = M a' j) : (am_ws ρ cA M).set a (ρ a, am_ent ρ cA M' a e) = am_ws ρ cA M' := by
  have hl : a < (am_ws ρ cA M).length := by
    unfold am_ws
    rw [List.length_mapIdx]
    exact (List.getElem?_eq_some_iff.mp he).1
  refine List.ext_getElem? (fun k => ?_)
  by_cases hk : k = a
  · subst hk
    rw [List.getElem?_set_self hl, am_ws_at he]
  · rw [List.getElem?_set_ne (Ne.symm hk)]
    unfold am_ws
    rw [List.getElem?_mapIdx, List.getElem?_mapIdx]
    cases hz : tb_lay[k]? with
    | none => rfl
    | some z =>
      show some (ρ k, am_ent ρ cA M k z) = some (ρ k, am_ent ρ cA M' k z)
      rw [am_ent_eq z (fun j => h k j hk)]
/-- the addresses are apart, and behind a base -/
def am_ρ (ρ : Nat → Nat) (base : Nat) : Prop := (∀ a b, a < tb_lay.length → b < tb_lay.length → ρ a = ρ b → a = b) ∧ ∀ a, a < tb_lay.length → base ≤ ρ a
theorem am_ρD {ρ : Nat → Nat} {base : Nat} {cA : Nat → ClassId} {M : am_M} (h : am_ρ ρ base) : va_D (fun q : Nat => base ≤ q) (am_ws ρ cA M) := by
  refine ⟨fun i j p q hi hj hpq => ?_, fun k q hk => ?_⟩
  · obtain ⟨e1, h1, rfl⟩ := am_ws_in hi
    obtain ⟨e2, h2, rfl⟩ := am_ws_in hj
    exact h.1 i j (List.getElem?_eq_some_iff.mp h1).1 (List.getElem?_eq_some_iff.mp h2).1 hpq
  · obtain ⟨e1, h1, rfl⟩ := am_ws_in hk
    exact h.2 k (List.getElem?_eq_some_iff.mp h1).1
abbrev am_tys (cA : Nat → ClassId) : List (ClassId × FieldType) := [(cA 0, .int), (cA 1, .long), (cA 2, .object RX2)]
def tb_cast : List (String × String) := [("java/lang/IllegalArgumentException", "java/lang/IllegalArgumentException"), ("java/lang/IllegalStateException", "java/lang/IllegalStateException"), ("java/lang/IndexOutOfBoundsException", "java/lang/IndexOutOfBoundsException")]
def tb_decl : List MethodName := (lw_tbl.filterMap (fun w => match w with | .declares x => some x | _ => none))
def tb_ex (E : Nat) : String := match E with
  | 0 => "java/lang/IllegalArgumentException"
  | 1 => "java/lang/IllegalStateException"
  | _ => "java/lang/IndexOutOfBoundsException"
/-- what the world beside the cells must give: the classes, the texts, the JDK's two statics -/
def am_env (D : va_G) (cA : Nat → ClassId) (base : Nat) (U : State) (H : Heap) : Prop :=
  va_K D tb_cl (am_tys cA) U ∧ (∀ o k tx, tb_str o k = some tx → ∃ a, vk_R (tb_cn o) k tx a U) ∧ va_Nw tb_nest U ∧ (∀ q ∈ tb_cast, va_Nw (.castable q.1 q.2) U) ∧ (∀ x ∈ tb_decl, va_Nw (.declares x) U) ∧ (∀ a b, a < 3 → b < 3 → a ≠ b → va_Nc (tb_ex a) (tb_ex b) U) ∧
  vx_Zq Bundle.tN "UNASSIGNED_STACK" Bundle.steD (fun q : Nat => base ≤ q) U H ∧ vx_Zq Bundle.tN "SUPPRESSED_SENTINEL" Bundle.listD (fun q : Nat => base ≤ q) U H
theorem am_env_moved {D : va_G} {cA : Nat → ClassId} {base : Nat} {s U : State} {H0 H : Heap} (h : am_env D cA base s H0) (hW : s.WarmedH U.vm) (hq : ∀ a : Nat, a < H0.size → ¬ base ≤ a → H[a]? = H0[a]?) : am_env D cA base U H := by
  obtain ⟨h1, h2, h3, h4, h5, h8, h6, h7⟩ := h
  refine ⟨va_K.moved hW.alike h1, fun o k tx e => ?_, va_Nw.warmM hW h3, fun q hq => va_Nw.warmC hW (h4 q hq), fun x hx => va_Nw.warmD hW (h5 x hx), fun a b ha hb hab => va_Nc.moved hW.alike (h8 a b ha hb hab), vx_Zq.moved hW.alike (h6.kept hq), vx_Zq.moved hW.alike (h7.kept hq)⟩
  obtain ⟨a, ha⟩ := h2 o k tx e
  exact ⟨a, ha.warm hW⟩
end
section
/-- an instruction's length, where its row wants it -/
def am_len (ins : Instr) : Nat := match ins with
  | .bipush _ | .ldc _ | .iload _ | .aload _ | .lload _ | .dload _ | .istore _ | .astore _ | .lstore _ | .dstore _ => 2
  | .sipush _ | .ldc_w _ | .ldc2_w _ | .iinc _ _ | .goto _ | .if_icmp _ _ | .ifCond _ _ | .ifnull _ | .ifnonnull _ | .getfield _ | .putfield _ | .invokevirtual _ | .invokestatic _ | .invokespecial _ | .new _ => 3
  | .tableswitch _ _ _ _ | .lookupswitch _ _ => 0
  | .newarray _ => 2
  | _ => 1
theorem am_tg_eq {pc t : Nat} {off : Int} (h : am_tg pc off = some t) : (pc : Int) + off = (t : Int) := by
  unfold am_tg at h
  split at h
  next e => cases h; exact e
  next => cases h
theorem am_vpin {i : Int} {n : Nat} (hn : n < 2 ^ 31) (h : 0 ≤ i ∧ i < (n : Nat)) : vp_in (Int32.ofInt i) n ∧ (Int32.ofInt i).toNatClampNeg = i.toNat := by
  have e : Int32.ofInt i = nI i.toNat := by
    unfold nI
    rw [show i = ((i.toNat : Nat) : Int) by omega]
    rfl
  rw [e]
  exact ⟨vp_in_nI (by omega) hn, nI_clamp (by omega)⟩
theorem am_toInt {x : Int} (h : am_rg x) : (Int32.ofInt x).toInt = x := by
  unfold am_rg at h
  rw [Int32.toInt_ofInt]
  have e : (Int32.size : Int) = 4294967296 := rfl
  simp only [Int.bmod, e]
  omega
theorem am_toIntL {x : Int} (h : am_rl x) : (Int64.ofInt x).toInt = x := by
  unfold am_rl at h
  rw [Int64.toInt_ofInt]
  have e : (Int64.size : Int) = 18446744073709551616 := rfl
  simp only [Int.bmod, e]
  omega
theorem am_eq {x y : Int} (hx : am_rg x) (hy : am_rg y) : Int32.ofInt x = Int32.ofInt y ↔ x = y := by
  rw [← Int32.toInt_inj, am_toInt hx, am_toInt hy]
theorem am_lt {x y : Int} (hx : am_rg x) (hy : am_rg y) : Int32.ofInt x < Int32.ofInt y ↔ x < y := by
  rw [Int32.lt_iff_toInt_lt, am_toInt hx, am_toInt hy]
theorem am_le {x y : Int} (hx : am_rg x) (hy : am_rg y) : Int32.ofInt x ≤ Int32.ofInt y ↔ x ≤ y := by
  rw [Int32.le_iff_toInt_le, am_toInt hx, am_toInt hy]
theorem am_rg0 : am_rg 0 := by unfold am_rg; omega
theorem am_of32 (z : Int32) : Int32.ofInt z.toInt = z := by
  rw [← Int32.toInt_inj, am_toInt]
  unfold am_rg
  have h1 := z.toInt_lt
  have h2 := z.le_toInt
  omega
theorem am_of64 (z : Int64) : Int64.ofInt z.toInt = z := by
  rw [← Int64.toInt_inj, am_toIntL]
  unfold am_rl
  have h1 := z.toInt_lt
  have h2 := z.le_toInt
  omega
theorem am_div {x y : Int} (hx : am_rg x) (hy : am_rg y) (h0 : 0 < y) : Int32.ofInt x / Int32.ofInt y = Int32.ofInt (x.tdiv y) := by
  rw [← Int32.toInt_inj, Int32.toInt_div, am_toInt hx, am_toInt hy, Int32.toInt_ofInt]
theorem am_divL {x y : Int} (hx : am_rl x) (hy : am_rl y) (h0 : 0 < y) : Int64.ofInt x / Int64.ofInt y = Int64.ofInt (x.tdiv y) := by
  rw [← Int64.toInt_inj, Int64.toInt_div, am_toIntL hx, am_toIntL hy, Int64.toInt_ofInt]
theorem am_rem {x y : Int} (hx : am_rg x) (hy : am_rg y) (h0 : 0 < y) : Int32.ofInt x - Int32.ofInt x / Int32.ofInt y * Int32.ofInt y = Int32.ofInt (x.tmod y) := by
  rw [am_div hx hy h0, ← Int32.ofInt_mul, ← Int32.ofInt_sub]
  congr 1
  have := Int.tdiv_mul_add_tmod x y
  omega
theorem am_i2l {x : Int} (hx : am_rg x) : (Int32.ofInt x).toInt64 = Int64.ofInt x := by
  rw [← Int64.toInt_inj, Int32.toInt_toInt64, am_toInt hx, am_toIntL]
  unfold am_rg at hx
  unfold am_rl
  omega
theorem am_l2i (x : Int) : (Int64.ofInt x).toInt32 = Int32.ofInt x := by
  rw [← Int32.toInt_inj, Int64.toInt_toInt32, Int64.toInt_ofInt, Int32.toInt_ofInt]
  exact Int.bmod_bmod_of_dvd (by decide)
theorem am_lc {x y : Int} (h : (am_rl x ∧ am_rl y) ∨ x = y) : lg_cmp (Int64.ofInt x) (Int64.ofInt y) = Int32.ofInt (am_lci x y) := by
  rcases h with ⟨hx, hy⟩ | rfl
  · unfold lg_cmp am_lci
    simp only [gt_iff_lt, Int64.lt_iff_toInt_lt, ← Int64.toInt_inj, am_toIntL hx, am_toIntL hy]
    repeat' split
    all_goals rfl
  · unfold lg_cmp am_lci
    rw [if_neg (by simp), if_pos rfl, if_neg (by omega), if_pos rfl]
    rfl
section AMS
variable {p : Program} {l : Launch} {e : Env} {R : Room} {s : State} {m : MethodId} {args : Array Value} {below : List Frame} {meth : Method} {c : Code} {cells slots : Nat} {Z : State → Prop} {cc : ByteArray} {ρ : Nat → Nat} {D : va_G} {cA : Nat → ClassId} {base o nL : Nat} {scr : Option (Int × (Int → Int))}
/-- what stands fast while a method runs -/
def am_fix (p : Program) (s : State) (m : MethodId) (args : Array Value) (c : Code) (cc : ByteArray) (R : Room) (cells slots : Nat) (ρ : Nat → Nat) (D : va_G) (cA : Nat → ClassId) (base o nL : Nat) (scr : Option (Int × (Int → Int))) : Prop :=
  p.tables.exec = Jvm.exec ∧ c.code = cc ∧ c.maxLocals = nL ∧ (∀ w ∈ am_GL, w.before args s = true) ∧ s.vm.findClass (tb_cn o) = some m.cls ∧ am_ρ ρ base ∧ am_env D cA base s s.heap ∧ 1 ≤ R.frames ∧ 40 ≤ R.locals ∧ cells ≤ R.cells ∧ slots ≤ R.slots ∧ nL ≤ 14 ∧
  (match scr with
    | none => True
    | some (L, xs) => ∃ (n : Nat) (f : Nat → Int32), L = (n : Int) ∧ n < 2 ^ 31 ∧ va_X (ρ 999) n f s s.heap ∧ ρ 999 < s.heap.size ∧ ¬ base ≤ ρ 999 ∧ ∀ j : Nat, j < n → Int32.ofInt (xs j) = f j)
def am_at_ (p : Program) (l : Launch) (e : Env) (R : Room) (s : State) (m : MethodId) (args : Array Value) (below : List Frame) (meth : Method) (c : Code) (cells slots : Nat) (Z : State → Prop) (ρ : Nat → Nat) (D : va_G) (cA : Nat → ClassId) (base nL : Nat) (pc : Nat) (lv : am_L) (st : List am_V) (M : am_M) : Prop :=
  ∀ (H : Heap) (locs : List Loc) (ls : Array Slot), va_P D tb_cl (am_ws ρ cA M) H → va_S (fun q : Nat => base ≤ q) s.heap H locs → lv_has ls nL (am_cl ρ lv) → W p l e R s m args below meth c H locs cells slots Z (F0 m pc ls (st.map (am_cv ρ)))
theorem am_lay_n {a n : Nat} (h : tb_lay[a]? = some (.inl (.inl n))) : n < 2 ^ 31 := by
  have h1 : (tb_lay.all fun e => match e with | .inl (.inl n) => Nat.blt n 2147483648 | .inl (.inr n) => Nat.blt n 2147483648 | .inr (.inl rs) => Nat.blt rs.length 2147483648 | _ => true) = true := by decide +kernel
  have h2 := List.all_eq_true.mp h1 _ (List.mem_of_getElem? h)
  exact Nat.lt_of_lt_of_le (Nat.ble_eq.mp h2) (by decide)
theorem am_lay_l {a n : Nat} (h : tb_lay[a]? = some (.inl (.inr n))) : n < 2 ^ 31 := by
  have h1 : (tb_lay.all fun e => match e with | .inl (.inl n) => Nat.blt n 2147483648 | .inl (.inr n) => Nat.blt n 2147483648 | .inr (.inl rs) => Nat.blt rs.length 2147483648 | _ => true) = true := by decide +kernel
  have h2 := List.all_eq_true.mp h1 _ (List.mem_of_getElem? h)
  exact Nat.lt_of_lt_of_le (Nat.ble_eq.mp h2) (by decide)
theorem am_lay_r {a : Nat} {rs : List Nat} (h : tb_lay[a]? = some (.inr (.inl rs))) : rs.length < 2 ^ 31 := by
  have h1 : (tb_lay.all fun e => match e with | .inl (.inl n) => Nat.blt n 2147483648 | .inl (.inr n) => Nat.blt n 2147483648 | .inr (.inl rs) => Nat.blt rs.length 2147483648 | _ => true) = true := by decide +kernel
  have h2 := List.all_eq_true.mp h1 _ (List.mem_of_getElem? h)
  exact Nat.lt_of_lt_of_le (Nat.ble_eq.mp h2) (by decide)
theorem am_updI {M : am_M} {a n : Nat} {i x : Int} (h : 0 ≤ i ∧ i < (n : Nat)) : upd (fun j => Int32.ofInt (M a j)) i.toNat (Int32.ofInt x) = fun (j : Nat) => Int32.ofInt (am_up M a i x a j) := by
  funext j
  unfold upd am_up
  by_cases hj : j = i.toNat
  · rw [if_pos hj, if_pos ⟨rfl, by omega⟩]
  · rw [if_neg hj, if_neg (fun q => hj (by omega))]
theorem am_updL {M : am_M} {a n : Nat} {i x : Int} (h : 0 ≤ i ∧ i < (n : Nat)) : vp_updL (fun j => Int64.ofInt (M a j)) i.toNat (Int64.ofInt x) = fun (j : Nat) => Int64.ofInt (am_up M a i x a j) := by
  funext j
  unfold vp_updL am_up
  by_cases hj : j = i.toNat
  · rw [if_pos hj, if_pos ⟨rfl, by omega⟩]
  · rw [if_neg hj, if_neg (fun q => hj (by omega))]
theorem am_up_ne {M : am_M} {a : Nat} {i x : Int} : ∀ a' j, a' ≠ a → am_up M a i x a' j = M a' j := fun a' j h => by
  unfold am_up
  rw [if_neg (fun q => h q.1)]
def am_fv (ρ : Nat → Nat) (M : am_M) (a j : Nat) (z : Option Nat) : Value := match z with
  | none => .int (Int32.ofInt (M a j))
  | some r => .ref (ρ r)
theorem am_fs_at {M : am_M} {a j : Nat} {fk : List (Option Nat)} {z : Option Nat} (h : fk[j]? = some z) : (am_fs ρ M a fk)[j]? = some (am_fv ρ M a j z) := by
  unfold am_fs
  rw [List.getElem?_mapIdx, h]
  rfl
theorem am_fs_set {M : am_M} {a j : Nat} {fk : List (Option Nat)} {x : Int} (h : fk[j]? = some none) : (am_fs ρ M a fk).set j (.int (Int32.ofInt x)) = am_fs ρ (am_up M a (j : Nat) x) a fk := by
  have hl : j < (am_fs ρ M a fk).length := by
    unfold am_fs
    rw [List.length_mapIdx]
    exact (List.getElem?_eq_some_iff.mp h).1
  refine List.ext_getElem? (fun k => ?_)
  by_cases hk : k = j
  · subst hk
    rw [List.getElem?_set_self hl, am_fs_at h]
    show some (Value.int (Int32.ofInt x)) = some (Value.int (Int32.ofInt (am_up M a k x a k)))
    unfold am_up
    rw [if_pos ⟨rfl, rfl⟩]
  · rw [List.getElem?_set_ne (Ne.symm hk)]
    unfold am_fs
    rw [List.getElem?_mapIdx, List.getElem?_mapIdx]
    cases fk[k]? with
    | none => rfl
    | some z =>
      cases z with
      | none =>
        show some (Value.int (Int32.ofInt (M a k))) = some (Value.int (Int32.ofInt (am_up M a j x a k)))
        unfold am_up
        rw [if_neg (fun q => hk (by omega))]
      | some r => rfl
end AMS
end
section
theorem am_ci {o k : Nat} {v : Int} (h : tb_ci o k = some v) : Cond.constant (tb_cn o) k (Int32.ofInt v) ∈ am_GL := by
  unfold tb_ci at h
  split at h
  next v' pos e => cases h; exact tb_at_in (am_al2_all (f := tb_ciok) e tf_ci)
  next => cases h
theorem am_ci2 {o k : Nat} {v : Int} (h : tb_cL o k = some v) : Cond.constantLong (tb_cn o) k (Int64.ofInt v) ∈ am_GL := by
  unfold tb_cL at h
  split at h
  next v' pos e => cases h; exact tb_at_in (am_al2_all (f := tb_clok) e tf_cl)
  next => cases h
theorem am_ci3 {o k : Nat} {v : UInt64} (h : tb_cd o k = some v) : Cond.constantDouble (tb_cn o) k v ∈ am_GL := by
  unfold tb_cd at h
  split at h
  next v' pos e => cases h; exact tb_at_in (am_al2_all (f := tb_cdok) e tf_cd)
  next => cases h
theorem am_macf {o k v : Nat} (h : tb_mac o k = some v) : Cond.methodLink (tb_cn o) k (tb_macn v) ∈ am_GL := by
  unfold tb_mac at h
  split at h
  next v' pos e => cases h; exact tb_at_in (am_al2_all (f := tb_macok) e tf_mac)
  next => cases h
theorem am_ma {w : Cond} (h : w ∈ [Cond.static Lib.Math.max.name, .code Lib.Math.max.name Lib.Math.max.code 2 (some .int), .static Lib.Math.min.name, .code Lib.Math.min.name Lib.Math.min.code 2 (some .int), .static Lib.Math.abs.name, .code Lib.Math.abs.name Lib.Math.abs.code 1 (some .int), .initialized "java/lang/Math",
  .native arraycopyName, .static arraycopyName, .initialized "java/lang/System", .native ⟨"java/lang/Double", "doubleToRawLongBits", "(D)J"⟩, .static ⟨"java/lang/Double", "doubleToRawLongBits", "(D)J"⟩, .initialized "java/lang/Double"]) : w ∈ am_GL :=
  of_decide_eq_true (List.all_eq_true.mp tf_ma w h)
theorem am_flf {o k ci j t : Nat} (h : tb_fl o k = some (ci, j, t)) : ∃ C T N, tb_cl[ci]? = some (C, T, N) ∧ j < N ∧ Cond.fieldLink (tb_cn o) k (T j).1 (T j).2.1 (T j).2.2.1 ∈ am_GL ∧ (t = 0 → parseFieldDescriptor (T j).2.2.1 = some .int ∧ (T j).2.2.2 = false) ∧ (t = 1 → parseFieldDescriptor (T j).2.2.1 = some .boolean ∧ (T j).2.2.2 = false) := by
  unfold tb_fl at h
  split at h
  next ci' j' t' pos e =>
    cases h
    have h1 := am_al2_all (f := tb_flok) e tf_fl
    unfold tb_flok at h1
    dsimp only at h1
    split at h1
    next C T N e2 =>
      simp only [Bool.and_eq_true] at h1
      obtain ⟨⟨h2, h3⟩, h4⟩ := h1
      refine ⟨C, T, N, e2, Nat.ble_eq.mp h2, tb_at_in h3, fun q => ?_, fun q => ?_⟩
      · subst q
        simp only [Bool.and_eq_true, decide_eq_true_eq, Bool.not_eq_true'] at h4
        exact h4
      · subst q
        simp only [Bool.and_eq_true, decide_eq_true_eq, Bool.not_eq_true'] at h4
        exact h4
    next => cases h1
  next => cases h
theorem am_clf {ci N : Nat} {C : String} {T : u_T} (h : tb_cl[ci]? = some (C, T, N)) : (∀ w ∈ u_ws C T N, w ∈ am_GL) ∧ (∃ ty0 : Nat → FieldType, ∀ k, k < N → parseFieldDescriptor (T k).2.2.1 = some (ty0 k)) ∧ ∀ a, a < N → ∀ b, b < N → a ≠ b → (T a).2.1 ≠ (T b).2.1 := by
  refine ⟨fun w hw => ?_, ?_⟩
  · have h1 := List.all_eq_true.mp tf_clw _ (List.mem_of_getElem? h)
    exact of_decide_eq_true (List.all_eq_true.mp h1 w hw)
  · match ci, h with
    | 0, h => cases h; exact ⟨⟨_, tyX0_ok⟩, nmX0⟩
    | 1, h => cases h; exact ⟨⟨_, tyX1_ok⟩, nmX1⟩
    | 2, h => cases h; exact ⟨⟨_, tyX2_ok⟩, nmX2⟩
    | 3, h => cases h; exact ⟨⟨_, tyX3_ok⟩, nmX3⟩
    | 4, h => cases h; exact ⟨⟨_, tyX4_ok⟩, nmX4⟩
    | 5, h => cases h; exact ⟨⟨_, tyX5_ok⟩, nmX5⟩
    | 6, h => cases h; exact ⟨⟨_, tyX6_ok⟩, nmX6⟩
    | n + 7, h => cases h
theorem am_bi {n : Int} (h : -128 ≤ n ∧ n ≤ 127) : (Int8.ofInt n).toInt32 = Int32.ofInt n := by
  rw [← Int32.toInt_inj, Int8.toInt_toInt32, Int8.toInt_ofInt, am_toInt (by unfold am_rg; omega)]
  have e : (Int8.size : Int) = 256 := rfl
  simp only [Int.bmod, e]
  omega
theorem am_si {n : Int} (h : -32768 ≤ n ∧ n ≤ 32767) : (Int16.ofInt n).toInt32 = Int32.ofInt n := by
  rw [← Int32.toInt_inj, Int16.toInt_toInt32, Int16.toInt_ofInt, am_toInt (by unfold am_rg; omega)]
  have e : (Int16.size : Int) = 65536 := rfl
  simp only [Int.bmod, e]
  omega
theorem am_ldi_al {i : Nat} {lv : am_L} {x : Int} (h : am_ldi i lv = some x) : am_al i lv = some (.inl x) := by
  unfold am_ldi at h
  split at h
  next y e => cases h; exact e
  next => cases h
theorem am_lda_al {i : Nat} {lv : am_L} {x : Option Nat} (h : am_lda i lv = some x) : am_al i lv = some (.inr (.inl x)) := by
  unfold am_lda at h
  split at h
  next y e => cases h; exact e
  next => cases h
theorem am_ldl_al {i : Nat} {lv : am_L} {x : Int} (h : am_ldl i lv = some x) : am_al i lv = some (.inr (.inr (.inl x))) := by
  unfold am_ldl at h
  split at h
  next y e => cases h; exact e
  next => cases h
theorem am_ldd_al {i : Nat} {lv : am_L} {x : UInt64} (h : am_ldd i lv = some x) : am_al i lv = some (.inr (.inr (.inr x))) := by
  unfold am_ldd at h
  split at h
  next y e => cases h; exact e
  next => cases h
theorem am_st_eq {nL i : Nat} {v : am_V} {lv lv' : am_L} (h : am_st nL i v lv = some lv') : i < nL ∧ lv' = (i, v) :: am_kl i lv := by
  unfold am_st at h
  split at h
  next e => exact ⟨Nat.ble_eq.mp e, (Option.some.inj h).symm⟩
  next => cases h
theorem am_st2_eq {nL i : Nat} {v : am_V} {lv lv' : am_L} (h : am_st2 nL i v lv = some lv') : i + 1 < nL ∧ lv' = (i, v) :: am_kl2 i lv := by
  unfold am_st2 at h
  split at h
  next e => exact ⟨Nat.ble_eq.mp e, (Option.some.inj h).symm⟩
  next => cases h
theorem am_mx {x y : Int} (hx : am_rg x) (hy : am_rg y) : (if Int32.ofInt x < Int32.ofInt y then Int32.ofInt y else Int32.ofInt x) = Int32.ofInt (if x < y then y else x) := by
  by_cases h : x < y
  · rw [if_pos ((am_lt hx hy).mpr h), if_pos h]
  · rw [if_neg (fun q => h ((am_lt hx hy).mp q)), if_neg h]
theorem am_mn {x y : Int} (hx : am_rg x) (hy : am_rg y) : (if Int32.ofInt y < Int32.ofInt x then Int32.ofInt y else Int32.ofInt x) = Int32.ofInt (if y < x then y else x) := by
  by_cases h : y < x
  · rw [if_pos ((am_lt hy hx).mpr h), if_pos h]
  · rw [if_neg (fun q => h ((am_lt hy hx).mp q)), if_neg h]
theorem am_ab {x : Int} (hx : am_rg x) : (if 0 ≤ Int32.ofInt x then Int32.ofInt x else 0 - Int32.ofInt x) = Int32.ofInt (if 0 ≤ x then x else 0 - x) := by
  have h0 : (0 : Int32) = Int32.ofInt 0 := rfl
  rw [h0]
  by_cases h : 0 ≤ x
  · rw [if_pos ((am_le am_rg0 hx).mpr h), if_pos h]
  · rw [if_neg (fun q => h ((am_le am_rg0 hx).mp q)), if_neg h, Int32.ofInt_sub]
section AMS2
variable {p : Program} {l : Launch} {e : Env} {R : Room} {s : State} {m : MethodId} {args : Array Value} {below : List Frame} {meth : Method} {c : Code} {cells slots : Nat} {Z : State → Prop} {cc : ByteArray} {ρ : Nat → Nat} {D : va_G} {cA : Nat → ClassId} {base o nL : Nat} {scr : Option (Int × (Int → Int))}

set_option maxHeartbeats 1000000 in
theorem am_s_iconst (F : am_fix p s m args c cc R cells slots ρ D cA base o nL scr) (n : Int) {len pc : Nat} {lv : am_L} {st : List am_V} {M : am_M} {r : List Prop × Nat × am_L × List am_V × am_M} (hd : decode cc pc = .ok (.iconst n, len)) (hlen : am_len (.iconst n) = 0 ∨ len = am_len (.iconst n)) (h : am_s1 o nL scr (.iconst n) pc lv st M = some r) (hp : am_all r.1)
    (k : am_at_ p l e R s m args below meth c cells slots Z ρ D cA base nL r.2.1 r.2.2.1 r.2.2.2.1 r.2.2.2.2) : am_at_ p l e R s m args below meth c cells slots Z ρ D cA base nL pc lv st M := by
  obtain ⟨hx, hb, hml, hts, hown, hρ, hE, hRf, hRl, hRc, hRs, hnL, hscr⟩ := F
  obtain ⟨hK, hstr, hnest, hcast, hdecl, hnc, hU, hN⟩ := hE
  intro H locs ls hP hS hl
  have hD := am_ρD (cA := cA) (M := M) hρ
  obtain rfl : len = 1 := hlen.resolve_left (fun q => by cases q)
  dsimp only [am_s1] at h
  cases h
  exact lv_iconst hx hb hd rfl (k H locs ls hP hS hl)
set_option maxHeartbeats 1000000 in
theorem am_s_bipush (F : am_fix p s m args c cc R cells slots ρ D cA base o nL scr) (n : Int) {len pc : Nat} {lv : am_L} {st : List am_V} {M : am_M} {r : List Prop × Nat × am_L × List am_V × am_M} (hd : decode cc pc = .ok (.bipush n, len)) (hlen : am_len (.bipush n) = 0 ∨ len = am_len (.bipush n)) (h : am_s1 o nL scr (.bipush n) pc lv st M = some r) (hp : am_all r.1)
    (k : am_at_ p l e R s m args below meth c cells slots Z ρ D cA base nL r.2.1 r.2.2.1 r.2.2.2.1 r.2.2.2.2) : am_at_ p l e R s m args below meth c cells slots Z ρ D cA base nL pc lv st M := by
  obtain ⟨hx, hb, hml, hts, hown, hρ, hE, hRf, hRl, hRc, hRs, hnL, hscr⟩ := F
  obtain ⟨hK, hstr, hnest, hcast, hdecl, hnc, hU, hN⟩ := hE
  intro H locs ls hP hS hl
  have hD := am_ρD (cA := cA) (M := M) hρ
  obtain rfl : len = 2 := hlen.resolve_left (fun q => by cases q)
  dsimp only [am_s1] at h
  cases h
  exact lv_bipush hx hb hd (am_bi hp.1) (k H locs ls hP hS hl)
set_option maxHeartbeats 1000000 in
theorem am_s_sipush (F : am_fix p s m args c cc R cells slots ρ D cA base o nL scr) (n : Int) {len pc : Nat} {lv : am_L} {st : List am_V} {M : am_M} {r : List Prop × Nat × am_L × List am_V × am_M} (hd : decode cc pc = .ok (.sipush n, len)) (hlen : am_len (.sipush n) = 0 ∨ len = am_len (.sipush n)) (h : am_s1 o nL scr (.sipush n) pc lv st M = some r) (hp : am_all r.1)
    (k : am_at_ p l e R s m args below meth c cells slots Z ρ D cA base nL r.2.1 r.2.2.1 r.2.2.2.1 r.2.2.2.2) : am_at_ p l e R s m args below meth c cells slots Z ρ D cA base nL pc lv st M := by
  obtain ⟨hx, hb, hml, hts, hown, hρ, hE, hRf, hRl, hRc, hRs, hnL, hscr⟩ := F
  obtain ⟨hK, hstr, hnest, hcast, hdecl, hnc, hU, hN⟩ := hE
  intro H locs ls hP hS hl
  have hD := am_ρD (cA := cA) (M := M) hρ
  obtain rfl : len = 3 := hlen.resolve_left (fun q => by cases q)
  dsimp only [am_s1] at h
  cases h
  exact lv_sipush hx hb hd (am_si hp.1) (k H locs ls hP hS hl)
set_option maxHeartbeats 1000000 in
theorem am_s_lconst (F : am_fix p s m args c cc R cells slots ρ D cA base o nL scr) (n : Fin 2) {len pc : Nat} {lv : am_L} {st : List am_V} {M : am_M} {r : List Prop × Nat × am_L × List am_V × am_M} (hd : decode cc pc = .ok (.lconst n, len)) (hlen : am_len (.lconst n) = 0 ∨ len = am_len (.lconst n)) (h : am_s1 o nL scr (.lconst n) pc lv st M = some r) (hp : am_all r.1)
    (k : am_at_ p l e R s m args below meth c cells slots Z ρ D cA base nL r.2.1 r.2.2.1 r.2.2.2.1 r.2.2.2.2) : am_at_ p l e R s m args below meth c cells slots Z ρ D cA base nL pc lv st M := by
  obtain ⟨hx, hb, hml, hts, hown, hρ, hE, hRf, hRl, hRc, hRs, hnL, hscr⟩ := F
  obtain ⟨hK, hstr, hnest, hcast, hdecl, hnc, hU, hN⟩ := hE
  intro H locs ls hP hS hl
  have hD := am_ρD (cA := cA) (M := M) hρ
  obtain rfl : len = 1 := hlen.resolve_left (fun q => by cases q)
  dsimp only [am_s1] at h
  cases h
  exact lv_lconst hx hb hd rfl (k H locs ls hP hS hl)
set_option maxHeartbeats 1000000 in
theorem am_s_dconst (F : am_fix p s m args c cc R cells slots ρ D cA base o nL scr) (n : Fin 2) {len pc : Nat} {lv : am_L} {st : List am_V} {M : am_M} {r : List Prop × Nat × am_L × List am_V × am_M} (hd : decode cc pc = .ok (.dconst n, len)) (hlen : am_len (.dconst n) = 0 ∨ len = am_len (.dconst n)) (h : am_s1 o nL scr (.dconst n) pc lv st M = some r) (hp : am_all r.1)
    (k : am_at_ p l e R s m args below meth c cells slots Z ρ D cA base nL r.2.1 r.2.2.1 r.2.2.2.1 r.2.2.2.2) : am_at_ p l e R s m args below meth c cells slots Z ρ D cA base nL pc lv st M := by
  obtain ⟨hx, hb, hml, hts, hown, hρ, hE, hRf, hRl, hRc, hRs, hnL, hscr⟩ := F
  obtain ⟨hK, hstr, hnest, hcast, hdecl, hnc, hU, hN⟩ := hE
  intro H locs ls hP hS hl
  have hD := am_ρD (cA := cA) (M := M) hρ
  obtain rfl : len = 1 := hlen.resolve_left (fun q => by cases q)
  dsimp only [am_s1] at h
  cases h
  match n, hd, k with
  | 0, hd, k => exact lv_dconst0 hx hb hd (k H locs ls hP hS hl)
  | 1, hd, k => exact lv_dconst1 hx hb hd (k H locs ls hP hS hl)
set_option maxHeartbeats 1000000 in
theorem am_s_aconst_null (F : am_fix p s m args c cc R cells slots ρ D cA base o nL scr)  {len pc : Nat} {lv : am_L} {st : List am_V} {M : am_M} {r : List Prop × Nat × am_L × List am_V × am_M} (hd : decode cc pc = .ok (.aconst_null, len)) (hlen : am_len (.aconst_null) = 0 ∨ len = am_len (.aconst_null)) (h : am_s1 o nL scr (.aconst_null) pc lv st M = some r) (hp : am_all r.1)
    (k : am_at_ p l e R s m args below meth c cells slots Z ρ D cA base nL r.2.1 r.2.2.1 r.2.2.2.1 r.2.2.2.2) : am_at_ p l e R s m args below meth c cells slots Z ρ D cA base nL pc lv st M := by
  obtain ⟨hx, hb, hml, hts, hown, hρ, hE, hRf, hRl, hRc, hRs, hnL, hscr⟩ := F
  obtain ⟨hK, hstr, hnest, hcast, hdecl, hnc, hU, hN⟩ := hE
  intro H locs ls hP hS hl
  have hD := am_ρD (cA := cA) (M := M) hρ
  obtain rfl : len = 1 := hlen.resolve_left (fun q => by cases q)
  dsimp only [am_s1] at h
  cases h
  exact lv_null hx hb hd (k H locs ls hP hS hl)
set_option maxHeartbeats 1000000 in
theorem am_s_ldc (F : am_fix p s m args c cc R cells slots ρ D cA base o nL scr) (i : Nat) {len pc : Nat} {lv : am_L} {st : List am_V} {M : am_M} {r : List Prop × Nat × am_L × List am_V × am_M} (hd : decode cc pc = .ok (.ldc i, len)) (hlen : am_len (.ldc i) = 0 ∨ len = am_len (.ldc i)) (h : am_s1 o nL scr (.ldc i) pc lv st M = some r) (hp : am_all r.1)
    (k : am_at_ p l e R s m args below meth c cells slots Z ρ D cA base nL r.2.1 r.2.2.1 r.2.2.2.1 r.2.2.2.2) : am_at_ p l e R s m args below meth c cells slots Z ρ D cA base nL pc lv st M := by
  obtain ⟨hx, hb, hml, hts, hown, hρ, hE, hRf, hRl, hRc, hRs, hnL, hscr⟩ := F
  obtain ⟨hK, hstr, hnest, hcast, hdecl, hnc, hU, hN⟩ := hE
  intro H locs ls hP hS hl
  have hD := am_ρD (cA := cA) (M := M) hρ
  obtain rfl : len = 2 := hlen.resolve_left (fun q => by cases q)
  dsimp only [am_s1] at h
  cases hc : tb_ci o i with
  | none => rw [hc] at h; cases h
  | some v => rw [hc] at h; cases h; exact lv_ldc hx hb hown (hts _ (am_ci hc)) hd (k H locs ls hP hS hl)
set_option maxHeartbeats 1000000 in
theorem am_s_ldc2_w (F : am_fix p s m args c cc R cells slots ρ D cA base o nL scr) (i : Nat) {len pc : Nat} {lv : am_L} {st : List am_V} {M : am_M} {r : List Prop × Nat × am_L × List am_V × am_M} (hd : decode cc pc = .ok (.ldc2_w i, len)) (hlen : am_len (.ldc2_w i) = 0 ∨ len = am_len (.ldc2_w i)) (h : am_s1 o nL scr (.ldc2_w i) pc lv st M = some r) (hp : am_all r.1)
    (k : am_at_ p l e R s m args below meth c cells slots Z ρ D cA base nL r.2.1 r.2.2.1 r.2.2.2.1 r.2.2.2.2) : am_at_ p l e R s m args below meth c cells slots Z ρ D cA base nL pc lv st M := by
  obtain ⟨hx, hb, hml, hts, hown, hρ, hE, hRf, hRl, hRc, hRs, hnL, hscr⟩ := F
  obtain ⟨hK, hstr, hnest, hcast, hdecl, hnc, hU, hN⟩ := hE
  intro H locs ls hP hS hl
  have hD := am_ρD (cA := cA) (M := M) hρ
  obtain rfl : len = 3 := hlen.resolve_left (fun q => by cases q)
  dsimp only [am_s1] at h
  cases hc : tb_cL o i with
  | some v => rw [hc] at h; cases h; exact lv_ldc2 hx hb hown (hts _ (am_ci2 hc)) hd (k H locs ls hP hS hl)
  | none =>
    rw [hc] at h
    cases hc2 : tb_cd o i with
    | some v => rw [hc2] at h; cases h; exact lv_ldc2d hx hb hown (hts _ (am_ci3 hc2)) hd (k H locs ls hP hS hl)
    | none => rw [hc2] at h; cases h
set_option maxHeartbeats 1000000 in
theorem am_s_iload (F : am_fix p s m args c cc R cells slots ρ D cA base o nL scr) (i : Nat) {len pc : Nat} {lv : am_L} {st : List am_V} {M : am_M} {r : List Prop × Nat × am_L × List am_V × am_M} (hd : decode cc pc = .ok (.iload i, len)) (hlen : am_len (.iload i) = 0 ∨ len = am_len (.iload i)) (h : am_s1 o nL scr (.iload i) pc lv st M = some r) (hp : am_all r.1)
    (k : am_at_ p l e R s m args below meth c cells slots Z ρ D cA base nL r.2.1 r.2.2.1 r.2.2.2.1 r.2.2.2.2) : am_at_ p l e R s m args below meth c cells slots Z ρ D cA base nL pc lv st M := by
  obtain ⟨hx, hb, hml, hts, hown, hρ, hE, hRf, hRl, hRc, hRs, hnL, hscr⟩ := F
  obtain ⟨hK, hstr, hnest, hcast, hdecl, hnc, hU, hN⟩ := hE
  intro H locs ls hP hS hl
  have hD := am_ρD (cA := cA) (M := M) hρ
  obtain rfl : len = 2 := hlen.resolve_left (fun q => by cases q)
  dsimp only [am_s1] at h
  cases hc : am_ldi i lv with
  | none => rw [hc] at h; cases h
  | some v => rw [hc] at h; cases h; exact lv_iload hx hb hd (am_at hl (am_ldi_al hc)) (k H locs ls hP hS hl)
set_option maxHeartbeats 1000000 in
theorem am_s_iload_n (F : am_fix p s m args c cc R cells slots ρ D cA base o nL scr) (i : Fin 4) {len pc : Nat} {lv : am_L} {st : List am_V} {M : am_M} {r : List Prop × Nat × am_L × List am_V × am_M} (hd : decode cc pc = .ok (.iload_n i, len)) (hlen : am_len (.iload_n i) = 0 ∨ len = am_len (.iload_n i)) (h : am_s1 o nL scr (.iload_n i) pc lv st M = some r) (hp : am_all r.1)
    (k : am_at_ p l e R s m args below meth c cells slots Z ρ D cA base nL r.2.1 r.2.2.1 r.2.2.2.1 r.2.2.2.2) : am_at_ p l e R s m args below meth c cells slots Z ρ D cA base nL pc lv st M := by
  obtain ⟨hx, hb, hml, hts, hown, hρ, hE, hRf, hRl, hRc, hRs, hnL, hscr⟩ := F
  obtain ⟨hK, hstr, hnest, hcast, hdecl, hnc, hU, hN⟩ := hE
  intro H locs ls hP hS hl
  have hD := am_ρD (cA := cA) (M := M) hρ
  obtain rfl : len = 1 := hlen.resolve_left (fun q => by cases q)
  dsimp only [am_s1] at h
  cases hc : am_ldi i.val lv with
  | none => rw [hc] at h; cases h
  | some v => rw [hc] at h; cases h; exact lv_iload_n hx hb hd rfl (am_at hl (am_ldi_al hc)) (k H locs ls hP hS hl)
set_option maxHeartbeats 1000000 in
theorem am_s_lload (F : am_fix p s m args c cc R cells slots ρ D cA base o nL scr) (i : Nat) {len pc : Nat} {lv : am_L} {st : List am_V} {M : am_M} {r : List Prop × Nat × am_L × List am_V × am_M} (hd : decode cc pc = .ok (.lload i, len)) (hlen : am_len (.lload i) = 0 ∨ len = am_len (.lload i)) (h : am_s1 o nL scr (.lload i) pc lv st M = some r) (hp : am_all r.1)
    (k : am_at_ p l e R s m args below meth c cells slots Z ρ D cA base nL r.2.1 r.2.2.1 r.2.2.2.1 r.2.2.2.2) : am_at_ p l e R s m args below meth c cells slots Z ρ D cA base nL pc lv st M := by
  obtain ⟨hx, hb, hml, hts, hown, hρ, hE, hRf, hRl, hRc, hRs, hnL, hscr⟩ := F
  obtain ⟨hK, hstr, hnest, hcast, hdecl, hnc, hU, hN⟩ := hE
  intro H locs ls hP hS hl
  have hD := am_ρD (cA := cA) (M := M) hρ
  obtain rfl : len = 2 := hlen.resolve_left (fun q => by cases q)
  dsimp only [am_s1] at h
  cases hc : am_ldl i lv with
  | none => rw [hc] at h; cases h
  | some v => rw [hc] at h; cases h; exact lv_lload hx hb hd (am_at hl (am_ldl_al hc)) (k H locs ls hP hS hl)
set_option maxHeartbeats 1000000 in
theorem am_s_lload_n (F : am_fix p s m args c cc R cells slots ρ D cA base o nL scr) (i : Fin 4) {len pc : Nat} {lv : am_L} {st : List am_V} {M : am_M} {r : List Prop × Nat × am_L × List am_V × am_M} (hd : decode cc pc = .ok (.lload_n i, len)) (hlen : am_len (.lload_n i) = 0 ∨ len = am_len (.lload_n i)) (h : am_s1 o nL scr (.lload_n i) pc lv st M = some r) (hp : am_all r.1)
    (k : am_at_ p l e R s m args below meth c cells slots Z ρ D cA base nL r.2.1 r.2.2.1 r.2.2.2.1 r.2.2.2.2) : am_at_ p l e R s m args below meth c cells slots Z ρ D cA base nL pc lv st M := by
  obtain ⟨hx, hb, hml, hts, hown, hρ, hE, hRf, hRl, hRc, hRs, hnL, hscr⟩ := F
  obtain ⟨hK, hstr, hnest, hcast, hdecl, hnc, hU, hN⟩ := hE
  intro H locs ls hP hS hl
  have hD := am_ρD (cA := cA) (M := M) hρ
  obtain rfl : len = 1 := hlen.resolve_left (fun q => by cases q)
  dsimp only [am_s1] at h
  cases hc : am_ldl i.val lv with
  | none => rw [hc] at h; cases h
  | some v => rw [hc] at h; cases h; exact lv_lload_n hx hb hd rfl (am_at hl (am_ldl_al hc)) (k H locs ls hP hS hl)
set_option maxHeartbeats 1000000 in
theorem am_s_dload (F : am_fix p s m args c cc R cells slots ρ D cA base o nL scr) (i : Nat) {len pc : Nat} {lv : am_L} {st : List am_V} {M : am_M} {r : List Prop × Nat × am_L × List am_V × am_M} (hd : decode cc pc = .ok (.dload i, len)) (hlen : am_len (.dload i) = 0 ∨ len = am_len (.dload i)) (h : am_s1 o nL scr (.dload i) pc lv st M = some r) (hp : am_all r.1)
    (k : am_at_ p l e R s m args below meth c cells slots Z ρ D cA base nL r.2.1 r.2.2.1 r.2.2.2.1 r.2.2.2.2) : am_at_ p l e R s m args below meth c cells slots Z ρ D cA base nL pc lv st M := by
  obtain ⟨hx, hb, hml, hts, hown, hρ, hE, hRf, hRl, hRc, hRs, hnL, hscr⟩ := F
  obtain ⟨hK, hstr, hnest, hcast, hdecl, hnc, hU, hN⟩ := hE
  intro H locs ls hP hS hl
  have hD := am_ρD (cA := cA) (M := M) hρ
  obtain rfl : len = 2 := hlen.resolve_left (fun q => by cases q)
  dsimp only [am_s1] at h
  cases hc : am_ldd i lv with
  | none => rw [hc] at h; cases h
  | some v => rw [hc] at h; cases h; exact lv_dload hx hb hd (am_at hl (am_ldd_al hc)) (k H locs ls hP hS hl)
set_option maxHeartbeats 1000000 in
theorem am_s_dload_n (F : am_fix p s m args c cc R cells slots ρ D cA base o nL scr) (i : Fin 4) {len pc : Nat} {lv : am_L} {st : List am_V} {M : am_M} {r : List Prop × Nat × am_L × List am_V × am_M} (hd : decode cc pc = .ok (.dload_n i, len)) (hlen : am_len (.dload_n i) = 0 ∨ len = am_len (.dload_n i)) (h : am_s1 o nL scr (.dload_n i) pc lv st M = some r) (hp : am_all r.1)
    (k : am_at_ p l e R s m args below meth c cells slots Z ρ D cA base nL r.2.1 r.2.2.1 r.2.2.2.1 r.2.2.2.2) : am_at_ p l e R s m args below meth c cells slots Z ρ D cA base nL pc lv st M := by
  obtain ⟨hx, hb, hml, hts, hown, hρ, hE, hRf, hRl, hRc, hRs, hnL, hscr⟩ := F
  obtain ⟨hK, hstr, hnest, hcast, hdecl, hnc, hU, hN⟩ := hE
  intro H locs ls hP hS hl
  have hD := am_ρD (cA := cA) (M := M) hρ
  obtain rfl : len = 1 := hlen.resolve_left (fun q => by cases q)
  dsimp only [am_s1] at h
  cases hc : am_ldd i.val lv with
  | none => rw [hc] at h; cases h
  | some v => rw [hc] at h; cases h; exact lv_dload_n hx hb hd rfl (am_at hl (am_ldd_al hc)) (k H locs ls hP hS hl)
set_option maxHeartbeats 1000000 in
theorem am_s_aload (F : am_fix p s m args c cc R cells slots ρ D cA base o nL scr) (i : Nat) {len pc : Nat} {lv : am_L} {st : List am_V} {M : am_M} {r : List Prop × Nat × am_L × List am_V × am_M} (hd : decode cc pc = .ok (.aload i, len)) (hlen : am_len (.aload i) = 0 ∨ len = am_len (.aload i)) (h : am_s1 o nL scr (.aload i) pc lv st M = some r) (hp : am_all r.1)
    (k : am_at_ p l e R s m args below meth c cells slots Z ρ D cA base nL r.2.1 r.2.2.1 r.2.2.2.1 r.2.2.2.2) : am_at_ p l e R s m args below meth c cells slots Z ρ D cA base nL pc lv st M := by
  obtain ⟨hx, hb, hml, hts, hown, hρ, hE, hRf, hRl, hRc, hRs, hnL, hscr⟩ := F
  obtain ⟨hK, hstr, hnest, hcast, hdecl, hnc, hU, hN⟩ := hE
  intro H locs ls hP hS hl
  have hD := am_ρD (cA := cA) (M := M) hρ
  obtain rfl : len = 2 := hlen.resolve_left (fun q => by cases q)
  dsimp only [am_s1] at h
  cases hc : am_lda i lv with
  | none => rw [hc] at h; cases h
  | some v =>
    rw [hc] at h; cases h
    have ha := am_at hl (am_lda_al hc)
    cases v with
    | none => exact lv_aloadN hx hb hd ha (k H locs ls hP hS hl)
    | some v => exact lv_aload hx hb hd ha (k H locs ls hP hS hl)
set_option maxHeartbeats 1000000 in
theorem am_s_aload_n (F : am_fix p s m args c cc R cells slots ρ D cA base o nL scr) (i : Fin 4) {len pc : Nat} {lv : am_L} {st : List am_V} {M : am_M} {r : List Prop × Nat × am_L × List am_V × am_M} (hd : decode cc pc = .ok (.aload_n i, len)) (hlen : am_len (.aload_n i) = 0 ∨ len = am_len (.aload_n i)) (h : am_s1 o nL scr (.aload_n i) pc lv st M = some r) (hp : am_all r.1)
    (k : am_at_ p l e R s m args below meth c cells slots Z ρ D cA base nL r.2.1 r.2.2.1 r.2.2.2.1 r.2.2.2.2) : am_at_ p l e R s m args below meth c cells slots Z ρ D cA base nL pc lv st M := by
  obtain ⟨hx, hb, hml, hts, hown, hρ, hE, hRf, hRl, hRc, hRs, hnL, hscr⟩ := F
  obtain ⟨hK, hstr, hnest, hcast, hdecl, hnc, hU, hN⟩ := hE
  intro H locs ls hP hS hl
  have hD := am_ρD (cA := cA) (M := M) hρ
  obtain rfl : len = 1 := hlen.resolve_left (fun q => by cases q)
  dsimp only [am_s1] at h
  cases hc : am_lda i.val lv with
  | none => rw [hc] at h; cases h
  | some v =>
    rw [hc] at h; cases h
    have ha := am_at hl (am_lda_al hc)
    cases v with
    | none => exact lv_aload_nN hx hb hd rfl ha (k H locs ls hP hS hl)
    | some v => exact lv_aload_n hx hb hd rfl ha (k H locs ls hP hS hl)
set_option maxHeartbeats 1000000 in
theorem am_s_istore (F : am_fix p s m args c cc R cells slots ρ D cA base o nL scr) (i : Nat) {len pc : Nat} {lv : am_L} {st : List am_V} {M : am_M} {r : List Prop × Nat × am_L × List am_V × am_M} (hd : decode cc pc = .ok (.istore i, len)) (hlen : am_len (.istore i) = 0 ∨ len = am_len (.istore i)) (h : am_s1 o nL scr (.istore i) pc lv st M = some r) (hp : am_all r.1)
    (k : am_at_ p l e R s m args below meth c cells slots Z ρ D cA base nL r.2.1 r.2.2.1 r.2.2.2.1 r.2.2.2.2) : am_at_ p l e R s m args below meth c cells slots Z ρ D cA base nL pc lv st M := by
  obtain ⟨hx, hb, hml, hts, hown, hρ, hE, hRf, hRl, hRc, hRs, hnL, hscr⟩ := F
  obtain ⟨hK, hstr, hnest, hcast, hdecl, hnc, hU, hN⟩ := hE
  intro H locs ls hP hS hl
  have hD := am_ρD (cA := cA) (M := M) hρ
  obtain rfl : len = 2 := hlen.resolve_left (fun q => by cases q)
  dsimp only [am_s1] at h
  unfold am_sti at h
  split at h
  next x r =>
    obtain ⟨lv', e1, e2⟩ := Option.map_eq_some_iff.mp h
    obtain ⟨hi, rfl⟩ := am_st_eq e1
    cases e2
    exact lv_istore hx hb hd hl hi (by rw [← am_kl_cv]; rfl) (fun ls' hl' => k H locs ls' hP hS hl')
  next => cases h
set_option maxHeartbeats 1000000 in
theorem am_s_istore_n (F : am_fix p s m args c cc R cells slots ρ D cA base o nL scr) (i : Fin 4) {len pc : Nat} {lv : am_L} {st : List am_V} {M : am_M} {r : List Prop × Nat × am_L × List am_V × am_M} (hd : decode cc pc = .ok (.istore_n i, len)) (hlen : am_len (.istore_n i) = 0 ∨ len = am_len (.istore_n i)) (h : am_s1 o nL scr (.istore_n i) pc lv st M = some r) (hp : am_all r.1)
    (k : am_at_ p l e R s m args below meth c cells slots Z ρ D cA base nL r.2.1 r.2.2.1 r.2.2.2.1 r.2.2.2.2) : am_at_ p l e R s m args below meth c cells slots Z ρ D cA base nL pc lv st M := by
  obtain ⟨hx, hb, hml, hts, hown, hρ, hE, hRf, hRl, hRc, hRs, hnL, hscr⟩ := F
  obtain ⟨hK, hstr, hnest, hcast, hdecl, hnc, hU, hN⟩ := hE
  intro H locs ls hP hS hl
  have hD := am_ρD (cA := cA) (M := M) hρ
  obtain rfl : len = 1 := hlen.resolve_left (fun q => by cases q)
  dsimp only [am_s1] at h
  unfold am_sti at h
  split at h
  next x r =>
    obtain ⟨lv', e1, e2⟩ := Option.map_eq_some_iff.mp h
    obtain ⟨hi, rfl⟩ := am_st_eq e1
    cases e2
    exact lv_istore_n hx hb hd rfl hl hi (by rw [← am_kl_cv]; rfl) (fun ls' hl' => k H locs ls' hP hS hl')
  next => cases h
set_option maxHeartbeats 1000000 in
theorem am_s_lstore (F : am_fix p s m args c cc R cells slots ρ D cA base o nL scr) (i : Nat) {len pc : Nat} {lv : am_L} {st : List am_V} {M : am_M} {r : List Prop × Nat × am_L × List am_V × am_M} (hd : decode cc pc = .ok (.lstore i, len)) (hlen : am_len (.lstore i) = 0 ∨ len = am_len (.lstore i)) (h : am_s1 o nL scr (.lstore i) pc lv st M = some r) (hp : am_all r.1)
    (k : am_at_ p l e R s m args below meth c cells slots Z ρ D cA base nL r.2.1 r.2.2.1 r.2.2.2.1 r.2.2.2.2) : am_at_ p l e R s m args below meth c cells slots Z ρ D cA base nL pc lv st M := by
  obtain ⟨hx, hb, hml, hts, hown, hρ, hE, hRf, hRl, hRc, hRs, hnL, hscr⟩ := F
  obtain ⟨hK, hstr, hnest, hcast, hdecl, hnc, hU, hN⟩ := hE
  intro H locs ls hP hS hl
  have hD := am_ρD (cA := cA) (M := M) hρ
  obtain rfl : len = 2 := hlen.resolve_left (fun q => by cases q)
  dsimp only [am_s1] at h
  unfold am_stl at h
  split at h
  next x r =>
    obtain ⟨lv', e1, e2⟩ := Option.map_eq_some_iff.mp h
    obtain ⟨hi, rfl⟩ := am_st2_eq e1
    cases e2
    exact lv_lstore hx hb hd hl hi (by rw [← am_kl2_cv]; rfl) (fun ls' hl' => k H locs ls' hP hS hl')
  next => cases h
set_option maxHeartbeats 1000000 in
theorem am_s_lstore_n (F : am_fix p s m args c cc R cells slots ρ D cA base o nL scr) (i : Fin 4) {len pc : Nat} {lv : am_L} {st : List am_V} {M : am_M} {r : List Prop × Nat × am_L × List am_V × am_M} (hd : decode cc pc = .ok (.lstore_n i, len)) (hlen : am_len (.lstore_n i) = 0 ∨ len = am_len (.lstore_n i)) (h : am_s1 o nL scr (.lstore_n i) pc lv st M = some r) (hp : am_all r.1)
    (k : am_at_ p l e R s m args below meth c cells slots Z ρ D cA base nL r.2.1 r.2.2.1 r.2.2.2.1 r.2.2.2.2) : am_at_ p l e R s m args below meth c cells slots Z ρ D cA base nL pc lv st M := by
  obtain ⟨hx, hb, hml, hts, hown, hρ, hE, hRf, hRl, hRc, hRs, hnL, hscr⟩ := F
  obtain ⟨hK, hstr, hnest, hcast, hdecl, hnc, hU, hN⟩ := hE
  intro H locs ls hP hS hl
  have hD := am_ρD (cA := cA) (M := M) hρ
  obtain rfl : len = 1 := hlen.resolve_left (fun q => by cases q)
  dsimp only [am_s1] at h
  unfold am_stl at h
  split at h
  next x r =>
    obtain ⟨lv', e1, e2⟩ := Option.map_eq_some_iff.mp h
    obtain ⟨hi, rfl⟩ := am_st2_eq e1
    cases e2
    exact lv_lstore_n hx hb hd rfl hl hi (by rw [← am_kl2_cv]; rfl) (fun ls' hl' => k H locs ls' hP hS hl')
  next => cases h
set_option maxHeartbeats 1000000 in
theorem am_s_dstore (F : am_fix p s m args c cc R cells slots ρ D cA base o nL scr) (i : Nat) {len pc : Nat} {lv : am_L} {st : List am_V} {M : am_M} {r : List Prop × Nat × am_L × List am_V × am_M} (hd : decode cc pc = .ok (.dstore i, len)) (hlen : am_len (.dstore i) = 0 ∨ len = am_len (.dstore i)) (h : am_s1 o nL scr (.dstore i) pc lv st M = some r) (hp : am_all r.1)
    (k : am_at_ p l e R s m args below meth c cells slots Z ρ D cA base nL r.2.1 r.2.2.1 r.2.2.2.1 r.2.2.2.2) : am_at_ p l e R s m args below meth c cells slots Z ρ D cA base nL pc lv st M := by
  obtain ⟨hx, hb, hml, hts, hown, hρ, hE, hRf, hRl, hRc, hRs, hnL, hscr⟩ := F
  obtain ⟨hK, hstr, hnest, hcast, hdecl, hnc, hU, hN⟩ := hE
  intro H locs ls hP hS hl
  have hD := am_ρD (cA := cA) (M := M) hρ
  obtain rfl : len = 2 := hlen.resolve_left (fun q => by cases q)
  dsimp only [am_s1] at h
  unfold am_std at h
  split at h
  next x r =>
    obtain ⟨lv', e1, e2⟩ := Option.map_eq_some_iff.mp h
    obtain ⟨hi, rfl⟩ := am_st2_eq e1
    cases e2
    exact lv_dstore hx hb hd hl hi (by rw [← am_kl2_cv]; rfl) (fun ls' hl' => k H locs ls' hP hS hl')
  next => cases h
set_option maxHeartbeats 1000000 in
theorem am_s_dstore_n (F : am_fix p s m args c cc R cells slots ρ D cA base o nL scr) (i : Fin 4) {len pc : Nat} {lv : am_L} {st : List am_V} {M : am_M} {r : List Prop × Nat × am_L × List am_V × am_M} (hd : decode cc pc = .ok (.dstore_n i, len)) (hlen : am_len (.dstore_n i) = 0 ∨ len = am_len (.dstore_n i)) (h : am_s1 o nL scr (.dstore_n i) pc lv st M = some r) (hp : am_all r.1)
    (k : am_at_ p l e R s m args below meth c cells slots Z ρ D cA base nL r.2.1 r.2.2.1 r.2.2.2.1 r.2.2.2.2) : am_at_ p l e R s m args below meth c cells slots Z ρ D cA base nL pc lv st M := by
  obtain ⟨hx, hb, hml, hts, hown, hρ, hE, hRf, hRl, hRc, hRs, hnL, hscr⟩ := F
  obtain ⟨hK, hstr, hnest, hcast, hdecl, hnc, hU, hN⟩ := hE
  intro H locs ls hP hS hl
  have hD := am_ρD (cA := cA) (M := M) hρ
  obtain rfl : len = 1 := hlen.resolve_left (fun q => by cases q)
  dsimp only [am_s1] at h
  unfold am_std at h
  split at h
  next x r =>
    obtain ⟨lv', e1, e2⟩ := Option.map_eq_some_iff.mp h
    obtain ⟨hi, rfl⟩ := am_st2_eq e1
    cases e2
    exact lv_dstore_n hx hb hd rfl hl hi (by rw [← am_kl2_cv]; rfl) (fun ls' hl' => k H locs ls' hP hS hl')
  next => cases h
set_option maxHeartbeats 1000000 in
theorem am_s_astore (F : am_fix p s m args c cc R cells slots ρ D cA base o nL scr) (i : Nat) {len pc : Nat} {lv : am_L} {st : List am_V} {M : am_M} {r : List Prop × Nat × am_L × List am_V × am_M} (hd : decode cc pc = .ok (.astore i, len)) (hlen : am_len (.astore i) = 0 ∨ len = am_len (.astore i)) (h : am_s1 o nL scr (.astore i) pc lv st M = some r) (hp : am_all r.1)
    (k : am_at_ p l e R s m args below meth c cells slots Z ρ D cA base nL r.2.1 r.2.2.1 r.2.2.2.1 r.2.2.2.2) : am_at_ p l e R s m args below meth c cells slots Z ρ D cA base nL pc lv st M := by
  obtain ⟨hx, hb, hml, hts, hown, hρ, hE, hRf, hRl, hRc, hRs, hnL, hscr⟩ := F
  obtain ⟨hK, hstr, hnest, hcast, hdecl, hnc, hU, hN⟩ := hE
  intro H locs ls hP hS hl
  have hD := am_ρD (cA := cA) (M := M) hρ
  obtain rfl : len = 2 := hlen.resolve_left (fun q => by cases q)
  dsimp only [am_s1] at h
  unfold am_sta at h
  split at h
  next x r =>
    obtain ⟨lv', e1, e2⟩ := Option.map_eq_some_iff.mp h
    obtain ⟨hi, rfl⟩ := am_st_eq e1
    cases e2
    cases x with
    | none => exact lv_astoreN hx hb hd hl hi (by rw [← am_kl_cv]; rfl) (fun ls' hl' => k H locs ls' hP hS hl')
    | some x => exact lv_astore hx hb hd hl hi (by rw [← am_kl_cv]; rfl) (fun ls' hl' => k H locs ls' hP hS hl')
  next => cases h
set_option maxHeartbeats 1000000 in
theorem am_s_astore_n (F : am_fix p s m args c cc R cells slots ρ D cA base o nL scr) (i : Fin 4) {len pc : Nat} {lv : am_L} {st : List am_V} {M : am_M} {r : List Prop × Nat × am_L × List am_V × am_M} (hd : decode cc pc = .ok (.astore_n i, len)) (hlen : am_len (.astore_n i) = 0 ∨ len = am_len (.astore_n i)) (h : am_s1 o nL scr (.astore_n i) pc lv st M = some r) (hp : am_all r.1)
    (k : am_at_ p l e R s m args below meth c cells slots Z ρ D cA base nL r.2.1 r.2.2.1 r.2.2.2.1 r.2.2.2.2) : am_at_ p l e R s m args below meth c cells slots Z ρ D cA base nL pc lv st M := by
  obtain ⟨hx, hb, hml, hts, hown, hρ, hE, hRf, hRl, hRc, hRs, hnL, hscr⟩ := F
  obtain ⟨hK, hstr, hnest, hcast, hdecl, hnc, hU, hN⟩ := hE
  intro H locs ls hP hS hl
  have hD := am_ρD (cA := cA) (M := M) hρ
  obtain rfl : len = 1 := hlen.resolve_left (fun q => by cases q)
  dsimp only [am_s1] at h
  unfold am_sta at h
  split at h
  next x r =>
    obtain ⟨lv', e1, e2⟩ := Option.map_eq_some_iff.mp h
    obtain ⟨hi, rfl⟩ := am_st_eq e1
    cases e2
    cases x with
    | none => exact lv_astore_nN hx hb hd rfl hl hi (by rw [← am_kl_cv]; rfl) (fun ls' hl' => k H locs ls' hP hS hl')
    | some x => exact lv_astore_n hx hb hd rfl hl hi (by rw [← am_kl_cv]; rfl) (fun ls' hl' => k H locs ls' hP hS hl')
  next => cases h
set_option maxHeartbeats 1000000 in
theorem am_s_iinc (F : am_fix p s m args c cc R cells slots ρ D cA base o nL scr) (i : Nat) (n : Int) {len pc : Nat} {lv : am_L} {st : List am_V} {M : am_M} {r : List Prop × Nat × am_L × List am_V × am_M} (hd : decode cc pc = .ok (.iinc i n, len)) (hlen : am_len (.iinc i n) = 0 ∨ len = am_len (.iinc i n)) (h : am_s1 o nL scr (.iinc i n) pc lv st M = some r) (hp : am_all r.1)
    (k : am_at_ p l e R s m args below meth c cells slots Z ρ D cA base nL r.2.1 r.2.2.1 r.2.2.2.1 r.2.2.2.2) : am_at_ p l e R s m args below meth c cells slots Z ρ D cA base nL pc lv st M := by
  obtain ⟨hx, hb, hml, hts, hown, hρ, hE, hRf, hRl, hRc, hRs, hnL, hscr⟩ := F
  obtain ⟨hK, hstr, hnest, hcast, hdecl, hnc, hU, hN⟩ := hE
  intro H locs ls hP hS hl
  have hD := am_ρD (cA := cA) (M := M) hρ
  obtain rfl : len = 3 := hlen.resolve_left (fun q => by cases q)
  dsimp only [am_s1] at h
  split at h
  next x hc =>
    obtain ⟨lv', e1, e2⟩ := Option.map_eq_some_iff.mp h
    obtain ⟨hi, rfl⟩ := am_st_eq e1
    cases e2
    have hm := am_al_in (am_ldi_al hc)
    obtain ⟨q, hq⟩ := List.getElem?_of_mem hm
    exact lv_iinc (k := q) (x := Int32.ofInt x) hx hb hd hl (by unfold am_cl; rw [List.getElem?_map, hq]; rfl) rfl hi (by rw [← am_kl_cv, ← Int32.ofInt_add]; rfl) (fun ls' hl' => k H locs ls' hP hS hl')
  next => cases h
set_option maxHeartbeats 1000000 in
theorem am_s_iadd (F : am_fix p s m args c cc R cells slots ρ D cA base o nL scr)  {len pc : Nat} {lv : am_L} {st : List am_V} {M : am_M} {r : List Prop × Nat × am_L × List am_V × am_M} (hd : decode cc pc = .ok (.iadd, len)) (hlen : am_len (.iadd) = 0 ∨ len = am_len (.iadd)) (h : am_s1 o nL scr (.iadd) pc lv st M = some r) (hp : am_all r.1)
    (k : am_at_ p l e R s m args below meth c cells slots Z ρ D cA base nL r.2.1 r.2.2.1 r.2.2.2.1 r.2.2.2.2) : am_at_ p l e R s m args below meth c cells slots Z ρ D cA base nL pc lv st M := by
  obtain ⟨hx, hb, hml, hts, hown, hρ, hE, hRf, hRl, hRc, hRs, hnL, hscr⟩ := F
  obtain ⟨hK, hstr, hnest, hcast, hdecl, hnc, hU, hN⟩ := hE
  intro H locs ls hP hS hl
  have hD := am_ρD (cA := cA) (M := M) hρ
  obtain rfl : len = 1 := hlen.resolve_left (fun q => by cases q)
  dsimp only [am_s1] at h
  split at h
  next y x r0 =>
    cases h
    have k1 := k H locs ls hP hS hl
    refine lv_iadd hx hb hd ?_
    rw [← Int32.ofInt_add]
    exact k1
  next => cases h
set_option maxHeartbeats 1000000 in
theorem am_s_isub (F : am_fix p s m args c cc R cells slots ρ D cA base o nL scr)  {len pc : Nat} {lv : am_L} {st : List am_V} {M : am_M} {r : List Prop × Nat × am_L × List am_V × am_M} (hd : decode cc pc = .ok (.isub, len)) (hlen : am_len (.isub) = 0 ∨ len = am_len (.isub)) (h : am_s1 o nL scr (.isub) pc lv st M = some r) (hp : am_all r.1)
    (k : am_at_ p l e R s m args below meth c cells slots Z ρ D cA base nL r.2.1 r.2.2.1 r.2.2.2.1 r.2.2.2.2) : am_at_ p l e R s m args below meth c cells slots Z ρ D cA base nL pc lv st M := by
  obtain ⟨hx, hb, hml, hts, hown, hρ, hE, hRf, hRl, hRc, hRs, hnL, hscr⟩ := F
  obtain ⟨hK, hstr, hnest, hcast, hdecl, hnc, hU, hN⟩ := hE
  intro H locs ls hP hS hl
  have hD := am_ρD (cA := cA) (M := M) hρ
  obtain rfl : len = 1 := hlen.resolve_left (fun q => by cases q)
  dsimp only [am_s1] at h
  split at h
  next y x r0 =>
    cases h
    have k1 := k H locs ls hP hS hl
    refine lv_isub hx hb hd ?_
    rw [← Int32.ofInt_sub]
    exact k1
  next => cases h
set_option maxHeartbeats 1000000 in
theorem am_s_imul (F : am_fix p s m args c cc R cells slots ρ D cA base o nL scr)  {len pc : Nat} {lv : am_L} {st : List am_V} {M : am_M} {r : List Prop × Nat × am_L × List am_V × am_M} (hd : decode cc pc = .ok (.imul, len)) (hlen : am_len (.imul) = 0 ∨ len = am_len (.imul)) (h : am_s1 o nL scr (.imul) pc lv st M = some r) (hp : am_all r.1)
    (k : am_at_ p l e R s m args below meth c cells slots Z ρ D cA base nL r.2.1 r.2.2.1 r.2.2.2.1 r.2.2.2.2) : am_at_ p l e R s m args below meth c cells slots Z ρ D cA base nL pc lv st M := by
  obtain ⟨hx, hb, hml, hts, hown, hρ, hE, hRf, hRl, hRc, hRs, hnL, hscr⟩ := F
  obtain ⟨hK, hstr, hnest, hcast, hdecl, hnc, hU, hN⟩ := hE
  intro H locs ls hP hS hl
  have hD := am_ρD (cA := cA) (M := M) hρ
  obtain rfl : len = 1 := hlen.resolve_left (fun q => by cases q)
  dsimp only [am_s1] at h
  split at h
  next y x r0 =>
    cases h
    have k1 := k H locs ls hP hS hl
    refine lv_imul hx hb hd ?_
    rw [← Int32.ofInt_mul]
    exact k1
  next => cases h
set_option maxHeartbeats 1000000 in
theorem am_s_ladd (F : am_fix p s m args c cc R cells slots ρ D cA base o nL scr)  {len pc : Nat} {lv : am_L} {st : List am_V} {M : am_M} {r : List Prop × Nat × am_L × List am_V × am_M} (hd : decode cc pc = .ok (.ladd, len)) (hlen : am_len (.ladd) = 0 ∨ len = am_len (.ladd)) (h : am_s1 o nL scr (.ladd) pc lv st M = some r) (hp : am_all r.1)
    (k : am_at_ p l e R s m args below meth c cells slots Z ρ D cA base nL r.2.1 r.2.2.1 r.2.2.2.1 r.2.2.2.2) : am_at_ p l e R s m args below meth c cells slots Z ρ D cA base nL pc lv st M := by
  obtain ⟨hx, hb, hml, hts, hown, hρ, hE, hRf, hRl, hRc, hRs, hnL, hscr⟩ := F
  obtain ⟨hK, hstr, hnest, hcast, hdecl, hnc, hU, hN⟩ := hE
  intro H locs ls hP hS hl
  have hD := am_ρD (cA := cA) (M := M) hρ
  obtain rfl : len = 1 := hlen.resolve_left (fun q => by cases q)
  dsimp only [am_s1] at h
  split at h
  next y x r0 =>
    cases h
    have k1 := k H locs ls hP hS hl
    refine lv_ladd hx hb hd ?_
    rw [← Int64.ofInt_add]
    exact k1
  next => cases h
set_option maxHeartbeats 1000000 in
theorem am_s_lsub (F : am_fix p s m args c cc R cells slots ρ D cA base o nL scr)  {len pc : Nat} {lv : am_L} {st : List am_V} {M : am_M} {r : List Prop × Nat × am_L × List am_V × am_M} (hd : decode cc pc = .ok (.lsub, len)) (hlen : am_len (.lsub) = 0 ∨ len = am_len (.lsub)) (h : am_s1 o nL scr (.lsub) pc lv st M = some r) (hp : am_all r.1)
    (k : am_at_ p l e R s m args below meth c cells slots Z ρ D cA base nL r.2.1 r.2.2.1 r.2.2.2.1 r.2.2.2.2) : am_at_ p l e R s m args below meth c cells slots Z ρ D cA base nL pc lv st M := by
  obtain ⟨hx, hb, hml, hts, hown, hρ, hE, hRf, hRl, hRc, hRs, hnL, hscr⟩ := F
  obtain ⟨hK, hstr, hnest, hcast, hdecl, hnc, hU, hN⟩ := hE
  intro H locs ls hP hS hl
  have hD := am_ρD (cA := cA) (M := M) hρ
  obtain rfl : len = 1 := hlen.resolve_left (fun q => by cases q)
  dsimp only [am_s1] at h
  split at h
  next y x r0 =>
    cases h
    have k1 := k H locs ls hP hS hl
    refine lv_lsub hx hb hd ?_
    rw [← Int64.ofInt_sub]
    exact k1
  next => cases h
set_option maxHeartbeats 1000000 in
theorem am_s_lmul (F : am_fix p s m args c cc R cells slots ρ D cA base o nL scr)  {len pc : Nat} {lv : am_L} {st : List am_V} {M : am_M} {r : List Prop × Nat × am_L × List am_V × am_M} (hd : decode cc pc = .ok (.lmul, len)) (hlen : am_len (.lmul) = 0 ∨ len = am_len (.lmul)) (h : am_s1 o nL scr (.lmul) pc lv st M = some r) (hp : am_all r.1)
    (k : am_at_ p l e R s m args below meth c cells slots Z ρ D cA base nL r.2.1 r.2.2.1 r.2.2.2.1 r.2.2.2.2) : am_at_ p l e R s m args below meth c cells slots Z ρ D cA base nL pc lv st M := by
  obtain ⟨hx, hb, hml, hts, hown, hρ, hE, hRf, hRl, hRc, hRs, hnL, hscr⟩ := F
  obtain ⟨hK, hstr, hnest, hcast, hdecl, hnc, hU, hN⟩ := hE
  intro H locs ls hP hS hl
  have hD := am_ρD (cA := cA) (M := M) hρ
  obtain rfl : len = 1 := hlen.resolve_left (fun q => by cases q)
  dsimp only [am_s1] at h
  split at h
  next y x r0 =>
    cases h
    have k1 := k H locs ls hP hS hl
    refine lv_lmul hx hb hd ?_
    rw [← Int64.ofInt_mul]
    exact k1
  next => cases h
set_option maxHeartbeats 1000000 in
theorem am_s_iand (F : am_fix p s m args c cc R cells slots ρ D cA base o nL scr)  {len pc : Nat} {lv : am_L} {st : List am_V} {M : am_M} {r : List Prop × Nat × am_L × List am_V × am_M} (hd : decode cc pc = .ok (.iand, len)) (hlen : am_len (.iand) = 0 ∨ len = am_len (.iand)) (h : am_s1 o nL scr (.iand) pc lv st M = some r) (hp : am_all r.1)
    (k : am_at_ p l e R s m args below meth c cells slots Z ρ D cA base nL r.2.1 r.2.2.1 r.2.2.2.1 r.2.2.2.2) : am_at_ p l e R s m args below meth c cells slots Z ρ D cA base nL pc lv st M := by
  obtain ⟨hx, hb, hml, hts, hown, hρ, hE, hRf, hRl, hRc, hRs, hnL, hscr⟩ := F
  obtain ⟨hK, hstr, hnest, hcast, hdecl, hnc, hU, hN⟩ := hE
  intro H locs ls hP hS hl
  have hD := am_ρD (cA := cA) (M := M) hρ
  obtain rfl : len = 1 := hlen.resolve_left (fun q => by cases q)
  dsimp only [am_s1] at h
  split at h
  next y x r0 =>
    cases h
    have k1 := k H locs ls hP hS hl
    refine lv_iand hx hb hd ?_
    rw [← am_of32 (_ &&& _)]
    exact k1
  next => cases h
set_option maxHeartbeats 1000000 in
theorem am_s_ior (F : am_fix p s m args c cc R cells slots ρ D cA base o nL scr)  {len pc : Nat} {lv : am_L} {st : List am_V} {M : am_M} {r : List Prop × Nat × am_L × List am_V × am_M} (hd : decode cc pc = .ok (.ior, len)) (hlen : am_len (.ior) = 0 ∨ len = am_len (.ior)) (h : am_s1 o nL scr (.ior) pc lv st M = some r) (hp : am_all r.1)
    (k : am_at_ p l e R s m args below meth c cells slots Z ρ D cA base nL r.2.1 r.2.2.1 r.2.2.2.1 r.2.2.2.2) : am_at_ p l e R s m args below meth c cells slots Z ρ D cA base nL pc lv st M := by
  obtain ⟨hx, hb, hml, hts, hown, hρ, hE, hRf, hRl, hRc, hRs, hnL, hscr⟩ := F
  obtain ⟨hK, hstr, hnest, hcast, hdecl, hnc, hU, hN⟩ := hE
  intro H locs ls hP hS hl
  have hD := am_ρD (cA := cA) (M := M) hρ
  obtain rfl : len = 1 := hlen.resolve_left (fun q => by cases q)
  dsimp only [am_s1] at h
  split at h
  next y x r0 =>
    cases h
    have k1 := k H locs ls hP hS hl
    refine lv_ior hx hb hd ?_
    rw [← am_of32 (_ ||| _)]
    exact k1
  next => cases h
set_option maxHeartbeats 1000000 in
theorem am_s_ixor (F : am_fix p s m args c cc R cells slots ρ D cA base o nL scr)  {len pc : Nat} {lv : am_L} {st : List am_V} {M : am_M} {r : List Prop × Nat × am_L × List am_V × am_M} (hd : decode cc pc = .ok (.ixor, len)) (hlen : am_len (.ixor) = 0 ∨ len = am_len (.ixor)) (h : am_s1 o nL scr (.ixor) pc lv st M = some r) (hp : am_all r.1)
    (k : am_at_ p l e R s m args below meth c cells slots Z ρ D cA base nL r.2.1 r.2.2.1 r.2.2.2.1 r.2.2.2.2) : am_at_ p l e R s m args below meth c cells slots Z ρ D cA base nL pc lv st M := by
  obtain ⟨hx, hb, hml, hts, hown, hρ, hE, hRf, hRl, hRc, hRs, hnL, hscr⟩ := F
  obtain ⟨hK, hstr, hnest, hcast, hdecl, hnc, hU, hN⟩ := hE
  intro H locs ls hP hS hl
  have hD := am_ρD (cA := cA) (M := M) hρ
  obtain rfl : len = 1 := hlen.resolve_left (fun q => by cases q)
  dsimp only [am_s1] at h
  split at h
  next y x r0 =>
    cases h
    have k1 := k H locs ls hP hS hl
    refine lv_ixor hx hb hd ?_
    rw [← am_of32 (_ ^^^ _)]
    exact k1
  next => cases h
set_option maxHeartbeats 1000000 in
theorem am_s_ineg (F : am_fix p s m args c cc R cells slots ρ D cA base o nL scr)  {len pc : Nat} {lv : am_L} {st : List am_V} {M : am_M} {r : List Prop × Nat × am_L × List am_V × am_M} (hd : decode cc pc = .ok (.ineg, len)) (hlen : am_len (.ineg) = 0 ∨ len = am_len (.ineg)) (h : am_s1 o nL scr (.ineg) pc lv st M = some r) (hp : am_all r.1)
    (k : am_at_ p l e R s m args below meth c cells slots Z ρ D cA base nL r.2.1 r.2.2.1 r.2.2.2.1 r.2.2.2.2) : am_at_ p l e R s m args below meth c cells slots Z ρ D cA base nL pc lv st M := by
  obtain ⟨hx, hb, hml, hts, hown, hρ, hE, hRf, hRl, hRc, hRs, hnL, hscr⟩ := F
  obtain ⟨hK, hstr, hnest, hcast, hdecl, hnc, hU, hN⟩ := hE
  intro H locs ls hP hS hl
  have hD := am_ρD (cA := cA) (M := M) hρ
  obtain rfl : len = 1 := hlen.resolve_left (fun q => by cases q)
  dsimp only [am_s1] at h
  split at h
  next x r0 =>
    cases h
    have k1 := k H locs ls hP hS hl
    refine lv_ineg hx hb hd ?_
    rw [← Int32.ofInt_neg]
    exact k1
  next => cases h
set_option maxHeartbeats 1000000 in
theorem am_s_idiv (F : am_fix p s m args c cc R cells slots ρ D cA base o nL scr)  {len pc : Nat} {lv : am_L} {st : List am_V} {M : am_M} {r : List Prop × Nat × am_L × List am_V × am_M} (hd : decode cc pc = .ok (.idiv, len)) (hlen : am_len (.idiv) = 0 ∨ len = am_len (.idiv)) (h : am_s1 o nL scr (.idiv) pc lv st M = some r) (hp : am_all r.1)
    (k : am_at_ p l e R s m args below meth c cells slots Z ρ D cA base nL r.2.1 r.2.2.1 r.2.2.2.1 r.2.2.2.2) : am_at_ p l e R s m args below meth c cells slots Z ρ D cA base nL pc lv st M := by
  obtain ⟨hx, hb, hml, hts, hown, hρ, hE, hRf, hRl, hRc, hRs, hnL, hscr⟩ := F
  obtain ⟨hK, hstr, hnest, hcast, hdecl, hnc, hU, hN⟩ := hE
  intro H locs ls hP hS hl
  have hD := am_ρD (cA := cA) (M := M) hρ
  obtain rfl : len = 1 := hlen.resolve_left (fun q => by cases q)
  dsimp only [am_s1] at h
  split at h
  next y x r0 =>
    cases h
    obtain ⟨⟨hx1, hy1, h0⟩, -⟩ := hp
    have k1 := k H locs ls hP hS hl
    refine lv_idiv hx hb hd (fun q => ?_) ?_
    · have q2 := congrArg Int32.toInt q
      rw [am_toInt hy1] at q2
      change y = 0 at q2
      omega
    · rw [am_div hx1 hy1 h0]
      exact k1
  next => cases h
set_option maxHeartbeats 1000000 in
theorem am_s_irem (F : am_fix p s m args c cc R cells slots ρ D cA base o nL scr)  {len pc : Nat} {lv : am_L} {st : List am_V} {M : am_M} {r : List Prop × Nat × am_L × List am_V × am_M} (hd : decode cc pc = .ok (.irem, len)) (hlen : am_len (.irem) = 0 ∨ len = am_len (.irem)) (h : am_s1 o nL scr (.irem) pc lv st M = some r) (hp : am_all r.1)
    (k : am_at_ p l e R s m args below meth c cells slots Z ρ D cA base nL r.2.1 r.2.2.1 r.2.2.2.1 r.2.2.2.2) : am_at_ p l e R s m args below meth c cells slots Z ρ D cA base nL pc lv st M := by
  obtain ⟨hx, hb, hml, hts, hown, hρ, hE, hRf, hRl, hRc, hRs, hnL, hscr⟩ := F
  obtain ⟨hK, hstr, hnest, hcast, hdecl, hnc, hU, hN⟩ := hE
  intro H locs ls hP hS hl
  have hD := am_ρD (cA := cA) (M := M) hρ
  obtain rfl : len = 1 := hlen.resolve_left (fun q => by cases q)
  dsimp only [am_s1] at h
  split at h
  next y x r0 =>
    cases h
    obtain ⟨⟨hx1, hy1, h0⟩, -⟩ := hp
    have k1 := k H locs ls hP hS hl
    refine lv_irem hx hb hd (fun q => ?_) ?_
    · have q2 := congrArg Int32.toInt q
      rw [am_toInt hy1] at q2
      change y = 0 at q2
      omega
    · rw [am_rem hx1 hy1 h0]
      exact k1
  next => cases h
set_option maxHeartbeats 1000000 in
theorem am_s_ldiv (F : am_fix p s m args c cc R cells slots ρ D cA base o nL scr)  {len pc : Nat} {lv : am_L} {st : List am_V} {M : am_M} {r : List Prop × Nat × am_L × List am_V × am_M} (hd : decode cc pc = .ok (.ldiv, len)) (hlen : am_len (.ldiv) = 0 ∨ len = am_len (.ldiv)) (h : am_s1 o nL scr (.ldiv) pc lv st M = some r) (hp : am_all r.1)
    (k : am_at_ p l e R s m args below meth c cells slots Z ρ D cA base nL r.2.1 r.2.2.1 r.2.2.2.1 r.2.2.2.2) : am_at_ p l e R s m args below meth c cells slots Z ρ D cA base nL pc lv st M := by
  obtain ⟨hx, hb, hml, hts, hown, hρ, hE, hRf, hRl, hRc, hRs, hnL, hscr⟩ := F
  obtain ⟨hK, hstr, hnest, hcast, hdecl, hnc, hU, hN⟩ := hE
  intro H locs ls hP hS hl
  have hD := am_ρD (cA := cA) (M := M) hρ
  obtain rfl : len = 1 := hlen.resolve_left (fun q => by cases q)
  dsimp only [am_s1] at h
  split at h
  next y x r0 =>
    cases h
    obtain ⟨⟨hx1, hy1, h0⟩, -⟩ := hp
    have k1 := k H locs ls hP hS hl
    refine lv_ldiv hx hb hd (fun q => ?_) ?_
    · have q2 := congrArg Int64.toInt q
      rw [am_toIntL hy1] at q2
      change y = 0 at q2
      omega
    · rw [am_divL hx1 hy1 h0]
      exact k1
  next => cases h
set_option maxHeartbeats 1000000 in
theorem am_s_i2l (F : am_fix p s m args c cc R cells slots ρ D cA base o nL scr)  {len pc : Nat} {lv : am_L} {st : List am_V} {M : am_M} {r : List Prop × Nat × am_L × List am_V × am_M} (hd : decode cc pc = .ok (.i2l, len)) (hlen : am_len (.i2l) = 0 ∨ len = am_len (.i2l)) (h : am_s1 o nL scr (.i2l) pc lv st M = some r) (hp : am_all r.1)
    (k : am_at_ p l e R s m args below meth c cells slots Z ρ D cA base nL r.2.1 r.2.2.1 r.2.2.2.1 r.2.2.2.2) : am_at_ p l e R s m args below meth c cells slots Z ρ D cA base nL pc lv st M := by
  obtain ⟨hx, hb, hml, hts, hown, hρ, hE, hRf, hRl, hRc, hRs, hnL, hscr⟩ := F
  obtain ⟨hK, hstr, hnest, hcast, hdecl, hnc, hU, hN⟩ := hE
  intro H locs ls hP hS hl
  have hD := am_ρD (cA := cA) (M := M) hρ
  obtain rfl : len = 1 := hlen.resolve_left (fun q => by cases q)
  dsimp only [am_s1] at h
  split at h
  next x r0 =>
    cases h
    exact lv_i2l hx hb hd (am_i2l hp.1) (k H locs ls hP hS hl)
  next => cases h
set_option maxHeartbeats 1000000 in
theorem am_s_l2i (F : am_fix p s m args c cc R cells slots ρ D cA base o nL scr)  {len pc : Nat} {lv : am_L} {st : List am_V} {M : am_M} {r : List Prop × Nat × am_L × List am_V × am_M} (hd : decode cc pc = .ok (.l2i, len)) (hlen : am_len (.l2i) = 0 ∨ len = am_len (.l2i)) (h : am_s1 o nL scr (.l2i) pc lv st M = some r) (hp : am_all r.1)
    (k : am_at_ p l e R s m args below meth c cells slots Z ρ D cA base nL r.2.1 r.2.2.1 r.2.2.2.1 r.2.2.2.2) : am_at_ p l e R s m args below meth c cells slots Z ρ D cA base nL pc lv st M := by
  obtain ⟨hx, hb, hml, hts, hown, hρ, hE, hRf, hRl, hRc, hRs, hnL, hscr⟩ := F
  obtain ⟨hK, hstr, hnest, hcast, hdecl, hnc, hU, hN⟩ := hE
  intro H locs ls hP hS hl
  have hD := am_ρD (cA := cA) (M := M) hρ
  obtain rfl : len = 1 := hlen.resolve_left (fun q => by cases q)
  dsimp only [am_s1] at h
  split at h
  next x r0 =>
    cases h
    exact lv_l2i hx hb hd (am_l2i x) (k H locs ls hP hS hl)
  next => cases h
set_option maxHeartbeats 1000000 in
theorem am_s_i2d (F : am_fix p s m args c cc R cells slots ρ D cA base o nL scr)  {len pc : Nat} {lv : am_L} {st : List am_V} {M : am_M} {r : List Prop × Nat × am_L × List am_V × am_M} (hd : decode cc pc = .ok (.i2d, len)) (hlen : am_len (.i2d) = 0 ∨ len = am_len (.i2d)) (h : am_s1 o nL scr (.i2d) pc lv st M = some r) (hp : am_all r.1)
    (k : am_at_ p l e R s m args below meth c cells slots Z ρ D cA base nL r.2.1 r.2.2.1 r.2.2.2.1 r.2.2.2.2) : am_at_ p l e R s m args below meth c cells slots Z ρ D cA base nL pc lv st M := by
  obtain ⟨hx, hb, hml, hts, hown, hρ, hE, hRf, hRl, hRc, hRs, hnL, hscr⟩ := F
  obtain ⟨hK, hstr, hnest, hcast, hdecl, hnc, hU, hN⟩ := hE
  intro H locs ls hP hS hl
  have hD := am_ρD (cA := cA) (M := M) hρ
  obtain rfl : len = 1 := hlen.resolve_left (fun q => by cases q)
  dsimp only [am_s1] at h
  split at h
  next x r0 =>
    cases h
    exact lv_i2d hx hb hd (k H locs ls hP hS hl)
  next => cases h
set_option maxHeartbeats 1000000 in
theorem am_s_d2l (F : am_fix p s m args c cc R cells slots ρ D cA base o nL scr)  {len pc : Nat} {lv : am_L} {st : List am_V} {M : am_M} {r : List Prop × Nat × am_L × List am_V × am_M} (hd : decode cc pc = .ok (.d2l, len)) (hlen : am_len (.d2l) = 0 ∨ len = am_len (.d2l)) (h : am_s1 o nL scr (.d2l) pc lv st M = some r) (hp : am_all r.1)
    (k : am_at_ p l e R s m args below meth c cells slots Z ρ D cA base nL r.2.1 r.2.2.1 r.2.2.2.1 r.2.2.2.2) : am_at_ p l e R s m args below meth c cells slots Z ρ D cA base nL pc lv st M := by
  obtain ⟨hx, hb, hml, hts, hown, hρ, hE, hRf, hRl, hRc, hRs, hnL, hscr⟩ := F
  obtain ⟨hK, hstr, hnest, hcast, hdecl, hnc, hU, hN⟩ := hE
  intro H locs ls hP hS hl
  have hD := am_ρD (cA := cA) (M := M) hρ
  obtain rfl : len = 1 := hlen.resolve_left (fun q => by cases q)
  dsimp only [am_s1] at h
  split at h
  next x r0 =>
    cases h
    have k1 := k H locs ls hP hS hl
    refine lv_d2l hx hb hd ?_
    rw [← am_of64 (FP.d2l x)]
    exact k1
  next => cases h
set_option maxHeartbeats 1000000 in
theorem am_s_lshl (F : am_fix p s m args c cc R cells slots ρ D cA base o nL scr)  {len pc : Nat} {lv : am_L} {st : List am_V} {M : am_M} {r : List Prop × Nat × am_L × List am_V × am_M} (hd : decode cc pc = .ok (.lshl, len)) (hlen : am_len (.lshl) = 0 ∨ len = am_len (.lshl)) (h : am_s1 o nL scr (.lshl) pc lv st M = some r) (hp : am_all r.1)
    (k : am_at_ p l e R s m args below meth c cells slots Z ρ D cA base nL r.2.1 r.2.2.1 r.2.2.2.1 r.2.2.2.2) : am_at_ p l e R s m args below meth c cells slots Z ρ D cA base nL pc lv st M := by
  obtain ⟨hx, hb, hml, hts, hown, hρ, hE, hRf, hRl, hRc, hRs, hnL, hscr⟩ := F
  obtain ⟨hK, hstr, hnest, hcast, hdecl, hnc, hU, hN⟩ := hE
  intro H locs ls hP hS hl
  have hD := am_ρD (cA := cA) (M := M) hρ
  obtain rfl : len = 1 := hlen.resolve_left (fun q => by cases q)
  dsimp only [am_s1] at h
  split at h
  next y x r0 =>
    cases h
    exact lv_lshl hx hb hd (am_of64 _).symm (k H locs ls hP hS hl)
  next => cases h
set_option maxHeartbeats 1000000 in
theorem am_s_lcmp (F : am_fix p s m args c cc R cells slots ρ D cA base o nL scr)  {len pc : Nat} {lv : am_L} {st : List am_V} {M : am_M} {r : List Prop × Nat × am_L × List am_V × am_M} (hd : decode cc pc = .ok (.lcmp, len)) (hlen : am_len (.lcmp) = 0 ∨ len = am_len (.lcmp)) (h : am_s1 o nL scr (.lcmp) pc lv st M = some r) (hp : am_all r.1)
    (k : am_at_ p l e R s m args below meth c cells slots Z ρ D cA base nL r.2.1 r.2.2.1 r.2.2.2.1 r.2.2.2.2) : am_at_ p l e R s m args below meth c cells slots Z ρ D cA base nL pc lv st M := by
  obtain ⟨hx, hb, hml, hts, hown, hρ, hE, hRf, hRl, hRc, hRs, hnL, hscr⟩ := F
  obtain ⟨hK, hstr, hnest, hcast, hdecl, hnc, hU, hN⟩ := hE
  intro H locs ls hP hS hl
  have hD := am_ρD (cA := cA) (M := M) hρ
  obtain rfl : len = 1 := hlen.resolve_left (fun q => by cases q)
  dsimp only [am_s1] at h
  split at h
  next y x r0 =>
    cases h
    have k1 := k H locs ls hP hS hl
    refine W.lcmp hx hb hd ?_
    rw [am_lc hp.1]
    exact k1
  next => cases h
set_option maxHeartbeats 1000000 in
theorem am_s_ddiv (F : am_fix p s m args c cc R cells slots ρ D cA base o nL scr)  {len pc : Nat} {lv : am_L} {st : List am_V} {M : am_M} {r : List Prop × Nat × am_L × List am_V × am_M} (hd : decode cc pc = .ok (.ddiv, len)) (hlen : am_len (.ddiv) = 0 ∨ len = am_len (.ddiv)) (h : am_s1 o nL scr (.ddiv) pc lv st M = some r) (hp : am_all r.1)
    (k : am_at_ p l e R s m args below meth c cells slots Z ρ D cA base nL r.2.1 r.2.2.1 r.2.2.2.1 r.2.2.2.2) : am_at_ p l e R s m args below meth c cells slots Z ρ D cA base nL pc lv st M := by
  obtain ⟨hx, hb, hml, hts, hown, hρ, hE, hRf, hRl, hRc, hRs, hnL, hscr⟩ := F
  obtain ⟨hK, hstr, hnest, hcast, hdecl, hnc, hU, hN⟩ := hE
  intro H locs ls hP hS hl
  have hD := am_ρD (cA := cA) (M := M) hρ
  obtain rfl : len = 1 := hlen.resolve_left (fun q => by cases q)
  dsimp only [am_s1] at h
  split at h
  next y x r0 =>
    cases h
    exact lv_ddiv hx hb hd hp.1 (k H locs ls hP hS hl)
  next => cases h
set_option maxHeartbeats 1000000 in
theorem am_s_dmul (F : am_fix p s m args c cc R cells slots ρ D cA base o nL scr)  {len pc : Nat} {lv : am_L} {st : List am_V} {M : am_M} {r : List Prop × Nat × am_L × List am_V × am_M} (hd : decode cc pc = .ok (.dmul, len)) (hlen : am_len (.dmul) = 0 ∨ len = am_len (.dmul)) (h : am_s1 o nL scr (.dmul) pc lv st M = some r) (hp : am_all r.1)
    (k : am_at_ p l e R s m args below meth c cells slots Z ρ D cA base nL r.2.1 r.2.2.1 r.2.2.2.1 r.2.2.2.2) : am_at_ p l e R s m args below meth c cells slots Z ρ D cA base nL pc lv st M := by
  obtain ⟨hx, hb, hml, hts, hown, hρ, hE, hRf, hRl, hRc, hRs, hnL, hscr⟩ := F
  obtain ⟨hK, hstr, hnest, hcast, hdecl, hnc, hU, hN⟩ := hE
  intro H locs ls hP hS hl
  have hD := am_ρD (cA := cA) (M := M) hρ
  obtain rfl : len = 1 := hlen.resolve_left (fun q => by cases q)
  dsimp only [am_s1] at h
  split at h
  next y x r0 =>
    cases h
    exact lv_dmul hx hb hd hp.1 (k H locs ls hP hS hl)
  next => cases h
set_option maxHeartbeats 1000000 in
theorem am_s_dsub (F : am_fix p s m args c cc R cells slots ρ D cA base o nL scr)  {len pc : Nat} {lv : am_L} {st : List am_V} {M : am_M} {r : List Prop × Nat × am_L × List am_V × am_M} (hd : decode cc pc = .ok (.dsub, len)) (hlen : am_len (.dsub) = 0 ∨ len = am_len (.dsub)) (h : am_s1 o nL scr (.dsub) pc lv st M = some r) (hp : am_all r.1)
    (k : am_at_ p l e R s m args below meth c cells slots Z ρ D cA base nL r.2.1 r.2.2.1 r.2.2.2.1 r.2.2.2.2) : am_at_ p l e R s m args below meth c cells slots Z ρ D cA base nL pc lv st M := by
  obtain ⟨hx, hb, hml, hts, hown, hρ, hE, hRf, hRl, hRc, hRs, hnL, hscr⟩ := F
  obtain ⟨hK, hstr, hnest, hcast, hdecl, hnc, hU, hN⟩ := hE
  intro H locs ls hP hS hl
  have hD := am_ρD (cA := cA) (M := M) hρ
  obtain rfl : len = 1 := hlen.resolve_left (fun q => by cases q)
  dsimp only [am_s1] at h
  split at h
  next y x r0 =>
    cases h
    exact lv_dsub hx hb hd hp.1 (k H locs ls hP hS hl)
  next => cases h
set_option maxHeartbeats 1000000 in
theorem am_s_dcmp (F : am_fix p s m args c cc R cells slots ρ D cA base o nL scr) (op : CmpOp) {len pc : Nat} {lv : am_L} {st : List am_V} {M : am_M} {r : List Prop × Nat × am_L × List am_V × am_M} (hd : decode cc pc = .ok (.dcmp op, len)) (hlen : am_len (.dcmp op) = 0 ∨ len = am_len (.dcmp op)) (h : am_s1 o nL scr (.dcmp op) pc lv st M = some r) (hp : am_all r.1)
    (k : am_at_ p l e R s m args below meth c cells slots Z ρ D cA base nL r.2.1 r.2.2.1 r.2.2.2.1 r.2.2.2.2) : am_at_ p l e R s m args below meth c cells slots Z ρ D cA base nL pc lv st M := by
  obtain ⟨hx, hb, hml, hts, hown, hρ, hE, hRf, hRl, hRc, hRs, hnL, hscr⟩ := F
  obtain ⟨hK, hstr, hnest, hcast, hdecl, hnc, hU, hN⟩ := hE
  intro H locs ls hP hS hl
  have hD := am_ρD (cA := cA) (M := M) hρ
  obtain rfl : len = 1 := hlen.resolve_left (fun q => by cases q)
  dsimp only [am_s1] at h
  split at h
  next y x r0 =>
    cases h
    have k1 := k H locs ls hP hS hl
    refine lv_dcmp hx hb hd ?_
    rw [← am_of32 (Op.cmpValue (FP.dcmp x y) op)]
    exact k1
  next => cases h
set_option maxHeartbeats 1000000 in
theorem am_s_dup (F : am_fix p s m args c cc R cells slots ρ D cA base o nL scr)  {len pc : Nat} {lv : am_L} {st : List am_V} {M : am_M} {r : List Prop × Nat × am_L × List am_V × am_M} (hd : decode cc pc = .ok (.dup, len)) (hlen : am_len (.dup) = 0 ∨ len = am_len (.dup)) (h : am_s1 o nL scr (.dup) pc lv st M = some r) (hp : am_all r.1)
    (k : am_at_ p l e R s m args below meth c cells slots Z ρ D cA base nL r.2.1 r.2.2.1 r.2.2.2.1 r.2.2.2.2) : am_at_ p l e R s m args below meth c cells slots Z ρ D cA base nL pc lv st M := by
  obtain ⟨hx, hb, hml, hts, hown, hρ, hE, hRf, hRl, hRc, hRs, hnL, hscr⟩ := F
  obtain ⟨hK, hstr, hnest, hcast, hdecl, hnc, hU, hN⟩ := hE
  intro H locs ls hP hS hl
  have hD := am_ρD (cA := cA) (M := M) hρ
  obtain rfl : len = 1 := hlen.resolve_left (fun q => by cases q)
  dsimp only [am_s1] at h
  split at h
  next x r0 => cases h; exact lv_dup hx hb hd rfl (k H locs ls hP hS hl)
  next x r0 => cases h; exact lv_dup hx hb hd (am_cat_cv ρ (.inr (.inl x))) (k H locs ls hP hS hl)
  next => cases h
set_option maxHeartbeats 1000000 in
theorem am_s_dup2 (F : am_fix p s m args c cc R cells slots ρ D cA base o nL scr)  {len pc : Nat} {lv : am_L} {st : List am_V} {M : am_M} {r : List Prop × Nat × am_L × List am_V × am_M} (hd : decode cc pc = .ok (.dup2, len)) (hlen : am_len (.dup2) = 0 ∨ len = am_len (.dup2)) (h : am_s1 o nL scr (.dup2) pc lv st M = some r) (hp : am_all r.1)
    (k : am_at_ p l e R s m args below meth c cells slots Z ρ D cA base nL r.2.1 r.2.2.1 r.2.2.2.1 r.2.2.2.2) : am_at_ p l e R s m args below meth c cells slots Z ρ D cA base nL pc lv st M := by
  obtain ⟨hx, hb, hml, hts, hown, hρ, hE, hRf, hRl, hRc, hRs, hnL, hscr⟩ := F
  obtain ⟨hK, hstr, hnest, hcast, hdecl, hnc, hU, hN⟩ := hE
  intro H locs ls hP hS hl
  have hD := am_ρD (cA := cA) (M := M) hρ
  obtain rfl : len = 1 := hlen.resolve_left (fun q => by cases q)
  dsimp only [am_s1] at h
  split at h
  next y x r0 => cases h; exact lv_dup2_11 hx hb hd rfl (am_cat_cv ρ (.inr (.inl x))) (k H locs ls hP hS hl)
  next => cases h
set_option maxHeartbeats 1000000 in
theorem am_s_pop (F : am_fix p s m args c cc R cells slots ρ D cA base o nL scr)  {len pc : Nat} {lv : am_L} {st : List am_V} {M : am_M} {r : List Prop × Nat × am_L × List am_V × am_M} (hd : decode cc pc = .ok (.pop, len)) (hlen : am_len (.pop) = 0 ∨ len = am_len (.pop)) (h : am_s1 o nL scr (.pop) pc lv st M = some r) (hp : am_all r.1)
    (k : am_at_ p l e R s m args below meth c cells slots Z ρ D cA base nL r.2.1 r.2.2.1 r.2.2.2.1 r.2.2.2.2) : am_at_ p l e R s m args below meth c cells slots Z ρ D cA base nL pc lv st M := by
  obtain ⟨hx, hb, hml, hts, hown, hρ, hE, hRf, hRl, hRc, hRs, hnL, hscr⟩ := F
  obtain ⟨hK, hstr, hnest, hcast, hdecl, hnc, hU, hN⟩ := hE
  intro H locs ls hP hS hl
  have hD := am_ρD (cA := cA) (M := M) hρ
  obtain rfl : len = 1 := hlen.resolve_left (fun q => by cases q)
  dsimp only [am_s1] at h
  split at h
  next x r0 => cases h; exact lv_pop hx hb hd rfl (k H locs ls hP hS hl)
  next x r0 => cases h; exact lv_pop hx hb hd (am_cat_cv ρ (.inr (.inl x))) (k H locs ls hP hS hl)
  next => cases h
set_option maxHeartbeats 1000000 in
theorem am_s_goto (F : am_fix p s m args c cc R cells slots ρ D cA base o nL scr) (off : Int) {len pc : Nat} {lv : am_L} {st : List am_V} {M : am_M} {r : List Prop × Nat × am_L × List am_V × am_M} (hd : decode cc pc = .ok (.goto off, len)) (hlen : am_len (.goto off) = 0 ∨ len = am_len (.goto off)) (h : am_s1 o nL scr (.goto off) pc lv st M = some r) (hp : am_all r.1)
    (k : am_at_ p l e R s m args below meth c cells slots Z ρ D cA base nL r.2.1 r.2.2.1 r.2.2.2.1 r.2.2.2.2) : am_at_ p l e R s m args below meth c cells slots Z ρ D cA base nL pc lv st M := by
  obtain ⟨hx, hb, hml, hts, hown, hρ, hE, hRf, hRl, hRc, hRs, hnL, hscr⟩ := F
  obtain ⟨hK, hstr, hnest, hcast, hdecl, hnc, hU, hN⟩ := hE
  intro H locs ls hP hS hl
  have hD := am_ρD (cA := cA) (M := M) hρ
  obtain rfl : len = 3 := hlen.resolve_left (fun q => by cases q)
  dsimp only [am_s1] at h
  obtain ⟨t, e1, e2⟩ := Option.map_eq_some_iff.mp h
  cases e2
  exact lv_goto hx hb hd (am_tg_eq e1) (k H locs ls hP hS hl)
set_option maxHeartbeats 1000000 in
theorem am_s_getfield (F : am_fix p s m args c cc R cells slots ρ D cA base o nL scr) (i : Nat) {len pc : Nat} {lv : am_L} {st : List am_V} {M : am_M} {r : List Prop × Nat × am_L × List am_V × am_M} (hd : decode cc pc = .ok (.getfield i, len)) (hlen : am_len (.getfield i) = 0 ∨ len = am_len (.getfield i)) (h : am_s1 o nL scr (.getfield i) pc lv st M = some r) (hp : am_all r.1)
    (k : am_at_ p l e R s m args below meth c cells slots Z ρ D cA base nL r.2.1 r.2.2.1 r.2.2.2.1 r.2.2.2.2) : am_at_ p l e R s m args below meth c cells slots Z ρ D cA base nL pc lv st M := by
  obtain ⟨hx, hb, hml, hts, hown, hρ, hE, hRf, hRl, hRc, hRs, hnL, hscr⟩ := F
  obtain ⟨hK, hstr, hnest, hcast, hdecl, hnc, hU, hN⟩ := hE
  intro H locs ls hP hS hl
  have hD := am_ρD (cA := cA) (M := M) hρ
  obtain rfl : len = 3 := hlen.resolve_left (fun q => by cases q)
  dsimp only [am_s1] at h
  split at h
  next a r0 =>
    split at h
    next ci j t ci' fk e1 e2 =>
      obtain ⟨C, T, N, g1, g2, g3, -⟩ := am_flf e1
      split at h
      next e3 e4 =>
        cases h
        have e5 : ci = ci' := Nat.eq_of_beq_eq_true e3
        subst e5
        exact va_get (D := D) (own := tb_cn o) (ref := (T j).1) hx hb hts (am_clf g1).1 hown hK hP a (am_ws_at e2) g1 j g2 (hts _ g3) (fun _ q => q) (am_fs_at e4) hd (k H locs ls hP hS hl)
      next b0 e3 e4 =>
        cases h
        have e5 : ci = ci' := Nat.eq_of_beq_eq_true e3
        subst e5
        exact va_get (D := D) (own := tb_cn o) (ref := (T j).1) hx hb hts (am_clf g1).1 hown hK hP a (am_ws_at e2) g1 j g2 (hts _ g3) (fun _ q => q) (am_fs_at e4) hd (k H locs ls hP hS hl)
      next => cases h
    next => cases h
  next => cases h
set_option maxHeartbeats 1000000 in
theorem am_s_putfield (F : am_fix p s m args c cc R cells slots ρ D cA base o nL scr) (i : Nat) {len pc : Nat} {lv : am_L} {st : List am_V} {M : am_M} {r : List Prop × Nat × am_L × List am_V × am_M} (hd : decode cc pc = .ok (.putfield i, len)) (hlen : am_len (.putfield i) = 0 ∨ len = am_len (.putfield i)) (h : am_s1 o nL scr (.putfield i) pc lv st M = some r) (hp : am_all r.1)
    (k : am_at_ p l e R s m args below meth c cells slots Z ρ D cA base nL r.2.1 r.2.2.1 r.2.2.2.1 r.2.2.2.2) : am_at_ p l e R s m args below meth c cells slots Z ρ D cA base nL pc lv st M := by
  obtain ⟨hx, hb, hml, hts, hown, hρ, hE, hRf, hRl, hRc, hRs, hnL, hscr⟩ := F
  obtain ⟨hK, hstr, hnest, hcast, hdecl, hnc, hU, hN⟩ := hE
  intro H locs ls hP hS hl
  have hD := am_ρD (cA := cA) (M := M) hρ
  obtain rfl : len = 3 := hlen.resolve_left (fun q => by cases q)
  dsimp only [am_s1] at h
  split at h
  next x a r0 =>
    split at h
    next ci j t ci' fk e1 e2 =>
      obtain ⟨C, T, N, g1, g2, g3, g4, g5⟩ := am_flf e1
      split at h
      next e3 e4 =>
        cases h
        have e5 : ci = ci' := Nat.eq_of_beq_eq_true e3
        subst e5
        obtain ⟨t1, t2⟩ := g4 rfl
        obtain ⟨c1, ⟨ty0, c2⟩, c3⟩ := am_clf g1
        refine va_put (D := D) (own := tb_cn o) (ref := (T j).1) hx hb hts c1 ty0 c2 c3 hown hK hP hD hS a (am_ws_at e2) g1 j g2 (hts _ g3) (fun _ q => q) t2 t1 rfl rfl (by unfold am_fs; rw [List.length_mapIdx]; exact (List.getElem?_eq_some_iff.mp e4).1) hd (fun H1 locs1 hP1 _ hS1 => ?_)
        change va_P D tb_cl ((am_ws ρ cA M).set a (ρ a, .inr (ci, (am_fs ρ M a fk).set j (.int (Int32.ofInt x))))) H1 at hP1
        rw [am_fs_set e4] at hP1
        have e6 := am_ws_set (ρ := ρ) (cA := cA) (M := M) (M' := am_up M a (j : Nat) x) e2 am_up_ne
        change va_P D tb_cl ((am_ws ρ cA M).set a (ρ a, am_ent ρ cA (am_up M a (j : Nat) x) a (.inr (.inr (ci, fk))))) H1 at hP1
        rw [e6] at hP1
        exact k H1 locs1 ls hP1 hS1 hl
      next e3 e4 =>
        cases h
        have e5 : ci = ci' := Nat.eq_of_beq_eq_true e3
        subst e5
        obtain ⟨t1, t2⟩ := g5 rfl
        obtain ⟨c1, ⟨ty0, c2⟩, c3⟩ := am_clf g1
        refine va_put (D := D) (own := tb_cn o) (ref := (T j).1) hx hb hts c1 ty0 c2 c3 hown hK hP hD hS a (am_ws_at e2) g1 j g2 (hts _ g3) (fun _ q => q) t2 t1 (by rcases hp.1 with rfl | rfl <;> rfl) (by rcases hp.1 with rfl | rfl <;> rfl) (by unfold am_fs; rw [List.length_mapIdx]; exact (List.getElem?_eq_some_iff.mp e4).1) hd (fun H1 locs1 hP1 _ hS1 => ?_)
        change va_P D tb_cl ((am_ws ρ cA M).set a (ρ a, .inr (ci, (am_fs ρ M a fk).set j (.int (Int32.ofInt x))))) H1 at hP1
        rw [am_fs_set e4] at hP1
        have e6 := am_ws_set (ρ := ρ) (cA := cA) (M := M) (M' := am_up M a (j : Nat) x) e2 am_up_ne
        change va_P D tb_cl ((am_ws ρ cA M).set a (ρ a, am_ent ρ cA (am_up M a (j : Nat) x) a (.inr (.inr (ci, fk))))) H1 at hP1
        rw [e6] at hP1
        exact k H1 locs1 ls hP1 hS1 hl
      next => cases h
    next => cases h
  next => cases h
set_option maxHeartbeats 1000000 in
theorem am_s_iaload (F : am_fix p s m args c cc R cells slots ρ D cA base o nL scr)  {len pc : Nat} {lv : am_L} {st : List am_V} {M : am_M} {r : List Prop × Nat × am_L × List am_V × am_M} (hd : decode cc pc = .ok (.iaload, len)) (hlen : am_len (.iaload) = 0 ∨ len = am_len (.iaload)) (h : am_s1 o nL scr (.iaload) pc lv st M = some r) (hp : am_all r.1)
    (k : am_at_ p l e R s m args below meth c cells slots Z ρ D cA base nL r.2.1 r.2.2.1 r.2.2.2.1 r.2.2.2.2) : am_at_ p l e R s m args below meth c cells slots Z ρ D cA base nL pc lv st M := by
  obtain ⟨hx, hb, hml, hts, hown, hρ, hE, hRf, hRl, hRc, hRs, hnL, hscr⟩ := F
  obtain ⟨hK, hstr, hnest, hcast, hdecl, hnc, hU, hN⟩ := hE
  intro H locs ls hP hS hl
  have hD := am_ρD (cA := cA) (M := M) hρ
  obtain rfl : len = 1 := hlen.resolve_left (fun q => by cases q)
  dsimp only [am_s1] at h
  split at h
  next i a r0 =>
    split at h
    next n e2 =>
      cases h
      obtain ⟨v1, v2⟩ := am_vpin (am_lay_n e2) hp.1
      have k1 := k H locs ls hP hS hl
      refine va_iald hx hb hK hP a 0 (am_ws_at e2) rfl v1 hd ?_
      rw [v2, show ((i.toNat : Nat) : Int) = i from Int.toNat_of_nonneg hp.1.1]
      exact k1
    next L xs e2 =>
      split at h
      next e3 =>
        cases h
        have e4 : a = 999 := Nat.eq_of_beq_eq_true e3
        subst e4
        obtain ⟨n, f, rfl, hn, hX, hbl, hbA, hf⟩ := hscr
        obtain ⟨v1, v2⟩ := am_vpin hn hp.1
        have k1 := k H locs ls hP hS hl
        refine va_sld hx hb hX hbl hbA hS v1 hd ?_
        obtain ⟨q1, q2⟩ := hp.1
        rw [v2, ← hf i.toNat (by omega), show ((i.toNat : Nat) : Int) = i from Int.toNat_of_nonneg hp.1.1]
        exact k1
      next => cases h
    next => cases h
  next => cases h
set_option maxHeartbeats 1000000 in
theorem am_s_laload (F : am_fix p s m args c cc R cells slots ρ D cA base o nL scr)  {len pc : Nat} {lv : am_L} {st : List am_V} {M : am_M} {r : List Prop × Nat × am_L × List am_V × am_M} (hd : decode cc pc = .ok (.laload, len)) (hlen : am_len (.laload) = 0 ∨ len = am_len (.laload)) (h : am_s1 o nL scr (.laload) pc lv st M = some r) (hp : am_all r.1)
    (k : am_at_ p l e R s m args below meth c cells slots Z ρ D cA base nL r.2.1 r.2.2.1 r.2.2.2.1 r.2.2.2.2) : am_at_ p l e R s m args below meth c cells slots Z ρ D cA base nL pc lv st M := by
  obtain ⟨hx, hb, hml, hts, hown, hρ, hE, hRf, hRl, hRc, hRs, hnL, hscr⟩ := F
  obtain ⟨hK, hstr, hnest, hcast, hdecl, hnc, hU, hN⟩ := hE
  intro H locs ls hP hS hl
  have hD := am_ρD (cA := cA) (M := M) hρ
  obtain rfl : len = 1 := hlen.resolve_left (fun q => by cases q)
  dsimp only [am_s1] at h
  split at h
  next i a r0 =>
    split at h
    next n e2 =>
      cases h
      obtain ⟨v1, v2⟩ := am_vpin (am_lay_l e2) hp.1
      have k1 := k H locs ls hP hS hl
      refine va_lald hx hb hK hP a 1 (am_ws_at e2) rfl v1 hd ?_
      rw [v2, show ((i.toNat : Nat) : Int) = i from Int.toNat_of_nonneg hp.1.1]
      exact k1
    next => cases h
  next => cases h
set_option maxHeartbeats 1000000 in
theorem am_s_iastore (F : am_fix p s m args c cc R cells slots ρ D cA base o nL scr)  {len pc : Nat} {lv : am_L} {st : List am_V} {M : am_M} {r : List Prop × Nat × am_L × List am_V × am_M} (hd : decode cc pc = .ok (.iastore, len)) (hlen : am_len (.iastore) = 0 ∨ len = am_len (.iastore)) (h : am_s1 o nL scr (.iastore) pc lv st M = some r) (hp : am_all r.1)
    (k : am_at_ p l e R s m args below meth c cells slots Z ρ D cA base nL r.2.1 r.2.2.1 r.2.2.2.1 r.2.2.2.2) : am_at_ p l e R s m args below meth c cells slots Z ρ D cA base nL pc lv st M := by
  obtain ⟨hx, hb, hml, hts, hown, hρ, hE, hRf, hRl, hRc, hRs, hnL, hscr⟩ := F
  obtain ⟨hK, hstr, hnest, hcast, hdecl, hnc, hU, hN⟩ := hE
  intro H locs ls hP hS hl
  have hD := am_ρD (cA := cA) (M := M) hρ
  obtain rfl : len = 1 := hlen.resolve_left (fun q => by cases q)
  dsimp only [am_s1] at h
  split at h
  next x i a r0 =>
    split at h
    next n e2 =>
      cases h
      obtain ⟨v1, v2⟩ := am_vpin (am_lay_n e2) hp.1
      refine va_iast hx hb hK hP hD hS a 0 (am_ws_at e2) rfl v1 hd (fun H1 locs1 hP1 _ hS1 => ?_)
      rw [v2, am_updI hp.1] at hP1
      have e6 := am_ws_set (ρ := ρ) (cA := cA) (M := M) (M' := am_up M a i x) e2 am_up_ne
      change va_P D tb_cl ((am_ws ρ cA M).set a (ρ a, am_ent ρ cA (am_up M a i x) a (.inl (.inl n)))) H1 at hP1
      rw [e6] at hP1
      exact k H1 locs1 ls hP1 hS1 hl
    next => cases h
  next => cases h
set_option maxHeartbeats 1000000 in
theorem am_s_lastore (F : am_fix p s m args c cc R cells slots ρ D cA base o nL scr)  {len pc : Nat} {lv : am_L} {st : List am_V} {M : am_M} {r : List Prop × Nat × am_L × List am_V × am_M} (hd : decode cc pc = .ok (.lastore, len)) (hlen : am_len (.lastore) = 0 ∨ len = am_len (.lastore)) (h : am_s1 o nL scr (.lastore) pc lv st M = some r) (hp : am_all r.1)
    (k : am_at_ p l e R s m args below meth c cells slots Z ρ D cA base nL r.2.1 r.2.2.1 r.2.2.2.1 r.2.2.2.2) : am_at_ p l e R s m args below meth c cells slots Z ρ D cA base nL pc lv st M := by
  obtain ⟨hx, hb, hml, hts, hown, hρ, hE, hRf, hRl, hRc, hRs, hnL, hscr⟩ := F
  obtain ⟨hK, hstr, hnest, hcast, hdecl, hnc, hU, hN⟩ := hE
  intro H locs ls hP hS hl
  have hD := am_ρD (cA := cA) (M := M) hρ
  obtain rfl : len = 1 := hlen.resolve_left (fun q => by cases q)
  dsimp only [am_s1] at h
  split at h
  next x i a r0 =>
    split at h
    next n e2 =>
      cases h
      obtain ⟨v1, v2⟩ := am_vpin (am_lay_l e2) hp.1
      refine va_last hx hb hK hP hD hS a 1 (am_ws_at e2) rfl v1 hd (fun H1 locs1 hP1 _ hS1 => ?_)
      rw [v2, am_updL hp.1] at hP1
      have e6 := am_ws_set (ρ := ρ) (cA := cA) (M := M) (M' := am_up M a i x) e2 am_up_ne
      change va_P D tb_cl ((am_ws ρ cA M).set a (ρ a, am_ent ρ cA (am_up M a i x) a (.inl (.inr n)))) H1 at hP1
      rw [e6] at hP1
      exact k H1 locs1 ls hP1 hS1 hl
    next => cases h
  next => cases h
set_option maxHeartbeats 1000000 in
theorem am_s_arraylength (F : am_fix p s m args c cc R cells slots ρ D cA base o nL scr)  {len pc : Nat} {lv : am_L} {st : List am_V} {M : am_M} {r : List Prop × Nat × am_L × List am_V × am_M} (hd : decode cc pc = .ok (.arraylength, len)) (hlen : am_len (.arraylength) = 0 ∨ len = am_len (.arraylength)) (h : am_s1 o nL scr (.arraylength) pc lv st M = some r) (hp : am_all r.1)
    (k : am_at_ p l e R s m args below meth c cells slots Z ρ D cA base nL r.2.1 r.2.2.1 r.2.2.2.1 r.2.2.2.2) : am_at_ p l e R s m args below meth c cells slots Z ρ D cA base nL pc lv st M := by
  obtain ⟨hx, hb, hml, hts, hown, hρ, hE, hRf, hRl, hRc, hRs, hnL, hscr⟩ := F
  obtain ⟨hK, hstr, hnest, hcast, hdecl, hnc, hU, hN⟩ := hE
  intro H locs ls hP hS hl
  have hD := am_ρD (cA := cA) (M := M) hρ
  obtain rfl : len = 1 := hlen.resolve_left (fun q => by cases q)
  dsimp only [am_s1] at h
  split at h
  next a r0 =>
    split at h
    next rs e2 =>
      cases h
      exact va_alen (ty := .object RX2) hx hb hK hP a 2 (am_ws_at e2) rfl rfl hd (k H locs ls hP hS hl)
    next L xs e2 =>
      split at h
      next e3 =>
        cases h
        have e4 : a = 999 := Nat.eq_of_beq_eq_true e3
        subst e4
        obtain ⟨n, f, rfl, hn, hX, hbl, hbA, hf⟩ := hscr
        exact va_slen hx hb hX hbl hbA hS hd (k H locs ls hP hS hl)
      next => cases h
    next => cases h
  next => cases h
set_option maxHeartbeats 1000000 in
theorem am_s_invokestatic (F : am_fix p s m args c cc R cells slots ρ D cA base o nL scr) (i : Nat) {len pc : Nat} {lv : am_L} {st : List am_V} {M : am_M} {r : List Prop × Nat × am_L × List am_V × am_M} (hd : decode cc pc = .ok (.invokestatic i, len)) (hlen : am_len (.invokestatic i) = 0 ∨ len = am_len (.invokestatic i)) (h : am_s1 o nL scr (.invokestatic i) pc lv st M = some r) (hp : am_all r.1)
    (k : am_at_ p l e R s m args below meth c cells slots Z ρ D cA base nL r.2.1 r.2.2.1 r.2.2.2.1 r.2.2.2.2) : am_at_ p l e R s m args below meth c cells slots Z ρ D cA base nL pc lv st M := by
  obtain ⟨hx, hb, hml, hts, hown, hρ, hE, hRf, hRl, hRc, hRs, hnL, hscr⟩ := F
  obtain ⟨hK, hstr, hnest, hcast, hdecl, hnc, hU, hN⟩ := hE
  intro H locs ls hP hS hl
  have hD := am_ρD (cA := cA) (M := M) hρ
  obtain rfl : len = 3 := hlen.resolve_left (fun q => by cases q)
  dsimp only [am_s1] at h
  have hsz : c.maxLocals = ls.size := hml.trans hl.1.symm
  split at h
  next y x r0 e1 =>
    cases h
    obtain ⟨⟨q1, q2, q3⟩, -⟩ := hp
    have k1 := k H locs ls hP hS hl
    refine va_mmax hx hb hsz hown (hts _ (am_macf e1)) (hts _ (am_ma (by simp))) (hts _ (am_ma (by simp))) (hts _ (am_ma (by simp))) (by omega) (by rw [am_cs_cv]; omega) hRc hRs hd ?_
    rw [am_mx q1 q2]
    exact k1
  next y x r0 e1 =>
    cases h
    obtain ⟨⟨q1, q2, q3⟩, -⟩ := hp
    have k1 := k H locs ls hP hS hl
    refine va_mmin hx hb hsz hown (hts _ (am_macf e1)) (hts _ (am_ma (by simp))) (hts _ (am_ma (by simp))) (hts _ (am_ma (by simp))) (by omega) (by rw [am_cs_cv]; omega) hRc hRs hd ?_
    rw [am_mn q1 q2]
    exact k1
  next x r0 e1 =>
    cases h
    obtain ⟨⟨q1, q3⟩, -⟩ := hp
    have k1 := k H locs ls hP hS hl
    refine va_mabs hx hb hsz hown (hts _ (am_macf e1)) (hts _ (am_ma (by simp))) (hts _ (am_ma (by simp))) (hts _ (am_ma (by simp))) (by omega) (by rw [am_cs_cv]; omega) hRc hRs hd ?_
    rw [am_ab q1]
    exact k1
  next n dp a1 sp a0 r0 e1 =>
    split at h
    next n0 n1 e2 e3 =>
      cases h
      obtain ⟨⟨rfl, rfl, q1, q2, q3, q4⟩, -⟩ := hp
      have en : Int32.ofInt n = nI n.toNat := by
        unfold nI
        rw [show n = ((n.toNat : Nat) : Int) by omega]
        rfl
      have hn0 := am_lay_n e2
      have ec : (Int32.ofInt n).toNatClampNeg = n.toNat := by rw [en]; exact nI_clamp (by omega)
      have hw : nativeFrameWords "java/lang/System" "arraycopy" 5 + 11 ≤ 32 := by decide
      refine va_copyi (sp := 0) (dp := 0) (n := Int32.ofInt n) hx hb hsz hown (hts _ (am_macf e1)) (hts _ (am_ma (by simp))) (hts _ (am_ma (by simp))) (hts _ (am_ma (by simp))) hK hP hD hS a0 a1 0 0 (am_ws_at e2) (am_ws_at e3) rfl rfl rfl (by decide) (by decide) (by rw [en]; exact nI_pos (by omega)) (by rw [ec]; show 0 + n.toNat ≤ n0; omega) (by rw [ec]; show 0 + n.toNat ≤ n1; omega) (fun _ _ => rfl) (by omega) (by rw [am_cs_cv]; omega) hd (fun H1 locs1 hP1 _ hS1 => ?_)
      rw [ec] at hP1
      have e6 := am_ws_set (ρ := ρ) (cA := cA) (M := M) (M' := am_cp M a0 a1 n) e3 (fun a' j h => by unfold am_cp; rw [if_neg (fun q => h q.1)])
      have e7 : va_cpy (fun j => Int32.ofInt (M a0 j)) (fun j => Int32.ofInt (M a1 j)) ((0 : Int32).toNatClampNeg) ((0 : Int32).toNatClampNeg) n.toNat = fun (j : Nat) => Int32.ofInt (am_cp M a0 a1 n a1 j) := by
        funext j
        show va_cpy _ _ 0 0 n.toNat j = _
        unfold va_cpy am_cp
        by_cases hj : j < n.toNat
        · rw [if_pos ⟨Nat.zero_le _, by omega⟩, if_pos ⟨rfl, by omega, by omega⟩, Nat.sub_zero, Nat.zero_add]
        · rw [if_neg (fun q => hj (by omega)), if_neg (fun q => hj (by omega))]
      rw [e7] at hP1
      change va_P D tb_cl ((am_ws ρ cA M).set a1 (ρ a1, am_ent ρ cA (am_cp M a0 a1 n) a1 (.inl (.inl n1)))) H1 at hP1
      rw [e6] at hP1
      exact k H1 locs1 ls hP1 hS1 hl
    next => cases h
  next x r0 e1 =>
    cases h
    have k1 := k H locs ls hP hS hl
    refine vn_d2l hx hb hsz hown (hts _ (am_macf e1)) (hts _ (am_ma (by simp))) (hts _ (am_ma (by simp))) (hts _ (am_ma (by simp))) (by omega) (by rw [am_cs_cv]; have := hp.1; omega) hd ?_
    rw [← am_of64 x.toInt64]
    exact k1
  next => cases h
set_option maxHeartbeats 1000000 in
theorem am_sim1 (F : am_fix p s m args c cc R cells slots ρ D cA base o nL scr) {ins : Instr} {len pc : Nat} {lv : am_L} {st : List am_V} {M : am_M} {r : List Prop × Nat × am_L × List am_V × am_M} (hd : decode cc pc = .ok (ins, len)) (hlen : am_len ins = 0 ∨ len = am_len ins) (h : am_s1 o nL scr ins pc lv st M = some r) (hp : am_all r.1)
    (k : am_at_ p l e R s m args below meth c cells slots Z ρ D cA base nL r.2.1 r.2.2.1 r.2.2.2.1 r.2.2.2.2) : am_at_ p l e R s m args below meth c cells slots Z ρ D cA base nL pc lv st M := by
  cases ins with
  | iconst n => exact am_s_iconst F n hd hlen h hp k
  | bipush n => exact am_s_bipush F n hd hlen h hp k
  | sipush n => exact am_s_sipush F n hd hlen h hp k
  | lconst n => exact am_s_lconst F n hd hlen h hp k
  | dconst n => exact am_s_dconst F n hd hlen h hp k
  | aconst_null => exact am_s_aconst_null F  hd hlen h hp k
  | ldc i => exact am_s_ldc F i hd hlen h hp k
  | ldc2_w i => exact am_s_ldc2_w F i hd hlen h hp k
  | iload i => exact am_s_iload F i hd hlen h hp k
  | iload_n i => exact am_s_iload_n F i hd hlen h hp k
  | lload i => exact am_s_lload F i hd hlen h hp k
  | lload_n i => exact am_s_lload_n F i hd hlen h hp k
  | dload i => exact am_s_dload F i hd hlen h hp k
  | dload_n i => exact am_s_dload_n F i hd hlen h hp k
  | aload i => exact am_s_aload F i hd hlen h hp k
  | aload_n i => exact am_s_aload_n F i hd hlen h hp k
  | istore i => exact am_s_istore F i hd hlen h hp k
  | istore_n i => exact am_s_istore_n F i hd hlen h hp k
  | lstore i => exact am_s_lstore F i hd hlen h hp k
  | lstore_n i => exact am_s_lstore_n F i hd hlen h hp k
  | dstore i => exact am_s_dstore F i hd hlen h hp k
  | dstore_n i => exact am_s_dstore_n F i hd hlen h hp k
  | astore i => exact am_s_astore F i hd hlen h hp k
  | astore_n i => exact am_s_astore_n F i hd hlen h hp k
  | iinc i n => exact am_s_iinc F i n hd hlen h hp k
  | iadd => exact am_s_iadd F  hd hlen h hp k
  | isub => exact am_s_isub F  hd hlen h hp k
  | imul => exact am_s_imul F  hd hlen h hp k
  | ladd => exact am_s_ladd F  hd hlen h hp k
  | lsub => exact am_s_lsub F  hd hlen h hp k
  | lmul => exact am_s_lmul F  hd hlen h hp k
  | iand => exact am_s_iand F  hd hlen h hp k
  | ior => exact am_s_ior F  hd hlen h hp k
  | ixor => exact am_s_ixor F  hd hlen h hp k
  | ineg => exact am_s_ineg F  hd hlen h hp k
  | idiv => exact am_s_idiv F  hd hlen h hp k
  | irem => exact am_s_irem F  hd hlen h hp k
  | ldiv => exact am_s_ldiv F  hd hlen h hp k
  | i2l => exact am_s_i2l F  hd hlen h hp k
  | l2i => exact am_s_l2i F  hd hlen h hp k
  | i2d => exact am_s_i2d F  hd hlen h hp k
  | d2l => exact am_s_d2l F  hd hlen h hp k
  | lshl => exact am_s_lshl F  hd hlen h hp k
  | lcmp => exact am_s_lcmp F  hd hlen h hp k
  | ddiv => exact am_s_ddiv F  hd hlen h hp k
  | dmul => exact am_s_dmul F  hd hlen h hp k
  | dsub => exact am_s_dsub F  hd hlen h hp k
  | dcmp op => exact am_s_dcmp F op hd hlen h hp k
  | dup => exact am_s_dup F  hd hlen h hp k
  | dup2 => exact am_s_dup2 F  hd hlen h hp k
  | pop => exact am_s_pop F  hd hlen h hp k
  | goto off => exact am_s_goto F off hd hlen h hp k
  | getfield i => exact am_s_getfield F i hd hlen h hp k
  | putfield i => exact am_s_putfield F i hd hlen h hp k
  | iaload => exact am_s_iaload F  hd hlen h hp k
  | laload => exact am_s_laload F  hd hlen h hp k
  | iastore => exact am_s_iastore F  hd hlen h hp k
  | lastore => exact am_s_lastore F  hd hlen h hp k
  | arraylength => exact am_s_arraylength F  hd hlen h hp k
  | invokestatic i => exact am_s_invokestatic F i hd hlen h hp k
  | _ => cases h
end AMS2
end
section
def tb_throk (o k : Nat) (v : Nat × Nat) : Bool := tb_at v.2 (.classLink (tb_cn o) k (tb_ex v.1)) && Nat.blt v.1 3
theorem tf_thr : tb_thrL.all (fun q => q.2.all (fun r => tb_throk q.1 r.1 r.2)) = true := by decide +kernel
abbrev tb_exn : List String := ["java/lang/RuntimeException", "java/lang/Exception"]
def tb_thok (o ic E : Nat) : Bool := Nat.blt E 3 && (vx_atS (tb_cn o) ic (tb_ex E) tb_exn).all (fun w => vx_ot w && (match goodWord w, w with
  | true, w => decide (w ∈ am_GL)
  | false, .castable a b => decide ((a, b) ∈ tb_cast)
  | false, .declares x => decide (x ∈ tb_decl)
  | _, _ => false))
theorem tf_thc : tb_thcL.all (fun q => q.2.all (fun r => tb_thok q.1 r.1 r.2)) = true := by decide +kernel
theorem tf_exi : [0, 1, 2].all (fun E => decide (Cond.initialized (tb_ex E) ∈ am_GL) && Bundle.fit (tb_ex E)) = true := by decide +kernel
theorem tf_exf : tb_exn.all Bundle.fit = true := by decide +kernel
end
section
def am_dok (c : ByteArray) (pc : Nat) (r : Instr × Nat) : Bool := decide (decode c pc = .ok r) && (Nat.beq (am_len r.1) 0 || Nat.beq r.2 (am_len r.1))
def am_codeok (c : ByteArray) (n : Nat) (f : Nat → Option (Instr × Nat)) : Bool := (List.range n).all (fun pc => match f pc with | none => true | some r => am_dok c pc r)
theorem am_codeok_of {c : ByteArray} {n : Nat} {f : Nat → Option (Instr × Nat)} (h : am_codeok c n (am_guard n f) = true) : ∀ pc r, am_guard n f pc = some r → am_dok c pc r = true := by
  intro pc r hr
  have hn : pc < n := by
    unfold am_guard at hr
    split at hr
    next e => exact Nat.ble_eq.mp e
    next => cases hr
  have h1 := List.all_eq_true.mp h pc (List.mem_range.mpr hn)
  simp only [hr] at h1
  exact h1
theorem am_ck {c : ByteArray} {f : Nat → Option (Instr × Nat)} {a k : Nat} (h : ∀ pc, pc < a → ∀ r, f pc = some r → am_dok c pc r = true) (h2 : (List.range' a k).all (fun pc => match f pc with | none => true | some r => am_dok c pc r) = true) : ∀ pc, pc < a + k → ∀ r, f pc = some r → am_dok c pc r = true := by
  intro pc hp r hr
  by_cases hl : pc < a
  · exact h pc hl r hr
  · have h1 := List.all_eq_true.mp h2 pc (List.mem_range'_1.mpr ⟨by omega, hp⟩)
    simp only [hr] at h1
    exact h1
theorem am_ck_of {c : ByteArray} {n : Nat} {f : Nat → Option (Instr × Nat)} (h : ∀ pc, pc < n → ∀ r, am_guard n f pc = some r → am_dok c pc r = true) : ∀ pc r, am_guard n f pc = some r → am_dok c pc r = true := by
  intro pc r hr
  refine h pc ?_ r hr
  unfold am_guard at hr
  split at hr
  next e => exact Nat.ble_eq.mp e
  next => cases hr
theorem tl_X5_mend : ∀ pc r, tk_X5_mend pc = some r → am_dok cX5_mend pc r = true := am_codeok_of (n := 53) (by decide +kernel)
theorem tl_X0_remember : ∀ pc r, tk_X0_remember pc = some r → am_dok cX0_remember pc r = true := am_codeok_of (n := 66) (by decide +kernel)
theorem tl_X0_rowAt : ∀ pc r, tk_X0_rowAt pc = some r → am_dok cX0_rowAt pc r = true := am_codeok_of (n := 31) (by decide +kernel)
theorem tl_J9_floorMod_7cf53 : ∀ pc r, tk_J9_floorMod_7cf53 pc = some r → am_dok cJ9_floorMod_7cf53 pc r = true := am_codeok_of (n := 20) (by decide +kernel)
theorem tl_X2_copyFrom : ∀ pc r, tk_X2_copyFrom pc = some r → am_dok cX2_copyFrom pc r = true := am_codeok_of (n := 137) (by decide +kernel)
theorem tl_X2_keptPoints : ∀ pc r, tk_X2_keptPoints pc = some r → am_dok cX2_keptPoints pc r = true := am_codeok_of (n := 29) (by decide +kernel)
theorem tl_X5_keepBroken : ∀ pc r, tk_X5_keepBroken pc = some r → am_dok cX5_keepBroken pc r = true := am_codeok_of (n := 87) (by decide +kernel)
theorem tl_X1_isBroken : ∀ pc r, tk_X1_isBroken pc = some r → am_dok cX1_isBroken pc r = true := am_codeok_of (n := 66) (by decide +kernel)
theorem tl_X2_isKept : ∀ pc r, tk_X2_isKept pc = some r → am_dok cX2_isKept pc r = true := am_codeok_of (n := 24) (by decide +kernel)
theorem tl_X2_hasPoint : ∀ pc r, tk_X2_hasPoint pc = some r → am_dok cX2_hasPoint pc r = true := am_codeok_of (n := 18) (by decide +kernel)
theorem tl_X2_earlierKept : ∀ pc r, tk_X2_earlierKept pc = some r → am_dok cX2_earlierKept pc r = true := am_codeok_of (n := 22) (by decide +kernel)
theorem tl_X2_keptBelow : ∀ pc r, tk_X2_keptBelow pc = some r → am_dok cX2_keptBelow pc r = true := am_codeok_of (n := 36) (by decide +kernel)
theorem tl_X2_sameStretch : ∀ pc r, tk_X2_sameStretch pc = some r → am_dok cX2_sameStretch pc r = true := am_codeok_of (n := 45) (by decide +kernel)
theorem tl_X2_laterKept : ∀ pc r, tk_X2_laterKept pc = some r → am_dok cX2_laterKept pc r = true := am_codeok_of (n := 24) (by decide +kernel)
theorem tl_X2_keptFrom : ∀ pc r, tk_X2_keptFrom pc = some r → am_dok cX2_keptFrom pc r = true := am_codeok_of (n := 35) (by decide +kernel)
theorem tl_X1_findMiss : ∀ pc r, tk_X1_findMiss pc = some r → am_dok cX1_findMiss pc r = true := am_codeok_of (n := 167) (by decide +kernel)
theorem tl_X2_isStep : ∀ pc r, tk_X2_isStep pc = some r → am_dok cX2_isStep pc r = true := am_codeok_of (n := 16) (by decide +kernel)
theorem tl_X5_strike : ∀ pc r, tk_X5_strike pc = some r → am_dok cX5_strike pc r = true := am_codeok_of (n := 92) (by decide +kernel)
theorem tl_X1_isTrue : ∀ pc r, tk_X1_isTrue pc = some r → am_dok cX1_isTrue pc r = true := am_codeok_of (n := 78) (by decide +kernel)
theorem tl_X1_findReading : ∀ pc r, tk_X1_findReading pc = some r → am_dok cX1_findReading pc r = true := am_codeok_of (n := 199) (by decide +kernel)
theorem tl_X2_placeOf : ∀ pc r, tk_X2_placeOf pc = some r → am_dok cX2_placeOf pc r = true := am_codeok_of (n := 33) (by decide +kernel)
theorem tl_X1_shorten : ∀ pc r, tk_X1_shorten pc = some r → am_dok cX1_shorten pc r = true := am_codeok_of (n := 40) (by decide +kernel)
theorem tl_X1_commonDivisor : ∀ pc r, tk_X1_commonDivisor pc = some r → am_dok cX1_commonDivisor pc r = true := am_codeok_of (n := 36) (by decide +kernel)
theorem tl_X5_clearBuffer : ∀ pc r, tk_X5_clearBuffer pc = some r → am_dok cX5_clearBuffer pc r = true := am_codeok_of (n := 18) (by decide +kernel)
theorem tl_X5_firstError : ∀ pc r, tk_X5_firstError pc = some r → am_dok cX5_firstError pc r = true := am_codeok_of (n := 8) (by decide +kernel)
theorem tl_X3_goodLength : ∀ pc r, tk_X3_goodLength pc = some r → am_dok cX3_goodLength pc r = true := am_codeok_of (n := 41) (by decide +kernel)
theorem tl_X3_placeAfter : ∀ pc r, tk_X3_placeAfter pc = some r → am_dok cX3_placeAfter pc r = true := am_codeok_of (n := 135) (by decide +kernel)
theorem tl_X3_placeAfterFirstDigit : ∀ pc r, tk_X3_placeAfterFirstDigit pc = some r → am_dok cX3_placeAfterFirstDigit pc r = true := am_codeok_of (n := 21) (by decide +kernel)
theorem tl_X3_isDigit : ∀ pc r, tk_X3_isDigit pc = some r → am_dok cX3_isDigit pc r = true := am_codeok_of (n := 18) (by decide +kernel)
theorem tl_X5_area : ∀ pc r, tk_X5_area pc = some r → am_dok cX5_area pc r = true := am_codeok_of (n := 60) (by decide +kernel)
theorem tl_X5_areaBetween : ∀ pc r, tk_X5_areaBetween pc = some r → am_dok cX5_areaBetween pc r = true := am_codeok_of (n := 77) (by decide +kernel)
theorem tl_X5_droppedShare : ∀ pc r, tk_X5_droppedShare pc = some r → am_dok cX5_droppedShare pc r = true := am_codeok_of (n := 38) (by decide +kernel)
theorem tl_X5_digest : ∀ pc r, tk_X5_digest pc = some r → am_dok cX5_digest pc r = true := am_codeok_of (n := 189) (by decide +kernel)
theorem tl_X5_count : ∀ pc r, tk_X5_count pc = some r → am_dok cX5_count pc r = true := am_codeok_of (n := 144) (by decide +kernel)
theorem tl_X5_refuseOutside : ∀ pc r, tk_X5_refuseOutside pc = some r → am_dok cX5_refuseOutside pc r = true := am_codeok_of (n := 21) (by decide +kernel)
theorem tl_X5_brokenAmong : ∀ pc r, tk_X5_brokenAmong pc = some r → am_dok cX5_brokenAmong pc r = true := am_codeok_of (n := 36) (by decide +kernel)
theorem tl_X2_stretchCount : ∀ pc r, tk_X2_stretchCount pc = some r → am_dok cX2_stretchCount pc r = true := am_codeok_of (n := 31) (by decide +kernel)
theorem tl_X5_trueNotes : ∀ pc r, tk_X5_trueNotes pc = some r → am_dok cX5_trueNotes pc r = true := am_codeok_of (n := 37) (by decide +kernel)
theorem tl_X5_greatestError : ∀ pc r, tk_X5_greatestError pc = some r → am_dok cX5_greatestError pc r = true := am_codeok_of (n := 67) (by decide +kernel)
theorem tl_X1_findError : ∀ pc r, tk_X1_findError pc = some r → am_dok cX1_findError pc r = true := am_codeok_of (n := 51) (by decide +kernel)
theorem tl_X5_roundedUp : ∀ pc r, tk_X5_roundedUp pc = some r → am_dok cX5_roundedUp pc r = true := am_codeok_of (n := 16) (by decide +kernel)
theorem tl_X5_longestStep : ∀ pc r, tk_X5_longestStep pc = some r → am_dok cX5_longestStep pc r = true := am_codeok_of (n := 75) (by decide +kernel)
theorem tl_X5_hashPoints : ∀ pc r, tk_X5_hashPoints pc = some r → am_dok cX5_hashPoints pc r = true := am_codeok_of (n := 87) (by decide +kernel)
theorem tl_X5_point : ∀ pc r, tk_X5_point pc = some r → am_dok cX5_point pc r = true := am_codeok_of (n := 140) (by decide +kernel)
theorem tl_X5_refuseNoPoint : ∀ pc r, tk_X5_refuseNoPoint pc = some r → am_dok cX5_refuseNoPoint pc r = true := am_codeok_of (n := 23) (by decide +kernel)
theorem tl_X1_reasonToKeep : ∀ pc r, tk_X1_reasonToKeep pc = some r → am_dok cX1_reasonToKeep pc r = true := am_codeok_of (n := 60) (by decide +kernel)
theorem tl_X1_canJoin : ∀ pc r, tk_X1_canJoin pc = some r → am_dok cX1_canJoin pc r = true := am_codeok_of (n := 46) (by decide +kernel)
theorem tl_X1_findWorst : ∀ pc r, tk_X1_findWorst pc = some r → am_dok cX1_findWorst pc r = true := am_codeok_of (n := 192) (by decide +kernel)
theorem tl_X5_error : ∀ pc r, tk_X5_error pc = some r → am_dok cX5_error pc r = true := am_codeok_of (n := 46) (by decide +kernel)
theorem tl_X5_hashStretches : ∀ pc r, tk_X5_hashStretches pc = some r → am_dok cX5_hashStretches pc r = true := am_codeok_of (n := 60) (by decide +kernel)
theorem tl_X5_stretch : ∀ pc r, tk_X5_stretch pc = some r → am_dok cX5_stretch pc r = true := am_codeok_of (n := 97) (by decide +kernel)
theorem tl_X5_refuseNoStretch : ∀ pc r, tk_X5_refuseNoStretch pc = some r → am_dok cX5_refuseNoStretch pc r = true := am_codeok_of (n := 27) (by decide +kernel)
theorem tl_X2_firstOf : ∀ pc r, tk_X2_firstOf pc = some r → am_dok cX2_firstOf pc r = true := am_codeok_of (n := 31) (by decide +kernel)
theorem tl_X2_sizeOf : ∀ pc r, tk_X2_sizeOf pc = some r → am_dok cX2_sizeOf pc r = true := am_codeok_of (n := 33) (by decide +kernel)
theorem tl_X2_keptOf : ∀ pc r, tk_X2_keptOf pc = some r → am_dok cX2_keptOf pc r = true := am_codeok_of (n := 43) (by decide +kernel)
theorem tl_X4_fewestOf : ∀ pc r, tk_X4_fewestOf pc = some r → am_dok cX4_fewestOf pc r = true := am_codeok_of (n := 49) (by decide +kernel)
theorem tl_X4_findNeeds : ∀ pc r, tk_X4_findNeeds pc = some r → am_dok cX4_findNeeds pc r = true := am_codeok_of (n := 103) (by decide +kernel)
theorem tl_X4_cell : ∀ pc r, tk_X4_cell pc = some r → am_dok cX4_cell pc r = true := am_codeok_of (n := 41) (by decide +kernel)
theorem tl_X4_findFewest : ∀ pc r, tk_X4_findFewest pc = some r → am_dok cX4_findFewest pc r = true := am_codeok_of (n := 62) (by decide +kernel)
theorem tl_X4_fewestBehind : ∀ pc r, tk_X4_fewestBehind pc = some r → am_dok cX4_fewestBehind pc r = true := am_codeok_of (n := 112) (by decide +kernel)
theorem tl_X2_beginsStretch : ∀ pc r, tk_X2_beginsStretch pc = some r → am_dok cX2_beginsStretch pc r = true := am_codeok_of (n := 17) (by decide +kernel)
theorem tl_X5_hashNotes : ∀ pc r, tk_X5_hashNotes pc = some r → am_dok cX5_hashNotes pc r = true := am_codeok_of (n := 56) (by decide +kernel)
theorem tl_X5_noteAt : ∀ pc r, tk_X5_noteAt pc = some r → am_dok cX5_noteAt pc r = true := am_codeok_of (n := 93) (by decide +kernel)
theorem tl_X5_ifThinned : ∀ pc r, tk_X5_ifThinned pc = some r → am_dok cX5_ifThinned pc r = true := am_codeok_of (n := 13) (by decide +kernel)
theorem tl_X5_refuseNoWay : ∀ pc r, tk_X5_refuseNoWay pc = some r → am_dok cX5_refuseNoWay pc r = true := am_codeok_of (n := 6) (by decide +kernel)
theorem tl_X4_choose : ∀ pc r, tk_X4_choose pc = some r → am_dok cX4_choose pc r = true := am_codeok_of (n := 139) (by decide +kernel)
theorem tl_X2_endsStretch : ∀ pc r, tk_X2_endsStretch pc = some r → am_dok cX2_endsStretch pc r = true := am_codeok_of (n := 17) (by decide +kernel)
theorem tl_X4_halveBehind : ∀ pc r, tk_X4_halveBehind pc = some r → am_dok cX4_halveBehind pc r = true := am_codeok_of (n := 84) (by decide +kernel)
theorem tl_X4_chosenBehind : ∀ pc r, tk_X4_chosenBehind pc = some r → am_dok cX4_chosenBehind pc r = true := am_codeok_of (n := 40) (by decide +kernel)
theorem tl_X4_joinBehind : ∀ pc r, tk_X4_joinBehind pc = some r → am_dok cX4_joinBehind pc r = true := am_codeok_of (n := 102) (by decide +kernel)
theorem tl_X5_leastOath : ∀ pc r, tk_X5_leastOath pc = some r → am_dok cX5_leastOath pc r = true := am_codeok_of (n := 29) (by decide +kernel)
theorem tl_X4_leastOathFor : ∀ pc r, tk_X4_leastOathFor pc = some r → am_dok cX4_leastOathFor pc r = true := am_codeok_of (n := 40) (by decide +kernel)
theorem tl_X5_cheapest : ∀ pc r, tk_X5_cheapest pc = some r → am_dok cX5_cheapest pc r = true := am_codeok_of (n := 67) (by decide +kernel)
theorem tl_X1_leastMissed : ∀ pc r, tk_X1_leastMissed pc = some r → am_dok cX1_leastMissed pc r = true := am_codeok_of (n := 106) (by decide +kernel)
theorem tl_X5_bitsOf : ∀ pc r, tk_X5_bitsOf pc = some r → am_dok cX5_bitsOf pc r = true := am_codeok_of (n := 64) (by decide +kernel)
theorem tl_X5_hashText : ∀ pc r, tk_X5_hashText pc = some r → am_dok cX5_hashText pc r = true := am_codeok_of (n := 56) (by decide +kernel)
theorem tl_X5_add : ∀ pc r, tk_X5_add pc = some r → am_dok cX5_add pc r = true := am_codeok_of (n := 84) (by decide +kernel)
theorem tl_X5_isTime : ∀ pc r, tk_X5_isTime pc = some r → am_dok cX5_isTime pc r = true := am_codeok_of (n := 17) (by decide +kernel)
theorem tl_X5_isValue : ∀ pc r, tk_X5_isValue pc = some r → am_dok cX5_isValue pc r = true := am_codeok_of (n := 20) (by decide +kernel)
theorem tl_X2_hasTime : ∀ pc r, tk_X2_hasTime pc = some r → am_dok cX2_hasTime pc r = true := am_codeok_of (n := 30) (by decide +kernel)
theorem tl_X2_insert : ∀ pc r, tk_X2_insert pc = some r → am_dok cX2_insert pc r = true := am_codeok_of (n := 79) (by decide +kernel)
theorem tl_X2_copyPoint : ∀ pc r, tk_X2_copyPoint pc = some r → am_dok cX2_copyPoint pc r = true := am_codeok_of (n := 57) (by decide +kernel)
theorem tl_X5_pointsChanged : ∀ pc r, tk_X5_pointsChanged pc = some r → am_dok cX5_pointsChanged pc r = true := am_codeok_of (n := 15) (by decide +kernel)
theorem tl_X2_numberStretches : ∀ pc r, tk_X2_numberStretches pc = some r → am_dok cX2_numberStretches pc r = true := am_codeok_of (n := 57) (by decide +kernel)
theorem tl_X4_forget : ∀ pc r, tk_X4_forget pc = some r → am_dok cX4_forget pc r = true := am_codeok_of (n := 6) (by decide +kernel)
theorem tl_X5_correct : ∀ pc r, tk_X5_correct pc = some r → am_dok cX5_correct pc r = true := am_codeok_of (n := 59) (by decide +kernel)
theorem tl_X5_drop : ∀ pc r, tk_X5_drop pc = some r → am_dok cX5_drop pc r = true := am_codeok_of (n := 55) (by decide +kernel)
theorem tl_X5_keep : ∀ pc r, tk_X5_keep pc = some r → am_dok cX5_keep pc r = true := am_codeok_of (n := 55) (by decide +kernel)
theorem tl_X5_thin : ∀ pc r, tk_X5_thin pc = some r → am_dok cX5_thin pc r = true := am_codeok_of (n := 76) (by decide +kernel)
theorem tl_X5_tear : ∀ pc r, tk_X5_tear pc = some r → am_dok cX5_tear pc r = true := am_codeok_of (n := 60) (by decide +kernel)
theorem tl_X2_removeRun : ∀ pc r, tk_X2_removeRun pc = some r → am_dok cX2_removeRun pc r = true := am_codeok_of (n := 56) (by decide +kernel)
theorem tl_X5_set : ∀ pc r, tk_X5_set pc = some r → am_dok cX5_set pc r = true := am_codeok_of (n := 59) (by decide +kernel)
theorem tl_X5_refuseNoSetting : ∀ pc r, tk_X5_refuseNoSetting pc = some r → am_dok cX5_refuseNoSetting pc r = true := am_codeok_of (n := 21) (by decide +kernel)
theorem tl_X5_isSettingValue : ∀ pc r, tk_X5_isSettingValue pc = some r → am_dok cX5_isSettingValue pc r = true := am_codeok_of (n := 59) (by decide +kernel)
theorem tl_X5_note : ∀ pc r, tk_X5_note pc = some r → am_dok cX5_note pc r = true := am_codeok_of (n := 122) (by decide +kernel)
theorem tl_X5_append : ∀ pc r, tk_X5_append pc = some r → am_dok cX5_append pc r = true := am_codeok_of (n := 60) (by decide +kernel)
theorem tl_X3_push : ∀ pc r, tk_X3_push pc = some r → am_dok cX3_push pc r = true := am_codeok_of (n := 37) (by decide +kernel)
theorem tl_X5_addAll : ∀ pc r, tk_X5_addAll pc = some r → am_dok cX5_addAll pc r = true := am_codeok_of (n := 140) (by decide +kernel)
theorem tl_X3_isRow : ∀ pc r, tk_X3_isRow pc = some r → am_dok cX3_isRow pc r = true := am_codeok_of (n := 46) (by decide +kernel)
theorem tl_X3_readRow : ∀ pc r, tk_X3_readRow pc = some r → am_dok cX3_readRow pc r = true := am_codeok_of (n := 106) (by decide +kernel)
theorem tl_X3_takePoint : ∀ pc r, tk_X3_takePoint pc = some r → am_dok cX3_takePoint pc r = true := am_codeok_of (n := 47) (by decide +kernel)
theorem tl_X5_parsedTimesAreFree : ∀ pc r, tk_X5_parsedTimesAreFree pc = some r → am_dok cX5_parsedTimesAreFree pc r = true := am_codeok_of (n := 78) (by decide +kernel)
theorem tl_X5_undo : ∀ pc r, tk_X5_undo pc = some r → am_dok cX5_undo pc r = true := am_codeok_of (n := 43) (by decide +kernel)
theorem tl_X0_restore : ∀ pc r, tk_X0_restore pc = some r → am_dok cX0_restore pc r = true := am_codeok_of (n := 42) (by decide +kernel)
theorem tl_X5_reading : ∀ pc r, tk_X5_reading pc = some r → am_dok cX5_reading pc r = true := am_codeok_of (n := 58) (by decide +kernel)
theorem tl_X5_setting : ∀ pc r, tk_X5_setting pc = some r → am_dok cX5_setting pc r = true := am_codeok_of (n := 14) (by decide +kernel)
theorem tl_X5_whyNot : ∀ pc r, tk_X5_whyNot pc = some r → am_dok cX5_whyNot pc r = true := am_codeok_of (n := 14) (by decide +kernel)
theorem tl_X5_join : ∀ pc r, tk_X5_join pc = some r → am_dok cX5_join pc r = true := am_codeok_of (n := 79) (by decide +kernel)
theorem tl_X1_isWithin : ∀ pc r, tk_X1_isWithin pc = some r → am_dok cX1_isWithin pc r = true := am_codeok_of (n := 37) (by decide +kernel)
theorem tl_X6_thrown : ∀ pc r, tk_X6_thrown pc = some r → am_dok cX6_thrown pc r = true := am_codeok_of (n := 5) (by decide +kernel)
theorem tl_X6_add : ∀ pc r, tk_X6_add pc = some r → am_dok cX6_add pc r = true := am_codeok_of (n := 55) (by decide +kernel)
theorem tl_X6_isEntry : ∀ pc r, tk_X6_isEntry pc = some r → am_dok cX6_isEntry pc r = true := am_codeok_of (n := 30) (by decide +kernel)
theorem tl_X6_in : ∀ pc r, tk_X6_in pc = some r → am_dok cX6_in pc r = true := am_codeok_of (n := 16) (by decide +kernel)
theorem tl_X6_fails : ∀ pc r, tk_X6_fails pc = some r → am_dok cX6_fails pc r = true := am_codeok_of (n := 7) (by decide +kernel)
theorem tl_X6_hasTime : ∀ pc r, tk_X6_hasTime pc = some r → am_dok cX6_hasTime pc r = true := am_codeok_of (n := 41) (by decide +kernel)
theorem tl_X6_time : ∀ pc r, tk_X6_time pc = some r → am_dok cX6_time pc r = true := am_codeok_of (n := 10) (by decide +kernel)
theorem tl_X6_save : ∀ pc r, tk_X6_save pc = some r → am_dok cX6_save pc r = true := am_codeok_of (n := 97) (by decide +kernel)
theorem tl_X6_adds : ∀ pc r, tk_X6_adds pc = some r → am_dok cX6_adds pc r = true := am_codeok_of (n := 130) (by decide +kernel)
theorem tl_X6_correct : ∀ pc r, tk_X6_correct pc = some r → am_dok cX6_correct pc r = true := am_codeok_of (n := 60) (by decide +kernel)
theorem tl_X6_isPoint : ∀ pc r, tk_X6_isPoint pc = some r → am_dok cX6_isPoint pc r = true := am_codeok_of (n := 14) (by decide +kernel)
theorem tl_X6_value : ∀ pc r, tk_X6_value pc = some r → am_dok cX6_value pc r = true := am_codeok_of (n := 10) (by decide +kernel)
theorem tl_X6_drop : ∀ pc r, tk_X6_drop pc = some r → am_dok cX6_drop pc r = true := am_codeok_of (n := 42) (by decide +kernel)
theorem tl_X6_against : ∀ pc r, tk_X6_against pc = some r → am_dok cX6_against pc r = true := am_codeok_of (n := 60) (by decide +kernel)
theorem tl_X6_isKept : ∀ pc r, tk_X6_isKept pc = some r → am_dok cX6_isKept pc r = true := am_codeok_of (n := 19) (by decide +kernel)
theorem tl_X6_neighbors : ∀ pc r, tk_X6_neighbors pc = some r → am_dok cX6_neighbors pc r = true := am_codeok_of (n := 80) (by decide +kernel)
theorem tl_X6_around : ∀ pc r, tk_X6_around pc = some r → am_dok cX6_around pc r = true := am_codeok_of (n := 94) (by decide +kernel)
theorem tl_X6_stretchOf : ∀ pc r, tk_X6_stretchOf pc = some r → am_dok cX6_stretchOf pc r = true := am_codeok_of (n := 33) (by decide +kernel)
theorem tl_X6_isFirst : ∀ pc r, tk_X6_isFirst pc = some r → am_dok cX6_isFirst pc r = true := am_codeok_of (n := 32) (by decide +kernel)
theorem tl_X6_canJoin : ∀ pc r, tk_X6_canJoin pc = some r → am_dok cX6_canJoin pc r = true := am_codeok_of (n := 21) (by decide +kernel)
theorem tl_X6_withinMany : ∀ pc r, tk_X6_withinMany pc = some r → am_dok cX6_withinMany pc r = true := am_codeok_of (n := 62) (by decide +kernel)
theorem tl_X6_off : ∀ pc r, tk_X6_off pc = some r → am_dok cX6_off pc r = true := am_codeok_of (n := 21) (by decide +kernel)
theorem tl_X6_below : ∀ pc r, tk_X6_below pc = some r → am_dok cX6_below pc r = true := am_codeok_of (n := 27) (by decide +kernel)
theorem tl_X6_above : ∀ pc r, tk_X6_above pc = some r → am_dok cX6_above pc r = true := am_codeok_of (n := 57) (by decide +kernel)
theorem tl_X6_size : ∀ pc r, tk_X6_size pc = some r → am_dok cX6_size pc r = true := am_codeok_of (n := 11) (by decide +kernel)
theorem tl_X6_keeps : ∀ pc r, tk_X6_keeps pc = some r → am_dok cX6_keeps pc r = true := am_codeok_of (n := 19) (by decide +kernel)
theorem tl_X6_keptMany : ∀ pc r, tk_X6_keptMany pc = some r → am_dok cX6_keptMany pc r = true := am_codeok_of (n := 34) (by decide +kernel)
theorem tl_X6_keep : ∀ pc r, tk_X6_keep pc = some r → am_dok cX6_keep pc r = true := am_codeok_of (n := 42) (by decide +kernel)
theorem tl_X6_mend : ∀ pc r, tk_X6_mend pc = some r → am_dok cX6_mend pc r = true := am_codeok_of (n := 125) (by decide +kernel)
theorem tl_X6_isBroken : ∀ pc r, tk_X6_isBroken pc = some r → am_dok cX6_isBroken pc r = true := am_codeok_of (n := 31) (by decide +kernel)
theorem tl_X6_isTrue : ∀ pc r, tk_X6_isTrue pc = some r → am_dok cX6_isTrue pc r = true := am_codeok_of (n := 32) (by decide +kernel)
theorem tl_X6_farFrom : ∀ pc r, tk_X6_farFrom pc = some r → am_dok cX6_farFrom pc r = true := am_codeok_of (n := 31) (by decide +kernel)
theorem tl_X6_read : ∀ pc r, tk_X6_read pc = some r → am_dok cX6_read pc r = true := am_codeok_of (n := 104) (by decide +kernel)
theorem tl_X6_keptAt : ∀ pc r, tk_X6_keptAt pc = some r → am_dok cX6_keptAt pc r = true := am_codeok_of (n := 39) (by decide +kernel)
theorem tl_X6_thin : ∀ pc r, tk_X6_thin pc = some r → am_dok cX6_thin pc r = true := am_codeok_of (n := 75) (by decide +kernel)
theorem tl_X6_choose : ∀ pc r, tk_X6_choose pc = some r → am_dok cX6_choose pc r = true := am_codeok_of (n := 160) (by decide +kernel)
theorem tl_X6_lastWith : ∀ pc r, tk_X6_lastWith pc = some r → am_dok cX6_lastWith pc r = true := am_codeok_of (n := 32) (by decide +kernel)
theorem tl_X6_far : ∀ pc r, tk_X6_far pc = some r → am_dok cX6_far pc r = true := am_codeok_of (n := 47) (by decide +kernel)
theorem tl_X6_halves : ∀ pc r, tk_X6_halves pc = some r → am_dok cX6_halves pc r = true := am_codeok_of (n := 74) (by decide +kernel)
theorem tl_X6_worst : ∀ pc r, tk_X6_worst pc = some r → am_dok cX6_worst pc r = true := am_codeok_of (n := 67) (by decide +kernel)
theorem tl_X6_few : ∀ pc r, tk_X6_few pc = some r → am_dok cX6_few pc r = true := am_codeok_of (n := 108) (by decide +kernel)
theorem tl_X6_tear : ∀ pc r, tk_X6_tear pc = some r → am_dok cX6_tear pc r = true := am_codeok_of (n := 155) (by decide +kernel)
theorem tl_X6_stretches : ∀ pc r, tk_X6_stretches pc = some r → am_dok cX6_stretches pc r = true := am_codeok_of (n := 28) (by decide +kernel)
theorem tl_X6_firstOf : ∀ pc r, tk_X6_firstOf pc = some r → am_dok cX6_firstOf pc r = true := am_codeok_of (n := 33) (by decide +kernel)
theorem tl_X6_set : ∀ pc r, tk_X6_set pc = some r → am_dok cX6_set pc r = true := am_codeok_of (n := 69) (by decide +kernel)
theorem tl_X6_note : ∀ pc r, tk_X6_note pc = some r → am_dok cX6_note pc r = true := am_codeok_of (n := 97) (by decide +kernel)
theorem tl_X6_strike : ∀ pc r, tk_X6_strike pc = some r → am_dok cX6_strike pc r = true := am_codeok_of (n := 101) (by decide +kernel)
theorem tl_X6_isTrueNote : ∀ pc r, tk_X6_isTrueNote pc = some r → am_dok cX6_isTrueNote pc r = true := am_codeok_of (n := 31) (by decide +kernel)
theorem tl_X6_append : ∀ pc r, tk_X6_append pc = some r → am_dok cX6_append pc r = true := am_codeok_of (n := 62) (by decide +kernel)
theorem tl_X6_clearBuffer : ∀ pc r, tk_X6_clearBuffer pc = some r → am_dok cX6_clearBuffer pc r = true := am_codeok_of (n := 17) (by decide +kernel)
theorem tl_X6_firstError : ∀ pc r, tk_X6_firstError pc = some r → am_dok cX6_firstError pc r = true := am_codeok_of (n := 10) (by decide +kernel)
theorem tl_X6_reads : ∀ pc r, tk_X6_reads pc = some r → am_dok cX6_reads pc r = true := am_codeok_of (n := 38) (by decide +kernel)
theorem tl_X6_readPoint : ∀ pc r, tk_X6_readPoint pc = some r → am_dok cX6_readPoint pc r = true := am_codeok_of (n := 139) (by decide +kernel)
theorem tl_X6_readNumber : ∀ pc r, tk_X6_readNumber pc = some r → am_dok cX6_readNumber pc r = true := am_codeok_of (n := 120) (by decide +kernel)
theorem tl_X6_sign : ∀ pc r, tk_X6_sign pc = some r → am_dok cX6_sign pc r = true := am_codeok_of (n := 50) (by decide +kernel)
theorem tl_X6_addAll : ∀ pc r, tk_X6_addAll pc = some r → am_dok cX6_addAll pc r = true := am_codeok_of (n := 187) (by decide +kernel)
theorem tl_X6_undo : ∀ pc r, tk_X6_undo pc = some r → am_dok cX6_undo pc r = true := am_codeok_of (n := 69) (by decide +kernel)
theorem tl_X6_point : ∀ pc r, tk_X6_point pc = some r → am_dok cX6_point pc r = true := am_codeok_of (n := 44) (by decide +kernel)
theorem tl_X6_aboutPoint : ∀ pc r, tk_X6_aboutPoint pc = some r → am_dok cX6_aboutPoint pc r = true := am_codeok_of (n := 121) (by decide +kernel)
theorem tl_X6_orNone : ∀ pc r, tk_X6_orNone pc = some r → am_dok cX6_orNone pc r = true := am_codeok_of (n := 11) (by decide +kernel)
theorem tl_X6_error : ∀ pc r, tk_X6_error pc = some r → am_dok cX6_error pc r = true := am_codeok_of (n := 43) (by decide +kernel)
theorem tl_X6_errorOf : ∀ pc r, tk_X6_errorOf pc = some r → am_dok cX6_errorOf pc r = true := am_codeok_of (n := 34) (by decide +kernel)
theorem tl_X6_lowest : ∀ pc r, tk_X6_lowest pc = some r → am_dok cX6_lowest pc r = true := am_codeok_of (n := 23) (by decide +kernel)
theorem tl_X6_common : ∀ pc r, tk_X6_common pc = some r → am_dok cX6_common pc r = true := am_codeok_of (n := 23) (by decide +kernel)
theorem tl_X6_reading : ∀ pc r, tk_X6_reading pc = some r → am_dok cX6_reading pc r = true := am_codeok_of (n := 61) (by decide +kernel)
theorem tl_X6_stretch : ∀ pc r, tk_X6_stretch pc = some r → am_dok cX6_stretch pc r = true := am_codeok_of (n := 49) (by decide +kernel)
theorem tl_X6_aboutStretch : ∀ pc r, tk_X6_aboutStretch pc = some r → am_dok cX6_aboutStretch pc r = true := am_codeok_of (n := 129) (by decide +kernel)
theorem tl_X6_noteAt : ∀ pc r, tk_X6_noteAt pc = some r → am_dok cX6_noteAt pc r = true := am_codeok_of (n := 51) (by decide +kernel)
theorem tl_X6_aboutNote : ∀ pc r, tk_X6_aboutNote pc = some r → am_dok cX6_aboutNote pc r = true := am_codeok_of (n := 36) (by decide +kernel)
theorem tl_X6_count : ∀ pc r, tk_X6_count pc = some r → am_dok cX6_count pc r = true := am_codeok_of (n := 29) (by decide +kernel)
theorem tl_X6_number : ∀ pc r, tk_X6_number pc = some r → am_dok cX6_number pc r = true := am_codeok_of (n := 119) (by decide +kernel)
theorem tl_X6_brokenMany : ∀ pc r, tk_X6_brokenMany pc = some r → am_dok cX6_brokenMany pc r = true := am_codeok_of (n := 38) (by decide +kernel)
theorem tl_X6_trueMany : ∀ pc r, tk_X6_trueMany pc = some r → am_dok cX6_trueMany pc r = true := am_codeok_of (n := 38) (by decide +kernel)
theorem tl_X6_greatestError : ∀ pc r, tk_X6_greatestError pc = some r → am_dok cX6_greatestError pc r = true := am_codeok_of (n := 85) (by decide +kernel)
theorem tl_X6_greatestStep : ∀ pc r, tk_X6_greatestStep pc = some r → am_dok cX6_greatestStep pc r = true := am_codeok_of (n := 72) (by decide +kernel)
theorem tl_X6_setting : ∀ pc r, tk_X6_setting pc = some r → am_dok cX6_setting pc r = true := am_codeok_of (n := 31) (by decide +kernel)
theorem tl_X6_area : ∀ pc r, tk_X6_area pc = some r → am_dok cX6_area pc r = true := am_codeok_of (n := 142) (by decide +kernel)
theorem tl_X6_whyNot : ∀ pc r, tk_X6_whyNot pc = some r → am_dok cX6_whyNot pc r = true := am_codeok_of (n := 27) (by decide +kernel)
theorem tl_X6_join : ∀ pc r, tk_X6_join pc = some r → am_dok cX6_join pc r = true := am_codeok_of (n := 69) (by decide +kernel)
theorem tl_X6_ifThinned : ∀ pc r, tk_X6_ifThinned pc = some r → am_dok cX6_ifThinned pc r = true := am_codeok_of (n := 28) (by decide +kernel)
theorem tl_X6_leastOath : ∀ pc r, tk_X6_leastOath pc = some r → am_dok cX6_leastOath pc r = true := am_codeok_of (n := 29) (by decide +kernel)
theorem tl_X6_oathFor : ∀ pc r, tk_X6_oathFor pc = some r → am_dok cX6_oathFor pc r = true := am_codeok_of (n := 58) (by decide +kernel)
theorem tl_X6_fewestBy : ∀ pc r, tk_X6_fewestBy pc = some r → am_dok cX6_fewestBy pc r = true := am_codeok_of (n := 48) (by decide +kernel)
theorem tl_X6_cheapest : ∀ pc r, tk_X6_cheapest pc = some r → am_dok cX6_cheapest pc r = true := am_codeok_of (n := 28) (by decide +kernel)
theorem tl_X6_missedLeast : ∀ pc r, tk_X6_missedLeast pc = some r → am_dok cX6_missedLeast pc r = true := am_codeok_of (n := 172) (by decide +kernel)
theorem tl_X6_droppedShare : ∀ pc r, tk_X6_droppedShare pc = some r → am_dok cX6_droppedShare pc r = true := am_codeok_of (n := 10) (by decide +kernel)
theorem tl_X6_share : ∀ pc r, tk_X6_share pc = some r → am_dok cX6_share pc r = true := am_codeok_of (n := 34) (by decide +kernel)
theorem tl_X6_digest : ∀ pc r, tk_X6_digest pc = some r → am_dok cX6_digest pc r = true := am_codeok_of (n := 358) (by decide +kernel)
theorem tl_Jxe99ae_doubleToLongBits_ccdee : ∀ pc r, tk_Jxe99ae_doubleToLongBits_ccdee pc = some r → am_dok cJxe99ae_doubleToLongBits_ccdee pc r = true := am_codeok_of (n := 16) (by decide +kernel)
theorem tl_Jxe99ae_isNaN_b9ae7 : ∀ pc r, tk_Jxe99ae_isNaN_b9ae7 pc = some r → am_dok cJxe99ae_isNaN_b9ae7 pc r = true := am_codeok_of (n := 12) (by decide +kernel)
theorem tl_L_add : ∀ pc r, tk_L_add pc = some r → am_dok cL_add pc r = true := am_codeok_of (n := 23) (by decide +kernel)
theorem tl_L_correct : ∀ pc r, tk_L_correct pc = some r → am_dok cL_correct pc r = true := am_codeok_of (n := 23) (by decide +kernel)
theorem tl_L_drop : ∀ pc r, tk_L_drop pc = some r → am_dok cL_drop pc r = true := am_codeok_of (n := 20) (by decide +kernel)
theorem tl_L_keep : ∀ pc r, tk_L_keep pc = some r → am_dok cL_keep pc r = true := am_codeok_of (n := 20) (by decide +kernel)
theorem tl_L_thin : ∀ pc r, tk_L_thin pc = some r → am_dok cL_thin pc r = true := am_codeok_of (n := 17) (by decide +kernel)
theorem tl_L_tear : ∀ pc r, tk_L_tear pc = some r → am_dok cL_tear pc r = true := am_codeok_of (n := 17) (by decide +kernel)
theorem tl_L_set : ∀ pc r, tk_L_set pc = some r → am_dok cL_set pc r = true := am_codeok_of (n := 23) (by decide +kernel)
theorem tl_L_note : ∀ pc r, tk_L_note pc = some r → am_dok cL_note pc r = true := am_codeok_of (n := 23) (by decide +kernel)
theorem tl_L_append : ∀ pc r, tk_L_append pc = some r → am_dok cL_append pc r = true := am_codeok_of (n := 20) (by decide +kernel)
theorem tl_L_addAll : ∀ pc r, tk_L_addAll pc = some r → am_dok cL_addAll pc r = true := am_codeok_of (n := 19) (by decide +kernel)
theorem tl_L_undo : ∀ pc r, tk_L_undo pc = some r → am_dok cL_undo pc r = true := am_codeok_of (n := 16) (by decide +kernel)
theorem tl_L_point : ∀ pc r, tk_L_point pc = some r → am_dok cL_point pc r = true := am_codeok_of (n := 23) (by decide +kernel)
theorem tl_L_error : ∀ pc r, tk_L_error pc = some r → am_dok cL_error pc r = true := am_codeok_of (n := 23) (by decide +kernel)
theorem tl_L_reading : ∀ pc r, tk_L_reading pc = some r → am_dok cL_reading pc r = true := am_codeok_of (n := 19) (by decide +kernel)
theorem tl_L_stretch : ∀ pc r, tk_L_stretch pc = some r → am_dok cL_stretch pc r = true := am_codeok_of (n := 23) (by decide +kernel)
theorem tl_L_noteAt : ∀ pc r, tk_L_noteAt pc = some r → am_dok cL_noteAt pc r = true := am_codeok_of (n := 23) (by decide +kernel)
theorem tl_L_count : ∀ pc r, tk_L_count pc = some r → am_dok cL_count pc r = true := am_codeok_of (n := 17) (by decide +kernel)
theorem tl_L_setting : ∀ pc r, tk_L_setting pc = some r → am_dok cL_setting pc r = true := am_codeok_of (n := 17) (by decide +kernel)
theorem tl_L_whyNot : ∀ pc r, tk_L_whyNot pc = some r → am_dok cL_whyNot pc r = true := am_codeok_of (n := 17) (by decide +kernel)
theorem tl_L_join : ∀ pc r, tk_L_join pc = some r → am_dok cL_join pc r = true := am_codeok_of (n := 23) (by decide +kernel)
theorem tl_L_ifThinned : ∀ pc r, tk_L_ifThinned pc = some r → am_dok cL_ifThinned pc r = true := am_codeok_of (n := 17) (by decide +kernel)
theorem tl_L_leastOath : ∀ pc r, tk_L_leastOath pc = some r → am_dok cL_leastOath pc r = true := am_codeok_of (n := 17) (by decide +kernel)
theorem tl_L_cheapest : ∀ pc r, tk_L_cheapest pc = some r → am_dok cL_cheapest pc r = true := am_codeok_of (n := 17) (by decide +kernel)
theorem tl_law_0 : (List.range' 0 100).all (fun pc => match tk_L_law pc with | none => true | some r => am_dok cL_law pc r) = true := by decide +kernel
theorem tl_law_100 : (List.range' 100 100).all (fun pc => match tk_L_law pc with | none => true | some r => am_dok cL_law pc r) = true := by decide +kernel
theorem tl_law_200 : (List.range' 200 100).all (fun pc => match tk_L_law pc with | none => true | some r => am_dok cL_law pc r) = true := by decide +kernel
theorem tl_law_300 : (List.range' 300 100).all (fun pc => match tk_L_law pc with | none => true | some r => am_dok cL_law pc r) = true := by decide +kernel
theorem tl_law_400 : (List.range' 400 100).all (fun pc => match tk_L_law pc with | none => true | some r => am_dok cL_law pc r) = true := by decide +kernel
theorem tl_law_500 : (List.range' 500 100).all (fun pc => match tk_L_law pc with | none => true | some r => am_dok cL_law pc r) = true := by decide +kernel
theorem tl_law_600 : (List.range' 600 100).all (fun pc => match tk_L_law pc with | none => true | some r => am_dok cL_law pc r) = true := by decide +kernel
theorem tl_law_700 : (List.range' 700 100).all (fun pc => match tk_L_law pc with | none => true | some r => am_dok cL_law pc r) = true := by decide +kernel
theorem tl_law_800 : (List.range' 800 100).all (fun pc => match tk_L_law pc with | none => true | some r => am_dok cL_law pc r) = true := by decide +kernel
theorem tl_law_900 : (List.range' 900 100).all (fun pc => match tk_L_law pc with | none => true | some r => am_dok cL_law pc r) = true := by decide +kernel
theorem tl_law_1000 : (List.range' 1000 100).all (fun pc => match tk_L_law pc with | none => true | some r => am_dok cL_law pc r) = true := by decide +kernel
theorem tl_law_1100 : (List.range' 1100 100).all (fun pc => match tk_L_law pc with | none => true | some r => am_dok cL_law pc r) = true := by decide +kernel
theorem tl_law_1200 : (List.range' 1200 100).all (fun pc => match tk_L_law pc with | none => true | some r => am_dok cL_law pc r) = true := by decide +kernel
theorem tl_law_1300 : (List.range' 1300 100).all (fun pc => match tk_L_law pc with | none => true | some r => am_dok cL_law pc r) = true := by decide +kernel
theorem tl_law_1400 : (List.range' 1400 100).all (fun pc => match tk_L_law pc with | none => true | some r => am_dok cL_law pc r) = true := by decide +kernel
theorem tl_law_1500 : (List.range' 1500 100).all (fun pc => match tk_L_law pc with | none => true | some r => am_dok cL_law pc r) = true := by decide +kernel
theorem tl_law_1600 : (List.range' 1600 100).all (fun pc => match tk_L_law pc with | none => true | some r => am_dok cL_law pc r) = true := by decide +kernel
theorem tl_law_1700 : (List.range' 1700 13).all (fun pc => match tk_L_law pc with | none => true | some r => am_dok cL_law pc r) = true := by decide +kernel
theorem tl_L_law : ∀ pc r, tk_L_law pc = some r → am_dok cL_law pc r = true := am_ck_of (n := 1713) (am_ck (am_ck (am_ck (am_ck (am_ck (am_ck (am_ck (am_ck (am_ck (am_ck (am_ck (am_ck (am_ck (am_ck (am_ck (am_ck (am_ck (am_ck (fun pc h => absurd h (Nat.not_lt_zero pc)) tl_law_0) tl_law_100) tl_law_200) tl_law_300) tl_law_400) tl_law_500) tl_law_600) tl_law_700) tl_law_800) tl_law_900) tl_law_1000) tl_law_1100) tl_law_1200) tl_law_1300) tl_law_1400) tl_law_1500) tl_law_1600) tl_law_1700)
set_option maxRecDepth 20000 in
theorem tl_all : ∀ q ∈ tb_CL, ∀ pc r, q.2.2 pc = some r → am_dok q.2.1 pc r = true := List.forall_mem_cons.mpr ⟨tl_X5_mend, List.forall_mem_cons.mpr ⟨tl_X0_remember, List.forall_mem_cons.mpr ⟨tl_X0_rowAt, List.forall_mem_cons.mpr ⟨tl_J9_floorMod_7cf53, List.forall_mem_cons.mpr ⟨tl_X2_copyFrom, List.forall_mem_cons.mpr ⟨tl_X2_keptPoints, List.forall_mem_cons.mpr ⟨tl_X5_keepBroken, List.forall_mem_cons.mpr ⟨tl_X1_isBroken, List.forall_mem_cons.mpr ⟨tl_X2_isKept, List.forall_mem_cons.mpr ⟨tl_X2_hasPoint, List.forall_mem_cons.mpr ⟨tl_X2_earlierKept, List.forall_mem_cons.mpr ⟨tl_X2_keptBelow, List.forall_mem_cons.mpr ⟨tl_X2_sameStretch, List.forall_mem_cons.mpr ⟨tl_X2_laterKept, List.forall_mem_cons.mpr ⟨tl_X2_keptFrom, List.forall_mem_cons.mpr ⟨tl_X1_findMiss, List.forall_mem_cons.mpr ⟨tl_X2_isStep, List.forall_mem_cons.mpr ⟨tl_X5_strike, List.forall_mem_cons.mpr ⟨tl_X1_isTrue, List.forall_mem_cons.mpr ⟨tl_X1_findReading, List.forall_mem_cons.mpr ⟨tl_X2_placeOf, List.forall_mem_cons.mpr ⟨tl_X1_shorten, List.forall_mem_cons.mpr ⟨tl_X1_commonDivisor, List.forall_mem_cons.mpr ⟨tl_X5_clearBuffer, List.forall_mem_cons.mpr ⟨tl_X5_firstError, List.forall_mem_cons.mpr ⟨tl_X3_goodLength, List.forall_mem_cons.mpr ⟨tl_X3_placeAfter, List.forall_mem_cons.mpr ⟨tl_X3_placeAfterFirstDigit, List.forall_mem_cons.mpr ⟨tl_X3_isDigit, List.forall_mem_cons.mpr ⟨tl_X5_area, List.forall_mem_cons.mpr ⟨tl_X5_areaBetween, List.forall_mem_cons.mpr ⟨tl_X5_droppedShare, List.forall_mem_cons.mpr ⟨tl_X5_digest, List.forall_mem_cons.mpr ⟨tl_X5_count, List.forall_mem_cons.mpr ⟨tl_X5_refuseOutside, List.forall_mem_cons.mpr ⟨tl_X5_brokenAmong, List.forall_mem_cons.mpr ⟨tl_X2_stretchCount, List.forall_mem_cons.mpr ⟨tl_X5_trueNotes, List.forall_mem_cons.mpr ⟨tl_X5_greatestError, List.forall_mem_cons.mpr ⟨tl_X1_findError, List.forall_mem_cons.mpr ⟨tl_X5_roundedUp, List.forall_mem_cons.mpr ⟨tl_X5_longestStep, List.forall_mem_cons.mpr ⟨tl_X5_hashPoints, List.forall_mem_cons.mpr ⟨tl_X5_point, List.forall_mem_cons.mpr ⟨tl_X5_refuseNoPoint, List.forall_mem_cons.mpr ⟨tl_X1_reasonToKeep, List.forall_mem_cons.mpr ⟨tl_X1_canJoin, List.forall_mem_cons.mpr ⟨tl_X1_findWorst, List.forall_mem_cons.mpr ⟨tl_X5_error, List.forall_mem_cons.mpr ⟨tl_X5_hashStretches, List.forall_mem_cons.mpr ⟨tl_X5_stretch, List.forall_mem_cons.mpr ⟨tl_X5_refuseNoStretch, List.forall_mem_cons.mpr ⟨tl_X2_firstOf, List.forall_mem_cons.mpr ⟨tl_X2_sizeOf, List.forall_mem_cons.mpr ⟨tl_X2_keptOf, List.forall_mem_cons.mpr ⟨tl_X4_fewestOf, List.forall_mem_cons.mpr ⟨tl_X4_findNeeds, List.forall_mem_cons.mpr ⟨tl_X4_cell, List.forall_mem_cons.mpr ⟨tl_X4_findFewest, List.forall_mem_cons.mpr ⟨tl_X4_fewestBehind, List.forall_mem_cons.mpr ⟨tl_X2_beginsStretch, List.forall_mem_cons.mpr ⟨tl_X5_hashNotes, List.forall_mem_cons.mpr ⟨tl_X5_noteAt, List.forall_mem_cons.mpr ⟨tl_X5_ifThinned, List.forall_mem_cons.mpr ⟨tl_X5_refuseNoWay, List.forall_mem_cons.mpr ⟨tl_X4_choose, List.forall_mem_cons.mpr ⟨tl_X2_endsStretch, List.forall_mem_cons.mpr ⟨tl_X4_halveBehind, List.forall_mem_cons.mpr ⟨tl_X4_chosenBehind, List.forall_mem_cons.mpr ⟨tl_X4_joinBehind, List.forall_mem_cons.mpr ⟨tl_X5_leastOath, List.forall_mem_cons.mpr ⟨tl_X4_leastOathFor, List.forall_mem_cons.mpr ⟨tl_X5_cheapest, List.forall_mem_cons.mpr ⟨tl_X1_leastMissed, List.forall_mem_cons.mpr ⟨tl_X5_bitsOf, List.forall_mem_cons.mpr ⟨tl_X5_hashText, List.forall_mem_cons.mpr ⟨tl_X5_add, List.forall_mem_cons.mpr ⟨tl_X5_isTime, List.forall_mem_cons.mpr ⟨tl_X5_isValue, List.forall_mem_cons.mpr ⟨tl_X2_hasTime, List.forall_mem_cons.mpr ⟨tl_X2_insert, List.forall_mem_cons.mpr ⟨tl_X2_copyPoint, List.forall_mem_cons.mpr ⟨tl_X5_pointsChanged, List.forall_mem_cons.mpr ⟨tl_X2_numberStretches, List.forall_mem_cons.mpr ⟨tl_X4_forget, List.forall_mem_cons.mpr ⟨tl_X5_correct, List.forall_mem_cons.mpr ⟨tl_X5_drop, List.forall_mem_cons.mpr ⟨tl_X5_keep, List.forall_mem_cons.mpr ⟨tl_X5_thin, List.forall_mem_cons.mpr ⟨tl_X5_tear, List.forall_mem_cons.mpr ⟨tl_X2_removeRun, List.forall_mem_cons.mpr ⟨tl_X5_set, List.forall_mem_cons.mpr ⟨tl_X5_refuseNoSetting, List.forall_mem_cons.mpr ⟨tl_X5_isSettingValue, List.forall_mem_cons.mpr ⟨tl_X5_note, List.forall_mem_cons.mpr ⟨tl_X5_append, List.forall_mem_cons.mpr ⟨tl_X3_push, List.forall_mem_cons.mpr ⟨tl_X5_addAll, List.forall_mem_cons.mpr ⟨tl_X3_isRow, List.forall_mem_cons.mpr ⟨tl_X3_readRow, List.forall_mem_cons.mpr ⟨tl_X3_takePoint, List.forall_mem_cons.mpr ⟨tl_X5_parsedTimesAreFree, List.forall_mem_cons.mpr ⟨tl_X5_undo, List.forall_mem_cons.mpr ⟨tl_X0_restore, List.forall_mem_cons.mpr ⟨tl_X5_reading, List.forall_mem_cons.mpr ⟨tl_X5_setting, List.forall_mem_cons.mpr ⟨tl_X5_whyNot, List.forall_mem_cons.mpr ⟨tl_X5_join, List.forall_mem_cons.mpr ⟨tl_X1_isWithin, List.forall_mem_cons.mpr ⟨tl_X6_thrown, List.forall_mem_cons.mpr ⟨tl_X6_add, List.forall_mem_cons.mpr ⟨tl_X6_isEntry, List.forall_mem_cons.mpr ⟨tl_X6_in, List.forall_mem_cons.mpr ⟨tl_X6_fails, List.forall_mem_cons.mpr ⟨tl_X6_hasTime, List.forall_mem_cons.mpr ⟨tl_X6_time, List.forall_mem_cons.mpr ⟨tl_X6_save, List.forall_mem_cons.mpr ⟨tl_X6_adds, List.forall_mem_cons.mpr ⟨tl_X6_correct, List.forall_mem_cons.mpr ⟨tl_X6_isPoint, List.forall_mem_cons.mpr ⟨tl_X6_value, List.forall_mem_cons.mpr ⟨tl_X6_drop, List.forall_mem_cons.mpr ⟨tl_X6_against, List.forall_mem_cons.mpr ⟨tl_X6_isKept, List.forall_mem_cons.mpr ⟨tl_X6_neighbors, List.forall_mem_cons.mpr ⟨tl_X6_around, List.forall_mem_cons.mpr ⟨tl_X6_stretchOf, List.forall_mem_cons.mpr ⟨tl_X6_isFirst, List.forall_mem_cons.mpr ⟨tl_X6_canJoin, List.forall_mem_cons.mpr ⟨tl_X6_withinMany, List.forall_mem_cons.mpr ⟨tl_X6_off, List.forall_mem_cons.mpr ⟨tl_X6_below, List.forall_mem_cons.mpr ⟨tl_X6_above, List.forall_mem_cons.mpr ⟨tl_X6_size, List.forall_mem_cons.mpr ⟨tl_X6_keeps, List.forall_mem_cons.mpr ⟨tl_X6_keptMany, List.forall_mem_cons.mpr ⟨tl_X6_keep, List.forall_mem_cons.mpr ⟨tl_X6_mend, List.forall_mem_cons.mpr ⟨tl_X6_isBroken, List.forall_mem_cons.mpr ⟨tl_X6_isTrue, List.forall_mem_cons.mpr ⟨tl_X6_farFrom, List.forall_mem_cons.mpr ⟨tl_X6_read, List.forall_mem_cons.mpr ⟨tl_X6_keptAt, List.forall_mem_cons.mpr ⟨tl_X6_thin, List.forall_mem_cons.mpr ⟨tl_X6_choose, List.forall_mem_cons.mpr ⟨tl_X6_lastWith, List.forall_mem_cons.mpr ⟨tl_X6_far, List.forall_mem_cons.mpr ⟨tl_X6_halves, List.forall_mem_cons.mpr ⟨tl_X6_worst, List.forall_mem_cons.mpr ⟨tl_X6_few, List.forall_mem_cons.mpr ⟨tl_X6_tear, List.forall_mem_cons.mpr ⟨tl_X6_stretches, List.forall_mem_cons.mpr ⟨tl_X6_firstOf, List.forall_mem_cons.mpr ⟨tl_X6_set, List.forall_mem_cons.mpr ⟨tl_X6_note, List.forall_mem_cons.mpr ⟨tl_X6_strike, List.forall_mem_cons.mpr ⟨tl_X6_isTrueNote, List.forall_mem_cons.mpr ⟨tl_X6_append, List.forall_mem_cons.mpr ⟨tl_X6_clearBuffer, List.forall_mem_cons.mpr ⟨tl_X6_firstError, List.forall_mem_cons.mpr ⟨tl_X6_reads, List.forall_mem_cons.mpr ⟨tl_X6_readPoint, List.forall_mem_cons.mpr ⟨tl_X6_readNumber, List.forall_mem_cons.mpr ⟨tl_X6_sign, List.forall_mem_cons.mpr ⟨tl_X6_addAll, List.forall_mem_cons.mpr ⟨tl_X6_undo, List.forall_mem_cons.mpr ⟨tl_X6_point, List.forall_mem_cons.mpr ⟨tl_X6_aboutPoint, List.forall_mem_cons.mpr ⟨tl_X6_orNone, List.forall_mem_cons.mpr ⟨tl_X6_error, List.forall_mem_cons.mpr ⟨tl_X6_errorOf, List.forall_mem_cons.mpr ⟨tl_X6_lowest, List.forall_mem_cons.mpr ⟨tl_X6_common, List.forall_mem_cons.mpr ⟨tl_X6_reading, List.forall_mem_cons.mpr ⟨tl_X6_stretch, List.forall_mem_cons.mpr ⟨tl_X6_aboutStretch, List.forall_mem_cons.mpr ⟨tl_X6_noteAt, List.forall_mem_cons.mpr ⟨tl_X6_aboutNote, List.forall_mem_cons.mpr ⟨tl_X6_count, List.forall_mem_cons.mpr ⟨tl_X6_number, List.forall_mem_cons.mpr ⟨tl_X6_brokenMany, List.forall_mem_cons.mpr ⟨tl_X6_trueMany, List.forall_mem_cons.mpr ⟨tl_X6_greatestError, List.forall_mem_cons.mpr ⟨tl_X6_greatestStep, List.forall_mem_cons.mpr ⟨tl_X6_setting, List.forall_mem_cons.mpr ⟨tl_X6_area, List.forall_mem_cons.mpr ⟨tl_X6_whyNot, List.forall_mem_cons.mpr ⟨tl_X6_join, List.forall_mem_cons.mpr ⟨tl_X6_ifThinned, List.forall_mem_cons.mpr ⟨tl_X6_leastOath, List.forall_mem_cons.mpr ⟨tl_X6_oathFor, List.forall_mem_cons.mpr ⟨tl_X6_fewestBy, List.forall_mem_cons.mpr ⟨tl_X6_cheapest, List.forall_mem_cons.mpr ⟨tl_X6_missedLeast, List.forall_mem_cons.mpr ⟨tl_X6_droppedShare, List.forall_mem_cons.mpr ⟨tl_X6_share, List.forall_mem_cons.mpr ⟨tl_X6_digest, List.forall_mem_cons.mpr ⟨tl_Jxe99ae_doubleToLongBits_ccdee, List.forall_mem_cons.mpr ⟨tl_Jxe99ae_isNaN_b9ae7, List.forall_mem_cons.mpr ⟨tl_L_add, List.forall_mem_cons.mpr ⟨tl_L_correct, List.forall_mem_cons.mpr ⟨tl_L_drop, List.forall_mem_cons.mpr ⟨tl_L_keep, List.forall_mem_cons.mpr ⟨tl_L_thin, List.forall_mem_cons.mpr ⟨tl_L_tear, List.forall_mem_cons.mpr ⟨tl_L_set, List.forall_mem_cons.mpr ⟨tl_L_note, List.forall_mem_cons.mpr ⟨tl_L_append, List.forall_mem_cons.mpr ⟨tl_L_addAll, List.forall_mem_cons.mpr ⟨tl_L_undo, List.forall_mem_cons.mpr ⟨tl_L_point, List.forall_mem_cons.mpr ⟨tl_L_error, List.forall_mem_cons.mpr ⟨tl_L_reading, List.forall_mem_cons.mpr ⟨tl_L_stretch, List.forall_mem_cons.mpr ⟨tl_L_noteAt, List.forall_mem_cons.mpr ⟨tl_L_count, List.forall_mem_cons.mpr ⟨tl_L_setting, List.forall_mem_cons.mpr ⟨tl_L_whyNot, List.forall_mem_cons.mpr ⟨tl_L_join, List.forall_mem_cons.mpr ⟨tl_L_ifThinned, List.forall_mem_cons.mpr ⟨tl_L_leastOath, List.forall_mem_cons.mpr ⟨tl_L_cheapest, List.forall_mem_cons.mpr ⟨tl_L_law, fun _ h => nomatch h⟩⟩⟩⟩⟩⟩⟩⟩⟩⟩⟩⟩⟩⟩⟩⟩⟩⟩⟩⟩⟩⟩⟩⟩⟩⟩⟩⟩⟩⟩⟩⟩⟩⟩⟩⟩⟩⟩⟩⟩⟩⟩⟩⟩⟩⟩⟩⟩⟩⟩⟩⟩⟩⟩⟩⟩⟩⟩⟩⟩⟩⟩⟩⟩⟩⟩⟩⟩⟩⟩⟩⟩⟩⟩⟩⟩⟩⟩⟩⟩⟩⟩⟩⟩⟩⟩⟩⟩⟩⟩⟩⟩⟩⟩⟩⟩⟩⟩⟩⟩⟩⟩⟩⟩⟩⟩⟩⟩⟩⟩⟩⟩⟩⟩⟩⟩⟩⟩⟩⟩⟩⟩⟩⟩⟩⟩⟩⟩⟩⟩⟩⟩⟩⟩⟩⟩⟩⟩⟩⟩⟩⟩⟩⟩⟩⟩⟩⟩⟩⟩⟩⟩⟩⟩⟩⟩⟩⟩⟩⟩⟩⟩⟩⟩⟩⟩⟩⟩⟩⟩⟩⟩⟩⟩⟩⟩⟩⟩⟩⟩⟩⟩⟩⟩⟩⟩⟩⟩⟩⟩⟩⟩⟩⟩⟩⟩⟩⟩⟩⟩⟩⟩⟩⟩⟩⟩⟩⟩⟩⟩⟩⟩⟩⟩⟩⟩⟩⟩⟩⟩⟩⟩⟩
theorem am_al_map {α β : Type} (g : α → β) (y : Nat) : ∀ l : List (Nat × α), am_al y (l.map (fun q => (q.1, g q.2))) = (am_al y l).map g
  | [] => rfl
  | q :: r => by
    show (match Nat.beq q.1 y with | true => some (g q.2) | false => am_al y (r.map (fun q => (q.1, g q.2)))) = (match Nat.beq q.1 y with | true => some q.2 | false => am_al y r).map g
    cases Nat.beq q.1 y with
    | true => rfl
    | false => exact am_al_map g y r
set_option maxRecDepth 100000 in
theorem tl_m : tb_CL.map (fun q => (q.1, q.2.1)) = tb_mL.map (fun q => (q.1, q.2.2.1)) := rfl
set_option maxRecDepth 100000 in
theorem tl_c : tb_CL.map (fun q => (q.1, q.2.2)) = tb_codeL := rfl
theorem tl_dec {y : Nat} {v : tb_T} (h : tb_m y = some v) {pc : Nat} {r : Instr × Nat} (hr : tb_code y pc = some r) : decode v.2.1 pc = .ok r ∧ (am_len r.1 = 0 ∨ r.2 = am_len r.1) := by
  have h1 : (am_al y tb_CL).map (fun q => q.1) = some v.2.1 := by
    rw [← am_al_map (fun q => q.1) y tb_CL, tl_m, am_al_map (fun q : tb_T => q.2.1) y tb_mL]
    unfold tb_m at h
    rw [h]
    rfl
  unfold tb_code at hr
  rw [← tl_c, am_al_map (fun q => q.2) y tb_CL] at hr
  cases hc : am_al y tb_CL with
  | none => rw [hc] at h1; cases h1
  | some q =>
    rw [hc] at h1 hr
    have e : q.1 = v.2.1 := Option.some.inj h1
    have h2 := tl_all _ (am_al_in hc) pc r hr
    rw [← e]
    unfold am_dok at h2
    simp only [Bool.and_eq_true, Bool.or_eq_true, decide_eq_true_eq] at h2
    exact ⟨h2.1, h2.2.imp Nat.eq_of_beq_eq_true Nat.eq_of_beq_eq_true⟩
end
section
/-! A call's contract, and the small machine's walks in the machine. -/
def tb_hz (y o : Nat) : List (Nat × Nat × Nat × Nat) → List (Nat × Nat × Nat × Nat × Nat × Nat) → Bool
  | [], [] => true
  | (s, e, h, ct) :: r, (s', e', E, h', i, np) :: r' => Nat.beq s s' && Nat.beq e e' && Nat.beq h h' && decide (Cond.classLink (tb_cn o) ct (tb_ex E) ∈ am_GL) && Nat.blt E 3 && !Nat.beq ct 0 && (match tb_code y h with
      | some (.astore k, len) => Nat.beq k i && Nat.beq np (h + len)
      | some (.astore_n k, len) => Nat.beq k.val i && Nat.beq np (h + len)
      | _ => false) && tb_hz y o r r'
  | _, _ => false
theorem tf_h : (tb_hnL.all fun q => match am_al q.1 tb_hhL, tb_m q.1 with
  | some hh, some (_, _, _, _, o, _, _) => tb_hz q.1 o hh q.2
  | _, _ => false) = true := by decide +kernel
def am_rm (d x : Nat) : Room := { frames := d, cells := x, slots := 6 * x, locals := 33 * d + 40 }
def tb_ws (y : Nat) (v : tb_T) : List Cond := (match am_al y tb_hhL with
  | none => Cond.code v.1 v.2.1 v.2.2.1 v.2.2.2.1
  | some hh => Cond.codeWith v.1 v.2.1 v.2.2.1 v.2.2.2.1 hh) :: am_GL
def am_Pc (ρ : Nat → Nat) (D : va_G) (cA : Nat → ClassId) (base : Nat) (as : List am_V) (M : am_M) : Array Value → State → Prop := va_Pc (as.map (am_cv ρ)) (fun U => am_env D cA base U U.heap ∧ va_P D tb_cl (am_ws ρ cA M) U.heap)
def am_Qc (ρ : Nat → Nat) (D : va_G) (cA : Nat → ClassId) (base : Nat) (Q : am_Q) : Array Value → State → Outcome → State → Prop := fun _ st oc t =>
  (∃ (r : Option am_V) (M' : am_M), oc = .returned (r.map (am_cv ρ)) ∧ Q r M' ∧ va_P D tb_cl (am_ws ρ cA M') t.heap) ∧ va_F (fun q : Nat => base ≤ q) st t
def am_XC (ρ : Nat → Nat) (D : va_G) (cA : Nat → ClassId) (base : Nat) (QX : am_X) : String → State → State → Prop := fun E st t =>
  (∃ (e : Nat) (M' : am_M), e < 3 ∧ E = tb_ex e ∧ QX e M' ∧ va_P D tb_cl (am_ws ρ cA M') t.heap) ∧ va_F (fun q : Nat => base ≤ q) st t
abbrev am_free (base : Nat) : Addr → Prop := fun q => base ≤ q
/-- a call that returns: its contract -/
def am_CN (l : Launch) (ρ : Nat → Nat) (D : va_G) (cA : Nat → ClassId) (base n y : Nat) (as : List am_V) (M : am_M) (Q : am_Q) : Prop :=
  ∀ v, tb_m y = some v → Met l v.1 (tb_ws y v) (am_rm n (tb_cost y)) (am_Pc ρ D cA base as M) (am_Qc ρ D cA base Q) (tb_cost y) (6 * tb_cost y) (am_free base)
def am_CX (l : Launch) (ρ : Nat → Nat) (D : va_G) (cA : Nat → ClassId) (base n y : Nat) (as : List am_V) (M : am_M) (QX : am_X) : Prop :=
  ∀ v, tb_m y = some v → vx_Met l v.1 (tb_ws y v) (am_rm n 1) (am_Pc ρ D cA base as M) (fun _ _ _ _ => False) (am_XC ρ D cA base QX) 1 6 (am_free base)
theorem am_good {w : Cond} (h : w ∈ am_GL) : w ∈ am_GL ∧ ((w.onTables && w.keeps) = true ∨ ∃ ty, w = .arrayClass ty) := ⟨h, good_of_word (List.mem_filter.mp h).2⟩
theorem am_codew {y : Nat} {v : tb_T} (h : tb_m y = some v) (h2 : y ≠ 222) : (match am_al y tb_hhL with
  | none => Cond.code v.1 v.2.1 v.2.2.1 v.2.2.2.1
  | some hh => Cond.codeWith v.1 v.2.1 v.2.2.1 v.2.2.2.1 hh) ∈ am_GL := by
  have h1 := am_al_in h
  unfold tb_mL at h1
  rcases List.mem_append.mp h1 with h3 | h3
  · have h4 : Cond.code v.1 v.2.1 v.2.2.1 v.2.2.2.1 ∈ tb_wA := List.mem_map.mpr ⟨(y, v), h3, rfl⟩
    have h5 := List.all_eq_true.mp tf_wAg _ h4
    rw [tf_wA] at h4
    obtain ⟨i, -, hi⟩ := List.mem_filterMap.mp h4
    have h6 := List.all_eq_true.mp tf_mA _ h3
    dsimp only at h6
    cases hh : am_al y tb_hhL with
    | none => exact List.mem_filter.mpr ⟨List.mem_of_getElem? hi, h5⟩
    | some z => rw [hh] at h6; cases h6
  · rcases List.mem_append.mp h3 with h3 | h3
    · have h4 : Cond.codeWith v.1 v.2.1 v.2.2.1 v.2.2.2.1 ((am_al y tb_hhL).getD []) ∈ tb_wW := List.mem_map.mpr ⟨(y, v), h3, rfl⟩
      have h5 := List.all_eq_true.mp tf_wWg _ h4
      rw [tf_wW] at h4
      obtain ⟨i, -, hi⟩ := List.mem_filterMap.mp h4
      have h6 := List.all_eq_true.mp tf_mW _ h3
      dsimp only at h6
      cases hh : am_al y tb_hhL with
      | none => rw [hh] at h6; cases h6
      | some z =>
        rw [hh] at hi h5
        exact List.mem_filter.mpr ⟨List.mem_of_getElem? hi, h5⟩
    · rw [List.mem_singleton] at h3
      exact absurd (congrArg Prod.fst h3) h2
theorem am_wsg {y : Nat} {v : tb_T} (h : tb_m y = some v) (h2 : y ≠ 222) : GoodIn am_GL (tb_ws y v) := fun w hw => by
  unfold tb_ws at hw
  rcases List.mem_cons.mp hw with rfl | hw
  · exact am_good (am_codew h h2)
  · exact am_good hw
/-- what the tables say of a method -/
theorem am_mf {y : Nat} {n : MethodName} {c : ByteArray} {nL : Nat} {ret : Option FieldType} {o : Nat} {st : Bool} {np : Nat} (h : tb_m y = some (n, c, nL, ret, o, st, np)) (h2 : y ≠ 222) :
    (st = true → Cond.static n ∈ am_GL) ∧ (st = false → Cond.instanceMethod n ∈ am_GL ∧ Cond.selects n.cls n n ∈ am_GL ∧ ∃ q, tb_cl[o]? = some q ∧ q.1 = n.cls) ∧ Cond.initialized n.cls ∈ am_GL ∧ n.cls = tb_cn o ∧ (n.cls ≠ "java/lang/invoke/MethodHandle" ∧ n.cls ≠ "java/lang/invoke/VarHandle") ∧ (parseMethodDescriptor n.desc).map (fun d => d.parameters.length) = some np ∧ plainFor n = true ∧ nL ≤ 14 ∧ (tb_cost y ≠ 0 → st = true) := by
  have h1 := List.all_eq_true.mp tf_m _ (am_al_in h)
  unfold tb_mok at h1
  dsimp only at h1
  cases hp : am_al y tb_mP with
  | none =>
    rw [hp] at h1
    exact absurd (Nat.eq_of_beq_eq_true h1) h2
  | some z =>
    obtain ⟨z1, z2, z3, z4⟩ := z
    rw [hp] at h1
    simp only [Bool.and_eq_true, decide_eq_true_eq] at h1
    obtain ⟨⟨⟨⟨⟨⟨⟨⟨g1, g2⟩, g3⟩, g4⟩, g5⟩, g6⟩, g7⟩, g8⟩, g9⟩ := h1
    refine ⟨fun e => ?_, fun e => ?_, tb_at_in g2, g3, g4, g5, g6, Nat.ble_eq.mp g7, fun hc => ?_⟩
    · subst e; exact tb_at_in g1
    · subst e
      simp only [Bool.and_eq_true] at g1
      refine ⟨tb_at_in g1.1, tb_at_in g1.2, ?_⟩
      dsimp only at g8
      split at g8
      next q e2 => exact ⟨q, e2, of_decide_eq_true g8⟩
      next => cases g8
    · have h3 : am_al y tb_hhL ≠ none := fun q => by
        unfold tb_cost at hc
        split at hc
        next l e =>
          have h4 := List.all_eq_true.mp tf_h _ (am_al_in e)
          dsimp only at h4
          rw [q] at h4
          cases h4
        next => exact hc rfl
      cases hh : am_al y tb_hhL with
      | none => exact absurd hh h3
      | some w => rw [hh] at g9; exact g9
section AMC
variable {p : Program} {l : Launch} {e : Env} {R : Room} {s : State} {m : MethodId} {args : Array Value} {below : List Frame} {meth : Method} {c : Code} {cells slots : Nat} {Z : State → Prop} {cc : ByteArray} {ρ : Nat → Nat} {D : va_G} {cA : Nat → ClassId} {base o nL : Nat} {scr : Option (Int × (Int → Int))}
theorem am_sBr (hx : p.tables.exec = Jvm.exec) (hb : c.code = cc) {ins : Instr} {len pc t : Nat} {lv : am_L} {st st' : List am_V} {M : am_M} {P : List Prop} {b : Prop} (hd : decode cc pc = .ok (ins, len)) (hlen : am_len ins = 0 ∨ len = am_len ins) (h : am_br ins pc st = some (P, b, t, st')) (hp : am_all P)
    (kt : b → am_at_ p l e R s m args below meth c cells slots Z ρ D cA base nL t lv st' M) (kf : ¬ b → am_at_ p l e R s m args below meth c cells slots Z ρ D cA base nL (pc + 3) lv st' M) : am_at_ p l e R s m args below meth c cells slots Z ρ D cA base nL pc lv st M := by
  intro H locs ls hP hS hl
  cases ins with
  | if_icmp cnd off =>
    obtain rfl : len = 3 := hlen.resolve_left (fun q => by cases q)
    dsimp only [am_br] at h
    split at h
    next y x r =>
      obtain ⟨t', e1, e2⟩ := Option.map_eq_some_iff.mp h
      cases e2
      obtain ⟨h1, h2, -⟩ := hp
      cases cnd with
      | eq => exact lv_icmp_eq hx hb hd (am_tg_eq e1) (fun q => kt ((am_eq h1 h2).mp q) H locs ls hP hS hl) (fun q => kf (fun z => q ((am_eq h1 h2).mpr z)) H locs ls hP hS hl)
      | ne => exact lv_icmp_ne hx hb hd (am_tg_eq e1) (fun q => kt (fun z => q ((am_eq h1 h2).mpr z)) H locs ls hP hS hl) (fun q => kf (fun z => z ((am_eq h1 h2).mp q)) H locs ls hP hS hl)
      | lt => exact lv_icmp_lt hx hb hd (am_tg_eq e1) (fun q => kt ((am_lt h1 h2).mp q) H locs ls hP hS hl) (fun q => kf (fun z => q ((am_lt h1 h2).mpr z)) H locs ls hP hS hl)
      | ge => exact lv_icmp_ge hx hb hd (am_tg_eq e1) (fun q => kt ((am_le h2 h1).mp q) H locs ls hP hS hl) (fun q => kf (fun z => q ((am_le h2 h1).mpr z)) H locs ls hP hS hl)
      | gt => exact lv_icmp_gt hx hb hd (am_tg_eq e1) (fun q => kt ((am_lt h2 h1).mp q) H locs ls hP hS hl) (fun q => kf (fun z => q ((am_lt h2 h1).mpr z)) H locs ls hP hS hl)
      | le => exact lv_icmp_le hx hb hd (am_tg_eq e1) (fun q => kt ((am_le h1 h2).mp q) H locs ls hP hS hl) (fun q => kf (fun z => q ((am_le h1 h2).mpr z)) H locs ls hP hS hl)
    next => cases h
  | ifCond cnd off =>
    obtain rfl : len = 3 := hlen.resolve_left (fun q => by cases q)
    dsimp only [am_br] at h
    split at h
    next x r =>
      obtain ⟨t', e1, e2⟩ := Option.map_eq_some_iff.mp h
      cases e2
      obtain ⟨h1, -⟩ := hp
      have h2 := am_rg0
      cases cnd with
      | eq => exact lv_if_eq hx hb hd (am_tg_eq e1) (fun q => kt ((am_eq h1 h2).mp q) H locs ls hP hS hl) (fun q => kf (fun z => q ((am_eq h1 h2).mpr z)) H locs ls hP hS hl)
      | ne => exact lv_if_ne hx hb hd (am_tg_eq e1) (fun q => kt (fun z => q ((am_eq h1 h2).mpr z)) H locs ls hP hS hl) (fun q => kf (fun z => z ((am_eq h1 h2).mp q)) H locs ls hP hS hl)
      | lt => exact lv_if_lt hx hb hd (am_tg_eq e1) (fun q => kt ((am_lt h1 h2).mp q) H locs ls hP hS hl) (fun q => kf (fun z => q ((am_lt h1 h2).mpr z)) H locs ls hP hS hl)
      | ge => exact lv_if_ge hx hb hd (am_tg_eq e1) (fun q => kt ((am_le h2 h1).mp q) H locs ls hP hS hl) (fun q => kf (fun z => q ((am_le h2 h1).mpr z)) H locs ls hP hS hl)
      | gt => exact lv_if_gt hx hb hd (am_tg_eq e1) (fun q => kt ((am_lt h2 h1).mp q) H locs ls hP hS hl) (fun q => kf (fun z => q ((am_lt h2 h1).mpr z)) H locs ls hP hS hl)
      | le => exact lv_if_le hx hb hd (am_tg_eq e1) (fun q => kt ((am_le h1 h2).mp q) H locs ls hP hS hl) (fun q => kf (fun z => q ((am_le h1 h2).mpr z)) H locs ls hP hS hl)
    next => cases h
  | ifnull off =>
    obtain rfl : len = 3 := hlen.resolve_left (fun q => by cases q)
    dsimp only [am_br] at h
    split at h
    next x r =>
      obtain ⟨t', e1, e2⟩ := Option.map_eq_some_iff.mp h
      cases e2
      cases x with
      | none => exact lv_ifnullN hx hb hd (am_tg_eq e1) (kt rfl H locs ls hP hS hl)
      | some x => exact lv_ifnull hx hb hd (kf (fun q => by cases q) H locs ls hP hS hl)
    next => cases h
  | ifnonnull off =>
    obtain rfl : len = 3 := hlen.resolve_left (fun q => by cases q)
    dsimp only [am_br] at h
    split at h
    next x r =>
      obtain ⟨t', e1, e2⟩ := Option.map_eq_some_iff.mp h
      cases e2
      cases x with
      | none => exact lv_ifnonnullN hx hb hd (kf (fun q => q rfl) H locs ls hP hS hl)
      | some x => exact lv_ifnonnull hx hb hd (am_tg_eq e1) (kt (fun q => by cases q) H locs ls hP hS hl)
    next => cases h
  | _ => cases h
theorem am_blind {as : List am_V} {M : am_M} : FrameBlind (am_Pc ρ D cA base as M) := by
  intro a U g mk q
  obtain ⟨q0, q1, q2⟩ := q
  exact ⟨q0, am_env_moved q1 (State.WarmedH.refl U) (fun _ _ _ => rfl), q2⟩
/-- behind a call that returns -/
theorem am_cont {H : Heap} {locs : List Loc} {pc mc ms : Nat} {ls : Array Slot} {st0 rest : List Value} {rs : List am_V} {lv : am_L} {Q : am_Q} {a : Array Value} (hrs : rest = rs.map (am_cv ρ)) (hS : va_S (fun q : Nat => base ≤ q) s.heap H locs) (hl : lv_has ls nL (am_cl ρ lv))
    (hr : va_Run p l e R s m args below meth c H locs cells slots mc ms (F0 m pc ls st0) rest (am_Qc ρ D cA base Q a) (am_free base))
    (kk : ∀ r M', Q r M' → am_at_ p l e R s m args below meth c (cells + mc) (slots + ms) Z ρ D cA base nL (pc + 3) lv (am_push r rs) M') : W p l e R s m args below meth c H locs cells slots Z (F0 m pc ls st0) := by
  intro T hT X
  obtain ⟨v, st₀, t, T', L, h0, X', hL, e1, e2, ⟨⟨r, M', hv, hq, hP1⟩, hz, hk⟩, st⟩ := hr T hT X
  cases hv
  rw [h0] at hz hk
  have hS1 : va_S (fun q : Nat => base ≤ q) s.heap T'.heap (locs ++ L) := ⟨Nat.le_trans hS.1 (by rw [e1]; exact hz), fun q h1 h2 => by rw [e1, hk q (Nat.lt_of_lt_of_le h1 hS.1) h2]; exact hS.2.1 q h1 h2, fun q hq => (List.mem_append.mp hq).elim (hS.2.2 q) (hL q)⟩
  obtain ⟨t2, a1, b1⟩ := kk r M' hq T'.heap (locs ++ L) ls (by rw [e1]; exact hP1) hS1 hl T' rfl X'
  refine ⟨t2, st t2 ?_, b1⟩
  subst hrs
  cases r with
  | none => exact a1
  | some r => exact a1
/-- behind a call that throws -/
theorem am_contX {H : Heap} {locs : List Loc} {pc mc ms : Nat} {ls : Array Slot} {st0 rest : List Value} {QX : am_X} (hS : va_S (fun q : Nat => base ≤ q) s.heap H locs)
    (hr : vx_Run p l e R s m args below meth c H locs cells slots mc ms (F0 m pc ls st0) rest (fun _ _ _ => False) (am_XC ρ D cA base QX) (am_free base))
    (kx : ∀ (E : Nat) (M' : am_M) (H1 : Heap) (locs1 : List Loc) (ce : Cell) (q9 : Addr), E < 3 → QX E M' → va_P D tb_cl (am_ws ρ cA M') H1 → va_S (fun q : Nat => base ≤ q) s.heap H1 locs1 → H1[q9]? = some ce → ce.vm = .none → s.vm.findClass (tb_ex E) = some ce.cls → vx_W p l e R s m args below meth c H1 locs1 (cells + mc) (slots + ms) Z (F0 m pc ls rest) q9) : W p l e R s m args below meth c H locs cells slots Z (F0 m pc ls st0) := by
  intro T hT X
  rcases hr T hT X with ⟨v, st₀, t, T', L, h0, X', hL, e1, e2, hf, st⟩ | ⟨q9, st₀, t, T', L, E, ce, h0, X', hL, e1, e2, ⟨⟨E', M', hE3, rfl, hq, hP1⟩, hz, hk⟩, h5, h6, h7, st⟩
  · exact hf.elim
  · rw [h0] at hz hk
    have hS1 : va_S (fun q : Nat => base ≤ q) s.heap T'.heap (locs ++ L) := ⟨Nat.le_trans hS.1 (by rw [e1]; exact hz), fun q h1 h2 => by rw [e1, hk q (Nat.lt_of_lt_of_le h1 hS.1) h2]; exact hS.2.1 q h1 h2, fun q hq => (List.mem_append.mp hq).elim (hS.2.2 q) (hL q)⟩
    obtain ⟨t2, a1, b1⟩ := kx E' M' T'.heap (locs ++ L) ce q9 hE3 hq (by rw [e1]; exact hP1) hS1 (by rw [e1]; exact h5) h6 h7 T' rfl X'
    exact ⟨t2, st.trans a1, b1⟩
end AMC
end
section
theorem am_hh {y : Nat} {v : tb_T} (h : tb_m y = some v) (h2 : y ≠ 222) : (tb_cost y = 0 → am_al y tb_hhL = none) ∧ (tb_cost y ≠ 0 → tb_cost y = 1 ∧ ∃ hh, am_al y tb_hhL = some hh) := by
  have h1 := am_al_in h
  unfold tb_mL at h1
  rcases List.mem_append.mp h1 with h3 | h3
  · have h6 := List.all_eq_true.mp tf_mA _ h3
    dsimp only at h6
    cases hh : am_al y tb_hhL with
    | some z => rw [hh] at h6; cases h6
    | none =>
      refine ⟨fun _ => rfl, fun hc => ?_⟩
      unfold tb_cost at hc
      split at hc
      next l e =>
        have h4 := List.all_eq_true.mp tf_h _ (am_al_in e)
        dsimp only at h4
        rw [hh] at h4
        cases h4
      next => exact absurd rfl hc
  · rcases List.mem_append.mp h3 with h3 | h3
    · have h6 := List.all_eq_true.mp tf_mW _ h3
      dsimp only at h6
      cases hh : am_al y tb_hhL with
      | none => rw [hh] at h6; cases h6
      | some z =>
        rw [hh] at h6
        cases hn : am_al y tb_hnL with
        | none => rw [hn] at h6; cases h6
        | some w =>
          have hc : tb_cost y = 1 := by unfold tb_cost; rw [hn]
          exact ⟨fun q => by omega, fun _ => ⟨hc, z, rfl⟩⟩
    · rw [List.mem_singleton] at h3
      exact absurd (congrArg Prod.fst h3) h2
theorem am_callf {o k y nn : Nat} {b : Bool} (h : tb_call o k = some (y, nn, b)) : ∃ n c nL ret o' st np, tb_m y = some (n, c, nL, ret, o', st, np) ∧ (b = false → Cond.methodLink (tb_cn o) k n ∈ am_GL) ∧ (b = true → tb_nest = .methodLinkNest (tb_cn o) k n "OathDiary" ∧ st = true) ∧ nn = (match st with | true => np | false => np + 1) := by
  unfold tb_call at h
  split at h
  next y' n' b' pos e =>
    cases h
    have h1 := am_al2_all (f := tb_callok) e tf_call
    unfold tb_callok at h1
    dsimp only at h1
    split at h1
    next n c nL ret o' st np e2 =>
      simp only [Bool.and_eq_true] at h1
      obtain ⟨h3, h4⟩ := h1
      refine ⟨n, c, nL, ret, o', st, np, e2, fun q => ?_, fun q => ?_, Nat.eq_of_beq_eq_true h4⟩
      · subst q; exact tb_at_in h3
      · subst q
        simp only [Bool.and_eq_true, decide_eq_true_eq] at h3
        exact h3
    next => cases h1
  next => cases h
def tb_nestok (_ _ : Nat) (v : Nat × Nat × Bool × Nat) : Bool := !v.2.2.1 || Nat.beq v.1 40
theorem tf_nest : tb_callL.all (fun q => q.2.all (fun r => tb_nestok q.1 r.1 r.2)) = true := by decide +kernel
/-- only one call goes by a nest mate's link -/
theorem am_nest {o k y nn : Nat} (h : tb_call o k = some (y, nn, true)) : y = 40 := by
  unfold tb_call at h
  split at h
  next y' n' b' pos e =>
    cases h
    have h2 := am_al2_all (f := tb_nestok) e tf_nest
    exact Nat.eq_of_beq_eq_true (by simpa [tb_nestok] using h2)
  next => cases h
section AMD
variable {p : Program} {l : Launch} {e : Env} {R : Room} {s : State} {m : MethodId} {args : Array Value} {below : List Frame} {meth : Method} {c : Code} {cells slots : Nat} {Z : State → Prop} {cc : ByteArray} {ρ : Nat → Nat} {D : va_G} {cA : Nat → ClassId} {base o nL : Nat} {scr : Option (Int × (Int → Int))}
theorem am_stk (st : List am_V) (nn : Nat) : st.map (am_cv ρ) = (((st.take nn).reverse).map (am_cv ρ)).reverse ++ (st.drop nn).map (am_cv ρ) := by
  rw [List.map_reverse, List.reverse_reverse, ← List.map_append, List.take_append_drop]
set_option maxHeartbeats 4000000 in
theorem am_sCallN (F : am_fix p s m args c cc R cells slots ρ D cA base o nL scr) {ins : Instr} {len pc : Nat} {lv : am_L} {st : List am_V} {M : am_M} (hd : decode cc pc = .ok (ins, len)) (hlen : am_len ins = 0 ∨ len = am_len ins) {k y nn n : Nat} {b : Bool} (hiv : am_iv y k ins) (hcall : tb_call o k = some (y, nn, b)) (hst : (st.take nn).length = nn) (hrecv : am_recv y (st.take nn).reverse) (hcs : am_cs (st.drop nn) ≤ 8) (hy : y ≠ 222)
    (hrf : n + 1 ≤ R.frames) (hrl : 33 * n + 73 ≤ R.locals) (hroom : cells + tb_cost y ≤ R.cells ∧ slots + 6 * tb_cost y ≤ R.slots) {Q : am_Q} (hN : am_CN l ρ D cA base n y (st.take nn).reverse M Q)
    (kk : ∀ r M', Q r M' → am_at_ p l e R s m args below meth c (cells + tb_cost y) (slots + 6 * tb_cost y) Z ρ D cA base nL (pc + 3) lv (am_push r (st.drop nn)) M') : am_at_ p l e R s m args below meth c cells slots Z ρ D cA base nL pc lv st M := by
  obtain ⟨hx, hb, hml, hts, hown, hρ, hE, hRf, hRl, hRc, hRs, hnL, hscr⟩ := F
  intro H locs ls hP hS hl
  obtain ⟨yn, yc, yL, yr, yo, yst, ynp, hm, hlink, hnst, hnn⟩ := am_callf hcall
  have hN := hN _ hm
  obtain ⟨f1, f2, f3, f4, f5, f6, f7, f8, f9⟩ := am_mf hm hy
  have hws := am_wsg hm hy
  have hR : (am_rm n (tb_cost y)).frames + 1 ≤ R.frames ∧ 8 + (yL + 11) + (am_rm n (tb_cost y)).locals ≤ R.locals := by
    unfold am_rm
    exact ⟨by show n + 1 ≤ R.frames; omega, by show 8 + (yL + 11) + (33 * n + 40) ≤ R.locals; omega⟩
  have hPU : ∀ U : State, U.heap = H → s.WarmedH U.vm → am_env D cA base U U.heap ∧ va_P D tb_cl (am_ws ρ cA M) U.heap := fun U hU hW => ⟨am_env_moved hE hW (fun a h1 h2 => by rw [hU]; exact hS.2.1 a h1 h2), by rw [hU]; exact hP⟩
  cases yst with
  | true =>
    have ei : ins = .invokestatic k := by unfold am_iv at hiv; rw [hm] at hiv; exact hiv
    subst ei
    obtain rfl : len = 3 := hlen.resolve_left (fun q => by cases q)
    have hnn : nn = ynp := hnn
    have hp : PreS s H (am_Pc ρ D cA base (st.take nn).reverse M) (((st.take nn).reverse).map (am_cv ρ)) := ⟨am_blind, fun U hU hW => ⟨rfl, hPU U hU hW⟩⟩
    have hlA : (((st.take nn).reverse).map (am_cv ρ)).length = ynp := by rw [List.length_map, List.length_reverse, hst, hnn]
    have hW : 2 * (F0 m pc ls (st.map (am_cv ρ))).monitorRoom + (((st.drop nn).map (am_cv ρ)).map fun v => v.category).sum ≤ 8 := lv_room (by rw [am_cs_cv]; exact hcs)
    have hG : GoodIn am_GL (va_wsS (tb_cn o) k yn (tb_ws y (yn, yc, yL, yr, yo, true, ynp))) ∨ b = true := by
      cases b with
      | true => exact Or.inr rfl
      | false =>
        refine Or.inl (fun w hw => ?_)
        unfold va_wsS at hw
        rcases List.mem_append.mp hw with hw | hw
        · rcases List.mem_cons.mp hw with rfl | hw
          · exact am_good (hlink rfl)
          · rcases List.mem_cons.mp hw with rfl | hw
            · exact am_good (f1 rfl)
            · rw [List.mem_singleton] at hw; subst hw; exact am_good f3
        · exact hws w hw
    by_cases hc : tb_cost y = 0
    · have hhn := (am_hh hm hy).1 hc
      have hwe : tb_ws y (yn, yc, yL, yr, yo, true, ynp) = Cond.code yn yc yL yr :: am_GL := by unfold tb_ws; rw [hhn]
      rcases hG with hG | hG
      · exact am_cont rfl hS hl (va_runS (Ts := am_GL) ⟨hx, hb, hml, hown, hts⟩ hN (va_cwS ynp hts hG hwe rfl rfl ⟨f5.1, f5.2, f6⟩ hR) hp rfl hlA hl.1 (am_stk st nn) hW hd hroom) kk
      · subst hG
        obtain ⟨g1, -⟩ := hnst rfl
        obtain ⟨hK, hstr, hnest, hcast, hdecl, hnc, hU, hN'⟩ := hE
        rw [g1] at hnest
        exact am_cont rfl hS hl (va_runSN (Ts := am_GL) ⟨hx, hb, hml, hown, hts⟩ hN ⟨va_cnB ynp hts hws hwe rfl rfl hnest (hts _ f3) ⟨f5.1, f5.2, f6⟩ hR, hts _ (f1 rfl), trivial⟩ hp rfl hlA hl.1 (am_stk st nn) hW hd hroom) kk
    · obtain ⟨hc1, hh, hhe⟩ := (am_hh hm hy).2 hc
      have hwe : tb_ws y (yn, yc, yL, yr, yo, true, ynp) = Cond.codeWith yn yc yL yr hh :: am_GL := by unfold tb_ws; rw [hhe]
      rcases hG with hG | hG
      · exact am_cont rfl hS hl (vx_runSW (Ts := am_GL) ⟨hx, hb, hml, hown, hts⟩ hN (vx_cwSW ynp hts hG hwe rfl rfl ⟨f5.1, f5.2, f6⟩ hR) hp rfl hlA hl.1 (am_stk st nn) hW hd hroom) kk
      · subst hG
        have := am_nest hcall
        subst this
        exact absurd (by decide +kernel : tb_cost 40 = 0) hc
  | false =>
    have ei : ins = .invokevirtual k := by unfold am_iv at hiv; rw [hm] at hiv; exact hiv
    subst ei
    obtain rfl : len = 3 := hlen.resolve_left (fun q => by cases q)
    have hnn : nn = ynp + 1 := hnn
    have hbf : b = false := by cases b with | false => rfl | true => exact absurd (hnst rfl).2 (by decide)
    have hc : tb_cost y = 0 := by
      by_cases hc : tb_cost y = 0
      · exact hc
      · exact absurd (f9 hc) (by decide)
    have hhn := (am_hh hm hy).1 hc
    have hwe : tb_ws y (yn, yc, yL, yr, yo, false, ynp) = Cond.code yn yc yL yr :: am_GL := by unfold tb_ws; rw [hhn]
    obtain ⟨i1, i2, q, i3, i4⟩ := f2 rfl
    obtain ⟨a, as', hta, fk, hlay⟩ : ∃ a as', (st.take nn).reverse = .inr (.inl (some a)) :: as' ∧ ∃ fk, tb_lay[a]? = some (.inr (.inr (yo, fk))) := by
      unfold am_recv at hrecv
      rw [hm] at hrecv
      cases hz : (st.take nn).reverse with
      | nil => rw [hz] at hrecv; exact hrecv.elim
      | cons z zs =>
        rw [hz] at hrecv
        rcases z with x | (_ | a) | x
        · exact hrecv.elim
        · exact hrecv.elim
        · exact ⟨a, zs, rfl, hrecv⟩
        · exact hrecv.elim
    have hstk : st.map (am_cv ρ) = (as'.map (am_cv ρ)).reverse ++ .ref (ρ a) :: (st.drop nn).map (am_cv ρ) := by
      rw [am_stk st nn, hta, List.map_cons, List.reverse_cons, List.append_assoc]
      rfl
    have hlA : (as'.map (am_cv ρ)).length = ynp := by
      have h1 := congrArg List.length hta
      rw [List.length_reverse, hst, List.length_cons] at h1
      rw [List.length_map]
      omega
    have hW : 2 * (F0 m pc ls (st.map (am_cv ρ))).monitorRoom + (((st.drop nn).map (am_cv ρ)).map fun v => v.category).sum ≤ 8 := lv_room (by rw [am_cs_cv]; exact hcs)
    have hG : GoodIn am_GL (wsV (tb_cn o) k yn.cls yn (tb_ws y (yn, yc, yL, yr, yo, false, ynp))) := fun w hw => by
      unfold wsV at hw
      rcases List.mem_append.mp hw with hw | hw
      · rcases List.mem_cons.mp hw with rfl | hw
        · exact am_good (hlink hbf)
        · rcases List.mem_cons.mp hw with rfl | hw
          · exact am_good i1
          · rcases List.mem_cons.mp hw with rfl | hw
            · exact am_good i2
            · rw [List.mem_singleton] at hw; subst hw; exact am_good f3
      · exact hws w hw
    have hcell := va_recv hE.1 hP i3 (am_ws_at hlay)
    rw [i4] at hcell
    have hp : PreV s H yn.cls (ρ a) (am_Pc ρ D cA base (st.take nn).reverse M) (as'.map (am_cv ρ)) := ⟨am_blind, hcell, fun U hU hW => ⟨by rw [hta]; rfl, hPU U hU hW⟩⟩
    exact am_cont rfl hS hl (va_runV (Ts := am_GL) (C := yn.cls) ⟨hx, hb, hml, hown, hts⟩ hN (cwV ynp hts hG hwe rfl rfl ⟨rfl, f5.1, f5.2, f6⟩ hR) hp rfl hlA hl.1 hstk hW hd hroom) kk
set_option maxHeartbeats 4000000 in
theorem am_sCallX (F : am_fix p s m args c cc R cells slots ρ D cA base o nL scr) {ins : Instr} {len pc : Nat} {lv : am_L} {st : List am_V} {M : am_M} (hd : decode cc pc = .ok (ins, len)) (hlen : am_len ins = 0 ∨ len = am_len ins) {k y nn n : Nat} {b : Bool} (hiv : am_iv y k ins) (hcall : tb_call o k = some (y, nn, b)) (hst : (st.take nn).length = nn) (hrecv : am_recv y (st.take nn).reverse) (hcs : am_cs (st.drop nn) ≤ 8) (hy : y ≠ 222) (hyt : tb_thw y)
    (hrf : n + 1 ≤ R.frames) (hrl : 33 * n + 73 ≤ R.locals) (hroom : cells + 1 ≤ R.cells ∧ slots + 6 ≤ R.slots) {QX : am_X} (hN : am_CX l ρ D cA base n y (st.take nn).reverse M QX)
    (kx : ∀ (E : Nat) (M' : am_M) (H1 : Heap) (locs1 : List Loc) (ls : Array Slot) (ce : Cell) (q9 : Addr), E < 3 → QX E M' → va_P D tb_cl (am_ws ρ cA M') H1 → va_S (fun q : Nat => base ≤ q) s.heap H1 locs1 → lv_has ls nL (am_cl ρ lv) → H1[q9]? = some ce → ce.vm = .none → s.vm.findClass (tb_ex E) = some ce.cls → vx_W p l e R s m args below meth c H1 locs1 (cells + 1) (slots + 6) Z (F0 m pc ls ((st.drop nn).map (am_cv ρ))) q9) : am_at_ p l e R s m args below meth c cells slots Z ρ D cA base nL pc lv st M := by
  obtain ⟨hx, hb, hml, hts, hown, hρ, hE, hRf, hRl, hRc, hRs, hnL, hscr⟩ := F
  intro H locs ls hP hS hl
  have kx := fun E M' H1 locs1 ce q9 h1 h2 h3 h4 => kx E M' H1 locs1 ls ce q9 h1 h2 h3 h4 hl
  obtain ⟨yn, yc, yL, yr, yo, yst, ynp, hm, hlink, hnst, hnn⟩ := am_callf hcall
  have hN := hN _ hm
  obtain ⟨f1, f2, f3, f4, f5, f6, f7, f8, f9⟩ := am_mf hm hy
  have hws := am_wsg hm hy
  have hR : (am_rm n 1).frames + 1 ≤ R.frames ∧ 8 + (yL + 11) + (am_rm n 1).locals ≤ R.locals := by
    unfold am_rm
    exact ⟨by show n + 1 ≤ R.frames; omega, by show 8 + (yL + 11) + (33 * n + 40) ≤ R.locals; omega⟩
  have hPU : ∀ U : State, U.heap = H → s.WarmedH U.vm → am_env D cA base U U.heap ∧ va_P D tb_cl (am_ws ρ cA M) U.heap := fun U hU hW => ⟨am_env_moved hE hW (fun a h1 h2 => by rw [hU]; exact hS.2.1 a h1 h2), by rw [hU]; exact hP⟩
  have hhn := (am_hh hm hy).1 hyt.1
  have hbf : b = false := by
    cases b with
    | false => rfl
    | true => exact absurd (am_nest hcall) hyt.2
  cases yst with
  | true =>
    have hwe : tb_ws y (yn, yc, yL, yr, yo, true, ynp) = Cond.code yn yc yL yr :: am_GL := by unfold tb_ws; rw [hhn]
    have ei : ins = .invokestatic k := by unfold am_iv at hiv; rw [hm] at hiv; exact hiv
    subst ei
    obtain rfl : len = 3 := hlen.resolve_left (fun q => by cases q)
    have hnn : nn = ynp := hnn
    have hp : PreS s H (am_Pc ρ D cA base (st.take nn).reverse M) (((st.take nn).reverse).map (am_cv ρ)) := ⟨am_blind, fun U hU hW => ⟨rfl, hPU U hU hW⟩⟩
    have hlA : (((st.take nn).reverse).map (am_cv ρ)).length = ynp := by rw [List.length_map, List.length_reverse, hst, hnn]
    have hW : 2 * (F0 m pc ls (st.map (am_cv ρ))).monitorRoom + (((st.drop nn).map (am_cv ρ)).map fun v => v.category).sum ≤ 8 := lv_room (by rw [am_cs_cv]; exact hcs)
    have hG : GoodIn am_GL (va_wsS (tb_cn o) k yn (tb_ws y (yn, yc, yL, yr, yo, true, ynp))) := fun w hw => by
      unfold va_wsS at hw
      rcases List.mem_append.mp hw with hw | hw
      · rcases List.mem_cons.mp hw with rfl | hw
        · exact am_good (hlink hbf)
        · rcases List.mem_cons.mp hw with rfl | hw
          · exact am_good (f1 rfl)
          · rw [List.mem_singleton] at hw; subst hw; exact am_good f3
      · exact hws w hw
    exact am_contX hS (vx_runS (Ts := am_GL) ⟨hx, hb, hml, hown, hts⟩ hN (va_cwS ynp hts hG hwe rfl rfl ⟨f5.1, f5.2, f6⟩ hR) hp rfl hlA hl.1 (am_stk st nn) hW hd hroom) kx
  | false =>
    have hwe : tb_ws y (yn, yc, yL, yr, yo, false, ynp) = Cond.code yn yc yL yr :: am_GL := by unfold tb_ws; rw [hhn]
    have ei : ins = .invokevirtual k := by unfold am_iv at hiv; rw [hm] at hiv; exact hiv
    subst ei
    obtain rfl : len = 3 := hlen.resolve_left (fun q => by cases q)
    have hnn : nn = ynp + 1 := hnn
    obtain ⟨i1, i2, q, i3, i4⟩ := f2 rfl
    obtain ⟨a, as', hta, fk, hlay⟩ : ∃ a as', (st.take nn).reverse = .inr (.inl (some a)) :: as' ∧ ∃ fk, tb_lay[a]? = some (.inr (.inr (yo, fk))) := by
      unfold am_recv at hrecv
      rw [hm] at hrecv
      cases hz : (st.take nn).reverse with
      | nil => rw [hz] at hrecv; exact hrecv.elim
      | cons z zs =>
        rw [hz] at hrecv
        rcases z with x | (_ | a) | x
        · exact hrecv.elim
        · exact hrecv.elim
        · exact ⟨a, zs, rfl, hrecv⟩
        · exact hrecv.elim
    have hstk : st.map (am_cv ρ) = (as'.map (am_cv ρ)).reverse ++ .ref (ρ a) :: (st.drop nn).map (am_cv ρ) := by
      rw [am_stk st nn, hta, List.map_cons, List.reverse_cons, List.append_assoc]
      rfl
    have hlA : (as'.map (am_cv ρ)).length = ynp := by
      have h1 := congrArg List.length hta
      rw [List.length_reverse, hst, List.length_cons] at h1
      rw [List.length_map]
      omega
    have hW : 2 * (F0 m pc ls (st.map (am_cv ρ))).monitorRoom + (((st.drop nn).map (am_cv ρ)).map fun v => v.category).sum ≤ 8 := lv_room (by rw [am_cs_cv]; exact hcs)
    have hG : GoodIn am_GL (wsV (tb_cn o) k yn.cls yn (tb_ws y (yn, yc, yL, yr, yo, false, ynp))) := fun w hw => by
      unfold wsV at hw
      rcases List.mem_append.mp hw with hw | hw
      · rcases List.mem_cons.mp hw with rfl | hw
        · exact am_good (hlink hbf)
        · rcases List.mem_cons.mp hw with rfl | hw
          · exact am_good i1
          · rcases List.mem_cons.mp hw with rfl | hw
            · exact am_good i2
            · rw [List.mem_singleton] at hw; subst hw; exact am_good f3
      · exact hws w hw
    have hcell := va_recv hE.1 hP i3 (am_ws_at hlay)
    rw [i4] at hcell
    have hp : PreV s H yn.cls (ρ a) (am_Pc ρ D cA base (st.take nn).reverse M) (as'.map (am_cv ρ)) := ⟨am_blind, hcell, fun U hU hW => ⟨by rw [hta]; rfl, hPU U hU hW⟩⟩
    exact am_contX hS (vx_runV (Ts := am_GL) (C := yn.cls) ⟨hx, hb, hml, hown, hts⟩ hN (cwV ynp hts hG hwe rfl rfl ⟨rfl, f5.1, f5.2, f6⟩ hR) hp rfl hlA hl.1 hstk hW hd hroom) kx
end AMD
end
section
def am_rk (ins : Instr) (ret : Option FieldType) (r : Option am_V) : Prop :=
  (ins = .ireturn ∧ ∃ x, r = some (.inl x) ∧ (ret = some .int ∨ (ret = some .boolean ∧ (x = 0 ∨ x = 1)))) ∨ (ins = .lreturn ∧ ∃ x, r = some (.inr (.inr (.inl x))) ∧ ret = some .long) ∨ (ins = .dreturn ∧ ∃ x, r = some (.inr (.inr (.inr x))) ∧ ret = some .double) ∨
  (ins = .areturn ∧ ∃ x, r = some (.inr (.inl x)) ∧ ∃ C, ret = some (.object C)) ∨ (ins = .return_ ∧ r = none ∧ ret = none)
def tb_n222 (_ _ : Nat) (v : Nat × Nat × Bool × Nat) : Bool := Nat.blt v.1 222
theorem tf_n222 : tb_callL.all (fun q => q.2.all (fun r => tb_n222 q.1 r.1 r.2)) = true := by decide +kernel
theorem am_n222 {o k y nn : Nat} {b : Bool} (h : tb_call o k = some (y, nn, b)) : y ≠ 222 := by
  unfold tb_call at h
  split at h
  next y' n' b' pos e =>
    cases h
    have h2 := am_al2_all (f := tb_n222) e tf_n222
    exact Nat.ne_of_lt (Nat.ble_eq.mp h2)
  next => cases h
section AME
variable {p : Program} {l : Launch} {e : Env} {R : Room} {s : State} {m : MethodId} {args : Array Value} {below : List Frame} {meth : Method} {c : Code} {Z : State → Prop} {cc : ByteArray} {ρ : Nat → Nat} {D : va_G} {cA : Nat → ClassId} {base nL : Nat} {scr : Option (Int × (Int → Int))}
set_option maxHeartbeats 4000000 in
theorem am_simW {d : am_D} {n dep cap c0 s0 : Nat} {Q : am_Q} {QX : am_X} (F : ∀ b, b ≤ cap → am_fix p s m args c cc R (c0 + b) (s0 + 6 * b) ρ D cA base d.2.1 d.2.2.1 scr)
    (hcode : ∀ pc ins len, d.1 pc = some (ins, len) → decode cc pc = .ok (ins, len) ∧ (am_len ins = 0 ∨ len = am_len ins))
    (hN : ∀ y as M Q, y ≠ 222 → am_CC n y as M Q (fun _ _ => False) → am_CN l ρ D cA base n y as M Q)
    (hX : ∀ y as M QX, y ≠ 222 → tb_thw y → am_CC n y as M (fun _ _ => False) QX → am_CX l ρ D cA base n y as M QX)
    (hrf : n + 1 ≤ R.frames) (hrl : 33 * n + 73 ≤ R.locals)
    (hQXr : ∀ b E M, b ≤ cap → QX E M → c0 + b + 1 ≤ R.cells ∧ s0 + 6 * b + 6 ≤ R.slots)
    (hret : ∀ b pc ins len M r H locs ls, b ≤ cap → d.1 pc = some (ins, len) → am_rk ins d.2.2.2.1 r → Q r M → va_P D tb_cl (am_ws ρ cA M) H → va_S (fun q : Nat => base ≤ q) s.heap H locs → ls.size = d.2.2.1 → W p l e R s m args below meth c H locs (c0 + b) (s0 + 6 * b) Z (F0 m pc ls ((am_push r []).map (am_cv ρ))))
    (hthr : ∀ b pc len M ik is ic E H locs ls, b ≤ cap → d.1 pc = some (.new ik, len) → 5 ≤ dep → tb_thr d.2.1 ik = some E → d.1 (pc + 3) = some (.dup, 1) → (tb_str d.2.1 is).isSome = true → tb_thc d.2.1 ic = some E →
      ((d.1 (pc + 4) = some (.ldc is, 2) ∧ d.1 (pc + 6) = some (.invokespecial ic, 3) ∧ d.1 (pc + 9) = some (.athrow, 1)) ∨ (d.1 (pc + 4) = some (.ldc_w is, 3) ∧ d.1 (pc + 7) = some (.invokespecial ic, 3) ∧ d.1 (pc + 10) = some (.athrow, 1))) → QX E M →
      va_P D tb_cl (am_ws ρ cA M) H → va_S (fun q : Nat => base ≤ q) s.heap H locs → ls.size = d.2.2.1 → W p l e R s m args below meth c H locs (c0 + b) (s0 + 6 * b) Z (F0 m pc ls []))
    (hprop : ∀ b pc ls rest E M' H locs ce q9, b ≤ cap → E < 3 → d.2.2.2.2 pc E = none → QX E M' → va_P D tb_cl (am_ws ρ cA M') H → va_S (fun q : Nat => base ≤ q) s.heap H locs → H[q9]? = some ce → ce.vm = .none → s.vm.findClass (tb_ex E) = some ce.cls → vx_W p l e R s m args below meth c H locs (c0 + b + 1) (s0 + 6 * b + 6) Z (F0 m pc ls rest) q9)
    (hcat : ∀ b pc lv rest E i np M', d.2.2.2.2 pc E = some (i, np) → E < 3 → b + 1 ≤ cap → am_at_ p l e R s m args below meth c (c0 + (b + 1)) (s0 + 6 * (b + 1)) Z ρ D cA base d.2.2.1 np (am_kl i lv) [] M' → ∀ H locs ls ce q9, va_P D tb_cl (am_ws ρ cA M') H → va_S (fun q : Nat => base ≤ q) s.heap H locs → lv_has ls d.2.2.1 (am_cl ρ lv) → H[q9]? = some ce → ce.vm = .none → s.vm.findClass (tb_ex E) = some ce.cls → vx_W p l e R s m args below meth c H locs (c0 + b + 1) (s0 + 6 * b + 6) Z (F0 m pc ls rest) q9)
    {x : am_C} (h : am_W (am_CC n) d dep cap scr Q QX x) (hb0 : x.1 ≤ cap) : am_at_ p l e R s m args below meth c (c0 + x.1) (s0 + 6 * x.1) Z ρ D cA base d.2.2.1 x.2.1 x.2.2.1 x.2.2.2.1 x.2.2.2.2 := by
  refine h (fun x => x.1 ≤ cap → am_at_ p l e R s m args below meth c (c0 + x.1) (s0 + 6 * x.1) Z ρ D cA base d.2.2.1 x.2.1 x.2.2.1 x.2.2.2.1 x.2.2.2.2) ?_ hb0
  clear h hb0 x
  intro x hx hbx
  obtain ⟨b, pc, lv0, st, M⟩ := x
  dsimp only at hbx ⊢
  obtain ⟨lv, ins, len, hsub, hcd, hx⟩ := hx
  dsimp only at hsub hcd hx
  obtain ⟨hd, hlen⟩ := hcode _ _ _ hcd
  have Fb := F b hbx
  suffices hh : am_at_ p l e R s m args below meth c (c0 + b) (s0 + 6 * b) Z ρ D cA base d.2.2.1 pc lv st M from fun H locs ls hP hS hl => hh H locs ls hP hS (am_sub hl hsub)
  obtain ⟨hex, hb, hml, hts, hown, hρ, hE, hRf, hRl, hRc, hRs, hnL, hscr⟩ := id Fb
  rcases hx with h | h | h | h | h | h | h | h | h | h | h | h
  · obtain ⟨P, pc', lv', st', M', h1, h2, h3⟩ := h
    exact am_sim1 Fb hd hlen h1 h2 (h3 hbx)
  · obtain ⟨P, bb, t, st', h1, h2, h3, h4⟩ := h
    exact am_sBr hex hb hd hlen h1 h2 (fun q => h3 q hbx) (fun q => h4 q hbx)
  · obtain ⟨dflt, lo, hi, offs, x, st', t, rfl, rfl, h3, h4, h5, h6⟩ := h
    intro H locs ls hP hS hl
    have hi' := am_toInt h3
    by_cases hq : x < lo ∨ hi < x
    · exact lv_tableOut hex hb hd (by rw [hi']; exact hq) (am_tg_eq h4) (h5 hq hbx H locs ls hP hS hl)
    · obtain ⟨off, t', g1, g2, g3⟩ := h6 (x - lo).toNat (by omega) (by omega)
      exact lv_tableIn hex hb hd (by rw [hi']; omega) (by rw [hi']; omega) (by rw [hi']; exact g1) (am_tg_eq g2) (g3 hbx H locs ls hP hS hl)
  · obtain ⟨dflt, ps, x, st', rfl, h2, rfl, h3, t, h5, h6⟩ := h
    intro H locs ls hP hS hl
    exact lv_lookup hex hb hd h2 (by rw [am_toInt h3]) (am_tg_eq h5) (h6 hbx H locs ls hP hS hl)
  · obtain ⟨i, a, rs, st', rfl, rfl, h3, h4, h5⟩ := h
    intro H locs ls hP hS hl
    obtain rfl : len = 1 := hlen.resolve_left (fun q => by cases q)
    obtain ⟨v1, v2⟩ := am_vpin (am_lay_r h3) h4
    have hl2 : i.toNat < rs.length := by omega
    have e0 : rs[i.toNat]? = some rs[i.toNat] := List.getElem?_eq_getElem hl2
    have k1 := h5 i.toNat _ e0 (by omega) hbx H locs ls hP hS hl
    refine va_aldq hex hb hE.1 hP a 2 (am_ws_at h3) rfl v1 hd ?_
    rw [v2, e0]
    exact k1
  · obtain ⟨k, y, nn, bb, Qc, QXc, h1, h2, h3, h4, h5, h6, h7, h8, h9⟩ := h
    have hy := am_n222 h2
    have goN : am_CC n y (st.take nn).reverse M Qc (fun _ _ => False) → am_at_ p l e R s m args below meth c (c0 + b) (s0 + 6 * b) Z ρ D cA base d.2.2.1 pc lv st M := fun g => by
      have hroom := F (b + tb_cost y) h6
      obtain ⟨-, -, -, -, -, -, -, -, -, r1, r2, -, -⟩ := hroom
      refine am_sCallN Fb hd hlen h1 h2 h3 h4 h5 hy hrf hrl ⟨by omega, by omega⟩ (hN _ _ _ _ hy g) (fun r M' q => ?_)
      have g2 := h8 r M' q h6
      rw [show c0 + b + tb_cost y = c0 + (b + tb_cost y) by omega, show s0 + 6 * b + 6 * tb_cost y = s0 + 6 * (b + tb_cost y) by omega]
      exact g2
    by_cases hyt : tb_thw y
    · rcases am_CC_split h7 with g | g
      · exact goN g
      · by_cases hq : ∃ E M', QXc E M'
        · obtain ⟨E0, M0, hq0⟩ := hq
          have hroom : c0 + b + 1 ≤ R.cells ∧ s0 + 6 * b + 6 ≤ R.slots := by
            have g3 := h9 E0 M0 hq0
            cases hh : d.2.2.2.2 pc E0 with
            | none => rw [hh] at g3; exact hQXr b E0 M0 hbx g3
            | some z =>
              rw [hh] at g3
              obtain ⟨-, -, -, -, -, -, -, -, -, r1, r2, -, -⟩ := F (b + 1) g3.1
              exact ⟨by omega, by omega⟩
          refine am_sCallX Fb hd hlen h1 h2 h3 h4 h5 hy hyt hrf hrl hroom (hX _ _ _ _ hy hyt g) (fun E M' H1 locs1 ls ce q9 hE3 hqx hP1 hS1 hl1 g5 g6 g7 => ?_)
          have g3 := h9 E M' hqx
          cases hh : d.2.2.2.2 pc E with
          | none => rw [hh] at g3; exact hprop b pc ls _ E M' H1 locs1 ce q9 hbx hE3 hh g3 hP1 hS1 g5 g6 g7
          | some z =>
            rw [hh] at g3
            exact hcat b pc lv _ E z.1 z.2 M' hh hE3 g3.1 (g3.2 g3.1) H1 locs1 ls ce q9 hP1 hS1 hl1 g5 g6 g7
        · exact goN (am_CC_mono n (fun _ _ q => q.elim) (fun E M' q => hq ⟨E, M', q⟩) g)
    · exact goN (am_CC_w n hyt h7)
  · obtain ⟨x, rfl, rfl, h3, h4⟩ := h
    intro H locs ls hP hS hl
    exact hret b pc _ len M _ H locs ls hbx hcd (Or.inl ⟨rfl, x, rfl, h3⟩) h4 hP hS hl.1
  · obtain ⟨x, rfl, rfl, h3, h4⟩ := h
    intro H locs ls hP hS hl
    exact hret b pc _ len M _ H locs ls hbx hcd (Or.inr (Or.inl ⟨rfl, x, rfl, h3⟩)) h4 hP hS hl.1
  · obtain ⟨x, rfl, rfl, h3, h4⟩ := h
    intro H locs ls hP hS hl
    exact hret b pc _ len M _ H locs ls hbx hcd (Or.inr (Or.inr (Or.inl ⟨rfl, x, rfl, h3⟩))) h4 hP hS hl.1
  · obtain ⟨x, rfl, rfl, h3, h4⟩ := h
    intro H locs ls hP hS hl
    exact hret b pc _ len M _ H locs ls hbx hcd (Or.inr (Or.inr (Or.inr (Or.inl ⟨rfl, x, rfl, h3⟩)))) h4 hP hS hl.1
  · obtain ⟨rfl, rfl, h3, h4⟩ := h
    intro H locs ls hP hS hl
    exact hret b pc _ len M none H locs ls hbx hcd (Or.inr (Or.inr (Or.inr (Or.inr ⟨rfl, rfl, h3⟩)))) h4 hP hS hl.1
  · obtain ⟨ik, is, ic, E, rfl, h0, h2, rfl, h4, h5, h6, h7, h8⟩ := h
    intro H locs ls hP hS hl
    exact hthr b pc len M ik is ic E H locs ls hbx hcd h0 h2 h4 h5 h6 h7 h8 hP hS hl.1
end AME
end
section
theorem tf_h2 : (tb_hnL.all fun q => match tb_m q.1 with
  | some v => q.2.all (fun r => Nat.blt r.2.2.2.2.1 v.2.2.1)
  | none => false) = true := by decide +kernel
theorem am_sl_len (ρ : Nat → Nat) : ∀ as : List am_V, (lg_sl (as.map (am_cv ρ))).length = am_cs as
  | [] => rfl
  | v :: r => by
    have ih := am_sl_len ρ r
    unfold lg_sl at ih ⊢
    rw [List.map_cons, List.flatMap_cons, List.length_append, ih]
    show (if (am_cv ρ v).category = 2 then [Slot.val (am_cv ρ v), Slot.second] else [Slot.val (am_cv ρ v)]).length + am_cs r = am_cat v + am_cs r
    rw [am_cat_cv]
    rcases v with x | x | x <;> rfl
theorem am_hfind_in {pc E i np : Nat} : ∀ (l : List (Nat × Nat × Nat × Nat × Nat × Nat)), am_hfind pc E l = some (i, np) → ∃ s e h, (s, e, E, h, i, np) ∈ l
  | [], h => by cases h
  | (s, e, E', h', i', np') :: r, h => by
    unfold am_hfind at h
    split at h
    next e1 e2 e3 =>
      cases h
      have e4 : E = E' := Nat.eq_of_beq_eq_true e3
      subst e4
      exact ⟨s, e, h', List.mem_cons_self⟩
    next =>
      obtain ⟨s', e', h'', hm⟩ := am_hfind_in r h
      exact ⟨s', e', h'', List.mem_cons_of_mem _ hm⟩
section AMG
variable {p : Program} {l : Launch} {e : Env} {R : Room} {s : State} {m : MethodId} {args : Array Value} {below : List Frame} {meth : Method} {c : Code} {cells slots : Nat} {Z : State → Prop} {cc : ByteArray} {ρ : Nat → Nat} {D : va_G} {cA : Nat → ClassId} {base o nL : Nat} {scr : Option (Int × (Int → Int))}
theorem am_hsplit {y : Nat} {pc E i np : Nat} (hE3 : E < 3) (hts : ∀ w ∈ am_GL, w.before args s = true) (hnc : ∀ a b, a < 3 → b < 3 → a ≠ b → va_Nc (tb_ex a) (tb_ex b) s) :
    ∀ (hh : List (Nat × Nat × Nat × Nat)) (hl : List (Nat × Nat × Nat × Nat × Nat × Nat)), tb_hz y o hh hl = true → am_hfind pc E hl = some (i, np) →
      ∃ pre x suf, tableOf hh = pre ++ x :: suf ∧ (∀ z ∈ pre, covers z pc = false ∨ (z.catchType ≠ 0 ∧ ∃ nm : String, (Cond.classLink (tb_cn o) z.catchType nm).before args s = true ∧ va_Nc (tb_ex E) nm s)) ∧ covers x pc = true ∧ x.catchType ≠ 0 ∧ (Cond.classLink (tb_cn o) x.catchType (tb_ex E)).before args s = true ∧
        ∃ ins len, tb_code y x.handlerPc = some (ins, len) ∧ (ins = .astore i ∨ ∃ k : Fin 4, ins = .astore_n k ∧ k.val = i) ∧ np = x.handlerPc + len
  | [], [], _, h => by cases h
  | [], _ :: _, h, _ => by cases h
  | _ :: _, [], h, _ => by cases h
  | (s1, e1, h1, ct) :: r, (s2, e2, E2, h2, i2, np2) :: r2, hz, hf => by
    unfold tb_hz at hz
    simp only [Bool.and_eq_true, decide_eq_true_eq, Bool.not_eq_true'] at hz
    obtain ⟨⟨⟨⟨⟨⟨⟨z1, z2⟩, z3⟩, z4⟩, z5⟩, z6⟩, z7⟩, z8⟩ := hz
    have q1 : s1 = s2 := Nat.eq_of_beq_eq_true z1
    have q2 : e1 = e2 := Nat.eq_of_beq_eq_true z2
    have q3 : h1 = h2 := Nat.eq_of_beq_eq_true z3
    subst q1; subst q2; subst q3
    have hct : ct ≠ 0 := fun q => by subst q; cases z6
    have hE2 : E2 < 3 := Nat.ble_eq.mp z5
    unfold am_hfind at hf
    split at hf
    next g1 g2 g3 =>
      cases hf
      have g4 : E = E2 := Nat.eq_of_beq_eq_true g3
      subst g4
      refine ⟨[], ⟨s1, e1, h1, ct⟩, tableOf r, rfl, fun z hz => (List.not_mem_nil hz).elim, ?_, hct, hts _ z4, ?_⟩
      · show (decide (s1 ≤ pc) && decide (pc < e1)) = true
        rw [Bool.and_eq_true, decide_eq_true_eq, decide_eq_true_eq]
        exact ⟨Nat.ble_eq.mp g1, Nat.ble_eq.mp g2⟩
      · show ∃ ins len, tb_code y h1 = some (ins, len) ∧ _ ∧ np = h1 + len
        split at z7
        next k len e3 =>
          rw [Bool.and_eq_true] at z7
          have e4 : k = i := Nat.eq_of_beq_eq_true z7.1
          subst e4
          exact ⟨_, len, e3, Or.inl rfl, Nat.eq_of_beq_eq_true z7.2⟩
        next k len e3 =>
          rw [Bool.and_eq_true] at z7
          exact ⟨_, len, e3, Or.inr ⟨k, rfl, Nat.eq_of_beq_eq_true z7.1⟩, Nat.eq_of_beq_eq_true z7.2⟩
        next => cases z7
    next hno =>
      obtain ⟨pre, x, suf, k1, k2, k3, k4, k5, k6⟩ := am_hsplit hE3 hts hnc r r2 z8 hf
      refine ⟨⟨s1, e1, h1, ct⟩ :: pre, x, suf, by unfold tableOf at k1 ⊢; rw [List.map_cons, k1]; rfl, fun z hz => ?_, k3, k4, k5, k6⟩
      rcases List.mem_cons.mp hz with rfl | hz
      · by_cases hcv : covers ⟨s1, e1, h1, ct⟩ pc = true
        · refine Or.inr ⟨hct, tb_ex E2, hts _ z4, hnc E E2 hE3 hE2 (fun q => ?_)⟩
          subst q
          change (decide (s1 ≤ pc) && decide (pc < e1)) = true at hcv
          rw [Bool.and_eq_true, decide_eq_true_eq, decide_eq_true_eq] at hcv
          exact hno (Nat.ble_eq.mpr hcv.1) (Nat.ble_eq.mpr hcv.2) (Nat.beq_refl E)
        · exact Or.inl (by simpa using hcv)
      · exact k2 z hz
theorem am_ret {d : am_D} {Q : am_Q} {r : Option am_V} {M : am_M} {H : Heap} {locs : List Loc} {ls : Array Slot} {pc len : Nat} {ins : Instr} {mc ms : Nat} (hx : p.tables.exec = Jvm.exec) (hb : c.code = cc) (hr : meth.sig.returnType = d.2.2.2.1) (hlocks : meth.locks = false) (hd : decode cc pc = .ok (ins, len)) (hlen : am_len ins = 0 ∨ len = am_len ins)
    (hrk : am_rk ins d.2.2.2.1 r) (hq : Q r M) (hP : va_P D tb_cl (am_ws ρ cA M) H) (hS : va_S (fun q : Nat => base ≤ q) s.heap H locs) (hc : cells ≤ mc) (hs : slots ≤ ms) :
    W p l e R s m args below meth c H locs cells slots (MQ below (am_Qc ρ D cA base Q) args s mc ms (am_free base)) (F0 m pc ls ((am_push r []).map (am_cv ρ))) := by
  refine W.widen hc hs ?_
  have fin : ∀ (t : State), t.heap = H → s.WarmedH t.vm → am_Qc ρ D cA base Q args s (.returned (r.map (am_cv ρ))) t := fun t ht _ => ⟨⟨r, M, rfl, hq, by rw [ht]; exact hP⟩, hS.F ht⟩
  rcases hrk with ⟨rfl, x, rfl, h1⟩ | ⟨rfl, x, rfl, h1⟩ | ⟨rfl, x, rfl, h1⟩ | ⟨rfl, x, rfl, C, h1⟩ | ⟨rfl, rfl, h1⟩
  · obtain rfl : len = 1 := hlen.resolve_left (fun q => by cases q)
    rcases h1 with h1 | ⟨h1, h2⟩
    · exact W.zret hx hb (hr.trans h1) rfl fin hS.2.2 hd hlocks
    · exact W.zret hx hb (hr.trans h1) (by rcases h2 with rfl | rfl <;> rfl) fin hS.2.2 hd hlocks
  · obtain rfl : len = 1 := hlen.resolve_left (fun q => by cases q)
    exact W.lret hx hb (hr.trans h1) fin hS.2.2 hd hlocks
  · obtain rfl : len = 1 := hlen.resolve_left (fun q => by cases q)
    exact W.dret hx hb (hr.trans h1) fin hS.2.2 hd hlocks
  · obtain rfl : len = 1 := hlen.resolve_left (fun q => by cases q)
    refine W.aret hx hb (hr.trans h1) (Or.inl ⟨C, rfl⟩) ?_ fin hS.2.2 hd hlocks
    cases x with
    | none => exact Or.inl rfl
    | some x => exact Or.inr ⟨_, rfl⟩
  · obtain rfl : len = 1 := hlen.resolve_left (fun q => by cases q)
    exact W.vret hx hb (hr.trans h1) fin hS.2.2 hd hlocks
end AMG
section AMH
variable {l : Launch} {ρ : Nat → Nat} {D : va_G} {cA : Nat → ClassId} {base : Nat}
theorem am_thf {o ik ic E : Nat} (h1 : tb_thr o ik = some E) (h2 : tb_thc o ic = some E) {args : Array Value} {s : State} (hts : ∀ w ∈ am_GL, w.before args s = true) (hcast : ∀ q ∈ tb_cast, va_Nw (.castable q.1 q.2) s) (hdecl : ∀ x ∈ tb_decl, va_Nw (.declares x) s) :
    E < 3 ∧ (Cond.classLink (tb_cn o) ik (tb_ex E)).before args s = true ∧ (Cond.initialized (tb_ex E)).before args s = true ∧ Bundle.fit (tb_ex E) = true ∧ (∀ w ∈ vx_atS (tb_cn o) ic (tb_ex E) tb_exn, w.before args s = true) ∧ ∀ w ∈ Cond.classLink (tb_cn o) ik (tb_ex E) :: Cond.initialized (tb_ex E) :: vx_atS (tb_cn o) ic (tb_ex E) tb_exn, vx_ot w = true := by
  unfold tb_thr at h1
  split at h1
  next v pos e =>
    cases h1
    have h3 := am_al2_all (f := tb_throk) e tf_thr
    unfold tb_throk at h3
    simp only [Bool.and_eq_true] at h3
    have h4 := tb_at_in h3.1
    have hE : E < 3 := Nat.ble_eq.mp h3.2
    unfold tb_thc at h2
    have h5 := am_al2_all (f := tb_thok) h2 tf_thc
    unfold tb_thok at h5
    rw [Bool.and_eq_true] at h5
    have h6 := List.all_eq_true.mp h5.2
    have h7 := List.all_eq_true.mp tf_exi E (by
      rcases (show E = 0 ∨ E = 1 ∨ E = 2 by omega) with rfl | rfl | rfl <;> simp)
    rw [Bool.and_eq_true, decide_eq_true_eq] at h7
    have good : ∀ {w : Cond}, w ∈ am_GL → vx_ot w = true := fun hw => by
      unfold vx_ot
      rw [(List.mem_filter.mp hw).2, Bool.or_true]
    refine ⟨hE, hts _ h4, hts _ h7.1, h7.2, fun w hw => ?_, fun w hw => ?_⟩
    · have h8 := h6 w hw
      rw [Bool.and_eq_true] at h8
      obtain ⟨-, h8⟩ := h8
      split at h8
      next => exact hts _ (of_decide_eq_true h8)
      next a b _ => exact va_Nw.use rfl (hcast _ (of_decide_eq_true h8))
      next x _ => exact va_Nw.use rfl (hdecl _ (of_decide_eq_true h8))
      next => cases h8
    · rcases List.mem_cons.mp hw with rfl | hw
      · exact good h4
      · rcases List.mem_cons.mp hw with rfl | hw
        · exact good h7.1
        · have h8 := h6 w hw
          rw [Bool.and_eq_true] at h8
          exact h8.1
  next => cases h1
set_option maxHeartbeats 4000000 in
/-- what the small machine's calls say holds of the machine -/
theorem am_sound (hρ : am_ρ ρ base) (htr : l.stackTraces = false) : ∀ n : Nat,
    (∀ y as M Q, y ≠ 222 → am_CC n y as M Q (fun _ _ => False) → am_CN l ρ D cA base n y as M Q) ∧
    (∀ y as M QX, y ≠ 222 → tb_thw y → am_CC n y as M (fun _ _ => False) QX → am_CX l ρ D cA base n y as M QX) := by
  intro n
  induction n with
  | zero => exact ⟨fun _ _ _ _ _ h => h.elim, fun _ _ _ _ _ _ h => h.elim⟩
  | succ n ih =>
    obtain ⟨ihN, ihX⟩ := ih
    refine ⟨fun y as M Q hy h v hv => ?_, fun y as M QX hy hyt h v hv => ?_⟩
    · obtain ⟨yn, yc, yL, yr, yo, yst, ynp⟩ := v
      obtain ⟨hcs, hw⟩ := h
      have hdat : am_dat y = (tb_code y, yo, yL, yr, tb_hn y) := by unfold am_dat; rw [hv]
      rw [hdat] at hcs hw
      obtain ⟨f1, f2, f3, f4, f5, f6, f7, f8, f9⟩ := am_mf hv hy
      obtain ⟨hh0, hh1⟩ := am_hh hv hy
      refine MetFree.of_bodySF (code := yc) (maxLocals := yL) (ret := yr) f7 ?_ ?_
      · intro args s m h hn
        have hw0 := atoms_spec (ws := tb_ws y (yn, yc, yL, yr, yo, yst, ynp)) h _ (by unfold tb_ws; exact List.mem_cons_self)
        cases hhy : am_al y tb_hhL with
        | none =>
          rw [hhy] at hw0
          obtain ⟨meth, c, h1, h2, h3, h4, h5, h6, -, -⟩ := Cond.code_spec hn hw0
          exact ⟨meth, c, h1, h2, h3, h4, h5, h6⟩
        | some hh =>
          rw [hhy] at hw0
          obtain ⟨m9, meth, c, hn9, h1, h2, h3, h4, -, h5, h6, -⟩ := Cond.codeWith_spec hw0
          cases hn.symm.trans hn9
          exact ⟨meth, c, h1, h2, h3, h4, h5, h6⟩
      · intro p e s m args below meth c s₁ B hml hP _
        obtain ⟨rfl, hE, hP0⟩ := hP
        have hh00 : s₁.heap = s.heap := by rw [B.state]; rfl
        have hts0 := atoms_spec (ws := tb_ws y (yn, yc, yL, yr, yo, yst, ynp)) B.pre
        have hts : ∀ w ∈ am_GL, w.before ((as.map (am_cv ρ)).toArray) s = true := fun w hw => hts0 w (by unfold tb_ws; exact List.mem_cons_of_mem _ hw)
        have hown : s.vm.findClass (tb_cn yo) = some m.cls := by rw [← f4]; exact findClass_of_methodNamed B.named
        have hcode : ∀ pc ins len, tb_code y pc = some (ins, len) → decode yc pc = .ok (ins, len) ∧ (am_len ins = 0 ∨ len = am_len ins) := fun pc ins len q => tl_dec hv q
        have hnL : yL ≤ 14 := f8
        have F : ∀ b, b ≤ tb_cost y → am_fix p s m ((as.map (am_cv ρ)).toArray) c yc (am_rm (n + 1) (tb_cost y)) (0 + b) (0 + 6 * b) ρ D cA base yo yL none := fun b hb => by
          unfold am_rm
          exact ⟨B.exec, B.bytes, hml, hts, hown, hρ, hE, by show 1 ≤ n + 1; omega, by show 40 ≤ 33 * (n + 1) + 40; omega, by show 0 + b ≤ tb_cost y; omega, by show 0 + 6 * b ≤ 6 * tb_cost y; omega, hnL, trivial⟩
        have hcatch : ∀ b pc lv rest E i np M', tb_hn y pc E = some (i, np) → E < 3 → b + 1 ≤ tb_cost y → am_at_ p l e (am_rm (n + 1) (tb_cost y)) s m ((as.map (am_cv ρ)).toArray) below meth c (0 + (b + 1)) (0 + 6 * (b + 1)) (MQ below (am_Qc ρ D cA base Q) ((as.map (am_cv ρ)).toArray) s (tb_cost y) (6 * tb_cost y) (am_free base)) ρ D cA base yL np (am_kl i lv) [] M' → ∀ H locs ls ce q9, va_P D tb_cl (am_ws ρ cA M') H → va_S (fun q : Nat => base ≤ q) s.heap H locs → lv_has ls yL (am_cl ρ lv) → H[q9]? = some ce → ce.vm = .none → s.vm.findClass (tb_ex E) = some ce.cls → vx_W p l e (am_rm (n + 1) (tb_cost y)) s m ((as.map (am_cv ρ)).toArray) below meth c H locs (0 + b + 1) (0 + 6 * b + 6) (MQ below (am_Qc ρ D cA base Q) ((as.map (am_cv ρ)).toArray) s (tb_cost y) (6 * tb_cost y) (am_free base)) (F0 m pc ls rest) q9 := by
          intro b pc lv rest E i np M' hhn hE3 hb1 hk H locs ls ce q9 hP hS hl g5 g6 g7
          have hc0 : tb_cost y ≠ 0 := by omega
          obtain ⟨hc1, hh, hhe⟩ := hh1 hc0
          obtain ⟨hK, hstr, hnest, hcast, hdecl, hnc, hU, hN⟩ := hE
          have hn1 : tb_hn y pc E = some (i, np) := hhn
          unfold tb_hn at hn1
          split at hn1
          next hl0 e1 =>
            have h4 := List.all_eq_true.mp tf_h _ (am_al_in e1)
            dsimp only at h4
            rw [hhe, hv] at h4
            obtain ⟨pre, x, suf, k1, k2, k3, k4, k5, ins, len, k6, k7, k8⟩ := am_hsplit (o := yo) (args := (as.map (am_cv ρ)).toArray) (s := s) hE3 hts hnc hh hl0 h4 hn1
            have hw0 := hts0 _ (by unfold tb_ws; exact List.mem_cons_self)
            rw [hhe] at hw0
            have htab := vx_table (x := yn) B hw0
            have hi : i < yL := by
              have h5 := List.all_eq_true.mp tf_h2 _ (am_al_in e1)
              dsimp only at h5
              rw [hv] at h5
              obtain ⟨a1, a2, a3, a4⟩ := am_hfind_in _ hn1
              exact Nat.ble_eq.mp (List.all_eq_true.mp h5 _ a4)
            have hcs2 : (Cond.castable (tb_ex E) (tb_ex E)).before ((as.map (am_cv ρ)).toArray) s = true := va_Nw.use rfl (hcast (tb_ex E, tb_ex E) (by
              rcases (show E = 0 ∨ E = 1 ∨ E = 2 by omega) with rfl | rfl | rfl <;> simp [tb_cast, tb_ex]))
            refine vx_catch hown pre x suf (htab.trans k1) k2 k3 k4 k5 hcs2 g5 g6 g7 ?_
            obtain ⟨d1, d2⟩ := hcode _ _ _ k6
            have fin : ∀ ls' : Array Slot, lv_has ls' yL ((i, Value.ref q9) :: am_cl ρ (am_kl i lv)) → W p l e (am_rm (n + 1) (tb_cost y)) s m ((as.map (am_cv ρ)).toArray) below meth c H locs (0 + b + 1) (0 + 6 * b + 6) (MQ below (am_Qc ρ D cA base Q) ((as.map (am_cv ρ)).toArray) s (tb_cost y) (6 * tb_cost y) (am_free base)) (F0 m np ls' []) := fun ls' hl' => hk H locs ls' hP hS ⟨hl'.1, hl'.2.1, fun q hq => hl'.2.2 q (List.mem_cons_of_mem _ hq)⟩
            rcases k7 with rfl | ⟨k, rfl, hki⟩
            · obtain rfl : len = 2 := d2.resolve_left (fun q => by cases q)
              subst k8
              exact lv_astore B.exec B.bytes d1 hl hi (by rw [am_kl_cv]) fin
            · obtain rfl : len = 1 := d2.resolve_left (fun q => by cases q)
              subst k8
              exact lv_astore_n B.exec B.bytes d1 hki hl hi (by rw [am_kl_cv]) fin
          next => cases hn1
        have hWW := am_simW (p := p) (l := l) (e := e) (R := am_rm (n + 1) (tb_cost y)) (s := s) (m := m) (args := (as.map (am_cv ρ)).toArray) (below := below) (meth := meth) (c := c) (Z := MQ below (am_Qc ρ D cA base Q) ((as.map (am_cv ρ)).toArray) s (tb_cost y) (6 * tb_cost y) (am_free base)) (cc := yc) (d := (tb_code y, yo, yL, yr, tb_hn y)) (c0 := 0) (s0 := 0) F hcode ihN ihX
          (by show n + 1 ≤ n + 1; omega) (by show 33 * n + 73 ≤ 33 * (n + 1) + 40; omega)
          (fun b E M _ q => q.2.elim)
          (fun b pc ins len M r H locs ls hb hpc hrk hq hP hS _ => by
            obtain ⟨g1, g2⟩ := hcode _ _ _ hpc
            exact am_ret B.exec B.bytes B.returns B.notSynchronized g1 g2 hrk hq hP hS (by omega) (by omega))
          (fun _ _ _ _ _ _ _ _ _ _ _ _ _ _ _ _ _ _ _ q => q.2.elim)
          (fun _ _ _ _ _ _ _ _ _ _ _ _ _ q => q.2.elim)
          hcatch
          hw (Nat.zero_le _)
        have hent : W p l e (am_rm (n + 1) (tb_cost y)) s m ((as.map (am_cv ρ)).toArray) below meth c s.heap [] 0 0 (MQ below (am_Qc ρ D cA base Q) ((as.map (am_cv ρ)).toArray) s (tb_cost y) (6 * tb_cost y) (am_free base)) (entryFrame m ((as.map (am_cv ρ)).toArray) yL) := by
          have hlen : (lg_sl (as.map (am_cv ρ))).length ≤ yL := by rw [am_sl_len]; exact hcs
          have hl := lv_entry (as.map (am_cv ρ)) hlen
          rw [← am_args_cv] at hl
          rw [lg_entry_eq]
          exact hWW s.heap [] _ hP0 va_S.rf hl
        obtain ⟨t, a1, o, b1, b2, b3⟩ := hent s₁ hh00 (Stand.of_body B)
        exact ⟨t, o, a1, b1, b2, ⟨b3.1, b3.2⟩⟩
    · obtain ⟨yn, yc, yL, yr, yo, yst, ynp⟩ := v
      obtain ⟨hcs, hw⟩ := h
      have hdat : am_dat y = (tb_code y, yo, yL, yr, tb_hn y) := by unfold am_dat; rw [hv]
      rw [hdat] at hcs hw
      obtain ⟨f1, f2, f3, f4, f5, f6, f7, f8, f9⟩ := am_mf hv hy
      obtain ⟨hh0, hh1⟩ := am_hh hv hy
      have hhy := hh0 hyt.1
      have hc0 := hyt.1
      rw [hc0] at hw
      refine MetFree.of_bodySF (code := yc) (maxLocals := yL) (ret := yr) f7 ?_ ?_
      · intro args s m h hn
        have hw0 := atoms_spec (ws := tb_ws y (yn, yc, yL, yr, yo, yst, ynp)) h _ (by unfold tb_ws; exact List.mem_cons_self)
        rw [hhy] at hw0
        obtain ⟨meth, c, h1, h2, h3, h4, h5, h6, -, -⟩ := Cond.code_spec hn hw0
        exact ⟨meth, c, h1, h2, h3, h4, h5, h6⟩
      · intro p e s m args below meth c s₁ B hml hP _
        obtain ⟨rfl, hE, hP0⟩ := hP
        have hh00 : s₁.heap = s.heap := by rw [B.state]; rfl
        have hts0 := atoms_spec (ws := tb_ws y (yn, yc, yL, yr, yo, yst, ynp)) B.pre
        have hts : ∀ w ∈ am_GL, w.before ((as.map (am_cv ρ)).toArray) s = true := fun w hw => hts0 w (by unfold tb_ws; exact List.mem_cons_of_mem _ hw)
        have hown : s.vm.findClass (tb_cn yo) = some m.cls := by rw [← f4]; exact findClass_of_methodNamed B.named
        have hcode : ∀ pc ins len, tb_code y pc = some (ins, len) → decode yc pc = .ok (ins, len) ∧ (am_len ins = 0 ∨ len = am_len ins) := fun pc ins len q => tl_dec hv q
        have hnL : yL ≤ 14 := f8
        have htb : ∀ x ∈ c.exceptionTable.toList, False := by
          have hw0 := hts0 _ (by unfold tb_ws; exact List.mem_cons_self)
          rw [hhy] at hw0
          obtain ⟨meth9, c9, h1, h2, -, -, -, -, h7, -⟩ := Cond.code_spec B.named hw0
          cases Option.some.inj (h1.symm.trans B.method)
          cases Option.some.inj (h2.symm.trans (Stand.of_body B).code)
          intro x hx
          rw [Array.isEmpty_iff.mp h7] at hx
          cases hx
        have F : ∀ b, b ≤ 0 → am_fix p s m ((as.map (am_cv ρ)).toArray) c yc (am_rm (n + 1) 1) (0 + b) (0 + 6 * b) ρ D cA base yo yL none := fun b hb => by
          unfold am_rm
          exact ⟨B.exec, B.bytes, hml, hts, hown, hρ, hE, by show 1 ≤ n + 1; omega, by show 40 ≤ 33 * (n + 1) + 40; omega, by show 0 + b ≤ 1; omega, by show 0 + 6 * b ≤ 6 * 1; omega, hnL, trivial⟩
        have hWW := am_simW (p := p) (l := l) (e := e) (R := am_rm (n + 1) 1) (s := s) (m := m) (args := (as.map (am_cv ρ)).toArray) (below := below) (meth := meth) (c := c) (Z := vx_MQ below (fun _ _ _ _ => False) (am_XC ρ D cA base QX) ((as.map (am_cv ρ)).toArray) s 1 6 (am_free base)) (cc := yc) (d := (tb_code y, yo, yL, yr, tb_hn y)) (c0 := 0) (s0 := 0) F hcode ihN ihX
          (by show n + 1 ≤ n + 1; omega) (by show 33 * n + 73 ≤ 33 * (n + 1) + 40; omega)
          (fun b E M hb q => by
            unfold am_rm
            exact ⟨by show 0 + b + 1 ≤ 1; omega, by show 0 + 6 * b + 6 ≤ 6 * 1; omega⟩)
          (fun _ _ _ _ _ _ _ _ _ _ _ _ q => q.elim)
          (fun b pc len M ik is ic E H locs ls hb hpc hdep h1 h2 h3 h4 h5 hq hP hS hsz => by
            obtain ⟨hK, hstr, hnest, hcast, hdecl, hnc, hU, hN⟩ := hE
            obtain ⟨t1, t2, t3, t4, t5, t6⟩ := am_thf h1 h4 hts hcast hdecl
            obtain ⟨tx, htx⟩ := Option.isSome_iff_exists.mp h3
            obtain ⟨sa, hsa⟩ := hstr _ _ _ htx
            obtain ⟨g1, g2⟩ := hcode _ _ _ hpc
            obtain rfl : len = 3 := g2.resolve_left (fun q => by cases q)
            have hfin : ∀ t : State, s.vm.Alike t.vm → H.size ≤ t.heap.size → (∀ q : Nat, q < H.size → t.heap[q]? = H[q]?) → am_XC ρ D cA base QX (tb_ex E) s t := fun t _ hz hk => by
              refine ⟨⟨E, M, t1, rfl, hq.2, hP.kept (fun k q hkq => hk q.1 (va_at.lt (hP k q hkq)))⟩, Nat.le_trans hS.1 hz, fun q h1 h2 => ?_⟩
              rw [hk q (Nat.lt_of_lt_of_le h1 hS.1)]
              exact hS.2.1 q h1 h2
            rcases h5 with ⟨d4, d6, d9⟩ | ⟨d4, d6, d9⟩
            · exact vx_throwS (own := tb_cn yo) (cls := tb_ex E) (text := tx) (names := tb_exn) (ik := ik) (is := is) (ic := ic) (A := fun q : Nat => base ≤ q) B.exec B.bytes htr hown t4 (fun n hn => List.all_eq_true.mp tf_exf n hn) t2 t3 hsa t5 t6 hU hN hS (hsz.trans hml.symm) g1 (hcode _ _ _ h2).1 (hcode _ _ _ d4).1 (hcode _ _ _ d6).1 (hcode _ _ _ d9).1 (fun x hx => (htb x hx).elim) (by show 2 + 3 < n + 1; omega) (by show 0 + (13 * (2 + 1) + 43) ≤ 33 * (n + 1) + 40; omega) (by show 0 + b + 1 ≤ 1; omega) (by show 0 + 6 * b + 6 ≤ 6 * 1; omega) B.notSynchronized hfin hS.2.2 (by omega) (by omega)
            · exact vx_throwSW (own := tb_cn yo) (cls := tb_ex E) (text := tx) (names := tb_exn) (ik := ik) (is := is) (ic := ic) (A := fun q : Nat => base ≤ q) B.exec B.bytes htr hown t4 (fun n hn => List.all_eq_true.mp tf_exf n hn) t2 t3 hsa t5 t6 hU hN hS (hsz.trans hml.symm) g1 (hcode _ _ _ h2).1 (hcode _ _ _ d4).1 (hcode _ _ _ d6).1 (hcode _ _ _ d9).1 (fun x hx => (htb x hx).elim) (by show 2 + 3 < n + 1; omega) (by show 0 + (13 * (2 + 1) + 43) ≤ 33 * (n + 1) + 40; omega) (by show 0 + b + 1 ≤ 1; omega) (by show 0 + 6 * b + 6 ≤ 6 * 1; omega) B.notSynchronized hfin hS.2.2 (by omega) (by omega))
          (fun b pc ls rest E M' H locs ce q9 hb hE3 _ hq hP hS g5 g6 g7 => vx_out (fun x hx => (htb x hx).elim) B.notSynchronized g5 g6 g7 (fun t ht _ => ⟨⟨E, M', hE3, rfl, hq.2, by rw [ht]; exact hP⟩, hS.F ht⟩) hS.2.2 (by omega) (by omega))
          (fun b pc lv rest E i np M' hhn hE3 hb1 _ _ _ _ _ _ _ _ _ _ _ _ => absurd hb1 (by omega))
          hw (Nat.zero_le _)
        have hent : W p l e (am_rm (n + 1) 1) s m ((as.map (am_cv ρ)).toArray) below meth c s.heap [] 0 0 (vx_MQ below (fun _ _ _ _ => False) (am_XC ρ D cA base QX) ((as.map (am_cv ρ)).toArray) s 1 6 (am_free base)) (entryFrame m ((as.map (am_cv ρ)).toArray) yL) := by
          have hlen : (lg_sl (as.map (am_cv ρ))).length ≤ yL := by rw [am_sl_len]; exact hcs
          have hl := lv_entry (as.map (am_cv ρ)) hlen
          rw [← am_args_cv] at hl
          rw [lg_entry_eq]
          exact hWW s.heap [] _ hP0 va_S.rf hl
        obtain ⟨t, a1, o, b1, b2, b3⟩ := hent s₁ hh00 (Stand.of_body B)
        exact ⟨t, o, a1, b1, b2, b3⟩
end AMH
end
section
/-! The rules by which a printed condition gives a walk of the small machine. -/
def am_run (o nL : Nat) (scr : Option (Int × (Int → Int))) (code : Nat → Option (Instr × Nat)) : Nat → Nat → am_L → List am_V → am_M → am_R
  | 0, pc, lv, st, M => some ([], pc, lv, st, M)
  | n + 1, pc, lv, st, M => match code pc with
    | none => none
    | some (ins, _) => match am_s1 o nL scr ins pc lv st M with
      | none => none
      | some (ps, pc', lv', st', M') => match am_run o nL scr code n pc' lv' st' M' with
        | none => none
        | some (qs, r) => some (ps ++ qs, r)
theorem am_all_app : ∀ {ps qs : List Prop}, am_all (ps ++ qs) → am_all ps ∧ am_all qs
  | [], _, h => ⟨trivial, h⟩
  | _ :: r, _, h => ⟨⟨h.1, (am_all_app (ps := r) h.2).1⟩, (am_all_app (ps := r) h.2).2⟩
section AMW
variable {CC : am_CCt} {d : am_D} {dep cap : Nat} {scr : Option (Int × (Int → Int))} {Q : am_Q} {QX : am_X} {b : Nat}
theorem am_Wrun : ∀ (k : Nat) {pc : Nat} {lv : am_L} {st : List am_V} {M : am_M} {ps : List Prop} {pc' : Nat} {lv' : am_L} {st' : List am_V} {M' : am_M}, am_run d.2.1 d.2.2.1 scr d.1 k pc lv st M = some (ps, pc', lv', st', M') → am_all ps → am_W CC d dep cap scr Q QX (b, pc', lv', st', M') → am_W CC d dep cap scr Q QX (b, pc, lv, st, M)
  | 0, _, _, _, _, _, _, _, _, _, h, _, hn => by cases h; exact hn
  | k + 1, pc, lv, st, M, _, _, _, _, _, h, hp, hn => by
    unfold am_run at h
    split at h
    next => cases h
    next ins len e1 =>
      split at h
      next => cases h
      next ps' pc1 lv1 st1 M1 e2 =>
        split at h
        next => cases h
        next qs r e3 =>
          cases h
          obtain ⟨h1, h2⟩ := am_all_app hp
          exact am_W_in ⟨lv, ins, len, fun _ q => q, e1, Or.inl ⟨_, _, _, _, _, e2, h1, am_Wrun k e3 h2 hn⟩⟩
theorem am_Wbr {pc len t f : Nat} {ins : Instr} {lv : am_L} {st st' : List am_V} {M : am_M} {P : List Prop} {c : Prop} (hc : d.1 pc = some (ins, len)) (hb : am_br ins pc st = some (P, c, t, st')) (hp : am_all P) (hf : pc + 3 = f) (kt : c → am_W CC d dep cap scr Q QX (b, t, lv, st', M)) (kf : ¬ c → am_W CC d dep cap scr Q QX (b, f, lv, st', M)) : am_W CC d dep cap scr Q QX (b, pc, lv, st, M) := by
  subst hf
  exact am_W_in ⟨lv, ins, len, fun _ q => q, hc, Or.inr (Or.inl ⟨P, c, t, st', hb, hp, kt, kf⟩)⟩
theorem am_Wsw {pc len t n : Nat} {lv : am_L} {st' : List am_V} {M : am_M} {dflt lo hi : Int} {offs : Array Int} {x : Int} (hc : d.1 pc = some (.tableswitch dflt lo hi offs, len)) (hx : am_rg x) (ht : am_tg pc dflt = some t) (hn : hi + 1 = lo + (n : Nat)) (kd : (x < lo ∨ hi < x) → am_W CC d dep cap scr Q QX (b, t, lv, st', M))
    (kj : ∀ j : Nat, j < n → x = lo + (j : Nat) → ∃ off t', offs[j]? = some off ∧ am_tg pc off = some t' ∧ am_W CC d dep cap scr Q QX (b, t', lv, st', M)) : am_W CC d dep cap scr Q QX (b, pc, lv, .inl x :: st', M) :=
  am_W_in ⟨lv, _, len, fun _ q => q, hc, Or.inr (Or.inr (Or.inl ⟨dflt, lo, hi, offs, x, st', t, rfl, rfl, hx, ht, kd, fun j e1 e2 => kj j (by omega) e1⟩))⟩
theorem am_Wlsw {pc len t : Nat} {lv : am_L} {st' : List am_V} {M : am_M} {dflt : Int} {ps : Array (Int × Int)} {x : Int} (hc : d.1 pc = some (.lookupswitch dflt ps, len)) (hs : (ps.toList.zip (ps.toList.drop 1)).all (fun (a, next) => a.1 < next.1) = true) (hx : am_rg x) (ht : am_tg pc (Op.lookupswitch.offset ps.toList dflt x) = some t) (k : am_W CC d dep cap scr Q QX (b, t, lv, st', M)) : am_W CC d dep cap scr Q QX (b, pc, lv, .inl x :: st', M) :=
  am_W_in ⟨lv, _, len, fun _ q => q, hc, Or.inr (Or.inr (Or.inr (Or.inl ⟨dflt, ps, x, st', rfl, hs, rfl, hx, t, ht, k⟩)))⟩
theorem am_Waald {pc len a f : Nat} {lv : am_L} {st' : List am_V} {M : am_M} {i : Int} {rs : List Nat} (hc : d.1 pc = some (.aaload, len)) (hl : tb_lay[a]? = some (.inr (.inl rs))) (hi : 0 ≤ i ∧ i < (rs.length : Nat)) (hf : pc + 1 = f) (k : ∀ (j r : Nat), rs[j]? = some r → i = (j : Int) → am_W CC d dep cap scr Q QX (b, f, lv, .inr (.inl (some r)) :: st', M)) : am_W CC d dep cap scr Q QX (b, pc, lv, .inl i :: .inr (.inl (some a)) :: st', M) := by
  subst hf
  exact am_W_in ⟨lv, _, len, fun _ q => q, hc, Or.inr (Or.inr (Or.inr (Or.inr (Or.inl ⟨i, a, rs, st', rfl, rfl, hl, hi, k⟩))))⟩
theorem am_recv_of {y a : Nat} {as : List am_V} {v : tb_T} {fk : List (Option Nat)} (hm : tb_m y = some v) (hs : v.2.2.2.2.2.1 = false) (hl : tb_lay[a]? = some (.inr (.inr (v.2.2.2.2.1, fk)))) : am_recv y (.inr (.inl (some a)) :: as) := by
  obtain ⟨n, c, nL, ret, o, st, np⟩ := v
  dsimp only at hs hl
  subst hs
  unfold am_recv
  rw [hm]
  exact ⟨fk, hl⟩
theorem am_recv_st {y : Nat} {as : List am_V} {v : tb_T} (hm : tb_m y = some v) (hs : v.2.2.2.2.2.1 = true) : am_recv y as := by
  obtain ⟨n, c, nL, ret, o, st, np⟩ := v
  dsimp only at hs
  subst hs
  unfold am_recv
  rw [hm]
  trivial
theorem am_iv_v {y k : Nat} {v : tb_T} (hm : tb_m y = some v) (hs : v.2.2.2.2.2.1 = false) : am_iv y k (.invokevirtual k) := by
  obtain ⟨n, c, nL, ret, o, st, np⟩ := v
  dsimp only at hs
  subst hs
  unfold am_iv
  rw [hm]
theorem am_iv_s {y k : Nat} {v : tb_T} (hm : tb_m y = some v) (hs : v.2.2.2.2.2.1 = true) : am_iv y k (.invokestatic k) := by
  obtain ⟨n, c, nL, ret, o, st, np⟩ := v
  dsimp only at hs
  subst hs
  unfold am_iv
  rw [hm]
/-- a virtual call of the object a, of n values and it -/
theorem am_WcallV {pc k y n a f : Nat} {bb : Bool} {lv : am_L} {st st' : List am_V} {M : am_M} {as : List am_V} {v : tb_T} {fk : List (Option Nat)} {Qc : am_Q} {QXc : am_X} (hc : d.1 pc = some (.invokevirtual k, 3)) (hcall : tb_call d.2.1 k = some (y, n, bb)) (hm : tb_m y = some v) (hs : v.2.2.2.2.2.1 = false) (hl : tb_lay[a]? = some (.inr (.inr (v.2.2.2.2.1, fk))))
    (has : (st.take n).reverse = .inr (.inl (some a)) :: as) (hlen : (st.take n).length = n) (hst : st.drop n = st') (hcs : Nat.ble (am_cs st') 8 = true) (hcost : tb_cost y = 0) (hb : b ≤ cap) (hf : pc + 3 = f) (hC : CC y (.inr (.inl (some a)) :: as) M Qc QXc)
    (kr : ∀ r M', Qc r M' → am_W CC d dep cap scr Q QX (b, f, lv, am_push r st', M')) (kx : ∀ E M', QXc E M' → match d.2.2.2.2 pc E with
        | none => QX E M'
        | some (i, np) => b + 1 ≤ cap ∧ am_W CC d dep cap scr Q QX (b + 1, np, am_kl i lv, [], M')) : am_W CC d dep cap scr Q QX (b, pc, lv, st, M) := by
  subst hf; subst hst
  refine am_W_in ⟨lv, _, 3, fun _ q => q, hc, Or.inr (Or.inr (Or.inr (Or.inr (Or.inr (Or.inl ⟨k, y, n, bb, Qc, QXc, am_iv_v hm hs, hcall, hlen, ?_, Nat.ble_eq.mp hcs, ?_, ?_, fun r M' q => ?_, kx⟩)))))⟩
  · show am_recv y (st.take n).reverse
    rw [has]; exact am_recv_of hm hs hl
  · show b + tb_cost y ≤ cap
    rw [hcost]; exact hb
  · show CC y (st.take n).reverse M Qc QXc
    rw [has]; exact hC
  · show am_W CC d dep cap scr Q QX (b + tb_cost y, pc + 3, lv, am_push r (st.drop n), M')
    rw [hcost]; exact kr r M' q
theorem am_WcallS {pc k y n f co : Nat} {bb : Bool} {lv : am_L} {st st' : List am_V} {M : am_M} {as : List am_V} {v : tb_T} {Qc : am_Q} {QXc : am_X} (hc : d.1 pc = some (.invokestatic k, 3)) (hcall : tb_call d.2.1 k = some (y, n, bb)) (hm : tb_m y = some v) (hs : v.2.2.2.2.2.1 = true)
    (has : (st.take n).reverse = as) (hlen : (st.take n).length = n) (hst : st.drop n = st') (hcs : Nat.ble (am_cs st') 8 = true) (hcost : tb_cost y = co) (hb : b + co ≤ cap) (hf : pc + 3 = f) (hC : CC y as M Qc QXc)
    (kr : ∀ r M', Qc r M' → am_W CC d dep cap scr Q QX (b + co, f, lv, am_push r st', M')) (kx : ∀ E M', QXc E M' → match d.2.2.2.2 pc E with
        | none => QX E M'
        | some (i, np) => b + 1 ≤ cap ∧ am_W CC d dep cap scr Q QX (b + 1, np, am_kl i lv, [], M')) : am_W CC d dep cap scr Q QX (b, pc, lv, st, M) := by
  subst hf; subst hst; subst has; subst hcost
  exact am_W_in ⟨lv, _, 3, fun _ q => q, hc, Or.inr (Or.inr (Or.inr (Or.inr (Or.inr (Or.inl ⟨k, y, n, bb, Qc, QXc, am_iv_s hm hs, hcall, hlen, am_recv_st hm hs, Nat.ble_eq.mp hcs, hb, hC, kr, kx⟩)))))⟩
def am_QI (Q : Int → am_M → Prop) : am_Q := fun r M => ∃ x, r = some (.inl x) ∧ Q x M
def am_QL (Q : Int → am_M → Prop) : am_Q := fun r M => ∃ x, r = some (.inr (.inr (.inl x))) ∧ Q x M
def am_QD (Q : UInt64 → am_M → Prop) : am_Q := fun r M => ∃ x, r = some (.inr (.inr (.inr x))) ∧ Q x M
def am_QR (Q : Option Nat → am_M → Prop) : am_Q := fun r M => ∃ x, r = some (.inr (.inl x)) ∧ Q x M
def am_QV (Q : am_M → Prop) : am_Q := fun r M => r = none ∧ Q M
theorem am_Wreti {pc len : Nat} {lv : am_L} {M : am_M} {x : Int} {q : Int → am_M → Prop} (hc : d.1 pc = some (.ireturn, len)) (hr : d.2.2.2.1 = some .int) (h : q x M) : am_W CC d dep cap scr (am_QI q) QX (b, pc, lv, [.inl x], M) :=
  am_W_in ⟨lv, _, len, fun _ q => q, hc, Or.inr (Or.inr (Or.inr (Or.inr (Or.inr (Or.inr (Or.inl ⟨x, rfl, rfl, Or.inl hr, x, rfl, h⟩))))))⟩
theorem am_Wretz {pc len : Nat} {lv : am_L} {M : am_M} {x : Int} {q : Int → am_M → Prop} (hc : d.1 pc = some (.ireturn, len)) (hr : d.2.2.2.1 = some .boolean) (hx : x = 0 ∨ x = 1) (h : q x M) : am_W CC d dep cap scr (am_QI q) QX (b, pc, lv, [.inl x], M) :=
  am_W_in ⟨lv, _, len, fun _ q => q, hc, Or.inr (Or.inr (Or.inr (Or.inr (Or.inr (Or.inr (Or.inl ⟨x, rfl, rfl, Or.inr ⟨hr, hx⟩, x, rfl, h⟩))))))⟩
theorem am_Wretl {pc len : Nat} {lv : am_L} {M : am_M} {x : Int} {q : Int → am_M → Prop} (hc : d.1 pc = some (.lreturn, len)) (hr : d.2.2.2.1 = some .long) (h : q x M) : am_W CC d dep cap scr (am_QL q) QX (b, pc, lv, [.inr (.inr (.inl x))], M) :=
  am_W_in ⟨lv, _, len, fun _ q => q, hc, Or.inr (Or.inr (Or.inr (Or.inr (Or.inr (Or.inr (Or.inr (Or.inl ⟨x, rfl, rfl, hr, x, rfl, h⟩)))))))⟩
theorem am_Wretd {pc len : Nat} {lv : am_L} {M : am_M} {x : UInt64} {q : UInt64 → am_M → Prop} (hc : d.1 pc = some (.dreturn, len)) (hr : d.2.2.2.1 = some .double) (h : q x M) : am_W CC d dep cap scr (am_QD q) QX (b, pc, lv, [.inr (.inr (.inr x))], M) :=
  am_W_in ⟨lv, _, len, fun _ q => q, hc, Or.inr (Or.inr (Or.inr (Or.inr (Or.inr (Or.inr (Or.inr (Or.inr (Or.inl ⟨x, rfl, rfl, hr, x, rfl, h⟩))))))))⟩
theorem am_Wreta {pc len : Nat} {lv : am_L} {M : am_M} {x : Option Nat} {C : String} {q : Option Nat → am_M → Prop} (hc : d.1 pc = some (.areturn, len)) (hr : d.2.2.2.1 = some (.object C)) (h : q x M) : am_W CC d dep cap scr (am_QR q) QX (b, pc, lv, [.inr (.inl x)], M) :=
  am_W_in ⟨lv, _, len, fun _ q => q, hc, Or.inr (Or.inr (Or.inr (Or.inr (Or.inr (Or.inr (Or.inr (Or.inr (Or.inr (Or.inl ⟨x, rfl, rfl, ⟨C, hr⟩, x, rfl, h⟩)))))))))⟩
theorem am_Wretv {pc len : Nat} {lv : am_L} {M : am_M} {q : am_M → Prop} (hc : d.1 pc = some (.return_, len)) (hr : d.2.2.2.1 = none) (h : q M) : am_W CC d dep cap scr (am_QV q) QX (b, pc, lv, [], M) :=
  am_W_in ⟨lv, _, len, fun _ q => q, hc, Or.inr (Or.inr (Or.inr (Or.inr (Or.inr (Or.inr (Or.inr (Or.inr (Or.inr (Or.inr (Or.inl ⟨rfl, rfl, hr, rfl, h⟩))))))))))⟩
theorem am_Wthr {pc len ik is ic E : Nat} {lv : am_L} {M : am_M} (hc : d.1 pc = some (.new ik, len)) (hd : 5 ≤ dep) (h1 : tb_thr d.2.1 ik = some E) (h2 : d.1 (pc + 3) = some (.dup, 1)) (h3 : (tb_str d.2.1 is).isSome = true) (h4 : tb_thc d.2.1 ic = some E)
    (h5 : (d.1 (pc + 4) = some (.ldc is, 2) ∧ d.1 (pc + 6) = some (.invokespecial ic, 3) ∧ d.1 (pc + 9) = some (.athrow, 1)) ∨ (d.1 (pc + 4) = some (.ldc_w is, 3) ∧ d.1 (pc + 7) = some (.invokespecial ic, 3) ∧ d.1 (pc + 10) = some (.athrow, 1))) (h : QX E M) : am_W CC d dep cap scr Q QX (b, pc, lv, [], M) :=
  am_W_in ⟨lv, _, len, fun _ q => q, hc, Or.inr (Or.inr (Or.inr (Or.inr (Or.inr (Or.inr (Or.inr (Or.inr (Or.inr (Or.inr (Or.inr ⟨ik, is, ic, E, rfl, hd, h1, rfl, h2, h3, h4, h5, h⟩))))))))))⟩
end AMW
theorem am_rgd {x : Int} (h : (decide (-2147483648 ≤ x) && decide (x ≤ 2147483647)) = true) : am_rg x := by
  simpa [am_rg] using h
theorem am_rld {x : Int} (h : (decide (-9223372036854775808 ≤ x) && decide (x ≤ 9223372036854775807)) = true) : am_rl x := by
  simpa [am_rl] using h
end
