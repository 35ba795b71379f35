-- ===== PART A: goes FIRST, ahead of the names: the tables' words, and 'selects' of the private methods out of them =====
/-- a private method of a class that the tables say can be made, by its rows of tables_1 -/
def lw_okq (q : MethodName × Nat) : Prop := (q.1.cls ≠ "java/lang/invoke/MethodHandle" ∧ q.1.cls ≠ "java/lang/invoke/VarHandle") ∧ Cond.instantiable q.1.cls q.2 ∈ tables_1 ∧ Cond.privateMethod q.1 ∈ tables_1 ∧ Cond.instanceMethod q.1 ∈ tables_1
theorem lw_p0 : lw_okq (⟨"FigureKnee", "putBytes", "(I)V"⟩, 19) := ⟨⟨by decide +kernel, by decide +kernel⟩, List.mem_of_getElem? (i := 25) (by decide +kernel), List.mem_of_getElem? (i := 431) (by decide +kernel), List.mem_of_getElem? (i := 432) (by decide +kernel)⟩
theorem lw_p1 : lw_okq (⟨"FigureKnee", "refuse", "(I)I"⟩, 19) := ⟨⟨by decide +kernel, by decide +kernel⟩, List.mem_of_getElem? (i := 25) (by decide +kernel), List.mem_of_getElem? (i := 442) (by decide +kernel), List.mem_of_getElem? (i := 443) (by decide +kernel)⟩
theorem lw_p2 : lw_okq (⟨"FigureKnee$Reade\x72", "next", "()V"⟩, 11) := ⟨⟨by decide +kernel, by decide +kernel⟩, List.mem_of_getElem? (i := 137) (by decide +kernel), List.mem_of_getElem? (i := 460) (by decide +kernel), List.mem_of_getElem? (i := 461) (by decide +kernel)⟩
theorem lw_p3 : lw_okq (⟨"FigureKnee$Reade\x72", "takeLetters", "()V"⟩, 11) := ⟨⟨by decide +kernel, by decide +kernel⟩, List.mem_of_getElem? (i := 137) (by decide +kernel), List.mem_of_getElem? (i := 467) (by decide +kernel), List.mem_of_getElem? (i := 468) (by decide +kernel)⟩
theorem lw_p4 : lw_okq (⟨"FigureKnee$Reade\x72", "takeDigits", "()V"⟩, 11) := ⟨⟨by decide +kernel, by decide +kernel⟩, List.mem_of_getElem? (i := 137) (by decide +kernel), List.mem_of_getElem? (i := 474) (by decide +kernel), List.mem_of_getElem? (i := 475) (by decide +kernel)⟩
theorem lw_p5 : lw_okq (⟨"FigureKnee$Reade\x72", "readHead", "()Z"⟩, 11) := ⟨⟨by decide +kernel, by decide +kernel⟩, List.mem_of_getElem? (i := 137) (by decide +kernel), List.mem_of_getElem? (i := 478) (by decide +kernel), List.mem_of_getElem? (i := 479) (by decide +kernel)⟩
theorem lw_p6 : lw_okq (⟨"FigureKnee$Reade\x72", "isWord", "(Ljava/lang/String;)Z"⟩, 11) := ⟨⟨by decide +kernel, by decide +kernel⟩, List.mem_of_getElem? (i := 137) (by decide +kernel), List.mem_of_getElem? (i := 483) (by decide +kernel), List.mem_of_getElem? (i := 484) (by decide +kernel)⟩
theorem lw_p7 : lw_okq (⟨"FigureKnee$Reade\x72", "isHeadOfLine", "()Z"⟩, 11) := ⟨⟨by decide +kernel, by decide +kernel⟩, List.mem_of_getElem? (i := 137) (by decide +kernel), List.mem_of_getElem? (i := 535) (by decide +kernel), List.mem_of_getElem? (i := 536) (by decide +kernel)⟩
theorem lw_p8 : lw_okq (⟨"FigureKnee$Reade\x72", "found", "(I)Z"⟩, 11) := ⟨⟨by decide +kernel, by decide +kernel⟩, List.mem_of_getElem? (i := 137) (by decide +kernel), List.mem_of_getElem? (i := 544) (by decide +kernel), List.mem_of_getElem? (i := 545) (by decide +kernel)⟩
theorem lw_p9 : lw_okq (⟨"FigureKnee$Reade\x72", "takeWord", "(Ljava/lang/String;)Z"⟩, 11) := ⟨⟨by decide +kernel, by decide +kernel⟩, List.mem_of_getElem? (i := 137) (by decide +kernel), List.mem_of_getElem? (i := 549) (by decide +kernel), List.mem_of_getElem? (i := 550) (by decide +kernel)⟩
theorem lw_p10 : lw_okq (⟨"FigureKnee$Reade\x72", "seesWhole", "(II)Z"⟩, 11) := ⟨⟨by decide +kernel, by decide +kernel⟩, List.mem_of_getElem? (i := 137) (by decide +kernel), List.mem_of_getElem? (i := 553) (by decide +kernel), List.mem_of_getElem? (i := 554) (by decide +kernel)⟩
theorem lw_p11 : lw_okq (⟨"FigureKnee$Reade\x72", "readLine", "()Z"⟩, 11) := ⟨⟨by decide +kernel, by decide +kernel⟩, List.mem_of_getElem? (i := 137) (by decide +kernel), List.mem_of_getElem? (i := 558) (by decide +kernel), List.mem_of_getElem? (i := 559) (by decide +kernel)⟩
theorem lw_p12 : lw_okq (⟨"FigureKnee$Reade\x72", "readPai\x72", "()Z"⟩, 11) := ⟨⟨by decide +kernel, by decide +kernel⟩, List.mem_of_getElem? (i := 137) (by decide +kernel), List.mem_of_getElem? (i := 562) (by decide +kernel), List.mem_of_getElem? (i := 563) (by decide +kernel)⟩
theorem lw_p13 : lw_okq (⟨"FigureKnee$Reade\x72", "pairOfName", "()I"⟩, 11) := ⟨⟨by decide +kernel, by decide +kernel⟩, List.mem_of_getElem? (i := 137) (by decide +kernel), List.mem_of_getElem? (i := 566) (by decide +kernel), List.mem_of_getElem? (i := 567) (by decide +kernel)⟩
theorem lw_p14 : lw_okq (⟨"FigureKnee$Reade\x72", "isSame", "(II)Z"⟩, 11) := ⟨⟨by decide +kernel, by decide +kernel⟩, List.mem_of_getElem? (i := 137) (by decide +kernel), List.mem_of_getElem? (i := 570) (by decide +kernel), List.mem_of_getElem? (i := 571) (by decide +kernel)⟩
theorem lw_p15 : lw_okq (⟨"FigureKnee$Reade\x72", "lawOfWord", "()I"⟩, 11) := ⟨⟨by decide +kernel, by decide +kernel⟩, List.mem_of_getElem? (i := 137) (by decide +kernel), List.mem_of_getElem? (i := 574) (by decide +kernel), List.mem_of_getElem? (i := 575) (by decide +kernel)⟩
def lw_privs_1 : List (MethodName × Nat) := [(⟨"FigureKnee", "putBytes", "(I)V"⟩, 19), (⟨"FigureKnee", "refuse", "(I)I"⟩, 19), (⟨"FigureKnee$Reade\x72", "next", "()V"⟩, 11), (⟨"FigureKnee$Reade\x72", "takeLetters", "()V"⟩, 11), (⟨"FigureKnee$Reade\x72", "takeDigits", "()V"⟩, 11), (⟨"FigureKnee$Reade\x72", "readHead", "()Z"⟩, 11), (⟨"FigureKnee$Reade\x72", "isWord", "(Ljava/lang/String;)Z"⟩, 11), (⟨"FigureKnee$Reade\x72", "isHeadOfLine", "()Z"⟩, 11), (⟨"FigureKnee$Reade\x72", "found", "(I)Z"⟩, 11), (⟨"FigureKnee$Reade\x72", "takeWord", "(Ljava/lang/String;)Z"⟩, 11), (⟨"FigureKnee$Reade\x72", "seesWhole", "(II)Z"⟩, 11), (⟨"FigureKnee$Reade\x72", "readLine", "()Z"⟩, 11), (⟨"FigureKnee$Reade\x72", "readPai\x72", "()Z"⟩, 11), (⟨"FigureKnee$Reade\x72", "pairOfName", "()I"⟩, 11), (⟨"FigureKnee$Reade\x72", "isSame", "(II)Z"⟩, 11), (⟨"FigureKnee$Reade\x72", "lawOfWord", "()I"⟩, 11)]
theorem lw_r1 : ∀ q ∈ lw_privs_1, lw_okq q := List.forall_mem_cons.mpr ⟨lw_p0, List.forall_mem_cons.mpr ⟨lw_p1, List.forall_mem_cons.mpr ⟨lw_p2, List.forall_mem_cons.mpr ⟨lw_p3, List.forall_mem_cons.mpr ⟨lw_p4, List.forall_mem_cons.mpr ⟨lw_p5, List.forall_mem_cons.mpr ⟨lw_p6, List.forall_mem_cons.mpr ⟨lw_p7, List.forall_mem_cons.mpr ⟨lw_p8, List.forall_mem_cons.mpr ⟨lw_p9, List.forall_mem_cons.mpr ⟨lw_p10, List.forall_mem_cons.mpr ⟨lw_p11, List.forall_mem_cons.mpr ⟨lw_p12, List.forall_mem_cons.mpr ⟨lw_p13, List.forall_mem_cons.mpr ⟨lw_p14, List.forall_mem_cons.mpr ⟨lw_p15, fun _ h => absurd h List.not_mem_nil⟩⟩⟩⟩⟩⟩⟩⟩⟩⟩⟩⟩⟩⟩⟩⟩
theorem lw_p16 : lw_okq (⟨"FigureKnee$Reade\x72", "readContract", "()Z"⟩, 11) := ⟨⟨by decide +kernel, by decide +kernel⟩, List.mem_of_getElem? (i := 137) (by decide +kernel), List.mem_of_getElem? (i := 584) (by decide +kernel), List.mem_of_getElem? (i := 585) (by decide +kernel)⟩
theorem lw_p17 : lw_okq (⟨"FigureKnee$Reade\x72", "seenPai\x72", "()I"⟩, 11) := ⟨⟨by decide +kernel, by decide +kernel⟩, List.mem_of_getElem? (i := 137) (by decide +kernel), List.mem_of_getElem? (i := 588) (by decide +kernel), List.mem_of_getElem? (i := 589) (by decide +kernel)⟩
theorem lw_p18 : lw_okq (⟨"FigureKnee$Reade\x72", "readDebt", "()Z"⟩, 11) := ⟨⟨by decide +kernel, by decide +kernel⟩, List.mem_of_getElem? (i := 137) (by decide +kernel), List.mem_of_getElem? (i := 593) (by decide +kernel), List.mem_of_getElem? (i := 594) (by decide +kernel)⟩
theorem lw_p19 : lw_okq (⟨"FigureKnee$Reade\x72", "readUnsure", "()Z"⟩, 11) := ⟨⟨by decide +kernel, by decide +kernel⟩, List.mem_of_getElem? (i := 137) (by decide +kernel), List.mem_of_getElem? (i := 597) (by decide +kernel), List.mem_of_getElem? (i := 598) (by decide +kernel)⟩
theorem lw_p20 : lw_okq (⟨"FigureKnee$Reade\x72", "readHeard", "()Z"⟩, 11) := ⟨⟨by decide +kernel, by decide +kernel⟩, List.mem_of_getElem? (i := 137) (by decide +kernel), List.mem_of_getElem? (i := 605) (by decide +kernel), List.mem_of_getElem? (i := 606) (by decide +kernel)⟩
theorem lw_p21 : lw_okq (⟨"FigureKnee", "isPai\x72", "(I)Z"⟩, 19) := ⟨⟨by decide +kernel, by decide +kernel⟩, List.mem_of_getElem? (i := 25) (by decide +kernel), List.mem_of_getElem? (i := 637) (by decide +kernel), List.mem_of_getElem? (i := 638) (by decide +kernel)⟩
theorem lw_p22 : lw_okq (⟨"FigureKnee", "may", "(Z)Z"⟩, 19) := ⟨⟨by decide +kernel, by decide +kernel⟩, List.mem_of_getElem? (i := 25) (by decide +kernel), List.mem_of_getElem? (i := 641) (by decide +kernel), List.mem_of_getElem? (i := 642) (by decide +kernel)⟩
theorem lw_p23 : lw_okq (⟨"FigureKnee", "may", "(ZZ)Z"⟩, 19) := ⟨⟨by decide +kernel, by decide +kernel⟩, List.mem_of_getElem? (i := 25) (by decide +kernel), List.mem_of_getElem? (i := 645) (by decide +kernel), List.mem_of_getElem? (i := 646) (by decide +kernel)⟩
theorem lw_p24 : lw_okq (⟨"FigureKnee", "isMore", "(I)Z"⟩, 19) := ⟨⟨by decide +kernel, by decide +kernel⟩, List.mem_of_getElem? (i := 25) (by decide +kernel), List.mem_of_getElem? (i := 649) (by decide +kernel), List.mem_of_getElem? (i := 650) (by decide +kernel)⟩
theorem lw_p25 : lw_okq (⟨"FigureKnee", "sayingBehind", "(II)I"⟩, 19) := ⟨⟨by decide +kernel, by decide +kernel⟩, List.mem_of_getElem? (i := 25) (by decide +kernel), List.mem_of_getElem? (i := 657) (by decide +kernel), List.mem_of_getElem? (i := 658) (by decide +kernel)⟩
theorem lw_p26 : lw_okq (⟨"FigureKnee$Walk", "byLaw", "()I"⟩, 6) := ⟨⟨by decide +kernel, by decide +kernel⟩, List.mem_of_getElem? (i := 226) (by decide +kernel), List.mem_of_getElem? (i := 677) (by decide +kernel), List.mem_of_getElem? (i := 678) (by decide +kernel)⟩
theorem lw_p27 : lw_okq (⟨"FigureKnee", "goRound", "(I)V"⟩, 19) := ⟨⟨by decide +kernel, by decide +kernel⟩, List.mem_of_getElem? (i := 25) (by decide +kernel), List.mem_of_getElem? (i := 715) (by decide +kernel), List.mem_of_getElem? (i := 716) (by decide +kernel)⟩
theorem lw_p28 : lw_okq (⟨"FigureKnee$Rounds", "shortenRound", "()V"⟩, 4) := ⟨⟨by decide +kernel, by decide +kernel⟩, List.mem_of_getElem? (i := 259) (by decide +kernel), List.mem_of_getElem? (i := 730) (by decide +kernel), List.mem_of_getElem? (i := 731) (by decide +kernel)⟩
theorem lw_p29 : lw_okq (⟨"FigureKnee$Rounds", "comesAgainBehind", "(I)Z"⟩, 4) := ⟨⟨by decide +kernel, by decide +kernel⟩, List.mem_of_getElem? (i := 259) (by decide +kernel), List.mem_of_getElem? (i := 734) (by decide +kernel), List.mem_of_getElem? (i := 735) (by decide +kernel)⟩
theorem lw_p30 : lw_okq (⟨"FigureKnee", "areUnlike", "(II)Z"⟩, 19) := ⟨⟨by decide +kernel, by decide +kernel⟩, List.mem_of_getElem? (i := 25) (by decide +kernel), List.mem_of_getElem? (i := 775) (by decide +kernel), List.mem_of_getElem? (i := 776) (by decide +kernel)⟩
theorem lw_p31 : lw_okq (⟨"FigureKnee", "sayAllBehind", "(I)V"⟩, 19) := ⟨⟨by decide +kernel, by decide +kernel⟩, List.mem_of_getElem? (i := 25) (by decide +kernel), List.mem_of_getElem? (i := 783) (by decide +kernel), List.mem_of_getElem? (i := 784) (by decide +kernel)⟩
def lw_privs_2 : List (MethodName × Nat) := [(⟨"FigureKnee$Reade\x72", "readContract", "()Z"⟩, 11), (⟨"FigureKnee$Reade\x72", "seenPai\x72", "()I"⟩, 11), (⟨"FigureKnee$Reade\x72", "readDebt", "()Z"⟩, 11), (⟨"FigureKnee$Reade\x72", "readUnsure", "()Z"⟩, 11), (⟨"FigureKnee$Reade\x72", "readHeard", "()Z"⟩, 11), (⟨"FigureKnee", "isPai\x72", "(I)Z"⟩, 19), (⟨"FigureKnee", "may", "(Z)Z"⟩, 19), (⟨"FigureKnee", "may", "(ZZ)Z"⟩, 19), (⟨"FigureKnee", "isMore", "(I)Z"⟩, 19), (⟨"FigureKnee", "sayingBehind", "(II)I"⟩, 19), (⟨"FigureKnee$Walk", "byLaw", "()I"⟩, 6), (⟨"FigureKnee", "goRound", "(I)V"⟩, 19), (⟨"FigureKnee$Rounds", "shortenRound", "()V"⟩, 4), (⟨"FigureKnee$Rounds", "comesAgainBehind", "(I)Z"⟩, 4), (⟨"FigureKnee", "areUnlike", "(II)Z"⟩, 19), (⟨"FigureKnee", "sayAllBehind", "(I)V"⟩, 19)]
theorem lw_r2 : ∀ q ∈ lw_privs_2, lw_okq q := List.forall_mem_cons.mpr ⟨lw_p16, List.forall_mem_cons.mpr ⟨lw_p17, List.forall_mem_cons.mpr ⟨lw_p18, List.forall_mem_cons.mpr ⟨lw_p19, List.forall_mem_cons.mpr ⟨lw_p20, List.forall_mem_cons.mpr ⟨lw_p21, List.forall_mem_cons.mpr ⟨lw_p22, List.forall_mem_cons.mpr ⟨lw_p23, List.forall_mem_cons.mpr ⟨lw_p24, List.forall_mem_cons.mpr ⟨lw_p25, List.forall_mem_cons.mpr ⟨lw_p26, List.forall_mem_cons.mpr ⟨lw_p27, List.forall_mem_cons.mpr ⟨lw_p28, List.forall_mem_cons.mpr ⟨lw_p29, List.forall_mem_cons.mpr ⟨lw_p30, List.forall_mem_cons.mpr ⟨lw_p31, fun _ h => absurd h List.not_mem_nil⟩⟩⟩⟩⟩⟩⟩⟩⟩⟩⟩⟩⟩⟩⟩⟩
theorem lw_p32 : lw_okq (⟨"FigureKnee", "bitsOfMore", "([I)I"⟩, 19) := ⟨⟨by decide +kernel, by decide +kernel⟩, List.mem_of_getElem? (i := 25) (by decide +kernel), List.mem_of_getElem? (i := 809) (by decide +kernel), List.mem_of_getElem? (i := 810) (by decide +kernel)⟩
theorem lw_p33 : lw_okq (⟨"FigureKnee", "bestEvery", "(II)I"⟩, 19) := ⟨⟨by decide +kernel, by decide +kernel⟩, List.mem_of_getElem? (i := 25) (by decide +kernel), List.mem_of_getElem? (i := 817) (by decide +kernel), List.mem_of_getElem? (i := 818) (by decide +kernel)⟩
theorem lw_p34 : lw_okq (⟨"FigureKnee", "sayingByEvery", "(III)I"⟩, 19) := ⟨⟨by decide +kernel, by decide +kernel⟩, List.mem_of_getElem? (i := 25) (by decide +kernel), List.mem_of_getElem? (i := 821) (by decide +kernel), List.mem_of_getElem? (i := 822) (by decide +kernel)⟩
theorem lw_p35 : lw_okq (⟨"FigureKnee", "mayFit", "()Z"⟩, 19) := ⟨⟨by decide +kernel, by decide +kernel⟩, List.mem_of_getElem? (i := 25) (by decide +kernel), List.mem_of_getElem? (i := 841) (by decide +kernel), List.mem_of_getElem? (i := 842) (by decide +kernel)⟩
theorem lw_p36 : lw_okq (⟨"FigureKnee$Fitting", "fitsHeard", "(LFigureKnee$Pier;II)Z"⟩, 5) := ⟨⟨by decide +kernel, by decide +kernel⟩, List.mem_of_getElem? (i := 280) (by decide +kernel), List.mem_of_getElem? (i := 850) (by decide +kernel), List.mem_of_getElem? (i := 851) (by decide +kernel)⟩
theorem lw_p37 : lw_okq (⟨"FigureKnee$Fitting", "isFit", "(II)Z"⟩, 5) := ⟨⟨by decide +kernel, by decide +kernel⟩, List.mem_of_getElem? (i := 280) (by decide +kernel), List.mem_of_getElem? (i := 856) (by decide +kernel), List.mem_of_getElem? (i := 857) (by decide +kernel)⟩
theorem lw_p38 : lw_okq (⟨"FigureKnee", "apartByTold", "(I)I"⟩, 19) := ⟨⟨by decide +kernel, by decide +kernel⟩, List.mem_of_getElem? (i := 25) (by decide +kernel), List.mem_of_getElem? (i := 902) (by decide +kernel), List.mem_of_getElem? (i := 903) (by decide +kernel)⟩
theorem lw_p39 : lw_okq (⟨"FigureKnee$Books", "countDebtsHome", "(LFigureKnee$Now;I)V"⟩, 7) := ⟨⟨by decide +kernel, by decide +kernel⟩, List.mem_of_getElem? (i := 306) (by decide +kernel), List.mem_of_getElem? (i := 954) (by decide +kernel), List.mem_of_getElem? (i := 955) (by decide +kernel)⟩
theorem lw_p40 : lw_okq (⟨"FigureKnee$Books", "fewestDebtsBehind", "(LFigureKnee$Now;I)I"⟩, 7) := ⟨⟨by decide +kernel, by decide +kernel⟩, List.mem_of_getElem? (i := 306) (by decide +kernel), List.mem_of_getElem? (i := 959) (by decide +kernel), List.mem_of_getElem? (i := 960) (by decide +kernel)⟩
theorem lw_p41 : lw_okq (⟨"FigureKnee$Books", "firstNext", "(LFigureKnee$Now;II)I"⟩, 7) := ⟨⟨by decide +kernel, by decide +kernel⟩, List.mem_of_getElem? (i := 306) (by decide +kernel), List.mem_of_getElem? (i := 963) (by decide +kernel), List.mem_of_getElem? (i := 964) (by decide +kernel)⟩
theorem lw_p42 : lw_okq (⟨"FigureKnee$Gallery", "lookBy", "(III)V"⟩, 3) := ⟨⟨by decide +kernel, by decide +kernel⟩, List.mem_of_getElem? (i := 337) (by decide +kernel), List.mem_of_getElem? (i := 1001) (by decide +kernel), List.mem_of_getElem? (i := 1002) (by decide +kernel)⟩
theorem lw_p43 : lw_okq (⟨"FigureKnee", "goWithDumb", "(III)J"⟩, 19) := ⟨⟨by decide +kernel, by decide +kernel⟩, List.mem_of_getElem? (i := 25) (by decide +kernel), List.mem_of_getElem? (i := 1036) (by decide +kernel), List.mem_of_getElem? (i := 1037) (by decide +kernel)⟩
theorem lw_p44 : lw_okq (⟨"FigureKnee", "deny", "(I)Z"⟩, 19) := ⟨⟨by decide +kernel, by decide +kernel⟩, List.mem_of_getElem? (i := 25) (by decide +kernel), List.mem_of_getElem? (i := 1076) (by decide +kernel), List.mem_of_getElem? (i := 1077) (by decide +kernel)⟩
theorem lw_p45 : lw_okq (⟨"java/lang/Throwable", "fillInStackTrace", "(I)Ljava/lang/Throwable;"⟩, 6) := ⟨⟨by decide +kernel, by decide +kernel⟩, List.mem_of_getElem? (i := 1162) (by decide +kernel), List.mem_of_getElem? (i := 1160) (by decide +kernel), List.mem_of_getElem? (i := 1161) (by decide +kernel)⟩
theorem lw_p46 : lw_okq (⟨"FigureKneeModel", "good", "()V"⟩, 42) := ⟨⟨by decide +kernel, by decide +kernel⟩, List.mem_of_getElem? (i := 1187) (by decide +kernel), List.mem_of_getElem? (i := 1332) (by decide +kernel), List.mem_of_getElem? (i := 1333) (by decide +kernel)⟩
theorem lw_p47 : lw_okq (⟨"FigureKneeModel", "no", "(I)I"⟩, 42) := ⟨⟨by decide +kernel, by decide +kernel⟩, List.mem_of_getElem? (i := 1187) (by decide +kernel), List.mem_of_getElem? (i := 1339) (by decide +kernel), List.mem_of_getElem? (i := 1340) (by decide +kernel)⟩
def lw_privs_3 : List (MethodName × Nat) := [(⟨"FigureKnee", "bitsOfMore", "([I)I"⟩, 19), (⟨"FigureKnee", "bestEvery", "(II)I"⟩, 19), (⟨"FigureKnee", "sayingByEvery", "(III)I"⟩, 19), (⟨"FigureKnee", "mayFit", "()Z"⟩, 19), (⟨"FigureKnee$Fitting", "fitsHeard", "(LFigureKnee$Pier;II)Z"⟩, 5), (⟨"FigureKnee$Fitting", "isFit", "(II)Z"⟩, 5), (⟨"FigureKnee", "apartByTold", "(I)I"⟩, 19), (⟨"FigureKnee$Books", "countDebtsHome", "(LFigureKnee$Now;I)V"⟩, 7), (⟨"FigureKnee$Books", "fewestDebtsBehind", "(LFigureKnee$Now;I)I"⟩, 7), (⟨"FigureKnee$Books", "firstNext", "(LFigureKnee$Now;II)I"⟩, 7), (⟨"FigureKnee$Gallery", "lookBy", "(III)V"⟩, 3), (⟨"FigureKnee", "goWithDumb", "(III)J"⟩, 19), (⟨"FigureKnee", "deny", "(I)Z"⟩, 19), (⟨"java/lang/Throwable", "fillInStackTrace", "(I)Ljava/lang/Throwable;"⟩, 6), (⟨"FigureKneeModel", "good", "()V"⟩, 42), (⟨"FigureKneeModel", "no", "(I)I"⟩, 42)]
theorem lw_r3 : ∀ q ∈ lw_privs_3, lw_okq q := List.forall_mem_cons.mpr ⟨lw_p32, List.forall_mem_cons.mpr ⟨lw_p33, List.forall_mem_cons.mpr ⟨lw_p34, List.forall_mem_cons.mpr ⟨lw_p35, List.forall_mem_cons.mpr ⟨lw_p36, List.forall_mem_cons.mpr ⟨lw_p37, List.forall_mem_cons.mpr ⟨lw_p38, List.forall_mem_cons.mpr ⟨lw_p39, List.forall_mem_cons.mpr ⟨lw_p40, List.forall_mem_cons.mpr ⟨lw_p41, List.forall_mem_cons.mpr ⟨lw_p42, List.forall_mem_cons.mpr ⟨lw_p43, List.forall_mem_cons.mpr ⟨lw_p44, List.forall_mem_cons.mpr ⟨lw_p45, List.forall_mem_cons.mpr ⟨lw_p46, List.forall_mem_cons.mpr ⟨lw_p47, fun _ h => absurd h List.not_mem_nil⟩⟩⟩⟩⟩⟩⟩⟩⟩⟩⟩⟩⟩⟩⟩⟩
theorem lw_p48 : lw_okq (⟨"FigureKneeModel", "next", "()V"⟩, 42) := ⟨⟨by decide +kernel, by decide +kernel⟩, List.mem_of_getElem? (i := 1187) (by decide +kernel), List.mem_of_getElem? (i := 1343) (by decide +kernel), List.mem_of_getElem? (i := 1344) (by decide +kernel)⟩
theorem lw_p49 : lw_okq (⟨"FigureKneeModel", "see", "(I)I"⟩, 42) := ⟨⟨by decide +kernel, by decide +kernel⟩, List.mem_of_getElem? (i := 1187) (by decide +kernel), List.mem_of_getElem? (i := 1347) (by decide +kernel), List.mem_of_getElem? (i := 1348) (by decide +kernel)⟩
theorem lw_p50 : lw_okq (⟨"FigureKneeModel", "readLine", "()V"⟩, 42) := ⟨⟨by decide +kernel, by decide +kernel⟩, List.mem_of_getElem? (i := 1187) (by decide +kernel), List.mem_of_getElem? (i := 1357) (by decide +kernel), List.mem_of_getElem? (i := 1358) (by decide +kernel)⟩
theorem lw_p51 : lw_okq (⟨"FigureKneeModel", "isWord", "(Ljava/lang/String;)Z"⟩, 42) := ⟨⟨by decide +kernel, by decide +kernel⟩, List.mem_of_getElem? (i := 1187) (by decide +kernel), List.mem_of_getElem? (i := 1362) (by decide +kernel), List.mem_of_getElem? (i := 1363) (by decide +kernel)⟩
theorem lw_p52 : lw_okq (⟨"FigureKneeModel", "pierLine", "()V"⟩, 42) := ⟨⟨by decide +kernel, by decide +kernel⟩, List.mem_of_getElem? (i := 1187) (by decide +kernel), List.mem_of_getElem? (i := 1368) (by decide +kernel), List.mem_of_getElem? (i := 1369) (by decide +kernel)⟩
theorem lw_p53 : lw_okq (⟨"FigureKneeModel", "wrong", "(II)V"⟩, 42) := ⟨⟨by decide +kernel, by decide +kernel⟩, List.mem_of_getElem? (i := 1187) (by decide +kernel), List.mem_of_getElem? (i := 1372) (by decide +kernel), List.mem_of_getElem? (i := 1373) (by decide +kernel)⟩
theorem lw_p54 : lw_okq (⟨"FigureKneeModel", "afte\x72", "(Ljava/lang/String;II)I"⟩, 42) := ⟨⟨by decide +kernel, by decide +kernel⟩, List.mem_of_getElem? (i := 1187) (by decide +kernel), List.mem_of_getElem? (i := 1377) (by decide +kernel), List.mem_of_getElem? (i := 1378) (by decide +kernel)⟩
theorem lw_p55 : lw_okq (⟨"FigureKneeModel", "must", "(Ljava/lang/String;)V"⟩, 42) := ⟨⟨by decide +kernel, by decide +kernel⟩, List.mem_of_getElem? (i := 1187) (by decide +kernel), List.mem_of_getElem? (i := 1381) (by decide +kernel), List.mem_of_getElem? (i := 1382) (by decide +kernel)⟩
theorem lw_p56 : lw_okq (⟨"FigureKneeModel", "takesWord", "(Ljava/lang/String;)Z"⟩, 42) := ⟨⟨by decide +kernel, by decide +kernel⟩, List.mem_of_getElem? (i := 1187) (by decide +kernel), List.mem_of_getElem? (i := 1385) (by decide +kernel), List.mem_of_getElem? (i := 1386) (by decide +kernel)⟩
theorem lw_p57 : lw_okq (⟨"FigureKneeModel", "numbe\x72", "(II)I"⟩, 42) := ⟨⟨by decide +kernel, by decide +kernel⟩, List.mem_of_getElem? (i := 1187) (by decide +kernel), List.mem_of_getElem? (i := 1389) (by decide +kernel), List.mem_of_getElem? (i := 1390) (by decide +kernel)⟩
theorem lw_p58 : lw_okq (⟨"FigureKneeModel", "numberHere", "(II)I"⟩, 42) := ⟨⟨by decide +kernel, by decide +kernel⟩, List.mem_of_getElem? (i := 1187) (by decide +kernel), List.mem_of_getElem? (i := 1393) (by decide +kernel), List.mem_of_getElem? (i := 1394) (by decide +kernel)⟩
theorem lw_p59 : lw_okq (⟨"FigureKneeModel", "pass", "()V"⟩, 42) := ⟨⟨by decide +kernel, by decide +kernel⟩, List.mem_of_getElem? (i := 1187) (by decide +kernel), List.mem_of_getElem? (i := 1397) (by decide +kernel), List.mem_of_getElem? (i := 1398) (by decide +kernel)⟩
theorem lw_p60 : lw_okq (⟨"FigureKneeModel", "begins", "(Ljava/lang/String;Z)Z"⟩, 42) := ⟨⟨by decide +kernel, by decide +kernel⟩, List.mem_of_getElem? (i := 1187) (by decide +kernel), List.mem_of_getElem? (i := 1403) (by decide +kernel), List.mem_of_getElem? (i := 1404) (by decide +kernel)⟩
theorem lw_p61 : lw_okq (⟨"FigureKneeModel", "pairLine", "()V"⟩, 42) := ⟨⟨by decide +kernel, by decide +kernel⟩, List.mem_of_getElem? (i := 1187) (by decide +kernel), List.mem_of_getElem? (i := 1407) (by decide +kernel), List.mem_of_getElem? (i := 1408) (by decide +kernel)⟩
theorem lw_p62 : lw_okq (⟨"FigureKneeModel", "newName", "(I)V"⟩, 42) := ⟨⟨by decide +kernel, by decide +kernel⟩, List.mem_of_getElem? (i := 1187) (by decide +kernel), List.mem_of_getElem? (i := 1411) (by decide +kernel), List.mem_of_getElem? (i := 1412) (by decide +kernel)⟩
theorem lw_p63 : lw_okq (⟨"FigureKneeModel", "mustName", "()V"⟩, 42) := ⟨⟨by decide +kernel, by decide +kernel⟩, List.mem_of_getElem? (i := 1187) (by decide +kernel), List.mem_of_getElem? (i := 1415) (by decide +kernel), List.mem_of_getElem? (i := 1416) (by decide +kernel)⟩
def lw_privs_4 : List (MethodName × Nat) := [(⟨"FigureKneeModel", "next", "()V"⟩, 42), (⟨"FigureKneeModel", "see", "(I)I"⟩, 42), (⟨"FigureKneeModel", "readLine", "()V"⟩, 42), (⟨"FigureKneeModel", "isWord", "(Ljava/lang/String;)Z"⟩, 42), (⟨"FigureKneeModel", "pierLine", "()V"⟩, 42), (⟨"FigureKneeModel", "wrong", "(II)V"⟩, 42), (⟨"FigureKneeModel", "afte\x72", "(Ljava/lang/String;II)I"⟩, 42), (⟨"FigureKneeModel", "must", "(Ljava/lang/String;)V"⟩, 42), (⟨"FigureKneeModel", "takesWord", "(Ljava/lang/String;)Z"⟩, 42), (⟨"FigureKneeModel", "numbe\x72", "(II)I"⟩, 42), (⟨"FigureKneeModel", "numberHere", "(II)I"⟩, 42), (⟨"FigureKneeModel", "pass", "()V"⟩, 42), (⟨"FigureKneeModel", "begins", "(Ljava/lang/String;Z)Z"⟩, 42), (⟨"FigureKneeModel", "pairLine", "()V"⟩, 42), (⟨"FigureKneeModel", "newName", "(I)V"⟩, 42), (⟨"FigureKneeModel", "mustName", "()V"⟩, 42)]
theorem lw_r4 : ∀ q ∈ lw_privs_4, lw_okq q := List.forall_mem_cons.mpr ⟨lw_p48, List.forall_mem_cons.mpr ⟨lw_p49, List.forall_mem_cons.mpr ⟨lw_p50, List.forall_mem_cons.mpr ⟨lw_p51, List.forall_mem_cons.mpr ⟨lw_p52, List.forall_mem_cons.mpr ⟨lw_p53, List.forall_mem_cons.mpr ⟨lw_p54, List.forall_mem_cons.mpr ⟨lw_p55, List.forall_mem_cons.mpr ⟨lw_p56, List.forall_mem_cons.mpr ⟨lw_p57, List.forall_mem_cons.mpr ⟨lw_p58, List.forall_mem_cons.mpr ⟨lw_p59, List.forall_mem_cons.mpr ⟨lw_p60, List.forall_mem_cons.mpr ⟨lw_p61, List.forall_mem_cons.mpr ⟨lw_p62, List.forall_mem_cons.mpr ⟨lw_p63, fun _ h => absurd h List.not_mem_nil⟩⟩⟩⟩⟩⟩⟩⟩⟩⟩⟩⟩⟩⟩⟩⟩
theorem lw_p64 : lw_okq (⟨"FigureKneeModel", "find", "()I"⟩, 42) := ⟨⟨by decide +kernel, by decide +kernel⟩, List.mem_of_getElem? (i := 1187) (by decide +kernel), List.mem_of_getElem? (i := 1423) (by decide +kernel), List.mem_of_getElem? (i := 1424) (by decide +kernel)⟩
theorem lw_p65 : lw_okq (⟨"FigureKneeModel", "contractLine", "()V"⟩, 42) := ⟨⟨by decide +kernel, by decide +kernel⟩, List.mem_of_getElem? (i := 1187) (by decide +kernel), List.mem_of_getElem? (i := 1433) (by decide +kernel), List.mem_of_getElem? (i := 1434) (by decide +kernel)⟩
theorem lw_p66 : lw_okq (⟨"FigureKneeModel", "pairHere", "()I"⟩, 42) := ⟨⟨by decide +kernel, by decide +kernel⟩, List.mem_of_getElem? (i := 1187) (by decide +kernel), List.mem_of_getElem? (i := 1437) (by decide +kernel), List.mem_of_getElem? (i := 1438) (by decide +kernel)⟩
theorem lw_p67 : lw_okq (⟨"FigureKneeModel", "debtLine", "()V"⟩, 42) := ⟨⟨by decide +kernel, by decide +kernel⟩, List.mem_of_getElem? (i := 1187) (by decide +kernel), List.mem_of_getElem? (i := 1442) (by decide +kernel), List.mem_of_getElem? (i := 1443) (by decide +kernel)⟩
theorem lw_p68 : lw_okq (⟨"FigureKneeModel", "unsureLine", "()V"⟩, 42) := ⟨⟨by decide +kernel, by decide +kernel⟩, List.mem_of_getElem? (i := 1187) (by decide +kernel), List.mem_of_getElem? (i := 1446) (by decide +kernel), List.mem_of_getElem? (i := 1447) (by decide +kernel)⟩
theorem lw_p69 : lw_okq (⟨"FigureKneeModel", "heardLine", "()V"⟩, 42) := ⟨⟨by decide +kernel, by decide +kernel⟩, List.mem_of_getElem? (i := 1187) (by decide +kernel), List.mem_of_getElem? (i := 1450) (by decide +kernel), List.mem_of_getElem? (i := 1451) (by decide +kernel)⟩
theorem lw_p70 : lw_okq (⟨"FigureKneeModel", "isPai\x72", "(I)Z"⟩, 42) := ⟨⟨by decide +kernel, by decide +kernel⟩, List.mem_of_getElem? (i := 1187) (by decide +kernel), List.mem_of_getElem? (i := 1470) (by decide +kernel), List.mem_of_getElem? (i := 1471) (by decide +kernel)⟩
theorem lw_p71 : lw_okq (⟨"FigureKneeModel", "isMore", "(I)Z"⟩, 42) := ⟨⟨by decide +kernel, by decide +kernel⟩, List.mem_of_getElem? (i := 1187) (by decide +kernel), List.mem_of_getElem? (i := 1474) (by decide +kernel), List.mem_of_getElem? (i := 1475) (by decide +kernel)⟩
theorem lw_p72 : lw_okq (⟨"FigureKneeModel", "aheadWhy", "(ZI)I"⟩, 42) := ⟨⟨by decide +kernel, by decide +kernel⟩, List.mem_of_getElem? (i := 1187) (by decide +kernel), List.mem_of_getElem? (i := 1482) (by decide +kernel), List.mem_of_getElem? (i := 1483) (by decide +kernel)⟩
theorem lw_p73 : lw_okq (⟨"FigureKneeModel", "why", "(ZZ)I"⟩, 42) := ⟨⟨by decide +kernel, by decide +kernel⟩, List.mem_of_getElem? (i := 1187) (by decide +kernel), List.mem_of_getElem? (i := 1486) (by decide +kernel), List.mem_of_getElem? (i := 1487) (by decide +kernel)⟩
theorem lw_p74 : lw_okq (⟨"FigureKneeModel", "saysIn", "(II)I"⟩, 42) := ⟨⟨by decide +kernel, by decide +kernel⟩, List.mem_of_getElem? (i := 1187) (by decide +kernel), List.mem_of_getElem? (i := 1490) (by decide +kernel), List.mem_of_getElem? (i := 1491) (by decide +kernel)⟩
theorem lw_p75 : lw_okq (⟨"FigureKneeModel", "saysBy", "(IIII)I"⟩, 42) := ⟨⟨by decide +kernel, by decide +kernel⟩, List.mem_of_getElem? (i := 1187) (by decide +kernel), List.mem_of_getElem? (i := 1494) (by decide +kernel), List.mem_of_getElem? (i := 1495) (by decide +kernel)⟩
theorem lw_p76 : lw_okq (⟨"FigureKneeModel", "behind", "(IIIIIZ)I"⟩, 42) := ⟨⟨by decide +kernel, by decide +kernel⟩, List.mem_of_getElem? (i := 1187) (by decide +kernel), List.mem_of_getElem? (i := 1498) (by decide +kernel), List.mem_of_getElem? (i := 1499) (by decide +kernel)⟩
theorem lw_p77 : lw_okq (⟨"FigureKneeModel", "byLaw", "(III)I"⟩, 42) := ⟨⟨by decide +kernel, by decide +kernel⟩, List.mem_of_getElem? (i := 1187) (by decide +kernel), List.mem_of_getElem? (i := 1502) (by decide +kernel), List.mem_of_getElem? (i := 1503) (by decide +kernel)⟩
theorem lw_p78 : lw_okq (⟨"FigureKneeModel", "within", "(I)I"⟩, 42) := ⟨⟨by decide +kernel, by decide +kernel⟩, List.mem_of_getElem? (i := 1187) (by decide +kernel), List.mem_of_getElem? (i := 1506) (by decide +kernel), List.mem_of_getElem? (i := 1507) (by decide +kernel)⟩
theorem lw_p79 : lw_okq (⟨"FigureKneeModel", "goRound", "(I)V"⟩, 42) := ⟨⟨by decide +kernel, by decide +kernel⟩, List.mem_of_getElem? (i := 1187) (by decide +kernel), List.mem_of_getElem? (i := 1526) (by decide +kernel), List.mem_of_getElem? (i := 1527) (by decide +kernel)⟩
def lw_privs_5 : List (MethodName × Nat) := [(⟨"FigureKneeModel", "find", "()I"⟩, 42), (⟨"FigureKneeModel", "contractLine", "()V"⟩, 42), (⟨"FigureKneeModel", "pairHere", "()I"⟩, 42), (⟨"FigureKneeModel", "debtLine", "()V"⟩, 42), (⟨"FigureKneeModel", "unsureLine", "()V"⟩, 42), (⟨"FigureKneeModel", "heardLine", "()V"⟩, 42), (⟨"FigureKneeModel", "isPai\x72", "(I)Z"⟩, 42), (⟨"FigureKneeModel", "isMore", "(I)Z"⟩, 42), (⟨"FigureKneeModel", "aheadWhy", "(ZI)I"⟩, 42), (⟨"FigureKneeModel", "why", "(ZZ)I"⟩, 42), (⟨"FigureKneeModel", "saysIn", "(II)I"⟩, 42), (⟨"FigureKneeModel", "saysBy", "(IIII)I"⟩, 42), (⟨"FigureKneeModel", "behind", "(IIIIIZ)I"⟩, 42), (⟨"FigureKneeModel", "byLaw", "(III)I"⟩, 42), (⟨"FigureKneeModel", "within", "(I)I"⟩, 42), (⟨"FigureKneeModel", "goRound", "(I)V"⟩, 42)]
theorem lw_r5 : ∀ q ∈ lw_privs_5, lw_okq q := List.forall_mem_cons.mpr ⟨lw_p64, List.forall_mem_cons.mpr ⟨lw_p65, List.forall_mem_cons.mpr ⟨lw_p66, List.forall_mem_cons.mpr ⟨lw_p67, List.forall_mem_cons.mpr ⟨lw_p68, List.forall_mem_cons.mpr ⟨lw_p69, List.forall_mem_cons.mpr ⟨lw_p70, List.forall_mem_cons.mpr ⟨lw_p71, List.forall_mem_cons.mpr ⟨lw_p72, List.forall_mem_cons.mpr ⟨lw_p73, List.forall_mem_cons.mpr ⟨lw_p74, List.forall_mem_cons.mpr ⟨lw_p75, List.forall_mem_cons.mpr ⟨lw_p76, List.forall_mem_cons.mpr ⟨lw_p77, List.forall_mem_cons.mpr ⟨lw_p78, List.forall_mem_cons.mpr ⟨lw_p79, fun _ h => absurd h List.not_mem_nil⟩⟩⟩⟩⟩⟩⟩⟩⟩⟩⟩⟩⟩⟩⟩⟩
theorem lw_p80 : lw_okq (⟨"FigureKneeModel", "isRoundOf", "(I)Z"⟩, 42) := ⟨⟨by decide +kernel, by decide +kernel⟩, List.mem_of_getElem? (i := 1187) (by decide +kernel), List.mem_of_getElem? (i := 1530) (by decide +kernel), List.mem_of_getElem? (i := 1531) (by decide +kernel)⟩
theorem lw_p81 : lw_okq (⟨"FigureKneeModel", "extremeOf", "(II)I"⟩, 42) := ⟨⟨by decide +kernel, by decide +kernel⟩, List.mem_of_getElem? (i := 1187) (by decide +kernel), List.mem_of_getElem? (i := 1547) (by decide +kernel), List.mem_of_getElem? (i := 1548) (by decide +kernel)⟩
theorem lw_p82 : lw_okq (⟨"FigureKneeModel", "areTwo", "(II)Z"⟩, 42) := ⟨⟨by decide +kernel, by decide +kernel⟩, List.mem_of_getElem? (i := 1187) (by decide +kernel), List.mem_of_getElem? (i := 1563) (by decide +kernel), List.mem_of_getElem? (i := 1564) (by decide +kernel)⟩
theorem lw_p83 : lw_okq (⟨"FigureKneeModel", "mastersIn", "(I)I"⟩, 42) := ⟨⟨by decide +kernel, by decide +kernel⟩, List.mem_of_getElem? (i := 1187) (by decide +kernel), List.mem_of_getElem? (i := 1575) (by decide +kernel), List.mem_of_getElem? (i := 1576) (by decide +kernel)⟩
theorem lw_p84 : lw_okq (⟨"FigureKneeModel", "bestEvery", "(II)I"⟩, 42) := ⟨⟨by decide +kernel, by decide +kernel⟩, List.mem_of_getElem? (i := 1187) (by decide +kernel), List.mem_of_getElem? (i := 1595) (by decide +kernel), List.mem_of_getElem? (i := 1596) (by decide +kernel)⟩
theorem lw_p85 : lw_okq (⟨"FigureKneeModel", "isNeverMore", "(II)Z"⟩, 42) := ⟨⟨by decide +kernel, by decide +kernel⟩, List.mem_of_getElem? (i := 1187) (by decide +kernel), List.mem_of_getElem? (i := 1607) (by decide +kernel), List.mem_of_getElem? (i := 1608) (by decide +kernel)⟩
theorem lw_p86 : lw_okq (⟨"FigureKneeModel", "seekSets", "(I)I"⟩, 42) := ⟨⟨by decide +kernel, by decide +kernel⟩, List.mem_of_getElem? (i := 1187) (by decide +kernel), List.mem_of_getElem? (i := 1619) (by decide +kernel), List.mem_of_getElem? (i := 1620) (by decide +kernel)⟩
theorem lw_p87 : lw_okq (⟨"FigureKneeModel", "wrongBy", "(I)I"⟩, 42) := ⟨⟨by decide +kernel, by decide +kernel⟩, List.mem_of_getElem? (i := 1187) (by decide +kernel), List.mem_of_getElem? (i := 1623) (by decide +kernel), List.mem_of_getElem? (i := 1624) (by decide +kernel)⟩
theorem lw_p88 : lw_okq (⟨"FigureKneeModel", "saidThen", "(III)I"⟩, 42) := ⟨⟨by decide +kernel, by decide +kernel⟩, List.mem_of_getElem? (i := 1187) (by decide +kernel), List.mem_of_getElem? (i := 1627) (by decide +kernel), List.mem_of_getElem? (i := 1628) (by decide +kernel)⟩
theorem lw_p89 : lw_okq (⟨"FigureKneeModel", "stepBy", "(II)I"⟩, 42) := ⟨⟨by decide +kernel, by decide +kernel⟩, List.mem_of_getElem? (i := 1187) (by decide +kernel), List.mem_of_getElem? (i := 1631) (by decide +kernel), List.mem_of_getElem? (i := 1632) (by decide +kernel)⟩
theorem lw_p90 : lw_okq (⟨"FigureKneeModel", "askOf", "()I"⟩, 42) := ⟨⟨by decide +kernel, by decide +kernel⟩, List.mem_of_getElem? (i := 1187) (by decide +kernel), List.mem_of_getElem? (i := 1654) (by decide +kernel), List.mem_of_getElem? (i := 1655) (by decide +kernel)⟩
theorem lw_p91 : lw_okq (⟨"FigureKneeModel", "leavesOf", "(I)I"⟩, 42) := ⟨⟨by decide +kernel, by decide +kernel⟩, List.mem_of_getElem? (i := 1187) (by decide +kernel), List.mem_of_getElem? (i := 1658) (by decide +kernel), List.mem_of_getElem? (i := 1659) (by decide +kernel)⟩
theorem lw_p92 : lw_okq (⟨"FigureKneeModel", "debtOf", "(II)I"⟩, 42) := ⟨⟨by decide +kernel, by decide +kernel⟩, List.mem_of_getElem? (i := 1187) (by decide +kernel), List.mem_of_getElem? (i := 1678) (by decide +kernel), List.mem_of_getElem? (i := 1679) (by decide +kernel)⟩
theorem lw_p93 : lw_okq (⟨"FigureKneeModel", "netOf", "(I)I"⟩, 42) := ⟨⟨by decide +kernel, by decide +kernel⟩, List.mem_of_getElem? (i := 1187) (by decide +kernel), List.mem_of_getElem? (i := 1686) (by decide +kernel), List.mem_of_getElem? (i := 1687) (by decide +kernel)⟩
theorem lw_p94 : lw_okq (⟨"FigureKneeModel", "groupsOf", "(I)I"⟩, 42) := ⟨⟨by decide +kernel, by decide +kernel⟩, List.mem_of_getElem? (i := 1187) (by decide +kernel), List.mem_of_getElem? (i := 1706) (by decide +kernel), List.mem_of_getElem? (i := 1707) (by decide +kernel)⟩
theorem lw_p95 : lw_okq (⟨"FigureKneeModel", "netsOf", "(I)I"⟩, 42) := ⟨⟨by decide +kernel, by decide +kernel⟩, List.mem_of_getElem? (i := 1187) (by decide +kernel), List.mem_of_getElem? (i := 1710) (by decide +kernel), List.mem_of_getElem? (i := 1711) (by decide +kernel)⟩
def lw_privs_6 : List (MethodName × Nat) := [(⟨"FigureKneeModel", "isRoundOf", "(I)Z"⟩, 42), (⟨"FigureKneeModel", "extremeOf", "(II)I"⟩, 42), (⟨"FigureKneeModel", "areTwo", "(II)Z"⟩, 42), (⟨"FigureKneeModel", "mastersIn", "(I)I"⟩, 42), (⟨"FigureKneeModel", "bestEvery", "(II)I"⟩, 42), (⟨"FigureKneeModel", "isNeverMore", "(II)Z"⟩, 42), (⟨"FigureKneeModel", "seekSets", "(I)I"⟩, 42), (⟨"FigureKneeModel", "wrongBy", "(I)I"⟩, 42), (⟨"FigureKneeModel", "saidThen", "(III)I"⟩, 42), (⟨"FigureKneeModel", "stepBy", "(II)I"⟩, 42), (⟨"FigureKneeModel", "askOf", "()I"⟩, 42), (⟨"FigureKneeModel", "leavesOf", "(I)I"⟩, 42), (⟨"FigureKneeModel", "debtOf", "(II)I"⟩, 42), (⟨"FigureKneeModel", "netOf", "(I)I"⟩, 42), (⟨"FigureKneeModel", "groupsOf", "(I)I"⟩, 42), (⟨"FigureKneeModel", "netsOf", "(I)I"⟩, 42)]
theorem lw_r6 : ∀ q ∈ lw_privs_6, lw_okq q := List.forall_mem_cons.mpr ⟨lw_p80, List.forall_mem_cons.mpr ⟨lw_p81, List.forall_mem_cons.mpr ⟨lw_p82, List.forall_mem_cons.mpr ⟨lw_p83, List.forall_mem_cons.mpr ⟨lw_p84, List.forall_mem_cons.mpr ⟨lw_p85, List.forall_mem_cons.mpr ⟨lw_p86, List.forall_mem_cons.mpr ⟨lw_p87, List.forall_mem_cons.mpr ⟨lw_p88, List.forall_mem_cons.mpr ⟨lw_p89, List.forall_mem_cons.mpr ⟨lw_p90, List.forall_mem_cons.mpr ⟨lw_p91, List.forall_mem_cons.mpr ⟨lw_p92, List.forall_mem_cons.mpr ⟨lw_p93, List.forall_mem_cons.mpr ⟨lw_p94, List.forall_mem_cons.mpr ⟨lw_p95, fun _ h => absurd h List.not_mem_nil⟩⟩⟩⟩⟩⟩⟩⟩⟩⟩⟩⟩⟩⟩⟩⟩
theorem lw_p96 : lw_okq (⟨"FigureKneeModel", "seekRing", "(I)Z"⟩, 42) := ⟨⟨by decide +kernel, by decide +kernel⟩, List.mem_of_getElem? (i := 1187) (by decide +kernel), List.mem_of_getElem? (i := 1718) (by decide +kernel), List.mem_of_getElem? (i := 1719) (by decide +kernel)⟩
theorem lw_p97 : lw_okq (⟨"FigureKneeModel", "tryRing", "(II)V"⟩, 42) := ⟨⟨by decide +kernel, by decide +kernel⟩, List.mem_of_getElem? (i := 1187) (by decide +kernel), List.mem_of_getElem? (i := 1723) (by decide +kernel), List.mem_of_getElem? (i := 1724) (by decide +kernel)⟩
theorem lw_p98 : lw_okq (⟨"FigureKneeModel", "seekRests", "(I)I"⟩, 42) := ⟨⟨by decide +kernel, by decide +kernel⟩, List.mem_of_getElem? (i := 1187) (by decide +kernel), List.mem_of_getElem? (i := 1742) (by decide +kernel), List.mem_of_getElem? (i := 1743) (by decide +kernel)⟩
theorem lw_p99 : lw_okq (⟨"FigureKneeModel", "verdictOf", "()I"⟩, 42) := ⟨⟨by decide +kernel, by decide +kernel⟩, List.mem_of_getElem? (i := 1187) (by decide +kernel), List.mem_of_getElem? (i := 1754) (by decide +kernel), List.mem_of_getElem? (i := 1755) (by decide +kernel)⟩
theorem lw_p100 : lw_okq (⟨"FigureKneeModel", "lookWhy", "(ZII)I"⟩, 42) := ⟨⟨by decide +kernel, by decide +kernel⟩, List.mem_of_getElem? (i := 1187) (by decide +kernel), List.mem_of_getElem? (i := 1765) (by decide +kernel), List.mem_of_getElem? (i := 1766) (by decide +kernel)⟩
theorem lw_p101 : lw_okq (⟨"FigureKneeModel", "tryDumb", "(III)V"⟩, 42) := ⟨⟨by decide +kernel, by decide +kernel⟩, List.mem_of_getElem? (i := 1187) (by decide +kernel), List.mem_of_getElem? (i := 1779) (by decide +kernel), List.mem_of_getElem? (i := 1780) (by decide +kernel)⟩
theorem lw_p102 : lw_okq (⟨"FigureKneeModel", "note", "()V"⟩, 42) := ⟨⟨by decide +kernel, by decide +kernel⟩, List.mem_of_getElem? (i := 1187) (by decide +kernel), List.mem_of_getElem? (i := 1795) (by decide +kernel), List.mem_of_getElem? (i := 1796) (by decide +kernel)⟩
theorem lw_p103 : lw_okq (⟨"FigureKneeModel", "isNot", "(I)Z"⟩, 42) := ⟨⟨by decide +kernel, by decide +kernel⟩, List.mem_of_getElem? (i := 1187) (by decide +kernel), List.mem_of_getElem? (i := 1807) (by decide +kernel), List.mem_of_getElem? (i := 1808) (by decide +kernel)⟩
def lw_privs_7 : List (MethodName × Nat) := [(⟨"FigureKneeModel", "seekRing", "(I)Z"⟩, 42), (⟨"FigureKneeModel", "tryRing", "(II)V"⟩, 42), (⟨"FigureKneeModel", "seekRests", "(I)I"⟩, 42), (⟨"FigureKneeModel", "verdictOf", "()I"⟩, 42), (⟨"FigureKneeModel", "lookWhy", "(ZII)I"⟩, 42), (⟨"FigureKneeModel", "tryDumb", "(III)V"⟩, 42), (⟨"FigureKneeModel", "note", "()V"⟩, 42), (⟨"FigureKneeModel", "isNot", "(I)Z"⟩, 42)]
theorem lw_r7 : ∀ q ∈ lw_privs_7, lw_okq q := List.forall_mem_cons.mpr ⟨lw_p96, List.forall_mem_cons.mpr ⟨lw_p97, List.forall_mem_cons.mpr ⟨lw_p98, List.forall_mem_cons.mpr ⟨lw_p99, List.forall_mem_cons.mpr ⟨lw_p100, List.forall_mem_cons.mpr ⟨lw_p101, List.forall_mem_cons.mpr ⟨lw_p102, List.forall_mem_cons.mpr ⟨lw_p103, fun _ h => absurd h List.not_mem_nil⟩⟩⟩⟩⟩⟩⟩⟩
def lw_privs : List (MethodName × Nat) := lw_privs_1 ++ (lw_privs_2 ++ (lw_privs_3 ++ (lw_privs_4 ++ (lw_privs_5 ++ (lw_privs_6 ++ (lw_privs_7))))))
def lw_tbl : List Cond := k2_sels lw_privs ++ tables_1
theorem lw_privs_ok : ∀ q ∈ lw_privs, lw_okq q := by
  show ∀ q ∈ lw_privs_1 ++ (lw_privs_2 ++ (lw_privs_3 ++ (lw_privs_4 ++ (lw_privs_5 ++ (lw_privs_6 ++ (lw_privs_7)))))), lw_okq q
  exact List.forall_mem_append.mpr ⟨lw_r1, List.forall_mem_append.mpr ⟨lw_r2, List.forall_mem_append.mpr ⟨lw_r3, List.forall_mem_append.mpr ⟨lw_r4, List.forall_mem_append.mpr ⟨lw_r5, List.forall_mem_append.mpr ⟨lw_r6, lw_r7⟩⟩⟩⟩⟩⟩
-- names, fields, types
def kR0 : String := "FigureKnee$Books"
def kF0 : u_T := fun k => match k with
  | 0 => ("FigureKnee$Books", "pairs", "I", false)
  | 1 => ("FigureKnee$Books", "nets", "[I", true)
  | 2 => ("FigureKnee$Books", "sums", "[I", true)
  | 3 => ("FigureKnee$Books", "groups", "[I", true)
  | 4 => ("FigureKnee$Books", "debtsHome", "[I", true)
  | 5 => ("FigureKnee$Books", "ringRow", "[I", true)
  | _ => ("FigureKnee$Books", "ringLength", "I", false)
def kt0 : Nat → FieldType := fun k => match k with
  | 0 => .int
  | 1 => .array .int
  | 2 => .array .int
  | 3 => .array .int
  | 4 => .array .int
  | 5 => .array .int
  | _ => .int
theorem kn0 : ∀ a, a < 7 → ∀ b, b < 7 → a ≠ b → (kF0 a).2.1 ≠ (kF0 b).2.1 := by decide +kernel
theorem kto0 : ∀ k, k < 7 → parseFieldDescriptor (kF0 k).2.2.1 = some (kt0 k) := by decide +kernel
def kR1 : String := "FigureKnee$Fitting"
def kF1 : u_T := fun k => match k with
  | 0 => ("FigureKnee$Fitting", "walk", "LFigureKnee$Walk;", true)
  | 1 => ("FigureKnee$Fitting", "asTold", "[I", true)
  | 2 => ("FigureKnee$Fitting", "asOthe\x72", "[I", true)
  | 3 => ("FigureKnee$Fitting", "sets", "[I", true)
  | _ => ("FigureKnee$Fitting", "count", "I", false)
def kt1 : Nat → FieldType := fun k => match k with
  | 0 => .object "FigureKnee$Walk"
  | 1 => .array .int
  | 2 => .array .int
  | 3 => .array .int
  | _ => .int
theorem kn1 : ∀ a, a < 5 → ∀ b, b < 5 → a ≠ b → (kF1 a).2.1 ≠ (kF1 b).2.1 := by decide +kernel
theorem kto1 : ∀ k, k < 5 → parseFieldDescriptor (kF1 k).2.2.1 = some (kt1 k) := by decide +kernel
def kR2 : String := "FigureKnee$Gallery"
def kF2 : u_T := fun k => match k with
  | 0 => ("FigureKnee$Gallery", "looked", "[I", true)
  | 1 => ("FigureKnee$Gallery", "hits", "I", false)
  | _ => ("FigureKnee$Gallery", "outcomes", "I", false)
def kt2 : Nat → FieldType := fun k => match k with
  | 0 => .array .int
  | 1 => .int
  | _ => .int
theorem kn2 : ∀ a, a < 3 → ∀ b, b < 3 → a ≠ b → (kF2 a).2.1 ≠ (kF2 b).2.1 := by decide +kernel
theorem kto2 : ∀ k, k < 3 → parseFieldDescriptor (kF2 k).2.2.1 = some (kt2 k) := by decide +kernel
def kR3 : String := "FigureKnee$History"
def kF3 : u_T := fun k => match k with
  | 0 => ("FigureKnee$History", "rows", "[[I", true)
  | 1 => ("FigureKnee$History", "free", "I", false)
  | _ => ("FigureKnee$History", "count", "I", false)
def kt3 : Nat → FieldType := fun k => match k with
  | 0 => .array (.array .int)
  | 1 => .int
  | _ => .int
theorem kn3 : ∀ a, a < 3 → ∀ b, b < 3 → a ≠ b → (kF3 a).2.1 ≠ (kF3 b).2.1 := by decide +kernel
theorem kto3 : ∀ k, k < 3 → parseFieldDescriptor (kF3 k).2.2.1 = some (kt3 k) := by decide +kernel
def kR4 : String := "FigureKnee$Now"
def kF4 : u_T := fun k => match k with
  | 0 => ("FigureKnee$Now", "seasons", "I", false)
  | 1 => ("FigureKnee$Now", "figures", "[I", true)
  | 2 => ("FigureKnee$Now", "steps", "[I", true)
  | _ => ("FigureKnee$Now", "owed", "[I", true)
def kt4 : Nat → FieldType := fun k => match k with
  | 0 => .int
  | 1 => .array .int
  | 2 => .array .int
  | _ => .array .int
theorem kn4 : ∀ a, a < 4 → ∀ b, b < 4 → a ≠ b → (kF4 a).2.1 ≠ (kF4 b).2.1 := by decide +kernel
theorem kto4 : ∀ k, k < 4 → parseFieldDescriptor (kF4 k).2.2.1 = some (kt4 k) := by decide +kernel
def kR5 : String := "FigureKnee$Pie\x72"
def kF5 : u_T := fun k => match k with
  | 0 => ("FigureKnee$Pie\x72", "words", "I", false)
  | 1 => ("FigureKnee$Pie\x72", "dumb", "I", false)
  | 2 => ("FigureKnee$Pie\x72", "pairs", "I", false)
  | 3 => ("FigureKnee$Pie\x72", "contracts", "I", false)
  | 4 => ("FigureKnee$Pie\x72", "debts", "I", false)
  | 5 => ("FigureKnee$Pie\x72", "unsures", "I", false)
  | 6 => ("FigureKnee$Pie\x72", "heards", "I", false)
  | 7 => ("FigureKnee$Pie\x72", "laws", "[I", true)
  | 8 => ("FigureKnee$Pie\x72", "figures", "[I", true)
  | 9 => ("FigureKnee$Pie\x72", "steps", "[I", true)
  | 10 => ("FigureKnee$Pie\x72", "everies", "[I", true)
  | 11 => ("FigureKnee$Pie\x72", "owed", "[I", true)
  | 12 => ("FigureKnee$Pie\x72", "unsurePairs", "[I", true)
  | 13 => ("FigureKnee$Pie\x72", "unsureSteps", "[I", true)
  | 14 => ("FigureKnee$Pie\x72", "heardPairs", "[I", true)
  | 15 => ("FigureKnee$Pie\x72", "heardSeasons", "[I", true)
  | _ => ("FigureKnee$Pie\x72", "heardFigures", "[I", true)
def kt5 : Nat → FieldType := fun k => match k with
  | 0 => .int
  | 1 => .int
  | 2 => .int
  | 3 => .int
  | 4 => .int
  | 5 => .int
  | 6 => .int
  | 7 => .array .int
  | 8 => .array .int
  | 9 => .array .int
  | 10 => .array .int
  | 11 => .array .int
  | 12 => .array .int
  | 13 => .array .int
  | 14 => .array .int
  | 15 => .array .int
  | _ => .array .int
theorem kn5 : ∀ a, a < 17 → ∀ b, b < 17 → a ≠ b → (kF5 a).2.1 ≠ (kF5 b).2.1 := by decide +kernel
theorem kto5 : ∀ k, k < 17 → parseFieldDescriptor (kF5 k).2.2.1 = some (kt5 k) := by decide +kernel
def kR6 : String := "FigureKnee$Ratio"
def kF6 : u_T := fun k => match k with
  | 0 => ("FigureKnee$Ratio", "uppe\x72", "J", false)
  | _ => ("FigureKnee$Ratio", "lowe\x72", "J", false)
def kt6 : Nat → FieldType := fun k => match k with
  | 0 => .long
  | _ => .long
theorem kn6 : ∀ a, a < 2 → ∀ b, b < 2 → a ≠ b → (kF6 a).2.1 ≠ (kF6 b).2.1 := by decide +kernel
theorem kto6 : ∀ k, k < 2 → parseFieldDescriptor (kF6 k).2.2.1 = some (kt6 k) := by decide +kernel
def kR7 : String := "FigureKnee$Reade\x72"
def kF7 : u_T := fun k => match k with
  | 0 => ("FigureKnee$Reade\x72", "text", "[B", true)
  | 1 => ("FigureKnee$Reade\x72", "end", "I", false)
  | 2 => ("FigureKnee$Reade\x72", "place", "I", false)
  | 3 => ("FigureKnee$Reade\x72", "kind", "I", false)
  | 4 => ("FigureKnee$Reade\x72", "start", "I", false)
  | 5 => ("FigureKnee$Reade\x72", "whole", "I", false)
  | 6 => ("FigureKnee$Reade\x72", "pie\x72", "LFigureKnee$Pier;", false)
  | 7 => ("FigureKnee$Reade\x72", "nameStarts", "[I", true)
  | 8 => ("FigureKnee$Reade\x72", "nameLengths", "[I", true)
  | 9 => ("FigureKnee$Reade\x72", "faultNumbe\x72", "I", false)
  | _ => ("FigureKnee$Reade\x72", "faultPlace", "I", false)
def kt7 : Nat → FieldType := fun k => match k with
  | 0 => .array .byte
  | 1 => .int
  | 2 => .int
  | 3 => .int
  | 4 => .int
  | 5 => .int
  | 6 => .object "FigureKnee$Pie\x72"
  | 7 => .array .int
  | 8 => .array .int
  | 9 => .int
  | _ => .int
theorem kn7 : ∀ a, a < 11 → ∀ b, b < 11 → a ≠ b → (kF7 a).2.1 ≠ (kF7 b).2.1 := by decide +kernel
theorem kto7 : ∀ k, k < 11 → parseFieldDescriptor (kF7 k).2.2.1 = some (kt7 k) := by decide +kernel
def kR8 : String := "FigureKnee$Rounds"
def kF8 : u_T := fun k => match k with
  | 0 => ("FigureKnee$Rounds", "seen", "[I", true)
  | 1 => ("FigureKnee$Rounds", "values", "[I", true)
  | 2 => ("FigureKnee$Rounds", "first", "I", false)
  | _ => ("FigureKnee$Rounds", "length", "I", false)
def kt8 : Nat → FieldType := fun k => match k with
  | 0 => .array .int
  | 1 => .array .int
  | 2 => .int
  | _ => .int
theorem kn8 : ∀ a, a < 4 → ∀ b, b < 4 → a ≠ b → (kF8 a).2.1 ≠ (kF8 b).2.1 := by decide +kernel
theorem kto8 : ∀ k, k < 4 → parseFieldDescriptor (kF8 k).2.2.1 = some (kt8 k) := by decide +kernel
def kR9 : String := "FigureKnee$Walk"
def kF9 : u_T := fun k => match k with
  | 0 => ("FigureKnee$Walk", "words", "I", false)
  | 1 => ("FigureKnee$Walk", "law", "I", false)
  | 2 => ("FigureKnee$Walk", "step", "I", false)
  | 3 => ("FigureKnee$Walk", "every", "I", false)
  | 4 => ("FigureKnee$Walk", "figure", "I", false)
  | _ => ("FigureKnee$Walk", "seasons", "I", false)
def kt9 : Nat → FieldType := fun k => match k with
  | 0 => .int
  | 1 => .int
  | 2 => .int
  | 3 => .int
  | 4 => .int
  | _ => .int
theorem kn9 : ∀ a, a < 6 → ∀ b, b < 6 → a ≠ b → (kF9 a).2.1 ≠ (kF9 b).2.1 := by decide +kernel
theorem kto9 : ∀ k, k < 6 → parseFieldDescriptor (kF9 k).2.2.1 = some (kt9 k) := by decide +kernel
def kR10 : String := "FigureKnee"
def kF10 : u_T := fun k => match k with
  | 0 => ("FigureKnee", "tape", "[B", true)
  | 1 => ("FigureKnee", "tapeLength", "I", false)
  | 2 => ("FigureKnee", "told", "LFigureKnee$Pier;", false)
  | 3 => ("FigureKnee", "draft", "LFigureKnee$Pier;", false)
  | 4 => ("FigureKnee", "reade\x72", "LFigureKnee$Reader;", true)
  | 5 => ("FigureKnee", "standing", "Z", false)
  | 6 => ("FigureKnee", "now", "LFigureKnee$Now;", true)
  | 7 => ("FigureKnee", "history", "LFigureKnee$History;", true)
  | 8 => ("FigureKnee", "images", "[[I", true)
  | 9 => ("FigureKnee", "imageCount", "I", false)
  | 10 => ("FigureKnee", "walk", "LFigureKnee$Walk;", true)
  | 11 => ("FigureKnee", "otherWalk", "LFigureKnee$Walk;", true)
  | 12 => ("FigureKnee", "sayings", "[I", true)
  | 13 => ("FigureKnee", "rounds", "LFigureKnee$Rounds;", true)
  | 14 => ("FigureKnee", "fitting", "LFigureKnee$Fitting;", true)
  | 15 => ("FigureKnee", "books", "LFigureKnee$Books;", true)
  | 16 => ("FigureKnee", "gallery", "LFigureKnee$Gallery;", true)
  | 17 => ("FigureKnee", "ratio", "LFigureKnee$Ratio;", true)
  | _ => ("FigureKnee", "troubleNumbe\x72", "I", false)
def kt10 : Nat → FieldType := fun k => match k with
  | 0 => .array .byte
  | 1 => .int
  | 2 => .object "FigureKnee$Pie\x72"
  | 3 => .object "FigureKnee$Pie\x72"
  | 4 => .object "FigureKnee$Reade\x72"
  | 5 => .boolean
  | 6 => .object "FigureKnee$Now"
  | 7 => .object "FigureKnee$History"
  | 8 => .array (.array .int)
  | 9 => .int
  | 10 => .object "FigureKnee$Walk"
  | 11 => .object "FigureKnee$Walk"
  | 12 => .array .int
  | 13 => .object "FigureKnee$Rounds"
  | 14 => .object "FigureKnee$Fitting"
  | 15 => .object "FigureKnee$Books"
  | 16 => .object "FigureKnee$Gallery"
  | 17 => .object "FigureKnee$Ratio"
  | _ => .int
theorem kn10 : ∀ a, a < 19 → ∀ b, b < 19 → a ≠ b → (kF10 a).2.1 ≠ (kF10 b).2.1 := by decide +kernel
theorem kto10 : ∀ k, k < 19 → parseFieldDescriptor (kF10 k).2.2.1 = some (kt10 k) := by decide +kernel
def kR11 : String := "FigureKneeModel"
def kF11 : u_T := fun k => match k with
  | 0 => ("FigureKneeModel", "thrown", "I", false)
  | 1 => ("FigureKneeModel", "tape", "[I", true)
  | 2 => ("FigureKneeModel", "taped", "I", false)
  | 3 => ("FigureKneeModel", "size", "I", false)
  | 4 => ("FigureKneeModel", "at", "I", false)
  | 5 => ("FigureKneeModel", "end", "I", false)
  | 6 => ("FigureKneeModel", "token", "I", false)
  | 7 => ("FigureKneeModel", "whole", "I", false)
  | 8 => ("FigureKneeModel", "nameSize", "I", false)
  | 9 => ("FigureKneeModel", "fault", "I", false)
  | 10 => ("FigureKneeModel", "place", "I", false)
  | 11 => ("FigureKneeModel", "trouble", "I", false)
  | 12 => ("FigureKneeModel", "letters", "[I", true)
  | 13 => ("FigureKneeModel", "failed", "Z", false)
  | 14 => ("FigureKneeModel", "hasPie\x72", "Z", false)
  | 15 => ("FigureKneeModel", "\x72", "[I", true)
  | 16 => ("FigureKneeModel", "fresh", "[I", true)
  | 17 => ("FigureKneeModel", "told", "[I", true)
  | 18 => ("FigureKneeModel", "read", "[I", true)
  | 19 => ("FigureKneeModel", "st", "[I", true)
  | 20 => ("FigureKneeModel", "undone", "[I", true)
  | 21 => ("FigureKneeModel", "kept", "[I", true)
  | 22 => ("FigureKneeModel", "undos", "I", false)
  | 23 => ("FigureKneeModel", "images", "I", false)
  | 24 => ("FigureKneeModel", "said", "[I", true)
  | 25 => ("FigureKneeModel", "metAt", "[I", true)
  | 26 => ("FigureKneeModel", "stateFrom", "I", false)
  | 27 => ("FigureKneeModel", "stateRound", "I", false)
  | 28 => ("FigureKneeModel", "from", "I", false)
  | 29 => ("FigureKneeModel", "roundLong", "I", false)
  | 30 => ("FigureKneeModel", "often", "[I", true)
  | 31 => ("FigureKneeModel", "setMany", "I", false)
  | 32 => ("FigureKneeModel", "someOf", "I", false)
  | 33 => ("FigureKneeModel", "allOf", "I", false)
  | 34 => ("FigureKneeModel", "way", "[I", true)
  | 35 => ("FigureKneeModel", "ring", "[I", true)
  | 36 => ("FigureKneeModel", "ringMany", "I", false)
  | 37 => ("FigureKneeModel", "firstRest", "I", false)
  | 38 => ("FigureKneeModel", "looked", "[I", true)
  | 39 => ("FigureKneeModel", "allWeight", "J", false)
  | 40 => ("FigureKneeModel", "moreWeight", "J", false)
  | _ => ("FigureKneeModel", "saidSum", "J", false)
def kt11 : Nat → FieldType := fun k => match k with
  | 0 => .int
  | 1 => .array .int
  | 2 => .int
  | 3 => .int
  | 4 => .int
  | 5 => .int
  | 6 => .int
  | 7 => .int
  | 8 => .int
  | 9 => .int
  | 10 => .int
  | 11 => .int
  | 12 => .array .int
  | 13 => .boolean
  | 14 => .boolean
  | 15 => .array .int
  | 16 => .array .int
  | 17 => .array .int
  | 18 => .array .int
  | 19 => .array .int
  | 20 => .array .int
  | 21 => .array .int
  | 22 => .int
  | 23 => .int
  | 24 => .array .int
  | 25 => .array .int
  | 26 => .int
  | 27 => .int
  | 28 => .int
  | 29 => .int
  | 30 => .array .int
  | 31 => .int
  | 32 => .int
  | 33 => .int
  | 34 => .array .int
  | 35 => .array .int
  | 36 => .int
  | 37 => .int
  | 38 => .array .int
  | 39 => .long
  | 40 => .long
  | _ => .long
theorem kn11 : ∀ a, a < 42 → ∀ b, b < 42 → a ≠ b → (kF11 a).2.1 ≠ (kF11 b).2.1 := by decide +kernel
theorem kto11 : ∀ k, k < 42 → parseFieldDescriptor (kF11 k).2.2.1 = some (kt11 k) := by decide +kernel
abbrev kCl : List vw_C := [(kR0, kF0, 7), (kR1, kF1, 5), (kR2, kF2, 3), (kR3, kF3, 3), (kR4, kF4, 4), (kR5, kF5, 17), (kR6, kF6, 2), (kR7, kF7, 11), (kR8, kF8, 4), (kR9, kF9, 6), (kR10, kF10, 19), (kR11, kF11, 42)]
def kTyp : Nat → Nat → FieldType := fun c => match c with
  | 0 => kt0
  | 1 => kt1
  | 2 => kt2
  | 3 => kt3
  | 4 => kt4
  | 5 => kt5
  | 6 => kt6
  | 7 => kt7
  | 8 => kt8
  | 9 => kt9
  | 10 => kt10
  | _ => kt11
-- the cells: (0, its kind, its fields) or (1, what it holds: 0 ints, 1 bytes, 2 longs, 3 rows of ints, how many)
def kN : Nat := 90
def kSH : List (Nat × Nat × Nat) := [(0, 10, 19), (0, 5, 17), (0, 5, 17), (0, 7, 11), (0, 4, 4), (0, 3, 3), (0, 9, 6), (0, 9, 6), (0, 8, 4), (0, 1, 5), (0, 0, 7), (0, 2, 3), (0, 6, 2), (0, 9, 6), (0, 11, 42), (1, 1, 900), (1, 0, 5), (1, 3, 3), (1, 0, 5), (1, 0, 5), (1, 0, 5), (1, 0, 5), (1, 0, 25), (1, 0, 4), (1, 0, 4), (1, 0, 8), (1, 0, 8), (1, 0, 8), (1, 0, 5), (1, 0, 5), (1, 0, 5), (1, 0, 5), (1, 0, 25), (1, 0, 4), (1, 0, 4), (1, 0, 8), (1, 0, 8), (1, 0, 8), (1, 0, 5), (1, 0, 5), (1, 0, 5), (1, 0, 5), (1, 0, 25), (1, 3, 16), (1, 0, 900), (1, 0, 900), (1, 0, 4), (1, 0, 4), (1, 0, 16), (1, 0, 5), (1, 0, 32), (1, 0, 32), (1, 0, 5), (1, 0, 5), (1, 0, 5), (1, 0, 900), (1, 0, 8), (1, 0, 95), (1, 0, 95), (1, 0, 36), (1, 0, 36), (1, 0, 36), (1, 0, 576), (1, 0, 108), (1, 0, 2600), (1, 0, 900), (1, 0, 4), (1, 0, 5), (1, 0, 5), (1, 0, 5), (1, 0, 36), (1, 0, 36), (1, 0, 36), (1, 0, 36), (1, 0, 36), (1, 0, 36), (1, 0, 36), (1, 0, 36), (1, 0, 36), (1, 0, 36), (1, 0, 36), (1, 0, 36), (1, 0, 36), (1, 0, 36), (1, 0, 36), (1, 0, 36), (1, 0, 36), (1, 0, 36), (1, 0, 36), (1, 2, 1)]
def kRT : List (List (Option Nat)) := [[some 15, none, some 1, some 2, some 3, none, some 4, some 5, some 17, none, some 6, some 7, some 16, some 8, some 9, some 10, some 11, some 12, none], [none, none, none, none, none, none, none, some 18, some 19, some 20, some 21, some 22, some 23, some 24, some 25, some 26, some 27], [none, none, none, none, none, none, none, some 28, some 29, some 30, some 31, some 32, some 33, some 34, some 35, some 36, some 37], [some 15, none, none, none, none, none, none, some 38, some 39, none, none], [none, some 40, some 41, some 42], [some 43, none, none], [none, none, none, none, none, none], [none, none, none, none, none, none], [some 44, some 45, none, none], [some 13, some 46, some 47, some 48, none], [none, some 49, some 50, some 51, some 52, some 53, none], [some 54, none, none], [none, none], [none, none, none, none, none, none], [none, some 55, none, none, none, none, none, none, none, none, none, none, some 56, none, none, some 57, some 58, some 59, some 60, some 61, some 62, some 63, none, none, some 64, some 65, none, none, none, none, some 66, none, none, none, some 67, some 68, none, none, some 69, none, none, none]]
def kRf (z k j : Nat) : Option Nat := if k = 17 then (if j < 3 then some (70 + j) else none) else if k = 43 then (if j < 16 then some (73 + j) else none) else if k = 3 ∧ j = 6 then some z else ((kRT.getD k []).getD j none)
-- texts
def kTx : List String := ["pie\x72", "pai\x72", "contract", "debt", "unsure", "heard", "words", "dumb", "creeping", "leaping", "fading", "swinging", "figure", "step", "every", "season"]
def kLen : List Nat := [4, 4, 8, 4, 6, 5, 5, 4, 8, 7, 6, 8, 6, 4, 5, 6]
def kByt : List (List Int32) := [[112, 105, 101, 114], [112, 97, 105, 114], [99, 111, 110, 116, 114, 97, 99, 116], [100, 101, 98, 116], [117, 110, 115, 117, 114, 101], [104, 101, 97, 114, 100], [119, 111, 114, 100, 115], [100, 117, 109, 98], [99, 114, 101, 101, 112, 105, 110, 103], [108, 101, 97, 112, 105, 110, 103], [102, 97, 100, 105, 110, 103], [115, 119, 105, 110, 103, 105, 110, 103], [102, 105, 103, 117, 114, 101], [115, 116, 101, 112], [101, 118, 101, 114, 121], [115, 101, 97, 115, 111, 110]]
def kSi : List (String × Nat × Nat) := [("FigureKnee$Reade\x72", 98, 0), ("FigureKnee$Reade\x72", 103, 1), ("FigureKnee$Reade\x72", 105, 2), ("FigureKnee$Reade\x72", 107, 3), ("FigureKnee$Reade\x72", 109, 4), ("FigureKnee$Reade\x72", 111, 5), ("FigureKnee$Reade\x72", 133, 6), ("FigureKnee$Reade\x72", 143, 7), ("FigureKnee$Reade\x72", 113, 8), ("FigureKnee$Reade\x72", 117, 9), ("FigureKnee$Reade\x72", 119, 10), ("FigureKnee$Reade\x72", 121, 11), ("FigureKnee$Reade\x72", 168, 12), ("FigureKnee$Reade\x72", 173, 13), ("FigureKnee$Reade\x72", 184, 14), ("FigureKnee$Reade\x72", 210, 15), ("FigureKneeModel", 128, 0), ("FigureKneeModel", 208, 6), ("FigureKneeModel", 214, 7), ("FigureKneeModel", 130, 1), ("FigureKneeModel", 132, 2), ("FigureKneeModel", 134, 3), ("FigureKneeModel", 136, 4), ("FigureKneeModel", 138, 5), ("FigureKneeModel", 220, 8), ("FigureKneeModel", 222, 9), ("FigureKneeModel", 224, 10), ("FigureKneeModel", 226, 11), ("FigureKneeModel", 228, 12), ("FigureKneeModel", 230, 13), ("FigureKneeModel", 235, 14), ("FigureKneeModel", 237, 15)]
-- methods: name, bytes, locals, answer
abbrev kM : Type := MethodName × ByteArray × Nat × Option FieldType
def m0_reckon : kM := (⟨kR0, "reckon", "(LFigureKnee$Now;I)V"⟩, prog_2_method_2_code, 5, none)
def m0_owedInAll : kM := (⟨kR0, "owedInAll", "()I"⟩, prog_2_method_3_code, 3, some .int)
def m0_fewestPayments : kM := (⟨kR0, "fewestPayments", "()I"⟩, prog_2_method_4_code, 6, some .int)
def m0_findRing : kM := (⟨kR0, "findRing", "(LFigureKnee$Now;II)V"⟩, prog_2_method_5_code, 6, none)
def m0_countDebtsHome : kM := (⟨kR0, "countDebtsHome", "(LFigureKnee$Now;I)V"⟩, prog_2_method_6_code, 5, none)
def m0_fewestDebtsBehind : kM := (⟨kR0, "fewestDebtsBehind", "(LFigureKnee$Now;I)I"⟩, prog_2_method_7_code, 5, some .int)
def m0_firstNext : kM := (⟨kR0, "firstNext", "(LFigureKnee$Now;II)I"⟩, prog_2_method_8_code, 5, some .int)
def m1_find : kM := (⟨kR1, "find", "(LFigureKnee$Pier;)V"⟩, prog_3_method_2_code, 4, none)
def m1_fitsHeard : kM := (⟨kR1, "fitsHeard", "(LFigureKnee$Pier;II)Z"⟩, prog_3_method_3_code, 5, some .boolean)
def m1_isFit : kM := (⟨kR1, "isFit", "(II)Z"⟩, prog_3_method_4_code, 5, some .boolean)
def m1_inSome : kM := (⟨kR1, "inSome", "()I"⟩, prog_3_method_5_code, 3, some .int)
def m1_inAll : kM := (⟨kR1, "inAll", "()I"⟩, prog_3_method_6_code, 3, some .int)
def m1_leftAtMost : kM := (⟨kR1, "leftAtMost", "(I)I"⟩, prog_3_method_7_code, 4, some .int)
def m1_bestQuestion : kM := (⟨kR1, "bestQuestion", "(I)I"⟩, prog_3_method_8_code, 6, some .int)
def m2_reckon : kM := (⟨kR2, "reckon", "(III)V"⟩, prog_4_method_2_code, 5, none)
def m2_lookBy : kM := (⟨kR2, "lookBy", "(III)V"⟩, prog_4_method_3_code, 6, none)
def m2_look : kM := (⟨kR2, "look", "(III)V"⟩, prog_4_method_4_code, 6, none)
def m3_forget : kM := (⟨kR3, "forget", "()V"⟩, prog_5_method_2_code, 1, none)
def m3_keep : kM := (⟨kR3, "keep", "(LFigureKnee$Now;)V"⟩, prog_5_method_3_code, 2, none)
def m3_takeBack : kM := (⟨kR3, "takeBack", "(LFigureKnee$Now;)V"⟩, prog_5_method_4_code, 2, none)
def m4_begin : kM := (⟨kR4, "begin", "(LFigureKnee$Pier;)V"⟩, prog_6_method_2_code, 2, none)
def m4_save : kM := (⟨kR4, "save", "([I)V"⟩, prog_6_method_3_code, 2, none)
def m4_load : kM := (⟨kR4, "load", "([I)V"⟩, prog_6_method_4_code, 2, none)
def m5_clear : kM := (⟨kR5, "clea\x72", "()V"⟩, prog_7_method_2_code, 1, none)
def m5_count : kM := (⟨kR5, "count", "(I)I"⟩, prog_7_method_3_code, 2, some .int)
def m5_isUnsure : kM := (⟨kR5, "isUnsure", "(I)Z"⟩, prog_7_method_4_code, 3, some .boolean)
def m5_isHeard : kM := (⟨kR5, "isHeard", "(II)Z"⟩, prog_7_method_5_code, 4, some .boolean)
def m6_reduce : kM := (⟨kR6, "reduce", "(JJ)V"⟩, prog_8_method_2_code, 12, none)
def m6_part : kM := (⟨kR6, "part", "(Z)J"⟩, prog_8_method_3_code, 2, some .long)
def m7_read : kM := (⟨kR7, "read", "(ILFigureKnee$Pier;)Z"⟩, prog_9_method_2_code, 4, some .boolean)
def m7_found : kM := (⟨kR7, "found", "(I)Z"⟩, prog_9_method_3_code, 2, some .boolean)
def m7_next : kM := (⟨kR7, "next", "()V"⟩, prog_9_method_4_code, 1, none)
def m7_isLetter : kM := (⟨kR7, "isLette\x72", "(I)Z"⟩, prog_9_method_5_code, 1, some .boolean)
def m7_isDigit : kM := (⟨kR7, "isDigit", "(I)Z"⟩, prog_9_method_6_code, 1, some .boolean)
def m7_takeLetters : kM := (⟨kR7, "takeLetters", "()V"⟩, prog_9_method_7_code, 1, none)
def m7_takeDigits : kM := (⟨kR7, "takeDigits", "()V"⟩, prog_9_method_8_code, 1, none)
def m7_isWord : kM := (⟨kR7, "isWord", "(Ljava/lang/String;)Z"⟩, prog_9_method_9_code, 3, some .boolean)
def m7_isHeadOfLine : kM := (⟨kR7, "isHeadOfLine", "()Z"⟩, prog_9_method_10_code, 1, some .boolean)
def m7_lawOfWord : kM := (⟨kR7, "lawOfWord", "()I"⟩, prog_9_method_11_code, 1, some .int)
def m7_pairOfName : kM := (⟨kR7, "pairOfName", "()I"⟩, prog_9_method_12_code, 2, some .int)
def m7_isSame : kM := (⟨kR7, "isSame", "(II)Z"⟩, prog_9_method_13_code, 4, some .boolean)
def m7_takeWord : kM := (⟨kR7, "takeWord", "(Ljava/lang/String;)Z"⟩, prog_9_method_14_code, 2, some .boolean)
def m7_seesWhole : kM := (⟨kR7, "seesWhole", "(II)Z"⟩, prog_9_method_15_code, 3, some .boolean)
def m7_seenPair : kM := (⟨kR7, "seenPai\x72", "()I"⟩, prog_9_method_16_code, 2, some .int)
def m7_readHead : kM := (⟨kR7, "readHead", "()Z"⟩, prog_9_method_17_code, 1, some .boolean)
def m7_readLine : kM := (⟨kR7, "readLine", "()Z"⟩, prog_9_method_18_code, 1, some .boolean)
def m7_readPair : kM := (⟨kR7, "readPai\x72", "()Z"⟩, prog_9_method_19_code, 2, some .boolean)
def m7_readContract : kM := (⟨kR7, "readContract", "()Z"⟩, prog_9_method_20_code, 2, some .boolean)
def m7_readDebt : kM := (⟨kR7, "readDebt", "()Z"⟩, prog_9_method_21_code, 3, some .boolean)
def m7_readUnsure : kM := (⟨kR7, "readUnsure", "()Z"⟩, prog_9_method_22_code, 3, some .boolean)
def m7_readHeard : kM := (⟨kR7, "readHeard", "()Z"⟩, prog_9_method_23_code, 3, some .boolean)
def m8_follow : kM := (⟨kR8, "follow", "(LFigureKnee$Walk;)V"⟩, prog_10_method_2_code, 4, none)
def m8_stateOf : kM := (⟨kR8, "stateOf", "(LFigureKnee$Walk;)I"⟩, prog_10_method_3_code, 3, some .int)
def m8_shortenRound : kM := (⟨kR8, "shortenRound", "()V"⟩, prog_10_method_4_code, 2, none)
def m8_comesAgainBehind : kM := (⟨kR8, "comesAgainBehind", "(I)Z"⟩, prog_10_method_5_code, 3, some .boolean)
def m8_saying : kM := (⟨kR8, "saying", "(I)I"⟩, prog_10_method_6_code, 2, some .int)
def m8_most : kM := (⟨kR8, "most", "()I"⟩, prog_10_method_7_code, 3, some .int)
def m8_least : kM := (⟨kR8, "least", "()I"⟩, prog_10_method_8_code, 3, some .int)
def m9_begin : kM := (⟨kR9, "begin", "(LFigureKnee$Pier;LFigureKnee$Now;I)V"⟩, prog_11_method_2_code, 4, none)
def m9_beginAsTold : kM := (⟨kR9, "beginAsTold", "(LFigureKnee$Pier;I)V"⟩, prog_11_method_3_code, 3, none)
def m9_go : kM := (⟨kR9, "go", "()V"⟩, prog_11_method_4_code, 1, none)
def m9_byLaw : kM := (⟨kR9, "byLaw", "()I"⟩, prog_11_method_5_code, 1, some .int)
def m9_goDumb : kM := (⟨kR9, "goDumb", "()V"⟩, prog_11_method_6_code, 1, none)
def m9_goOn : kM := (⟨kR9, "goOn", "(I)V"⟩, prog_11_method_7_code, 3, none)
def m9_isMore : kM := (⟨kR9, "isMore", "()Z"⟩, prog_11_method_8_code, 1, some .boolean)
def m9_countMore : kM := (⟨kR9, "countMore", "(I)I"⟩, prog_11_method_9_code, 4, some .int)
def m10_may : kM := (⟨kR10, "may", "(ZZ)Z"⟩, prog_1_method_2_code, 3, some .boolean)
def m10_may_ : kM := (⟨kR10, "may", "(Z)Z"⟩, prog_1_method_3_code, 2, some .boolean)
def m10_refuse : kM := (⟨kR10, "refuse", "(I)I"⟩, prog_1_method_4_code, 2, some .int)
def m10_deny : kM := (⟨kR10, "deny", "(I)Z"⟩, prog_1_method_5_code, 2, some .boolean)
def m10_isPair : kM := (⟨kR10, "isPai\x72", "(I)Z"⟩, prog_1_method_6_code, 2, some .boolean)
def m10_areUnlike : kM := (⟨kR10, "areUnlike", "(II)Z"⟩, prog_1_method_7_code, 3, some .boolean)
def m10_upTo : kM := (⟨kR10, "upTo", "(II)Z"⟩, prog_1_method_8_code, 2, some .boolean)
def m10_feed : kM := (⟨kR10, "feed", "(IIIII)I"⟩, prog_1_method_9_code, 6, some .int)
def m10_putBytes : kM := (⟨kR10, "putBytes", "(I)V"⟩, prog_1_method_10_code, 3, none)
def m10_pier : kM := (⟨kR10, "pie\x72", "(I)I"⟩, prog_1_method_11_code, 3, some .int)
def m10_fault : kM := (⟨kR10, "fault", "()I"⟩, prog_1_method_12_code, 1, some .int)
def m10_where : kM := (⟨kR10, "where", "()I"⟩, prog_1_method_13_code, 1, some .int)
def m10_pair : kM := (⟨kR10, "pai\x72", "(II)I"⟩, prog_1_method_14_code, 4, some .int)
def m10_isMore : kM := (⟨kR10, "isMore", "(I)Z"⟩, prog_1_method_15_code, 2, some .boolean)
def m10_sayingBehind : kM := (⟨kR10, "sayingBehind", "(II)I"⟩, prog_1_method_16_code, 3, some .int)
def m10_sayAllBehind : kM := (⟨kR10, "sayAllBehind", "(I)V"⟩, prog_1_method_17_code, 3, none)
def m10_says : kM := (⟨kR10, "says", "(II)I"⟩, prog_1_method_18_code, 3, some .int)
def m10_saysAll : kM := (⟨kR10, "saysAll", "(II)I"⟩, prog_1_method_19_code, 5, some .int)
def m10_moreIn : kM := (⟨kR10, "moreIn", "(I)I"⟩, prog_1_method_20_code, 3, some .int)
def m10_moreTimes : kM := (⟨kR10, "moreTimes", "(II)I"⟩, prog_1_method_21_code, 3, some .int)
def m10_goRound : kM := (⟨kR10, "goRound", "(I)V"⟩, prog_1_method_22_code, 2, none)
def m10_settles : kM := (⟨kR10, "settles", "(I)I"⟩, prog_1_method_23_code, 2, some .int)
def m10_round : kM := (⟨kR10, "round", "(I)I"⟩, prog_1_method_24_code, 2, some .int)
def m10_saysLate : kM := (⟨kR10, "saysLate", "(II)I"⟩, prog_1_method_25_code, 3, some .int)
def m10_roundMost : kM := (⟨kR10, "roundMost", "(I)I"⟩, prog_1_method_26_code, 2, some .int)
def m10_roundLeast : kM := (⟨kR10, "roundLeast", "(I)I"⟩, prog_1_method_27_code, 2, some .int)
def m10_turnsAbout : kM := (⟨kR10, "turnsAbout", "(I)I"⟩, prog_1_method_28_code, 6, some .int)
def m10_alikeIn : kM := (⟨kR10, "alikeIn", "(II)I"⟩, prog_1_method_29_code, 4, some .int)
def m10_loudest : kM := (⟨kR10, "loudest", "(I)I"⟩, prog_1_method_30_code, 2, some .int)
def m10_firstMost : kM := (⟨kR10, "firstMost", "([II)I"⟩, prog_1_method_31_code, 4, some .int)
def m10_overtakes : kM := (⟨kR10, "overtakes", "(II)I"⟩, prog_1_method_32_code, 4, some .int)
def m10_widest : kM := (⟨kR10, "widest", "(I)I"⟩, prog_1_method_33_code, 7, some .int)
def m10_sumAll : kM := (⟨kR10, "sumAll", "(I)I"⟩, prog_1_method_34_code, 4, some .int)
def m10_masters : kM := (⟨kR10, "masters", "(I)I"⟩, prog_1_method_35_code, 2, some .int)
def m10_bitsOfMore : kM := (⟨kR10, "bitsOfMore", "([I)I"⟩, prog_1_method_36_code, 4, some .int)
def m10_sayingByEvery : kM := (⟨kR10, "sayingByEvery", "(III)I"⟩, prog_1_method_37_code, 4, some .int)
def m10_bestEvery : kM := (⟨kR10, "bestEvery", "(II)I"⟩, prog_1_method_38_code, 7, some .int)
def m10_everyFor : kM := (⟨kR10, "everyFo\x72", "(II)I"⟩, prog_1_method_39_code, 3, some .int)
def m10_everySays : kM := (⟨kR10, "everySays", "(II)I"⟩, prog_1_method_40_code, 3, some .int)
def m10_everyNever : kM := (⟨kR10, "everyNeve\x72", "(I)I"⟩, prog_1_method_41_code, 3, some .int)
def m10_stepFor : kM := (⟨kR10, "stepFo\x72", "(II)I"⟩, prog_1_method_42_code, 4, some .int)
def m10_mayFit : kM := (⟨kR10, "mayFit", "()Z"⟩, prog_1_method_43_code, 1, some .boolean)
def m10_fits : kM := (⟨kR10, "fits", "()I"⟩, prog_1_method_44_code, 1, some .int)
def m10_fitAt : kM := (⟨kR10, "fitAt", "(I)I"⟩, prog_1_method_45_code, 2, some .int)
def m10_could : kM := (⟨kR10, "could", "()I"⟩, prog_1_method_46_code, 1, some .int)
def m10_surely : kM := (⟨kR10, "surely", "()I"⟩, prog_1_method_47_code, 1, some .int)
def m10_ask : kM := (⟨kR10, "ask", "()I"⟩, prog_1_method_48_code, 1, some .int)
def m10_askLeaves : kM := (⟨kR10, "askLeaves", "()I"⟩, prog_1_method_49_code, 2, some .int)
def m10_judge : kM := (⟨kR10, "judge", "()I"⟩, prog_1_method_50_code, 2, some .int)
def m10_apartByTold : kM := (⟨kR10, "apartByTold", "(I)I"⟩, prog_1_method_51_code, 2, some .int)
def m10_third : kM := (⟨kR10, "third", "(I)I"⟩, prog_1_method_52_code, 4, some .int)
def m10_owes : kM := (⟨kR10, "owes", "(II)I"⟩, prog_1_method_53_code, 3, some .int)
def m10_net : kM := (⟨kR10, "net", "(I)I"⟩, prog_1_method_54_code, 2, some .int)
def m10_due : kM := (⟨kR10, "due", "()I"⟩, prog_1_method_55_code, 1, some .int)
def m10_creditor : kM := (⟨kR10, "credito\x72", "()I"⟩, prog_1_method_56_code, 1, some .int)
def m10_payments : kM := (⟨kR10, "payments", "()I"⟩, prog_1_method_57_code, 1, some .int)
def m10_ring : kM := (⟨kR10, "ring", "(I)I"⟩, prog_1_method_58_code, 2, some .int)
def m10_ringAt : kM := (⟨kR10, "ringAt", "(II)I"⟩, prog_1_method_59_code, 3, some .int)
def m10_share : kM := (⟨kR10, "share", "(IZZ)I"⟩, prog_1_method_60_code, 3, some .int)
def m10_isRest : kM := (⟨kR10, "isRest", "(IZZ)Z"⟩, prog_1_method_61_code, 3, some .boolean)
def m10_isRestAt : kM := (⟨kR10, "isRestAt", "(II)Z"⟩, prog_1_method_62_code, 2, some .boolean)
def m10_talks : kM := (⟨kR10, "talks", "(IZZZ)I"⟩, prog_1_method_63_code, 5, some .int)
def m10_rests : kM := (⟨kR10, "rests", "(I)I"⟩, prog_1_method_64_code, 4, some .int)
def m10_rest : kM := (⟨kR10, "rest", "(I)I"⟩, prog_1_method_65_code, 3, some .int)
def m10_verdictOdds : kM := (⟨kR10, "verdictOdds", "(IIZ)J"⟩, prog_1_method_66_code, 4, some .long)
def m10_looks : kM := (⟨kR10, "looks", "(III)I"⟩, prog_1_method_67_code, 4, some .int)
def m10_verdict : kM := (⟨kR10, "verdict", "(II)I"⟩, prog_1_method_68_code, 3, some .int)
def m10_drawFrom : kM := (⟨kR10, "drawFrom", "(I)I"⟩, prog_1_method_69_code, 1, some .int)
def m10_odds : kM := (⟨kR10, "odds", "(IIIZ)J"⟩, prog_1_method_70_code, 10, some .long)
def m10_mean : kM := (⟨kR10, "mean", "(IIZ)J"⟩, prog_1_method_71_code, 9, some .long)
def m10_goWithDumb : kM := (⟨kR10, "goWithDumb", "(III)J"⟩, prog_1_method_72_code, 7, some .long)
def m10_allChances : kM := (⟨kR10, "allChances", "(I)J"⟩, prog_1_method_73_code, 4, some .long)
def m10_drawn : kM := (⟨kR10, "drawn", "(III)I"⟩, prog_1_method_74_code, 6, some .int)
def m10_season : kM := (⟨kR10, "season", "()I"⟩, prog_1_method_75_code, 1, some .int)
def m10_change : kM := (⟨kR10, "change", "(I)I"⟩, prog_1_method_76_code, 3, some .int)
def m10_step : kM := (⟨kR10, "step", "(II)Z"⟩, prog_1_method_77_code, 3, some .boolean)
def m10_pay : kM := (⟨kR10, "pay", "(III)I"⟩, prog_1_method_78_code, 5, some .int)
def m10_undo : kM := (⟨kR10, "undo", "()Z"⟩, prog_1_method_79_code, 1, some .boolean)
def m10_image : kM := (⟨kR10, "image", "()I"⟩, prog_1_method_80_code, 1, some .int)
def m10_back : kM := (⟨kR10, "back", "(I)Z"⟩, prog_1_method_81_code, 2, some .boolean)
def m10_led : kM := (⟨kR10, "led", "(I)I"⟩, prog_1_method_82_code, 4, some .int)
def m10_size : kM := (⟨kR10, "size", "(I)I"⟩, prog_1_method_83_code, 2, some .int)
def m10_trouble : kM := (⟨kR10, "trouble", "()I"⟩, prog_1_method_84_code, 1, some .int)
def m11_thrown : kM := (⟨kR11, "thrown", "()I"⟩, prog_13_method_2_code, 1, some .int)
def m11_good : kM := (⟨kR11, "good", "()V"⟩, prog_13_method_3_code, 1, none)
def m11_no : kM := (⟨kR11, "no", "(I)I"⟩, prog_13_method_4_code, 2, some .int)
def m11_isNot : kM := (⟨kR11, "isNot", "(I)Z"⟩, prog_13_method_5_code, 2, some .boolean)
def m11_in : kM := (⟨kR11, "in", "(III)Z"⟩, prog_13_method_6_code, 3, some .boolean)
def m11_hasBit : kM := (⟨kR11, "hasBit", "(II)Z"⟩, prog_13_method_7_code, 2, some .boolean)
def m11_ones : kM := (⟨kR11, "ones", "(I)I"⟩, prog_13_method_8_code, 3, some .int)
def m11_copy : kM := (⟨kR11, "copy", "([II[III)V"⟩, prog_13_method_9_code, 6, none)
def m11_lowest : kM := (⟨kR11, "lowest", "(JJZ)J"⟩, prog_13_method_10_code, 11, some .long)
def m11_feed : kM := (⟨kR11, "feed", "(IIIII)I"⟩, prog_13_method_11_code, 8, some .int)
def m11_see : kM := (⟨kR11, "see", "(I)I"⟩, prog_13_method_12_code, 2, some .int)
def m11_isSmall : kM := (⟨kR11, "isSmall", "(I)Z"⟩, prog_13_method_13_code, 1, some .boolean)
def m11_isDigit : kM := (⟨kR11, "isDigit", "(I)Z"⟩, prog_13_method_14_code, 1, some .boolean)
def m11_next : kM := (⟨kR11, "next", "()V"⟩, prog_13_method_15_code, 4, none)
def m11_wrong : kM := (⟨kR11, "wrong", "(II)V"⟩, prog_13_method_16_code, 3, none)
def m11_isWord : kM := (⟨kR11, "isWord", "(Ljava/lang/String;)Z"⟩, prog_13_method_17_code, 4, some .boolean)
def m11_takesWord : kM := (⟨kR11, "takesWord", "(Ljava/lang/String;)Z"⟩, prog_13_method_18_code, 2, some .boolean)
def m11_must : kM := (⟨kR11, "must", "(Ljava/lang/String;)V"⟩, prog_13_method_19_code, 2, none)
def m11_mustName : kM := (⟨kR11, "mustName", "()V"⟩, prog_13_method_20_code, 1, none)
def m11_find : kM := (⟨kR11, "find", "()I"⟩, prog_13_method_21_code, 4, some .int)
def m11_newName : kM := (⟨kR11, "newName", "(I)V"⟩, prog_13_method_22_code, 3, none)
def m11_pairHere : kM := (⟨kR11, "pairHere", "()I"⟩, prog_13_method_23_code, 2, some .int)
def m11_pass : kM := (⟨kR11, "pass", "()V"⟩, prog_13_method_24_code, 1, none)
def m11_numberHere : kM := (⟨kR11, "numberHere", "(II)I"⟩, prog_13_method_25_code, 3, some .int)
def m11_number : kM := (⟨kR11, "numbe\x72", "(II)I"⟩, prog_13_method_26_code, 4, some .int)
def m11_after : kM := (⟨kR11, "afte\x72", "(Ljava/lang/String;II)I"⟩, prog_13_method_27_code, 4, some .int)
def m11_pier : kM := (⟨kR11, "pie\x72", "(I)I"⟩, prog_13_method_28_code, 3, some .int)
def m11_begins : kM := (⟨kR11, "begins", "(Ljava/lang/String;Z)Z"⟩, prog_13_method_29_code, 3, some .boolean)
def m11_readLine : kM := (⟨kR11, "readLine", "()V"⟩, prog_13_method_30_code, 1, none)
def m11_pierLine : kM := (⟨kR11, "pierLine", "()V"⟩, prog_13_method_31_code, 1, none)
def m11_pairLine : kM := (⟨kR11, "pairLine", "()V"⟩, prog_13_method_32_code, 5, none)
def m11_contractLine : kM := (⟨kR11, "contractLine", "()V"⟩, prog_13_method_33_code, 3, none)
def m11_debtLine : kM := (⟨kR11, "debtLine", "()V"⟩, prog_13_method_34_code, 4, none)
def m11_unsureLine : kM := (⟨kR11, "unsureLine", "()V"⟩, prog_13_method_35_code, 4, none)
def m11_heardLine : kM := (⟨kR11, "heardLine", "()V"⟩, prog_13_method_36_code, 5, none)
def m11_fault : kM := (⟨kR11, "fault", "()I"⟩, prog_13_method_37_code, 1, some .int)
def m11_where : kM := (⟨kR11, "where", "()I"⟩, prog_13_method_38_code, 1, some .int)
def m11_isPair : kM := (⟨kR11, "isPai\x72", "(I)Z"⟩, prog_13_method_39_code, 2, some .boolean)
def m11_areTwo : kM := (⟨kR11, "areTwo", "(II)Z"⟩, prog_13_method_40_code, 3, some .boolean)
def m11_why : kM := (⟨kR11, "why", "(ZZ)I"⟩, prog_13_method_41_code, 3, some .int)
def m11_within : kM := (⟨kR11, "within", "(I)I"⟩, prog_13_method_42_code, 2, some .int)
def m11_byLaw : kM := (⟨kR11, "byLaw", "(III)I"⟩, prog_13_method_43_code, 5, some .int)
def m11_behind : kM := (⟨kR11, "behind", "(IIIIIZ)I"⟩, prog_13_method_44_code, 8, some .int)
def m11_isMore : kM := (⟨kR11, "isMore", "(I)Z"⟩, prog_13_method_45_code, 2, some .boolean)
def m11_saysBy : kM := (⟨kR11, "saysBy", "(IIII)I"⟩, prog_13_method_46_code, 7, some .int)
def m11_saysIn : kM := (⟨kR11, "saysIn", "(II)I"⟩, prog_13_method_47_code, 3, some .int)
def m11_goRound : kM := (⟨kR11, "goRound", "(I)V"⟩, prog_13_method_48_code, 7, none)
def m11_isRoundOf : kM := (⟨kR11, "isRoundOf", "(I)Z"⟩, prog_13_method_49_code, 3, some .boolean)
def m11_pair : kM := (⟨kR11, "pai\x72", "(II)I"⟩, prog_13_method_50_code, 3, some .int)
def m11_aheadWhy : kM := (⟨kR11, "aheadWhy", "(ZI)I"⟩, prog_13_method_51_code, 3, some .int)
def m11_says : kM := (⟨kR11, "says", "(II)I"⟩, prog_13_method_52_code, 4, some .int)
def m11_saysAll : kM := (⟨kR11, "saysAll", "(II)I"⟩, prog_13_method_53_code, 6, some .int)
def m11_moreIn : kM := (⟨kR11, "moreIn", "(I)I"⟩, prog_13_method_54_code, 3, some .int)
def m11_moreTimes : kM := (⟨kR11, "moreTimes", "(II)I"⟩, prog_13_method_55_code, 6, some .int)
def m11_settles : kM := (⟨kR11, "settles", "(I)I"⟩, prog_13_method_56_code, 2, some .int)
def m11_round : kM := (⟨kR11, "round", "(I)I"⟩, prog_13_method_57_code, 2, some .int)
def m11_saysLate : kM := (⟨kR11, "saysLate", "(II)I"⟩, prog_13_method_58_code, 4, some .int)
def m11_extremeOf : kM := (⟨kR11, "extremeOf", "(II)I"⟩, prog_13_method_59_code, 5, some .int)
def m11_roundMost : kM := (⟨kR11, "roundMost", "(I)I"⟩, prog_13_method_60_code, 2, some .int)
def m11_roundLeast : kM := (⟨kR11, "roundLeast", "(I)I"⟩, prog_13_method_61_code, 2, some .int)
def m11_turnsAbout : kM := (⟨kR11, "turnsAbout", "(I)I"⟩, prog_13_method_62_code, 4, some .int)
def m11_alikeIn : kM := (⟨kR11, "alikeIn", "(II)I"⟩, prog_13_method_63_code, 4, some .int)
def m11_loudest : kM := (⟨kR11, "loudest", "(I)I"⟩, prog_13_method_64_code, 5, some .int)
def m11_mastersIn : kM := (⟨kR11, "mastersIn", "(I)I"⟩, prog_13_method_65_code, 4, some .int)
def m11_masters : kM := (⟨kR11, "masters", "(I)I"⟩, prog_13_method_66_code, 3, some .int)
def m11_overtakes : kM := (⟨kR11, "overtakes", "(II)I"⟩, prog_13_method_67_code, 4, some .int)
def m11_widest : kM := (⟨kR11, "widest", "(I)I"⟩, prog_13_method_68_code, 8, some .int)
def m11_sumAll : kM := (⟨kR11, "sumAll", "(I)I"⟩, prog_13_method_69_code, 5, some .int)
def m11_bestEvery : kM := (⟨kR11, "bestEvery", "(II)I"⟩, prog_13_method_70_code, 5, some .int)
def m11_everyFor : kM := (⟨kR11, "everyFo\x72", "(II)I"⟩, prog_13_method_71_code, 4, some .int)
def m11_everySays : kM := (⟨kR11, "everySays", "(II)I"⟩, prog_13_method_72_code, 4, some .int)
def m11_isNeverMore : kM := (⟨kR11, "isNeverMore", "(II)Z"⟩, prog_13_method_73_code, 4, some .boolean)
def m11_everyNever : kM := (⟨kR11, "everyNeve\x72", "(I)I"⟩, prog_13_method_74_code, 3, some .int)
def m11_stepFor : kM := (⟨kR11, "stepFo\x72", "(II)I"⟩, prog_13_method_75_code, 5, some .int)
def m11_stepBy : kM := (⟨kR11, "stepBy", "(II)I"⟩, prog_13_method_76_code, 5, some .int)
def m11_saidThen : kM := (⟨kR11, "saidThen", "(III)I"⟩, prog_13_method_77_code, 6, some .int)
def m11_wrongBy : kM := (⟨kR11, "wrongBy", "(I)I"⟩, prog_13_method_78_code, 3, some .int)
def m11_seekSets : kM := (⟨kR11, "seekSets", "(I)I"⟩, prog_13_method_79_code, 5, some .int)
def m11_fits : kM := (⟨kR11, "fits", "()I"⟩, prog_13_method_80_code, 1, some .int)
def m11_fitAt : kM := (⟨kR11, "fitAt", "(I)I"⟩, prog_13_method_81_code, 3, some .int)
def m11_could : kM := (⟨kR11, "could", "()I"⟩, prog_13_method_82_code, 1, some .int)
def m11_surely : kM := (⟨kR11, "surely", "()I"⟩, prog_13_method_83_code, 1, some .int)
def m11_leavesOf : kM := (⟨kR11, "leavesOf", "(I)I"⟩, prog_13_method_84_code, 2, some .int)
def m11_askOf : kM := (⟨kR11, "askOf", "()I"⟩, prog_13_method_85_code, 3, some .int)
def m11_ask : kM := (⟨kR11, "ask", "()I"⟩, prog_13_method_86_code, 1, some .int)
def m11_askLeaves : kM := (⟨kR11, "askLeaves", "()I"⟩, prog_13_method_87_code, 2, some .int)
def m11_judge : kM := (⟨kR11, "judge", "()I"⟩, prog_13_method_88_code, 1, some .int)
def m11_third : kM := (⟨kR11, "third", "(I)I"⟩, prog_13_method_89_code, 5, some .int)
def m11_debtOf : kM := (⟨kR11, "debtOf", "(II)I"⟩, prog_13_method_90_code, 3, some .int)
def m11_netOf : kM := (⟨kR11, "netOf", "(I)I"⟩, prog_13_method_91_code, 4, some .int)
def m11_owes : kM := (⟨kR11, "owes", "(II)I"⟩, prog_13_method_92_code, 3, some .int)
def m11_net : kM := (⟨kR11, "net", "(I)I"⟩, prog_13_method_93_code, 2, some .int)
def m11_due : kM := (⟨kR11, "due", "()I"⟩, prog_13_method_94_code, 3, some .int)
def m11_creditor : kM := (⟨kR11, "credito\x72", "()I"⟩, prog_13_method_95_code, 3, some .int)
def m11_netsOf : kM := (⟨kR11, "netsOf", "(I)I"⟩, prog_13_method_96_code, 4, some .int)
def m11_groupsOf : kM := (⟨kR11, "groupsOf", "(I)I"⟩, prog_13_method_97_code, 5, some .int)
def m11_payments : kM := (⟨kR11, "payments", "()I"⟩, prog_13_method_98_code, 3, some .int)
def m11_tryRing : kM := (⟨kR11, "tryRing", "(II)V"⟩, prog_13_method_99_code, 4, none)
def m11_seekRing : kM := (⟨kR11, "seekRing", "(I)Z"⟩, prog_13_method_100_code, 2, some .boolean)
def m11_ring : kM := (⟨kR11, "ring", "(I)I"⟩, prog_13_method_101_code, 2, some .int)
def m11_ringAt : kM := (⟨kR11, "ringAt", "(II)I"⟩, prog_13_method_102_code, 3, some .int)
def m11_talksOf : kM := (⟨kR11, "talksOf", "(IZZ)I"⟩, prog_13_method_103_code, 3, some .int)
def m11_talks : kM := (⟨kR11, "talks", "(IZZZ)I"⟩, prog_13_method_104_code, 6, some .int)
def m11_seekRests : kM := (⟨kR11, "seekRests", "(I)I"⟩, prog_13_method_105_code, 6, some .int)
def m11_rests : kM := (⟨kR11, "rests", "(I)I"⟩, prog_13_method_106_code, 3, some .int)
def m11_rest : kM := (⟨kR11, "rest", "(I)I"⟩, prog_13_method_107_code, 3, some .int)
def m11_verdictOf : kM := (⟨kR11, "verdictOf", "()I"⟩, prog_13_method_108_code, 3, some .int)
def m11_verdictOdds : kM := (⟨kR11, "verdictOdds", "(IIZ)J"⟩, prog_13_method_109_code, 10, some .long)
def m11_lookWhy : kM := (⟨kR11, "lookWhy", "(ZII)I"⟩, prog_13_method_110_code, 6, some .int)
def m11_looks : kM := (⟨kR11, "looks", "(III)I"⟩, prog_13_method_111_code, 5, some .int)
def m11_verdict : kM := (⟨kR11, "verdict", "(II)I"⟩, prog_13_method_112_code, 4, some .int)
def m11_tryDumb : kM := (⟨kR11, "tryDumb", "(III)V"⟩, prog_13_method_113_code, 9, none)
def m11_odds : kM := (⟨kR11, "odds", "(IIIZ)J"⟩, prog_13_method_114_code, 6, some .long)
def m11_mean : kM := (⟨kR11, "mean", "(IIZ)J"⟩, prog_13_method_115_code, 5, some .long)
def m11_drawn : kM := (⟨kR11, "drawn", "(III)I"⟩, prog_13_method_116_code, 8, some .int)
def m11_note : kM := (⟨kR11, "note", "()V"⟩, prog_13_method_117_code, 2, none)
def m11_season : kM := (⟨kR11, "season", "()I"⟩, prog_13_method_118_code, 2, some .int)
def m11_change : kM := (⟨kR11, "change", "(I)I"⟩, prog_13_method_119_code, 2, some .int)
def m11_step : kM := (⟨kR11, "step", "(II)Z"⟩, prog_13_method_120_code, 3, some .boolean)
def m11_pay : kM := (⟨kR11, "pay", "(III)I"⟩, prog_13_method_121_code, 5, some .int)
def m11_undo : kM := (⟨kR11, "undo", "()Z"⟩, prog_13_method_122_code, 1, some .boolean)
def m11_image : kM := (⟨kR11, "image", "()I"⟩, prog_13_method_123_code, 1, some .int)
def m11_back : kM := (⟨kR11, "back", "(I)Z"⟩, prog_13_method_124_code, 2, some .boolean)
def m11_led : kM := (⟨kR11, "led", "(I)I"⟩, prog_13_method_125_code, 4, some .int)
def m11_size : kM := (⟨kR11, "size", "(I)I"⟩, prog_13_method_126_code, 2, some .int)
def m11_trouble : kM := (⟨kR11, "trouble", "()I"⟩, prog_13_method_127_code, 1, some .int)
