section
-- ===== PART A: goes FIRST, ahead of the names: the tables' words, and 'selects' of the private methods out of them =====
/-- a private method of a class that the tables say can be made, by its rows of tables_1 -/
def lw_okq (q : MethodName × Nat) : Prop := (q.1.cls ≠ "java/lang/invoke/MethodHandle" ∧ q.1.cls ≠ "java/lang/invoke/VarHandle") ∧ Cond.instantiable q.1.cls q.2 ∈ tables_1 ∧ Cond.privateMethod q.1 ∈ tables_1 ∧ Cond.instanceMethod q.1 ∈ tables_1
theorem lw_p0 : lw_okq (⟨"FigureKnee", "putBytes", "(I)V"⟩, 19) := ⟨⟨by decide +kernel, by decide +kernel⟩, List.mem_of_getElem? (i := 25) (by decide +kernel), List.mem_of_getElem? (i := 431) (by decide +kernel), List.mem_of_getElem? (i := 432) (by decide +kernel)⟩
theorem lw_p1 : lw_okq (⟨"FigureKnee", "refuse", "(I)I"⟩, 19) := ⟨⟨by decide +kernel, by decide +kernel⟩, List.mem_of_getElem? (i := 25) (by decide +kernel), List.mem_of_getElem? (i := 442) (by decide +kernel), List.mem_of_getElem? (i := 443) (by decide +kernel)⟩
theorem lw_p2 : lw_okq (⟨"FigureKnee$Reade\x72", "next", "()V"⟩, 11) := ⟨⟨by decide +kernel, by decide +kernel⟩, List.mem_of_getElem? (i := 137) (by decide +kernel), List.mem_of_getElem? (i := 460) (by decide +kernel), List.mem_of_getElem? (i := 461) (by decide +kernel)⟩
theorem lw_p3 : lw_okq (⟨"FigureKnee$Reade\x72", "takeLetters", "()V"⟩, 11) := ⟨⟨by decide +kernel, by decide +kernel⟩, List.mem_of_getElem? (i := 137) (by decide +kernel), List.mem_of_getElem? (i := 467) (by decide +kernel), List.mem_of_getElem? (i := 468) (by decide +kernel)⟩
theorem lw_p4 : lw_okq (⟨"FigureKnee$Reade\x72", "takeDigits", "()V"⟩, 11) := ⟨⟨by decide +kernel, by decide +kernel⟩, List.mem_of_getElem? (i := 137) (by decide +kernel), List.mem_of_getElem? (i := 474) (by decide +kernel), List.mem_of_getElem? (i := 475) (by decide +kernel)⟩
theorem lw_p5 : lw_okq (⟨"FigureKnee$Reade\x72", "readHead", "()Z"⟩, 11) := ⟨⟨by decide +kernel, by decide +kernel⟩, List.mem_of_getElem? (i := 137) (by decide +kernel), List.mem_of_getElem? (i := 478) (by decide +kernel), List.mem_of_getElem? (i := 479) (by decide +kernel)⟩
theorem lw_p6 : lw_okq (⟨"FigureKnee$Reade\x72", "isWord", "(Ljava/lang/String;)Z"⟩, 11) := ⟨⟨by decide +kernel, by decide +kernel⟩, List.mem_of_getElem? (i := 137) (by decide +kernel), List.mem_of_getElem? (i := 483) (by decide +kernel), List.mem_of_getElem? (i := 484) (by decide +kernel)⟩
theorem lw_p7 : lw_okq (⟨"FigureKnee$Reade\x72", "isHeadOfLine", "()Z"⟩, 11) := ⟨⟨by decide +kernel, by decide +kernel⟩, List.mem_of_getElem? (i := 137) (by decide +kernel), List.mem_of_getElem? (i := 535) (by decide +kernel), List.mem_of_getElem? (i := 536) (by decide +kernel)⟩
theorem lw_p8 : lw_okq (⟨"FigureKnee$Reade\x72", "found", "(I)Z"⟩, 11) := ⟨⟨by decide +kernel, by decide +kernel⟩, List.mem_of_getElem? (i := 137) (by decide +kernel), List.mem_of_getElem? (i := 544) (by decide +kernel), List.mem_of_getElem? (i := 545) (by decide +kernel)⟩
theorem lw_p9 : lw_okq (⟨"FigureKnee$Reade\x72", "takeWord", "(Ljava/lang/String;)Z"⟩, 11) := ⟨⟨by decide +kernel, by decide +kernel⟩, List.mem_of_getElem? (i := 137) (by decide +kernel), List.mem_of_getElem? (i := 549) (by decide +kernel), List.mem_of_getElem? (i := 550) (by decide +kernel)⟩
theorem lw_p10 : lw_okq (⟨"FigureKnee$Reade\x72", "seesWhole", "(II)Z"⟩, 11) := ⟨⟨by decide +kernel, by decide +kernel⟩, List.mem_of_getElem? (i := 137) (by decide +kernel), List.mem_of_getElem? (i := 553) (by decide +kernel), List.mem_of_getElem? (i := 554) (by decide +kernel)⟩
theorem lw_p11 : lw_okq (⟨"FigureKnee$Reade\x72", "readLine", "()Z"⟩, 11) := ⟨⟨by decide +kernel, by decide +kernel⟩, List.mem_of_getElem? (i := 137) (by decide +kernel), List.mem_of_getElem? (i := 558) (by decide +kernel), List.mem_of_getElem? (i := 559) (by decide +kernel)⟩
theorem lw_p12 : lw_okq (⟨"FigureKnee$Reade\x72", "readPai\x72", "()Z"⟩, 11) := ⟨⟨by decide +kernel, by decide +kernel⟩, List.mem_of_getElem? (i := 137) (by decide +kernel), List.mem_of_getElem? (i := 562) (by decide +kernel), List.mem_of_getElem? (i := 563) (by decide +kernel)⟩
theorem lw_p13 : lw_okq (⟨"FigureKnee$Reade\x72", "pairOfName", "()I"⟩, 11) := ⟨⟨by decide +kernel, by decide +kernel⟩, List.mem_of_getElem? (i := 137) (by decide +kernel), List.mem_of_getElem? (i := 566) (by decide +kernel), List.mem_of_getElem? (i := 567) (by decide +kernel)⟩
theorem lw_p14 : lw_okq (⟨"FigureKnee$Reade\x72", "isSame", "(II)Z"⟩, 11) := ⟨⟨by decide +kernel, by decide +kernel⟩, List.mem_of_getElem? (i := 137) (by decide +kernel), List.mem_of_getElem? (i := 570) (by decide +kernel), List.mem_of_getElem? (i := 571) (by decide +kernel)⟩
theorem lw_p15 : lw_okq (⟨"FigureKnee$Reade\x72", "lawOfWord", "()I"⟩, 11) := ⟨⟨by decide +kernel, by decide +kernel⟩, List.mem_of_getElem? (i := 137) (by decide +kernel), List.mem_of_getElem? (i := 574) (by decide +kernel), List.mem_of_getElem? (i := 575) (by decide +kernel)⟩
def lw_privs_1 : List (MethodName × Nat) := [(⟨"FigureKnee", "putBytes", "(I)V"⟩, 19), (⟨"FigureKnee", "refuse", "(I)I"⟩, 19), (⟨"FigureKnee$Reade\x72", "next", "()V"⟩, 11), (⟨"FigureKnee$Reade\x72", "takeLetters", "()V"⟩, 11), (⟨"FigureKnee$Reade\x72", "takeDigits", "()V"⟩, 11), (⟨"FigureKnee$Reade\x72", "readHead", "()Z"⟩, 11), (⟨"FigureKnee$Reade\x72", "isWord", "(Ljava/lang/String;)Z"⟩, 11), (⟨"FigureKnee$Reade\x72", "isHeadOfLine", "()Z"⟩, 11), (⟨"FigureKnee$Reade\x72", "found", "(I)Z"⟩, 11), (⟨"FigureKnee$Reade\x72", "takeWord", "(Ljava/lang/String;)Z"⟩, 11), (⟨"FigureKnee$Reade\x72", "seesWhole", "(II)Z"⟩, 11), (⟨"FigureKnee$Reade\x72", "readLine", "()Z"⟩, 11), (⟨"FigureKnee$Reade\x72", "readPai\x72", "()Z"⟩, 11), (⟨"FigureKnee$Reade\x72", "pairOfName", "()I"⟩, 11), (⟨"FigureKnee$Reade\x72", "isSame", "(II)Z"⟩, 11), (⟨"FigureKnee$Reade\x72", "lawOfWord", "()I"⟩, 11)]
theorem lw_r1 : ∀ q ∈ lw_privs_1, lw_okq q := List.forall_mem_cons.mpr ⟨lw_p0, List.forall_mem_cons.mpr ⟨lw_p1, List.forall_mem_cons.mpr ⟨lw_p2, List.forall_mem_cons.mpr ⟨lw_p3, List.forall_mem_cons.mpr ⟨lw_p4, List.forall_mem_cons.mpr ⟨lw_p5, List.forall_mem_cons.mpr ⟨lw_p6, List.forall_mem_cons.mpr ⟨lw_p7, List.forall_mem_cons.mpr ⟨lw_p8, List.forall_mem_cons.mpr ⟨lw_p9, List.forall_mem_cons.mpr ⟨lw_p10, List.forall_mem_cons.mpr ⟨lw_p11, List.forall_mem_cons.mpr ⟨lw_p12, List.forall_mem_cons.mpr ⟨lw_p13, List.forall_mem_cons.mpr ⟨lw_p14, List.forall_mem_cons.mpr ⟨lw_p15, fun _ h => absurd h List.not_mem_nil⟩⟩⟩⟩⟩⟩⟩⟩⟩⟩⟩⟩⟩⟩⟩⟩
theorem lw_p16 : lw_okq (⟨"FigureKnee$Reade\x72", "readContract", "()Z"⟩, 11) := ⟨⟨by decide +kernel, by decide +kernel⟩, List.mem_of_getElem? (i := 137) (by decide +kernel), List.mem_of_getElem? (i := 584) (by decide +kernel), List.mem_of_getElem? (i := 585) (by decide +kernel)⟩
theorem lw_p17 : lw_okq (⟨"FigureKnee$Reade\x72", "seenPai\x72", "()I"⟩, 11) := ⟨⟨by decide +kernel, by decide +kernel⟩, List.mem_of_getElem? (i := 137) (by decide +kernel), List.mem_of_getElem? (i := 588) (by decide +kernel), List.mem_of_getElem? (i := 589) (by decide +kernel)⟩
theorem lw_p18 : lw_okq (⟨"FigureKnee$Reade\x72", "readDebt", "()Z"⟩, 11) := ⟨⟨by decide +kernel, by decide +kernel⟩, List.mem_of_getElem? (i := 137) (by decide +kernel), List.mem_of_getElem? (i := 593) (by decide +kernel), List.mem_of_getElem? (i := 594) (by decide +kernel)⟩
theorem lw_p19 : lw_okq (⟨"FigureKnee$Reade\x72", "readUnsure", "()Z"⟩, 11) := ⟨⟨by decide +kernel, by decide +kernel⟩, List.mem_of_getElem? (i := 137) (by decide +kernel), List.mem_of_getElem? (i := 597) (by decide +kernel), List.mem_of_getElem? (i := 598) (by decide +kernel)⟩
theorem lw_p20 : lw_okq (⟨"FigureKnee$Reade\x72", "readHeard", "()Z"⟩, 11) := ⟨⟨by decide +kernel, by decide +kernel⟩, List.mem_of_getElem? (i := 137) (by decide +kernel), List.mem_of_getElem? (i := 605) (by decide +kernel), List.mem_of_getElem? (i := 606) (by decide +kernel)⟩
theorem lw_p21 : lw_okq (⟨"FigureKnee", "isPai\x72", "(I)Z"⟩, 19) := ⟨⟨by decide +kernel, by decide +kernel⟩, List.mem_of_getElem? (i := 25) (by decide +kernel), List.mem_of_getElem? (i := 637) (by decide +kernel), List.mem_of_getElem? (i := 638) (by decide +kernel)⟩
theorem lw_p22 : lw_okq (⟨"FigureKnee", "may", "(Z)Z"⟩, 19) := ⟨⟨by decide +kernel, by decide +kernel⟩, List.mem_of_getElem? (i := 25) (by decide +kernel), List.mem_of_getElem? (i := 641) (by decide +kernel), List.mem_of_getElem? (i := 642) (by decide +kernel)⟩
theorem lw_p23 : lw_okq (⟨"FigureKnee", "may", "(ZZ)Z"⟩, 19) := ⟨⟨by decide +kernel, by decide +kernel⟩, List.mem_of_getElem? (i := 25) (by decide +kernel), List.mem_of_getElem? (i := 645) (by decide +kernel), List.mem_of_getElem? (i := 646) (by decide +kernel)⟩
theorem lw_p24 : lw_okq (⟨"FigureKnee", "isMore", "(I)Z"⟩, 19) := ⟨⟨by decide +kernel, by decide +kernel⟩, List.mem_of_getElem? (i := 25) (by decide +kernel), List.mem_of_getElem? (i := 649) (by decide +kernel), List.mem_of_getElem? (i := 650) (by decide +kernel)⟩
theorem lw_p25 : lw_okq (⟨"FigureKnee", "sayingBehind", "(II)I"⟩, 19) := ⟨⟨by decide +kernel, by decide +kernel⟩, List.mem_of_getElem? (i := 25) (by decide +kernel), List.mem_of_getElem? (i := 657) (by decide +kernel), List.mem_of_getElem? (i := 658) (by decide +kernel)⟩
theorem lw_p26 : lw_okq (⟨"FigureKnee$Walk", "byLaw", "()I"⟩, 6) := ⟨⟨by decide +kernel, by decide +kernel⟩, List.mem_of_getElem? (i := 226) (by decide +kernel), List.mem_of_getElem? (i := 677) (by decide +kernel), List.mem_of_getElem? (i := 678) (by decide +kernel)⟩
theorem lw_p27 : lw_okq (⟨"FigureKnee", "goRound", "(I)V"⟩, 19) := ⟨⟨by decide +kernel, by decide +kernel⟩, List.mem_of_getElem? (i := 25) (by decide +kernel), List.mem_of_getElem? (i := 715) (by decide +kernel), List.mem_of_getElem? (i := 716) (by decide +kernel)⟩
theorem lw_p28 : lw_okq (⟨"FigureKnee$Rounds", "shortenRound", "()V"⟩, 4) := ⟨⟨by decide +kernel, by decide +kernel⟩, List.mem_of_getElem? (i := 259) (by decide +kernel), List.mem_of_getElem? (i := 730) (by decide +kernel), List.mem_of_getElem? (i := 731) (by decide +kernel)⟩
theorem lw_p29 : lw_okq (⟨"FigureKnee$Rounds", "comesAgainBehind", "(I)Z"⟩, 4) := ⟨⟨by decide +kernel, by decide +kernel⟩, List.mem_of_getElem? (i := 259) (by decide +kernel), List.mem_of_getElem? (i := 734) (by decide +kernel), List.mem_of_getElem? (i := 735) (by decide +kernel)⟩
theorem lw_p30 : lw_okq (⟨"FigureKnee", "areUnlike", "(II)Z"⟩, 19) := ⟨⟨by decide +kernel, by decide +kernel⟩, List.mem_of_getElem? (i := 25) (by decide +kernel), List.mem_of_getElem? (i := 775) (by decide +kernel), List.mem_of_getElem? (i := 776) (by decide +kernel)⟩
theorem lw_p31 : lw_okq (⟨"FigureKnee", "sayAllBehind", "(I)V"⟩, 19) := ⟨⟨by decide +kernel, by decide +kernel⟩, List.mem_of_getElem? (i := 25) (by decide +kernel), List.mem_of_getElem? (i := 783) (by decide +kernel), List.mem_of_getElem? (i := 784) (by decide +kernel)⟩
def lw_privs_2 : List (MethodName × Nat) := [(⟨"FigureKnee$Reade\x72", "readContract", "()Z"⟩, 11), (⟨"FigureKnee$Reade\x72", "seenPai\x72", "()I"⟩, 11), (⟨"FigureKnee$Reade\x72", "readDebt", "()Z"⟩, 11), (⟨"FigureKnee$Reade\x72", "readUnsure", "()Z"⟩, 11), (⟨"FigureKnee$Reade\x72", "readHeard", "()Z"⟩, 11), (⟨"FigureKnee", "isPai\x72", "(I)Z"⟩, 19), (⟨"FigureKnee", "may", "(Z)Z"⟩, 19), (⟨"FigureKnee", "may", "(ZZ)Z"⟩, 19), (⟨"FigureKnee", "isMore", "(I)Z"⟩, 19), (⟨"FigureKnee", "sayingBehind", "(II)I"⟩, 19), (⟨"FigureKnee$Walk", "byLaw", "()I"⟩, 6), (⟨"FigureKnee", "goRound", "(I)V"⟩, 19), (⟨"FigureKnee$Rounds", "shortenRound", "()V"⟩, 4), (⟨"FigureKnee$Rounds", "comesAgainBehind", "(I)Z"⟩, 4), (⟨"FigureKnee", "areUnlike", "(II)Z"⟩, 19), (⟨"FigureKnee", "sayAllBehind", "(I)V"⟩, 19)]
theorem lw_r2 : ∀ q ∈ lw_privs_2, lw_okq q := List.forall_mem_cons.mpr ⟨lw_p16, List.forall_mem_cons.mpr ⟨lw_p17, List.forall_mem_cons.mpr ⟨lw_p18, List.forall_mem_cons.mpr ⟨lw_p19, List.forall_mem_cons.mpr ⟨lw_p20, List.forall_mem_cons.mpr ⟨lw_p21, List.forall_mem_cons.mpr ⟨lw_p22, List.forall_mem_cons.mpr ⟨lw_p23, List.forall_mem_cons.mpr ⟨lw_p24, List.forall_mem_cons.mpr ⟨lw_p25, List.forall_mem_cons.mpr ⟨lw_p26, List.forall_mem_cons.mpr ⟨lw_p27, List.forall_mem_cons.mpr ⟨lw_p28, List.forall_mem_cons.mpr ⟨lw_p29, List.forall_mem_cons.mpr ⟨lw_p30, List.forall_mem_cons.mpr ⟨lw_p31, fun _ h => absurd h List.not_mem_nil⟩⟩⟩⟩⟩⟩⟩⟩⟩⟩⟩⟩⟩⟩⟩⟩
theorem lw_p32 : lw_okq (⟨"FigureKnee", "bitsOfMore", "([I)I"⟩, 19) := ⟨⟨by decide +kernel, by decide +kernel⟩, List.mem_of_getElem? (i := 25) (by decide +kernel), List.mem_of_getElem? (i := 809) (by decide +kernel), List.mem_of_getElem? (i := 810) (by decide +kernel)⟩
theorem lw_p33 : lw_okq (⟨"FigureKnee", "bestEvery", "(II)I"⟩, 19) := ⟨⟨by decide +kernel, by decide +kernel⟩, List.mem_of_getElem? (i := 25) (by decide +kernel), List.mem_of_getElem? (i := 817) (by decide +kernel), List.mem_of_getElem? (i := 818) (by decide +kernel)⟩
theorem lw_p34 : lw_okq (⟨"FigureKnee", "sayingByEvery", "(III)I"⟩, 19) := ⟨⟨by decide +kernel, by decide +kernel⟩, List.mem_of_getElem? (i := 25) (by decide +kernel), List.mem_of_getElem? (i := 821) (by decide +kernel), List.mem_of_getElem? (i := 822) (by decide +kernel)⟩
theorem lw_p35 : lw_okq (⟨"FigureKnee", "mayFit", "()Z"⟩, 19) := ⟨⟨by decide +kernel, by decide +kernel⟩, List.mem_of_getElem? (i := 25) (by decide +kernel), List.mem_of_getElem? (i := 841) (by decide +kernel), List.mem_of_getElem? (i := 842) (by decide +kernel)⟩
theorem lw_p36 : lw_okq (⟨"FigureKnee$Fitting", "fitsHeard", "(LFigureKnee$Pier;II)Z"⟩, 5) := ⟨⟨by decide +kernel, by decide +kernel⟩, List.mem_of_getElem? (i := 280) (by decide +kernel), List.mem_of_getElem? (i := 850) (by decide +kernel), List.mem_of_getElem? (i := 851) (by decide +kernel)⟩
theorem lw_p37 : lw_okq (⟨"FigureKnee$Fitting", "isFit", "(II)Z"⟩, 5) := ⟨⟨by decide +kernel, by decide +kernel⟩, List.mem_of_getElem? (i := 280) (by decide +kernel), List.mem_of_getElem? (i := 856) (by decide +kernel), List.mem_of_getElem? (i := 857) (by decide +kernel)⟩
theorem lw_p38 : lw_okq (⟨"FigureKnee", "apartByTold", "(I)I"⟩, 19) := ⟨⟨by decide +kernel, by decide +kernel⟩, List.mem_of_getElem? (i := 25) (by decide +kernel), List.mem_of_getElem? (i := 902) (by decide +kernel), List.mem_of_getElem? (i := 903) (by decide +kernel)⟩
theorem lw_p39 : lw_okq (⟨"FigureKnee$Books", "countDebtsHome", "(LFigureKnee$Now;I)V"⟩, 7) := ⟨⟨by decide +kernel, by decide +kernel⟩, List.mem_of_getElem? (i := 306) (by decide +kernel), List.mem_of_getElem? (i := 954) (by decide +kernel), List.mem_of_getElem? (i := 955) (by decide +kernel)⟩
theorem lw_p40 : lw_okq (⟨"FigureKnee$Books", "fewestDebtsBehind", "(LFigureKnee$Now;I)I"⟩, 7) := ⟨⟨by decide +kernel, by decide +kernel⟩, List.mem_of_getElem? (i := 306) (by decide +kernel), List.mem_of_getElem? (i := 959) (by decide +kernel), List.mem_of_getElem? (i := 960) (by decide +kernel)⟩
theorem lw_p41 : lw_okq (⟨"FigureKnee$Books", "firstNext", "(LFigureKnee$Now;II)I"⟩, 7) := ⟨⟨by decide +kernel, by decide +kernel⟩, List.mem_of_getElem? (i := 306) (by decide +kernel), List.mem_of_getElem? (i := 963) (by decide +kernel), List.mem_of_getElem? (i := 964) (by decide +kernel)⟩
theorem lw_p42 : lw_okq (⟨"FigureKnee$Gallery", "lookBy", "(III)V"⟩, 3) := ⟨⟨by decide +kernel, by decide +kernel⟩, List.mem_of_getElem? (i := 337) (by decide +kernel), List.mem_of_getElem? (i := 1001) (by decide +kernel), List.mem_of_getElem? (i := 1002) (by decide +kernel)⟩
theorem lw_p43 : lw_okq (⟨"FigureKnee", "goWithDumb", "(III)J"⟩, 19) := ⟨⟨by decide +kernel, by decide +kernel⟩, List.mem_of_getElem? (i := 25) (by decide +kernel), List.mem_of_getElem? (i := 1036) (by decide +kernel), List.mem_of_getElem? (i := 1037) (by decide +kernel)⟩
theorem lw_p44 : lw_okq (⟨"FigureKnee", "deny", "(I)Z"⟩, 19) := ⟨⟨by decide +kernel, by decide +kernel⟩, List.mem_of_getElem? (i := 25) (by decide +kernel), List.mem_of_getElem? (i := 1076) (by decide +kernel), List.mem_of_getElem? (i := 1077) (by decide +kernel)⟩
theorem lw_p45 : lw_okq (⟨"java/lang/Throwable", "fillInStackTrace", "(I)Ljava/lang/Throwable;"⟩, 6) := ⟨⟨by decide +kernel, by decide +kernel⟩, List.mem_of_getElem? (i := 1162) (by decide +kernel), List.mem_of_getElem? (i := 1160) (by decide +kernel), List.mem_of_getElem? (i := 1161) (by decide +kernel)⟩
theorem lw_p46 : lw_okq (⟨"FigureKneeModel", "good", "()V"⟩, 42) := ⟨⟨by decide +kernel, by decide +kernel⟩, List.mem_of_getElem? (i := 1187) (by decide +kernel), List.mem_of_getElem? (i := 1332) (by decide +kernel), List.mem_of_getElem? (i := 1333) (by decide +kernel)⟩
theorem lw_p47 : lw_okq (⟨"FigureKneeModel", "no", "(I)I"⟩, 42) := ⟨⟨by decide +kernel, by decide +kernel⟩, List.mem_of_getElem? (i := 1187) (by decide +kernel), List.mem_of_getElem? (i := 1339) (by decide +kernel), List.mem_of_getElem? (i := 1340) (by decide +kernel)⟩
def lw_privs_3 : List (MethodName × Nat) := [(⟨"FigureKnee", "bitsOfMore", "([I)I"⟩, 19), (⟨"FigureKnee", "bestEvery", "(II)I"⟩, 19), (⟨"FigureKnee", "sayingByEvery", "(III)I"⟩, 19), (⟨"FigureKnee", "mayFit", "()Z"⟩, 19), (⟨"FigureKnee$Fitting", "fitsHeard", "(LFigureKnee$Pier;II)Z"⟩, 5), (⟨"FigureKnee$Fitting", "isFit", "(II)Z"⟩, 5), (⟨"FigureKnee", "apartByTold", "(I)I"⟩, 19), (⟨"FigureKnee$Books", "countDebtsHome", "(LFigureKnee$Now;I)V"⟩, 7), (⟨"FigureKnee$Books", "fewestDebtsBehind", "(LFigureKnee$Now;I)I"⟩, 7), (⟨"FigureKnee$Books", "firstNext", "(LFigureKnee$Now;II)I"⟩, 7), (⟨"FigureKnee$Gallery", "lookBy", "(III)V"⟩, 3), (⟨"FigureKnee", "goWithDumb", "(III)J"⟩, 19), (⟨"FigureKnee", "deny", "(I)Z"⟩, 19), (⟨"java/lang/Throwable", "fillInStackTrace", "(I)Ljava/lang/Throwable;"⟩, 6), (⟨"FigureKneeModel", "good", "()V"⟩, 42), (⟨"FigureKneeModel", "no", "(I)I"⟩, 42)]
theorem lw_r3 : ∀ q ∈ lw_privs_3, lw_okq q := List.forall_mem_cons.mpr ⟨lw_p32, List.forall_mem_cons.mpr ⟨lw_p33, List.forall_mem_cons.mpr ⟨lw_p34, List.forall_mem_cons.mpr ⟨lw_p35, List.forall_mem_cons.mpr ⟨lw_p36, List.forall_mem_cons.mpr ⟨lw_p37, List.forall_mem_cons.mpr ⟨lw_p38, List.forall_mem_cons.mpr ⟨lw_p39, List.forall_mem_cons.mpr ⟨lw_p40, List.forall_mem_cons.mpr ⟨lw_p41, List.forall_mem_cons.mpr ⟨lw_p42, List.forall_mem_cons.mpr ⟨lw_p43, List.forall_mem_cons.mpr ⟨lw_p44, List.forall_mem_cons.mpr ⟨lw_p45, List.forall_mem_cons.mpr ⟨lw_p46, List.forall_mem_cons.mpr ⟨lw_p47, fun _ h => absurd h List.not_mem_nil⟩⟩⟩⟩⟩⟩⟩⟩⟩⟩⟩⟩⟩⟩⟩⟩
theorem lw_p48 : lw_okq (⟨"FigureKneeModel", "next", "()V"⟩, 42) := ⟨⟨by decide +kernel, by decide +kernel⟩, List.mem_of_getElem? (i := 1187) (by decide +kernel), List.mem_of_getElem? (i := 1343) (by decide +kernel), List.mem_of_getElem? (i := 1344) (by decide +kernel)⟩
theorem lw_p49 : lw_okq (⟨"FigureKneeModel", "see", "(I)I"⟩, 42) := ⟨⟨by decide +kernel, by decide +kernel⟩, List.mem_of_getElem? (i := 1187) (by decide +kernel), List.mem_of_getElem? (i := 1347) (by decide +kernel), List.mem_of_getElem? (i := 1348) (by decide +kernel)⟩
theorem lw_p50 : lw_okq (⟨"FigureKneeModel", "readLine", "()V"⟩, 42) := ⟨⟨by decide +kernel, by decide +kernel⟩, List.mem_of_getElem? (i := 1187) (by decide +kernel), List.mem_of_getElem? (i := 1357) (by decide +kernel), List.mem_of_getElem? (i := 1358) (by decide +kernel)⟩
theorem lw_p51 : lw_okq (⟨"FigureKneeModel", "isWord", "(Ljava/lang/String;)Z"⟩, 42) := ⟨⟨by decide +kernel, by decide +kernel⟩, List.mem_of_getElem? (i := 1187) (by decide +kernel), List.mem_of_getElem? (i := 1362) (by decide +kernel), List.mem_of_getElem? (i := 1363) (by decide +kernel)⟩
theorem lw_p52 : lw_okq (⟨"FigureKneeModel", "pierLine", "()V"⟩, 42) := ⟨⟨by decide +kernel, by decide +kernel⟩, List.mem_of_getElem? (i := 1187) (by decide +kernel), List.mem_of_getElem? (i := 1368) (by decide +kernel), List.mem_of_getElem? (i := 1369) (by decide +kernel)⟩
theorem lw_p53 : lw_okq (⟨"FigureKneeModel", "wrong", "(II)V"⟩, 42) := ⟨⟨by decide +kernel, by decide +kernel⟩, List.mem_of_getElem? (i := 1187) (by decide +kernel), List.mem_of_getElem? (i := 1372) (by decide +kernel), List.mem_of_getElem? (i := 1373) (by decide +kernel)⟩
theorem lw_p54 : lw_okq (⟨"FigureKneeModel", "afte\x72", "(Ljava/lang/String;II)I"⟩, 42) := ⟨⟨by decide +kernel, by decide +kernel⟩, List.mem_of_getElem? (i := 1187) (by decide +kernel), List.mem_of_getElem? (i := 1377) (by decide +kernel), List.mem_of_getElem? (i := 1378) (by decide +kernel)⟩
theorem lw_p55 : lw_okq (⟨"FigureKneeModel", "must", "(Ljava/lang/String;)V"⟩, 42) := ⟨⟨by decide +kernel, by decide +kernel⟩, List.mem_of_getElem? (i := 1187) (by decide +kernel), List.mem_of_getElem? (i := 1381) (by decide +kernel), List.mem_of_getElem? (i := 1382) (by decide +kernel)⟩
theorem lw_p56 : lw_okq (⟨"FigureKneeModel", "takesWord", "(Ljava/lang/String;)Z"⟩, 42) := ⟨⟨by decide +kernel, by decide +kernel⟩, List.mem_of_getElem? (i := 1187) (by decide +kernel), List.mem_of_getElem? (i := 1385) (by decide +kernel), List.mem_of_getElem? (i := 1386) (by decide +kernel)⟩
theorem lw_p57 : lw_okq (⟨"FigureKneeModel", "numbe\x72", "(II)I"⟩, 42) := ⟨⟨by decide +kernel, by decide +kernel⟩, List.mem_of_getElem? (i := 1187) (by decide +kernel), List.mem_of_getElem? (i := 1389) (by decide +kernel), List.mem_of_getElem? (i := 1390) (by decide +kernel)⟩
theorem lw_p58 : lw_okq (⟨"FigureKneeModel", "numberHere", "(II)I"⟩, 42) := ⟨⟨by decide +kernel, by decide +kernel⟩, List.mem_of_getElem? (i := 1187) (by decide +kernel), List.mem_of_getElem? (i := 1393) (by decide +kernel), List.mem_of_getElem? (i := 1394) (by decide +kernel)⟩
theorem lw_p59 : lw_okq (⟨"FigureKneeModel", "pass", "()V"⟩, 42) := ⟨⟨by decide +kernel, by decide +kernel⟩, List.mem_of_getElem? (i := 1187) (by decide +kernel), List.mem_of_getElem? (i := 1397) (by decide +kernel), List.mem_of_getElem? (i := 1398) (by decide +kernel)⟩
theorem lw_p60 : lw_okq (⟨"FigureKneeModel", "begins", "(Ljava/lang/String;Z)Z"⟩, 42) := ⟨⟨by decide +kernel, by decide +kernel⟩, List.mem_of_getElem? (i := 1187) (by decide +kernel), List.mem_of_getElem? (i := 1403) (by decide +kernel), List.mem_of_getElem? (i := 1404) (by decide +kernel)⟩
theorem lw_p61 : lw_okq (⟨"FigureKneeModel", "pairLine", "()V"⟩, 42) := ⟨⟨by decide +kernel, by decide +kernel⟩, List.mem_of_getElem? (i := 1187) (by decide +kernel), List.mem_of_getElem? (i := 1407) (by decide +kernel), List.mem_of_getElem? (i := 1408) (by decide +kernel)⟩
theorem lw_p62 : lw_okq (⟨"FigureKneeModel", "newName", "(I)V"⟩, 42) := ⟨⟨by decide +kernel, by decide +kernel⟩, List.mem_of_getElem? (i := 1187) (by decide +kernel), List.mem_of_getElem? (i := 1411) (by decide +kernel), List.mem_of_getElem? (i := 1412) (by decide +kernel)⟩
theorem lw_p63 : lw_okq (⟨"FigureKneeModel", "mustName", "()V"⟩, 42) := ⟨⟨by decide +kernel, by decide +kernel⟩, List.mem_of_getElem? (i := 1187) (by decide +kernel), List.mem_of_getElem? (i := 1415) (by decide +kernel), List.mem_of_getElem? (i := 1416) (by decide +kernel)⟩
def lw_privs_4 : List (MethodName × Nat) := [(⟨"FigureKneeModel", "next", "()V"⟩, 42), (⟨"FigureKneeModel", "see", "(I)I"⟩, 42), (⟨"FigureKneeModel", "readLine", "()V"⟩, 42), (⟨"FigureKneeModel", "isWord", "(Ljava/lang/String;)Z"⟩, 42), (⟨"FigureKneeModel", "pierLine", "()V"⟩, 42), (⟨"FigureKneeModel", "wrong", "(II)V"⟩, 42), (⟨"FigureKneeModel", "afte\x72", "(Ljava/lang/String;II)I"⟩, 42), (⟨"FigureKneeModel", "must", "(Ljava/lang/String;)V"⟩, 42), (⟨"FigureKneeModel", "takesWord", "(Ljava/lang/String;)Z"⟩, 42), (⟨"FigureKneeModel", "numbe\x72", "(II)I"⟩, 42), (⟨"FigureKneeModel", "numberHere", "(II)I"⟩, 42), (⟨"FigureKneeModel", "pass", "()V"⟩, 42), (⟨"FigureKneeModel", "begins", "(Ljava/lang/String;Z)Z"⟩, 42), (⟨"FigureKneeModel", "pairLine", "()V"⟩, 42), (⟨"FigureKneeModel", "newName", "(I)V"⟩, 42), (⟨"FigureKneeModel", "mustName", "()V"⟩, 42)]
theorem lw_r4 : ∀ q ∈ lw_privs_4, lw_okq q := List.forall_mem_cons.mpr ⟨lw_p48, List.forall_mem_cons.mpr ⟨lw_p49, List.forall_mem_cons.mpr ⟨lw_p50, List.forall_mem_cons.mpr ⟨lw_p51, List.forall_mem_cons.mpr ⟨lw_p52, List.forall_mem_cons.mpr ⟨lw_p53, List.forall_mem_cons.mpr ⟨lw_p54, List.forall_mem_cons.mpr ⟨lw_p55, List.forall_mem_cons.mpr ⟨lw_p56, List.forall_mem_cons.mpr ⟨lw_p57, List.forall_mem_cons.mpr ⟨lw_p58, List.forall_mem_cons.mpr ⟨lw_p59, List.forall_mem_cons.mpr ⟨lw_p60, List.forall_mem_cons.mpr ⟨lw_p61, List.forall_mem_cons.mpr ⟨lw_p62, List.forall_mem_cons.mpr ⟨lw_p63, fun _ h => absurd h List.not_mem_nil⟩⟩⟩⟩⟩⟩⟩⟩⟩⟩⟩⟩⟩⟩⟩⟩
theorem lw_p64 : lw_okq (⟨"FigureKneeModel", "find", "()I"⟩, 42) := ⟨⟨by decide +kernel, by decide +kernel⟩, List.mem_of_getElem? (i := 1187) (by decide +kernel), List.mem_of_getElem? (i := 1423) (by decide +kernel), List.mem_of_getElem? (i := 1424) (by decide +kernel)⟩
theorem lw_p65 : lw_okq (⟨"FigureKneeModel", "contractLine", "()V"⟩, 42) := ⟨⟨by decide +kernel, by decide +kernel⟩, List.mem_of_getElem? (i := 1187) (by decide +kernel), List.mem_of_getElem? (i := 1433) (by decide +kernel), List.mem_of_getElem? (i := 1434) (by decide +kernel)⟩
theorem lw_p66 : lw_okq (⟨"FigureKneeModel", "pairHere", "()I"⟩, 42) := ⟨⟨by decide +kernel, by decide +kernel⟩, List.mem_of_getElem? (i := 1187) (by decide +kernel), List.mem_of_getElem? (i := 1437) (by decide +kernel), List.mem_of_getElem? (i := 1438) (by decide +kernel)⟩
theorem lw_p67 : lw_okq (⟨"FigureKneeModel", "debtLine", "()V"⟩, 42) := ⟨⟨by decide +kernel, by decide +kernel⟩, List.mem_of_getElem? (i := 1187) (by decide +kernel), List.mem_of_getElem? (i := 1442) (by decide +kernel), List.mem_of_getElem? (i := 1443) (by decide +kernel)⟩
theorem lw_p68 : lw_okq (⟨"FigureKneeModel", "unsureLine", "()V"⟩, 42) := ⟨⟨by decide +kernel, by decide +kernel⟩, List.mem_of_getElem? (i := 1187) (by decide +kernel), List.mem_of_getElem? (i := 1446) (by decide +kernel), List.mem_of_getElem? (i := 1447) (by decide +kernel)⟩
theorem lw_p69 : lw_okq (⟨"FigureKneeModel", "heardLine", "()V"⟩, 42) := ⟨⟨by decide +kernel, by decide +kernel⟩, List.mem_of_getElem? (i := 1187) (by decide +kernel), List.mem_of_getElem? (i := 1450) (by decide +kernel), List.mem_of_getElem? (i := 1451) (by decide +kernel)⟩
theorem lw_p70 : lw_okq (⟨"FigureKneeModel", "isPai\x72", "(I)Z"⟩, 42) := ⟨⟨by decide +kernel, by decide +kernel⟩, List.mem_of_getElem? (i := 1187) (by decide +kernel), List.mem_of_getElem? (i := 1470) (by decide +kernel), List.mem_of_getElem? (i := 1471) (by decide +kernel)⟩
theorem lw_p71 : lw_okq (⟨"FigureKneeModel", "isMore", "(I)Z"⟩, 42) := ⟨⟨by decide +kernel, by decide +kernel⟩, List.mem_of_getElem? (i := 1187) (by decide +kernel), List.mem_of_getElem? (i := 1474) (by decide +kernel), List.mem_of_getElem? (i := 1475) (by decide +kernel)⟩
theorem lw_p72 : lw_okq (⟨"FigureKneeModel", "aheadWhy", "(ZI)I"⟩, 42) := ⟨⟨by decide +kernel, by decide +kernel⟩, List.mem_of_getElem? (i := 1187) (by decide +kernel), List.mem_of_getElem? (i := 1482) (by decide +kernel), List.mem_of_getElem? (i := 1483) (by decide +kernel)⟩
theorem lw_p73 : lw_okq (⟨"FigureKneeModel", "why", "(ZZ)I"⟩, 42) := ⟨⟨by decide +kernel, by decide +kernel⟩, List.mem_of_getElem? (i := 1187) (by decide +kernel), List.mem_of_getElem? (i := 1486) (by decide +kernel), List.mem_of_getElem? (i := 1487) (by decide +kernel)⟩
theorem lw_p74 : lw_okq (⟨"FigureKneeModel", "saysIn", "(II)I"⟩, 42) := ⟨⟨by decide +kernel, by decide +kernel⟩, List.mem_of_getElem? (i := 1187) (by decide +kernel), List.mem_of_getElem? (i := 1490) (by decide +kernel), List.mem_of_getElem? (i := 1491) (by decide +kernel)⟩
theorem lw_p75 : lw_okq (⟨"FigureKneeModel", "saysBy", "(IIII)I"⟩, 42) := ⟨⟨by decide +kernel, by decide +kernel⟩, List.mem_of_getElem? (i := 1187) (by decide +kernel), List.mem_of_getElem? (i := 1494) (by decide +kernel), List.mem_of_getElem? (i := 1495) (by decide +kernel)⟩
theorem lw_p76 : lw_okq (⟨"FigureKneeModel", "behind", "(IIIIIZ)I"⟩, 42) := ⟨⟨by decide +kernel, by decide +kernel⟩, List.mem_of_getElem? (i := 1187) (by decide +kernel), List.mem_of_getElem? (i := 1498) (by decide +kernel), List.mem_of_getElem? (i := 1499) (by decide +kernel)⟩
theorem lw_p77 : lw_okq (⟨"FigureKneeModel", "byLaw", "(III)I"⟩, 42) := ⟨⟨by decide +kernel, by decide +kernel⟩, List.mem_of_getElem? (i := 1187) (by decide +kernel), List.mem_of_getElem? (i := 1502) (by decide +kernel), List.mem_of_getElem? (i := 1503) (by decide +kernel)⟩
theorem lw_p78 : lw_okq (⟨"FigureKneeModel", "within", "(I)I"⟩, 42) := ⟨⟨by decide +kernel, by decide +kernel⟩, List.mem_of_getElem? (i := 1187) (by decide +kernel), List.mem_of_getElem? (i := 1506) (by decide +kernel), List.mem_of_getElem? (i := 1507) (by decide +kernel)⟩
theorem lw_p79 : lw_okq (⟨"FigureKneeModel", "goRound", "(I)V"⟩, 42) := ⟨⟨by decide +kernel, by decide +kernel⟩, List.mem_of_getElem? (i := 1187) (by decide +kernel), List.mem_of_getElem? (i := 1526) (by decide +kernel), List.mem_of_getElem? (i := 1527) (by decide +kernel)⟩
def lw_privs_5 : List (MethodName × Nat) := [(⟨"FigureKneeModel", "find", "()I"⟩, 42), (⟨"FigureKneeModel", "contractLine", "()V"⟩, 42), (⟨"FigureKneeModel", "pairHere", "()I"⟩, 42), (⟨"FigureKneeModel", "debtLine", "()V"⟩, 42), (⟨"FigureKneeModel", "unsureLine", "()V"⟩, 42), (⟨"FigureKneeModel", "heardLine", "()V"⟩, 42), (⟨"FigureKneeModel", "isPai\x72", "(I)Z"⟩, 42), (⟨"FigureKneeModel", "isMore", "(I)Z"⟩, 42), (⟨"FigureKneeModel", "aheadWhy", "(ZI)I"⟩, 42), (⟨"FigureKneeModel", "why", "(ZZ)I"⟩, 42), (⟨"FigureKneeModel", "saysIn", "(II)I"⟩, 42), (⟨"FigureKneeModel", "saysBy", "(IIII)I"⟩, 42), (⟨"FigureKneeModel", "behind", "(IIIIIZ)I"⟩, 42), (⟨"FigureKneeModel", "byLaw", "(III)I"⟩, 42), (⟨"FigureKneeModel", "within", "(I)I"⟩, 42), (⟨"FigureKneeModel", "goRound", "(I)V"⟩, 42)]
theorem lw_r5 : ∀ q ∈ lw_privs_5, lw_okq q := List.forall_mem_cons.mpr ⟨lw_p64, List.forall_mem_cons.mpr ⟨lw_p65, List.forall_mem_cons.mpr ⟨lw_p66, List.forall_mem_cons.mpr ⟨lw_p67, List.forall_mem_cons.mpr ⟨lw_p68, List.forall_mem_cons.mpr ⟨lw_p69, List.forall_mem_cons.mpr ⟨lw_p70, List.forall_mem_cons.mpr ⟨lw_p71, List.forall_mem_cons.mpr ⟨lw_p72, List.forall_mem_cons.mpr ⟨lw_p73, List.forall_mem_cons.mpr ⟨lw_p74, List.forall_mem_cons.mpr ⟨lw_p75, List.forall_mem_cons.mpr ⟨lw_p76, List.forall_mem_cons.mpr ⟨lw_p77, List.forall_mem_cons.mpr ⟨lw_p78, List.forall_mem_cons.mpr ⟨lw_p79, fun _ h => absurd h List.not_mem_nil⟩⟩⟩⟩⟩⟩⟩⟩⟩⟩⟩⟩⟩⟩⟩⟩
theorem lw_p80 : lw_okq (⟨"FigureKneeModel", "isRoundOf", "(I)Z"⟩, 42) := ⟨⟨by decide +kernel, by decide +kernel⟩, List.mem_of_getElem? (i := 1187) (by decide +kernel), List.mem_of_getElem? (i := 1530) (by decide +kernel), List.mem_of_getElem? (i := 1531) (by decide +kernel)⟩
theorem lw_p81 : lw_okq (⟨"FigureKneeModel", "extremeOf", "(II)I"⟩, 42) := ⟨⟨by decide +kernel, by decide +kernel⟩, List.mem_of_getElem? (i := 1187) (by decide +kernel), List.mem_of_getElem? (i := 1547) (by decide +kernel), List.mem_of_getElem? (i := 1548) (by decide +kernel)⟩
theorem lw_p82 : lw_okq (⟨"FigureKneeModel", "areTwo", "(II)Z"⟩, 42) := ⟨⟨by decide +kernel, by decide +kernel⟩, List.mem_of_getElem? (i := 1187) (by decide +kernel), List.mem_of_getElem? (i := 1563) (by decide +kernel), List.mem_of_getElem? (i := 1564) (by decide +kernel)⟩
theorem lw_p83 : lw_okq (⟨"FigureKneeModel", "mastersIn", "(I)I"⟩, 42) := ⟨⟨by decide +kernel, by decide +kernel⟩, List.mem_of_getElem? (i := 1187) (by decide +kernel), List.mem_of_getElem? (i := 1575) (by decide +kernel), List.mem_of_getElem? (i := 1576) (by decide +kernel)⟩
theorem lw_p84 : lw_okq (⟨"FigureKneeModel", "bestEvery", "(II)I"⟩, 42) := ⟨⟨by decide +kernel, by decide +kernel⟩, List.mem_of_getElem? (i := 1187) (by decide +kernel), List.mem_of_getElem? (i := 1595) (by decide +kernel), List.mem_of_getElem? (i := 1596) (by decide +kernel)⟩
theorem lw_p85 : lw_okq (⟨"FigureKneeModel", "isNeverMore", "(II)Z"⟩, 42) := ⟨⟨by decide +kernel, by decide +kernel⟩, List.mem_of_getElem? (i := 1187) (by decide +kernel), List.mem_of_getElem? (i := 1607) (by decide +kernel), List.mem_of_getElem? (i := 1608) (by decide +kernel)⟩
theorem lw_p86 : lw_okq (⟨"FigureKneeModel", "seekSets", "(I)I"⟩, 42) := ⟨⟨by decide +kernel, by decide +kernel⟩, List.mem_of_getElem? (i := 1187) (by decide +kernel), List.mem_of_getElem? (i := 1619) (by decide +kernel), List.mem_of_getElem? (i := 1620) (by decide +kernel)⟩
theorem lw_p87 : lw_okq (⟨"FigureKneeModel", "wrongBy", "(I)I"⟩, 42) := ⟨⟨by decide +kernel, by decide +kernel⟩, List.mem_of_getElem? (i := 1187) (by decide +kernel), List.mem_of_getElem? (i := 1623) (by decide +kernel), List.mem_of_getElem? (i := 1624) (by decide +kernel)⟩
theorem lw_p88 : lw_okq (⟨"FigureKneeModel", "saidThen", "(III)I"⟩, 42) := ⟨⟨by decide +kernel, by decide +kernel⟩, List.mem_of_getElem? (i := 1187) (by decide +kernel), List.mem_of_getElem? (i := 1627) (by decide +kernel), List.mem_of_getElem? (i := 1628) (by decide +kernel)⟩
theorem lw_p89 : lw_okq (⟨"FigureKneeModel", "stepBy", "(II)I"⟩, 42) := ⟨⟨by decide +kernel, by decide +kernel⟩, List.mem_of_getElem? (i := 1187) (by decide +kernel), List.mem_of_getElem? (i := 1631) (by decide +kernel), List.mem_of_getElem? (i := 1632) (by decide +kernel)⟩
theorem lw_p90 : lw_okq (⟨"FigureKneeModel", "askOf", "()I"⟩, 42) := ⟨⟨by decide +kernel, by decide +kernel⟩, List.mem_of_getElem? (i := 1187) (by decide +kernel), List.mem_of_getElem? (i := 1654) (by decide +kernel), List.mem_of_getElem? (i := 1655) (by decide +kernel)⟩
theorem lw_p91 : lw_okq (⟨"FigureKneeModel", "leavesOf", "(I)I"⟩, 42) := ⟨⟨by decide +kernel, by decide +kernel⟩, List.mem_of_getElem? (i := 1187) (by decide +kernel), List.mem_of_getElem? (i := 1658) (by decide +kernel), List.mem_of_getElem? (i := 1659) (by decide +kernel)⟩
theorem lw_p92 : lw_okq (⟨"FigureKneeModel", "debtOf", "(II)I"⟩, 42) := ⟨⟨by decide +kernel, by decide +kernel⟩, List.mem_of_getElem? (i := 1187) (by decide +kernel), List.mem_of_getElem? (i := 1678) (by decide +kernel), List.mem_of_getElem? (i := 1679) (by decide +kernel)⟩
theorem lw_p93 : lw_okq (⟨"FigureKneeModel", "netOf", "(I)I"⟩, 42) := ⟨⟨by decide +kernel, by decide +kernel⟩, List.mem_of_getElem? (i := 1187) (by decide +kernel), List.mem_of_getElem? (i := 1686) (by decide +kernel), List.mem_of_getElem? (i := 1687) (by decide +kernel)⟩
theorem lw_p94 : lw_okq (⟨"FigureKneeModel", "groupsOf", "(I)I"⟩, 42) := ⟨⟨by decide +kernel, by decide +kernel⟩, List.mem_of_getElem? (i := 1187) (by decide +kernel), List.mem_of_getElem? (i := 1706) (by decide +kernel), List.mem_of_getElem? (i := 1707) (by decide +kernel)⟩
theorem lw_p95 : lw_okq (⟨"FigureKneeModel", "netsOf", "(I)I"⟩, 42) := ⟨⟨by decide +kernel, by decide +kernel⟩, List.mem_of_getElem? (i := 1187) (by decide +kernel), List.mem_of_getElem? (i := 1710) (by decide +kernel), List.mem_of_getElem? (i := 1711) (by decide +kernel)⟩
def lw_privs_6 : List (MethodName × Nat) := [(⟨"FigureKneeModel", "isRoundOf", "(I)Z"⟩, 42), (⟨"FigureKneeModel", "extremeOf", "(II)I"⟩, 42), (⟨"FigureKneeModel", "areTwo", "(II)Z"⟩, 42), (⟨"FigureKneeModel", "mastersIn", "(I)I"⟩, 42), (⟨"FigureKneeModel", "bestEvery", "(II)I"⟩, 42), (⟨"FigureKneeModel", "isNeverMore", "(II)Z"⟩, 42), (⟨"FigureKneeModel", "seekSets", "(I)I"⟩, 42), (⟨"FigureKneeModel", "wrongBy", "(I)I"⟩, 42), (⟨"FigureKneeModel", "saidThen", "(III)I"⟩, 42), (⟨"FigureKneeModel", "stepBy", "(II)I"⟩, 42), (⟨"FigureKneeModel", "askOf", "()I"⟩, 42), (⟨"FigureKneeModel", "leavesOf", "(I)I"⟩, 42), (⟨"FigureKneeModel", "debtOf", "(II)I"⟩, 42), (⟨"FigureKneeModel", "netOf", "(I)I"⟩, 42), (⟨"FigureKneeModel", "groupsOf", "(I)I"⟩, 42), (⟨"FigureKneeModel", "netsOf", "(I)I"⟩, 42)]
theorem lw_r6 : ∀ q ∈ lw_privs_6, lw_okq q := List.forall_mem_cons.mpr ⟨lw_p80, List.forall_mem_cons.mpr ⟨lw_p81, List.forall_mem_cons.mpr ⟨lw_p82, List.forall_mem_cons.mpr ⟨lw_p83, List.forall_mem_cons.mpr ⟨lw_p84, List.forall_mem_cons.mpr ⟨lw_p85, List.forall_mem_cons.mpr ⟨lw_p86, List.forall_mem_cons.mpr ⟨lw_p87, List.forall_mem_cons.mpr ⟨lw_p88, List.forall_mem_cons.mpr ⟨lw_p89, List.forall_mem_cons.mpr ⟨lw_p90, List.forall_mem_cons.mpr ⟨lw_p91, List.forall_mem_cons.mpr ⟨lw_p92, List.forall_mem_cons.mpr ⟨lw_p93, List.forall_mem_cons.mpr ⟨lw_p94, List.forall_mem_cons.mpr ⟨lw_p95, fun _ h => absurd h List.not_mem_nil⟩⟩⟩⟩⟩⟩⟩⟩⟩⟩⟩⟩⟩⟩⟩⟩
theorem lw_p96 : lw_okq (⟨"FigureKneeModel", "seekRing", "(I)Z"⟩, 42) := ⟨⟨by decide +kernel, by decide +kernel⟩, List.mem_of_getElem? (i := 1187) (by decide +kernel), List.mem_of_getElem? (i := 1718) (by decide +kernel), List.mem_of_getElem? (i := 1719) (by decide +kernel)⟩
theorem lw_p97 : lw_okq (⟨"FigureKneeModel", "tryRing", "(II)V"⟩, 42) := ⟨⟨by decide +kernel, by decide +kernel⟩, List.mem_of_getElem? (i := 1187) (by decide +kernel), List.mem_of_getElem? (i := 1723) (by decide +kernel), List.mem_of_getElem? (i := 1724) (by decide +kernel)⟩
theorem lw_p98 : lw_okq (⟨"FigureKneeModel", "seekRests", "(I)I"⟩, 42) := ⟨⟨by decide +kernel, by decide +kernel⟩, List.mem_of_getElem? (i := 1187) (by decide +kernel), List.mem_of_getElem? (i := 1742) (by decide +kernel), List.mem_of_getElem? (i := 1743) (by decide +kernel)⟩
theorem lw_p99 : lw_okq (⟨"FigureKneeModel", "verdictOf", "()I"⟩, 42) := ⟨⟨by decide +kernel, by decide +kernel⟩, List.mem_of_getElem? (i := 1187) (by decide +kernel), List.mem_of_getElem? (i := 1754) (by decide +kernel), List.mem_of_getElem? (i := 1755) (by decide +kernel)⟩
theorem lw_p100 : lw_okq (⟨"FigureKneeModel", "lookWhy", "(ZII)I"⟩, 42) := ⟨⟨by decide +kernel, by decide +kernel⟩, List.mem_of_getElem? (i := 1187) (by decide +kernel), List.mem_of_getElem? (i := 1765) (by decide +kernel), List.mem_of_getElem? (i := 1766) (by decide +kernel)⟩
theorem lw_p101 : lw_okq (⟨"FigureKneeModel", "tryDumb", "(III)V"⟩, 42) := ⟨⟨by decide +kernel, by decide +kernel⟩, List.mem_of_getElem? (i := 1187) (by decide +kernel), List.mem_of_getElem? (i := 1779) (by decide +kernel), List.mem_of_getElem? (i := 1780) (by decide +kernel)⟩
theorem lw_p102 : lw_okq (⟨"FigureKneeModel", "note", "()V"⟩, 42) := ⟨⟨by decide +kernel, by decide +kernel⟩, List.mem_of_getElem? (i := 1187) (by decide +kernel), List.mem_of_getElem? (i := 1795) (by decide +kernel), List.mem_of_getElem? (i := 1796) (by decide +kernel)⟩
theorem lw_p103 : lw_okq (⟨"FigureKneeModel", "isNot", "(I)Z"⟩, 42) := ⟨⟨by decide +kernel, by decide +kernel⟩, List.mem_of_getElem? (i := 1187) (by decide +kernel), List.mem_of_getElem? (i := 1807) (by decide +kernel), List.mem_of_getElem? (i := 1808) (by decide +kernel)⟩
def lw_privs_7 : List (MethodName × Nat) := [(⟨"FigureKneeModel", "seekRing", "(I)Z"⟩, 42), (⟨"FigureKneeModel", "tryRing", "(II)V"⟩, 42), (⟨"FigureKneeModel", "seekRests", "(I)I"⟩, 42), (⟨"FigureKneeModel", "verdictOf", "()I"⟩, 42), (⟨"FigureKneeModel", "lookWhy", "(ZII)I"⟩, 42), (⟨"FigureKneeModel", "tryDumb", "(III)V"⟩, 42), (⟨"FigureKneeModel", "note", "()V"⟩, 42), (⟨"FigureKneeModel", "isNot", "(I)Z"⟩, 42)]
theorem lw_r7 : ∀ q ∈ lw_privs_7, lw_okq q := List.forall_mem_cons.mpr ⟨lw_p96, List.forall_mem_cons.mpr ⟨lw_p97, List.forall_mem_cons.mpr ⟨lw_p98, List.forall_mem_cons.mpr ⟨lw_p99, List.forall_mem_cons.mpr ⟨lw_p100, List.forall_mem_cons.mpr ⟨lw_p101, List.forall_mem_cons.mpr ⟨lw_p102, List.forall_mem_cons.mpr ⟨lw_p103, fun _ h => absurd h List.not_mem_nil⟩⟩⟩⟩⟩⟩⟩⟩
def lw_privs : List (MethodName × Nat) := lw_privs_1 ++ (lw_privs_2 ++ (lw_privs_3 ++ (lw_privs_4 ++ (lw_privs_5 ++ (lw_privs_6 ++ (lw_privs_7))))))
def lw_tbl : List Cond := k2_sels lw_privs ++ tables_1
theorem lw_privs_ok : ∀ q ∈ lw_privs, lw_okq q := by
  show ∀ q ∈ lw_privs_1 ++ (lw_privs_2 ++ (lw_privs_3 ++ (lw_privs_4 ++ (lw_privs_5 ++ (lw_privs_6 ++ (lw_privs_7)))))), lw_okq q
  exact List.forall_mem_append.mpr ⟨lw_r1, List.forall_mem_append.mpr ⟨lw_r2, List.forall_mem_append.mpr ⟨lw_r3, List.forall_mem_append.mpr ⟨lw_r4, List.forall_mem_append.mpr ⟨lw_r5, List.forall_mem_append.mpr ⟨lw_r6, lw_r7⟩⟩⟩⟩⟩⟩
-- names, fields, types
def kR0 : String := "FigureKnee$Books"
def kF0 : u_T := fun k => match k with
  | 0 => ("FigureKnee$Books", "pairs", "I", false)
  | 1 => ("FigureKnee$Books", "nets", "[I", true)
  | 2 => ("FigureKnee$Books", "sums", "[I", true)
  | 3 => ("FigureKnee$Books", "groups", "[I", true)
  | 4 => ("FigureKnee$Books", "debtsHome", "[I", true)
  | 5 => ("FigureKnee$Books", "ringRow", "[I", true)
  | _ => ("FigureKnee$Books", "ringLength", "I", false)
def kt0 : Nat → FieldType := fun k => match k with
  | 0 => .int
  | 1 => .array .int
  | 2 => .array .int
  | 3 => .array .int
  | 4 => .array .int
  | 5 => .array .int
  | _ => .int
theorem kn0 : ∀ a, a < 7 → ∀ b, b < 7 → a ≠ b → (kF0 a).2.1 ≠ (kF0 b).2.1 := by decide +kernel
theorem kto0 : ∀ k, k < 7 → parseFieldDescriptor (kF0 k).2.2.1 = some (kt0 k) := by decide +kernel
def kR1 : String := "FigureKnee$Fitting"
def kF1 : u_T := fun k => match k with
  | 0 => ("FigureKnee$Fitting", "walk", "LFigureKnee$Walk;", true)
  | 1 => ("FigureKnee$Fitting", "asTold", "[I", true)
  | 2 => ("FigureKnee$Fitting", "asOthe\x72", "[I", true)
  | 3 => ("FigureKnee$Fitting", "sets", "[I", true)
  | _ => ("FigureKnee$Fitting", "count", "I", false)
def kt1 : Nat → FieldType := fun k => match k with
  | 0 => .object "FigureKnee$Walk"
  | 1 => .array .int
  | 2 => .array .int
  | 3 => .array .int
  | _ => .int
theorem kn1 : ∀ a, a < 5 → ∀ b, b < 5 → a ≠ b → (kF1 a).2.1 ≠ (kF1 b).2.1 := by decide +kernel
theorem kto1 : ∀ k, k < 5 → parseFieldDescriptor (kF1 k).2.2.1 = some (kt1 k) := by decide +kernel
def kR2 : String := "FigureKnee$Gallery"
def kF2 : u_T := fun k => match k with
  | 0 => ("FigureKnee$Gallery", "looked", "[I", true)
  | 1 => ("FigureKnee$Gallery", "hits", "I", false)
  | _ => ("FigureKnee$Gallery", "outcomes", "I", false)
def kt2 : Nat → FieldType := fun k => match k with
  | 0 => .array .int
  | 1 => .int
  | _ => .int
theorem kn2 : ∀ a, a < 3 → ∀ b, b < 3 → a ≠ b → (kF2 a).2.1 ≠ (kF2 b).2.1 := by decide +kernel
theorem kto2 : ∀ k, k < 3 → parseFieldDescriptor (kF2 k).2.2.1 = some (kt2 k) := by decide +kernel
def kR3 : String := "FigureKnee$History"
def kF3 : u_T := fun k => match k with
  | 0 => ("FigureKnee$History", "rows", "[[I", true)
  | 1 => ("FigureKnee$History", "free", "I", false)
  | _ => ("FigureKnee$History", "count", "I", false)
def kt3 : Nat → FieldType := fun k => match k with
  | 0 => .array (.array .int)
  | 1 => .int
  | _ => .int
theorem kn3 : ∀ a, a < 3 → ∀ b, b < 3 → a ≠ b → (kF3 a).2.1 ≠ (kF3 b).2.1 := by decide +kernel
theorem kto3 : ∀ k, k < 3 → parseFieldDescriptor (kF3 k).2.2.1 = some (kt3 k) := by decide +kernel
def kR4 : String := "FigureKnee$Now"
def kF4 : u_T := fun k => match k with
  | 0 => ("FigureKnee$Now", "seasons", "I", false)
  | 1 => ("FigureKnee$Now", "figures", "[I", true)
  | 2 => ("FigureKnee$Now", "steps", "[I", true)
  | _ => ("FigureKnee$Now", "owed", "[I", true)
def kt4 : Nat → FieldType := fun k => match k with
  | 0 => .int
  | 1 => .array .int
  | 2 => .array .int
  | _ => .array .int
theorem kn4 : ∀ a, a < 4 → ∀ b, b < 4 → a ≠ b → (kF4 a).2.1 ≠ (kF4 b).2.1 := by decide +kernel
theorem kto4 : ∀ k, k < 4 → parseFieldDescriptor (kF4 k).2.2.1 = some (kt4 k) := by decide +kernel
def kR5 : String := "FigureKnee$Pie\x72"
def kF5 : u_T := fun k => match k with
  | 0 => ("FigureKnee$Pie\x72", "words", "I", false)
  | 1 => ("FigureKnee$Pie\x72", "dumb", "I", false)
  | 2 => ("FigureKnee$Pie\x72", "pairs", "I", false)
  | 3 => ("FigureKnee$Pie\x72", "contracts", "I", false)
  | 4 => ("FigureKnee$Pie\x72", "debts", "I", false)
  | 5 => ("FigureKnee$Pie\x72", "unsures", "I", false)
  | 6 => ("FigureKnee$Pie\x72", "heards", "I", false)
  | 7 => ("FigureKnee$Pie\x72", "laws", "[I", true)
  | 8 => ("FigureKnee$Pie\x72", "figures", "[I", true)
  | 9 => ("FigureKnee$Pie\x72", "steps", "[I", true)
  | 10 => ("FigureKnee$Pie\x72", "everies", "[I", true)
  | 11 => ("FigureKnee$Pie\x72", "owed", "[I", true)
  | 12 => ("FigureKnee$Pie\x72", "unsurePairs", "[I", true)
  | 13 => ("FigureKnee$Pie\x72", "unsureSteps", "[I", true)
  | 14 => ("FigureKnee$Pie\x72", "heardPairs", "[I", true)
  | 15 => ("FigureKnee$Pie\x72", "heardSeasons", "[I", true)
  | _ => ("FigureKnee$Pie\x72", "heardFigures", "[I", true)
def kt5 : Nat → FieldType := fun k => match k with
  | 0 => .int
  | 1 => .int
  | 2 => .int
  | 3 => .int
  | 4 => .int
  | 5 => .int
  | 6 => .int
  | 7 => .array .int
  | 8 => .array .int
  | 9 => .array .int
  | 10 => .array .int
  | 11 => .array .int
  | 12 => .array .int
  | 13 => .array .int
  | 14 => .array .int
  | 15 => .array .int
  | _ => .array .int
theorem kn5 : ∀ a, a < 17 → ∀ b, b < 17 → a ≠ b → (kF5 a).2.1 ≠ (kF5 b).2.1 := by decide +kernel
theorem kto5 : ∀ k, k < 17 → parseFieldDescriptor (kF5 k).2.2.1 = some (kt5 k) := by decide +kernel
def kR6 : String := "FigureKnee$Ratio"
def kF6 : u_T := fun k => match k with
  | 0 => ("FigureKnee$Ratio", "uppe\x72", "J", false)
  | _ => ("FigureKnee$Ratio", "lowe\x72", "J", false)
def kt6 : Nat → FieldType := fun k => match k with
  | 0 => .long
  | _ => .long
theorem kn6 : ∀ a, a < 2 → ∀ b, b < 2 → a ≠ b → (kF6 a).2.1 ≠ (kF6 b).2.1 := by decide +kernel
theorem kto6 : ∀ k, k < 2 → parseFieldDescriptor (kF6 k).2.2.1 = some (kt6 k) := by decide +kernel
def kR7 : String := "FigureKnee$Reade\x72"
def kF7 : u_T := fun k => match k with
  | 0 => ("FigureKnee$Reade\x72", "text", "[B", true)
  | 1 => ("FigureKnee$Reade\x72", "end", "I", false)
  | 2 => ("FigureKnee$Reade\x72", "place", "I", false)
  | 3 => ("FigureKnee$Reade\x72", "kind", "I", false)
  | 4 => ("FigureKnee$Reade\x72", "start", "I", false)
  | 5 => ("FigureKnee$Reade\x72", "whole", "I", false)
  | 6 => ("FigureKnee$Reade\x72", "pie\x72", "LFigureKnee$Pier;", false)
  | 7 => ("FigureKnee$Reade\x72", "nameStarts", "[I", true)
  | 8 => ("FigureKnee$Reade\x72", "nameLengths", "[I", true)
  | 9 => ("FigureKnee$Reade\x72", "faultNumbe\x72", "I", false)
  | _ => ("FigureKnee$Reade\x72", "faultPlace", "I", false)
def kt7 : Nat → FieldType := fun k => match k with
  | 0 => .array .byte
  | 1 => .int
  | 2 => .int
  | 3 => .int
  | 4 => .int
  | 5 => .int
  | 6 => .object "FigureKnee$Pie\x72"
  | 7 => .array .int
  | 8 => .array .int
  | 9 => .int
  | _ => .int
theorem kn7 : ∀ a, a < 11 → ∀ b, b < 11 → a ≠ b → (kF7 a).2.1 ≠ (kF7 b).2.1 := by decide +kernel
theorem kto7 : ∀ k, k < 11 → parseFieldDescriptor (kF7 k).2.2.1 = some (kt7 k) := by decide +kernel
def kR8 : String := "FigureKnee$Rounds"
def kF8 : u_T := fun k => match k with
  | 0 => ("FigureKnee$Rounds", "seen", "[I", true)
  | 1 => ("FigureKnee$Rounds", "values", "[I", true)
  | 2 => ("FigureKnee$Rounds", "first", "I", false)
  | _ => ("FigureKnee$Rounds", "length", "I", false)
def kt8 : Nat → FieldType := fun k => match k with
  | 0 => .array .int
  | 1 => .array .int
  | 2 => .int
  | _ => .int
theorem kn8 : ∀ a, a < 4 → ∀ b, b < 4 → a ≠ b → (kF8 a).2.1 ≠ (kF8 b).2.1 := by decide +kernel
theorem kto8 : ∀ k, k < 4 → parseFieldDescriptor (kF8 k).2.2.1 = some (kt8 k) := by decide +kernel
def kR9 : String := "FigureKnee$Walk"
def kF9 : u_T := fun k => match k with
  | 0 => ("FigureKnee$Walk", "words", "I", false)
  | 1 => ("FigureKnee$Walk", "law", "I", false)
  | 2 => ("FigureKnee$Walk", "step", "I", false)
  | 3 => ("FigureKnee$Walk", "every", "I", false)
  | 4 => ("FigureKnee$Walk", "figure", "I", false)
  | _ => ("FigureKnee$Walk", "seasons", "I", false)
def kt9 : Nat → FieldType := fun k => match k with
  | 0 => .int
  | 1 => .int
  | 2 => .int
  | 3 => .int
  | 4 => .int
  | _ => .int
theorem kn9 : ∀ a, a < 6 → ∀ b, b < 6 → a ≠ b → (kF9 a).2.1 ≠ (kF9 b).2.1 := by decide +kernel
theorem kto9 : ∀ k, k < 6 → parseFieldDescriptor (kF9 k).2.2.1 = some (kt9 k) := by decide +kernel
def kR10 : String := "FigureKnee"
def kF10 : u_T := fun k => match k with
  | 0 => ("FigureKnee", "tape", "[B", true)
  | 1 => ("FigureKnee", "tapeLength", "I", false)
  | 2 => ("FigureKnee", "told", "LFigureKnee$Pier;", false)
  | 3 => ("FigureKnee", "draft", "LFigureKnee$Pier;", false)
  | 4 => ("FigureKnee", "reade\x72", "LFigureKnee$Reader;", true)
  | 5 => ("FigureKnee", "standing", "Z", false)
  | 6 => ("FigureKnee", "now", "LFigureKnee$Now;", true)
  | 7 => ("FigureKnee", "history", "LFigureKnee$History;", true)
  | 8 => ("FigureKnee", "images", "[[I", true)
  | 9 => ("FigureKnee", "imageCount", "I", false)
  | 10 => ("FigureKnee", "walk", "LFigureKnee$Walk;", true)
  | 11 => ("FigureKnee", "otherWalk", "LFigureKnee$Walk;", true)
  | 12 => ("FigureKnee", "sayings", "[I", true)
  | 13 => ("FigureKnee", "rounds", "LFigureKnee$Rounds;", true)
  | 14 => ("FigureKnee", "fitting", "LFigureKnee$Fitting;", true)
  | 15 => ("FigureKnee", "books", "LFigureKnee$Books;", true)
  | 16 => ("FigureKnee", "gallery", "LFigureKnee$Gallery;", true)
  | 17 => ("FigureKnee", "ratio", "LFigureKnee$Ratio;", true)
  | _ => ("FigureKnee", "troubleNumbe\x72", "I", false)
def kt10 : Nat → FieldType := fun k => match k with
  | 0 => .array .byte
  | 1 => .int
  | 2 => .object "FigureKnee$Pie\x72"
  | 3 => .object "FigureKnee$Pie\x72"
  | 4 => .object "FigureKnee$Reade\x72"
  | 5 => .boolean
  | 6 => .object "FigureKnee$Now"
  | 7 => .object "FigureKnee$History"
  | 8 => .array (.array .int)
  | 9 => .int
  | 10 => .object "FigureKnee$Walk"
  | 11 => .object "FigureKnee$Walk"
  | 12 => .array .int
  | 13 => .object "FigureKnee$Rounds"
  | 14 => .object "FigureKnee$Fitting"
  | 15 => .object "FigureKnee$Books"
  | 16 => .object "FigureKnee$Gallery"
  | 17 => .object "FigureKnee$Ratio"
  | _ => .int
theorem kn10 : ∀ a, a < 19 → ∀ b, b < 19 → a ≠ b → (kF10 a).2.1 ≠ (kF10 b).2.1 := by decide +kernel
theorem kto10 : ∀ k, k < 19 → parseFieldDescriptor (kF10 k).2.2.1 = some (kt10 k) := by decide +kernel
def kR11 : String := "FigureKneeModel"
def kF11 : u_T := fun k => match k with
  | 0 => ("FigureKneeModel", "thrown", "I", false)
  | 1 => ("FigureKneeModel", "tape", "[I", true)
  | 2 => ("FigureKneeModel", "taped", "I", false)
  | 3 => ("FigureKneeModel", "size", "I", false)
  | 4 => ("FigureKneeModel", "at", "I", false)
  | 5 => ("FigureKneeModel", "end", "I", false)
  | 6 => ("FigureKneeModel", "token", "I", false)
  | 7 => ("FigureKneeModel", "whole", "I", false)
  | 8 => ("FigureKneeModel", "nameSize", "I", false)
  | 9 => ("FigureKneeModel", "fault", "I", false)
  | 10 => ("FigureKneeModel", "place", "I", false)
  | 11 => ("FigureKneeModel", "trouble", "I", false)
  | 12 => ("FigureKneeModel", "letters", "[I", true)
  | 13 => ("FigureKneeModel", "failed", "Z", false)
  | 14 => ("FigureKneeModel", "hasPie\x72", "Z", false)
  | 15 => ("FigureKneeModel", "\x72", "[I", true)
  | 16 => ("FigureKneeModel", "fresh", "[I", true)
  | 17 => ("FigureKneeModel", "told", "[I", true)
  | 18 => ("FigureKneeModel", "read", "[I", true)
  | 19 => ("FigureKneeModel", "st", "[I", true)
  | 20 => ("FigureKneeModel", "undone", "[I", true)
  | 21 => ("FigureKneeModel", "kept", "[I", true)
  | 22 => ("FigureKneeModel", "undos", "I", false)
  | 23 => ("FigureKneeModel", "images", "I", false)
  | 24 => ("FigureKneeModel", "said", "[I", true)
  | 25 => ("FigureKneeModel", "metAt", "[I", true)
  | 26 => ("FigureKneeModel", "stateFrom", "I", false)
  | 27 => ("FigureKneeModel", "stateRound", "I", false)
  | 28 => ("FigureKneeModel", "from", "I", false)
  | 29 => ("FigureKneeModel", "roundLong", "I", false)
  | 30 => ("FigureKneeModel", "often", "[I", true)
  | 31 => ("FigureKneeModel", "setMany", "I", false)
  | 32 => ("FigureKneeModel", "someOf", "I", false)
  | 33 => ("FigureKneeModel", "allOf", "I", false)
  | 34 => ("FigureKneeModel", "way", "[I", true)
  | 35 => ("FigureKneeModel", "ring", "[I", true)
  | 36 => ("FigureKneeModel", "ringMany", "I", false)
  | 37 => ("FigureKneeModel", "firstRest", "I", false)
  | 38 => ("FigureKneeModel", "looked", "[I", true)
  | 39 => ("FigureKneeModel", "allWeight", "J", false)
  | 40 => ("FigureKneeModel", "moreWeight", "J", false)
  | _ => ("FigureKneeModel", "saidSum", "J", false)
def kt11 : Nat → FieldType := fun k => match k with
  | 0 => .int
  | 1 => .array .int
  | 2 => .int
  | 3 => .int
  | 4 => .int
  | 5 => .int
  | 6 => .int
  | 7 => .int
  | 8 => .int
  | 9 => .int
  | 10 => .int
  | 11 => .int
  | 12 => .array .int
  | 13 => .boolean
  | 14 => .boolean
  | 15 => .array .int
  | 16 => .array .int
  | 17 => .array .int
  | 18 => .array .int
  | 19 => .array .int
  | 20 => .array .int
  | 21 => .array .int
  | 22 => .int
  | 23 => .int
  | 24 => .array .int
  | 25 => .array .int
  | 26 => .int
  | 27 => .int
  | 28 => .int
  | 29 => .int
  | 30 => .array .int
  | 31 => .int
  | 32 => .int
  | 33 => .int
  | 34 => .array .int
  | 35 => .array .int
  | 36 => .int
  | 37 => .int
  | 38 => .array .int
  | 39 => .long
  | 40 => .long
  | _ => .long
theorem kn11 : ∀ a, a < 42 → ∀ b, b < 42 → a ≠ b → (kF11 a).2.1 ≠ (kF11 b).2.1 := by decide +kernel
theorem kto11 : ∀ k, k < 42 → parseFieldDescriptor (kF11 k).2.2.1 = some (kt11 k) := by decide +kernel
abbrev kCl : List vw_C := [(kR0, kF0, 7), (kR1, kF1, 5), (kR2, kF2, 3), (kR3, kF3, 3), (kR4, kF4, 4), (kR5, kF5, 17), (kR6, kF6, 2), (kR7, kF7, 11), (kR8, kF8, 4), (kR9, kF9, 6), (kR10, kF10, 19), (kR11, kF11, 42)]
def kTyp : Nat → Nat → FieldType := fun c => match c with
  | 0 => kt0
  | 1 => kt1
  | 2 => kt2
  | 3 => kt3
  | 4 => kt4
  | 5 => kt5
  | 6 => kt6
  | 7 => kt7
  | 8 => kt8
  | 9 => kt9
  | 10 => kt10
  | _ => kt11
-- the cells: (0, its kind, its fields) or (1, what it holds: 0 ints, 1 bytes, 2 longs, 3 rows of ints, how many)
def kN : Nat := 89
def kSH : List (Nat × Nat × Nat) := [(0, 10, 19), (0, 5, 17), (0, 5, 17), (0, 7, 11), (0, 4, 4), (0, 3, 3), (0, 9, 6), (0, 9, 6), (0, 8, 4), (0, 1, 5), (0, 0, 7), (0, 2, 3), (0, 6, 2), (0, 9, 6), (0, 11, 42), (1, 1, 900), (1, 0, 5), (1, 3, 3), (1, 0, 5), (1, 0, 5), (1, 0, 5), (1, 0, 5), (1, 0, 25), (1, 0, 4), (1, 0, 4), (1, 0, 8), (1, 0, 8), (1, 0, 8), (1, 0, 5), (1, 0, 5), (1, 0, 5), (1, 0, 5), (1, 0, 25), (1, 0, 4), (1, 0, 4), (1, 0, 8), (1, 0, 8), (1, 0, 8), (1, 0, 5), (1, 0, 5), (1, 0, 5), (1, 0, 5), (1, 0, 25), (1, 3, 16), (1, 0, 900), (1, 0, 900), (1, 0, 4), (1, 0, 4), (1, 0, 16), (1, 0, 5), (1, 0, 32), (1, 0, 32), (1, 0, 5), (1, 0, 5), (1, 0, 5), (1, 0, 900), (1, 0, 8), (1, 0, 95), (1, 0, 95), (1, 0, 36), (1, 0, 36), (1, 0, 36), (1, 0, 576), (1, 0, 108), (1, 0, 2600), (1, 0, 900), (1, 0, 4), (1, 0, 5), (1, 0, 5), (1, 0, 5), (1, 0, 36), (1, 0, 36), (1, 0, 36), (1, 0, 36), (1, 0, 36), (1, 0, 36), (1, 0, 36), (1, 0, 36), (1, 0, 36), (1, 0, 36), (1, 0, 36), (1, 0, 36), (1, 0, 36), (1, 0, 36), (1, 0, 36), (1, 0, 36), (1, 0, 36), (1, 0, 36), (1, 0, 36)]
def kRT : List (List (Option Nat)) := [[some 15, none, some 1, some 2, some 3, none, some 4, some 5, some 17, none, some 6, some 7, some 16, some 8, some 9, some 10, some 11, some 12, none], [none, none, none, none, none, none, none, some 18, some 19, some 20, some 21, some 22, some 23, some 24, some 25, some 26, some 27], [none, none, none, none, none, none, none, some 28, some 29, some 30, some 31, some 32, some 33, some 34, some 35, some 36, some 37], [some 15, none, none, none, none, none, none, some 38, some 39, none, none], [none, some 40, some 41, some 42], [some 43, none, none], [none, none, none, none, none, none], [none, none, none, none, none, none], [some 44, some 45, none, none], [some 13, some 46, some 47, some 48, none], [none, some 49, some 50, some 51, some 52, some 53, none], [some 54, none, none], [none, none], [none, none, none, none, none, none], [none, some 55, none, none, none, none, none, none, none, none, none, none, some 56, none, none, some 57, some 58, some 59, some 60, some 61, some 62, some 63, none, none, some 64, some 65, none, none, none, none, some 66, none, none, none, some 67, some 68, none, none, some 69, none, none, none]]
def kRf (z k j : Nat) : Option Nat := if k = 17 then (if j < 3 then some (70 + j) else none) else if k = 43 then (if j < 16 then some (73 + j) else none) else if k = 3 ∧ j = 6 then some z else ((kRT.getD k []).getD j none)
-- texts
def kTx : List String := ["pie\x72", "pai\x72", "contract", "debt", "unsure", "heard", "words", "dumb", "creeping", "leaping", "fading", "swinging", "figure", "step", "every", "season"]
def kLen : List Nat := [4, 4, 8, 4, 6, 5, 5, 4, 8, 7, 6, 8, 6, 4, 5, 6]
def kByt : List (List Int32) := [[112, 105, 101, 114], [112, 97, 105, 114], [99, 111, 110, 116, 114, 97, 99, 116], [100, 101, 98, 116], [117, 110, 115, 117, 114, 101], [104, 101, 97, 114, 100], [119, 111, 114, 100, 115], [100, 117, 109, 98], [99, 114, 101, 101, 112, 105, 110, 103], [108, 101, 97, 112, 105, 110, 103], [102, 97, 100, 105, 110, 103], [115, 119, 105, 110, 103, 105, 110, 103], [102, 105, 103, 117, 114, 101], [115, 116, 101, 112], [101, 118, 101, 114, 121], [115, 101, 97, 115, 111, 110]]
def kSi : List (String × Nat × Nat) := [("FigureKnee$Reade\x72", 98, 0), ("FigureKnee$Reade\x72", 103, 1), ("FigureKnee$Reade\x72", 105, 2), ("FigureKnee$Reade\x72", 107, 3), ("FigureKnee$Reade\x72", 109, 4), ("FigureKnee$Reade\x72", 111, 5), ("FigureKnee$Reade\x72", 133, 6), ("FigureKnee$Reade\x72", 143, 7), ("FigureKnee$Reade\x72", 113, 8), ("FigureKnee$Reade\x72", 117, 9), ("FigureKnee$Reade\x72", 119, 10), ("FigureKnee$Reade\x72", 121, 11), ("FigureKnee$Reade\x72", 168, 12), ("FigureKnee$Reade\x72", 173, 13), ("FigureKnee$Reade\x72", 184, 14), ("FigureKnee$Reade\x72", 210, 15), ("FigureKneeModel", 128, 0), ("FigureKneeModel", 208, 6), ("FigureKneeModel", 214, 7), ("FigureKneeModel", 130, 1), ("FigureKneeModel", 132, 2), ("FigureKneeModel", 134, 3), ("FigureKneeModel", 136, 4), ("FigureKneeModel", 138, 5), ("FigureKneeModel", 220, 8), ("FigureKneeModel", 222, 9), ("FigureKneeModel", 224, 10), ("FigureKneeModel", 226, 11), ("FigureKneeModel", 228, 12), ("FigureKneeModel", 230, 13), ("FigureKneeModel", 235, 14), ("FigureKneeModel", 237, 15)]
-- methods: name, bytes, locals, answer
abbrev kM : Type := MethodName × ByteArray × Nat × Option FieldType
def m0_reckon : kM := (⟨kR0, "reckon", "(LFigureKnee$Now;I)V"⟩, prog_2_method_2_code, 5, none)
def m0_owedInAll : kM := (⟨kR0, "owedInAll", "()I"⟩, prog_2_method_3_code, 3, some .int)
def m0_fewestPayments : kM := (⟨kR0, "fewestPayments", "()I"⟩, prog_2_method_4_code, 6, some .int)
def m0_findRing : kM := (⟨kR0, "findRing", "(LFigureKnee$Now;II)V"⟩, prog_2_method_5_code, 6, none)
def m0_countDebtsHome : kM := (⟨kR0, "countDebtsHome", "(LFigureKnee$Now;I)V"⟩, prog_2_method_6_code, 5, none)
def m0_fewestDebtsBehind : kM := (⟨kR0, "fewestDebtsBehind", "(LFigureKnee$Now;I)I"⟩, prog_2_method_7_code, 5, some .int)
def m0_firstNext : kM := (⟨kR0, "firstNext", "(LFigureKnee$Now;II)I"⟩, prog_2_method_8_code, 5, some .int)
def m1_find : kM := (⟨kR1, "find", "(LFigureKnee$Pier;)V"⟩, prog_3_method_2_code, 4, none)
def m1_fitsHeard : kM := (⟨kR1, "fitsHeard", "(LFigureKnee$Pier;II)Z"⟩, prog_3_method_3_code, 5, some .boolean)
def m1_isFit : kM := (⟨kR1, "isFit", "(II)Z"⟩, prog_3_method_4_code, 5, some .boolean)
def m1_inSome : kM := (⟨kR1, "inSome", "()I"⟩, prog_3_method_5_code, 3, some .int)
def m1_inAll : kM := (⟨kR1, "inAll", "()I"⟩, prog_3_method_6_code, 3, some .int)
def m1_leftAtMost : kM := (⟨kR1, "leftAtMost", "(I)I"⟩, prog_3_method_7_code, 4, some .int)
def m1_bestQuestion : kM := (⟨kR1, "bestQuestion", "(I)I"⟩, prog_3_method_8_code, 6, some .int)
def m2_reckon : kM := (⟨kR2, "reckon", "(III)V"⟩, prog_4_method_2_code, 5, none)
def m2_lookBy : kM := (⟨kR2, "lookBy", "(III)V"⟩, prog_4_method_3_code, 6, none)
def m2_look : kM := (⟨kR2, "look", "(III)V"⟩, prog_4_method_4_code, 6, none)
def m3_forget : kM := (⟨kR3, "forget", "()V"⟩, prog_5_method_2_code, 1, none)
def m3_keep : kM := (⟨kR3, "keep", "(LFigureKnee$Now;)V"⟩, prog_5_method_3_code, 2, none)
def m3_takeBack : kM := (⟨kR3, "takeBack", "(LFigureKnee$Now;)V"⟩, prog_5_method_4_code, 2, none)
def m4_begin : kM := (⟨kR4, "begin", "(LFigureKnee$Pier;)V"⟩, prog_6_method_2_code, 2, none)
def m4_save : kM := (⟨kR4, "save", "([I)V"⟩, prog_6_method_3_code, 2, none)
def m4_load : kM := (⟨kR4, "load", "([I)V"⟩, prog_6_method_4_code, 2, none)
def m5_clear : kM := (⟨kR5, "clea\x72", "()V"⟩, prog_7_method_2_code, 1, none)
def m5_count : kM := (⟨kR5, "count", "(I)I"⟩, prog_7_method_3_code, 2, some .int)
def m5_isUnsure : kM := (⟨kR5, "isUnsure", "(I)Z"⟩, prog_7_method_4_code, 3, some .boolean)
def m5_isHeard : kM := (⟨kR5, "isHeard", "(II)Z"⟩, prog_7_method_5_code, 4, some .boolean)
def m6_reduce : kM := (⟨kR6, "reduce", "(JJ)V"⟩, prog_8_method_2_code, 12, none)
def m6_part : kM := (⟨kR6, "part", "(Z)J"⟩, prog_8_method_3_code, 2, some .long)
def m7_read : kM := (⟨kR7, "read", "(ILFigureKnee$Pier;)Z"⟩, prog_9_method_2_code, 4, some .boolean)
def m7_found : kM := (⟨kR7, "found", "(I)Z"⟩, prog_9_method_3_code, 2, some .boolean)
def m7_next : kM := (⟨kR7, "next", "()V"⟩, prog_9_method_4_code, 1, none)
def m7_isLetter : kM := (⟨kR7, "isLette\x72", "(I)Z"⟩, prog_9_method_5_code, 1, some .boolean)
def m7_isDigit : kM := (⟨kR7, "isDigit", "(I)Z"⟩, prog_9_method_6_code, 1, some .boolean)
def m7_takeLetters : kM := (⟨kR7, "takeLetters", "()V"⟩, prog_9_method_7_code, 1, none)
def m7_takeDigits : kM := (⟨kR7, "takeDigits", "()V"⟩, prog_9_method_8_code, 1, none)
def m7_isWord : kM := (⟨kR7, "isWord", "(Ljava/lang/String;)Z"⟩, prog_9_method_9_code, 3, some .boolean)
def m7_isHeadOfLine : kM := (⟨kR7, "isHeadOfLine", "()Z"⟩, prog_9_method_10_code, 1, some .boolean)
def m7_lawOfWord : kM := (⟨kR7, "lawOfWord", "()I"⟩, prog_9_method_11_code, 1, some .int)
def m7_pairOfName : kM := (⟨kR7, "pairOfName", "()I"⟩, prog_9_method_12_code, 2, some .int)
def m7_isSame : kM := (⟨kR7, "isSame", "(II)Z"⟩, prog_9_method_13_code, 4, some .boolean)
def m7_takeWord : kM := (⟨kR7, "takeWord", "(Ljava/lang/String;)Z"⟩, prog_9_method_14_code, 2, some .boolean)
def m7_seesWhole : kM := (⟨kR7, "seesWhole", "(II)Z"⟩, prog_9_method_15_code, 3, some .boolean)
def m7_seenPair : kM := (⟨kR7, "seenPai\x72", "()I"⟩, prog_9_method_16_code, 2, some .int)
def m7_readHead : kM := (⟨kR7, "readHead", "()Z"⟩, prog_9_method_17_code, 1, some .boolean)
def m7_readLine : kM := (⟨kR7, "readLine", "()Z"⟩, prog_9_method_18_code, 1, some .boolean)
def m7_readPair : kM := (⟨kR7, "readPai\x72", "()Z"⟩, prog_9_method_19_code, 2, some .boolean)
def m7_readContract : kM := (⟨kR7, "readContract", "()Z"⟩, prog_9_method_20_code, 2, some .boolean)
def m7_readDebt : kM := (⟨kR7, "readDebt", "()Z"⟩, prog_9_method_21_code, 3, some .boolean)
def m7_readUnsure : kM := (⟨kR7, "readUnsure", "()Z"⟩, prog_9_method_22_code, 3, some .boolean)
def m7_readHeard : kM := (⟨kR7, "readHeard", "()Z"⟩, prog_9_method_23_code, 3, some .boolean)
def m8_follow : kM := (⟨kR8, "follow", "(LFigureKnee$Walk;)V"⟩, prog_10_method_2_code, 4, none)
def m8_stateOf : kM := (⟨kR8, "stateOf", "(LFigureKnee$Walk;)I"⟩, prog_10_method_3_code, 3, some .int)
def m8_shortenRound : kM := (⟨kR8, "shortenRound", "()V"⟩, prog_10_method_4_code, 2, none)
def m8_comesAgainBehind : kM := (⟨kR8, "comesAgainBehind", "(I)Z"⟩, prog_10_method_5_code, 3, some .boolean)
def m8_saying : kM := (⟨kR8, "saying", "(I)I"⟩, prog_10_method_6_code, 2, some .int)
def m8_most : kM := (⟨kR8, "most", "()I"⟩, prog_10_method_7_code, 3, some .int)
def m8_least : kM := (⟨kR8, "least", "()I"⟩, prog_10_method_8_code, 3, some .int)
def m9_begin : kM := (⟨kR9, "begin", "(LFigureKnee$Pier;LFigureKnee$Now;I)V"⟩, prog_11_method_2_code, 4, none)
def m9_beginAsTold : kM := (⟨kR9, "beginAsTold", "(LFigureKnee$Pier;I)V"⟩, prog_11_method_3_code, 3, none)
def m9_go : kM := (⟨kR9, "go", "()V"⟩, prog_11_method_4_code, 1, none)
def m9_byLaw : kM := (⟨kR9, "byLaw", "()I"⟩, prog_11_method_5_code, 1, some .int)
def m9_goDumb : kM := (⟨kR9, "goDumb", "()V"⟩, prog_11_method_6_code, 1, none)
def m9_goOn : kM := (⟨kR9, "goOn", "(I)V"⟩, prog_11_method_7_code, 3, none)
def m9_isMore : kM := (⟨kR9, "isMore", "()Z"⟩, prog_11_method_8_code, 1, some .boolean)
def m9_countMore : kM := (⟨kR9, "countMore", "(I)I"⟩, prog_11_method_9_code, 4, some .int)
def m10_may : kM := (⟨kR10, "may", "(ZZ)Z"⟩, prog_1_method_2_code, 3, some .boolean)
def m10_may_ : kM := (⟨kR10, "may", "(Z)Z"⟩, prog_1_method_3_code, 2, some .boolean)
def m10_refuse : kM := (⟨kR10, "refuse", "(I)I"⟩, prog_1_method_4_code, 2, some .int)
def m10_deny : kM := (⟨kR10, "deny", "(I)Z"⟩, prog_1_method_5_code, 2, some .boolean)
def m10_isPair : kM := (⟨kR10, "isPai\x72", "(I)Z"⟩, prog_1_method_6_code, 2, some .boolean)
def m10_areUnlike : kM := (⟨kR10, "areUnlike", "(II)Z"⟩, prog_1_method_7_code, 3, some .boolean)
def m10_upTo : kM := (⟨kR10, "upTo", "(II)Z"⟩, prog_1_method_8_code, 2, some .boolean)
def m10_feed : kM := (⟨kR10, "feed", "(IIIII)I"⟩, prog_1_method_9_code, 6, some .int)
def m10_putBytes : kM := (⟨kR10, "putBytes", "(I)V"⟩, prog_1_method_10_code, 3, none)
def m10_pier : kM := (⟨kR10, "pie\x72", "(I)I"⟩, prog_1_method_11_code, 3, some .int)
def m10_fault : kM := (⟨kR10, "fault", "()I"⟩, prog_1_method_12_code, 1, some .int)
def m10_where : kM := (⟨kR10, "where", "()I"⟩, prog_1_method_13_code, 1, some .int)
def m10_pair : kM := (⟨kR10, "pai\x72", "(II)I"⟩, prog_1_method_14_code, 4, some .int)
def m10_isMore : kM := (⟨kR10, "isMore", "(I)Z"⟩, prog_1_method_15_code, 2, some .boolean)
def m10_sayingBehind : kM := (⟨kR10, "sayingBehind", "(II)I"⟩, prog_1_method_16_code, 3, some .int)
def m10_sayAllBehind : kM := (⟨kR10, "sayAllBehind", "(I)V"⟩, prog_1_method_17_code, 3, none)
def m10_says : kM := (⟨kR10, "says", "(II)I"⟩, prog_1_method_18_code, 3, some .int)
def m10_saysAll : kM := (⟨kR10, "saysAll", "(II)I"⟩, prog_1_method_19_code, 5, some .int)
def m10_moreIn : kM := (⟨kR10, "moreIn", "(I)I"⟩, prog_1_method_20_code, 3, some .int)
def m10_moreTimes : kM := (⟨kR10, "moreTimes", "(II)I"⟩, prog_1_method_21_code, 3, some .int)
def m10_goRound : kM := (⟨kR10, "goRound", "(I)V"⟩, prog_1_method_22_code, 2, none)
def m10_settles : kM := (⟨kR10, "settles", "(I)I"⟩, prog_1_method_23_code, 2, some .int)
def m10_round : kM := (⟨kR10, "round", "(I)I"⟩, prog_1_method_24_code, 2, some .int)
def m10_saysLate : kM := (⟨kR10, "saysLate", "(II)I"⟩, prog_1_method_25_code, 3, some .int)
def m10_roundMost : kM := (⟨kR10, "roundMost", "(I)I"⟩, prog_1_method_26_code, 2, some .int)
def m10_roundLeast : kM := (⟨kR10, "roundLeast", "(I)I"⟩, prog_1_method_27_code, 2, some .int)
def m10_turnsAbout : kM := (⟨kR10, "turnsAbout", "(I)I"⟩, prog_1_method_28_code, 6, some .int)
def m10_alikeIn : kM := (⟨kR10, "alikeIn", "(II)I"⟩, prog_1_method_29_code, 4, some .int)
def m10_loudest : kM := (⟨kR10, "loudest", "(I)I"⟩, prog_1_method_30_code, 2, some .int)
def m10_firstMost : kM := (⟨kR10, "firstMost", "([II)I"⟩, prog_1_method_31_code, 4, some .int)
def m10_overtakes : kM := (⟨kR10, "overtakes", "(II)I"⟩, prog_1_method_32_code, 4, some .int)
def m10_widest : kM := (⟨kR10, "widest", "(I)I"⟩, prog_1_method_33_code, 7, some .int)
def m10_sumAll : kM := (⟨kR10, "sumAll", "(I)I"⟩, prog_1_method_34_code, 4, some .int)
def m10_masters : kM := (⟨kR10, "masters", "(I)I"⟩, prog_1_method_35_code, 2, some .int)
def m10_bitsOfMore : kM := (⟨kR10, "bitsOfMore", "([I)I"⟩, prog_1_method_36_code, 4, some .int)
def m10_sayingByEvery : kM := (⟨kR10, "sayingByEvery", "(III)I"⟩, prog_1_method_37_code, 4, some .int)
def m10_bestEvery : kM := (⟨kR10, "bestEvery", "(II)I"⟩, prog_1_method_38_code, 7, some .int)
def m10_everyFor : kM := (⟨kR10, "everyFo\x72", "(II)I"⟩, prog_1_method_39_code, 3, some .int)
def m10_everySays : kM := (⟨kR10, "everySays", "(II)I"⟩, prog_1_method_40_code, 3, some .int)
def m10_everyNever : kM := (⟨kR10, "everyNeve\x72", "(I)I"⟩, prog_1_method_41_code, 3, some .int)
def m10_stepFor : kM := (⟨kR10, "stepFo\x72", "(II)I"⟩, prog_1_method_42_code, 4, some .int)
def m10_mayFit : kM := (⟨kR10, "mayFit", "()Z"⟩, prog_1_method_43_code, 1, some .boolean)
def m10_fits : kM := (⟨kR10, "fits", "()I"⟩, prog_1_method_44_code, 1, some .int)
def m10_fitAt : kM := (⟨kR10, "fitAt", "(I)I"⟩, prog_1_method_45_code, 2, some .int)
def m10_could : kM := (⟨kR10, "could", "()I"⟩, prog_1_method_46_code, 1, some .int)
def m10_surely : kM := (⟨kR10, "surely", "()I"⟩, prog_1_method_47_code, 1, some .int)
def m10_ask : kM := (⟨kR10, "ask", "()I"⟩, prog_1_method_48_code, 1, some .int)
def m10_askLeaves : kM := (⟨kR10, "askLeaves", "()I"⟩, prog_1_method_49_code, 2, some .int)
def m10_judge : kM := (⟨kR10, "judge", "()I"⟩, prog_1_method_50_code, 2, some .int)
def m10_apartByTold : kM := (⟨kR10, "apartByTold", "(I)I"⟩, prog_1_method_51_code, 2, some .int)
def m10_third : kM := (⟨kR10, "third", "(I)I"⟩, prog_1_method_52_code, 4, some .int)
def m10_owes : kM := (⟨kR10, "owes", "(II)I"⟩, prog_1_method_53_code, 3, some .int)
def m10_net : kM := (⟨kR10, "net", "(I)I"⟩, prog_1_method_54_code, 2, some .int)
def m10_due : kM := (⟨kR10, "due", "()I"⟩, prog_1_method_55_code, 1, some .int)
def m10_creditor : kM := (⟨kR10, "credito\x72", "()I"⟩, prog_1_method_56_code, 1, some .int)
def m10_payments : kM := (⟨kR10, "payments", "()I"⟩, prog_1_method_57_code, 1, some .int)
def m10_ring : kM := (⟨kR10, "ring", "(I)I"⟩, prog_1_method_58_code, 2, some .int)
def m10_ringAt : kM := (⟨kR10, "ringAt", "(II)I"⟩, prog_1_method_59_code, 3, some .int)
def m10_share : kM := (⟨kR10, "share", "(IZZ)I"⟩, prog_1_method_60_code, 3, some .int)
def m10_isRest : kM := (⟨kR10, "isRest", "(IZZ)Z"⟩, prog_1_method_61_code, 3, some .boolean)
def m10_isRestAt : kM := (⟨kR10, "isRestAt", "(II)Z"⟩, prog_1_method_62_code, 2, some .boolean)
def m10_talks : kM := (⟨kR10, "talks", "(IZZZ)I"⟩, prog_1_method_63_code, 5, some .int)
def m10_rests : kM := (⟨kR10, "rests", "(I)I"⟩, prog_1_method_64_code, 4, some .int)
def m10_rest : kM := (⟨kR10, "rest", "(I)I"⟩, prog_1_method_65_code, 3, some .int)
def m10_verdictOdds : kM := (⟨kR10, "verdictOdds", "(IIZ)J"⟩, prog_1_method_66_code, 4, some .long)
def m10_looks : kM := (⟨kR10, "looks", "(III)I"⟩, prog_1_method_67_code, 4, some .int)
def m10_verdict : kM := (⟨kR10, "verdict", "(II)I"⟩, prog_1_method_68_code, 3, some .int)
def m10_drawFrom : kM := (⟨kR10, "drawFrom", "(I)I"⟩, prog_1_method_69_code, 1, some .int)
def m10_odds : kM := (⟨kR10, "odds", "(IIIZ)J"⟩, prog_1_method_70_code, 10, some .long)
def m10_mean : kM := (⟨kR10, "mean", "(IIZ)J"⟩, prog_1_method_71_code, 9, some .long)
def m10_goWithDumb : kM := (⟨kR10, "goWithDumb", "(III)J"⟩, prog_1_method_72_code, 7, some .long)
def m10_allChances : kM := (⟨kR10, "allChances", "(I)J"⟩, prog_1_method_73_code, 4, some .long)
def m10_drawn : kM := (⟨kR10, "drawn", "(III)I"⟩, prog_1_method_74_code, 6, some .int)
def m10_season : kM := (⟨kR10, "season", "()I"⟩, prog_1_method_75_code, 1, some .int)
def m10_change : kM := (⟨kR10, "change", "(I)I"⟩, prog_1_method_76_code, 3, some .int)
def m10_step : kM := (⟨kR10, "step", "(II)Z"⟩, prog_1_method_77_code, 3, some .boolean)
def m10_pay : kM := (⟨kR10, "pay", "(III)I"⟩, prog_1_method_78_code, 5, some .int)
def m10_undo : kM := (⟨kR10, "undo", "()Z"⟩, prog_1_method_79_code, 1, some .boolean)
def m10_image : kM := (⟨kR10, "image", "()I"⟩, prog_1_method_80_code, 1, some .int)
def m10_back : kM := (⟨kR10, "back", "(I)Z"⟩, prog_1_method_81_code, 2, some .boolean)
def m10_led : kM := (⟨kR10, "led", "(I)I"⟩, prog_1_method_82_code, 4, some .int)
def m10_size : kM := (⟨kR10, "size", "(I)I"⟩, prog_1_method_83_code, 2, some .int)
def m10_trouble : kM := (⟨kR10, "trouble", "()I"⟩, prog_1_method_84_code, 1, some .int)
def m11_thrown : kM := (⟨kR11, "thrown", "()I"⟩, prog_13_method_2_code, 1, some .int)
def m11_good : kM := (⟨kR11, "good", "()V"⟩, prog_13_method_3_code, 1, none)
def m11_no : kM := (⟨kR11, "no", "(I)I"⟩, prog_13_method_4_code, 2, some .int)
def m11_isNot : kM := (⟨kR11, "isNot", "(I)Z"⟩, prog_13_method_5_code, 2, some .boolean)
def m11_in : kM := (⟨kR11, "in", "(III)Z"⟩, prog_13_method_6_code, 3, some .boolean)
def m11_hasBit : kM := (⟨kR11, "hasBit", "(II)Z"⟩, prog_13_method_7_code, 2, some .boolean)
def m11_ones : kM := (⟨kR11, "ones", "(I)I"⟩, prog_13_method_8_code, 3, some .int)
def m11_copy : kM := (⟨kR11, "copy", "([II[III)V"⟩, prog_13_method_9_code, 6, none)
def m11_lowest : kM := (⟨kR11, "lowest", "(JJZ)J"⟩, prog_13_method_10_code, 11, some .long)
def m11_feed : kM := (⟨kR11, "feed", "(IIIII)I"⟩, prog_13_method_11_code, 8, some .int)
def m11_see : kM := (⟨kR11, "see", "(I)I"⟩, prog_13_method_12_code, 2, some .int)
def m11_isSmall : kM := (⟨kR11, "isSmall", "(I)Z"⟩, prog_13_method_13_code, 1, some .boolean)
def m11_isDigit : kM := (⟨kR11, "isDigit", "(I)Z"⟩, prog_13_method_14_code, 1, some .boolean)
def m11_next : kM := (⟨kR11, "next", "()V"⟩, prog_13_method_15_code, 4, none)
def m11_wrong : kM := (⟨kR11, "wrong", "(II)V"⟩, prog_13_method_16_code, 3, none)
def m11_isWord : kM := (⟨kR11, "isWord", "(Ljava/lang/String;)Z"⟩, prog_13_method_17_code, 4, some .boolean)
def m11_takesWord : kM := (⟨kR11, "takesWord", "(Ljava/lang/String;)Z"⟩, prog_13_method_18_code, 2, some .boolean)
def m11_must : kM := (⟨kR11, "must", "(Ljava/lang/String;)V"⟩, prog_13_method_19_code, 2, none)
def m11_mustName : kM := (⟨kR11, "mustName", "()V"⟩, prog_13_method_20_code, 1, none)
def m11_find : kM := (⟨kR11, "find", "()I"⟩, prog_13_method_21_code, 4, some .int)
def m11_newName : kM := (⟨kR11, "newName", "(I)V"⟩, prog_13_method_22_code, 3, none)
def m11_pairHere : kM := (⟨kR11, "pairHere", "()I"⟩, prog_13_method_23_code, 2, some .int)
def m11_pass : kM := (⟨kR11, "pass", "()V"⟩, prog_13_method_24_code, 1, none)
def m11_numberHere : kM := (⟨kR11, "numberHere", "(II)I"⟩, prog_13_method_25_code, 3, some .int)
def m11_number : kM := (⟨kR11, "numbe\x72", "(II)I"⟩, prog_13_method_26_code, 4, some .int)
def m11_after : kM := (⟨kR11, "afte\x72", "(Ljava/lang/String;II)I"⟩, prog_13_method_27_code, 4, some .int)
def m11_pier : kM := (⟨kR11, "pie\x72", "(I)I"⟩, prog_13_method_28_code, 3, some .int)
def m11_begins : kM := (⟨kR11, "begins", "(Ljava/lang/String;Z)Z"⟩, prog_13_method_29_code, 3, some .boolean)
def m11_readLine : kM := (⟨kR11, "readLine", "()V"⟩, prog_13_method_30_code, 1, none)
def m11_pierLine : kM := (⟨kR11, "pierLine", "()V"⟩, prog_13_method_31_code, 1, none)
def m11_pairLine : kM := (⟨kR11, "pairLine", "()V"⟩, prog_13_method_32_code, 5, none)
def m11_contractLine : kM := (⟨kR11, "contractLine", "()V"⟩, prog_13_method_33_code, 3, none)
def m11_debtLine : kM := (⟨kR11, "debtLine", "()V"⟩, prog_13_method_34_code, 4, none)
def m11_unsureLine : kM := (⟨kR11, "unsureLine", "()V"⟩, prog_13_method_35_code, 4, none)
def m11_heardLine : kM := (⟨kR11, "heardLine", "()V"⟩, prog_13_method_36_code, 5, none)
def m11_fault : kM := (⟨kR11, "fault", "()I"⟩, prog_13_method_37_code, 1, some .int)
def m11_where : kM := (⟨kR11, "where", "()I"⟩, prog_13_method_38_code, 1, some .int)
def m11_isPair : kM := (⟨kR11, "isPai\x72", "(I)Z"⟩, prog_13_method_39_code, 2, some .boolean)
def m11_areTwo : kM := (⟨kR11, "areTwo", "(II)Z"⟩, prog_13_method_40_code, 3, some .boolean)
def m11_why : kM := (⟨kR11, "why", "(ZZ)I"⟩, prog_13_method_41_code, 3, some .int)
def m11_within : kM := (⟨kR11, "within", "(I)I"⟩, prog_13_method_42_code, 2, some .int)
def m11_byLaw : kM := (⟨kR11, "byLaw", "(III)I"⟩, prog_13_method_43_code, 5, some .int)
def m11_behind : kM := (⟨kR11, "behind", "(IIIIIZ)I"⟩, prog_13_method_44_code, 8, some .int)
def m11_isMore : kM := (⟨kR11, "isMore", "(I)Z"⟩, prog_13_method_45_code, 2, some .boolean)
def m11_saysBy : kM := (⟨kR11, "saysBy", "(IIII)I"⟩, prog_13_method_46_code, 7, some .int)
def m11_saysIn : kM := (⟨kR11, "saysIn", "(II)I"⟩, prog_13_method_47_code, 3, some .int)
def m11_goRound : kM := (⟨kR11, "goRound", "(I)V"⟩, prog_13_method_48_code, 7, none)
def m11_isRoundOf : kM := (⟨kR11, "isRoundOf", "(I)Z"⟩, prog_13_method_49_code, 3, some .boolean)
def m11_pair : kM := (⟨kR11, "pai\x72", "(II)I"⟩, prog_13_method_50_code, 3, some .int)
def m11_aheadWhy : kM := (⟨kR11, "aheadWhy", "(ZI)I"⟩, prog_13_method_51_code, 3, some .int)
def m11_says : kM := (⟨kR11, "says", "(II)I"⟩, prog_13_method_52_code, 4, some .int)
def m11_saysAll : kM := (⟨kR11, "saysAll", "(II)I"⟩, prog_13_method_53_code, 6, some .int)
def m11_moreIn : kM := (⟨kR11, "moreIn", "(I)I"⟩, prog_13_method_54_code, 3, some .int)
def m11_moreTimes : kM := (⟨kR11, "moreTimes", "(II)I"⟩, prog_13_method_55_code, 6, some .int)
def m11_settles : kM := (⟨kR11, "settles", "(I)I"⟩, prog_13_method_56_code, 2, some .int)
def m11_round : kM := (⟨kR11, "round", "(I)I"⟩, prog_13_method_57_code, 2, some .int)
def m11_saysLate : kM := (⟨kR11, "saysLate", "(II)I"⟩, prog_13_method_58_code, 4, some .int)
def m11_extremeOf : kM := (⟨kR11, "extremeOf", "(II)I"⟩, prog_13_method_59_code, 5, some .int)
def m11_roundMost : kM := (⟨kR11, "roundMost", "(I)I"⟩, prog_13_method_60_code, 2, some .int)
def m11_roundLeast : kM := (⟨kR11, "roundLeast", "(I)I"⟩, prog_13_method_61_code, 2, some .int)
def m11_turnsAbout : kM := (⟨kR11, "turnsAbout", "(I)I"⟩, prog_13_method_62_code, 4, some .int)
def m11_alikeIn : kM := (⟨kR11, "alikeIn", "(II)I"⟩, prog_13_method_63_code, 4, some .int)
def m11_loudest : kM := (⟨kR11, "loudest", "(I)I"⟩, prog_13_method_64_code, 5, some .int)
def m11_mastersIn : kM := (⟨kR11, "mastersIn", "(I)I"⟩, prog_13_method_65_code, 4, some .int)
def m11_masters : kM := (⟨kR11, "masters", "(I)I"⟩, prog_13_method_66_code, 3, some .int)
def m11_overtakes : kM := (⟨kR11, "overtakes", "(II)I"⟩, prog_13_method_67_code, 4, some .int)
def m11_widest : kM := (⟨kR11, "widest", "(I)I"⟩, prog_13_method_68_code, 8, some .int)
def m11_sumAll : kM := (⟨kR11, "sumAll", "(I)I"⟩, prog_13_method_69_code, 5, some .int)
def m11_bestEvery : kM := (⟨kR11, "bestEvery", "(II)I"⟩, prog_13_method_70_code, 5, some .int)
def m11_everyFor : kM := (⟨kR11, "everyFo\x72", "(II)I"⟩, prog_13_method_71_code, 4, some .int)
def m11_everySays : kM := (⟨kR11, "everySays", "(II)I"⟩, prog_13_method_72_code, 4, some .int)
def m11_isNeverMore : kM := (⟨kR11, "isNeverMore", "(II)Z"⟩, prog_13_method_73_code, 4, some .boolean)
def m11_everyNever : kM := (⟨kR11, "everyNeve\x72", "(I)I"⟩, prog_13_method_74_code, 3, some .int)
def m11_stepFor : kM := (⟨kR11, "stepFo\x72", "(II)I"⟩, prog_13_method_75_code, 5, some .int)
def m11_stepBy : kM := (⟨kR11, "stepBy", "(II)I"⟩, prog_13_method_76_code, 5, some .int)
def m11_saidThen : kM := (⟨kR11, "saidThen", "(III)I"⟩, prog_13_method_77_code, 6, some .int)
def m11_wrongBy : kM := (⟨kR11, "wrongBy", "(I)I"⟩, prog_13_method_78_code, 3, some .int)
def m11_seekSets : kM := (⟨kR11, "seekSets", "(I)I"⟩, prog_13_method_79_code, 5, some .int)
def m11_fits : kM := (⟨kR11, "fits", "()I"⟩, prog_13_method_80_code, 1, some .int)
def m11_fitAt : kM := (⟨kR11, "fitAt", "(I)I"⟩, prog_13_method_81_code, 3, some .int)
def m11_could : kM := (⟨kR11, "could", "()I"⟩, prog_13_method_82_code, 1, some .int)
def m11_surely : kM := (⟨kR11, "surely", "()I"⟩, prog_13_method_83_code, 1, some .int)
def m11_leavesOf : kM := (⟨kR11, "leavesOf", "(I)I"⟩, prog_13_method_84_code, 2, some .int)
def m11_askOf : kM := (⟨kR11, "askOf", "()I"⟩, prog_13_method_85_code, 3, some .int)
def m11_ask : kM := (⟨kR11, "ask", "()I"⟩, prog_13_method_86_code, 1, some .int)
def m11_askLeaves : kM := (⟨kR11, "askLeaves", "()I"⟩, prog_13_method_87_code, 2, some .int)
def m11_judge : kM := (⟨kR11, "judge", "()I"⟩, prog_13_method_88_code, 1, some .int)
def m11_third : kM := (⟨kR11, "third", "(I)I"⟩, prog_13_method_89_code, 5, some .int)
def m11_debtOf : kM := (⟨kR11, "debtOf", "(II)I"⟩, prog_13_method_90_code, 3, some .int)
def m11_netOf : kM := (⟨kR11, "netOf", "(I)I"⟩, prog_13_method_91_code, 4, some .int)
def m11_owes : kM := (⟨kR11, "owes", "(II)I"⟩, prog_13_method_92_code, 3, some .int)
def m11_net : kM := (⟨kR11, "net", "(I)I"⟩, prog_13_method_93_code, 2, some .int)
def m11_due : kM := (⟨kR11, "due", "()I"⟩, prog_13_method_94_code, 3, some .int)
def m11_creditor : kM := (⟨kR11, "credito\x72", "()I"⟩, prog_13_method_95_code, 3, some .int)
def m11_netsOf : kM := (⟨kR11, "netsOf", "(I)I"⟩, prog_13_method_96_code, 4, some .int)
def m11_groupsOf : kM := (⟨kR11, "groupsOf", "(I)I"⟩, prog_13_method_97_code, 5, some .int)
def m11_payments : kM := (⟨kR11, "payments", "()I"⟩, prog_13_method_98_code, 3, some .int)
def m11_tryRing : kM := (⟨kR11, "tryRing", "(II)V"⟩, prog_13_method_99_code, 4, none)
def m11_seekRing : kM := (⟨kR11, "seekRing", "(I)Z"⟩, prog_13_method_100_code, 2, some .boolean)
def m11_ring : kM := (⟨kR11, "ring", "(I)I"⟩, prog_13_method_101_code, 2, some .int)
def m11_ringAt : kM := (⟨kR11, "ringAt", "(II)I"⟩, prog_13_method_102_code, 3, some .int)
def m11_talksOf : kM := (⟨kR11, "talksOf", "(IZZ)I"⟩, prog_13_method_103_code, 3, some .int)
def m11_talks : kM := (⟨kR11, "talks", "(IZZZ)I"⟩, prog_13_method_104_code, 6, some .int)
def m11_seekRests : kM := (⟨kR11, "seekRests", "(I)I"⟩, prog_13_method_105_code, 6, some .int)
def m11_rests : kM := (⟨kR11, "rests", "(I)I"⟩, prog_13_method_106_code, 3, some .int)
def m11_rest : kM := (⟨kR11, "rest", "(I)I"⟩, prog_13_method_107_code, 3, some .int)
def m11_verdictOf : kM := (⟨kR11, "verdictOf", "()I"⟩, prog_13_method_108_code, 3, some .int)
def m11_verdictOdds : kM := (⟨kR11, "verdictOdds", "(IIZ)J"⟩, prog_13_method_109_code, 10, some .long)
def m11_lookWhy : kM := (⟨kR11, "lookWhy", "(ZII)I"⟩, prog_13_method_110_code, 6, some .int)
def m11_looks : kM := (⟨kR11, "looks", "(III)I"⟩, prog_13_method_111_code, 5, some .int)
def m11_verdict : kM := (⟨kR11, "verdict", "(II)I"⟩, prog_13_method_112_code, 4, some .int)
def m11_tryDumb : kM := (⟨kR11, "tryDumb", "(III)V"⟩, prog_13_method_113_code, 9, none)
def m11_odds : kM := (⟨kR11, "odds", "(IIIZ)J"⟩, prog_13_method_114_code, 6, some .long)
def m11_mean : kM := (⟨kR11, "mean", "(IIZ)J"⟩, prog_13_method_115_code, 5, some .long)
def m11_drawn : kM := (⟨kR11, "drawn", "(III)I"⟩, prog_13_method_116_code, 8, some .int)
def m11_note : kM := (⟨kR11, "note", "()V"⟩, prog_13_method_117_code, 2, none)
def m11_season : kM := (⟨kR11, "season", "()I"⟩, prog_13_method_118_code, 2, some .int)
def m11_change : kM := (⟨kR11, "change", "(I)I"⟩, prog_13_method_119_code, 2, some .int)
def m11_step : kM := (⟨kR11, "step", "(II)Z"⟩, prog_13_method_120_code, 3, some .boolean)
def m11_pay : kM := (⟨kR11, "pay", "(III)I"⟩, prog_13_method_121_code, 5, some .int)
def m11_undo : kM := (⟨kR11, "undo", "()Z"⟩, prog_13_method_122_code, 1, some .boolean)
def m11_image : kM := (⟨kR11, "image", "()I"⟩, prog_13_method_123_code, 1, some .int)
def m11_back : kM := (⟨kR11, "back", "(I)Z"⟩, prog_13_method_124_code, 2, some .boolean)
def m11_led : kM := (⟨kR11, "led", "(I)I"⟩, prog_13_method_125_code, 4, some .int)
def m11_size : kM := (⟨kR11, "size", "(I)I"⟩, prog_13_method_126_code, 2, some .int)
def m11_trouble : kM := (⟨kR11, "trouble", "()I"⟩, prog_13_method_127_code, 1, some .int)
end
section
-- THE WORLD: S holds every int and long by cell and place; G: what the tables number; E: where the cells lie, and the cell that reader.pier names
abbrev kSt : Type := (Nat → Nat → Int32) × (Nat → Nat → Int64)
abbrev kG : Type := va_G × (ClassId × ClassId × ClassId × ClassId) × (Nat → Nat) × (Nat → Nat) × Value
abbrev kE : Type := (Nat → Nat) × Nat
def kuI (S : kSt) (k j : Nat) (x : Int32) : kSt := (fun a => if a = k then upd (S.1 a) j x else S.1 a, S.2)
def kuL (S : kSt) (k j : Nat) (x : Int64) : kSt := (S.1, fun a => if a = k then vp_updL (S.2 a) j x else S.2 a)
def kuA (S : kSt) (k : Nat) (f : Nat → Int32) : kSt := (fun a => if a = k then f else S.1 a, S.2)
def kcv (ad : Nat → Nat) (v : Value) : Value := match v with
  | .ref k => .ref (ad k)
  | v => v
def kb (b : Bool) : Int32 := if b then 1 else 0
def kval (E : kE) (S : kSt) (k j : Nat) (ty : FieldType) : Value := match ty with
  | .long => .long (S.2 k j)
  | .array _ => va_rf ((kRf E.2 k j).map E.1)
  | .object _ => va_rf ((kRf E.2 k j).map E.1)
  | _ => .int (S.1 k j)
def kfs (E : kE) (S : kSt) (k c n : Nat) : List Value := (List.range n).map (fun j => kval E S k j (kTyp c j))
def kent (G : kG) (E : kE) (S : kSt) (k : Nat) : va_E := match kSH[k]? with
  | some (0, c, n) => .inr (c, kfs E S k c n)
  | some (1, 0, n) => .inl (G.2.1.1, n, .inl (S.1 k))
  | some (1, 1, n) => .inl (G.2.1.2.1, n, .inl (S.1 k))
  | some (1, 2, n) => .inl (G.2.1.2.2.1, n, .inr (.inl (S.2 k)))
  | some (1, _, n) => .inl (G.2.1.2.2.2, n, .inr (.inr (.inr (.inr (fun j => (kRf E.2 k j).map E.1)))))
  | _ => .inr (0, [])
def kws (G : kG) (E : kE) (S : kSt) : va_W := (List.range kN).map (fun k => (E.1 k, kent G E S k))
theorem kws_at {G : kG} {E : kE} {S : kSt} {k : Nat} (h : k < kN) : (kws G E S)[k]? = some (E.1 k, kent G E S k) := by
  simp [kws, List.getElem?_map, List.getElem?_range h]
theorem kws_inv {G : kG} {E : kE} {S : kSt} {k : Nat} {q : Nat × va_E} (h : (kws G E S)[k]? = some q) : k < kN ∧ q = (E.1 k, kent G E S k) := by
  have hl := (List.getElem?_eq_some_iff.mp h).1
  have hk : k < kN := by simpa [kws] using hl
  rw [kws_at hk] at h
  exact ⟨hk, (Option.some.inj h).symm⟩
theorem kws_set {G : kG} {E : kE} {S S' : kSt} {k : Nat} {e : va_E} (hk : k < kN) (he : kent G E S' k = e) (h : ∀ i, i ≠ k → kent G E S' i = kent G E S i) : (kws G E S).set k (E.1 k, e) = kws G E S' := by
  subst he
  apply List.ext_getElem?
  intro i
  by_cases hi : i < kN
  · by_cases hik : i = k
    · subst hik
      rw [List.getElem?_set_self (by simpa [kws] using hi), kws_at hi]
    · rw [List.getElem?_set_ne (Ne.symm hik), kws_at hi, kws_at hi, h i hik]
  · rw [List.getElem?_eq_none (by simpa [kws] using hi), List.getElem?_eq_none (by simpa [kws] using hi)]
theorem kws_D {G : kG} {E : kE} {S : kSt} {A : Nat → Prop} (hi : ∀ i j, i < kN → j < kN → E.1 i = E.1 j → i = j) (hA : ∀ k, k < kN → A (E.1 k)) : va_D A (kws G E S) := by
  refine ⟨fun i j p q hp hq e => ?_, fun k q hq => ?_⟩
  · obtain ⟨h1, rfl⟩ := kws_inv hp
    obtain ⟨h2, rfl⟩ := kws_inv hq
    exact hi i j h1 h2 e
  · obtain ⟨h1, rfl⟩ := kws_inv hq
    exact hA k h1
theorem kfs_at {E : kE} {S : kSt} {k c n j : Nat} (h : j < n) : (kfs E S k c n)[j]? = some (kval E S k j (kTyp c j)) := by
  simp [kfs, List.getElem?_map, List.getElem?_range h]
theorem kfs_set {E : kE} {S S' : kSt} {k c n j : Nat} {v : Value} (hv : kval E S' k j (kTyp c j) = v) (h : ∀ i, i ≠ j → kval E S' k i (kTyp c i) = kval E S k i (kTyp c i)) : kfs E S' k c n = (kfs E S k c n).set j v := by
  subst hv
  apply List.ext_getElem?
  intro i
  by_cases hi : i < n
  · by_cases hij : i = j
    · subst hij
      rw [List.getElem?_set_self (by simpa [kfs] using hi), kfs_at hi]
    · rw [List.getElem?_set_ne (Ne.symm hij), kfs_at hi, kfs_at hi, h i hij]
  · rw [List.getElem?_eq_none (by simpa [kfs] using hi), List.getElem?_eq_none (by simpa [kfs] using hi)]
theorem kuI_self (S : kSt) (k j : Nat) (x : Int32) : (kuI S k j x).1 k = upd (S.1 k) j x := by simp [kuI]
theorem kuI_ne (S : kSt) {k a : Nat} (j : Nat) (x : Int32) (h : a ≠ k) : (kuI S k j x).1 a = S.1 a := by simp [kuI, h]
theorem kuI_2 (S : kSt) (k j : Nat) (x : Int32) : (kuI S k j x).2 = S.2 := rfl
theorem kuA_self (S : kSt) (k : Nat) (f : Nat → Int32) : (kuA S k f).1 k = f := by simp [kuA]
theorem kuA_ne (S : kSt) {k a : Nat} (f : Nat → Int32) (h : a ≠ k) : (kuA S k f).1 a = S.1 a := by simp [kuA, h]
theorem kuL_self (S : kSt) (k j : Nat) (x : Int64) : (kuL S k j x).2 k = vp_updL (S.2 k) j x := by simp [kuL]
theorem kuL_ne (S : kSt) {k a : Nat} (j : Nat) (x : Int64) (h : a ≠ k) : (kuL S k j x).2 a = S.2 a := by simp [kuL, h]
theorem kent_congr {G : kG} {E : kE} {S S' : kSt} {i : Nat} (h1 : S'.1 i = S.1 i) (h2 : S'.2 i = S.2 i) : kent G E S' i = kent G E S i := by
  have hv : ∀ j ty, kval E S' i j ty = kval E S i j ty := by
    intro j ty
    unfold kval
    rw [h1, h2]
  have hf : ∀ c n, kfs E S' i c n = kfs E S i c n := by
    intro c n
    unfold kfs
    exact List.map_congr_left (fun j _ => hv j _)
  unfold kent
  rw [h1, h2]
  split <;> simp [hf]
theorem kent_obj {G : kG} {E : kE} {S : kSt} {k c n : Nat} (h : kSH[k]? = some (0, c, n)) : kent G E S k = .inr (c, kfs E S k c n) := by
  unfold kent
  rw [h] <;> rfl
theorem kent_i {G : kG} {E : kE} {S : kSt} {k n : Nat} (h : kSH[k]? = some (1, 0, n)) : kent G E S k = .inl (G.2.1.1, n, .inl (S.1 k)) := by
  unfold kent
  rw [h] <;> rfl
theorem kent_b {G : kG} {E : kE} {S : kSt} {k n : Nat} (h : kSH[k]? = some (1, 1, n)) : kent G E S k = .inl (G.2.1.2.1, n, .inl (S.1 k)) := by
  unfold kent
  rw [h] <;> rfl
theorem kent_q {G : kG} {E : kE} {S : kSt} {k n : Nat} (h : kSH[k]? = some (1, 3, n)) : kent G E S k = .inl (G.2.1.2.2.2, n, .inr (.inr (.inr (.inr (fun j => (kRf E.2 k j).map E.1))))) := by
  unfold kent
  rw [h] <;> rfl
theorem kSH_lt {k : Nat} {q : Nat × Nat × Nat} (h : kSH[k]? = some q) : k < kN := by
  have h1 := (List.getElem?_eq_some_iff.mp h).1
  have h2 : kSH.length = kN := by decide +kernel
  omega
-- the words
def kT : List Cond := lw_tbl.filter goodWord
theorem kin {w : Cond} (i : Nat) (h : tables_1[i]? = some w) (hg : goodWord w = true) : w ∈ kT := List.mem_filter.mpr ⟨List.mem_append_right _ (List.mem_of_getElem? h), hg⟩
theorem kinS {w : Cond} (i : Nat) (h : (k2_sels lw_privs)[i]? = some w) (hg : goodWord w = true) : w ∈ kT := List.mem_filter.mpr ⟨List.mem_append_left _ (List.mem_of_getElem? h), hg⟩
theorem kT_good {w : Cond} (h : w ∈ kT) : (w.onTables && w.keeps) = true ∨ ∃ ty, w = .arrayClass ty := good_of_word (List.mem_filter.mp h).2
def kcode (M : kM) : Cond := .code M.1 M.2.1 M.2.2.1 M.2.2.2
def kWs (M : kM) : List Cond := kcode M :: kT
def kD (M : kM) (pc : Nat) (i : Instr) (n pc' : Nat) : Prop := decode M.2.1 pc = .ok (i, n) ∧ pc' = pc + n
def kDec (M : kM) (L : List (Nat × Instr × Nat × Nat)) : Prop := ∀ q ∈ L, kD M q.1 q.2.1 q.2.2.1 q.2.2.2
theorem kDec.at {M : kM} {L : List (Nat × Instr × Nat × Nat)} (h : kDec M L) (i : Nat) {pc n pc' : Nat} {ins : Instr} (hi : L[i]? = some (pc, ins, n, pc')) : kD M pc ins n pc' := h (pc, ins, n, pc') (List.mem_of_getElem? hi)
def kNl : List Cond := [.methodLinkNest kR2 26 m10_firstMost.1 "FigureKnee", .methodLinkNest kR2 36 m10_drawFrom.1 "FigureKnee"]
def krm (d : Nat) : Room := { frames := d, cells := 0, slots := 0, locals := 60 * d }
end
section
theorem kin1 {w : Cond} (i : Nat) (h : tables_1_1[i]? = some w) (hg : goodWord w = true) : w ∈ kT := List.mem_filter.mpr ⟨List.mem_append_right _ ((fun h => List.mem_append_left _ h) (List.mem_of_getElem? h)), hg⟩
theorem kin2 {w : Cond} (i : Nat) (h : tables_1_2[i]? = some w) (hg : goodWord w = true) : w ∈ kT := List.mem_filter.mpr ⟨List.mem_append_right _ ((fun h => List.mem_append_right _ (List.mem_append_left _ h)) (List.mem_of_getElem? h)), hg⟩
theorem kin3 {w : Cond} (i : Nat) (h : tables_1_3[i]? = some w) (hg : goodWord w = true) : w ∈ kT := List.mem_filter.mpr ⟨List.mem_append_right _ ((fun h => List.mem_append_right _ (List.mem_append_right _ (List.mem_append_left _ h))) (List.mem_of_getElem? h)), hg⟩
theorem kin4 {w : Cond} (i : Nat) (h : tables_1_4[i]? = some w) (hg : goodWord w = true) : w ∈ kT := List.mem_filter.mpr ⟨List.mem_append_right _ ((fun h => List.mem_append_right _ (List.mem_append_right _ (List.mem_append_right _ (List.mem_append_left _ h)))) (List.mem_of_getElem? h)), hg⟩
theorem kin5 {w : Cond} (i : Nat) (h : tables_1_5[i]? = some w) (hg : goodWord w = true) : w ∈ kT := List.mem_filter.mpr ⟨List.mem_append_right _ ((fun h => List.mem_append_right _ (List.mem_append_right _ (List.mem_append_right _ (List.mem_append_right _ (List.mem_append_left _ h))))) (List.mem_of_getElem? h)), hg⟩
theorem kin6 {w : Cond} (i : Nat) (h : tables_1_6[i]? = some w) (hg : goodWord w = true) : w ∈ kT := List.mem_filter.mpr ⟨List.mem_append_right _ ((fun h => List.mem_append_right _ (List.mem_append_right _ (List.mem_append_right _ (List.mem_append_right _ (List.mem_append_right _ (List.mem_append_left _ h)))))) (List.mem_of_getElem? h)), hg⟩
theorem kin7 {w : Cond} (i : Nat) (h : tables_1_7[i]? = some w) (hg : goodWord w = true) : w ∈ kT := List.mem_filter.mpr ⟨List.mem_append_right _ ((fun h => List.mem_append_right _ (List.mem_append_right _ (List.mem_append_right _ (List.mem_append_right _ (List.mem_append_right _ (List.mem_append_right _ (List.mem_append_left _ h))))))) (List.mem_of_getElem? h)), hg⟩
theorem kin8 {w : Cond} (i : Nat) (h : tables_1_8[i]? = some w) (hg : goodWord w = true) : w ∈ kT := List.mem_filter.mpr ⟨List.mem_append_right _ ((fun h => List.mem_append_right _ (List.mem_append_right _ (List.mem_append_right _ (List.mem_append_right _ (List.mem_append_right _ (List.mem_append_right _ (List.mem_append_right _ (h)))))))) (List.mem_of_getElem? h)), hg⟩
theorem kia0 : ∀ j, j < 7 → tables_1[([321, 323, 325, 327, 329, 331, 333] : List Nat).getD j 0]? = some (u_lay kR0 kF0 j) := by decide +kernel
theorem kib0 : ∀ j, j < 7 → goodWord (u_lay kR0 kF0 j) = true := by decide +kernel
theorem kic0 : ∀ w ∈ u_ws kR0 kF0 7, w ∈ kT := by
  intro w hw
  obtain ⟨j, hj, rfl⟩ := List.mem_map.mp hw
  have h := List.mem_range.mp hj
  exact kin _ (kia0 j h) (kib0 j h)
theorem kia1 : ∀ j, j < 5 → tables_1[([294, 296, 298, 300, 302] : List Nat).getD j 0]? = some (u_lay kR1 kF1 j) := by decide +kernel
theorem kib1 : ∀ j, j < 5 → goodWord (u_lay kR1 kF1 j) = true := by decide +kernel
theorem kic1 : ∀ w ∈ u_ws kR1 kF1 5, w ∈ kT := by
  intro w hw
  obtain ⟨j, hj, rfl⟩ := List.mem_map.mp hw
  have h := List.mem_range.mp hj
  exact kin _ (kia1 j h) (kib1 j h)
theorem kia2 : ∀ j, j < 3 → tables_1[([348, 350, 352] : List Nat).getD j 0]? = some (u_lay kR2 kF2 j) := by decide +kernel
theorem kib2 : ∀ j, j < 3 → goodWord (u_lay kR2 kF2 j) = true := by decide +kernel
theorem kic2 : ∀ w ∈ u_ws kR2 kF2 3, w ∈ kT := by
  intro w hw
  obtain ⟨j, hj, rfl⟩ := List.mem_map.mp hw
  have h := List.mem_range.mp hj
  exact kin _ (kia2 j h) (kib2 j h)
theorem kia3 : ∀ j, j < 3 → tables_1[([217, 219, 221] : List Nat).getD j 0]? = some (u_lay kR3 kF3 j) := by decide +kernel
theorem kib3 : ∀ j, j < 3 → goodWord (u_lay kR3 kF3 j) = true := by decide +kernel
theorem kic3 : ∀ w ∈ u_ws kR3 kF3 3, w ∈ kT := by
  intro w hw
  obtain ⟨j, hj, rfl⟩ := List.mem_map.mp hw
  have h := List.mem_range.mp hj
  exact kin _ (kia3 j h) (kib3 j h)
theorem kia4 : ∀ j, j < 4 → tables_1[([196, 198, 200, 202] : List Nat).getD j 0]? = some (u_lay kR4 kF4 j) := by decide +kernel
theorem kib4 : ∀ j, j < 4 → goodWord (u_lay kR4 kF4 j) = true := by decide +kernel
theorem kic4 : ∀ w ∈ u_ws kR4 kF4 4, w ∈ kT := by
  intro w hw
  obtain ⟨j, hj, rfl⟩ := List.mem_map.mp hw
  have h := List.mem_range.mp hj
  exact kin _ (kia4 j h) (kib4 j h)
theorem kia5 : ∀ j, j < 17 → tables_1[([99, 101, 103, 105, 107, 109, 111, 113, 115, 117, 119, 121, 123, 125, 127, 129, 131] : List Nat).getD j 0]? = some (u_lay kR5 kF5 j) := by decide +kernel
theorem kib5 : ∀ j, j < 17 → goodWord (u_lay kR5 kF5 j) = true := by decide +kernel
theorem kic5 : ∀ w ∈ u_ws kR5 kF5 17, w ∈ kT := by
  intro w hw
  obtain ⟨j, hj, rfl⟩ := List.mem_map.mp hw
  have h := List.mem_range.mp hj
  exact kin _ (kia5 j h) (kib5 j h)
theorem kia6 : ∀ j, j < 2 → tables_1[([363, 365] : List Nat).getD j 0]? = some (u_lay kR6 kF6 j) := by decide +kernel
theorem kib6 : ∀ j, j < 2 → goodWord (u_lay kR6 kF6 j) = true := by decide +kernel
theorem kic6 : ∀ w ∈ u_ws kR6 kF6 2, w ∈ kT := by
  intro w hw
  obtain ⟨j, hj, rfl⟩ := List.mem_map.mp hw
  have h := List.mem_range.mp hj
  exact kin _ (kia6 j h) (kib6 j h)
theorem kia7 : ∀ j, j < 11 → tables_1[([155, 157, 159, 161, 163, 165, 167, 169, 171, 173, 175] : List Nat).getD j 0]? = some (u_lay kR7 kF7 j) := by decide +kernel
theorem kib7 : ∀ j, j < 11 → goodWord (u_lay kR7 kF7 j) = true := by decide +kernel
theorem kic7 : ∀ w ∈ u_ws kR7 kF7 11, w ∈ kT := by
  intro w hw
  obtain ⟨j, hj, rfl⟩ := List.mem_map.mp hw
  have h := List.mem_range.mp hj
  exact kin _ (kia7 j h) (kib7 j h)
theorem kia8 : ∀ j, j < 4 → tables_1[([270, 272, 274, 276] : List Nat).getD j 0]? = some (u_lay kR8 kF8 j) := by decide +kernel
theorem kib8 : ∀ j, j < 4 → goodWord (u_lay kR8 kF8 j) = true := by decide +kernel
theorem kic8 : ∀ w ∈ u_ws kR8 kF8 4, w ∈ kT := by
  intro w hw
  obtain ⟨j, hj, rfl⟩ := List.mem_map.mp hw
  have h := List.mem_range.mp hj
  exact kin _ (kia8 j h) (kib8 j h)
theorem kia9 : ∀ j, j < 6 → tables_1[([245, 247, 249, 251, 253, 255] : List Nat).getD j 0]? = some (u_lay kR9 kF9 j) := by decide +kernel
theorem kib9 : ∀ j, j < 6 → goodWord (u_lay kR9 kF9 j) = true := by decide +kernel
theorem kic9 : ∀ w ∈ u_ws kR9 kF9 6, w ∈ kT := by
  intro w hw
  obtain ⟨j, hj, rfl⟩ := List.mem_map.mp hw
  have h := List.mem_range.mp hj
  exact kin _ (kia9 j h) (kib9 j h)
theorem kia10 : ∀ j, j < 19 → tables_1[([387, 389, 391, 393, 395, 397, 399, 401, 403, 405, 407, 409, 411, 413, 415, 417, 419, 421, 423] : List Nat).getD j 0]? = some (u_lay kR10 kF10 j) := by decide +kernel
theorem kib10 : ∀ j, j < 19 → goodWord (u_lay kR10 kF10 j) = true := by decide +kernel
theorem kic10 : ∀ w ∈ u_ws kR10 kF10 19, w ∈ kT := by
  intro w hw
  obtain ⟨j, hj, rfl⟩ := List.mem_map.mp hw
  have h := List.mem_range.mp hj
  exact kin _ (kia10 j h) (kib10 j h)
theorem kia11 : ∀ j, j < 42 → tables_1[([1234, 1236, 1238, 1240, 1242, 1244, 1246, 1248, 1250, 1252, 1254, 1256, 1258, 1260, 1262, 1264, 1266, 1268, 1270, 1272, 1274, 1276, 1278, 1280, 1282, 1284, 1286, 1288, 1290, 1292, 1294, 1296, 1298, 1300, 1302, 1304, 1306, 1308, 1310, 1312, 1314, 1316] : List Nat).getD j 0]? = some (u_lay kR11 kF11 j) := by decide +kernel
theorem kib11 : ∀ j, j < 42 → goodWord (u_lay kR11 kF11 j) = true := by decide +kernel
theorem kic11 : ∀ w ∈ u_ws kR11 kF11 42, w ∈ kT := by
  intro w hw
  obtain ⟨j, hj, rfl⟩ := List.mem_map.mp hw
  have h := List.mem_range.mp hj
  exact kin _ (kia11 j h) (kib11 j h)
/-- what the tables say of a kind of object -/
def kOb (c : Nat) (C : String) (T : u_T) (N : Nat) : Prop := (∀ w ∈ u_ws C T N, w ∈ kT) ∧ (∀ k, k < N → parseFieldDescriptor (T k).2.2.1 = some (kTyp c k)) ∧ (∀ a, a < N → ∀ b, b < N → a ≠ b → (T a).2.1 ≠ (T b).2.1)
theorem kob {c : Nat} {C : String} {T : u_T} {N : Nat} (h : kCl[c]? = some (C, T, N)) : kOb c C T N := by
  match c, h with
  | 0, h => cases h; exact ⟨kic0, kto0, kn0⟩
  | 1, h => cases h; exact ⟨kic1, kto1, kn1⟩
  | 2, h => cases h; exact ⟨kic2, kto2, kn2⟩
  | 3, h => cases h; exact ⟨kic3, kto3, kn3⟩
  | 4, h => cases h; exact ⟨kic4, kto4, kn4⟩
  | 5, h => cases h; exact ⟨kic5, kto5, kn5⟩
  | 6, h => cases h; exact ⟨kic6, kto6, kn6⟩
  | 7, h => cases h; exact ⟨kic7, kto7, kn7⟩
  | 8, h => cases h; exact ⟨kic8, kto8, kn8⟩
  | 9, h => cases h; exact ⟨kic9, kto9, kn9⟩
  | 10, h => cases h; exact ⟨kic10, kto10, kn10⟩
  | 11, h => cases h; exact ⟨kic11, kto11, kn11⟩
  | c + 12, h => simp [kCl] at h
theorem ksh : ∀ q ∈ kSH, q.1 = 0 → (kCl[q.2.1]?).map (fun r => r.2.2) = some q.2.2 := by decide +kernel
theorem kshN {k c n N : Nat} {C : String} {T : u_T} (hs : kSH[k]? = some (0, c, n)) (hc : kCl[c]? = some (C, T, N)) : n = N := by
  have h := ksh _ (List.mem_of_getElem? hs) rfl
  rw [show (0, c, n).2.1 = c from rfl, hc] at h
  exact (Option.some.inj h).symm
/-- entry idx of own's pool names place j of kind c -/
def kFl (own : String) (idx c j : Nat) : Prop := ∃ (C : String) (T : u_T) (N : Nat), kCl[c]? = some (C, T, N) ∧ j < N ∧ Cond.fieldLink own idx C (T j).2.1 (T j).2.2.1 ∈ kT ∧ (T j).1 = C
def kFin (c j : Nat) : Bool := match kCl[c]? with
  | some q => (q.2.1 j).2.2.2
  | none => true
/-- a call: own's entry idx is the method M' of n numbers -/
def kCy (M : kM) (n : Nat) : Prop := M.1.cls ≠ "java/lang/invoke/MethodHandle" ∧ M.1.cls ≠ "java/lang/invoke/VarHandle" ∧ (parseMethodDescriptor M.1.desc).map (fun d => d.parameters.length) = some n
def kCv (own : String) (idx : Nat) (M : kM) (n : Nat) : Prop := Cond.methodLink own idx M.1 ∈ kT ∧ Cond.instanceMethod M.1 ∈ kT ∧ Cond.selects M.1.cls M.1 M.1 ∈ kT ∧ Cond.initialized M.1.cls ∈ kT ∧ kcode M ∈ kT ∧ kCy M n
def kCs (own : String) (idx : Nat) (M : kM) (n : Nat) : Prop := Cond.methodLink own idx M.1 ∈ kT ∧ Cond.static M.1 ∈ kT ∧ Cond.initialized M.1.cls ∈ kT ∧ kcode M ∈ kT ∧ kCy M n
def kCn (own host : String) (idx : Nat) (M : kM) (n : Nat) : Prop := Cond.methodLinkNest own idx M.1 host ∈ kNl ∧ Cond.static M.1 ∈ kT ∧ Cond.initialized M.1.cls ∈ kT ∧ kcode M ∈ kT ∧ kCy M n
theorem kf5_42 : kFl kR5 42 5 0 := ⟨_, _, _, rfl, by decide, kin1 38 (by decide +kernel) rfl, rfl⟩
theorem kf9_33 : kFl kR9 33 5 0 := ⟨_, _, _, rfl, by decide, kin1 39 (by decide +kernel) rfl, rfl⟩
theorem kf10_163 : kFl kR10 163 5 0 := ⟨_, _, _, rfl, by decide, kin1 40 (by decide +kernel) rfl, rfl⟩
theorem kf7_141 : kFl kR7 141 5 0 := ⟨_, _, _, rfl, by decide, kin1 41 (by decide +kernel) rfl, rfl⟩
theorem kf5_46 : kFl kR5 46 5 1 := ⟨_, _, _, rfl, by decide, kin1 42 (by decide +kernel) rfl, rfl⟩
theorem kf7_145 : kFl kR7 145 5 1 := ⟨_, _, _, rfl, by decide, kin1 43 (by decide +kernel) rfl, rfl⟩
theorem kf10_372 : kFl kR10 372 5 1 := ⟨_, _, _, rfl, by decide, kin1 44 (by decide +kernel) rfl, rfl⟩
theorem kf1_32 : kFl kR1 32 5 2 := ⟨_, _, _, rfl, by decide, kin1 45 (by decide +kernel) rfl, rfl⟩
theorem kf5_49 : kFl kR5 49 5 2 := ⟨_, _, _, rfl, by decide, kin1 46 (by decide +kernel) rfl, rfl⟩
theorem kf7_67 : kFl kR7 67 5 2 := ⟨_, _, _, rfl, by decide, kin1 47 (by decide +kernel) rfl, rfl⟩
theorem kf10_112 : kFl kR10 112 5 2 := ⟨_, _, _, rfl, by decide, kin1 48 (by decide +kernel) rfl, rfl⟩
theorem kf5_52 : kFl kR5 52 5 3 := ⟨_, _, _, rfl, by decide, kin1 49 (by decide +kernel) rfl, rfl⟩
theorem kf7_186 : kFl kR7 186 5 3 := ⟨_, _, _, rfl, by decide, kin1 50 (by decide +kernel) rfl, rfl⟩
theorem kf5_55 : kFl kR5 55 5 4 := ⟨_, _, _, rfl, by decide, kin1 51 (by decide +kernel) rfl, rfl⟩
theorem kf7_189 : kFl kR7 189 5 4 := ⟨_, _, _, rfl, by decide, kin1 52 (by decide +kernel) rfl, rfl⟩
theorem kf5_58 : kFl kR5 58 5 5 := ⟨_, _, _, rfl, by decide, kin1 53 (by decide +kernel) rfl, rfl⟩
theorem kf1_48 : kFl kR1 48 5 5 := ⟨_, _, _, rfl, by decide, kin1 54 (by decide +kernel) rfl, rfl⟩
theorem kf7_195 : kFl kR7 195 5 5 := ⟨_, _, _, rfl, by decide, kin1 55 (by decide +kernel) rfl, rfl⟩
theorem kf10_271 : kFl kR10 271 5 5 := ⟨_, _, _, rfl, by decide, kin1 56 (by decide +kernel) rfl, rfl⟩
theorem kf5_61 : kFl kR5 61 5 6 := ⟨_, _, _, rfl, by decide, kin1 57 (by decide +kernel) rfl, rfl⟩
theorem kf1_61 : kFl kR1 61 5 6 := ⟨_, _, _, rfl, by decide, kin1 58 (by decide +kernel) rfl, rfl⟩
theorem kf7_207 : kFl kR7 207 5 6 := ⟨_, _, _, rfl, by decide, kin1 59 (by decide +kernel) rfl, rfl⟩
theorem kf10_280 : kFl kR10 280 5 6 := ⟨_, _, _, rfl, by decide, kin1 60 (by decide +kernel) rfl, rfl⟩
theorem kf5_9 : kFl kR5 9 5 7 := ⟨_, _, _, rfl, by decide, kin1 61 (by decide +kernel) rfl, rfl⟩
theorem kf9_39 : kFl kR9 39 5 7 := ⟨_, _, _, rfl, by decide, kin1 62 (by decide +kernel) rfl, rfl⟩
theorem kf10_160 : kFl kR10 160 5 7 := ⟨_, _, _, rfl, by decide, kin1 63 (by decide +kernel) rfl, rfl⟩
theorem kf7_162 : kFl kR7 162 5 7 := ⟨_, _, _, rfl, by decide, kin1 64 (by decide +kernel) rfl, rfl⟩
theorem kf5_15 : kFl kR5 15 5 8 := ⟨_, _, _, rfl, by decide, kin1 65 (by decide +kernel) rfl, rfl⟩
theorem kf4_25 : kFl kR4 25 5 8 := ⟨_, _, _, rfl, by decide, kin1 66 (by decide +kernel) rfl, rfl⟩
theorem kf9_52 : kFl kR9 52 5 8 := ⟨_, _, _, rfl, by decide, kin1 67 (by decide +kernel) rfl, rfl⟩
theorem kf7_170 : kFl kR7 170 5 8 := ⟨_, _, _, rfl, by decide, kin1 68 (by decide +kernel) rfl, rfl⟩
theorem kf5_18 : kFl kR5 18 5 9 := ⟨_, _, _, rfl, by decide, kin1 69 (by decide +kernel) rfl, rfl⟩
theorem kf4_34 : kFl kR4 34 5 9 := ⟨_, _, _, rfl, by decide, kin1 70 (by decide +kernel) rfl, rfl⟩
theorem kf1_41 : kFl kR1 41 5 9 := ⟨_, _, _, rfl, by decide, kin1 71 (by decide +kernel) rfl, rfl⟩
theorem kf9_45 : kFl kR9 45 5 9 := ⟨_, _, _, rfl, by decide, kin1 72 (by decide +kernel) rfl, rfl⟩
theorem kf7_175 : kFl kR7 175 5 9 := ⟨_, _, _, rfl, by decide, kin1 73 (by decide +kernel) rfl, rfl⟩
theorem kf5_21 : kFl kR5 21 5 10 := ⟨_, _, _, rfl, by decide, kin1 74 (by decide +kernel) rfl, rfl⟩
theorem kf9_46 : kFl kR9 46 5 10 := ⟨_, _, _, rfl, by decide, kin1 75 (by decide +kernel) rfl, rfl⟩
theorem kf10_169 : kFl kR10 169 5 10 := ⟨_, _, _, rfl, by decide, kin1 76 (by decide +kernel) rfl, rfl⟩
theorem kf7_181 : kFl kR7 181 5 10 := ⟨_, _, _, rfl, by decide, kin1 77 (by decide +kernel) rfl, rfl⟩
theorem kf5_24 : kFl kR5 24 5 11 := ⟨_, _, _, rfl, by decide, kin1 78 (by decide +kernel) rfl, rfl⟩
theorem kf4_35 : kFl kR4 35 5 11 := ⟨_, _, _, rfl, by decide, kin1 79 (by decide +kernel) rfl, rfl⟩
theorem kf7_192 : kFl kR7 192 5 11 := ⟨_, _, _, rfl, by decide, kin1 80 (by decide +kernel) rfl, rfl⟩
theorem kf5_27 : kFl kR5 27 5 12 := ⟨_, _, _, rfl, by decide, kin1 81 (by decide +kernel) rfl, rfl⟩
theorem kf1_51 : kFl kR1 51 5 12 := ⟨_, _, _, rfl, by decide, kin1 82 (by decide +kernel) rfl, rfl⟩
theorem kf7_201 : kFl kR7 201 5 12 := ⟨_, _, _, rfl, by decide, kin1 83 (by decide +kernel) rfl, rfl⟩
theorem kf5_30 : kFl kR5 30 5 13 := ⟨_, _, _, rfl, by decide, kin1 84 (by decide +kernel) rfl, rfl⟩
theorem kf1_54 : kFl kR1 54 5 13 := ⟨_, _, _, rfl, by decide, kin1 85 (by decide +kernel) rfl, rfl⟩
theorem kf7_204 : kFl kR7 204 5 13 := ⟨_, _, _, rfl, by decide, kin1 86 (by decide +kernel) rfl, rfl⟩
theorem kf5_33 : kFl kR5 33 5 14 := ⟨_, _, _, rfl, by decide, kin1 87 (by decide +kernel) rfl, rfl⟩
theorem kf1_64 : kFl kR1 64 5 14 := ⟨_, _, _, rfl, by decide, kin1 88 (by decide +kernel) rfl, rfl⟩
theorem kf7_215 : kFl kR7 215 5 14 := ⟨_, _, _, rfl, by decide, kin1 89 (by decide +kernel) rfl, rfl⟩
theorem kf10_286 : kFl kR10 286 5 14 := ⟨_, _, _, rfl, by decide, kin1 90 (by decide +kernel) rfl, rfl⟩
theorem kf5_36 : kFl kR5 36 5 15 := ⟨_, _, _, rfl, by decide, kin1 91 (by decide +kernel) rfl, rfl⟩
theorem kf1_74 : kFl kR1 74 5 15 := ⟨_, _, _, rfl, by decide, kin1 92 (by decide +kernel) rfl, rfl⟩
theorem kf7_218 : kFl kR7 218 5 15 := ⟨_, _, _, rfl, by decide, kin1 93 (by decide +kernel) rfl, rfl⟩
theorem kf10_293 : kFl kR10 293 5 15 := ⟨_, _, _, rfl, by decide, kin1 94 (by decide +kernel) rfl, rfl⟩
theorem kf5_39 : kFl kR5 39 5 16 := ⟨_, _, _, rfl, by decide, kin1 95 (by decide +kernel) rfl, rfl⟩
theorem kf1_84 : kFl kR1 84 5 16 := ⟨_, _, _, rfl, by decide, kin1 96 (by decide +kernel) rfl, rfl⟩
theorem kf7_221 : kFl kR7 221 5 16 := ⟨_, _, _, rfl, by decide, kin1 97 (by decide +kernel) rfl, rfl⟩
theorem kf10_296 : kFl kR10 296 5 16 := ⟨_, _, _, rfl, by decide, kin1 98 (by decide +kernel) rfl, rfl⟩
theorem kf7_18 : kFl kR7 18 7 0 := ⟨_, _, _, rfl, by decide, kin1 142 (by decide +kernel) rfl, rfl⟩
theorem kf7_37 : kFl kR7 37 7 1 := ⟨_, _, _, rfl, by decide, kin1 143 (by decide +kernel) rfl, rfl⟩
theorem kf7_41 : kFl kR7 41 7 2 := ⟨_, _, _, rfl, by decide, kin1 144 (by decide +kernel) rfl, rfl⟩
theorem kf7_57 : kFl kR7 57 7 3 := ⟨_, _, _, rfl, by decide, kin1 145 (by decide +kernel) rfl, rfl⟩
theorem kf7_70 : kFl kR7 70 7 4 := ⟨_, _, _, rfl, by decide, kin1 146 (by decide +kernel) rfl, rfl⟩
theorem kf7_85 : kFl kR7 85 7 5 := ⟨_, _, _, rfl, by decide, kin1 147 (by decide +kernel) rfl, rfl⟩
theorem kf7_22 : kFl kR7 22 7 6 := ⟨_, _, _, rfl, by decide, kin1 148 (by decide +kernel) rfl, rfl⟩
theorem kf7_9 : kFl kR7 9 7 7 := ⟨_, _, _, rfl, by decide, kin1 149 (by decide +kernel) rfl, rfl⟩
theorem kf7_15 : kFl kR7 15 7 8 := ⟨_, _, _, rfl, by decide, kin1 150 (by decide +kernel) rfl, rfl⟩
theorem kf7_44 : kFl kR7 44 7 9 := ⟨_, _, _, rfl, by decide, kin1 151 (by decide +kernel) rfl, rfl⟩
theorem kf10_148 : kFl kR10 148 7 9 := ⟨_, _, _, rfl, by decide, kin1 152 (by decide +kernel) rfl, rfl⟩
theorem kf7_47 : kFl kR7 47 7 10 := ⟨_, _, _, rfl, by decide, kin1 153 (by decide +kernel) rfl, rfl⟩
theorem kf10_151 : kFl kR10 151 7 10 := ⟨_, _, _, rfl, by decide, kin1 154 (by decide +kernel) rfl, rfl⟩
theorem kf4_21 : kFl kR4 21 4 0 := ⟨_, _, _, rfl, by decide, kin1 184 (by decide +kernel) rfl, rfl⟩
theorem kf9_29 : kFl kR9 29 4 0 := ⟨_, _, _, rfl, by decide, kin1 185 (by decide +kernel) rfl, rfl⟩
theorem kf10_383 : kFl kR10 383 4 0 := ⟨_, _, _, rfl, by decide, kin1 186 (by decide +kernel) rfl, rfl⟩
theorem kf4_11 : kFl kR4 11 4 1 := ⟨_, _, _, rfl, by decide, kin1 187 (by decide +kernel) rfl, rfl⟩
theorem kf9_23 : kFl kR9 23 4 1 := ⟨_, _, _, rfl, by decide, kin1 188 (by decide +kernel) rfl, rfl⟩
theorem kf10_157 : kFl kR10 157 4 1 := ⟨_, _, _, rfl, by decide, kin1 189 (by decide +kernel) rfl, rfl⟩
theorem kf4_15 : kFl kR4 15 4 2 := ⟨_, _, _, rfl, by decide, kin1 190 (by decide +kernel) rfl, rfl⟩
theorem kf9_13 : kFl kR9 13 4 2 := ⟨_, _, _, rfl, by decide, kin1 191 (by decide +kernel) rfl, rfl⟩
theorem kf10_166 : kFl kR10 166 4 2 := ⟨_, _, _, rfl, by decide, kin1 192 (by decide +kernel) rfl, rfl⟩
theorem kf4_18 : kFl kR4 18 4 3 := ⟨_, _, _, rfl, by decide, kin1 193 (by decide +kernel) rfl, rfl⟩
theorem kf0_37 : kFl kR0 37 4 3 := ⟨_, _, _, rfl, by decide, kin1 194 (by decide +kernel) rfl, rfl⟩
theorem kf10_299 : kFl kR10 299 4 3 := ⟨_, _, _, rfl, by decide, kin1 195 (by decide +kernel) rfl, rfl⟩
theorem kf3_13 : kFl kR3 13 3 0 := ⟨_, _, _, rfl, by decide, kin1 213 (by decide +kernel) rfl, rfl⟩
theorem kf3_22 : kFl kR3 22 3 1 := ⟨_, _, _, rfl, by decide, kin1 214 (by decide +kernel) rfl, rfl⟩
theorem kf3_18 : kFl kR3 18 3 2 := ⟨_, _, _, rfl, by decide, kin1 215 (by decide +kernel) rfl, rfl⟩
theorem kf10_399 : kFl kR10 399 3 2 := ⟨_, _, _, rfl, by decide, kin1 216 (by decide +kernel) rfl, rfl⟩
theorem kf9_38 : kFl kR9 38 9 0 := ⟨_, _, _, rfl, by decide, kin1 231 (by decide +kernel) rfl, rfl⟩
theorem kf9_42 : kFl kR9 42 9 1 := ⟨_, _, _, rfl, by decide, kin1 232 (by decide +kernel) rfl, rfl⟩
theorem kf9_19 : kFl kR9 19 9 2 := ⟨_, _, _, rfl, by decide, kin1 233 (by decide +kernel) rfl, rfl⟩
theorem kf1_71 : kFl kR1 71 9 2 := ⟨_, _, _, rfl, by decide, kin1 234 (by decide +kernel) rfl, rfl⟩
theorem kf10_250 : kFl kR10 250 9 2 := ⟨_, _, _, rfl, by decide, kin1 235 (by decide +kernel) rfl, rfl⟩
theorem kf8_52 : kFl kR8 52 9 3 := ⟨_, _, _, rfl, by decide, kin1 236 (by decide +kernel) rfl, rfl⟩
theorem kf9_49 : kFl kR9 49 9 3 := ⟨_, _, _, rfl, by decide, kin1 237 (by decide +kernel) rfl, rfl⟩
theorem kf10_240 : kFl kR10 240 9 3 := ⟨_, _, _, rfl, by decide, kin1 238 (by decide +kernel) rfl, rfl⟩
theorem kf9_26 : kFl kR9 26 9 4 := ⟨_, _, _, rfl, by decide, kin1 239 (by decide +kernel) rfl, rfl⟩
theorem kf8_28 : kFl kR8 28 9 4 := ⟨_, _, _, rfl, by decide, kin2 0 (by decide +kernel) rfl, rfl⟩
theorem kf1_81 : kFl kR1 81 9 4 := ⟨_, _, _, rfl, by decide, kin2 1 (by decide +kernel) rfl, rfl⟩
theorem kf10_181 : kFl kR10 181 9 4 := ⟨_, _, _, rfl, by decide, kin2 2 (by decide +kernel) rfl, rfl⟩
theorem kf9_32 : kFl kR9 32 9 5 := ⟨_, _, _, rfl, by decide, kin2 3 (by decide +kernel) rfl, rfl⟩
theorem kf8_55 : kFl kR8 55 9 5 := ⟨_, _, _, rfl, by decide, kin2 4 (by decide +kernel) rfl, rfl⟩
theorem kf8_11 : kFl kR8 11 8 0 := ⟨_, _, _, rfl, by decide, kin2 24 (by decide +kernel) rfl, rfl⟩
theorem kf8_15 : kFl kR8 15 8 1 := ⟨_, _, _, rfl, by decide, kin2 25 (by decide +kernel) rfl, rfl⟩
theorem kf8_43 : kFl kR8 43 8 2 := ⟨_, _, _, rfl, by decide, kin2 26 (by decide +kernel) rfl, rfl⟩
theorem kf10_204 : kFl kR10 204 8 2 := ⟨_, _, _, rfl, by decide, kin2 27 (by decide +kernel) rfl, rfl⟩
theorem kf8_46 : kFl kR8 46 8 3 := ⟨_, _, _, rfl, by decide, kin2 28 (by decide +kernel) rfl, rfl⟩
theorem kf10_207 : kFl kR10 207 8 3 := ⟨_, _, _, rfl, by decide, kin2 29 (by decide +kernel) rfl, rfl⟩
theorem kf1_12 : kFl kR1 12 1 0 := ⟨_, _, _, rfl, by decide, kin2 47 (by decide +kernel) rfl, rfl⟩
theorem kf1_18 : kFl kR1 18 1 1 := ⟨_, _, _, rfl, by decide, kin2 48 (by decide +kernel) rfl, rfl⟩
theorem kf1_22 : kFl kR1 22 1 2 := ⟨_, _, _, rfl, by decide, kin2 49 (by decide +kernel) rfl, rfl⟩
theorem kf1_25 : kFl kR1 25 1 3 := ⟨_, _, _, rfl, by decide, kin2 50 (by decide +kernel) rfl, rfl⟩
theorem kf10_262 : kFl kR10 262 1 3 := ⟨_, _, _, rfl, by decide, kin2 51 (by decide +kernel) rfl, rfl⟩
theorem kf1_28 : kFl kR1 28 1 4 := ⟨_, _, _, rfl, by decide, kin2 52 (by decide +kernel) rfl, rfl⟩
theorem kf10_259 : kFl kR10 259 1 4 := ⟨_, _, _, rfl, by decide, kin2 53 (by decide +kernel) rfl, rfl⟩
theorem kf0_33 : kFl kR0 33 0 0 := ⟨_, _, _, rfl, by decide, kin2 71 (by decide +kernel) rfl, rfl⟩
theorem kf0_9 : kFl kR0 9 0 1 := ⟨_, _, _, rfl, by decide, kin2 72 (by decide +kernel) rfl, rfl⟩
theorem kf10_307 : kFl kR10 307 0 1 := ⟨_, _, _, rfl, by decide, kin2 73 (by decide +kernel) rfl, rfl⟩
theorem kf0_15 : kFl kR0 15 0 2 := ⟨_, _, _, rfl, by decide, kin2 74 (by decide +kernel) rfl, rfl⟩
theorem kf0_18 : kFl kR0 18 0 3 := ⟨_, _, _, rfl, by decide, kin2 75 (by decide +kernel) rfl, rfl⟩
theorem kf0_21 : kFl kR0 21 0 4 := ⟨_, _, _, rfl, by decide, kin2 76 (by decide +kernel) rfl, rfl⟩
theorem kf0_24 : kFl kR0 24 0 5 := ⟨_, _, _, rfl, by decide, kin2 77 (by decide +kernel) rfl, rfl⟩
theorem kf10_323 : kFl kR10 323 0 5 := ⟨_, _, _, rfl, by decide, kin2 78 (by decide +kernel) rfl, rfl⟩
theorem kf0_45 : kFl kR0 45 0 6 := ⟨_, _, _, rfl, by decide, kin2 79 (by decide +kernel) rfl, rfl⟩
theorem kf10_320 : kFl kR10 320 0 6 := ⟨_, _, _, rfl, by decide, kin2 80 (by decide +kernel) rfl, rfl⟩
theorem kf2_9 : kFl kR2 9 2 0 := ⟨_, _, _, rfl, by decide, kin2 102 (by decide +kernel) rfl, rfl⟩
theorem kf10_360 : kFl kR10 360 2 0 := ⟨_, _, _, rfl, by decide, kin2 103 (by decide +kernel) rfl, rfl⟩
theorem kf2_19 : kFl kR2 19 2 1 := ⟨_, _, _, rfl, by decide, kin2 104 (by decide +kernel) rfl, rfl⟩
theorem kf10_342 : kFl kR10 342 2 1 := ⟨_, _, _, rfl, by decide, kin2 105 (by decide +kernel) rfl, rfl⟩
theorem kf2_15 : kFl kR2 15 2 2 := ⟨_, _, _, rfl, by decide, kin2 106 (by decide +kernel) rfl, rfl⟩
theorem kf10_345 : kFl kR10 345 2 2 := ⟨_, _, _, rfl, by decide, kin2 107 (by decide +kernel) rfl, rfl⟩
theorem kf6_7 : kFl kR6 7 6 0 := ⟨_, _, _, rfl, by decide, kin2 121 (by decide +kernel) rfl, rfl⟩
theorem kf6_13 : kFl kR6 13 6 1 := ⟨_, _, _, rfl, by decide, kin2 122 (by decide +kernel) rfl, rfl⟩
theorem kf10_9 : kFl kR10 9 10 0 := ⟨_, _, _, rfl, by decide, kin2 128 (by decide +kernel) rfl, rfl⟩
theorem kf10_119 : kFl kR10 119 10 1 := ⟨_, _, _, rfl, by decide, kin2 129 (by decide +kernel) rfl, rfl⟩
theorem kf10_16 : kFl kR10 16 10 2 := ⟨_, _, _, rfl, by decide, kin2 130 (by decide +kernel) rfl, rfl⟩
theorem kf10_20 : kFl kR10 20 10 3 := ⟨_, _, _, rfl, by decide, kin2 131 (by decide +kernel) rfl, rfl⟩
theorem kf10_28 : kFl kR10 28 10 4 := ⟨_, _, _, rfl, by decide, kin2 132 (by decide +kernel) rfl, rfl⟩
theorem kf10_108 : kFl kR10 108 10 5 := ⟨_, _, _, rfl, by decide, kin2 133 (by decide +kernel) rfl, rfl⟩
theorem kf10_35 : kFl kR10 35 10 6 := ⟨_, _, _, rfl, by decide, kin2 134 (by decide +kernel) rfl, rfl⟩
theorem kf10_42 : kFl kR10 42 10 7 := ⟨_, _, _, rfl, by decide, kin2 135 (by decide +kernel) rfl, rfl⟩
theorem kf10_48 : kFl kR10 48 10 8 := ⟨_, _, _, rfl, by decide, kin2 136 (by decide +kernel) rfl, rfl⟩
theorem kf10_145 : kFl kR10 145 10 9 := ⟨_, _, _, rfl, by decide, kin2 137 (by decide +kernel) rfl, rfl⟩
theorem kf10_54 : kFl kR10 54 10 10 := ⟨_, _, _, rfl, by decide, kin2 138 (by decide +kernel) rfl, rfl⟩
theorem kf10_58 : kFl kR10 58 10 11 := ⟨_, _, _, rfl, by decide, kin2 139 (by decide +kernel) rfl, rfl⟩
theorem kf10_61 : kFl kR10 61 10 12 := ⟨_, _, _, rfl, by decide, kin2 140 (by decide +kernel) rfl, rfl⟩
theorem kf10_68 : kFl kR10 68 10 13 := ⟨_, _, _, rfl, by decide, kin2 141 (by decide +kernel) rfl, rfl⟩
theorem kf10_75 : kFl kR10 75 10 14 := ⟨_, _, _, rfl, by decide, kin2 142 (by decide +kernel) rfl, rfl⟩
theorem kf10_82 : kFl kR10 82 10 15 := ⟨_, _, _, rfl, by decide, kin2 143 (by decide +kernel) rfl, rfl⟩
theorem kf10_89 : kFl kR10 89 10 16 := ⟨_, _, _, rfl, by decide, kin2 144 (by decide +kernel) rfl, rfl⟩
theorem kf10_96 : kFl kR10 96 10 17 := ⟨_, _, _, rfl, by decide, kin2 145 (by decide +kernel) rfl, rfl⟩
theorem kf10_100 : kFl kR10 100 10 18 := ⟨_, _, _, rfl, by decide, kin2 146 (by decide +kernel) rfl, rfl⟩
theorem kf11_59 : kFl kR11 59 11 0 := ⟨_, _, _, rfl, by decide, kin5 232 (by decide +kernel) rfl, rfl⟩
theorem kf11_7 : kFl kR11 7 11 1 := ⟨_, _, _, rfl, by decide, kin5 233 (by decide +kernel) rfl, rfl⟩
theorem kf11_65 : kFl kR11 65 11 2 := ⟨_, _, _, rfl, by decide, kin5 234 (by decide +kernel) rfl, rfl⟩
theorem kf11_68 : kFl kR11 68 11 3 := ⟨_, _, _, rfl, by decide, kin5 235 (by decide +kernel) rfl, rfl⟩
theorem kf11_78 : kFl kR11 78 11 4 := ⟨_, _, _, rfl, by decide, kin5 236 (by decide +kernel) rfl, rfl⟩
theorem kf11_71 : kFl kR11 71 11 5 := ⟨_, _, _, rfl, by decide, kin5 237 (by decide +kernel) rfl, rfl⟩
theorem kf11_87 : kFl kR11 87 11 6 := ⟨_, _, _, rfl, by decide, kin5 238 (by decide +kernel) rfl, rfl⟩
theorem kf11_84 : kFl kR11 84 11 7 := ⟨_, _, _, rfl, by decide, kin5 239 (by decide +kernel) rfl, rfl⟩
theorem kf11_81 : kFl kR11 81 11 8 := ⟨_, _, _, rfl, by decide, kin6 0 (by decide +kernel) rfl, rfl⟩
theorem kf11_101 : kFl kR11 101 11 9 := ⟨_, _, _, rfl, by decide, kin6 1 (by decide +kernel) rfl, rfl⟩
theorem kf11_13 : kFl kR11 13 11 10 := ⟨_, _, _, rfl, by decide, kin6 2 (by decide +kernel) rfl, rfl⟩
theorem kf11_62 : kFl kR11 62 11 11 := ⟨_, _, _, rfl, by decide, kin6 3 (by decide +kernel) rfl, rfl⟩
theorem kf11_17 : kFl kR11 17 11 12 := ⟨_, _, _, rfl, by decide, kin6 4 (by decide +kernel) rfl, rfl⟩
theorem kf11_97 : kFl kR11 97 11 13 := ⟨_, _, _, rfl, by decide, kin6 5 (by decide +kernel) rfl, rfl⟩
theorem kf11_177 : kFl kR11 177 11 14 := ⟨_, _, _, rfl, by decide, kin6 6 (by decide +kernel) rfl, rfl⟩
theorem kf11_20 : kFl kR11 20 11 15 := ⟨_, _, _, rfl, by decide, kin6 7 (by decide +kernel) rfl, rfl⟩
theorem kf11_23 : kFl kR11 23 11 16 := ⟨_, _, _, rfl, by decide, kin6 8 (by decide +kernel) rfl, rfl⟩
theorem kf11_26 : kFl kR11 26 11 17 := ⟨_, _, _, rfl, by decide, kin6 9 (by decide +kernel) rfl, rfl⟩
theorem kf11_29 : kFl kR11 29 11 18 := ⟨_, _, _, rfl, by decide, kin6 10 (by decide +kernel) rfl, rfl⟩
theorem kf11_32 : kFl kR11 32 11 19 := ⟨_, _, _, rfl, by decide, kin6 11 (by decide +kernel) rfl, rfl⟩
theorem kf11_35 : kFl kR11 35 11 20 := ⟨_, _, _, rfl, by decide, kin6 12 (by decide +kernel) rfl, rfl⟩
theorem kf11_38 : kFl kR11 38 11 21 := ⟨_, _, _, rfl, by decide, kin6 13 (by decide +kernel) rfl, rfl⟩
theorem kf11_180 : kFl kR11 180 11 22 := ⟨_, _, _, rfl, by decide, kin6 14 (by decide +kernel) rfl, rfl⟩
theorem kf11_183 : kFl kR11 183 11 23 := ⟨_, _, _, rfl, by decide, kin6 15 (by decide +kernel) rfl, rfl⟩
theorem kf11_41 : kFl kR11 41 11 24 := ⟨_, _, _, rfl, by decide, kin6 16 (by decide +kernel) rfl, rfl⟩
theorem kf11_44 : kFl kR11 44 11 25 := ⟨_, _, _, rfl, by decide, kin6 17 (by decide +kernel) rfl, rfl⟩
theorem kf11_257 : kFl kR11 257 11 26 := ⟨_, _, _, rfl, by decide, kin6 18 (by decide +kernel) rfl, rfl⟩
theorem kf11_260 : kFl kR11 260 11 27 := ⟨_, _, _, rfl, by decide, kin6 19 (by decide +kernel) rfl, rfl⟩
theorem kf11_269 : kFl kR11 269 11 28 := ⟨_, _, _, rfl, by decide, kin6 20 (by decide +kernel) rfl, rfl⟩
theorem kf11_263 : kFl kR11 263 11 29 := ⟨_, _, _, rfl, by decide, kin6 21 (by decide +kernel) rfl, rfl⟩
theorem kf11_47 : kFl kR11 47 11 30 := ⟨_, _, _, rfl, by decide, kin6 22 (by decide +kernel) rfl, rfl⟩
theorem kf11_315 : kFl kR11 315 11 31 := ⟨_, _, _, rfl, by decide, kin6 23 (by decide +kernel) rfl, rfl⟩
theorem kf11_318 : kFl kR11 318 11 32 := ⟨_, _, _, rfl, by decide, kin6 24 (by decide +kernel) rfl, rfl⟩
theorem kf11_321 : kFl kR11 321 11 33 := ⟨_, _, _, rfl, by decide, kin6 25 (by decide +kernel) rfl, rfl⟩
theorem kf11_50 : kFl kR11 50 11 34 := ⟨_, _, _, rfl, by decide, kin6 26 (by decide +kernel) rfl, rfl⟩
theorem kf11_53 : kFl kR11 53 11 35 := ⟨_, _, _, rfl, by decide, kin6 27 (by decide +kernel) rfl, rfl⟩
theorem kf11_352 : kFl kR11 352 11 36 := ⟨_, _, _, rfl, by decide, kin6 28 (by decide +kernel) rfl, rfl⟩
theorem kf11_366 : kFl kR11 366 11 37 := ⟨_, _, _, rfl, by decide, kin6 29 (by decide +kernel) rfl, rfl⟩
theorem kf11_56 : kFl kR11 56 11 38 := ⟨_, _, _, rfl, by decide, kin6 30 (by decide +kernel) rfl, rfl⟩
theorem kf11_385 : kFl kR11 385 11 39 := ⟨_, _, _, rfl, by decide, kin6 31 (by decide +kernel) rfl, rfl⟩
theorem kf11_389 : kFl kR11 389 11 40 := ⟨_, _, _, rfl, by decide, kin6 32 (by decide +kernel) rfl, rfl⟩
theorem kf11_392 : kFl kR11 392 11 41 := ⟨_, _, _, rfl, by decide, kin6 33 (by decide +kernel) rfl, rfl⟩
def mJ_abs_J9 : kM := (⟨"java/lang/Math", "abs", "(I)I"⟩, prog_18_method_59_code, 1, some .int)
def mJ_max_J9 : kM := (⟨"java/lang/Math", "max", "(II)I"⟩, prog_18_method_65_code, 2, some .int)
def mJ_min_J9 : kM := (⟨"java/lang/Math", "min", "(II)I"⟩, prog_18_method_69_code, 2, some .int)
def mJ_length_J0 : kM := (⟨"java/lang/String", "length", "()I"⟩, prog_20_method_54_code, 1, some .int)
def mJ_charAt_J0 : kM := (⟨"java/lang/String", "charAt", "(I)C"⟩, prog_20_method_56_code, 2, some .char)
def mJ_coder_J0 : kM := (⟨"java/lang/String", "code\x72", "()B"⟩, prog_20_method_152_code, 1, some .byte)
def mJ_isLatin1_J0 : kM := (⟨"java/lang/String", "isLatin1", "()Z"⟩, prog_20_method_154_code, 1, some .boolean)
def mJ_checkIndex_J0 : kM := (⟨"java/lang/String", "checkIndex", "(II)V"⟩, prog_20_method_155_code, 2, none)
def mJ_charAt_J1 : kM := (⟨"java/lang/StringLatin1", "charAt", "([BI)C"⟩, prog_21_method_2_code, 2, some .char)
def mJ_getChar_J2 : kM := (⟨"java/lang/StringUTF16", "getCha\x72", "([BI)C"⟩, prog_22_method_5_code, 2, some .char)
def mJ_length_J2 : kM := (⟨"java/lang/StringUTF16", "length", "([B)I"⟩, prog_22_method_6_code, 1, some .int)
def mJ_charAt_J2 : kM := (⟨"java/lang/StringUTF16", "charAt", "([BI)C"⟩, prog_22_method_83_code, 2, some .char)
def mJ_checkIndex_J2 : kM := (⟨"java/lang/StringUTF16", "checkIndex", "(I[B)V"⟩, prog_22_method_91_code, 2, none)
def mJ_fill_J7 : kM := (⟨"java/util/Arrays", "fill", "([II)V"⟩, prog_27_method_103_code, 4, none)
def mJ_checkIndex_J3 : kM := (⟨"jdk/internal/util/Preconditions", "checkIndex", "(IILjava/util/function/BiFunction;)I"⟩, prog_29_method_11_code, 3, some .int)
theorem kwc_m0_reckon : kcode m0_reckon ∈ kT := kin4 202 (by decide +kernel) rfl
theorem kwi_m0_reckon : Cond.initialized m0_reckon.1.cls ∈ kT := kin1 9 (by decide +kernel) rfl
theorem kwm_m0_reckon : Cond.instanceMethod m0_reckon.1 ∈ kT := kin4 200 (by decide +kernel) rfl
theorem kwl_m0_reckon : Cond.selects m0_reckon.1.cls m0_reckon.1 m0_reckon.1 ∈ kT := kin4 201 (by decide +kernel) rfl
theorem kwc_m0_owedInAll : kcode m0_owedInAll ∈ kT := kin4 211 (by decide +kernel) rfl
theorem kwi_m0_owedInAll : Cond.initialized m0_owedInAll.1.cls ∈ kT := kin1 9 (by decide +kernel) rfl
theorem kwm_m0_owedInAll : Cond.instanceMethod m0_owedInAll.1 ∈ kT := kin4 209 (by decide +kernel) rfl
theorem kwl_m0_owedInAll : Cond.selects m0_owedInAll.1.cls m0_owedInAll.1 m0_owedInAll.1 ∈ kT := kin4 210 (by decide +kernel) rfl
theorem kwc_m0_fewestPayments : kcode m0_fewestPayments ∈ kT := kin4 224 (by decide +kernel) rfl
theorem kwi_m0_fewestPayments : Cond.initialized m0_fewestPayments.1.cls ∈ kT := kin1 9 (by decide +kernel) rfl
theorem kwm_m0_fewestPayments : Cond.instanceMethod m0_fewestPayments.1 ∈ kT := kin4 222 (by decide +kernel) rfl
theorem kwl_m0_fewestPayments : Cond.selects m0_fewestPayments.1.cls m0_fewestPayments.1 m0_fewestPayments.1 ∈ kT := kin4 223 (by decide +kernel) rfl
theorem kwc_m0_findRing : kcode m0_findRing ∈ kT := kin4 232 (by decide +kernel) rfl
theorem kwi_m0_findRing : Cond.initialized m0_findRing.1.cls ∈ kT := kin1 9 (by decide +kernel) rfl
theorem kwm_m0_findRing : Cond.instanceMethod m0_findRing.1 ∈ kT := kin4 230 (by decide +kernel) rfl
theorem kwl_m0_findRing : Cond.selects m0_findRing.1.cls m0_findRing.1 m0_findRing.1 ∈ kT := kin4 231 (by decide +kernel) rfl
theorem kwc_m0_countDebtsHome : kcode m0_countDebtsHome ∈ kT := kin4 236 (by decide +kernel) rfl
theorem kwi_m0_countDebtsHome : Cond.initialized m0_countDebtsHome.1.cls ∈ kT := kin1 9 (by decide +kernel) rfl
theorem kwm_m0_countDebtsHome : Cond.instanceMethod m0_countDebtsHome.1 ∈ kT := kin4 235 (by decide +kernel) rfl
theorem kwl_m0_countDebtsHome : Cond.selects m0_countDebtsHome.1.cls m0_countDebtsHome.1 m0_countDebtsHome.1 ∈ kT := kinS 39 (by decide +kernel) rfl
theorem kwc_m0_fewestDebtsBehind : kcode m0_fewestDebtsBehind ∈ kT := kin5 1 (by decide +kernel) rfl
theorem kwi_m0_fewestDebtsBehind : Cond.initialized m0_fewestDebtsBehind.1.cls ∈ kT := kin1 9 (by decide +kernel) rfl
theorem kwm_m0_fewestDebtsBehind : Cond.instanceMethod m0_fewestDebtsBehind.1 ∈ kT := kin5 0 (by decide +kernel) rfl
theorem kwl_m0_fewestDebtsBehind : Cond.selects m0_fewestDebtsBehind.1.cls m0_fewestDebtsBehind.1 m0_fewestDebtsBehind.1 ∈ kT := kinS 40 (by decide +kernel) rfl
theorem kwc_m0_firstNext : kcode m0_firstNext ∈ kT := kin5 5 (by decide +kernel) rfl
theorem kwi_m0_firstNext : Cond.initialized m0_firstNext.1.cls ∈ kT := kin1 9 (by decide +kernel) rfl
theorem kwm_m0_firstNext : Cond.instanceMethod m0_firstNext.1 ∈ kT := kin5 4 (by decide +kernel) rfl
theorem kwl_m0_firstNext : Cond.selects m0_firstNext.1.cls m0_firstNext.1 m0_firstNext.1 ∈ kT := kinS 41 (by decide +kernel) rfl
theorem kwc_m1_find : kcode m1_find ∈ kT := kin4 127 (by decide +kernel) rfl
theorem kwi_m1_find : Cond.initialized m1_find.1.cls ∈ kT := kin1 8 (by decide +kernel) rfl
theorem kwm_m1_find : Cond.instanceMethod m1_find.1 ∈ kT := kin4 125 (by decide +kernel) rfl
theorem kwl_m1_find : Cond.selects m1_find.1.cls m1_find.1 m1_find.1 ∈ kT := kin4 126 (by decide +kernel) rfl
theorem kwc_m1_fitsHeard : kcode m1_fitsHeard ∈ kT := kin4 132 (by decide +kernel) rfl
theorem kwi_m1_fitsHeard : Cond.initialized m1_fitsHeard.1.cls ∈ kT := kin1 8 (by decide +kernel) rfl
theorem kwm_m1_fitsHeard : Cond.instanceMethod m1_fitsHeard.1 ∈ kT := kin4 131 (by decide +kernel) rfl
theorem kwl_m1_fitsHeard : Cond.selects m1_fitsHeard.1.cls m1_fitsHeard.1 m1_fitsHeard.1 ∈ kT := kinS 36 (by decide +kernel) rfl
theorem kwc_m1_isFit : kcode m1_isFit ∈ kT := kin4 138 (by decide +kernel) rfl
theorem kwi_m1_isFit : Cond.initialized m1_isFit.1.cls ∈ kT := kin1 8 (by decide +kernel) rfl
theorem kwm_m1_isFit : Cond.instanceMethod m1_isFit.1 ∈ kT := kin4 137 (by decide +kernel) rfl
theorem kwl_m1_isFit : Cond.selects m1_isFit.1.cls m1_isFit.1 m1_isFit.1 ∈ kT := kinS 37 (by decide +kernel) rfl
theorem kwc_m1_inSome : kcode m1_inSome ∈ kT := kin4 150 (by decide +kernel) rfl
theorem kwi_m1_inSome : Cond.initialized m1_inSome.1.cls ∈ kT := kin1 8 (by decide +kernel) rfl
theorem kwm_m1_inSome : Cond.instanceMethod m1_inSome.1 ∈ kT := kin4 148 (by decide +kernel) rfl
theorem kwl_m1_inSome : Cond.selects m1_inSome.1.cls m1_inSome.1 m1_inSome.1 ∈ kT := kin4 149 (by decide +kernel) rfl
theorem kwc_m1_inAll : kcode m1_inAll ∈ kT := kin4 158 (by decide +kernel) rfl
theorem kwi_m1_inAll : Cond.initialized m1_inAll.1.cls ∈ kT := kin1 8 (by decide +kernel) rfl
theorem kwm_m1_inAll : Cond.instanceMethod m1_inAll.1 ∈ kT := kin4 156 (by decide +kernel) rfl
theorem kwl_m1_inAll : Cond.selects m1_inAll.1.cls m1_inAll.1 m1_inAll.1 ∈ kT := kin4 157 (by decide +kernel) rfl
theorem kwc_m1_leftAtMost : kcode m1_leftAtMost ∈ kT := kin4 170 (by decide +kernel) rfl
theorem kwi_m1_leftAtMost : Cond.initialized m1_leftAtMost.1.cls ∈ kT := kin1 8 (by decide +kernel) rfl
theorem kwm_m1_leftAtMost : Cond.instanceMethod m1_leftAtMost.1 ∈ kT := kin4 168 (by decide +kernel) rfl
theorem kwl_m1_leftAtMost : Cond.selects m1_leftAtMost.1.cls m1_leftAtMost.1 m1_leftAtMost.1 ∈ kT := kin4 169 (by decide +kernel) rfl
theorem kwc_m1_bestQuestion : kcode m1_bestQuestion ∈ kT := kin4 166 (by decide +kernel) rfl
theorem kwi_m1_bestQuestion : Cond.initialized m1_bestQuestion.1.cls ∈ kT := kin1 8 (by decide +kernel) rfl
theorem kwm_m1_bestQuestion : Cond.instanceMethod m1_bestQuestion.1 ∈ kT := kin4 164 (by decide +kernel) rfl
theorem kwl_m1_bestQuestion : Cond.selects m1_bestQuestion.1.cls m1_bestQuestion.1 m1_bestQuestion.1 ∈ kT := kin4 165 (by decide +kernel) rfl
theorem kwc_m2_reckon : kcode m2_reckon ∈ kT := kin5 39 (by decide +kernel) rfl
theorem kwi_m2_reckon : Cond.initialized m2_reckon.1.cls ∈ kT := kin1 10 (by decide +kernel) rfl
theorem kwm_m2_reckon : Cond.instanceMethod m2_reckon.1 ∈ kT := kin5 37 (by decide +kernel) rfl
theorem kwl_m2_reckon : Cond.selects m2_reckon.1.cls m2_reckon.1 m2_reckon.1 ∈ kT := kin5 38 (by decide +kernel) rfl
theorem kwc_m2_lookBy : kcode m2_lookBy ∈ kT := kin5 43 (by decide +kernel) rfl
theorem kwi_m2_lookBy : Cond.initialized m2_lookBy.1.cls ∈ kT := kin1 10 (by decide +kernel) rfl
theorem kwm_m2_lookBy : Cond.instanceMethod m2_lookBy.1 ∈ kT := kin5 42 (by decide +kernel) rfl
theorem kwl_m2_lookBy : Cond.selects m2_lookBy.1.cls m2_lookBy.1 m2_lookBy.1 ∈ kT := kinS 42 (by decide +kernel) rfl
theorem kwc_m2_look : kcode m2_look ∈ kT := kin5 62 (by decide +kernel) rfl
theorem kwi_m2_look : Cond.initialized m2_look.1.cls ∈ kT := kin1 10 (by decide +kernel) rfl
theorem kwm_m2_look : Cond.instanceMethod m2_look.1 ∈ kT := kin5 60 (by decide +kernel) rfl
theorem kwl_m2_look : Cond.selects m2_look.1.cls m2_look.1 m2_look.1 ∈ kT := kin5 61 (by decide +kernel) rfl
theorem kwc_m3_forget : kcode m3_forget ∈ kT := kin3 143 (by decide +kernel) rfl
theorem kwi_m3_forget : Cond.initialized m3_forget.1.cls ∈ kT := kin1 5 (by decide +kernel) rfl
theorem kwm_m3_forget : Cond.instanceMethod m3_forget.1 ∈ kT := kin3 141 (by decide +kernel) rfl
theorem kwl_m3_forget : Cond.selects m3_forget.1.cls m3_forget.1 m3_forget.1 ∈ kT := kin3 142 (by decide +kernel) rfl
theorem kwc_m3_keep : kcode m3_keep ∈ kT := kin5 100 (by decide +kernel) rfl
theorem kwi_m3_keep : Cond.initialized m3_keep.1.cls ∈ kT := kin1 5 (by decide +kernel) rfl
theorem kwm_m3_keep : Cond.instanceMethod m3_keep.1 ∈ kT := kin5 98 (by decide +kernel) rfl
theorem kwl_m3_keep : Cond.selects m3_keep.1.cls m3_keep.1 m3_keep.1 ∈ kT := kin5 99 (by decide +kernel) rfl
theorem kwc_m3_takeBack : kcode m3_takeBack ∈ kT := kin5 130 (by decide +kernel) rfl
theorem kwi_m3_takeBack : Cond.initialized m3_takeBack.1.cls ∈ kT := kin1 5 (by decide +kernel) rfl
theorem kwm_m3_takeBack : Cond.instanceMethod m3_takeBack.1 ∈ kT := kin5 128 (by decide +kernel) rfl
theorem kwl_m3_takeBack : Cond.selects m3_takeBack.1.cls m3_takeBack.1 m3_takeBack.1 ∈ kT := kin5 129 (by decide +kernel) rfl
theorem kwc_m4_begin : kcode m4_begin ∈ kT := kin3 136 (by decide +kernel) rfl
theorem kwi_m4_begin : Cond.initialized m4_begin.1.cls ∈ kT := kin1 4 (by decide +kernel) rfl
theorem kwm_m4_begin : Cond.instanceMethod m4_begin.1 ∈ kT := kin3 134 (by decide +kernel) rfl
theorem kwl_m4_begin : Cond.selects m4_begin.1.cls m4_begin.1 m4_begin.1 ∈ kT := kin3 135 (by decide +kernel) rfl
theorem kwc_m4_save : kcode m4_save ∈ kT := kin5 104 (by decide +kernel) rfl
theorem kwi_m4_save : Cond.initialized m4_save.1.cls ∈ kT := kin1 4 (by decide +kernel) rfl
theorem kwm_m4_save : Cond.instanceMethod m4_save.1 ∈ kT := kin5 102 (by decide +kernel) rfl
theorem kwl_m4_save : Cond.selects m4_save.1.cls m4_save.1 m4_save.1 ∈ kT := kin5 103 (by decide +kernel) rfl
theorem kwc_m4_load : kcode m4_load ∈ kT := kin5 134 (by decide +kernel) rfl
theorem kwi_m4_load : Cond.initialized m4_load.1.cls ∈ kT := kin1 4 (by decide +kernel) rfl
theorem kwm_m4_load : Cond.instanceMethod m4_load.1 ∈ kT := kin5 132 (by decide +kernel) rfl
theorem kwl_m4_load : Cond.selects m4_load.1.cls m4_load.1 m4_load.1 ∈ kT := kin5 133 (by decide +kernel) rfl
theorem kwc_m5_clear : kcode m5_clear ∈ kT := kin2 212 (by decide +kernel) rfl
theorem kwi_m5_clear : Cond.initialized m5_clear.1.cls ∈ kT := kin1 2 (by decide +kernel) rfl
theorem kwm_m5_clear : Cond.instanceMethod m5_clear.1 ∈ kT := kin2 210 (by decide +kernel) rfl
theorem kwl_m5_clear : Cond.selects m5_clear.1.cls m5_clear.1 m5_clear.1 ∈ kT := kin2 211 (by decide +kernel) rfl
theorem kwc_m5_count : kcode m5_count ∈ kT := kin5 152 (by decide +kernel) rfl
theorem kwi_m5_count : Cond.initialized m5_count.1.cls ∈ kT := kin1 2 (by decide +kernel) rfl
theorem kwm_m5_count : Cond.instanceMethod m5_count.1 ∈ kT := kin5 150 (by decide +kernel) rfl
theorem kwl_m5_count : Cond.selects m5_count.1.cls m5_count.1 m5_count.1 ∈ kT := kin5 151 (by decide +kernel) rfl
theorem kwc_m5_isUnsure : kcode m5_isUnsure ∈ kT := kin3 123 (by decide +kernel) rfl
theorem kwi_m5_isUnsure : Cond.initialized m5_isUnsure.1.cls ∈ kT := kin1 2 (by decide +kernel) rfl
theorem kwm_m5_isUnsure : Cond.instanceMethod m5_isUnsure.1 ∈ kT := kin3 121 (by decide +kernel) rfl
theorem kwl_m5_isUnsure : Cond.selects m5_isUnsure.1.cls m5_isUnsure.1 m5_isUnsure.1 ∈ kT := kin3 122 (by decide +kernel) rfl
theorem kwc_m5_isHeard : kcode m5_isHeard ∈ kT := kin3 132 (by decide +kernel) rfl
theorem kwi_m5_isHeard : Cond.initialized m5_isHeard.1.cls ∈ kT := kin1 2 (by decide +kernel) rfl
theorem kwm_m5_isHeard : Cond.instanceMethod m5_isHeard.1 ∈ kT := kin3 130 (by decide +kernel) rfl
theorem kwl_m5_isHeard : Cond.selects m5_isHeard.1.cls m5_isHeard.1 m5_isHeard.1 ∈ kT := kin3 131 (by decide +kernel) rfl
theorem kwc_m6_reduce : kcode m6_reduce ∈ kT := kin5 49 (by decide +kernel) rfl
theorem kwi_m6_reduce : Cond.initialized m6_reduce.1.cls ∈ kT := kin1 11 (by decide +kernel) rfl
theorem kwm_m6_reduce : Cond.instanceMethod m6_reduce.1 ∈ kT := kin5 47 (by decide +kernel) rfl
theorem kwl_m6_reduce : Cond.selects m6_reduce.1.cls m6_reduce.1 m6_reduce.1 ∈ kT := kin5 48 (by decide +kernel) rfl
theorem kwc_m6_part : kcode m6_part ∈ kT := kin5 53 (by decide +kernel) rfl
theorem kwi_m6_part : Cond.initialized m6_part.1.cls ∈ kT := kin1 11 (by decide +kernel) rfl
theorem kwm_m6_part : Cond.instanceMethod m6_part.1 ∈ kT := kin5 51 (by decide +kernel) rfl
theorem kwl_m6_part : Cond.selects m6_part.1.cls m6_part.1 m6_part.1 ∈ kT := kin5 52 (by decide +kernel) rfl
theorem kwc_m7_read : kcode m7_read ∈ kT := kin2 208 (by decide +kernel) rfl
theorem kwi_m7_read : Cond.initialized m7_read.1.cls ∈ kT := kin1 3 (by decide +kernel) rfl
theorem kwm_m7_read : Cond.instanceMethod m7_read.1 ∈ kT := kin2 206 (by decide +kernel) rfl
theorem kwl_m7_read : Cond.selects m7_read.1.cls m7_read.1 m7_read.1 ∈ kT := kin2 207 (by decide +kernel) rfl
theorem kwc_m7_found : kcode m7_found ∈ kT := kin3 66 (by decide +kernel) rfl
theorem kwi_m7_found : Cond.initialized m7_found.1.cls ∈ kT := kin1 3 (by decide +kernel) rfl
theorem kwm_m7_found : Cond.instanceMethod m7_found.1 ∈ kT := kin3 65 (by decide +kernel) rfl
theorem kwl_m7_found : Cond.selects m7_found.1.cls m7_found.1 m7_found.1 ∈ kT := kinS 8 (by decide +kernel) rfl
theorem kwc_m7_next : kcode m7_next ∈ kT := kin2 222 (by decide +kernel) rfl
theorem kwi_m7_next : Cond.initialized m7_next.1.cls ∈ kT := kin1 3 (by decide +kernel) rfl
theorem kwm_m7_next : Cond.instanceMethod m7_next.1 ∈ kT := kin2 221 (by decide +kernel) rfl
theorem kwl_m7_next : Cond.selects m7_next.1.cls m7_next.1 m7_next.1 ∈ kT := kinS 2 (by decide +kernel) rfl
theorem kwc_m7_isLetter : kcode m7_isLetter ∈ kT := kin2 225 (by decide +kernel) rfl
theorem kwi_m7_isLetter : Cond.initialized m7_isLetter.1.cls ∈ kT := kin1 3 (by decide +kernel) rfl
theorem kws_m7_isLetter : Cond.static m7_isLetter.1 ∈ kT := kin2 224 (by decide +kernel) rfl
theorem kwc_m7_isDigit : kcode m7_isDigit ∈ kT := kin2 232 (by decide +kernel) rfl
theorem kwi_m7_isDigit : Cond.initialized m7_isDigit.1.cls ∈ kT := kin1 3 (by decide +kernel) rfl
theorem kws_m7_isDigit : Cond.static m7_isDigit.1 ∈ kT := kin2 231 (by decide +kernel) rfl
theorem kwc_m7_takeLetters : kcode m7_takeLetters ∈ kT := kin2 229 (by decide +kernel) rfl
theorem kwi_m7_takeLetters : Cond.initialized m7_takeLetters.1.cls ∈ kT := kin1 3 (by decide +kernel) rfl
theorem kwm_m7_takeLetters : Cond.instanceMethod m7_takeLetters.1 ∈ kT := kin2 228 (by decide +kernel) rfl
theorem kwl_m7_takeLetters : Cond.selects m7_takeLetters.1.cls m7_takeLetters.1 m7_takeLetters.1 ∈ kT := kinS 3 (by decide +kernel) rfl
theorem kwc_m7_takeDigits : kcode m7_takeDigits ∈ kT := kin2 236 (by decide +kernel) rfl
theorem kwi_m7_takeDigits : Cond.initialized m7_takeDigits.1.cls ∈ kT := kin1 3 (by decide +kernel) rfl
theorem kwm_m7_takeDigits : Cond.instanceMethod m7_takeDigits.1 ∈ kT := kin2 235 (by decide +kernel) rfl
theorem kwl_m7_takeDigits : Cond.selects m7_takeDigits.1.cls m7_takeDigits.1 m7_takeDigits.1 ∈ kT := kinS 4 (by decide +kernel) rfl
theorem kwc_m7_isWord : kcode m7_isWord ∈ kT := kin3 5 (by decide +kernel) rfl
theorem kwi_m7_isWord : Cond.initialized m7_isWord.1.cls ∈ kT := kin1 3 (by decide +kernel) rfl
theorem kwm_m7_isWord : Cond.instanceMethod m7_isWord.1 ∈ kT := kin3 4 (by decide +kernel) rfl
theorem kwl_m7_isWord : Cond.selects m7_isWord.1.cls m7_isWord.1 m7_isWord.1 ∈ kT := kinS 6 (by decide +kernel) rfl
theorem kwc_m7_isHeadOfLine : kcode m7_isHeadOfLine ∈ kT := kin3 57 (by decide +kernel) rfl
theorem kwi_m7_isHeadOfLine : Cond.initialized m7_isHeadOfLine.1.cls ∈ kT := kin1 3 (by decide +kernel) rfl
theorem kwm_m7_isHeadOfLine : Cond.instanceMethod m7_isHeadOfLine.1 ∈ kT := kin3 56 (by decide +kernel) rfl
theorem kwl_m7_isHeadOfLine : Cond.selects m7_isHeadOfLine.1.cls m7_isHeadOfLine.1 m7_isHeadOfLine.1 ∈ kT := kinS 7 (by decide +kernel) rfl
theorem kwc_m7_lawOfWord : kcode m7_lawOfWord ∈ kT := kin3 96 (by decide +kernel) rfl
theorem kwi_m7_lawOfWord : Cond.initialized m7_lawOfWord.1.cls ∈ kT := kin1 3 (by decide +kernel) rfl
theorem kwm_m7_lawOfWord : Cond.instanceMethod m7_lawOfWord.1 ∈ kT := kin3 95 (by decide +kernel) rfl
theorem kwl_m7_lawOfWord : Cond.selects m7_lawOfWord.1.cls m7_lawOfWord.1 m7_lawOfWord.1 ∈ kT := kinS 15 (by decide +kernel) rfl
theorem kwc_m7_pairOfName : kcode m7_pairOfName ∈ kT := kin3 88 (by decide +kernel) rfl
theorem kwi_m7_pairOfName : Cond.initialized m7_pairOfName.1.cls ∈ kT := kin1 3 (by decide +kernel) rfl
theorem kwm_m7_pairOfName : Cond.instanceMethod m7_pairOfName.1 ∈ kT := kin3 87 (by decide +kernel) rfl
theorem kwl_m7_pairOfName : Cond.selects m7_pairOfName.1.cls m7_pairOfName.1 m7_pairOfName.1 ∈ kT := kinS 13 (by decide +kernel) rfl
theorem kwc_m7_isSame : kcode m7_isSame ∈ kT := kin3 92 (by decide +kernel) rfl
theorem kwi_m7_isSame : Cond.initialized m7_isSame.1.cls ∈ kT := kin1 3 (by decide +kernel) rfl
theorem kwm_m7_isSame : Cond.instanceMethod m7_isSame.1 ∈ kT := kin3 91 (by decide +kernel) rfl
theorem kwl_m7_isSame : Cond.selects m7_isSame.1.cls m7_isSame.1 m7_isSame.1 ∈ kT := kinS 14 (by decide +kernel) rfl
theorem kwc_m7_takeWord : kcode m7_takeWord ∈ kT := kin3 71 (by decide +kernel) rfl
theorem kwi_m7_takeWord : Cond.initialized m7_takeWord.1.cls ∈ kT := kin1 3 (by decide +kernel) rfl
theorem kwm_m7_takeWord : Cond.instanceMethod m7_takeWord.1 ∈ kT := kin3 70 (by decide +kernel) rfl
theorem kwl_m7_takeWord : Cond.selects m7_takeWord.1.cls m7_takeWord.1 m7_takeWord.1 ∈ kT := kinS 9 (by decide +kernel) rfl
theorem kwc_m7_seesWhole : kcode m7_seesWhole ∈ kT := kin3 75 (by decide +kernel) rfl
theorem kwi_m7_seesWhole : Cond.initialized m7_seesWhole.1.cls ∈ kT := kin1 3 (by decide +kernel) rfl
theorem kwm_m7_seesWhole : Cond.instanceMethod m7_seesWhole.1 ∈ kT := kin3 74 (by decide +kernel) rfl
theorem kwl_m7_seesWhole : Cond.selects m7_seesWhole.1.cls m7_seesWhole.1 m7_seesWhole.1 ∈ kT := kinS 10 (by decide +kernel) rfl
theorem kwc_m7_seenPair : kcode m7_seenPair ∈ kT := kin3 110 (by decide +kernel) rfl
theorem kwi_m7_seenPair : Cond.initialized m7_seenPair.1.cls ∈ kT := kin1 3 (by decide +kernel) rfl
theorem kwm_m7_seenPair : Cond.instanceMethod m7_seenPair.1 ∈ kT := kin3 109 (by decide +kernel) rfl
theorem kwl_m7_seenPair : Cond.selects m7_seenPair.1.cls m7_seenPair.1 m7_seenPair.1 ∈ kT := kinS 17 (by decide +kernel) rfl
theorem kwc_m7_readHead : kcode m7_readHead ∈ kT := kin3 0 (by decide +kernel) rfl
theorem kwi_m7_readHead : Cond.initialized m7_readHead.1.cls ∈ kT := kin1 3 (by decide +kernel) rfl
theorem kwm_m7_readHead : Cond.instanceMethod m7_readHead.1 ∈ kT := kin2 239 (by decide +kernel) rfl
theorem kwl_m7_readHead : Cond.selects m7_readHead.1.cls m7_readHead.1 m7_readHead.1 ∈ kT := kinS 5 (by decide +kernel) rfl
theorem kwc_m7_readLine : kcode m7_readLine ∈ kT := kin3 80 (by decide +kernel) rfl
theorem kwi_m7_readLine : Cond.initialized m7_readLine.1.cls ∈ kT := kin1 3 (by decide +kernel) rfl
theorem kwm_m7_readLine : Cond.instanceMethod m7_readLine.1 ∈ kT := kin3 79 (by decide +kernel) rfl
theorem kwl_m7_readLine : Cond.selects m7_readLine.1.cls m7_readLine.1 m7_readLine.1 ∈ kT := kinS 11 (by decide +kernel) rfl
theorem kwc_m7_readPair : kcode m7_readPair ∈ kT := kin3 84 (by decide +kernel) rfl
theorem kwi_m7_readPair : Cond.initialized m7_readPair.1.cls ∈ kT := kin1 3 (by decide +kernel) rfl
theorem kwm_m7_readPair : Cond.instanceMethod m7_readPair.1 ∈ kT := kin3 83 (by decide +kernel) rfl
theorem kwl_m7_readPair : Cond.selects m7_readPair.1.cls m7_readPair.1 m7_readPair.1 ∈ kT := kinS 12 (by decide +kernel) rfl
theorem kwc_m7_readContract : kcode m7_readContract ∈ kT := kin3 106 (by decide +kernel) rfl
theorem kwi_m7_readContract : Cond.initialized m7_readContract.1.cls ∈ kT := kin1 3 (by decide +kernel) rfl
theorem kwm_m7_readContract : Cond.instanceMethod m7_readContract.1 ∈ kT := kin3 105 (by decide +kernel) rfl
theorem kwl_m7_readContract : Cond.selects m7_readContract.1.cls m7_readContract.1 m7_readContract.1 ∈ kT := kinS 16 (by decide +kernel) rfl
theorem kwc_m7_readDebt : kcode m7_readDebt ∈ kT := kin3 115 (by decide +kernel) rfl
theorem kwi_m7_readDebt : Cond.initialized m7_readDebt.1.cls ∈ kT := kin1 3 (by decide +kernel) rfl
theorem kwm_m7_readDebt : Cond.instanceMethod m7_readDebt.1 ∈ kT := kin3 114 (by decide +kernel) rfl
theorem kwl_m7_readDebt : Cond.selects m7_readDebt.1.cls m7_readDebt.1 m7_readDebt.1 ∈ kT := kinS 18 (by decide +kernel) rfl
theorem kwc_m7_readUnsure : kcode m7_readUnsure ∈ kT := kin3 119 (by decide +kernel) rfl
theorem kwi_m7_readUnsure : Cond.initialized m7_readUnsure.1.cls ∈ kT := kin1 3 (by decide +kernel) rfl
theorem kwm_m7_readUnsure : Cond.instanceMethod m7_readUnsure.1 ∈ kT := kin3 118 (by decide +kernel) rfl
theorem kwl_m7_readUnsure : Cond.selects m7_readUnsure.1.cls m7_readUnsure.1 m7_readUnsure.1 ∈ kT := kinS 19 (by decide +kernel) rfl
theorem kwc_m7_readHeard : kcode m7_readHeard ∈ kT := kin3 127 (by decide +kernel) rfl
theorem kwi_m7_readHeard : Cond.initialized m7_readHeard.1.cls ∈ kT := kin1 3 (by decide +kernel) rfl
theorem kwm_m7_readHeard : Cond.instanceMethod m7_readHeard.1 ∈ kT := kin3 126 (by decide +kernel) rfl
theorem kwl_m7_readHeard : Cond.selects m7_readHeard.1.cls m7_readHeard.1 m7_readHeard.1 ∈ kT := kinS 20 (by decide +kernel) rfl
theorem kwc_m8_follow : kcode m8_follow ∈ kT := kin4 1 (by decide +kernel) rfl
theorem kwi_m8_follow : Cond.initialized m8_follow.1.cls ∈ kT := kin1 7 (by decide +kernel) rfl
theorem kwm_m8_follow : Cond.instanceMethod m8_follow.1 ∈ kT := kin3 239 (by decide +kernel) rfl
theorem kwl_m8_follow : Cond.selects m8_follow.1.cls m8_follow.1 m8_follow.1 ∈ kT := kin4 0 (by decide +kernel) rfl
theorem kwc_m8_stateOf : kcode m8_stateOf ∈ kT := kin4 5 (by decide +kernel) rfl
theorem kwi_m8_stateOf : Cond.initialized m8_stateOf.1.cls ∈ kT := kin1 7 (by decide +kernel) rfl
theorem kws_m8_stateOf : Cond.static m8_stateOf.1 ∈ kT := kin4 4 (by decide +kernel) rfl
theorem kwc_m8_shortenRound : kcode m8_shortenRound ∈ kT := kin4 12 (by decide +kernel) rfl
theorem kwi_m8_shortenRound : Cond.initialized m8_shortenRound.1.cls ∈ kT := kin1 7 (by decide +kernel) rfl
theorem kwm_m8_shortenRound : Cond.instanceMethod m8_shortenRound.1 ∈ kT := kin4 11 (by decide +kernel) rfl
theorem kwl_m8_shortenRound : Cond.selects m8_shortenRound.1.cls m8_shortenRound.1 m8_shortenRound.1 ∈ kT := kinS 28 (by decide +kernel) rfl
theorem kwc_m8_comesAgainBehind : kcode m8_comesAgainBehind ∈ kT := kin4 16 (by decide +kernel) rfl
theorem kwi_m8_comesAgainBehind : Cond.initialized m8_comesAgainBehind.1.cls ∈ kT := kin1 7 (by decide +kernel) rfl
theorem kwm_m8_comesAgainBehind : Cond.instanceMethod m8_comesAgainBehind.1 ∈ kT := kin4 15 (by decide +kernel) rfl
theorem kwl_m8_comesAgainBehind : Cond.selects m8_comesAgainBehind.1.cls m8_comesAgainBehind.1 m8_comesAgainBehind.1 ∈ kT := kinS 29 (by decide +kernel) rfl
theorem kwc_m8_saying : kcode m8_saying ∈ kT := kin4 29 (by decide +kernel) rfl
theorem kwi_m8_saying : Cond.initialized m8_saying.1.cls ∈ kT := kin1 7 (by decide +kernel) rfl
theorem kwm_m8_saying : Cond.instanceMethod m8_saying.1 ∈ kT := kin4 27 (by decide +kernel) rfl
theorem kwl_m8_saying : Cond.selects m8_saying.1.cls m8_saying.1 m8_saying.1 ∈ kT := kin4 28 (by decide +kernel) rfl
theorem kwc_m8_most : kcode m8_most ∈ kT := kin4 37 (by decide +kernel) rfl
theorem kwi_m8_most : Cond.initialized m8_most.1.cls ∈ kT := kin1 7 (by decide +kernel) rfl
theorem kwm_m8_most : Cond.instanceMethod m8_most.1 ∈ kT := kin4 35 (by decide +kernel) rfl
theorem kwl_m8_most : Cond.selects m8_most.1.cls m8_most.1 m8_most.1 ∈ kT := kin4 36 (by decide +kernel) rfl
theorem kwc_m8_least : kcode m8_least ∈ kT := kin4 45 (by decide +kernel) rfl
theorem kwi_m8_least : Cond.initialized m8_least.1.cls ∈ kT := kin1 7 (by decide +kernel) rfl
theorem kwm_m8_least : Cond.instanceMethod m8_least.1 ∈ kT := kin4 43 (by decide +kernel) rfl
theorem kwl_m8_least : Cond.selects m8_least.1.cls m8_least.1 m8_least.1 ∈ kT := kin4 44 (by decide +kernel) rfl
theorem kwc_m9_begin : kcode m9_begin ∈ kT := kin3 183 (by decide +kernel) rfl
theorem kwi_m9_begin : Cond.initialized m9_begin.1.cls ∈ kT := kin1 6 (by decide +kernel) rfl
theorem kwm_m9_begin : Cond.instanceMethod m9_begin.1 ∈ kT := kin3 181 (by decide +kernel) rfl
theorem kwl_m9_begin : Cond.selects m9_begin.1.cls m9_begin.1 m9_begin.1 ∈ kT := kin3 182 (by decide +kernel) rfl
theorem kwc_m9_beginAsTold : kcode m9_beginAsTold ∈ kT := kin3 187 (by decide +kernel) rfl
theorem kwi_m9_beginAsTold : Cond.initialized m9_beginAsTold.1.cls ∈ kT := kin1 6 (by decide +kernel) rfl
theorem kwm_m9_beginAsTold : Cond.instanceMethod m9_beginAsTold.1 ∈ kT := kin3 185 (by decide +kernel) rfl
theorem kwl_m9_beginAsTold : Cond.selects m9_beginAsTold.1.cls m9_beginAsTold.1 m9_beginAsTold.1 ∈ kT := kin3 186 (by decide +kernel) rfl
theorem kwc_m9_go : kcode m9_go ∈ kT := kin3 195 (by decide +kernel) rfl
theorem kwi_m9_go : Cond.initialized m9_go.1.cls ∈ kT := kin1 6 (by decide +kernel) rfl
theorem kwm_m9_go : Cond.instanceMethod m9_go.1 ∈ kT := kin3 193 (by decide +kernel) rfl
theorem kwl_m9_go : Cond.selects m9_go.1.cls m9_go.1 m9_go.1 ∈ kT := kin3 194 (by decide +kernel) rfl
theorem kwc_m9_byLaw : kcode m9_byLaw ∈ kT := kin3 199 (by decide +kernel) rfl
theorem kwi_m9_byLaw : Cond.initialized m9_byLaw.1.cls ∈ kT := kin1 6 (by decide +kernel) rfl
theorem kwm_m9_byLaw : Cond.instanceMethod m9_byLaw.1 ∈ kT := kin3 198 (by decide +kernel) rfl
theorem kwl_m9_byLaw : Cond.selects m9_byLaw.1.cls m9_byLaw.1 m9_byLaw.1 ∈ kT := kinS 26 (by decide +kernel) rfl
theorem kwc_m9_goDumb : kcode m9_goDumb ∈ kT := kin3 207 (by decide +kernel) rfl
theorem kwi_m9_goDumb : Cond.initialized m9_goDumb.1.cls ∈ kT := kin1 6 (by decide +kernel) rfl
theorem kwm_m9_goDumb : Cond.instanceMethod m9_goDumb.1 ∈ kT := kin3 205 (by decide +kernel) rfl
theorem kwl_m9_goDumb : Cond.selects m9_goDumb.1.cls m9_goDumb.1 m9_goDumb.1 ∈ kT := kin3 206 (by decide +kernel) rfl
theorem kwc_m9_goOn : kcode m9_goOn ∈ kT := kin3 191 (by decide +kernel) rfl
theorem kwi_m9_goOn : Cond.initialized m9_goOn.1.cls ∈ kT := kin1 6 (by decide +kernel) rfl
theorem kwm_m9_goOn : Cond.instanceMethod m9_goOn.1 ∈ kT := kin3 189 (by decide +kernel) rfl
theorem kwl_m9_goOn : Cond.selects m9_goOn.1.cls m9_goOn.1 m9_goOn.1 ∈ kT := kin3 190 (by decide +kernel) rfl
theorem kwc_m9_isMore : kcode m9_isMore ∈ kT := kin3 220 (by decide +kernel) rfl
theorem kwi_m9_isMore : Cond.initialized m9_isMore.1.cls ∈ kT := kin1 6 (by decide +kernel) rfl
theorem kwm_m9_isMore : Cond.instanceMethod m9_isMore.1 ∈ kT := kin3 218 (by decide +kernel) rfl
theorem kwl_m9_isMore : Cond.selects m9_isMore.1.cls m9_isMore.1 m9_isMore.1 ∈ kT := kin3 219 (by decide +kernel) rfl
theorem kwc_m9_countMore : kcode m9_countMore ∈ kT := kin3 228 (by decide +kernel) rfl
theorem kwi_m9_countMore : Cond.initialized m9_countMore.1.cls ∈ kT := kin1 6 (by decide +kernel) rfl
theorem kwm_m9_countMore : Cond.instanceMethod m9_countMore.1 ∈ kT := kin3 226 (by decide +kernel) rfl
theorem kwl_m9_countMore : Cond.selects m9_countMore.1.cls m9_countMore.1 m9_countMore.1 ∈ kT := kin3 227 (by decide +kernel) rfl
theorem kwc_m10_may : kcode m10_may ∈ kT := kin3 167 (by decide +kernel) rfl
theorem kwi_m10_may : Cond.initialized m10_may.1.cls ∈ kT := kin1 1 (by decide +kernel) rfl
theorem kwm_m10_may : Cond.instanceMethod m10_may.1 ∈ kT := kin3 166 (by decide +kernel) rfl
theorem kwl_m10_may : Cond.selects m10_may.1.cls m10_may.1 m10_may.1 ∈ kT := kinS 23 (by decide +kernel) rfl
theorem kwc_m10_may_ : kcode m10_may_ ∈ kT := kin3 163 (by decide +kernel) rfl
theorem kwi_m10_may_ : Cond.initialized m10_may_.1.cls ∈ kT := kin1 1 (by decide +kernel) rfl
theorem kwm_m10_may_ : Cond.instanceMethod m10_may_.1 ∈ kT := kin3 162 (by decide +kernel) rfl
theorem kwl_m10_may_ : Cond.selects m10_may_.1.cls m10_may_.1 m10_may_.1 ∈ kT := kinS 22 (by decide +kernel) rfl
theorem kwc_m10_refuse : kcode m10_refuse ∈ kT := kin2 204 (by decide +kernel) rfl
theorem kwi_m10_refuse : Cond.initialized m10_refuse.1.cls ∈ kT := kin1 1 (by decide +kernel) rfl
theorem kwm_m10_refuse : Cond.instanceMethod m10_refuse.1 ∈ kT := kin2 203 (by decide +kernel) rfl
theorem kwl_m10_refuse : Cond.selects m10_refuse.1.cls m10_refuse.1 m10_refuse.1 ∈ kT := kinS 1 (by decide +kernel) rfl
theorem kwc_m10_deny : kcode m10_deny ∈ kT := kin5 118 (by decide +kernel) rfl
theorem kwi_m10_deny : Cond.initialized m10_deny.1.cls ∈ kT := kin1 1 (by decide +kernel) rfl
theorem kwm_m10_deny : Cond.instanceMethod m10_deny.1 ∈ kT := kin5 117 (by decide +kernel) rfl
theorem kwl_m10_deny : Cond.selects m10_deny.1.cls m10_deny.1 m10_deny.1 ∈ kT := kinS 44 (by decide +kernel) rfl
theorem kwc_m10_isPair : kcode m10_isPair ∈ kT := kin3 159 (by decide +kernel) rfl
theorem kwi_m10_isPair : Cond.initialized m10_isPair.1.cls ∈ kT := kin1 1 (by decide +kernel) rfl
theorem kwm_m10_isPair : Cond.instanceMethod m10_isPair.1 ∈ kT := kin3 158 (by decide +kernel) rfl
theorem kwl_m10_isPair : Cond.selects m10_isPair.1.cls m10_isPair.1 m10_isPair.1 ∈ kT := kinS 21 (by decide +kernel) rfl
theorem kwc_m10_areUnlike : kcode m10_areUnlike ∈ kT := kin4 57 (by decide +kernel) rfl
theorem kwi_m10_areUnlike : Cond.initialized m10_areUnlike.1.cls ∈ kT := kin1 1 (by decide +kernel) rfl
theorem kwm_m10_areUnlike : Cond.instanceMethod m10_areUnlike.1 ∈ kT := kin4 56 (by decide +kernel) rfl
theorem kwl_m10_areUnlike : Cond.selects m10_areUnlike.1.cls m10_areUnlike.1 m10_areUnlike.1 ∈ kT := kinS 30 (by decide +kernel) rfl
theorem kwc_m10_upTo : kcode m10_upTo ∈ kT := kin2 200 (by decide +kernel) rfl
theorem kwi_m10_upTo : Cond.initialized m10_upTo.1.cls ∈ kT := kin1 1 (by decide +kernel) rfl
theorem kws_m10_upTo : Cond.static m10_upTo.1 ∈ kT := kin2 199 (by decide +kernel) rfl
theorem kwc_m10_feed : kcode m10_feed ∈ kT := kin2 189 (by decide +kernel) rfl
theorem kwi_m10_feed : Cond.initialized m10_feed.1.cls ∈ kT := kin1 1 (by decide +kernel) rfl
theorem kwm_m10_feed : Cond.instanceMethod m10_feed.1 ∈ kT := kin2 187 (by decide +kernel) rfl
theorem kwl_m10_feed : Cond.selects m10_feed.1.cls m10_feed.1 m10_feed.1 ∈ kT := kin2 188 (by decide +kernel) rfl
theorem kwc_m10_putBytes : kcode m10_putBytes ∈ kT := kin2 193 (by decide +kernel) rfl
theorem kwi_m10_putBytes : Cond.initialized m10_putBytes.1.cls ∈ kT := kin1 1 (by decide +kernel) rfl
theorem kwm_m10_putBytes : Cond.instanceMethod m10_putBytes.1 ∈ kT := kin2 192 (by decide +kernel) rfl
theorem kwl_m10_putBytes : Cond.selects m10_putBytes.1.cls m10_putBytes.1 m10_putBytes.1 ∈ kT := kinS 0 (by decide +kernel) rfl
theorem kwc_m10_pier : kcode m10_pier ∈ kT := kin2 197 (by decide +kernel) rfl
theorem kwi_m10_pier : Cond.initialized m10_pier.1.cls ∈ kT := kin1 1 (by decide +kernel) rfl
theorem kwm_m10_pier : Cond.instanceMethod m10_pier.1 ∈ kT := kin2 195 (by decide +kernel) rfl
theorem kwl_m10_pier : Cond.selects m10_pier.1.cls m10_pier.1 m10_pier.1 ∈ kT := kin2 196 (by decide +kernel) rfl
theorem kwc_m10_fault : kcode m10_fault ∈ kT := kin3 147 (by decide +kernel) rfl
theorem kwi_m10_fault : Cond.initialized m10_fault.1.cls ∈ kT := kin1 1 (by decide +kernel) rfl
theorem kwm_m10_fault : Cond.instanceMethod m10_fault.1 ∈ kT := kin3 145 (by decide +kernel) rfl
theorem kwl_m10_fault : Cond.selects m10_fault.1.cls m10_fault.1 m10_fault.1 ∈ kT := kin3 146 (by decide +kernel) rfl
theorem kwc_m10_where : kcode m10_where ∈ kT := kin3 151 (by decide +kernel) rfl
theorem kwi_m10_where : Cond.initialized m10_where.1.cls ∈ kT := kin1 1 (by decide +kernel) rfl
theorem kwm_m10_where : Cond.instanceMethod m10_where.1 ∈ kT := kin3 149 (by decide +kernel) rfl
theorem kwl_m10_where : Cond.selects m10_where.1.cls m10_where.1 m10_where.1 ∈ kT := kin3 150 (by decide +kernel) rfl
theorem kwc_m10_pair : kcode m10_pair ∈ kT := kin3 155 (by decide +kernel) rfl
theorem kwi_m10_pair : Cond.initialized m10_pair.1.cls ∈ kT := kin1 1 (by decide +kernel) rfl
theorem kwm_m10_pair : Cond.instanceMethod m10_pair.1 ∈ kT := kin3 153 (by decide +kernel) rfl
theorem kwl_m10_pair : Cond.selects m10_pair.1.cls m10_pair.1 m10_pair.1 ∈ kT := kin3 154 (by decide +kernel) rfl
theorem kwc_m10_isMore : kcode m10_isMore ∈ kT := kin3 171 (by decide +kernel) rfl
theorem kwi_m10_isMore : Cond.initialized m10_isMore.1.cls ∈ kT := kin1 1 (by decide +kernel) rfl
theorem kwm_m10_isMore : Cond.instanceMethod m10_isMore.1 ∈ kT := kin3 170 (by decide +kernel) rfl
theorem kwl_m10_isMore : Cond.selects m10_isMore.1.cls m10_isMore.1 m10_isMore.1 ∈ kT := kinS 24 (by decide +kernel) rfl
theorem kwc_m10_sayingBehind : kcode m10_sayingBehind ∈ kT := kin3 179 (by decide +kernel) rfl
theorem kwi_m10_sayingBehind : Cond.initialized m10_sayingBehind.1.cls ∈ kT := kin1 1 (by decide +kernel) rfl
theorem kwm_m10_sayingBehind : Cond.instanceMethod m10_sayingBehind.1 ∈ kT := kin3 178 (by decide +kernel) rfl
theorem kwl_m10_sayingBehind : Cond.selects m10_sayingBehind.1.cls m10_sayingBehind.1 m10_sayingBehind.1 ∈ kT := kinS 25 (by decide +kernel) rfl
theorem kwc_m10_sayAllBehind : kcode m10_sayAllBehind ∈ kT := kin4 65 (by decide +kernel) rfl
theorem kwi_m10_sayAllBehind : Cond.initialized m10_sayAllBehind.1.cls ∈ kT := kin1 1 (by decide +kernel) rfl
theorem kwm_m10_sayAllBehind : Cond.instanceMethod m10_sayAllBehind.1 ∈ kT := kin4 64 (by decide +kernel) rfl
theorem kwl_m10_sayAllBehind : Cond.selects m10_sayAllBehind.1.cls m10_sayAllBehind.1 m10_sayAllBehind.1 ∈ kT := kinS 31 (by decide +kernel) rfl
theorem kwc_m10_says : kcode m10_says ∈ kT := kin3 175 (by decide +kernel) rfl
theorem kwi_m10_says : Cond.initialized m10_says.1.cls ∈ kT := kin1 1 (by decide +kernel) rfl
theorem kwm_m10_says : Cond.instanceMethod m10_says.1 ∈ kT := kin3 173 (by decide +kernel) rfl
theorem kwl_m10_says : Cond.selects m10_says.1.cls m10_says.1 m10_says.1 ∈ kT := kin3 174 (by decide +kernel) rfl
theorem kwc_m10_saysAll : kcode m10_saysAll ∈ kT := kin3 211 (by decide +kernel) rfl
theorem kwi_m10_saysAll : Cond.initialized m10_saysAll.1.cls ∈ kT := kin1 1 (by decide +kernel) rfl
theorem kwm_m10_saysAll : Cond.instanceMethod m10_saysAll.1 ∈ kT := kin3 209 (by decide +kernel) rfl
theorem kwl_m10_saysAll : Cond.selects m10_saysAll.1.cls m10_saysAll.1 m10_saysAll.1 ∈ kT := kin3 210 (by decide +kernel) rfl
theorem kwc_m10_moreIn : kcode m10_moreIn ∈ kT := kin3 216 (by decide +kernel) rfl
theorem kwi_m10_moreIn : Cond.initialized m10_moreIn.1.cls ∈ kT := kin1 1 (by decide +kernel) rfl
theorem kwm_m10_moreIn : Cond.instanceMethod m10_moreIn.1 ∈ kT := kin3 214 (by decide +kernel) rfl
theorem kwl_m10_moreIn : Cond.selects m10_moreIn.1.cls m10_moreIn.1 m10_moreIn.1 ∈ kT := kin3 215 (by decide +kernel) rfl
theorem kwc_m10_moreTimes : kcode m10_moreTimes ∈ kT := kin3 224 (by decide +kernel) rfl
theorem kwi_m10_moreTimes : Cond.initialized m10_moreTimes.1.cls ∈ kT := kin1 1 (by decide +kernel) rfl
theorem kwm_m10_moreTimes : Cond.instanceMethod m10_moreTimes.1 ∈ kT := kin3 222 (by decide +kernel) rfl
theorem kwl_m10_moreTimes : Cond.selects m10_moreTimes.1.cls m10_moreTimes.1 m10_moreTimes.1 ∈ kT := kin3 223 (by decide +kernel) rfl
theorem kwc_m10_goRound : kcode m10_goRound ∈ kT := kin3 237 (by decide +kernel) rfl
theorem kwi_m10_goRound : Cond.initialized m10_goRound.1.cls ∈ kT := kin1 1 (by decide +kernel) rfl
theorem kwm_m10_goRound : Cond.instanceMethod m10_goRound.1 ∈ kT := kin3 236 (by decide +kernel) rfl
theorem kwl_m10_goRound : Cond.selects m10_goRound.1.cls m10_goRound.1 m10_goRound.1 ∈ kT := kinS 27 (by decide +kernel) rfl
theorem kwc_m10_settles : kcode m10_settles ∈ kT := kin3 233 (by decide +kernel) rfl
theorem kwi_m10_settles : Cond.initialized m10_settles.1.cls ∈ kT := kin1 1 (by decide +kernel) rfl
theorem kwm_m10_settles : Cond.instanceMethod m10_settles.1 ∈ kT := kin3 231 (by decide +kernel) rfl
theorem kwl_m10_settles : Cond.selects m10_settles.1.cls m10_settles.1 m10_settles.1 ∈ kT := kin3 232 (by decide +kernel) rfl
theorem kwc_m10_round : kcode m10_round ∈ kT := kin4 20 (by decide +kernel) rfl
theorem kwi_m10_round : Cond.initialized m10_round.1.cls ∈ kT := kin1 1 (by decide +kernel) rfl
theorem kwm_m10_round : Cond.instanceMethod m10_round.1 ∈ kT := kin4 18 (by decide +kernel) rfl
theorem kwl_m10_round : Cond.selects m10_round.1.cls m10_round.1 m10_round.1 ∈ kT := kin4 19 (by decide +kernel) rfl
theorem kwc_m10_saysLate : kcode m10_saysLate ∈ kT := kin4 24 (by decide +kernel) rfl
theorem kwi_m10_saysLate : Cond.initialized m10_saysLate.1.cls ∈ kT := kin1 1 (by decide +kernel) rfl
theorem kwm_m10_saysLate : Cond.instanceMethod m10_saysLate.1 ∈ kT := kin4 22 (by decide +kernel) rfl
theorem kwl_m10_saysLate : Cond.selects m10_saysLate.1.cls m10_saysLate.1 m10_saysLate.1 ∈ kT := kin4 23 (by decide +kernel) rfl
theorem kwc_m10_roundMost : kcode m10_roundMost ∈ kT := kin4 33 (by decide +kernel) rfl
theorem kwi_m10_roundMost : Cond.initialized m10_roundMost.1.cls ∈ kT := kin1 1 (by decide +kernel) rfl
theorem kwm_m10_roundMost : Cond.instanceMethod m10_roundMost.1 ∈ kT := kin4 31 (by decide +kernel) rfl
theorem kwl_m10_roundMost : Cond.selects m10_roundMost.1.cls m10_roundMost.1 m10_roundMost.1 ∈ kT := kin4 32 (by decide +kernel) rfl
theorem kwc_m10_roundLeast : kcode m10_roundLeast ∈ kT := kin4 41 (by decide +kernel) rfl
theorem kwi_m10_roundLeast : Cond.initialized m10_roundLeast.1.cls ∈ kT := kin1 1 (by decide +kernel) rfl
theorem kwm_m10_roundLeast : Cond.instanceMethod m10_roundLeast.1 ∈ kT := kin4 39 (by decide +kernel) rfl
theorem kwl_m10_roundLeast : Cond.selects m10_roundLeast.1.cls m10_roundLeast.1 m10_roundLeast.1 ∈ kT := kin4 40 (by decide +kernel) rfl
theorem kwc_m10_turnsAbout : kcode m10_turnsAbout ∈ kT := kin4 49 (by decide +kernel) rfl
theorem kwi_m10_turnsAbout : Cond.initialized m10_turnsAbout.1.cls ∈ kT := kin1 1 (by decide +kernel) rfl
theorem kwm_m10_turnsAbout : Cond.instanceMethod m10_turnsAbout.1 ∈ kT := kin4 47 (by decide +kernel) rfl
theorem kwl_m10_turnsAbout : Cond.selects m10_turnsAbout.1.cls m10_turnsAbout.1 m10_turnsAbout.1 ∈ kT := kin4 48 (by decide +kernel) rfl
theorem kwc_m10_alikeIn : kcode m10_alikeIn ∈ kT := kin4 53 (by decide +kernel) rfl
theorem kwi_m10_alikeIn : Cond.initialized m10_alikeIn.1.cls ∈ kT := kin1 1 (by decide +kernel) rfl
theorem kwm_m10_alikeIn : Cond.instanceMethod m10_alikeIn.1 ∈ kT := kin4 51 (by decide +kernel) rfl
theorem kwl_m10_alikeIn : Cond.selects m10_alikeIn.1.cls m10_alikeIn.1 m10_alikeIn.1 ∈ kT := kin4 52 (by decide +kernel) rfl
theorem kwc_m10_loudest : kcode m10_loudest ∈ kT := kin4 61 (by decide +kernel) rfl
theorem kwi_m10_loudest : Cond.initialized m10_loudest.1.cls ∈ kT := kin1 1 (by decide +kernel) rfl
theorem kwm_m10_loudest : Cond.instanceMethod m10_loudest.1 ∈ kT := kin4 59 (by decide +kernel) rfl
theorem kwl_m10_loudest : Cond.selects m10_loudest.1.cls m10_loudest.1 m10_loudest.1 ∈ kT := kin4 60 (by decide +kernel) rfl
theorem kwc_m10_firstMost : kcode m10_firstMost ∈ kT := kin4 68 (by decide +kernel) rfl
theorem kwi_m10_firstMost : Cond.initialized m10_firstMost.1.cls ∈ kT := kin1 1 (by decide +kernel) rfl
theorem kws_m10_firstMost : Cond.static m10_firstMost.1 ∈ kT := kin4 67 (by decide +kernel) rfl
theorem kwc_m10_overtakes : kcode m10_overtakes ∈ kT := kin4 72 (by decide +kernel) rfl
theorem kwi_m10_overtakes : Cond.initialized m10_overtakes.1.cls ∈ kT := kin1 1 (by decide +kernel) rfl
theorem kwm_m10_overtakes : Cond.instanceMethod m10_overtakes.1 ∈ kT := kin4 70 (by decide +kernel) rfl
theorem kwl_m10_overtakes : Cond.selects m10_overtakes.1.cls m10_overtakes.1 m10_overtakes.1 ∈ kT := kin4 71 (by decide +kernel) rfl
theorem kwc_m10_widest : kcode m10_widest ∈ kT := kin4 76 (by decide +kernel) rfl
theorem kwi_m10_widest : Cond.initialized m10_widest.1.cls ∈ kT := kin1 1 (by decide +kernel) rfl
theorem kwm_m10_widest : Cond.instanceMethod m10_widest.1 ∈ kT := kin4 74 (by decide +kernel) rfl
theorem kwl_m10_widest : Cond.selects m10_widest.1.cls m10_widest.1 m10_widest.1 ∈ kT := kin4 75 (by decide +kernel) rfl
theorem kwc_m10_sumAll : kcode m10_sumAll ∈ kT := kin4 83 (by decide +kernel) rfl
theorem kwi_m10_sumAll : Cond.initialized m10_sumAll.1.cls ∈ kT := kin1 1 (by decide +kernel) rfl
theorem kwm_m10_sumAll : Cond.instanceMethod m10_sumAll.1 ∈ kT := kin4 81 (by decide +kernel) rfl
theorem kwl_m10_sumAll : Cond.selects m10_sumAll.1.cls m10_sumAll.1 m10_sumAll.1 ∈ kT := kin4 82 (by decide +kernel) rfl
theorem kwc_m10_masters : kcode m10_masters ∈ kT := kin4 87 (by decide +kernel) rfl
theorem kwi_m10_masters : Cond.initialized m10_masters.1.cls ∈ kT := kin1 1 (by decide +kernel) rfl
theorem kwm_m10_masters : Cond.instanceMethod m10_masters.1 ∈ kT := kin4 85 (by decide +kernel) rfl
theorem kwl_m10_masters : Cond.selects m10_masters.1.cls m10_masters.1 m10_masters.1 ∈ kT := kin4 86 (by decide +kernel) rfl
theorem kwc_m10_bitsOfMore : kcode m10_bitsOfMore ∈ kT := kin4 91 (by decide +kernel) rfl
theorem kwi_m10_bitsOfMore : Cond.initialized m10_bitsOfMore.1.cls ∈ kT := kin1 1 (by decide +kernel) rfl
theorem kwm_m10_bitsOfMore : Cond.instanceMethod m10_bitsOfMore.1 ∈ kT := kin4 90 (by decide +kernel) rfl
theorem kwl_m10_bitsOfMore : Cond.selects m10_bitsOfMore.1.cls m10_bitsOfMore.1 m10_bitsOfMore.1 ∈ kT := kinS 32 (by decide +kernel) rfl
theorem kwc_m10_sayingByEvery : kcode m10_sayingByEvery ∈ kT := kin4 103 (by decide +kernel) rfl
theorem kwi_m10_sayingByEvery : Cond.initialized m10_sayingByEvery.1.cls ∈ kT := kin1 1 (by decide +kernel) rfl
theorem kwm_m10_sayingByEvery : Cond.instanceMethod m10_sayingByEvery.1 ∈ kT := kin4 102 (by decide +kernel) rfl
theorem kwl_m10_sayingByEvery : Cond.selects m10_sayingByEvery.1.cls m10_sayingByEvery.1 m10_sayingByEvery.1 ∈ kT := kinS 34 (by decide +kernel) rfl
theorem kwc_m10_bestEvery : kcode m10_bestEvery ∈ kT := kin4 99 (by decide +kernel) rfl
theorem kwi_m10_bestEvery : Cond.initialized m10_bestEvery.1.cls ∈ kT := kin1 1 (by decide +kernel) rfl
theorem kwm_m10_bestEvery : Cond.instanceMethod m10_bestEvery.1 ∈ kT := kin4 98 (by decide +kernel) rfl
theorem kwl_m10_bestEvery : Cond.selects m10_bestEvery.1.cls m10_bestEvery.1 m10_bestEvery.1 ∈ kT := kinS 33 (by decide +kernel) rfl
theorem kwc_m10_everyFor : kcode m10_everyFor ∈ kT := kin4 95 (by decide +kernel) rfl
theorem kwi_m10_everyFor : Cond.initialized m10_everyFor.1.cls ∈ kT := kin1 1 (by decide +kernel) rfl
theorem kwm_m10_everyFor : Cond.instanceMethod m10_everyFor.1 ∈ kT := kin4 93 (by decide +kernel) rfl
theorem kwl_m10_everyFor : Cond.selects m10_everyFor.1.cls m10_everyFor.1 m10_everyFor.1 ∈ kT := kin4 94 (by decide +kernel) rfl
theorem kwc_m10_everySays : kcode m10_everySays ∈ kT := kin4 107 (by decide +kernel) rfl
theorem kwi_m10_everySays : Cond.initialized m10_everySays.1.cls ∈ kT := kin1 1 (by decide +kernel) rfl
theorem kwm_m10_everySays : Cond.instanceMethod m10_everySays.1 ∈ kT := kin4 105 (by decide +kernel) rfl
theorem kwl_m10_everySays : Cond.selects m10_everySays.1.cls m10_everySays.1 m10_everySays.1 ∈ kT := kin4 106 (by decide +kernel) rfl
theorem kwc_m10_everyNever : kcode m10_everyNever ∈ kT := kin4 111 (by decide +kernel) rfl
theorem kwi_m10_everyNever : Cond.initialized m10_everyNever.1.cls ∈ kT := kin1 1 (by decide +kernel) rfl
theorem kwm_m10_everyNever : Cond.instanceMethod m10_everyNever.1 ∈ kT := kin4 109 (by decide +kernel) rfl
theorem kwl_m10_everyNever : Cond.selects m10_everyNever.1.cls m10_everyNever.1 m10_everyNever.1 ∈ kT := kin4 110 (by decide +kernel) rfl
theorem kwc_m10_stepFor : kcode m10_stepFor ∈ kT := kin4 115 (by decide +kernel) rfl
theorem kwi_m10_stepFor : Cond.initialized m10_stepFor.1.cls ∈ kT := kin1 1 (by decide +kernel) rfl
theorem kwm_m10_stepFor : Cond.instanceMethod m10_stepFor.1 ∈ kT := kin4 113 (by decide +kernel) rfl
theorem kwl_m10_stepFor : Cond.selects m10_stepFor.1.cls m10_stepFor.1 m10_stepFor.1 ∈ kT := kin4 114 (by decide +kernel) rfl
theorem kwc_m10_mayFit : kcode m10_mayFit ∈ kT := kin4 123 (by decide +kernel) rfl
theorem kwi_m10_mayFit : Cond.initialized m10_mayFit.1.cls ∈ kT := kin1 1 (by decide +kernel) rfl
theorem kwm_m10_mayFit : Cond.instanceMethod m10_mayFit.1 ∈ kT := kin4 122 (by decide +kernel) rfl
theorem kwl_m10_mayFit : Cond.selects m10_mayFit.1.cls m10_mayFit.1 m10_mayFit.1 ∈ kT := kinS 35 (by decide +kernel) rfl
theorem kwc_m10_fits : kcode m10_fits ∈ kT := kin4 119 (by decide +kernel) rfl
theorem kwi_m10_fits : Cond.initialized m10_fits.1.cls ∈ kT := kin1 1 (by decide +kernel) rfl
theorem kwm_m10_fits : Cond.instanceMethod m10_fits.1 ∈ kT := kin4 117 (by decide +kernel) rfl
theorem kwl_m10_fits : Cond.selects m10_fits.1.cls m10_fits.1 m10_fits.1 ∈ kT := kin4 118 (by decide +kernel) rfl
theorem kwc_m10_fitAt : kcode m10_fitAt ∈ kT := kin4 142 (by decide +kernel) rfl
theorem kwi_m10_fitAt : Cond.initialized m10_fitAt.1.cls ∈ kT := kin1 1 (by decide +kernel) rfl
theorem kwm_m10_fitAt : Cond.instanceMethod m10_fitAt.1 ∈ kT := kin4 140 (by decide +kernel) rfl
theorem kwl_m10_fitAt : Cond.selects m10_fitAt.1.cls m10_fitAt.1 m10_fitAt.1 ∈ kT := kin4 141 (by decide +kernel) rfl
theorem kwc_m10_could : kcode m10_could ∈ kT := kin4 146 (by decide +kernel) rfl
theorem kwi_m10_could : Cond.initialized m10_could.1.cls ∈ kT := kin1 1 (by decide +kernel) rfl
theorem kwm_m10_could : Cond.instanceMethod m10_could.1 ∈ kT := kin4 144 (by decide +kernel) rfl
theorem kwl_m10_could : Cond.selects m10_could.1.cls m10_could.1 m10_could.1 ∈ kT := kin4 145 (by decide +kernel) rfl
theorem kwc_m10_surely : kcode m10_surely ∈ kT := kin4 154 (by decide +kernel) rfl
theorem kwi_m10_surely : Cond.initialized m10_surely.1.cls ∈ kT := kin1 1 (by decide +kernel) rfl
theorem kwm_m10_surely : Cond.instanceMethod m10_surely.1 ∈ kT := kin4 152 (by decide +kernel) rfl
theorem kwl_m10_surely : Cond.selects m10_surely.1.cls m10_surely.1 m10_surely.1 ∈ kT := kin4 153 (by decide +kernel) rfl
theorem kwc_m10_ask : kcode m10_ask ∈ kT := kin4 162 (by decide +kernel) rfl
theorem kwi_m10_ask : Cond.initialized m10_ask.1.cls ∈ kT := kin1 1 (by decide +kernel) rfl
theorem kwm_m10_ask : Cond.instanceMethod m10_ask.1 ∈ kT := kin4 160 (by decide +kernel) rfl
theorem kwl_m10_ask : Cond.selects m10_ask.1.cls m10_ask.1 m10_ask.1 ∈ kT := kin4 161 (by decide +kernel) rfl
theorem kwc_m10_askLeaves : kcode m10_askLeaves ∈ kT := kin4 175 (by decide +kernel) rfl
theorem kwi_m10_askLeaves : Cond.initialized m10_askLeaves.1.cls ∈ kT := kin1 1 (by decide +kernel) rfl
theorem kwm_m10_askLeaves : Cond.instanceMethod m10_askLeaves.1 ∈ kT := kin4 173 (by decide +kernel) rfl
theorem kwl_m10_askLeaves : Cond.selects m10_askLeaves.1.cls m10_askLeaves.1 m10_askLeaves.1 ∈ kT := kin4 174 (by decide +kernel) rfl
theorem kwc_m10_judge : kcode m10_judge ∈ kT := kin4 180 (by decide +kernel) rfl
theorem kwi_m10_judge : Cond.initialized m10_judge.1.cls ∈ kT := kin1 1 (by decide +kernel) rfl
theorem kwm_m10_judge : Cond.instanceMethod m10_judge.1 ∈ kT := kin4 178 (by decide +kernel) rfl
theorem kwl_m10_judge : Cond.selects m10_judge.1.cls m10_judge.1 m10_judge.1 ∈ kT := kin4 179 (by decide +kernel) rfl
theorem kwc_m10_apartByTold : kcode m10_apartByTold ∈ kT := kin4 184 (by decide +kernel) rfl
theorem kwi_m10_apartByTold : Cond.initialized m10_apartByTold.1.cls ∈ kT := kin1 1 (by decide +kernel) rfl
theorem kwm_m10_apartByTold : Cond.instanceMethod m10_apartByTold.1 ∈ kT := kin4 183 (by decide +kernel) rfl
theorem kwl_m10_apartByTold : Cond.selects m10_apartByTold.1.cls m10_apartByTold.1 m10_apartByTold.1 ∈ kT := kinS 38 (by decide +kernel) rfl
theorem kwc_m10_third : kcode m10_third ∈ kT := kin4 189 (by decide +kernel) rfl
theorem kwi_m10_third : Cond.initialized m10_third.1.cls ∈ kT := kin1 1 (by decide +kernel) rfl
theorem kwm_m10_third : Cond.instanceMethod m10_third.1 ∈ kT := kin4 187 (by decide +kernel) rfl
theorem kwl_m10_third : Cond.selects m10_third.1.cls m10_third.1 m10_third.1 ∈ kT := kin4 188 (by decide +kernel) rfl
theorem kwc_m10_owes : kcode m10_owes ∈ kT := kin4 193 (by decide +kernel) rfl
theorem kwi_m10_owes : Cond.initialized m10_owes.1.cls ∈ kT := kin1 1 (by decide +kernel) rfl
theorem kwm_m10_owes : Cond.instanceMethod m10_owes.1 ∈ kT := kin4 191 (by decide +kernel) rfl
theorem kwl_m10_owes : Cond.selects m10_owes.1.cls m10_owes.1 m10_owes.1 ∈ kT := kin4 192 (by decide +kernel) rfl
theorem kwc_m10_net : kcode m10_net ∈ kT := kin4 197 (by decide +kernel) rfl
theorem kwi_m10_net : Cond.initialized m10_net.1.cls ∈ kT := kin1 1 (by decide +kernel) rfl
theorem kwm_m10_net : Cond.instanceMethod m10_net.1 ∈ kT := kin4 195 (by decide +kernel) rfl
theorem kwl_m10_net : Cond.selects m10_net.1.cls m10_net.1 m10_net.1 ∈ kT := kin4 196 (by decide +kernel) rfl
theorem kwc_m10_due : kcode m10_due ∈ kT := kin4 207 (by decide +kernel) rfl
theorem kwi_m10_due : Cond.initialized m10_due.1.cls ∈ kT := kin1 1 (by decide +kernel) rfl
theorem kwm_m10_due : Cond.instanceMethod m10_due.1 ∈ kT := kin4 205 (by decide +kernel) rfl
theorem kwl_m10_due : Cond.selects m10_due.1.cls m10_due.1 m10_due.1 ∈ kT := kin4 206 (by decide +kernel) rfl
theorem kwc_m10_creditor : kcode m10_creditor ∈ kT := kin4 216 (by decide +kernel) rfl
theorem kwi_m10_creditor : Cond.initialized m10_creditor.1.cls ∈ kT := kin1 1 (by decide +kernel) rfl
theorem kwm_m10_creditor : Cond.instanceMethod m10_creditor.1 ∈ kT := kin4 214 (by decide +kernel) rfl
theorem kwl_m10_creditor : Cond.selects m10_creditor.1.cls m10_creditor.1 m10_creditor.1 ∈ kT := kin4 215 (by decide +kernel) rfl
theorem kwc_m10_payments : kcode m10_payments ∈ kT := kin4 220 (by decide +kernel) rfl
theorem kwi_m10_payments : Cond.initialized m10_payments.1.cls ∈ kT := kin1 1 (by decide +kernel) rfl
theorem kwm_m10_payments : Cond.instanceMethod m10_payments.1 ∈ kT := kin4 218 (by decide +kernel) rfl
theorem kwl_m10_payments : Cond.selects m10_payments.1.cls m10_payments.1 m10_payments.1 ∈ kT := kin4 219 (by decide +kernel) rfl
theorem kwc_m10_ring : kcode m10_ring ∈ kT := kin4 228 (by decide +kernel) rfl
theorem kwi_m10_ring : Cond.initialized m10_ring.1.cls ∈ kT := kin1 1 (by decide +kernel) rfl
theorem kwm_m10_ring : Cond.instanceMethod m10_ring.1 ∈ kT := kin4 226 (by decide +kernel) rfl
theorem kwl_m10_ring : Cond.selects m10_ring.1.cls m10_ring.1 m10_ring.1 ∈ kT := kin4 227 (by decide +kernel) rfl
theorem kwc_m10_ringAt : kcode m10_ringAt ∈ kT := kin5 9 (by decide +kernel) rfl
theorem kwi_m10_ringAt : Cond.initialized m10_ringAt.1.cls ∈ kT := kin1 1 (by decide +kernel) rfl
theorem kwm_m10_ringAt : Cond.instanceMethod m10_ringAt.1 ∈ kT := kin5 7 (by decide +kernel) rfl
theorem kwl_m10_ringAt : Cond.selects m10_ringAt.1.cls m10_ringAt.1 m10_ringAt.1 ∈ kT := kin5 8 (by decide +kernel) rfl
theorem kwc_m10_share : kcode m10_share ∈ kT := kin5 16 (by decide +kernel) rfl
theorem kwi_m10_share : Cond.initialized m10_share.1.cls ∈ kT := kin1 1 (by decide +kernel) rfl
theorem kws_m10_share : Cond.static m10_share.1 ∈ kT := kin5 15 (by decide +kernel) rfl
theorem kwc_m10_isRest : kcode m10_isRest ∈ kT := kin5 26 (by decide +kernel) rfl
theorem kwi_m10_isRest : Cond.initialized m10_isRest.1.cls ∈ kT := kin1 1 (by decide +kernel) rfl
theorem kws_m10_isRest : Cond.static m10_isRest.1 ∈ kT := kin5 25 (by decide +kernel) rfl
theorem kwc_m10_isRestAt : kcode m10_isRestAt ∈ kT := kin5 23 (by decide +kernel) rfl
theorem kwi_m10_isRestAt : Cond.initialized m10_isRestAt.1.cls ∈ kT := kin1 1 (by decide +kernel) rfl
theorem kws_m10_isRestAt : Cond.static m10_isRestAt.1 ∈ kT := kin5 22 (by decide +kernel) rfl
theorem kwc_m10_talks : kcode m10_talks ∈ kT := kin5 13 (by decide +kernel) rfl
theorem kwi_m10_talks : Cond.initialized m10_talks.1.cls ∈ kT := kin1 1 (by decide +kernel) rfl
theorem kwm_m10_talks : Cond.instanceMethod m10_talks.1 ∈ kT := kin5 11 (by decide +kernel) rfl
theorem kwl_m10_talks : Cond.selects m10_talks.1.cls m10_talks.1 m10_talks.1 ∈ kT := kin5 12 (by decide +kernel) rfl
theorem kwc_m10_rests : kcode m10_rests ∈ kT := kin5 20 (by decide +kernel) rfl
theorem kwi_m10_rests : Cond.initialized m10_rests.1.cls ∈ kT := kin1 1 (by decide +kernel) rfl
theorem kwm_m10_rests : Cond.instanceMethod m10_rests.1 ∈ kT := kin5 18 (by decide +kernel) rfl
theorem kwl_m10_rests : Cond.selects m10_rests.1.cls m10_rests.1 m10_rests.1 ∈ kT := kin5 19 (by decide +kernel) rfl
theorem kwc_m10_rest : kcode m10_rest ∈ kT := kin5 30 (by decide +kernel) rfl
theorem kwi_m10_rest : Cond.initialized m10_rest.1.cls ∈ kT := kin1 1 (by decide +kernel) rfl
theorem kwm_m10_rest : Cond.instanceMethod m10_rest.1 ∈ kT := kin5 28 (by decide +kernel) rfl
theorem kwl_m10_rest : Cond.selects m10_rest.1.cls m10_rest.1 m10_rest.1 ∈ kT := kin5 29 (by decide +kernel) rfl
theorem kwc_m10_verdictOdds : kcode m10_verdictOdds ∈ kT := kin5 34 (by decide +kernel) rfl
theorem kwi_m10_verdictOdds : Cond.initialized m10_verdictOdds.1.cls ∈ kT := kin1 1 (by decide +kernel) rfl
theorem kwm_m10_verdictOdds : Cond.instanceMethod m10_verdictOdds.1 ∈ kT := kin5 32 (by decide +kernel) rfl
theorem kwl_m10_verdictOdds : Cond.selects m10_verdictOdds.1.cls m10_verdictOdds.1 m10_verdictOdds.1 ∈ kT := kin5 33 (by decide +kernel) rfl
theorem kwc_m10_looks : kcode m10_looks ∈ kT := kin5 57 (by decide +kernel) rfl
theorem kwi_m10_looks : Cond.initialized m10_looks.1.cls ∈ kT := kin1 1 (by decide +kernel) rfl
theorem kwm_m10_looks : Cond.instanceMethod m10_looks.1 ∈ kT := kin5 55 (by decide +kernel) rfl
theorem kwl_m10_looks : Cond.selects m10_looks.1.cls m10_looks.1 m10_looks.1 ∈ kT := kin5 56 (by decide +kernel) rfl
theorem kwc_m10_verdict : kcode m10_verdict ∈ kT := kin5 70 (by decide +kernel) rfl
theorem kwi_m10_verdict : Cond.initialized m10_verdict.1.cls ∈ kT := kin1 1 (by decide +kernel) rfl
theorem kwm_m10_verdict : Cond.instanceMethod m10_verdict.1 ∈ kT := kin5 68 (by decide +kernel) rfl
theorem kwl_m10_verdict : Cond.selects m10_verdict.1.cls m10_verdict.1 m10_verdict.1 ∈ kT := kin5 69 (by decide +kernel) rfl
theorem kwc_m10_drawFrom : kcode m10_drawFrom ∈ kT := kin5 65 (by decide +kernel) rfl
theorem kwi_m10_drawFrom : Cond.initialized m10_drawFrom.1.cls ∈ kT := kin1 1 (by decide +kernel) rfl
theorem kws_m10_drawFrom : Cond.static m10_drawFrom.1 ∈ kT := kin5 64 (by decide +kernel) rfl
theorem kwc_m10_odds : kcode m10_odds ∈ kT := kin5 74 (by decide +kernel) rfl
theorem kwi_m10_odds : Cond.initialized m10_odds.1.cls ∈ kT := kin1 1 (by decide +kernel) rfl
theorem kwm_m10_odds : Cond.instanceMethod m10_odds.1 ∈ kT := kin5 72 (by decide +kernel) rfl
theorem kwl_m10_odds : Cond.selects m10_odds.1.cls m10_odds.1 m10_odds.1 ∈ kT := kin5 73 (by decide +kernel) rfl
theorem kwc_m10_mean : kcode m10_mean ∈ kT := kin5 87 (by decide +kernel) rfl
theorem kwi_m10_mean : Cond.initialized m10_mean.1.cls ∈ kT := kin1 1 (by decide +kernel) rfl
theorem kwm_m10_mean : Cond.instanceMethod m10_mean.1 ∈ kT := kin5 85 (by decide +kernel) rfl
theorem kwl_m10_mean : Cond.selects m10_mean.1.cls m10_mean.1 m10_mean.1 ∈ kT := kin5 86 (by decide +kernel) rfl
theorem kwc_m10_goWithDumb : kcode m10_goWithDumb ∈ kT := kin5 78 (by decide +kernel) rfl
theorem kwi_m10_goWithDumb : Cond.initialized m10_goWithDumb.1.cls ∈ kT := kin1 1 (by decide +kernel) rfl
theorem kwm_m10_goWithDumb : Cond.instanceMethod m10_goWithDumb.1 ∈ kT := kin5 77 (by decide +kernel) rfl
theorem kwl_m10_goWithDumb : Cond.selects m10_goWithDumb.1.cls m10_goWithDumb.1 m10_goWithDumb.1 ∈ kT := kinS 43 (by decide +kernel) rfl
theorem kwc_m10_allChances : kcode m10_allChances ∈ kT := kin5 82 (by decide +kernel) rfl
theorem kwi_m10_allChances : Cond.initialized m10_allChances.1.cls ∈ kT := kin1 1 (by decide +kernel) rfl
theorem kws_m10_allChances : Cond.static m10_allChances.1 ∈ kT := kin5 81 (by decide +kernel) rfl
theorem kwc_m10_drawn : kcode m10_drawn ∈ kT := kin5 91 (by decide +kernel) rfl
theorem kwi_m10_drawn : Cond.initialized m10_drawn.1.cls ∈ kT := kin1 1 (by decide +kernel) rfl
theorem kwm_m10_drawn : Cond.instanceMethod m10_drawn.1 ∈ kT := kin5 89 (by decide +kernel) rfl
theorem kwl_m10_drawn : Cond.selects m10_drawn.1.cls m10_drawn.1 m10_drawn.1 ∈ kT := kin5 90 (by decide +kernel) rfl
theorem kwc_m10_season : kcode m10_season ∈ kT := kin5 96 (by decide +kernel) rfl
theorem kwi_m10_season : Cond.initialized m10_season.1.cls ∈ kT := kin1 1 (by decide +kernel) rfl
theorem kwm_m10_season : Cond.instanceMethod m10_season.1 ∈ kT := kin5 94 (by decide +kernel) rfl
theorem kwl_m10_season : Cond.selects m10_season.1.cls m10_season.1 m10_season.1 ∈ kT := kin5 95 (by decide +kernel) rfl
theorem kwc_m10_change : kcode m10_change ∈ kT := kin5 110 (by decide +kernel) rfl
theorem kwi_m10_change : Cond.initialized m10_change.1.cls ∈ kT := kin1 1 (by decide +kernel) rfl
theorem kwm_m10_change : Cond.instanceMethod m10_change.1 ∈ kT := kin5 108 (by decide +kernel) rfl
theorem kwl_m10_change : Cond.selects m10_change.1.cls m10_change.1 m10_change.1 ∈ kT := kin5 109 (by decide +kernel) rfl
theorem kwc_m10_step : kcode m10_step ∈ kT := kin5 114 (by decide +kernel) rfl
theorem kwi_m10_step : Cond.initialized m10_step.1.cls ∈ kT := kin1 1 (by decide +kernel) rfl
theorem kwm_m10_step : Cond.instanceMethod m10_step.1 ∈ kT := kin5 112 (by decide +kernel) rfl
theorem kwl_m10_step : Cond.selects m10_step.1.cls m10_step.1 m10_step.1 ∈ kT := kin5 113 (by decide +kernel) rfl
theorem kwc_m10_pay : kcode m10_pay ∈ kT := kin5 122 (by decide +kernel) rfl
theorem kwi_m10_pay : Cond.initialized m10_pay.1.cls ∈ kT := kin1 1 (by decide +kernel) rfl
theorem kwm_m10_pay : Cond.instanceMethod m10_pay.1 ∈ kT := kin5 120 (by decide +kernel) rfl
theorem kwl_m10_pay : Cond.selects m10_pay.1.cls m10_pay.1 m10_pay.1 ∈ kT := kin5 121 (by decide +kernel) rfl
theorem kwc_m10_undo : kcode m10_undo ∈ kT := kin5 126 (by decide +kernel) rfl
theorem kwi_m10_undo : Cond.initialized m10_undo.1.cls ∈ kT := kin1 1 (by decide +kernel) rfl
theorem kwm_m10_undo : Cond.instanceMethod m10_undo.1 ∈ kT := kin5 124 (by decide +kernel) rfl
theorem kwl_m10_undo : Cond.selects m10_undo.1.cls m10_undo.1 m10_undo.1 ∈ kT := kin5 125 (by decide +kernel) rfl
theorem kwc_m10_image : kcode m10_image ∈ kT := kin5 138 (by decide +kernel) rfl
theorem kwi_m10_image : Cond.initialized m10_image.1.cls ∈ kT := kin1 1 (by decide +kernel) rfl
theorem kwm_m10_image : Cond.instanceMethod m10_image.1 ∈ kT := kin5 136 (by decide +kernel) rfl
theorem kwl_m10_image : Cond.selects m10_image.1.cls m10_image.1 m10_image.1 ∈ kT := kin5 137 (by decide +kernel) rfl
theorem kwc_m10_back : kcode m10_back ∈ kT := kin5 143 (by decide +kernel) rfl
theorem kwi_m10_back : Cond.initialized m10_back.1.cls ∈ kT := kin1 1 (by decide +kernel) rfl
theorem kwm_m10_back : Cond.instanceMethod m10_back.1 ∈ kT := kin5 141 (by decide +kernel) rfl
theorem kwl_m10_back : Cond.selects m10_back.1.cls m10_back.1 m10_back.1 ∈ kT := kin5 142 (by decide +kernel) rfl
theorem kwc_m10_led : kcode m10_led ∈ kT := kin5 164 (by decide +kernel) rfl
theorem kwi_m10_led : Cond.initialized m10_led.1.cls ∈ kT := kin1 1 (by decide +kernel) rfl
theorem kwm_m10_led : Cond.instanceMethod m10_led.1 ∈ kT := kin5 162 (by decide +kernel) rfl
theorem kwl_m10_led : Cond.selects m10_led.1.cls m10_led.1 m10_led.1 ∈ kT := kin5 163 (by decide +kernel) rfl
theorem kwc_m10_size : kcode m10_size ∈ kT := kin5 148 (by decide +kernel) rfl
theorem kwi_m10_size : Cond.initialized m10_size.1.cls ∈ kT := kin1 1 (by decide +kernel) rfl
theorem kwm_m10_size : Cond.instanceMethod m10_size.1 ∈ kT := kin5 146 (by decide +kernel) rfl
theorem kwl_m10_size : Cond.selects m10_size.1.cls m10_size.1 m10_size.1 ∈ kT := kin5 147 (by decide +kernel) rfl
theorem kwc_m10_trouble : kcode m10_trouble ∈ kT := kin5 156 (by decide +kernel) rfl
theorem kwi_m10_trouble : Cond.initialized m10_trouble.1.cls ∈ kT := kin1 1 (by decide +kernel) rfl
theorem kwm_m10_trouble : Cond.instanceMethod m10_trouble.1 ∈ kT := kin5 154 (by decide +kernel) rfl
theorem kwl_m10_trouble : Cond.selects m10_trouble.1.cls m10_trouble.1 m10_trouble.1 ∈ kT := kin5 155 (by decide +kernel) rfl
theorem kwc_m11_thrown : kcode m11_thrown ∈ kT := kin6 122 (by decide +kernel) rfl
theorem kwi_m11_thrown : Cond.initialized m11_thrown.1.cls ∈ kT := kin1 12 (by decide +kernel) rfl
theorem kwm_m11_thrown : Cond.instanceMethod m11_thrown.1 ∈ kT := kin6 120 (by decide +kernel) rfl
theorem kwl_m11_thrown : Cond.selects m11_thrown.1.cls m11_thrown.1 m11_thrown.1 ∈ kT := kin6 121 (by decide +kernel) rfl
theorem kwc_m11_good : kcode m11_good ∈ kT := kin6 134 (by decide +kernel) rfl
theorem kwi_m11_good : Cond.initialized m11_good.1.cls ∈ kT := kin1 12 (by decide +kernel) rfl
theorem kwm_m11_good : Cond.instanceMethod m11_good.1 ∈ kT := kin6 133 (by decide +kernel) rfl
theorem kwl_m11_good : Cond.selects m11_good.1.cls m11_good.1 m11_good.1 ∈ kT := kinS 46 (by decide +kernel) rfl
theorem kwc_m11_no : kcode m11_no ∈ kT := kin6 141 (by decide +kernel) rfl
theorem kwi_m11_no : Cond.initialized m11_no.1.cls ∈ kT := kin1 12 (by decide +kernel) rfl
theorem kwm_m11_no : Cond.instanceMethod m11_no.1 ∈ kT := kin6 140 (by decide +kernel) rfl
theorem kwl_m11_no : Cond.selects m11_no.1.cls m11_no.1 m11_no.1 ∈ kT := kinS 47 (by decide +kernel) rfl
theorem kwc_m11_isNot : kcode m11_isNot ∈ kT := kin8 129 (by decide +kernel) rfl
theorem kwi_m11_isNot : Cond.initialized m11_isNot.1.cls ∈ kT := kin1 12 (by decide +kernel) rfl
theorem kwm_m11_isNot : Cond.instanceMethod m11_isNot.1 ∈ kT := kin8 128 (by decide +kernel) rfl
theorem kwl_m11_isNot : Cond.selects m11_isNot.1.cls m11_isNot.1 m11_isNot.1 ∈ kT := kinS 103 (by decide +kernel) rfl
theorem kwc_m11_in : kcode m11_in ∈ kT := kin6 137 (by decide +kernel) rfl
theorem kwi_m11_in : Cond.initialized m11_in.1.cls ∈ kT := kin1 12 (by decide +kernel) rfl
theorem kws_m11_in : Cond.static m11_in.1 ∈ kT := kin6 136 (by decide +kernel) rfl
theorem kwc_m11_hasBit : kcode m11_hasBit ∈ kT := kin7 196 (by decide +kernel) rfl
theorem kwi_m11_hasBit : Cond.initialized m11_hasBit.1.cls ∈ kT := kin1 12 (by decide +kernel) rfl
theorem kws_m11_hasBit : Cond.static m11_hasBit.1 ∈ kT := kin7 195 (by decide +kernel) rfl
theorem kwc_m11_ones : kcode m11_ones ∈ kT := kin8 24 (by decide +kernel) rfl
theorem kwi_m11_ones : Cond.initialized m11_ones.1.cls ∈ kT := kin1 12 (by decide +kernel) rfl
theorem kws_m11_ones : Cond.static m11_ones.1 ∈ kT := kin8 23 (by decide +kernel) rfl
theorem kwc_m11_copy : kcode m11_copy ∈ kT := kin7 16 (by decide +kernel) rfl
theorem kwi_m11_copy : Cond.initialized m11_copy.1.cls ∈ kT := kin1 12 (by decide +kernel) rfl
theorem kws_m11_copy : Cond.static m11_copy.1 ∈ kT := kin7 15 (by decide +kernel) rfl
theorem kwc_m11_lowest : kcode m11_lowest ∈ kT := kin8 79 (by decide +kernel) rfl
theorem kwi_m11_lowest : Cond.initialized m11_lowest.1.cls ∈ kT := kin1 12 (by decide +kernel) rfl
theorem kws_m11_lowest : Cond.static m11_lowest.1 ∈ kT := kin8 78 (by decide +kernel) rfl
theorem kwc_m11_feed : kcode m11_feed ∈ kT := kin6 126 (by decide +kernel) rfl
theorem kwi_m11_feed : Cond.initialized m11_feed.1.cls ∈ kT := kin1 12 (by decide +kernel) rfl
theorem kwm_m11_feed : Cond.instanceMethod m11_feed.1 ∈ kT := kin6 124 (by decide +kernel) rfl
theorem kwl_m11_feed : Cond.selects m11_feed.1.cls m11_feed.1 m11_feed.1 ∈ kT := kin6 125 (by decide +kernel) rfl
theorem kwc_m11_see : kcode m11_see ∈ kT := kin6 149 (by decide +kernel) rfl
theorem kwi_m11_see : Cond.initialized m11_see.1.cls ∈ kT := kin1 12 (by decide +kernel) rfl
theorem kwm_m11_see : Cond.instanceMethod m11_see.1 ∈ kT := kin6 148 (by decide +kernel) rfl
theorem kwl_m11_see : Cond.selects m11_see.1.cls m11_see.1 m11_see.1 ∈ kT := kinS 49 (by decide +kernel) rfl
theorem kwc_m11_isSmall : kcode m11_isSmall ∈ kT := kin6 152 (by decide +kernel) rfl
theorem kwi_m11_isSmall : Cond.initialized m11_isSmall.1.cls ∈ kT := kin1 12 (by decide +kernel) rfl
theorem kws_m11_isSmall : Cond.static m11_isSmall.1 ∈ kT := kin6 151 (by decide +kernel) rfl
theorem kwc_m11_isDigit : kcode m11_isDigit ∈ kT := kin6 155 (by decide +kernel) rfl
theorem kwi_m11_isDigit : Cond.initialized m11_isDigit.1.cls ∈ kT := kin1 12 (by decide +kernel) rfl
theorem kws_m11_isDigit : Cond.static m11_isDigit.1 ∈ kT := kin6 154 (by decide +kernel) rfl
theorem kwc_m11_next : kcode m11_next ∈ kT := kin6 145 (by decide +kernel) rfl
theorem kwi_m11_next : Cond.initialized m11_next.1.cls ∈ kT := kin1 12 (by decide +kernel) rfl
theorem kwm_m11_next : Cond.instanceMethod m11_next.1 ∈ kT := kin6 144 (by decide +kernel) rfl
theorem kwl_m11_next : Cond.selects m11_next.1.cls m11_next.1 m11_next.1 ∈ kT := kinS 48 (by decide +kernel) rfl
theorem kwc_m11_wrong : kcode m11_wrong ∈ kT := kin6 174 (by decide +kernel) rfl
theorem kwi_m11_wrong : Cond.initialized m11_wrong.1.cls ∈ kT := kin1 12 (by decide +kernel) rfl
theorem kwm_m11_wrong : Cond.instanceMethod m11_wrong.1 ∈ kT := kin6 173 (by decide +kernel) rfl
theorem kwl_m11_wrong : Cond.selects m11_wrong.1.cls m11_wrong.1 m11_wrong.1 ∈ kT := kinS 53 (by decide +kernel) rfl
theorem kwc_m11_isWord : kcode m11_isWord ∈ kT := kin6 164 (by decide +kernel) rfl
theorem kwi_m11_isWord : Cond.initialized m11_isWord.1.cls ∈ kT := kin1 12 (by decide +kernel) rfl
theorem kwm_m11_isWord : Cond.instanceMethod m11_isWord.1 ∈ kT := kin6 163 (by decide +kernel) rfl
theorem kwl_m11_isWord : Cond.selects m11_isWord.1.cls m11_isWord.1 m11_isWord.1 ∈ kT := kinS 51 (by decide +kernel) rfl
theorem kwc_m11_takesWord : kcode m11_takesWord ∈ kT := kin6 187 (by decide +kernel) rfl
theorem kwi_m11_takesWord : Cond.initialized m11_takesWord.1.cls ∈ kT := kin1 12 (by decide +kernel) rfl
theorem kwm_m11_takesWord : Cond.instanceMethod m11_takesWord.1 ∈ kT := kin6 186 (by decide +kernel) rfl
theorem kwl_m11_takesWord : Cond.selects m11_takesWord.1.cls m11_takesWord.1 m11_takesWord.1 ∈ kT := kinS 56 (by decide +kernel) rfl
theorem kwc_m11_must : kcode m11_must ∈ kT := kin6 183 (by decide +kernel) rfl
theorem kwi_m11_must : Cond.initialized m11_must.1.cls ∈ kT := kin1 12 (by decide +kernel) rfl
theorem kwm_m11_must : Cond.instanceMethod m11_must.1 ∈ kT := kin6 182 (by decide +kernel) rfl
theorem kwl_m11_must : Cond.selects m11_must.1.cls m11_must.1 m11_must.1 ∈ kT := kinS 55 (by decide +kernel) rfl
theorem kwc_m11_mustName : kcode m11_mustName ∈ kT := kin6 217 (by decide +kernel) rfl
theorem kwi_m11_mustName : Cond.initialized m11_mustName.1.cls ∈ kT := kin1 12 (by decide +kernel) rfl
theorem kwm_m11_mustName : Cond.instanceMethod m11_mustName.1 ∈ kT := kin6 216 (by decide +kernel) rfl
theorem kwl_m11_mustName : Cond.selects m11_mustName.1.cls m11_mustName.1 m11_mustName.1 ∈ kT := kinS 63 (by decide +kernel) rfl
theorem kwc_m11_find : kcode m11_find ∈ kT := kin6 225 (by decide +kernel) rfl
theorem kwi_m11_find : Cond.initialized m11_find.1.cls ∈ kT := kin1 12 (by decide +kernel) rfl
theorem kwm_m11_find : Cond.instanceMethod m11_find.1 ∈ kT := kin6 224 (by decide +kernel) rfl
theorem kwl_m11_find : Cond.selects m11_find.1.cls m11_find.1 m11_find.1 ∈ kT := kinS 64 (by decide +kernel) rfl
theorem kwc_m11_newName : kcode m11_newName ∈ kT := kin6 213 (by decide +kernel) rfl
theorem kwi_m11_newName : Cond.initialized m11_newName.1.cls ∈ kT := kin1 12 (by decide +kernel) rfl
theorem kwm_m11_newName : Cond.instanceMethod m11_newName.1 ∈ kT := kin6 212 (by decide +kernel) rfl
theorem kwl_m11_newName : Cond.selects m11_newName.1.cls m11_newName.1 m11_newName.1 ∈ kT := kinS 62 (by decide +kernel) rfl
theorem kwc_m11_pairHere : kcode m11_pairHere ∈ kT := kin6 239 (by decide +kernel) rfl
theorem kwi_m11_pairHere : Cond.initialized m11_pairHere.1.cls ∈ kT := kin1 12 (by decide +kernel) rfl
theorem kwm_m11_pairHere : Cond.instanceMethod m11_pairHere.1 ∈ kT := kin6 238 (by decide +kernel) rfl
theorem kwl_m11_pairHere : Cond.selects m11_pairHere.1.cls m11_pairHere.1 m11_pairHere.1 ∈ kT := kinS 66 (by decide +kernel) rfl
theorem kwc_m11_pass : kcode m11_pass ∈ kT := kin6 199 (by decide +kernel) rfl
theorem kwi_m11_pass : Cond.initialized m11_pass.1.cls ∈ kT := kin1 12 (by decide +kernel) rfl
theorem kwm_m11_pass : Cond.instanceMethod m11_pass.1 ∈ kT := kin6 198 (by decide +kernel) rfl
theorem kwl_m11_pass : Cond.selects m11_pass.1.cls m11_pass.1 m11_pass.1 ∈ kT := kinS 59 (by decide +kernel) rfl
theorem kwc_m11_numberHere : kcode m11_numberHere ∈ kT := kin6 195 (by decide +kernel) rfl
theorem kwi_m11_numberHere : Cond.initialized m11_numberHere.1.cls ∈ kT := kin1 12 (by decide +kernel) rfl
theorem kwm_m11_numberHere : Cond.instanceMethod m11_numberHere.1 ∈ kT := kin6 194 (by decide +kernel) rfl
theorem kwl_m11_numberHere : Cond.selects m11_numberHere.1.cls m11_numberHere.1 m11_numberHere.1 ∈ kT := kinS 58 (by decide +kernel) rfl
theorem kwc_m11_number : kcode m11_number ∈ kT := kin6 191 (by decide +kernel) rfl
theorem kwi_m11_number : Cond.initialized m11_number.1.cls ∈ kT := kin1 12 (by decide +kernel) rfl
theorem kwm_m11_number : Cond.instanceMethod m11_number.1 ∈ kT := kin6 190 (by decide +kernel) rfl
theorem kwl_m11_number : Cond.selects m11_number.1.cls m11_number.1 m11_number.1 ∈ kT := kinS 57 (by decide +kernel) rfl
theorem kwc_m11_after : kcode m11_after ∈ kT := kin6 179 (by decide +kernel) rfl
theorem kwi_m11_after : Cond.initialized m11_after.1.cls ∈ kT := kin1 12 (by decide +kernel) rfl
theorem kwm_m11_after : Cond.instanceMethod m11_after.1 ∈ kT := kin6 178 (by decide +kernel) rfl
theorem kwl_m11_after : Cond.selects m11_after.1.cls m11_after.1 m11_after.1 ∈ kT := kinS 54 (by decide +kernel) rfl
theorem kwc_m11_pier : kcode m11_pier ∈ kT := kin6 130 (by decide +kernel) rfl
theorem kwi_m11_pier : Cond.initialized m11_pier.1.cls ∈ kT := kin1 12 (by decide +kernel) rfl
theorem kwm_m11_pier : Cond.instanceMethod m11_pier.1 ∈ kT := kin6 128 (by decide +kernel) rfl
theorem kwl_m11_pier : Cond.selects m11_pier.1.cls m11_pier.1 m11_pier.1 ∈ kT := kin6 129 (by decide +kernel) rfl
theorem kwc_m11_begins : kcode m11_begins ∈ kT := kin6 205 (by decide +kernel) rfl
theorem kwi_m11_begins : Cond.initialized m11_begins.1.cls ∈ kT := kin1 12 (by decide +kernel) rfl
theorem kwm_m11_begins : Cond.instanceMethod m11_begins.1 ∈ kT := kin6 204 (by decide +kernel) rfl
theorem kwl_m11_begins : Cond.selects m11_begins.1.cls m11_begins.1 m11_begins.1 ∈ kT := kinS 60 (by decide +kernel) rfl
theorem kwc_m11_readLine : kcode m11_readLine ∈ kT := kin6 159 (by decide +kernel) rfl
theorem kwi_m11_readLine : Cond.initialized m11_readLine.1.cls ∈ kT := kin1 12 (by decide +kernel) rfl
theorem kwm_m11_readLine : Cond.instanceMethod m11_readLine.1 ∈ kT := kin6 158 (by decide +kernel) rfl
theorem kwl_m11_readLine : Cond.selects m11_readLine.1.cls m11_readLine.1 m11_readLine.1 ∈ kT := kinS 50 (by decide +kernel) rfl
theorem kwc_m11_pierLine : kcode m11_pierLine ∈ kT := kin6 170 (by decide +kernel) rfl
theorem kwi_m11_pierLine : Cond.initialized m11_pierLine.1.cls ∈ kT := kin1 12 (by decide +kernel) rfl
theorem kwm_m11_pierLine : Cond.instanceMethod m11_pierLine.1 ∈ kT := kin6 169 (by decide +kernel) rfl
theorem kwl_m11_pierLine : Cond.selects m11_pierLine.1.cls m11_pierLine.1 m11_pierLine.1 ∈ kT := kinS 52 (by decide +kernel) rfl
theorem kwc_m11_pairLine : kcode m11_pairLine ∈ kT := kin6 209 (by decide +kernel) rfl
theorem kwi_m11_pairLine : Cond.initialized m11_pairLine.1.cls ∈ kT := kin1 12 (by decide +kernel) rfl
theorem kwm_m11_pairLine : Cond.instanceMethod m11_pairLine.1 ∈ kT := kin6 208 (by decide +kernel) rfl
theorem kwl_m11_pairLine : Cond.selects m11_pairLine.1.cls m11_pairLine.1 m11_pairLine.1 ∈ kT := kinS 61 (by decide +kernel) rfl
theorem kwc_m11_contractLine : kcode m11_contractLine ∈ kT := kin6 235 (by decide +kernel) rfl
theorem kwi_m11_contractLine : Cond.initialized m11_contractLine.1.cls ∈ kT := kin1 12 (by decide +kernel) rfl
theorem kwm_m11_contractLine : Cond.instanceMethod m11_contractLine.1 ∈ kT := kin6 234 (by decide +kernel) rfl
theorem kwl_m11_contractLine : Cond.selects m11_contractLine.1.cls m11_contractLine.1 m11_contractLine.1 ∈ kT := kinS 65 (by decide +kernel) rfl
theorem kwc_m11_debtLine : kcode m11_debtLine ∈ kT := kin7 4 (by decide +kernel) rfl
theorem kwi_m11_debtLine : Cond.initialized m11_debtLine.1.cls ∈ kT := kin1 12 (by decide +kernel) rfl
theorem kwm_m11_debtLine : Cond.instanceMethod m11_debtLine.1 ∈ kT := kin7 3 (by decide +kernel) rfl
theorem kwl_m11_debtLine : Cond.selects m11_debtLine.1.cls m11_debtLine.1 m11_debtLine.1 ∈ kT := kinS 67 (by decide +kernel) rfl
theorem kwc_m11_unsureLine : kcode m11_unsureLine ∈ kT := kin7 8 (by decide +kernel) rfl
theorem kwi_m11_unsureLine : Cond.initialized m11_unsureLine.1.cls ∈ kT := kin1 12 (by decide +kernel) rfl
theorem kwm_m11_unsureLine : Cond.instanceMethod m11_unsureLine.1 ∈ kT := kin7 7 (by decide +kernel) rfl
theorem kwl_m11_unsureLine : Cond.selects m11_unsureLine.1.cls m11_unsureLine.1 m11_unsureLine.1 ∈ kT := kinS 68 (by decide +kernel) rfl
theorem kwc_m11_heardLine : kcode m11_heardLine ∈ kT := kin7 12 (by decide +kernel) rfl
theorem kwi_m11_heardLine : Cond.initialized m11_heardLine.1.cls ∈ kT := kin1 12 (by decide +kernel) rfl
theorem kwm_m11_heardLine : Cond.instanceMethod m11_heardLine.1 ∈ kT := kin7 11 (by decide +kernel) rfl
theorem kwl_m11_heardLine : Cond.selects m11_heardLine.1.cls m11_heardLine.1 m11_heardLine.1 ∈ kT := kinS 69 (by decide +kernel) rfl
theorem kwc_m11_fault : kcode m11_fault ∈ kT := kin7 20 (by decide +kernel) rfl
theorem kwi_m11_fault : Cond.initialized m11_fault.1.cls ∈ kT := kin1 12 (by decide +kernel) rfl
theorem kwm_m11_fault : Cond.instanceMethod m11_fault.1 ∈ kT := kin7 18 (by decide +kernel) rfl
theorem kwl_m11_fault : Cond.selects m11_fault.1.cls m11_fault.1 m11_fault.1 ∈ kT := kin7 19 (by decide +kernel) rfl
theorem kwc_m11_where : kcode m11_where ∈ kT := kin7 24 (by decide +kernel) rfl
theorem kwi_m11_where : Cond.initialized m11_where.1.cls ∈ kT := kin1 12 (by decide +kernel) rfl
theorem kwm_m11_where : Cond.instanceMethod m11_where.1 ∈ kT := kin7 22 (by decide +kernel) rfl
theorem kwl_m11_where : Cond.selects m11_where.1.cls m11_where.1 m11_where.1 ∈ kT := kin7 23 (by decide +kernel) rfl
theorem kwc_m11_isPair : kcode m11_isPair ∈ kT := kin7 32 (by decide +kernel) rfl
theorem kwi_m11_isPair : Cond.initialized m11_isPair.1.cls ∈ kT := kin1 12 (by decide +kernel) rfl
theorem kwm_m11_isPair : Cond.instanceMethod m11_isPair.1 ∈ kT := kin7 31 (by decide +kernel) rfl
theorem kwl_m11_isPair : Cond.selects m11_isPair.1.cls m11_isPair.1 m11_isPair.1 ∈ kT := kinS 70 (by decide +kernel) rfl
theorem kwc_m11_areTwo : kcode m11_areTwo ∈ kT := kin7 125 (by decide +kernel) rfl
theorem kwi_m11_areTwo : Cond.initialized m11_areTwo.1.cls ∈ kT := kin1 12 (by decide +kernel) rfl
theorem kwm_m11_areTwo : Cond.instanceMethod m11_areTwo.1 ∈ kT := kin7 124 (by decide +kernel) rfl
theorem kwl_m11_areTwo : Cond.selects m11_areTwo.1.cls m11_areTwo.1 m11_areTwo.1 ∈ kT := kinS 82 (by decide +kernel) rfl
theorem kwc_m11_why : kcode m11_why ∈ kT := kin7 48 (by decide +kernel) rfl
theorem kwi_m11_why : Cond.initialized m11_why.1.cls ∈ kT := kin1 12 (by decide +kernel) rfl
theorem kwm_m11_why : Cond.instanceMethod m11_why.1 ∈ kT := kin7 47 (by decide +kernel) rfl
theorem kwl_m11_why : Cond.selects m11_why.1.cls m11_why.1 m11_why.1 ∈ kT := kinS 73 (by decide +kernel) rfl
theorem kwc_m11_within : kcode m11_within ∈ kT := kin7 68 (by decide +kernel) rfl
theorem kwi_m11_within : Cond.initialized m11_within.1.cls ∈ kT := kin1 12 (by decide +kernel) rfl
theorem kwm_m11_within : Cond.instanceMethod m11_within.1 ∈ kT := kin7 67 (by decide +kernel) rfl
theorem kwl_m11_within : Cond.selects m11_within.1.cls m11_within.1 m11_within.1 ∈ kT := kinS 78 (by decide +kernel) rfl
theorem kwc_m11_byLaw : kcode m11_byLaw ∈ kT := kin7 64 (by decide +kernel) rfl
theorem kwi_m11_byLaw : Cond.initialized m11_byLaw.1.cls ∈ kT := kin1 12 (by decide +kernel) rfl
theorem kwm_m11_byLaw : Cond.instanceMethod m11_byLaw.1 ∈ kT := kin7 63 (by decide +kernel) rfl
theorem kwl_m11_byLaw : Cond.selects m11_byLaw.1.cls m11_byLaw.1 m11_byLaw.1 ∈ kT := kinS 77 (by decide +kernel) rfl
theorem kwc_m11_behind : kcode m11_behind ∈ kT := kin7 60 (by decide +kernel) rfl
theorem kwi_m11_behind : Cond.initialized m11_behind.1.cls ∈ kT := kin1 12 (by decide +kernel) rfl
theorem kwm_m11_behind : Cond.instanceMethod m11_behind.1 ∈ kT := kin7 59 (by decide +kernel) rfl
theorem kwl_m11_behind : Cond.selects m11_behind.1.cls m11_behind.1 m11_behind.1 ∈ kT := kinS 76 (by decide +kernel) rfl
theorem kwc_m11_isMore : kcode m11_isMore ∈ kT := kin7 36 (by decide +kernel) rfl
theorem kwi_m11_isMore : Cond.initialized m11_isMore.1.cls ∈ kT := kin1 12 (by decide +kernel) rfl
theorem kwm_m11_isMore : Cond.instanceMethod m11_isMore.1 ∈ kT := kin7 35 (by decide +kernel) rfl
theorem kwl_m11_isMore : Cond.selects m11_isMore.1.cls m11_isMore.1 m11_isMore.1 ∈ kT := kinS 71 (by decide +kernel) rfl
theorem kwc_m11_saysBy : kcode m11_saysBy ∈ kT := kin7 56 (by decide +kernel) rfl
theorem kwi_m11_saysBy : Cond.initialized m11_saysBy.1.cls ∈ kT := kin1 12 (by decide +kernel) rfl
theorem kwm_m11_saysBy : Cond.instanceMethod m11_saysBy.1 ∈ kT := kin7 55 (by decide +kernel) rfl
theorem kwl_m11_saysBy : Cond.selects m11_saysBy.1.cls m11_saysBy.1 m11_saysBy.1 ∈ kT := kinS 75 (by decide +kernel) rfl
theorem kwc_m11_saysIn : kcode m11_saysIn ∈ kT := kin7 52 (by decide +kernel) rfl
theorem kwi_m11_saysIn : Cond.initialized m11_saysIn.1.cls ∈ kT := kin1 12 (by decide +kernel) rfl
theorem kwm_m11_saysIn : Cond.instanceMethod m11_saysIn.1 ∈ kT := kin7 51 (by decide +kernel) rfl
theorem kwl_m11_saysIn : Cond.selects m11_saysIn.1.cls m11_saysIn.1 m11_saysIn.1 ∈ kT := kinS 74 (by decide +kernel) rfl
theorem kwc_m11_goRound : kcode m11_goRound ∈ kT := kin7 88 (by decide +kernel) rfl
theorem kwi_m11_goRound : Cond.initialized m11_goRound.1.cls ∈ kT := kin1 12 (by decide +kernel) rfl
theorem kwm_m11_goRound : Cond.instanceMethod m11_goRound.1 ∈ kT := kin7 87 (by decide +kernel) rfl
theorem kwl_m11_goRound : Cond.selects m11_goRound.1.cls m11_goRound.1 m11_goRound.1 ∈ kT := kinS 79 (by decide +kernel) rfl
theorem kwc_m11_isRoundOf : kcode m11_isRoundOf ∈ kT := kin7 92 (by decide +kernel) rfl
theorem kwi_m11_isRoundOf : Cond.initialized m11_isRoundOf.1.cls ∈ kT := kin1 12 (by decide +kernel) rfl
theorem kwm_m11_isRoundOf : Cond.instanceMethod m11_isRoundOf.1 ∈ kT := kin7 91 (by decide +kernel) rfl
theorem kwl_m11_isRoundOf : Cond.selects m11_isRoundOf.1.cls m11_isRoundOf.1 m11_isRoundOf.1 ∈ kT := kinS 80 (by decide +kernel) rfl
theorem kwc_m11_pair : kcode m11_pair ∈ kT := kin7 28 (by decide +kernel) rfl
theorem kwi_m11_pair : Cond.initialized m11_pair.1.cls ∈ kT := kin1 12 (by decide +kernel) rfl
theorem kwm_m11_pair : Cond.instanceMethod m11_pair.1 ∈ kT := kin7 26 (by decide +kernel) rfl
theorem kwl_m11_pair : Cond.selects m11_pair.1.cls m11_pair.1 m11_pair.1 ∈ kT := kin7 27 (by decide +kernel) rfl
theorem kwc_m11_aheadWhy : kcode m11_aheadWhy ∈ kT := kin7 44 (by decide +kernel) rfl
theorem kwi_m11_aheadWhy : Cond.initialized m11_aheadWhy.1.cls ∈ kT := kin1 12 (by decide +kernel) rfl
theorem kwm_m11_aheadWhy : Cond.instanceMethod m11_aheadWhy.1 ∈ kT := kin7 43 (by decide +kernel) rfl
theorem kwl_m11_aheadWhy : Cond.selects m11_aheadWhy.1.cls m11_aheadWhy.1 m11_aheadWhy.1 ∈ kT := kinS 72 (by decide +kernel) rfl
theorem kwc_m11_says : kcode m11_says ∈ kT := kin7 40 (by decide +kernel) rfl
theorem kwi_m11_says : Cond.initialized m11_says.1.cls ∈ kT := kin1 12 (by decide +kernel) rfl
theorem kwm_m11_says : Cond.instanceMethod m11_says.1 ∈ kT := kin7 38 (by decide +kernel) rfl
theorem kwl_m11_says : Cond.selects m11_says.1.cls m11_says.1 m11_says.1 ∈ kT := kin7 39 (by decide +kernel) rfl
theorem kwc_m11_saysAll : kcode m11_saysAll ∈ kT := kin7 72 (by decide +kernel) rfl
theorem kwi_m11_saysAll : Cond.initialized m11_saysAll.1.cls ∈ kT := kin1 12 (by decide +kernel) rfl
theorem kwm_m11_saysAll : Cond.instanceMethod m11_saysAll.1 ∈ kT := kin7 70 (by decide +kernel) rfl
theorem kwl_m11_saysAll : Cond.selects m11_saysAll.1.cls m11_saysAll.1 m11_saysAll.1 ∈ kT := kin7 71 (by decide +kernel) rfl
theorem kwc_m11_moreIn : kcode m11_moreIn ∈ kT := kin7 76 (by decide +kernel) rfl
theorem kwi_m11_moreIn : Cond.initialized m11_moreIn.1.cls ∈ kT := kin1 12 (by decide +kernel) rfl
theorem kwm_m11_moreIn : Cond.instanceMethod m11_moreIn.1 ∈ kT := kin7 74 (by decide +kernel) rfl
theorem kwl_m11_moreIn : Cond.selects m11_moreIn.1.cls m11_moreIn.1 m11_moreIn.1 ∈ kT := kin7 75 (by decide +kernel) rfl
theorem kwc_m11_moreTimes : kcode m11_moreTimes ∈ kT := kin7 80 (by decide +kernel) rfl
theorem kwi_m11_moreTimes : Cond.initialized m11_moreTimes.1.cls ∈ kT := kin1 12 (by decide +kernel) rfl
theorem kwm_m11_moreTimes : Cond.instanceMethod m11_moreTimes.1 ∈ kT := kin7 78 (by decide +kernel) rfl
theorem kwl_m11_moreTimes : Cond.selects m11_moreTimes.1.cls m11_moreTimes.1 m11_moreTimes.1 ∈ kT := kin7 79 (by decide +kernel) rfl
theorem kwc_m11_settles : kcode m11_settles ∈ kT := kin7 84 (by decide +kernel) rfl
theorem kwi_m11_settles : Cond.initialized m11_settles.1.cls ∈ kT := kin1 12 (by decide +kernel) rfl
theorem kwm_m11_settles : Cond.instanceMethod m11_settles.1 ∈ kT := kin7 82 (by decide +kernel) rfl
theorem kwl_m11_settles : Cond.selects m11_settles.1.cls m11_settles.1 m11_settles.1 ∈ kT := kin7 83 (by decide +kernel) rfl
theorem kwc_m11_round : kcode m11_round ∈ kT := kin7 96 (by decide +kernel) rfl
theorem kwi_m11_round : Cond.initialized m11_round.1.cls ∈ kT := kin1 12 (by decide +kernel) rfl
theorem kwm_m11_round : Cond.instanceMethod m11_round.1 ∈ kT := kin7 94 (by decide +kernel) rfl
theorem kwl_m11_round : Cond.selects m11_round.1.cls m11_round.1 m11_round.1 ∈ kT := kin7 95 (by decide +kernel) rfl
theorem kwc_m11_saysLate : kcode m11_saysLate ∈ kT := kin7 100 (by decide +kernel) rfl
theorem kwi_m11_saysLate : Cond.initialized m11_saysLate.1.cls ∈ kT := kin1 12 (by decide +kernel) rfl
theorem kwm_m11_saysLate : Cond.instanceMethod m11_saysLate.1 ∈ kT := kin7 98 (by decide +kernel) rfl
theorem kwl_m11_saysLate : Cond.selects m11_saysLate.1.cls m11_saysLate.1 m11_saysLate.1 ∈ kT := kin7 99 (by decide +kernel) rfl
theorem kwc_m11_extremeOf : kcode m11_extremeOf ∈ kT := kin7 109 (by decide +kernel) rfl
theorem kwi_m11_extremeOf : Cond.initialized m11_extremeOf.1.cls ∈ kT := kin1 12 (by decide +kernel) rfl
theorem kwm_m11_extremeOf : Cond.instanceMethod m11_extremeOf.1 ∈ kT := kin7 108 (by decide +kernel) rfl
theorem kwl_m11_extremeOf : Cond.selects m11_extremeOf.1.cls m11_extremeOf.1 m11_extremeOf.1 ∈ kT := kinS 81 (by decide +kernel) rfl
theorem kwc_m11_roundMost : kcode m11_roundMost ∈ kT := kin7 105 (by decide +kernel) rfl
theorem kwi_m11_roundMost : Cond.initialized m11_roundMost.1.cls ∈ kT := kin1 12 (by decide +kernel) rfl
theorem kwm_m11_roundMost : Cond.instanceMethod m11_roundMost.1 ∈ kT := kin7 103 (by decide +kernel) rfl
theorem kwl_m11_roundMost : Cond.selects m11_roundMost.1.cls m11_roundMost.1 m11_roundMost.1 ∈ kT := kin7 104 (by decide +kernel) rfl
theorem kwc_m11_roundLeast : kcode m11_roundLeast ∈ kT := kin7 113 (by decide +kernel) rfl
theorem kwi_m11_roundLeast : Cond.initialized m11_roundLeast.1.cls ∈ kT := kin1 12 (by decide +kernel) rfl
theorem kwm_m11_roundLeast : Cond.instanceMethod m11_roundLeast.1 ∈ kT := kin7 111 (by decide +kernel) rfl
theorem kwl_m11_roundLeast : Cond.selects m11_roundLeast.1.cls m11_roundLeast.1 m11_roundLeast.1 ∈ kT := kin7 112 (by decide +kernel) rfl
theorem kwc_m11_turnsAbout : kcode m11_turnsAbout ∈ kT := kin7 117 (by decide +kernel) rfl
theorem kwi_m11_turnsAbout : Cond.initialized m11_turnsAbout.1.cls ∈ kT := kin1 12 (by decide +kernel) rfl
theorem kwm_m11_turnsAbout : Cond.instanceMethod m11_turnsAbout.1 ∈ kT := kin7 115 (by decide +kernel) rfl
theorem kwl_m11_turnsAbout : Cond.selects m11_turnsAbout.1.cls m11_turnsAbout.1 m11_turnsAbout.1 ∈ kT := kin7 116 (by decide +kernel) rfl
theorem kwc_m11_alikeIn : kcode m11_alikeIn ∈ kT := kin7 121 (by decide +kernel) rfl
theorem kwi_m11_alikeIn : Cond.initialized m11_alikeIn.1.cls ∈ kT := kin1 12 (by decide +kernel) rfl
theorem kwm_m11_alikeIn : Cond.instanceMethod m11_alikeIn.1 ∈ kT := kin7 119 (by decide +kernel) rfl
theorem kwl_m11_alikeIn : Cond.selects m11_alikeIn.1.cls m11_alikeIn.1 m11_alikeIn.1 ∈ kT := kin7 120 (by decide +kernel) rfl
theorem kwc_m11_loudest : kcode m11_loudest ∈ kT := kin7 129 (by decide +kernel) rfl
theorem kwi_m11_loudest : Cond.initialized m11_loudest.1.cls ∈ kT := kin1 12 (by decide +kernel) rfl
theorem kwm_m11_loudest : Cond.instanceMethod m11_loudest.1 ∈ kT := kin7 127 (by decide +kernel) rfl
theorem kwl_m11_loudest : Cond.selects m11_loudest.1.cls m11_loudest.1 m11_loudest.1 ∈ kT := kin7 128 (by decide +kernel) rfl
theorem kwc_m11_mastersIn : kcode m11_mastersIn ∈ kT := kin7 137 (by decide +kernel) rfl
theorem kwi_m11_mastersIn : Cond.initialized m11_mastersIn.1.cls ∈ kT := kin1 12 (by decide +kernel) rfl
theorem kwm_m11_mastersIn : Cond.instanceMethod m11_mastersIn.1 ∈ kT := kin7 136 (by decide +kernel) rfl
theorem kwl_m11_mastersIn : Cond.selects m11_mastersIn.1.cls m11_mastersIn.1 m11_mastersIn.1 ∈ kT := kinS 83 (by decide +kernel) rfl
theorem kwc_m11_masters : kcode m11_masters ∈ kT := kin7 133 (by decide +kernel) rfl
theorem kwi_m11_masters : Cond.initialized m11_masters.1.cls ∈ kT := kin1 12 (by decide +kernel) rfl
theorem kwm_m11_masters : Cond.instanceMethod m11_masters.1 ∈ kT := kin7 131 (by decide +kernel) rfl
theorem kwl_m11_masters : Cond.selects m11_masters.1.cls m11_masters.1 m11_masters.1 ∈ kT := kin7 132 (by decide +kernel) rfl
theorem kwc_m11_overtakes : kcode m11_overtakes ∈ kT := kin7 141 (by decide +kernel) rfl
theorem kwi_m11_overtakes : Cond.initialized m11_overtakes.1.cls ∈ kT := kin1 12 (by decide +kernel) rfl
theorem kwm_m11_overtakes : Cond.instanceMethod m11_overtakes.1 ∈ kT := kin7 139 (by decide +kernel) rfl
theorem kwl_m11_overtakes : Cond.selects m11_overtakes.1.cls m11_overtakes.1 m11_overtakes.1 ∈ kT := kin7 140 (by decide +kernel) rfl
theorem kwc_m11_widest : kcode m11_widest ∈ kT := kin7 145 (by decide +kernel) rfl
theorem kwi_m11_widest : Cond.initialized m11_widest.1.cls ∈ kT := kin1 12 (by decide +kernel) rfl
theorem kwm_m11_widest : Cond.instanceMethod m11_widest.1 ∈ kT := kin7 143 (by decide +kernel) rfl
theorem kwl_m11_widest : Cond.selects m11_widest.1.cls m11_widest.1 m11_widest.1 ∈ kT := kin7 144 (by decide +kernel) rfl
theorem kwc_m11_sumAll : kcode m11_sumAll ∈ kT := kin7 149 (by decide +kernel) rfl
theorem kwi_m11_sumAll : Cond.initialized m11_sumAll.1.cls ∈ kT := kin1 12 (by decide +kernel) rfl
theorem kwm_m11_sumAll : Cond.instanceMethod m11_sumAll.1 ∈ kT := kin7 147 (by decide +kernel) rfl
theorem kwl_m11_sumAll : Cond.selects m11_sumAll.1.cls m11_sumAll.1 m11_sumAll.1 ∈ kT := kin7 148 (by decide +kernel) rfl
theorem kwc_m11_bestEvery : kcode m11_bestEvery ∈ kT := kin7 157 (by decide +kernel) rfl
theorem kwi_m11_bestEvery : Cond.initialized m11_bestEvery.1.cls ∈ kT := kin1 12 (by decide +kernel) rfl
theorem kwm_m11_bestEvery : Cond.instanceMethod m11_bestEvery.1 ∈ kT := kin7 156 (by decide +kernel) rfl
theorem kwl_m11_bestEvery : Cond.selects m11_bestEvery.1.cls m11_bestEvery.1 m11_bestEvery.1 ∈ kT := kinS 84 (by decide +kernel) rfl
theorem kwc_m11_everyFor : kcode m11_everyFor ∈ kT := kin7 153 (by decide +kernel) rfl
theorem kwi_m11_everyFor : Cond.initialized m11_everyFor.1.cls ∈ kT := kin1 12 (by decide +kernel) rfl
theorem kwm_m11_everyFor : Cond.instanceMethod m11_everyFor.1 ∈ kT := kin7 151 (by decide +kernel) rfl
theorem kwl_m11_everyFor : Cond.selects m11_everyFor.1.cls m11_everyFor.1 m11_everyFor.1 ∈ kT := kin7 152 (by decide +kernel) rfl
theorem kwc_m11_everySays : kcode m11_everySays ∈ kT := kin7 161 (by decide +kernel) rfl
theorem kwi_m11_everySays : Cond.initialized m11_everySays.1.cls ∈ kT := kin1 12 (by decide +kernel) rfl
theorem kwm_m11_everySays : Cond.instanceMethod m11_everySays.1 ∈ kT := kin7 159 (by decide +kernel) rfl
theorem kwl_m11_everySays : Cond.selects m11_everySays.1.cls m11_everySays.1 m11_everySays.1 ∈ kT := kin7 160 (by decide +kernel) rfl
theorem kwc_m11_isNeverMore : kcode m11_isNeverMore ∈ kT := kin7 169 (by decide +kernel) rfl
theorem kwi_m11_isNeverMore : Cond.initialized m11_isNeverMore.1.cls ∈ kT := kin1 12 (by decide +kernel) rfl
theorem kwm_m11_isNeverMore : Cond.instanceMethod m11_isNeverMore.1 ∈ kT := kin7 168 (by decide +kernel) rfl
theorem kwl_m11_isNeverMore : Cond.selects m11_isNeverMore.1.cls m11_isNeverMore.1 m11_isNeverMore.1 ∈ kT := kinS 85 (by decide +kernel) rfl
theorem kwc_m11_everyNever : kcode m11_everyNever ∈ kT := kin7 165 (by decide +kernel) rfl
theorem kwi_m11_everyNever : Cond.initialized m11_everyNever.1.cls ∈ kT := kin1 12 (by decide +kernel) rfl
theorem kwm_m11_everyNever : Cond.instanceMethod m11_everyNever.1 ∈ kT := kin7 163 (by decide +kernel) rfl
theorem kwl_m11_everyNever : Cond.selects m11_everyNever.1.cls m11_everyNever.1 m11_everyNever.1 ∈ kT := kin7 164 (by decide +kernel) rfl
theorem kwc_m11_stepFor : kcode m11_stepFor ∈ kT := kin7 173 (by decide +kernel) rfl
theorem kwi_m11_stepFor : Cond.initialized m11_stepFor.1.cls ∈ kT := kin1 12 (by decide +kernel) rfl
theorem kwm_m11_stepFor : Cond.instanceMethod m11_stepFor.1 ∈ kT := kin7 171 (by decide +kernel) rfl
theorem kwl_m11_stepFor : Cond.selects m11_stepFor.1.cls m11_stepFor.1 m11_stepFor.1 ∈ kT := kin7 172 (by decide +kernel) rfl
theorem kwc_m11_stepBy : kcode m11_stepBy ∈ kT := kin7 193 (by decide +kernel) rfl
theorem kwi_m11_stepBy : Cond.initialized m11_stepBy.1.cls ∈ kT := kin1 12 (by decide +kernel) rfl
theorem kwm_m11_stepBy : Cond.instanceMethod m11_stepBy.1 ∈ kT := kin7 192 (by decide +kernel) rfl
theorem kwl_m11_stepBy : Cond.selects m11_stepBy.1.cls m11_stepBy.1 m11_stepBy.1 ∈ kT := kinS 89 (by decide +kernel) rfl
theorem kwc_m11_saidThen : kcode m11_saidThen ∈ kT := kin7 189 (by decide +kernel) rfl
theorem kwi_m11_saidThen : Cond.initialized m11_saidThen.1.cls ∈ kT := kin1 12 (by decide +kernel) rfl
theorem kwm_m11_saidThen : Cond.instanceMethod m11_saidThen.1 ∈ kT := kin7 188 (by decide +kernel) rfl
theorem kwl_m11_saidThen : Cond.selects m11_saidThen.1.cls m11_saidThen.1 m11_saidThen.1 ∈ kT := kinS 88 (by decide +kernel) rfl
theorem kwc_m11_wrongBy : kcode m11_wrongBy ∈ kT := kin7 185 (by decide +kernel) rfl
theorem kwi_m11_wrongBy : Cond.initialized m11_wrongBy.1.cls ∈ kT := kin1 12 (by decide +kernel) rfl
theorem kwm_m11_wrongBy : Cond.instanceMethod m11_wrongBy.1 ∈ kT := kin7 184 (by decide +kernel) rfl
theorem kwl_m11_wrongBy : Cond.selects m11_wrongBy.1.cls m11_wrongBy.1 m11_wrongBy.1 ∈ kT := kinS 87 (by decide +kernel) rfl
theorem kwc_m11_seekSets : kcode m11_seekSets ∈ kT := kin7 181 (by decide +kernel) rfl
theorem kwi_m11_seekSets : Cond.initialized m11_seekSets.1.cls ∈ kT := kin1 12 (by decide +kernel) rfl
theorem kwm_m11_seekSets : Cond.instanceMethod m11_seekSets.1 ∈ kT := kin7 180 (by decide +kernel) rfl
theorem kwl_m11_seekSets : Cond.selects m11_seekSets.1.cls m11_seekSets.1 m11_seekSets.1 ∈ kT := kinS 86 (by decide +kernel) rfl
theorem kwc_m11_fits : kcode m11_fits ∈ kT := kin7 177 (by decide +kernel) rfl
theorem kwi_m11_fits : Cond.initialized m11_fits.1.cls ∈ kT := kin1 12 (by decide +kernel) rfl
theorem kwm_m11_fits : Cond.instanceMethod m11_fits.1 ∈ kT := kin7 175 (by decide +kernel) rfl
theorem kwl_m11_fits : Cond.selects m11_fits.1.cls m11_fits.1 m11_fits.1 ∈ kT := kin7 176 (by decide +kernel) rfl
theorem kwc_m11_fitAt : kcode m11_fitAt ∈ kT := kin7 200 (by decide +kernel) rfl
theorem kwi_m11_fitAt : Cond.initialized m11_fitAt.1.cls ∈ kT := kin1 12 (by decide +kernel) rfl
theorem kwm_m11_fitAt : Cond.instanceMethod m11_fitAt.1 ∈ kT := kin7 198 (by decide +kernel) rfl
theorem kwl_m11_fitAt : Cond.selects m11_fitAt.1.cls m11_fitAt.1 m11_fitAt.1 ∈ kT := kin7 199 (by decide +kernel) rfl
theorem kwc_m11_could : kcode m11_could ∈ kT := kin7 204 (by decide +kernel) rfl
theorem kwi_m11_could : Cond.initialized m11_could.1.cls ∈ kT := kin1 12 (by decide +kernel) rfl
theorem kwm_m11_could : Cond.instanceMethod m11_could.1 ∈ kT := kin7 202 (by decide +kernel) rfl
theorem kwl_m11_could : Cond.selects m11_could.1.cls m11_could.1 m11_could.1 ∈ kT := kin7 203 (by decide +kernel) rfl
theorem kwc_m11_surely : kcode m11_surely ∈ kT := kin7 208 (by decide +kernel) rfl
theorem kwi_m11_surely : Cond.initialized m11_surely.1.cls ∈ kT := kin1 12 (by decide +kernel) rfl
theorem kwm_m11_surely : Cond.instanceMethod m11_surely.1 ∈ kT := kin7 206 (by decide +kernel) rfl
theorem kwl_m11_surely : Cond.selects m11_surely.1.cls m11_surely.1 m11_surely.1 ∈ kT := kin7 207 (by decide +kernel) rfl
theorem kwc_m11_leavesOf : kcode m11_leavesOf ∈ kT := kin7 220 (by decide +kernel) rfl
theorem kwi_m11_leavesOf : Cond.initialized m11_leavesOf.1.cls ∈ kT := kin1 12 (by decide +kernel) rfl
theorem kwm_m11_leavesOf : Cond.instanceMethod m11_leavesOf.1 ∈ kT := kin7 219 (by decide +kernel) rfl
theorem kwl_m11_leavesOf : Cond.selects m11_leavesOf.1.cls m11_leavesOf.1 m11_leavesOf.1 ∈ kT := kinS 91 (by decide +kernel) rfl
theorem kwc_m11_askOf : kcode m11_askOf ∈ kT := kin7 216 (by decide +kernel) rfl
theorem kwi_m11_askOf : Cond.initialized m11_askOf.1.cls ∈ kT := kin1 12 (by decide +kernel) rfl
theorem kwm_m11_askOf : Cond.instanceMethod m11_askOf.1 ∈ kT := kin7 215 (by decide +kernel) rfl
theorem kwl_m11_askOf : Cond.selects m11_askOf.1.cls m11_askOf.1 m11_askOf.1 ∈ kT := kinS 90 (by decide +kernel) rfl
theorem kwc_m11_ask : kcode m11_ask ∈ kT := kin7 212 (by decide +kernel) rfl
theorem kwi_m11_ask : Cond.initialized m11_ask.1.cls ∈ kT := kin1 12 (by decide +kernel) rfl
theorem kwm_m11_ask : Cond.instanceMethod m11_ask.1 ∈ kT := kin7 210 (by decide +kernel) rfl
theorem kwl_m11_ask : Cond.selects m11_ask.1.cls m11_ask.1 m11_ask.1 ∈ kT := kin7 211 (by decide +kernel) rfl
theorem kwc_m11_askLeaves : kcode m11_askLeaves ∈ kT := kin7 224 (by decide +kernel) rfl
theorem kwi_m11_askLeaves : Cond.initialized m11_askLeaves.1.cls ∈ kT := kin1 12 (by decide +kernel) rfl
theorem kwm_m11_askLeaves : Cond.instanceMethod m11_askLeaves.1 ∈ kT := kin7 222 (by decide +kernel) rfl
theorem kwl_m11_askLeaves : Cond.selects m11_askLeaves.1.cls m11_askLeaves.1 m11_askLeaves.1 ∈ kT := kin7 223 (by decide +kernel) rfl
theorem kwc_m11_judge : kcode m11_judge ∈ kT := kin7 228 (by decide +kernel) rfl
theorem kwi_m11_judge : Cond.initialized m11_judge.1.cls ∈ kT := kin1 12 (by decide +kernel) rfl
theorem kwm_m11_judge : Cond.instanceMethod m11_judge.1 ∈ kT := kin7 226 (by decide +kernel) rfl
theorem kwl_m11_judge : Cond.selects m11_judge.1.cls m11_judge.1 m11_judge.1 ∈ kT := kin7 227 (by decide +kernel) rfl
theorem kwc_m11_third : kcode m11_third ∈ kT := kin7 232 (by decide +kernel) rfl
theorem kwi_m11_third : Cond.initialized m11_third.1.cls ∈ kT := kin1 12 (by decide +kernel) rfl
theorem kwm_m11_third : Cond.instanceMethod m11_third.1 ∈ kT := kin7 230 (by decide +kernel) rfl
theorem kwl_m11_third : Cond.selects m11_third.1.cls m11_third.1 m11_third.1 ∈ kT := kin7 231 (by decide +kernel) rfl
theorem kwc_m11_debtOf : kcode m11_debtOf ∈ kT := kin8 0 (by decide +kernel) rfl
theorem kwi_m11_debtOf : Cond.initialized m11_debtOf.1.cls ∈ kT := kin1 12 (by decide +kernel) rfl
theorem kwm_m11_debtOf : Cond.instanceMethod m11_debtOf.1 ∈ kT := kin7 239 (by decide +kernel) rfl
theorem kwl_m11_debtOf : Cond.selects m11_debtOf.1.cls m11_debtOf.1 m11_debtOf.1 ∈ kT := kinS 92 (by decide +kernel) rfl
theorem kwc_m11_netOf : kcode m11_netOf ∈ kT := kin8 8 (by decide +kernel) rfl
theorem kwi_m11_netOf : Cond.initialized m11_netOf.1.cls ∈ kT := kin1 12 (by decide +kernel) rfl
theorem kwm_m11_netOf : Cond.instanceMethod m11_netOf.1 ∈ kT := kin8 7 (by decide +kernel) rfl
theorem kwl_m11_netOf : Cond.selects m11_netOf.1.cls m11_netOf.1 m11_netOf.1 ∈ kT := kinS 93 (by decide +kernel) rfl
theorem kwc_m11_owes : kcode m11_owes ∈ kT := kin7 236 (by decide +kernel) rfl
theorem kwi_m11_owes : Cond.initialized m11_owes.1.cls ∈ kT := kin1 12 (by decide +kernel) rfl
theorem kwm_m11_owes : Cond.instanceMethod m11_owes.1 ∈ kT := kin7 234 (by decide +kernel) rfl
theorem kwl_m11_owes : Cond.selects m11_owes.1.cls m11_owes.1 m11_owes.1 ∈ kT := kin7 235 (by decide +kernel) rfl
theorem kwc_m11_net : kcode m11_net ∈ kT := kin8 4 (by decide +kernel) rfl
theorem kwi_m11_net : Cond.initialized m11_net.1.cls ∈ kT := kin1 12 (by decide +kernel) rfl
theorem kwm_m11_net : Cond.instanceMethod m11_net.1 ∈ kT := kin8 2 (by decide +kernel) rfl
theorem kwl_m11_net : Cond.selects m11_net.1.cls m11_net.1 m11_net.1 ∈ kT := kin8 3 (by decide +kernel) rfl
theorem kwc_m11_due : kcode m11_due ∈ kT := kin8 13 (by decide +kernel) rfl
theorem kwi_m11_due : Cond.initialized m11_due.1.cls ∈ kT := kin1 12 (by decide +kernel) rfl
theorem kwm_m11_due : Cond.instanceMethod m11_due.1 ∈ kT := kin8 11 (by decide +kernel) rfl
theorem kwl_m11_due : Cond.selects m11_due.1.cls m11_due.1 m11_due.1 ∈ kT := kin8 12 (by decide +kernel) rfl
theorem kwc_m11_creditor : kcode m11_creditor ∈ kT := kin8 17 (by decide +kernel) rfl
theorem kwi_m11_creditor : Cond.initialized m11_creditor.1.cls ∈ kT := kin1 12 (by decide +kernel) rfl
theorem kwm_m11_creditor : Cond.instanceMethod m11_creditor.1 ∈ kT := kin8 15 (by decide +kernel) rfl
theorem kwl_m11_creditor : Cond.selects m11_creditor.1.cls m11_creditor.1 m11_creditor.1 ∈ kT := kin8 16 (by decide +kernel) rfl
theorem kwc_m11_netsOf : kcode m11_netsOf ∈ kT := kin8 32 (by decide +kernel) rfl
theorem kwi_m11_netsOf : Cond.initialized m11_netsOf.1.cls ∈ kT := kin1 12 (by decide +kernel) rfl
theorem kwm_m11_netsOf : Cond.instanceMethod m11_netsOf.1 ∈ kT := kin8 31 (by decide +kernel) rfl
theorem kwl_m11_netsOf : Cond.selects m11_netsOf.1.cls m11_netsOf.1 m11_netsOf.1 ∈ kT := kinS 95 (by decide +kernel) rfl
theorem kwc_m11_groupsOf : kcode m11_groupsOf ∈ kT := kin8 28 (by decide +kernel) rfl
theorem kwi_m11_groupsOf : Cond.initialized m11_groupsOf.1.cls ∈ kT := kin1 12 (by decide +kernel) rfl
theorem kwm_m11_groupsOf : Cond.instanceMethod m11_groupsOf.1 ∈ kT := kin8 27 (by decide +kernel) rfl
theorem kwl_m11_groupsOf : Cond.selects m11_groupsOf.1.cls m11_groupsOf.1 m11_groupsOf.1 ∈ kT := kinS 94 (by decide +kernel) rfl
theorem kwc_m11_payments : kcode m11_payments ∈ kT := kin8 21 (by decide +kernel) rfl
theorem kwi_m11_payments : Cond.initialized m11_payments.1.cls ∈ kT := kin1 12 (by decide +kernel) rfl
theorem kwm_m11_payments : Cond.instanceMethod m11_payments.1 ∈ kT := kin8 19 (by decide +kernel) rfl
theorem kwl_m11_payments : Cond.selects m11_payments.1.cls m11_payments.1 m11_payments.1 ∈ kT := kin8 20 (by decide +kernel) rfl
theorem kwc_m11_tryRing : kcode m11_tryRing ∈ kT := kin8 45 (by decide +kernel) rfl
theorem kwi_m11_tryRing : Cond.initialized m11_tryRing.1.cls ∈ kT := kin1 12 (by decide +kernel) rfl
theorem kwm_m11_tryRing : Cond.instanceMethod m11_tryRing.1 ∈ kT := kin8 44 (by decide +kernel) rfl
theorem kwl_m11_tryRing : Cond.selects m11_tryRing.1.cls m11_tryRing.1 m11_tryRing.1 ∈ kT := kinS 97 (by decide +kernel) rfl
theorem kwc_m11_seekRing : kcode m11_seekRing ∈ kT := kin8 40 (by decide +kernel) rfl
theorem kwi_m11_seekRing : Cond.initialized m11_seekRing.1.cls ∈ kT := kin1 12 (by decide +kernel) rfl
theorem kwm_m11_seekRing : Cond.instanceMethod m11_seekRing.1 ∈ kT := kin8 39 (by decide +kernel) rfl
theorem kwl_m11_seekRing : Cond.selects m11_seekRing.1.cls m11_seekRing.1 m11_seekRing.1 ∈ kT := kinS 96 (by decide +kernel) rfl
theorem kwc_m11_ring : kcode m11_ring ∈ kT := kin8 36 (by decide +kernel) rfl
theorem kwi_m11_ring : Cond.initialized m11_ring.1.cls ∈ kT := kin1 12 (by decide +kernel) rfl
theorem kwm_m11_ring : Cond.instanceMethod m11_ring.1 ∈ kT := kin8 34 (by decide +kernel) rfl
theorem kwl_m11_ring : Cond.selects m11_ring.1.cls m11_ring.1 m11_ring.1 ∈ kT := kin8 35 (by decide +kernel) rfl
theorem kwc_m11_ringAt : kcode m11_ringAt ∈ kT := kin8 49 (by decide +kernel) rfl
theorem kwi_m11_ringAt : Cond.initialized m11_ringAt.1.cls ∈ kT := kin1 12 (by decide +kernel) rfl
theorem kwm_m11_ringAt : Cond.instanceMethod m11_ringAt.1 ∈ kT := kin8 47 (by decide +kernel) rfl
theorem kwl_m11_ringAt : Cond.selects m11_ringAt.1.cls m11_ringAt.1 m11_ringAt.1 ∈ kT := kin8 48 (by decide +kernel) rfl
theorem kwc_m11_talksOf : kcode m11_talksOf ∈ kT := kin8 56 (by decide +kernel) rfl
theorem kwi_m11_talksOf : Cond.initialized m11_talksOf.1.cls ∈ kT := kin1 12 (by decide +kernel) rfl
theorem kws_m11_talksOf : Cond.static m11_talksOf.1 ∈ kT := kin8 55 (by decide +kernel) rfl
theorem kwc_m11_talks : kcode m11_talks ∈ kT := kin8 53 (by decide +kernel) rfl
theorem kwi_m11_talks : Cond.initialized m11_talks.1.cls ∈ kT := kin1 12 (by decide +kernel) rfl
theorem kwm_m11_talks : Cond.instanceMethod m11_talks.1 ∈ kT := kin8 51 (by decide +kernel) rfl
theorem kwl_m11_talks : Cond.selects m11_talks.1.cls m11_talks.1 m11_talks.1 ∈ kT := kin8 52 (by decide +kernel) rfl
theorem kwc_m11_seekRests : kcode m11_seekRests ∈ kT := kin8 64 (by decide +kernel) rfl
theorem kwi_m11_seekRests : Cond.initialized m11_seekRests.1.cls ∈ kT := kin1 12 (by decide +kernel) rfl
theorem kwm_m11_seekRests : Cond.instanceMethod m11_seekRests.1 ∈ kT := kin8 63 (by decide +kernel) rfl
theorem kwl_m11_seekRests : Cond.selects m11_seekRests.1.cls m11_seekRests.1 m11_seekRests.1 ∈ kT := kinS 98 (by decide +kernel) rfl
theorem kwc_m11_rests : kcode m11_rests ∈ kT := kin8 60 (by decide +kernel) rfl
theorem kwi_m11_rests : Cond.initialized m11_rests.1.cls ∈ kT := kin1 12 (by decide +kernel) rfl
theorem kwm_m11_rests : Cond.instanceMethod m11_rests.1 ∈ kT := kin8 58 (by decide +kernel) rfl
theorem kwl_m11_rests : Cond.selects m11_rests.1.cls m11_rests.1 m11_rests.1 ∈ kT := kin8 59 (by decide +kernel) rfl
theorem kwc_m11_rest : kcode m11_rest ∈ kT := kin8 68 (by decide +kernel) rfl
theorem kwi_m11_rest : Cond.initialized m11_rest.1.cls ∈ kT := kin1 12 (by decide +kernel) rfl
theorem kwm_m11_rest : Cond.instanceMethod m11_rest.1 ∈ kT := kin8 66 (by decide +kernel) rfl
theorem kwl_m11_rest : Cond.selects m11_rest.1.cls m11_rest.1 m11_rest.1 ∈ kT := kin8 67 (by decide +kernel) rfl
theorem kwc_m11_verdictOf : kcode m11_verdictOf ∈ kT := kin8 76 (by decide +kernel) rfl
theorem kwi_m11_verdictOf : Cond.initialized m11_verdictOf.1.cls ∈ kT := kin1 12 (by decide +kernel) rfl
theorem kwm_m11_verdictOf : Cond.instanceMethod m11_verdictOf.1 ∈ kT := kin8 75 (by decide +kernel) rfl
theorem kwl_m11_verdictOf : Cond.selects m11_verdictOf.1.cls m11_verdictOf.1 m11_verdictOf.1 ∈ kT := kinS 99 (by decide +kernel) rfl
theorem kwc_m11_verdictOdds : kcode m11_verdictOdds ∈ kT := kin8 72 (by decide +kernel) rfl
theorem kwi_m11_verdictOdds : Cond.initialized m11_verdictOdds.1.cls ∈ kT := kin1 12 (by decide +kernel) rfl
theorem kwm_m11_verdictOdds : Cond.instanceMethod m11_verdictOdds.1 ∈ kT := kin8 70 (by decide +kernel) rfl
theorem kwl_m11_verdictOdds : Cond.selects m11_verdictOdds.1.cls m11_verdictOdds.1 m11_verdictOdds.1 ∈ kT := kin8 71 (by decide +kernel) rfl
theorem kwc_m11_lookWhy : kcode m11_lookWhy ∈ kT := kin8 87 (by decide +kernel) rfl
theorem kwi_m11_lookWhy : Cond.initialized m11_lookWhy.1.cls ∈ kT := kin1 12 (by decide +kernel) rfl
theorem kwm_m11_lookWhy : Cond.instanceMethod m11_lookWhy.1 ∈ kT := kin8 86 (by decide +kernel) rfl
theorem kwl_m11_lookWhy : Cond.selects m11_lookWhy.1.cls m11_lookWhy.1 m11_lookWhy.1 ∈ kT := kinS 100 (by decide +kernel) rfl
theorem kwc_m11_looks : kcode m11_looks ∈ kT := kin8 83 (by decide +kernel) rfl
theorem kwi_m11_looks : Cond.initialized m11_looks.1.cls ∈ kT := kin1 12 (by decide +kernel) rfl
theorem kwm_m11_looks : Cond.instanceMethod m11_looks.1 ∈ kT := kin8 81 (by decide +kernel) rfl
theorem kwl_m11_looks : Cond.selects m11_looks.1.cls m11_looks.1 m11_looks.1 ∈ kT := kin8 82 (by decide +kernel) rfl
theorem kwc_m11_verdict : kcode m11_verdict ∈ kT := kin8 93 (by decide +kernel) rfl
theorem kwi_m11_verdict : Cond.initialized m11_verdict.1.cls ∈ kT := kin1 12 (by decide +kernel) rfl
theorem kwm_m11_verdict : Cond.instanceMethod m11_verdict.1 ∈ kT := kin8 91 (by decide +kernel) rfl
theorem kwl_m11_verdict : Cond.selects m11_verdict.1.cls m11_verdict.1 m11_verdict.1 ∈ kT := kin8 92 (by decide +kernel) rfl
theorem kwc_m11_tryDumb : kcode m11_tryDumb ∈ kT := kin8 101 (by decide +kernel) rfl
theorem kwi_m11_tryDumb : Cond.initialized m11_tryDumb.1.cls ∈ kT := kin1 12 (by decide +kernel) rfl
theorem kwm_m11_tryDumb : Cond.instanceMethod m11_tryDumb.1 ∈ kT := kin8 100 (by decide +kernel) rfl
theorem kwl_m11_tryDumb : Cond.selects m11_tryDumb.1.cls m11_tryDumb.1 m11_tryDumb.1 ∈ kT := kinS 101 (by decide +kernel) rfl
theorem kwc_m11_odds : kcode m11_odds ∈ kT := kin8 97 (by decide +kernel) rfl
theorem kwi_m11_odds : Cond.initialized m11_odds.1.cls ∈ kT := kin1 12 (by decide +kernel) rfl
theorem kwm_m11_odds : Cond.instanceMethod m11_odds.1 ∈ kT := kin8 95 (by decide +kernel) rfl
theorem kwl_m11_odds : Cond.selects m11_odds.1.cls m11_odds.1 m11_odds.1 ∈ kT := kin8 96 (by decide +kernel) rfl
theorem kwc_m11_mean : kcode m11_mean ∈ kT := kin8 105 (by decide +kernel) rfl
theorem kwi_m11_mean : Cond.initialized m11_mean.1.cls ∈ kT := kin1 12 (by decide +kernel) rfl
theorem kwm_m11_mean : Cond.instanceMethod m11_mean.1 ∈ kT := kin8 103 (by decide +kernel) rfl
theorem kwl_m11_mean : Cond.selects m11_mean.1.cls m11_mean.1 m11_mean.1 ∈ kT := kin8 104 (by decide +kernel) rfl
theorem kwc_m11_drawn : kcode m11_drawn ∈ kT := kin8 109 (by decide +kernel) rfl
theorem kwi_m11_drawn : Cond.initialized m11_drawn.1.cls ∈ kT := kin1 12 (by decide +kernel) rfl
theorem kwm_m11_drawn : Cond.instanceMethod m11_drawn.1 ∈ kT := kin8 107 (by decide +kernel) rfl
theorem kwl_m11_drawn : Cond.selects m11_drawn.1.cls m11_drawn.1 m11_drawn.1 ∈ kT := kin8 108 (by decide +kernel) rfl
theorem kwc_m11_note : kcode m11_note ∈ kT := kin8 117 (by decide +kernel) rfl
theorem kwi_m11_note : Cond.initialized m11_note.1.cls ∈ kT := kin1 12 (by decide +kernel) rfl
theorem kwm_m11_note : Cond.instanceMethod m11_note.1 ∈ kT := kin8 116 (by decide +kernel) rfl
theorem kwl_m11_note : Cond.selects m11_note.1.cls m11_note.1 m11_note.1 ∈ kT := kinS 102 (by decide +kernel) rfl
theorem kwc_m11_season : kcode m11_season ∈ kT := kin8 113 (by decide +kernel) rfl
theorem kwi_m11_season : Cond.initialized m11_season.1.cls ∈ kT := kin1 12 (by decide +kernel) rfl
theorem kwm_m11_season : Cond.instanceMethod m11_season.1 ∈ kT := kin8 111 (by decide +kernel) rfl
theorem kwl_m11_season : Cond.selects m11_season.1.cls m11_season.1 m11_season.1 ∈ kT := kin8 112 (by decide +kernel) rfl
theorem kwc_m11_change : kcode m11_change ∈ kT := kin8 121 (by decide +kernel) rfl
theorem kwi_m11_change : Cond.initialized m11_change.1.cls ∈ kT := kin1 12 (by decide +kernel) rfl
theorem kwm_m11_change : Cond.instanceMethod m11_change.1 ∈ kT := kin8 119 (by decide +kernel) rfl
theorem kwl_m11_change : Cond.selects m11_change.1.cls m11_change.1 m11_change.1 ∈ kT := kin8 120 (by decide +kernel) rfl
theorem kwc_m11_step : kcode m11_step ∈ kT := kin8 125 (by decide +kernel) rfl
theorem kwi_m11_step : Cond.initialized m11_step.1.cls ∈ kT := kin1 12 (by decide +kernel) rfl
theorem kwm_m11_step : Cond.instanceMethod m11_step.1 ∈ kT := kin8 123 (by decide +kernel) rfl
theorem kwl_m11_step : Cond.selects m11_step.1.cls m11_step.1 m11_step.1 ∈ kT := kin8 124 (by decide +kernel) rfl
theorem kwc_m11_pay : kcode m11_pay ∈ kT := kin8 133 (by decide +kernel) rfl
theorem kwi_m11_pay : Cond.initialized m11_pay.1.cls ∈ kT := kin1 12 (by decide +kernel) rfl
theorem kwm_m11_pay : Cond.instanceMethod m11_pay.1 ∈ kT := kin8 131 (by decide +kernel) rfl
theorem kwl_m11_pay : Cond.selects m11_pay.1.cls m11_pay.1 m11_pay.1 ∈ kT := kin8 132 (by decide +kernel) rfl
theorem kwc_m11_undo : kcode m11_undo ∈ kT := kin8 137 (by decide +kernel) rfl
theorem kwi_m11_undo : Cond.initialized m11_undo.1.cls ∈ kT := kin1 12 (by decide +kernel) rfl
theorem kwm_m11_undo : Cond.instanceMethod m11_undo.1 ∈ kT := kin8 135 (by decide +kernel) rfl
theorem kwl_m11_undo : Cond.selects m11_undo.1.cls m11_undo.1 m11_undo.1 ∈ kT := kin8 136 (by decide +kernel) rfl
theorem kwc_m11_image : kcode m11_image ∈ kT := kin8 141 (by decide +kernel) rfl
theorem kwi_m11_image : Cond.initialized m11_image.1.cls ∈ kT := kin1 12 (by decide +kernel) rfl
theorem kwm_m11_image : Cond.instanceMethod m11_image.1 ∈ kT := kin8 139 (by decide +kernel) rfl
theorem kwl_m11_image : Cond.selects m11_image.1.cls m11_image.1 m11_image.1 ∈ kT := kin8 140 (by decide +kernel) rfl
theorem kwc_m11_back : kcode m11_back ∈ kT := kin8 145 (by decide +kernel) rfl
theorem kwi_m11_back : Cond.initialized m11_back.1.cls ∈ kT := kin1 12 (by decide +kernel) rfl
theorem kwm_m11_back : Cond.instanceMethod m11_back.1 ∈ kT := kin8 143 (by decide +kernel) rfl
theorem kwl_m11_back : Cond.selects m11_back.1.cls m11_back.1 m11_back.1 ∈ kT := kin8 144 (by decide +kernel) rfl
theorem kwc_m11_led : kcode m11_led ∈ kT := kin8 149 (by decide +kernel) rfl
theorem kwi_m11_led : Cond.initialized m11_led.1.cls ∈ kT := kin1 12 (by decide +kernel) rfl
theorem kwm_m11_led : Cond.instanceMethod m11_led.1 ∈ kT := kin8 147 (by decide +kernel) rfl
theorem kwl_m11_led : Cond.selects m11_led.1.cls m11_led.1 m11_led.1 ∈ kT := kin8 148 (by decide +kernel) rfl
theorem kwc_m11_size : kcode m11_size ∈ kT := kin8 153 (by decide +kernel) rfl
theorem kwi_m11_size : Cond.initialized m11_size.1.cls ∈ kT := kin1 12 (by decide +kernel) rfl
theorem kwm_m11_size : Cond.instanceMethod m11_size.1 ∈ kT := kin8 151 (by decide +kernel) rfl
theorem kwl_m11_size : Cond.selects m11_size.1.cls m11_size.1 m11_size.1 ∈ kT := kin8 152 (by decide +kernel) rfl
theorem kwc_m11_trouble : kcode m11_trouble ∈ kT := kin8 157 (by decide +kernel) rfl
theorem kwi_m11_trouble : Cond.initialized m11_trouble.1.cls ∈ kT := kin1 12 (by decide +kernel) rfl
theorem kwm_m11_trouble : Cond.instanceMethod m11_trouble.1 ∈ kT := kin8 155 (by decide +kernel) rfl
theorem kwl_m11_trouble : Cond.selects m11_trouble.1.cls m11_trouble.1 m11_trouble.1 ∈ kT := kin8 156 (by decide +kernel) rfl
theorem kwc_mJ_abs_J9 : kcode mJ_abs_J9 ∈ kT := kin4 79 (by decide +kernel) rfl
theorem kwi_mJ_abs_J9 : Cond.initialized mJ_abs_J9.1.cls ∈ kT := kin1 14 (by decide +kernel) rfl
theorem kws_mJ_abs_J9 : Cond.static mJ_abs_J9.1 ∈ kT := kin4 78 (by decide +kernel) rfl
theorem kwc_mJ_max_J9 : kcode mJ_max_J9 ∈ kT := kin3 203 (by decide +kernel) rfl
theorem kwi_mJ_max_J9 : Cond.initialized mJ_max_J9.1.cls ∈ kT := kin1 14 (by decide +kernel) rfl
theorem kws_mJ_max_J9 : Cond.static mJ_max_J9.1 ∈ kT := kin3 202 (by decide +kernel) rfl
theorem kwc_mJ_min_J9 : kcode mJ_min_J9 ∈ kT := kin2 218 (by decide +kernel) rfl
theorem kwi_mJ_min_J9 : Cond.initialized mJ_min_J9.1.cls ∈ kT := kin1 14 (by decide +kernel) rfl
theorem kws_mJ_min_J9 : Cond.static mJ_min_J9.1 ∈ kT := kin2 217 (by decide +kernel) rfl
theorem kwc_mJ_length_J0 : kcode mJ_length_J0 ∈ kT := kin3 9 (by decide +kernel) rfl
theorem kwi_mJ_length_J0 : Cond.initialized mJ_length_J0.1.cls ∈ kT := kin1 15 (by decide +kernel) rfl
theorem kwm_mJ_length_J0 : Cond.instanceMethod mJ_length_J0.1 ∈ kT := kin3 7 (by decide +kernel) rfl
theorem kwl_mJ_length_J0 : Cond.selects mJ_length_J0.1.cls mJ_length_J0.1 mJ_length_J0.1 ∈ kT := kin3 8 (by decide +kernel) rfl
theorem kwc_mJ_charAt_J0 : kcode mJ_charAt_J0 ∈ kT := kin3 19 (by decide +kernel) rfl
theorem kwi_mJ_charAt_J0 : Cond.initialized mJ_charAt_J0.1.cls ∈ kT := kin1 15 (by decide +kernel) rfl
theorem kwm_mJ_charAt_J0 : Cond.instanceMethod mJ_charAt_J0.1 ∈ kT := kin3 17 (by decide +kernel) rfl
theorem kwl_mJ_charAt_J0 : Cond.selects mJ_charAt_J0.1.cls mJ_charAt_J0.1 mJ_charAt_J0.1 ∈ kT := kin3 18 (by decide +kernel) rfl
theorem kwc_mJ_coder_J0 : kcode mJ_coder_J0 ∈ kT := kin3 13 (by decide +kernel) rfl
theorem kwi_mJ_coder_J0 : Cond.initialized mJ_coder_J0.1.cls ∈ kT := kin1 15 (by decide +kernel) rfl
theorem kwm_mJ_coder_J0 : Cond.instanceMethod mJ_coder_J0.1 ∈ kT := kin3 11 (by decide +kernel) rfl
theorem kwl_mJ_coder_J0 : Cond.selects mJ_coder_J0.1.cls mJ_coder_J0.1 mJ_coder_J0.1 ∈ kT := kin3 12 (by decide +kernel) rfl
theorem kwc_mJ_isLatin1_J0 : kcode mJ_isLatin1_J0 ∈ kT := kin3 23 (by decide +kernel) rfl
theorem kwi_mJ_isLatin1_J0 : Cond.initialized mJ_isLatin1_J0.1.cls ∈ kT := kin1 15 (by decide +kernel) rfl
theorem kwm_mJ_isLatin1_J0 : Cond.instanceMethod mJ_isLatin1_J0.1 ∈ kT := kin3 21 (by decide +kernel) rfl
theorem kwl_mJ_isLatin1_J0 : Cond.selects mJ_isLatin1_J0.1.cls mJ_isLatin1_J0.1 mJ_isLatin1_J0.1 ∈ kT := kin3 22 (by decide +kernel) rfl
theorem kwc_mJ_checkIndex_J0 : kcode mJ_checkIndex_J0 ∈ kT := kin3 29 (by decide +kernel) rfl
theorem kwi_mJ_checkIndex_J0 : Cond.initialized mJ_checkIndex_J0.1.cls ∈ kT := kin1 15 (by decide +kernel) rfl
theorem kws_mJ_checkIndex_J0 : Cond.static mJ_checkIndex_J0.1 ∈ kT := kin3 28 (by decide +kernel) rfl
theorem kwc_mJ_charAt_J1 : kcode mJ_charAt_J1 ∈ kT := kin3 26 (by decide +kernel) rfl
theorem kwi_mJ_charAt_J1 : Cond.initialized mJ_charAt_J1.1.cls ∈ kT := kin1 16 (by decide +kernel) rfl
theorem kws_mJ_charAt_J1 : Cond.static mJ_charAt_J1.1 ∈ kT := kin3 25 (by decide +kernel) rfl
theorem kwc_mJ_getChar_J2 : kcode mJ_getChar_J2 ∈ kT := kin3 47 (by decide +kernel) rfl
theorem kwi_mJ_getChar_J2 : Cond.initialized mJ_getChar_J2.1.cls ∈ kT := kin1 18 (by decide +kernel) rfl
theorem kws_mJ_getChar_J2 : Cond.static mJ_getChar_J2.1 ∈ kT := kin3 46 (by decide +kernel) rfl
theorem kwc_mJ_length_J2 : kcode mJ_length_J2 ∈ kT := kin3 43 (by decide +kernel) rfl
theorem kwi_mJ_length_J2 : Cond.initialized mJ_length_J2.1.cls ∈ kT := kin1 18 (by decide +kernel) rfl
theorem kws_mJ_length_J2 : Cond.static mJ_length_J2.1 ∈ kT := kin3 42 (by decide +kernel) rfl
theorem kwc_mJ_charAt_J2 : kcode mJ_charAt_J2 ∈ kT := kin3 37 (by decide +kernel) rfl
theorem kwi_mJ_charAt_J2 : Cond.initialized mJ_charAt_J2.1.cls ∈ kT := kin1 18 (by decide +kernel) rfl
theorem kws_mJ_charAt_J2 : Cond.static mJ_charAt_J2.1 ∈ kT := kin3 36 (by decide +kernel) rfl
theorem kwc_mJ_checkIndex_J2 : kcode mJ_checkIndex_J2 ∈ kT := kin3 40 (by decide +kernel) rfl
theorem kwi_mJ_checkIndex_J2 : Cond.initialized mJ_checkIndex_J2.1.cls ∈ kT := kin1 18 (by decide +kernel) rfl
theorem kws_mJ_checkIndex_J2 : Cond.static mJ_checkIndex_J2.1 ∈ kT := kin3 39 (by decide +kernel) rfl
theorem kwc_mJ_fill_J7 : kcode mJ_fill_J7 ∈ kT := kin2 215 (by decide +kernel) rfl
theorem kwi_mJ_fill_J7 : Cond.initialized mJ_fill_J7.1.cls ∈ kT := kin1 13 (by decide +kernel) rfl
theorem kws_mJ_fill_J7 : Cond.static mJ_fill_J7.1 ∈ kT := kin2 214 (by decide +kernel) rfl
theorem kwc_mJ_checkIndex_J3 : kcode mJ_checkIndex_J3 ∈ kT := kin3 34 (by decide +kernel) rfl
theorem kwi_mJ_checkIndex_J3 : Cond.initialized mJ_checkIndex_J3.1.cls ∈ kT := kin1 17 (by decide +kernel) rfl
theorem kws_mJ_checkIndex_J3 : Cond.static mJ_checkIndex_J3.1 ∈ kT := kin3 33 (by decide +kernel) rfl
theorem kcy_m0_reckon : kCy m0_reckon 2 := ⟨by decide +kernel, by decide +kernel, by decide +kernel⟩
theorem kcy_m0_owedInAll : kCy m0_owedInAll 0 := ⟨by decide +kernel, by decide +kernel, by decide +kernel⟩
theorem kcy_m0_fewestPayments : kCy m0_fewestPayments 0 := ⟨by decide +kernel, by decide +kernel, by decide +kernel⟩
theorem kcy_m0_findRing : kCy m0_findRing 3 := ⟨by decide +kernel, by decide +kernel, by decide +kernel⟩
theorem kcy_m0_countDebtsHome : kCy m0_countDebtsHome 2 := ⟨by decide +kernel, by decide +kernel, by decide +kernel⟩
theorem kcy_m0_fewestDebtsBehind : kCy m0_fewestDebtsBehind 2 := ⟨by decide +kernel, by decide +kernel, by decide +kernel⟩
theorem kcy_m0_firstNext : kCy m0_firstNext 3 := ⟨by decide +kernel, by decide +kernel, by decide +kernel⟩
theorem kcy_m1_find : kCy m1_find 1 := ⟨by decide +kernel, by decide +kernel, by decide +kernel⟩
theorem kcy_m1_fitsHeard : kCy m1_fitsHeard 3 := ⟨by decide +kernel, by decide +kernel, by decide +kernel⟩
theorem kcy_m1_isFit : kCy m1_isFit 2 := ⟨by decide +kernel, by decide +kernel, by decide +kernel⟩
theorem kcy_m1_inSome : kCy m1_inSome 0 := ⟨by decide +kernel, by decide +kernel, by decide +kernel⟩
theorem kcy_m1_inAll : kCy m1_inAll 0 := ⟨by decide +kernel, by decide +kernel, by decide +kernel⟩
theorem kcy_m1_leftAtMost : kCy m1_leftAtMost 1 := ⟨by decide +kernel, by decide +kernel, by decide +kernel⟩
theorem kcy_m1_bestQuestion : kCy m1_bestQuestion 1 := ⟨by decide +kernel, by decide +kernel, by decide +kernel⟩
theorem kcy_m2_reckon : kCy m2_reckon 3 := ⟨by decide +kernel, by decide +kernel, by decide +kernel⟩
theorem kcy_m2_lookBy : kCy m2_lookBy 3 := ⟨by decide +kernel, by decide +kernel, by decide +kernel⟩
theorem kcy_m2_look : kCy m2_look 3 := ⟨by decide +kernel, by decide +kernel, by decide +kernel⟩
theorem kcy_m3_forget : kCy m3_forget 0 := ⟨by decide +kernel, by decide +kernel, by decide +kernel⟩
theorem kcy_m3_keep : kCy m3_keep 1 := ⟨by decide +kernel, by decide +kernel, by decide +kernel⟩
theorem kcy_m3_takeBack : kCy m3_takeBack 1 := ⟨by decide +kernel, by decide +kernel, by decide +kernel⟩
theorem kcy_m4_begin : kCy m4_begin 1 := ⟨by decide +kernel, by decide +kernel, by decide +kernel⟩
theorem kcy_m4_save : kCy m4_save 1 := ⟨by decide +kernel, by decide +kernel, by decide +kernel⟩
theorem kcy_m4_load : kCy m4_load 1 := ⟨by decide +kernel, by decide +kernel, by decide +kernel⟩
theorem kcy_m5_clear : kCy m5_clear 0 := ⟨by decide +kernel, by decide +kernel, by decide +kernel⟩
theorem kcy_m5_count : kCy m5_count 1 := ⟨by decide +kernel, by decide +kernel, by decide +kernel⟩
theorem kcy_m5_isUnsure : kCy m5_isUnsure 1 := ⟨by decide +kernel, by decide +kernel, by decide +kernel⟩
theorem kcy_m5_isHeard : kCy m5_isHeard 2 := ⟨by decide +kernel, by decide +kernel, by decide +kernel⟩
theorem kcy_m6_reduce : kCy m6_reduce 2 := ⟨by decide +kernel, by decide +kernel, by decide +kernel⟩
theorem kcy_m6_part : kCy m6_part 1 := ⟨by decide +kernel, by decide +kernel, by decide +kernel⟩
theorem kcy_m7_read : kCy m7_read 2 := ⟨by decide +kernel, by decide +kernel, by decide +kernel⟩
theorem kcy_m7_found : kCy m7_found 1 := ⟨by decide +kernel, by decide +kernel, by decide +kernel⟩
theorem kcy_m7_next : kCy m7_next 0 := ⟨by decide +kernel, by decide +kernel, by decide +kernel⟩
theorem kcy_m7_isLetter : kCy m7_isLetter 1 := ⟨by decide +kernel, by decide +kernel, by decide +kernel⟩
theorem kcy_m7_isDigit : kCy m7_isDigit 1 := ⟨by decide +kernel, by decide +kernel, by decide +kernel⟩
theorem kcy_m7_takeLetters : kCy m7_takeLetters 0 := ⟨by decide +kernel, by decide +kernel, by decide +kernel⟩
theorem kcy_m7_takeDigits : kCy m7_takeDigits 0 := ⟨by decide +kernel, by decide +kernel, by decide +kernel⟩
theorem kcy_m7_isWord : kCy m7_isWord 1 := ⟨by decide +kernel, by decide +kernel, by decide +kernel⟩
theorem kcy_m7_isHeadOfLine : kCy m7_isHeadOfLine 0 := ⟨by decide +kernel, by decide +kernel, by decide +kernel⟩
theorem kcy_m7_lawOfWord : kCy m7_lawOfWord 0 := ⟨by decide +kernel, by decide +kernel, by decide +kernel⟩
theorem kcy_m7_pairOfName : kCy m7_pairOfName 0 := ⟨by decide +kernel, by decide +kernel, by decide +kernel⟩
theorem kcy_m7_isSame : kCy m7_isSame 2 := ⟨by decide +kernel, by decide +kernel, by decide +kernel⟩
theorem kcy_m7_takeWord : kCy m7_takeWord 1 := ⟨by decide +kernel, by decide +kernel, by decide +kernel⟩
theorem kcy_m7_seesWhole : kCy m7_seesWhole 2 := ⟨by decide +kernel, by decide +kernel, by decide +kernel⟩
theorem kcy_m7_seenPair : kCy m7_seenPair 0 := ⟨by decide +kernel, by decide +kernel, by decide +kernel⟩
theorem kcy_m7_readHead : kCy m7_readHead 0 := ⟨by decide +kernel, by decide +kernel, by decide +kernel⟩
theorem kcy_m7_readLine : kCy m7_readLine 0 := ⟨by decide +kernel, by decide +kernel, by decide +kernel⟩
theorem kcy_m7_readPair : kCy m7_readPair 0 := ⟨by decide +kernel, by decide +kernel, by decide +kernel⟩
theorem kcy_m7_readContract : kCy m7_readContract 0 := ⟨by decide +kernel, by decide +kernel, by decide +kernel⟩
theorem kcy_m7_readDebt : kCy m7_readDebt 0 := ⟨by decide +kernel, by decide +kernel, by decide +kernel⟩
theorem kcy_m7_readUnsure : kCy m7_readUnsure 0 := ⟨by decide +kernel, by decide +kernel, by decide +kernel⟩
theorem kcy_m7_readHeard : kCy m7_readHeard 0 := ⟨by decide +kernel, by decide +kernel, by decide +kernel⟩
theorem kcy_m8_follow : kCy m8_follow 1 := ⟨by decide +kernel, by decide +kernel, by decide +kernel⟩
theorem kcy_m8_stateOf : kCy m8_stateOf 1 := ⟨by decide +kernel, by decide +kernel, by decide +kernel⟩
theorem kcy_m8_shortenRound : kCy m8_shortenRound 0 := ⟨by decide +kernel, by decide +kernel, by decide +kernel⟩
theorem kcy_m8_comesAgainBehind : kCy m8_comesAgainBehind 1 := ⟨by decide +kernel, by decide +kernel, by decide +kernel⟩
theorem kcy_m8_saying : kCy m8_saying 1 := ⟨by decide +kernel, by decide +kernel, by decide +kernel⟩
theorem kcy_m8_most : kCy m8_most 0 := ⟨by decide +kernel, by decide +kernel, by decide +kernel⟩
theorem kcy_m8_least : kCy m8_least 0 := ⟨by decide +kernel, by decide +kernel, by decide +kernel⟩
theorem kcy_m9_begin : kCy m9_begin 3 := ⟨by decide +kernel, by decide +kernel, by decide +kernel⟩
theorem kcy_m9_beginAsTold : kCy m9_beginAsTold 2 := ⟨by decide +kernel, by decide +kernel, by decide +kernel⟩
theorem kcy_m9_go : kCy m9_go 0 := ⟨by decide +kernel, by decide +kernel, by decide +kernel⟩
theorem kcy_m9_byLaw : kCy m9_byLaw 0 := ⟨by decide +kernel, by decide +kernel, by decide +kernel⟩
theorem kcy_m9_goDumb : kCy m9_goDumb 0 := ⟨by decide +kernel, by decide +kernel, by decide +kernel⟩
theorem kcy_m9_goOn : kCy m9_goOn 1 := ⟨by decide +kernel, by decide +kernel, by decide +kernel⟩
theorem kcy_m9_isMore : kCy m9_isMore 0 := ⟨by decide +kernel, by decide +kernel, by decide +kernel⟩
theorem kcy_m9_countMore : kCy m9_countMore 1 := ⟨by decide +kernel, by decide +kernel, by decide +kernel⟩
theorem kcy_m10_may : kCy m10_may 2 := ⟨by decide +kernel, by decide +kernel, by decide +kernel⟩
theorem kcy_m10_may_ : kCy m10_may_ 1 := ⟨by decide +kernel, by decide +kernel, by decide +kernel⟩
theorem kcy_m10_refuse : kCy m10_refuse 1 := ⟨by decide +kernel, by decide +kernel, by decide +kernel⟩
theorem kcy_m10_deny : kCy m10_deny 1 := ⟨by decide +kernel, by decide +kernel, by decide +kernel⟩
theorem kcy_m10_isPair : kCy m10_isPair 1 := ⟨by decide +kernel, by decide +kernel, by decide +kernel⟩
theorem kcy_m10_areUnlike : kCy m10_areUnlike 2 := ⟨by decide +kernel, by decide +kernel, by decide +kernel⟩
theorem kcy_m10_upTo : kCy m10_upTo 2 := ⟨by decide +kernel, by decide +kernel, by decide +kernel⟩
theorem kcy_m10_feed : kCy m10_feed 5 := ⟨by decide +kernel, by decide +kernel, by decide +kernel⟩
theorem kcy_m10_putBytes : kCy m10_putBytes 1 := ⟨by decide +kernel, by decide +kernel, by decide +kernel⟩
theorem kcy_m10_pier : kCy m10_pier 1 := ⟨by decide +kernel, by decide +kernel, by decide +kernel⟩
theorem kcy_m10_fault : kCy m10_fault 0 := ⟨by decide +kernel, by decide +kernel, by decide +kernel⟩
theorem kcy_m10_where : kCy m10_where 0 := ⟨by decide +kernel, by decide +kernel, by decide +kernel⟩
theorem kcy_m10_pair : kCy m10_pair 2 := ⟨by decide +kernel, by decide +kernel, by decide +kernel⟩
theorem kcy_m10_isMore : kCy m10_isMore 1 := ⟨by decide +kernel, by decide +kernel, by decide +kernel⟩
theorem kcy_m10_sayingBehind : kCy m10_sayingBehind 2 := ⟨by decide +kernel, by decide +kernel, by decide +kernel⟩
theorem kcy_m10_sayAllBehind : kCy m10_sayAllBehind 1 := ⟨by decide +kernel, by decide +kernel, by decide +kernel⟩
theorem kcy_m10_says : kCy m10_says 2 := ⟨by decide +kernel, by decide +kernel, by decide +kernel⟩
theorem kcy_m10_saysAll : kCy m10_saysAll 2 := ⟨by decide +kernel, by decide +kernel, by decide +kernel⟩
theorem kcy_m10_moreIn : kCy m10_moreIn 1 := ⟨by decide +kernel, by decide +kernel, by decide +kernel⟩
theorem kcy_m10_moreTimes : kCy m10_moreTimes 2 := ⟨by decide +kernel, by decide +kernel, by decide +kernel⟩
theorem kcy_m10_goRound : kCy m10_goRound 1 := ⟨by decide +kernel, by decide +kernel, by decide +kernel⟩
theorem kcy_m10_settles : kCy m10_settles 1 := ⟨by decide +kernel, by decide +kernel, by decide +kernel⟩
theorem kcy_m10_round : kCy m10_round 1 := ⟨by decide +kernel, by decide +kernel, by decide +kernel⟩
theorem kcy_m10_saysLate : kCy m10_saysLate 2 := ⟨by decide +kernel, by decide +kernel, by decide +kernel⟩
theorem kcy_m10_roundMost : kCy m10_roundMost 1 := ⟨by decide +kernel, by decide +kernel, by decide +kernel⟩
theorem kcy_m10_roundLeast : kCy m10_roundLeast 1 := ⟨by decide +kernel, by decide +kernel, by decide +kernel⟩
theorem kcy_m10_turnsAbout : kCy m10_turnsAbout 1 := ⟨by decide +kernel, by decide +kernel, by decide +kernel⟩
theorem kcy_m10_alikeIn : kCy m10_alikeIn 2 := ⟨by decide +kernel, by decide +kernel, by decide +kernel⟩
theorem kcy_m10_loudest : kCy m10_loudest 1 := ⟨by decide +kernel, by decide +kernel, by decide +kernel⟩
theorem kcy_m10_firstMost : kCy m10_firstMost 2 := ⟨by decide +kernel, by decide +kernel, by decide +kernel⟩
theorem kcy_m10_overtakes : kCy m10_overtakes 2 := ⟨by decide +kernel, by decide +kernel, by decide +kernel⟩
theorem kcy_m10_widest : kCy m10_widest 1 := ⟨by decide +kernel, by decide +kernel, by decide +kernel⟩
theorem kcy_m10_sumAll : kCy m10_sumAll 1 := ⟨by decide +kernel, by decide +kernel, by decide +kernel⟩
theorem kcy_m10_masters : kCy m10_masters 1 := ⟨by decide +kernel, by decide +kernel, by decide +kernel⟩
theorem kcy_m10_bitsOfMore : kCy m10_bitsOfMore 1 := ⟨by decide +kernel, by decide +kernel, by decide +kernel⟩
theorem kcy_m10_sayingByEvery : kCy m10_sayingByEvery 3 := ⟨by decide +kernel, by decide +kernel, by decide +kernel⟩
theorem kcy_m10_bestEvery : kCy m10_bestEvery 2 := ⟨by decide +kernel, by decide +kernel, by decide +kernel⟩
theorem kcy_m10_everyFor : kCy m10_everyFor 2 := ⟨by decide +kernel, by decide +kernel, by decide +kernel⟩
theorem kcy_m10_everySays : kCy m10_everySays 2 := ⟨by decide +kernel, by decide +kernel, by decide +kernel⟩
theorem kcy_m10_everyNever : kCy m10_everyNever 1 := ⟨by decide +kernel, by decide +kernel, by decide +kernel⟩
theorem kcy_m10_stepFor : kCy m10_stepFor 2 := ⟨by decide +kernel, by decide +kernel, by decide +kernel⟩
theorem kcy_m10_mayFit : kCy m10_mayFit 0 := ⟨by decide +kernel, by decide +kernel, by decide +kernel⟩
theorem kcy_m10_fits : kCy m10_fits 0 := ⟨by decide +kernel, by decide +kernel, by decide +kernel⟩
theorem kcy_m10_fitAt : kCy m10_fitAt 1 := ⟨by decide +kernel, by decide +kernel, by decide +kernel⟩
theorem kcy_m10_could : kCy m10_could 0 := ⟨by decide +kernel, by decide +kernel, by decide +kernel⟩
theorem kcy_m10_surely : kCy m10_surely 0 := ⟨by decide +kernel, by decide +kernel, by decide +kernel⟩
theorem kcy_m10_ask : kCy m10_ask 0 := ⟨by decide +kernel, by decide +kernel, by decide +kernel⟩
theorem kcy_m10_askLeaves : kCy m10_askLeaves 0 := ⟨by decide +kernel, by decide +kernel, by decide +kernel⟩
theorem kcy_m10_judge : kCy m10_judge 0 := ⟨by decide +kernel, by decide +kernel, by decide +kernel⟩
theorem kcy_m10_apartByTold : kCy m10_apartByTold 1 := ⟨by decide +kernel, by decide +kernel, by decide +kernel⟩
theorem kcy_m10_third : kCy m10_third 1 := ⟨by decide +kernel, by decide +kernel, by decide +kernel⟩
theorem kcy_m10_owes : kCy m10_owes 2 := ⟨by decide +kernel, by decide +kernel, by decide +kernel⟩
theorem kcy_m10_net : kCy m10_net 1 := ⟨by decide +kernel, by decide +kernel, by decide +kernel⟩
theorem kcy_m10_due : kCy m10_due 0 := ⟨by decide +kernel, by decide +kernel, by decide +kernel⟩
theorem kcy_m10_creditor : kCy m10_creditor 0 := ⟨by decide +kernel, by decide +kernel, by decide +kernel⟩
theorem kcy_m10_payments : kCy m10_payments 0 := ⟨by decide +kernel, by decide +kernel, by decide +kernel⟩
theorem kcy_m10_ring : kCy m10_ring 1 := ⟨by decide +kernel, by decide +kernel, by decide +kernel⟩
theorem kcy_m10_ringAt : kCy m10_ringAt 2 := ⟨by decide +kernel, by decide +kernel, by decide +kernel⟩
theorem kcy_m10_share : kCy m10_share 3 := ⟨by decide +kernel, by decide +kernel, by decide +kernel⟩
theorem kcy_m10_isRest : kCy m10_isRest 3 := ⟨by decide +kernel, by decide +kernel, by decide +kernel⟩
theorem kcy_m10_isRestAt : kCy m10_isRestAt 2 := ⟨by decide +kernel, by decide +kernel, by decide +kernel⟩
theorem kcy_m10_talks : kCy m10_talks 4 := ⟨by decide +kernel, by decide +kernel, by decide +kernel⟩
theorem kcy_m10_rests : kCy m10_rests 1 := ⟨by decide +kernel, by decide +kernel, by decide +kernel⟩
theorem kcy_m10_rest : kCy m10_rest 1 := ⟨by decide +kernel, by decide +kernel, by decide +kernel⟩
theorem kcy_m10_verdictOdds : kCy m10_verdictOdds 3 := ⟨by decide +kernel, by decide +kernel, by decide +kernel⟩
theorem kcy_m10_looks : kCy m10_looks 3 := ⟨by decide +kernel, by decide +kernel, by decide +kernel⟩
theorem kcy_m10_verdict : kCy m10_verdict 2 := ⟨by decide +kernel, by decide +kernel, by decide +kernel⟩
theorem kcy_m10_drawFrom : kCy m10_drawFrom 1 := ⟨by decide +kernel, by decide +kernel, by decide +kernel⟩
theorem kcy_m10_odds : kCy m10_odds 4 := ⟨by decide +kernel, by decide +kernel, by decide +kernel⟩
theorem kcy_m10_mean : kCy m10_mean 3 := ⟨by decide +kernel, by decide +kernel, by decide +kernel⟩
theorem kcy_m10_goWithDumb : kCy m10_goWithDumb 3 := ⟨by decide +kernel, by decide +kernel, by decide +kernel⟩
theorem kcy_m10_allChances : kCy m10_allChances 1 := ⟨by decide +kernel, by decide +kernel, by decide +kernel⟩
theorem kcy_m10_drawn : kCy m10_drawn 3 := ⟨by decide +kernel, by decide +kernel, by decide +kernel⟩
theorem kcy_m10_season : kCy m10_season 0 := ⟨by decide +kernel, by decide +kernel, by decide +kernel⟩
theorem kcy_m10_change : kCy m10_change 1 := ⟨by decide +kernel, by decide +kernel, by decide +kernel⟩
theorem kcy_m10_step : kCy m10_step 2 := ⟨by decide +kernel, by decide +kernel, by decide +kernel⟩
theorem kcy_m10_pay : kCy m10_pay 3 := ⟨by decide +kernel, by decide +kernel, by decide +kernel⟩
theorem kcy_m10_undo : kCy m10_undo 0 := ⟨by decide +kernel, by decide +kernel, by decide +kernel⟩
theorem kcy_m10_image : kCy m10_image 0 := ⟨by decide +kernel, by decide +kernel, by decide +kernel⟩
theorem kcy_m10_back : kCy m10_back 1 := ⟨by decide +kernel, by decide +kernel, by decide +kernel⟩
theorem kcy_m10_led : kCy m10_led 1 := ⟨by decide +kernel, by decide +kernel, by decide +kernel⟩
theorem kcy_m10_size : kCy m10_size 1 := ⟨by decide +kernel, by decide +kernel, by decide +kernel⟩
theorem kcy_m10_trouble : kCy m10_trouble 0 := ⟨by decide +kernel, by decide +kernel, by decide +kernel⟩
theorem kcy_m11_thrown : kCy m11_thrown 0 := ⟨by decide +kernel, by decide +kernel, by decide +kernel⟩
theorem kcy_m11_good : kCy m11_good 0 := ⟨by decide +kernel, by decide +kernel, by decide +kernel⟩
theorem kcy_m11_no : kCy m11_no 1 := ⟨by decide +kernel, by decide +kernel, by decide +kernel⟩
theorem kcy_m11_isNot : kCy m11_isNot 1 := ⟨by decide +kernel, by decide +kernel, by decide +kernel⟩
theorem kcy_m11_in : kCy m11_in 3 := ⟨by decide +kernel, by decide +kernel, by decide +kernel⟩
theorem kcy_m11_hasBit : kCy m11_hasBit 2 := ⟨by decide +kernel, by decide +kernel, by decide +kernel⟩
theorem kcy_m11_ones : kCy m11_ones 1 := ⟨by decide +kernel, by decide +kernel, by decide +kernel⟩
theorem kcy_m11_copy : kCy m11_copy 5 := ⟨by decide +kernel, by decide +kernel, by decide +kernel⟩
theorem kcy_m11_lowest : kCy m11_lowest 3 := ⟨by decide +kernel, by decide +kernel, by decide +kernel⟩
theorem kcy_m11_feed : kCy m11_feed 5 := ⟨by decide +kernel, by decide +kernel, by decide +kernel⟩
theorem kcy_m11_see : kCy m11_see 1 := ⟨by decide +kernel, by decide +kernel, by decide +kernel⟩
theorem kcy_m11_isSmall : kCy m11_isSmall 1 := ⟨by decide +kernel, by decide +kernel, by decide +kernel⟩
theorem kcy_m11_isDigit : kCy m11_isDigit 1 := ⟨by decide +kernel, by decide +kernel, by decide +kernel⟩
theorem kcy_m11_next : kCy m11_next 0 := ⟨by decide +kernel, by decide +kernel, by decide +kernel⟩
theorem kcy_m11_wrong : kCy m11_wrong 2 := ⟨by decide +kernel, by decide +kernel, by decide +kernel⟩
theorem kcy_m11_isWord : kCy m11_isWord 1 := ⟨by decide +kernel, by decide +kernel, by decide +kernel⟩
theorem kcy_m11_takesWord : kCy m11_takesWord 1 := ⟨by decide +kernel, by decide +kernel, by decide +kernel⟩
theorem kcy_m11_must : kCy m11_must 1 := ⟨by decide +kernel, by decide +kernel, by decide +kernel⟩
theorem kcy_m11_mustName : kCy m11_mustName 0 := ⟨by decide +kernel, by decide +kernel, by decide +kernel⟩
theorem kcy_m11_find : kCy m11_find 0 := ⟨by decide +kernel, by decide +kernel, by decide +kernel⟩
theorem kcy_m11_newName : kCy m11_newName 1 := ⟨by decide +kernel, by decide +kernel, by decide +kernel⟩
theorem kcy_m11_pairHere : kCy m11_pairHere 0 := ⟨by decide +kernel, by decide +kernel, by decide +kernel⟩
theorem kcy_m11_pass : kCy m11_pass 0 := ⟨by decide +kernel, by decide +kernel, by decide +kernel⟩
theorem kcy_m11_numberHere : kCy m11_numberHere 2 := ⟨by decide +kernel, by decide +kernel, by decide +kernel⟩
theorem kcy_m11_number : kCy m11_number 2 := ⟨by decide +kernel, by decide +kernel, by decide +kernel⟩
theorem kcy_m11_after : kCy m11_after 3 := ⟨by decide +kernel, by decide +kernel, by decide +kernel⟩
theorem kcy_m11_pier : kCy m11_pier 1 := ⟨by decide +kernel, by decide +kernel, by decide +kernel⟩
theorem kcy_m11_begins : kCy m11_begins 2 := ⟨by decide +kernel, by decide +kernel, by decide +kernel⟩
theorem kcy_m11_readLine : kCy m11_readLine 0 := ⟨by decide +kernel, by decide +kernel, by decide +kernel⟩
theorem kcy_m11_pierLine : kCy m11_pierLine 0 := ⟨by decide +kernel, by decide +kernel, by decide +kernel⟩
theorem kcy_m11_pairLine : kCy m11_pairLine 0 := ⟨by decide +kernel, by decide +kernel, by decide +kernel⟩
theorem kcy_m11_contractLine : kCy m11_contractLine 0 := ⟨by decide +kernel, by decide +kernel, by decide +kernel⟩
theorem kcy_m11_debtLine : kCy m11_debtLine 0 := ⟨by decide +kernel, by decide +kernel, by decide +kernel⟩
theorem kcy_m11_unsureLine : kCy m11_unsureLine 0 := ⟨by decide +kernel, by decide +kernel, by decide +kernel⟩
theorem kcy_m11_heardLine : kCy m11_heardLine 0 := ⟨by decide +kernel, by decide +kernel, by decide +kernel⟩
theorem kcy_m11_fault : kCy m11_fault 0 := ⟨by decide +kernel, by decide +kernel, by decide +kernel⟩
theorem kcy_m11_where : kCy m11_where 0 := ⟨by decide +kernel, by decide +kernel, by decide +kernel⟩
theorem kcy_m11_isPair : kCy m11_isPair 1 := ⟨by decide +kernel, by decide +kernel, by decide +kernel⟩
theorem kcy_m11_areTwo : kCy m11_areTwo 2 := ⟨by decide +kernel, by decide +kernel, by decide +kernel⟩
theorem kcy_m11_why : kCy m11_why 2 := ⟨by decide +kernel, by decide +kernel, by decide +kernel⟩
theorem kcy_m11_within : kCy m11_within 1 := ⟨by decide +kernel, by decide +kernel, by decide +kernel⟩
theorem kcy_m11_byLaw : kCy m11_byLaw 3 := ⟨by decide +kernel, by decide +kernel, by decide +kernel⟩
theorem kcy_m11_behind : kCy m11_behind 6 := ⟨by decide +kernel, by decide +kernel, by decide +kernel⟩
theorem kcy_m11_isMore : kCy m11_isMore 1 := ⟨by decide +kernel, by decide +kernel, by decide +kernel⟩
theorem kcy_m11_saysBy : kCy m11_saysBy 4 := ⟨by decide +kernel, by decide +kernel, by decide +kernel⟩
theorem kcy_m11_saysIn : kCy m11_saysIn 2 := ⟨by decide +kernel, by decide +kernel, by decide +kernel⟩
theorem kcy_m11_goRound : kCy m11_goRound 1 := ⟨by decide +kernel, by decide +kernel, by decide +kernel⟩
theorem kcy_m11_isRoundOf : kCy m11_isRoundOf 1 := ⟨by decide +kernel, by decide +kernel, by decide +kernel⟩
theorem kcy_m11_pair : kCy m11_pair 2 := ⟨by decide +kernel, by decide +kernel, by decide +kernel⟩
theorem kcy_m11_aheadWhy : kCy m11_aheadWhy 2 := ⟨by decide +kernel, by decide +kernel, by decide +kernel⟩
theorem kcy_m11_says : kCy m11_says 2 := ⟨by decide +kernel, by decide +kernel, by decide +kernel⟩
theorem kcy_m11_saysAll : kCy m11_saysAll 2 := ⟨by decide +kernel, by decide +kernel, by decide +kernel⟩
theorem kcy_m11_moreIn : kCy m11_moreIn 1 := ⟨by decide +kernel, by decide +kernel, by decide +kernel⟩
theorem kcy_m11_moreTimes : kCy m11_moreTimes 2 := ⟨by decide +kernel, by decide +kernel, by decide +kernel⟩
theorem kcy_m11_settles : kCy m11_settles 1 := ⟨by decide +kernel, by decide +kernel, by decide +kernel⟩
theorem kcy_m11_round : kCy m11_round 1 := ⟨by decide +kernel, by decide +kernel, by decide +kernel⟩
theorem kcy_m11_saysLate : kCy m11_saysLate 2 := ⟨by decide +kernel, by decide +kernel, by decide +kernel⟩
theorem kcy_m11_extremeOf : kCy m11_extremeOf 2 := ⟨by decide +kernel, by decide +kernel, by decide +kernel⟩
theorem kcy_m11_roundMost : kCy m11_roundMost 1 := ⟨by decide +kernel, by decide +kernel, by decide +kernel⟩
theorem kcy_m11_roundLeast : kCy m11_roundLeast 1 := ⟨by decide +kernel, by decide +kernel, by decide +kernel⟩
theorem kcy_m11_turnsAbout : kCy m11_turnsAbout 1 := ⟨by decide +kernel, by decide +kernel, by decide +kernel⟩
theorem kcy_m11_alikeIn : kCy m11_alikeIn 2 := ⟨by decide +kernel, by decide +kernel, by decide +kernel⟩
theorem kcy_m11_loudest : kCy m11_loudest 1 := ⟨by decide +kernel, by decide +kernel, by decide +kernel⟩
theorem kcy_m11_mastersIn : kCy m11_mastersIn 1 := ⟨by decide +kernel, by decide +kernel, by decide +kernel⟩
theorem kcy_m11_masters : kCy m11_masters 1 := ⟨by decide +kernel, by decide +kernel, by decide +kernel⟩
theorem kcy_m11_overtakes : kCy m11_overtakes 2 := ⟨by decide +kernel, by decide +kernel, by decide +kernel⟩
theorem kcy_m11_widest : kCy m11_widest 1 := ⟨by decide +kernel, by decide +kernel, by decide +kernel⟩
theorem kcy_m11_sumAll : kCy m11_sumAll 1 := ⟨by decide +kernel, by decide +kernel, by decide +kernel⟩
theorem kcy_m11_bestEvery : kCy m11_bestEvery 2 := ⟨by decide +kernel, by decide +kernel, by decide +kernel⟩
theorem kcy_m11_everyFor : kCy m11_everyFor 2 := ⟨by decide +kernel, by decide +kernel, by decide +kernel⟩
theorem kcy_m11_everySays : kCy m11_everySays 2 := ⟨by decide +kernel, by decide +kernel, by decide +kernel⟩
theorem kcy_m11_isNeverMore : kCy m11_isNeverMore 2 := ⟨by decide +kernel, by decide +kernel, by decide +kernel⟩
theorem kcy_m11_everyNever : kCy m11_everyNever 1 := ⟨by decide +kernel, by decide +kernel, by decide +kernel⟩
theorem kcy_m11_stepFor : kCy m11_stepFor 2 := ⟨by decide +kernel, by decide +kernel, by decide +kernel⟩
theorem kcy_m11_stepBy : kCy m11_stepBy 2 := ⟨by decide +kernel, by decide +kernel, by decide +kernel⟩
theorem kcy_m11_saidThen : kCy m11_saidThen 3 := ⟨by decide +kernel, by decide +kernel, by decide +kernel⟩
theorem kcy_m11_wrongBy : kCy m11_wrongBy 1 := ⟨by decide +kernel, by decide +kernel, by decide +kernel⟩
theorem kcy_m11_seekSets : kCy m11_seekSets 1 := ⟨by decide +kernel, by decide +kernel, by decide +kernel⟩
theorem kcy_m11_fits : kCy m11_fits 0 := ⟨by decide +kernel, by decide +kernel, by decide +kernel⟩
theorem kcy_m11_fitAt : kCy m11_fitAt 1 := ⟨by decide +kernel, by decide +kernel, by decide +kernel⟩
theorem kcy_m11_could : kCy m11_could 0 := ⟨by decide +kernel, by decide +kernel, by decide +kernel⟩
theorem kcy_m11_surely : kCy m11_surely 0 := ⟨by decide +kernel, by decide +kernel, by decide +kernel⟩
theorem kcy_m11_leavesOf : kCy m11_leavesOf 1 := ⟨by decide +kernel, by decide +kernel, by decide +kernel⟩
theorem kcy_m11_askOf : kCy m11_askOf 0 := ⟨by decide +kernel, by decide +kernel, by decide +kernel⟩
theorem kcy_m11_ask : kCy m11_ask 0 := ⟨by decide +kernel, by decide +kernel, by decide +kernel⟩
theorem kcy_m11_askLeaves : kCy m11_askLeaves 0 := ⟨by decide +kernel, by decide +kernel, by decide +kernel⟩
theorem kcy_m11_judge : kCy m11_judge 0 := ⟨by decide +kernel, by decide +kernel, by decide +kernel⟩
theorem kcy_m11_third : kCy m11_third 1 := ⟨by decide +kernel, by decide +kernel, by decide +kernel⟩
theorem kcy_m11_debtOf : kCy m11_debtOf 2 := ⟨by decide +kernel, by decide +kernel, by decide +kernel⟩
theorem kcy_m11_netOf : kCy m11_netOf 1 := ⟨by decide +kernel, by decide +kernel, by decide +kernel⟩
theorem kcy_m11_owes : kCy m11_owes 2 := ⟨by decide +kernel, by decide +kernel, by decide +kernel⟩
theorem kcy_m11_net : kCy m11_net 1 := ⟨by decide +kernel, by decide +kernel, by decide +kernel⟩
theorem kcy_m11_due : kCy m11_due 0 := ⟨by decide +kernel, by decide +kernel, by decide +kernel⟩
theorem kcy_m11_creditor : kCy m11_creditor 0 := ⟨by decide +kernel, by decide +kernel, by decide +kernel⟩
theorem kcy_m11_netsOf : kCy m11_netsOf 1 := ⟨by decide +kernel, by decide +kernel, by decide +kernel⟩
theorem kcy_m11_groupsOf : kCy m11_groupsOf 1 := ⟨by decide +kernel, by decide +kernel, by decide +kernel⟩
theorem kcy_m11_payments : kCy m11_payments 0 := ⟨by decide +kernel, by decide +kernel, by decide +kernel⟩
theorem kcy_m11_tryRing : kCy m11_tryRing 2 := ⟨by decide +kernel, by decide +kernel, by decide +kernel⟩
theorem kcy_m11_seekRing : kCy m11_seekRing 1 := ⟨by decide +kernel, by decide +kernel, by decide +kernel⟩
theorem kcy_m11_ring : kCy m11_ring 1 := ⟨by decide +kernel, by decide +kernel, by decide +kernel⟩
theorem kcy_m11_ringAt : kCy m11_ringAt 2 := ⟨by decide +kernel, by decide +kernel, by decide +kernel⟩
theorem kcy_m11_talksOf : kCy m11_talksOf 3 := ⟨by decide +kernel, by decide +kernel, by decide +kernel⟩
theorem kcy_m11_talks : kCy m11_talks 4 := ⟨by decide +kernel, by decide +kernel, by decide +kernel⟩
theorem kcy_m11_seekRests : kCy m11_seekRests 1 := ⟨by decide +kernel, by decide +kernel, by decide +kernel⟩
theorem kcy_m11_rests : kCy m11_rests 1 := ⟨by decide +kernel, by decide +kernel, by decide +kernel⟩
theorem kcy_m11_rest : kCy m11_rest 1 := ⟨by decide +kernel, by decide +kernel, by decide +kernel⟩
theorem kcy_m11_verdictOf : kCy m11_verdictOf 0 := ⟨by decide +kernel, by decide +kernel, by decide +kernel⟩
theorem kcy_m11_verdictOdds : kCy m11_verdictOdds 3 := ⟨by decide +kernel, by decide +kernel, by decide +kernel⟩
theorem kcy_m11_lookWhy : kCy m11_lookWhy 3 := ⟨by decide +kernel, by decide +kernel, by decide +kernel⟩
theorem kcy_m11_looks : kCy m11_looks 3 := ⟨by decide +kernel, by decide +kernel, by decide +kernel⟩
theorem kcy_m11_verdict : kCy m11_verdict 2 := ⟨by decide +kernel, by decide +kernel, by decide +kernel⟩
theorem kcy_m11_tryDumb : kCy m11_tryDumb 3 := ⟨by decide +kernel, by decide +kernel, by decide +kernel⟩
theorem kcy_m11_odds : kCy m11_odds 4 := ⟨by decide +kernel, by decide +kernel, by decide +kernel⟩
theorem kcy_m11_mean : kCy m11_mean 3 := ⟨by decide +kernel, by decide +kernel, by decide +kernel⟩
theorem kcy_m11_drawn : kCy m11_drawn 3 := ⟨by decide +kernel, by decide +kernel, by decide +kernel⟩
theorem kcy_m11_note : kCy m11_note 0 := ⟨by decide +kernel, by decide +kernel, by decide +kernel⟩
theorem kcy_m11_season : kCy m11_season 0 := ⟨by decide +kernel, by decide +kernel, by decide +kernel⟩
theorem kcy_m11_change : kCy m11_change 1 := ⟨by decide +kernel, by decide +kernel, by decide +kernel⟩
theorem kcy_m11_step : kCy m11_step 2 := ⟨by decide +kernel, by decide +kernel, by decide +kernel⟩
theorem kcy_m11_pay : kCy m11_pay 3 := ⟨by decide +kernel, by decide +kernel, by decide +kernel⟩
theorem kcy_m11_undo : kCy m11_undo 0 := ⟨by decide +kernel, by decide +kernel, by decide +kernel⟩
theorem kcy_m11_image : kCy m11_image 0 := ⟨by decide +kernel, by decide +kernel, by decide +kernel⟩
theorem kcy_m11_back : kCy m11_back 1 := ⟨by decide +kernel, by decide +kernel, by decide +kernel⟩
theorem kcy_m11_led : kCy m11_led 1 := ⟨by decide +kernel, by decide +kernel, by decide +kernel⟩
theorem kcy_m11_size : kCy m11_size 1 := ⟨by decide +kernel, by decide +kernel, by decide +kernel⟩
theorem kcy_m11_trouble : kCy m11_trouble 0 := ⟨by decide +kernel, by decide +kernel, by decide +kernel⟩
theorem kcy_mJ_abs_J9 : kCy mJ_abs_J9 1 := ⟨by decide +kernel, by decide +kernel, by decide +kernel⟩
theorem kcy_mJ_max_J9 : kCy mJ_max_J9 2 := ⟨by decide +kernel, by decide +kernel, by decide +kernel⟩
theorem kcy_mJ_min_J9 : kCy mJ_min_J9 2 := ⟨by decide +kernel, by decide +kernel, by decide +kernel⟩
theorem kcy_mJ_length_J0 : kCy mJ_length_J0 0 := ⟨by decide +kernel, by decide +kernel, by decide +kernel⟩
theorem kcy_mJ_charAt_J0 : kCy mJ_charAt_J0 1 := ⟨by decide +kernel, by decide +kernel, by decide +kernel⟩
theorem kcy_mJ_coder_J0 : kCy mJ_coder_J0 0 := ⟨by decide +kernel, by decide +kernel, by decide +kernel⟩
theorem kcy_mJ_isLatin1_J0 : kCy mJ_isLatin1_J0 0 := ⟨by decide +kernel, by decide +kernel, by decide +kernel⟩
theorem kcy_mJ_checkIndex_J0 : kCy mJ_checkIndex_J0 2 := ⟨by decide +kernel, by decide +kernel, by decide +kernel⟩
theorem kcy_mJ_charAt_J1 : kCy mJ_charAt_J1 2 := ⟨by decide +kernel, by decide +kernel, by decide +kernel⟩
theorem kcy_mJ_getChar_J2 : kCy mJ_getChar_J2 2 := ⟨by decide +kernel, by decide +kernel, by decide +kernel⟩
theorem kcy_mJ_length_J2 : kCy mJ_length_J2 1 := ⟨by decide +kernel, by decide +kernel, by decide +kernel⟩
theorem kcy_mJ_charAt_J2 : kCy mJ_charAt_J2 2 := ⟨by decide +kernel, by decide +kernel, by decide +kernel⟩
theorem kcy_mJ_checkIndex_J2 : kCy mJ_checkIndex_J2 2 := ⟨by decide +kernel, by decide +kernel, by decide +kernel⟩
theorem kcy_mJ_fill_J7 : kCy mJ_fill_J7 2 := ⟨by decide +kernel, by decide +kernel, by decide +kernel⟩
theorem kcy_mJ_checkIndex_J3 : kCy mJ_checkIndex_J3 3 := ⟨by decide +kernel, by decide +kernel, by decide +kernel⟩
theorem kc10_122 : kCv kR10 122 m10_putBytes 1 := ⟨kin2 190 (by decide +kernel) rfl, kwm_m10_putBytes, kwl_m10_putBytes, kwi_m10_putBytes, kwc_m10_putBytes, kcy_m10_putBytes⟩
theorem kc10_126 : kCs kR10 126 m10_upTo 2 := ⟨kin2 198 (by decide +kernel) rfl, kws_m10_upTo, kwi_m10_upTo, kwc_m10_upTo, kcy_m10_upTo⟩
theorem kc10_130 : kCv kR10 130 m10_refuse 1 := ⟨kin2 201 (by decide +kernel) rfl, kwm_m10_refuse, kwl_m10_refuse, kwi_m10_refuse, kwc_m10_refuse, kcy_m10_refuse⟩
theorem kc10_134 : kCv kR10 134 m7_read 2 := ⟨kin2 205 (by decide +kernel) rfl, kwm_m7_read, kwl_m7_read, kwi_m7_read, kwc_m7_read, kcy_m7_read⟩
theorem kc7_26 : kCv kR7 26 m5_clear 0 := ⟨kin2 209 (by decide +kernel) rfl, kwm_m5_clear, kwl_m5_clear, kwi_m5_clear, kwc_m5_clear, kcy_m5_clear⟩
theorem kc5_64 : kCs kR5 64 mJ_fill_J7 2 := ⟨kin2 213 (by decide +kernel) rfl, kws_mJ_fill_J7, kwi_mJ_fill_J7, kwc_mJ_fill_J7, kcy_mJ_fill_J7⟩
theorem kc7_31 : kCs kR7 31 mJ_min_J9 2 := ⟨kin2 216 (by decide +kernel) rfl, kws_mJ_min_J9, kwi_mJ_min_J9, kwc_mJ_min_J9, kcy_mJ_min_J9⟩
theorem kc7_50 : kCv kR7 50 m7_next 0 := ⟨kin2 219 (by decide +kernel) rfl, kwm_m7_next, kwl_m7_next, kwi_m7_next, kwc_m7_next, kcy_m7_next⟩
theorem kc7_73 : kCs kR7 73 m7_isLetter 1 := ⟨kin2 223 (by decide +kernel) rfl, kws_m7_isLetter, kwi_m7_isLetter, kwc_m7_isLetter, kcy_m7_isLetter⟩
theorem kc7_76 : kCv kR7 76 m7_takeLetters 0 := ⟨kin2 226 (by decide +kernel) rfl, kwm_m7_takeLetters, kwl_m7_takeLetters, kwi_m7_takeLetters, kwc_m7_takeLetters, kcy_m7_takeLetters⟩
theorem kc7_79 : kCs kR7 79 m7_isDigit 1 := ⟨kin2 230 (by decide +kernel) rfl, kws_m7_isDigit, kwi_m7_isDigit, kwc_m7_isDigit, kcy_m7_isDigit⟩
theorem kc7_82 : kCv kR7 82 m7_takeDigits 0 := ⟨kin2 233 (by decide +kernel) rfl, kwm_m7_takeDigits, kwl_m7_takeDigits, kwi_m7_takeDigits, kwc_m7_takeDigits, kcy_m7_takeDigits⟩
theorem kc7_53 : kCv kR7 53 m7_readHead 0 := ⟨kin2 237 (by decide +kernel) rfl, kwm_m7_readHead, kwl_m7_readHead, kwi_m7_readHead, kwc_m7_readHead, kcy_m7_readHead⟩
theorem kc7_99 : kCv kR7 99 m7_isWord 1 := ⟨kin3 2 (by decide +kernel) rfl, kwm_m7_isWord, kwl_m7_isWord, kwi_m7_isWord, kwc_m7_isWord, kcy_m7_isWord⟩
theorem kc7_88 : kCv kR7 88 mJ_length_J0 0 := ⟨kin3 6 (by decide +kernel) rfl, kwm_mJ_length_J0, kwl_mJ_length_J0, kwi_mJ_length_J0, kwc_mJ_length_J0, kcy_mJ_length_J0⟩
theorem kc7_94 : kCv kR7 94 mJ_charAt_J0 1 := ⟨kin3 16 (by decide +kernel) rfl, kwm_mJ_charAt_J0, kwl_mJ_charAt_J0, kwi_mJ_charAt_J0, kwc_mJ_charAt_J0, kcy_mJ_charAt_J0⟩
theorem kc7_127 : kCv kR7 127 m7_isHeadOfLine 0 := ⟨kin3 54 (by decide +kernel) rfl, kwm_m7_isHeadOfLine, kwl_m7_isHeadOfLine, kwi_m7_isHeadOfLine, kwc_m7_isHeadOfLine, kcy_m7_isHeadOfLine⟩
theorem kc7_63 : kCv kR7 63 m7_found 1 := ⟨kin3 63 (by decide +kernel) rfl, kwm_m7_found, kwl_m7_found, kwi_m7_found, kwc_m7_found, kcy_m7_found⟩
theorem kc7_135 : kCv kR7 135 m7_takeWord 1 := ⟨kin3 68 (by decide +kernel) rfl, kwm_m7_takeWord, kwl_m7_takeWord, kwi_m7_takeWord, kwc_m7_takeWord, kcy_m7_takeWord⟩
theorem kc7_138 : kCv kR7 138 m7_seesWhole 2 := ⟨kin3 72 (by decide +kernel) rfl, kwm_m7_seesWhole, kwl_m7_seesWhole, kwi_m7_seesWhole, kwc_m7_seesWhole, kcy_m7_seesWhole⟩
theorem kc7_60 : kCv kR7 60 m7_readLine 0 := ⟨kin3 77 (by decide +kernel) rfl, kwm_m7_readLine, kwl_m7_readLine, kwi_m7_readLine, kwc_m7_readLine, kcy_m7_readLine⟩
theorem kc7_147 : kCv kR7 147 m7_readPair 0 := ⟨kin3 81 (by decide +kernel) rfl, kwm_m7_readPair, kwl_m7_readPair, kwi_m7_readPair, kwc_m7_readPair, kcy_m7_readPair⟩
theorem kc7_130 : kCv kR7 130 m7_pairOfName 0 := ⟨kin3 85 (by decide +kernel) rfl, kwm_m7_pairOfName, kwl_m7_pairOfName, kwi_m7_pairOfName, kwc_m7_pairOfName, kcy_m7_pairOfName⟩
theorem kc7_123 : kCv kR7 123 m7_isSame 2 := ⟨kin3 89 (by decide +kernel) rfl, kwm_m7_isSame, kwl_m7_isSame, kwi_m7_isSame, kwc_m7_isSame, kcy_m7_isSame⟩
theorem kc7_165 : kCv kR7 165 m7_lawOfWord 0 := ⟨kin3 93 (by decide +kernel) rfl, kwm_m7_lawOfWord, kwl_m7_lawOfWord, kwi_m7_lawOfWord, kwc_m7_lawOfWord, kcy_m7_lawOfWord⟩
theorem kc7_150 : kCv kR7 150 m7_readContract 0 := ⟨kin3 103 (by decide +kernel) rfl, kwm_m7_readContract, kwl_m7_readContract, kwi_m7_readContract, kwc_m7_readContract, kcy_m7_readContract⟩
theorem kc7_178 : kCv kR7 178 m7_seenPair 0 := ⟨kin3 107 (by decide +kernel) rfl, kwm_m7_seenPair, kwl_m7_seenPair, kwi_m7_seenPair, kwc_m7_seenPair, kcy_m7_seenPair⟩
theorem kc7_153 : kCv kR7 153 m7_readDebt 0 := ⟨kin3 112 (by decide +kernel) rfl, kwm_m7_readDebt, kwl_m7_readDebt, kwi_m7_readDebt, kwc_m7_readDebt, kcy_m7_readDebt⟩
theorem kc7_156 : kCv kR7 156 m7_readUnsure 0 := ⟨kin3 116 (by decide +kernel) rfl, kwm_m7_readUnsure, kwl_m7_readUnsure, kwi_m7_readUnsure, kwc_m7_readUnsure, kcy_m7_readUnsure⟩
theorem kc7_198 : kCv kR7 198 m5_isUnsure 1 := ⟨kin3 120 (by decide +kernel) rfl, kwm_m5_isUnsure, kwl_m5_isUnsure, kwi_m5_isUnsure, kwc_m5_isUnsure, kcy_m5_isUnsure⟩
theorem kc7_159 : kCv kR7 159 m7_readHeard 0 := ⟨kin3 124 (by decide +kernel) rfl, kwm_m7_readHeard, kwl_m7_readHeard, kwi_m7_readHeard, kwc_m7_readHeard, kcy_m7_readHeard⟩
theorem kc7_212 : kCv kR7 212 m5_isHeard 2 := ⟨kin3 129 (by decide +kernel) rfl, kwm_m5_isHeard, kwl_m5_isHeard, kwi_m5_isHeard, kwc_m5_isHeard, kcy_m5_isHeard⟩
theorem kc10_138 : kCv kR10 138 m4_begin 1 := ⟨kin3 133 (by decide +kernel) rfl, kwm_m4_begin, kwl_m4_begin, kwi_m4_begin, kwc_m4_begin, kcy_m4_begin⟩
theorem kc10_142 : kCv kR10 142 m3_forget 0 := ⟨kin3 140 (by decide +kernel) rfl, kwm_m3_forget, kwl_m3_forget, kwi_m3_forget, kwc_m3_forget, kcy_m3_forget⟩
theorem kc10_115 : kCv kR10 115 m10_isPair 1 := ⟨kin3 156 (by decide +kernel) rfl, kwm_m10_isPair, kwl_m10_isPair, kwi_m10_isPair, kwc_m10_isPair, kcy_m10_isPair⟩
theorem kc10_154 : kCv kR10 154 m10_may_ 1 := ⟨kin3 160 (by decide +kernel) rfl, kwm_m10_may_, kwl_m10_may_, kwi_m10_may_, kwc_m10_may_, kcy_m10_may_⟩
theorem kc10_104 : kCv kR10 104 m10_may 2 := ⟨kin3 164 (by decide +kernel) rfl, kwm_m10_may, kwl_m10_may, kwi_m10_may, kwc_m10_may, kcy_m10_may⟩
theorem kc10_172 : kCv kR10 172 m10_isMore 1 := ⟨kin3 168 (by decide +kernel) rfl, kwm_m10_isMore, kwl_m10_isMore, kwi_m10_isMore, kwc_m10_isMore, kcy_m10_isMore⟩
theorem kc10_184 : kCv kR10 184 m10_sayingBehind 2 := ⟨kin3 176 (by decide +kernel) rfl, kwm_m10_sayingBehind, kwl_m10_sayingBehind, kwi_m10_sayingBehind, kwc_m10_sayingBehind, kcy_m10_sayingBehind⟩
theorem kc10_175 : kCv kR10 175 m9_begin 3 := ⟨kin3 180 (by decide +kernel) rfl, kwm_m9_begin, kwl_m9_begin, kwi_m9_begin, kwc_m9_begin, kcy_m9_begin⟩
theorem kc9_7 : kCv kR9 7 m9_beginAsTold 2 := ⟨kin3 184 (by decide +kernel) rfl, kwm_m9_beginAsTold, kwl_m9_beginAsTold, kwi_m9_beginAsTold, kwc_m9_beginAsTold, kcy_m9_beginAsTold⟩
theorem kc10_178 : kCv kR10 178 m9_goOn 1 := ⟨kin3 188 (by decide +kernel) rfl, kwm_m9_goOn, kwl_m9_goOn, kwi_m9_goOn, kwc_m9_goOn, kcy_m9_goOn⟩
theorem kc9_69 : kCv kR9 69 m9_go 0 := ⟨kin3 192 (by decide +kernel) rfl, kwm_m9_go, kwl_m9_go, kwi_m9_go, kwc_m9_go, kcy_m9_go⟩
theorem kc9_53 : kCv kR9 53 m9_byLaw 0 := ⟨kin3 196 (by decide +kernel) rfl, kwm_m9_byLaw, kwl_m9_byLaw, kwi_m9_byLaw, kwc_m9_byLaw, kcy_m9_byLaw⟩
theorem kc9_57 : kCs kR9 57 mJ_min_J9 2 := ⟨kin3 200 (by decide +kernel) rfl, kws_mJ_min_J9, kwi_mJ_min_J9, kwc_mJ_min_J9, kcy_mJ_min_J9⟩
theorem kc9_63 : kCs kR9 63 mJ_max_J9 2 := ⟨kin3 201 (by decide +kernel) rfl, kws_mJ_max_J9, kwi_mJ_max_J9, kwc_mJ_max_J9, kcy_mJ_max_J9⟩
theorem kc9_66 : kCv kR9 66 m9_goDumb 0 := ⟨kin3 204 (by decide +kernel) rfl, kwm_m9_goDumb, kwl_m9_goDumb, kwi_m9_goDumb, kwc_m9_goDumb, kcy_m9_goDumb⟩
theorem kc10_188 : kCv kR10 188 m9_go 0 := ⟨kin3 212 (by decide +kernel) rfl, kwm_m9_go, kwl_m9_go, kwi_m9_go, kwc_m9_go, kcy_m9_go⟩
theorem kc10_191 : kCv kR10 191 m9_isMore 0 := ⟨kin3 217 (by decide +kernel) rfl, kwm_m9_isMore, kwl_m9_isMore, kwi_m9_isMore, kwc_m9_isMore, kcy_m9_isMore⟩
theorem kc10_194 : kCv kR10 194 m9_countMore 1 := ⟨kin3 225 (by decide +kernel) rfl, kwm_m9_countMore, kwl_m9_countMore, kwi_m9_countMore, kwc_m9_countMore, kcy_m9_countMore⟩
theorem kc9_72 : kCv kR9 72 m9_isMore 0 := ⟨kin3 229 (by decide +kernel) rfl, kwm_m9_isMore, kwl_m9_isMore, kwi_m9_isMore, kwc_m9_isMore, kcy_m9_isMore⟩
theorem kc10_201 : kCv kR10 201 m10_goRound 1 := ⟨kin3 234 (by decide +kernel) rfl, kwm_m10_goRound, kwl_m10_goRound, kwi_m10_goRound, kwc_m10_goRound, kcy_m10_goRound⟩
theorem kc10_197 : kCv kR10 197 m8_follow 1 := ⟨kin3 238 (by decide +kernel) rfl, kwm_m8_follow, kwl_m8_follow, kwi_m8_follow, kwc_m8_follow, kcy_m8_follow⟩
theorem kc8_18 : kCs kR8 18 mJ_fill_J7 2 := ⟨kin4 2 (by decide +kernel) rfl, kws_mJ_fill_J7, kwi_mJ_fill_J7, kwc_mJ_fill_J7, kcy_mJ_fill_J7⟩
theorem kc8_24 : kCs kR8 24 m8_stateOf 1 := ⟨kin4 3 (by decide +kernel) rfl, kws_m8_stateOf, kwi_m8_stateOf, kwc_m8_stateOf, kcy_m8_stateOf⟩
theorem kc8_37 : kCs kR8 37 mJ_max_J9 2 := ⟨kin4 6 (by decide +kernel) rfl, kws_mJ_max_J9, kwi_mJ_max_J9, kwc_mJ_max_J9, kcy_mJ_max_J9⟩
theorem kc8_58 : kCs kR8 58 mJ_min_J9 2 := ⟨kin4 7 (by decide +kernel) rfl, kws_mJ_min_J9, kwi_mJ_min_J9, kwc_mJ_min_J9, kcy_mJ_min_J9⟩
theorem kc8_34 : kCv kR8 34 m9_go 0 := ⟨kin4 8 (by decide +kernel) rfl, kwm_m9_go, kwl_m9_go, kwi_m9_go, kwc_m9_go, kcy_m9_go⟩
theorem kc8_49 : kCv kR8 49 m8_shortenRound 0 := ⟨kin4 9 (by decide +kernel) rfl, kwm_m8_shortenRound, kwl_m8_shortenRound, kwi_m8_shortenRound, kwc_m8_shortenRound, kcy_m8_shortenRound⟩
theorem kc8_61 : kCv kR8 61 m8_comesAgainBehind 1 := ⟨kin4 13 (by decide +kernel) rfl, kwm_m8_comesAgainBehind, kwl_m8_comesAgainBehind, kwi_m8_comesAgainBehind, kwc_m8_comesAgainBehind, kcy_m8_comesAgainBehind⟩
theorem kc10_211 : kCv kR10 211 m8_saying 1 := ⟨kin4 26 (by decide +kernel) rfl, kwm_m8_saying, kwl_m8_saying, kwi_m8_saying, kwc_m8_saying, kcy_m8_saying⟩
theorem kc10_214 : kCv kR10 214 m8_most 0 := ⟨kin4 34 (by decide +kernel) rfl, kwm_m8_most, kwl_m8_most, kwi_m8_most, kwc_m8_most, kcy_m8_most⟩
theorem kc10_218 : kCv kR10 218 m8_least 0 := ⟨kin4 42 (by decide +kernel) rfl, kwm_m8_least, kwl_m8_least, kwi_m8_least, kwc_m8_least, kcy_m8_least⟩
theorem kc10_221 : kCv kR10 221 m10_areUnlike 2 := ⟨kin4 54 (by decide +kernel) rfl, kwm_m10_areUnlike, kwl_m10_areUnlike, kwi_m10_areUnlike, kwc_m10_areUnlike, kcy_m10_areUnlike⟩
theorem kc10_224 : kCv kR10 224 m10_sayAllBehind 1 := ⟨kin4 62 (by decide +kernel) rfl, kwm_m10_sayAllBehind, kwl_m10_sayAllBehind, kwi_m10_sayAllBehind, kwc_m10_sayAllBehind, kcy_m10_sayAllBehind⟩
theorem kc10_227 : kCs kR10 227 m10_firstMost 2 := ⟨kin4 66 (by decide +kernel) rfl, kws_m10_firstMost, kwi_m10_firstMost, kwc_m10_firstMost, kcy_m10_firstMost⟩
theorem kc10_231 : kCs kR10 231 mJ_abs_J9 1 := ⟨kin4 77 (by decide +kernel) rfl, kws_mJ_abs_J9, kwi_mJ_abs_J9, kwc_mJ_abs_J9, kcy_mJ_abs_J9⟩
theorem kc10_236 : kCv kR10 236 m10_bitsOfMore 1 := ⟨kin4 88 (by decide +kernel) rfl, kwm_m10_bitsOfMore, kwl_m10_bitsOfMore, kwi_m10_bitsOfMore, kwc_m10_bitsOfMore, kcy_m10_bitsOfMore⟩
theorem kc10_247 : kCv kR10 247 m10_bestEvery 2 := ⟨kin4 96 (by decide +kernel) rfl, kwm_m10_bestEvery, kwl_m10_bestEvery, kwi_m10_bestEvery, kwc_m10_bestEvery, kcy_m10_bestEvery⟩
theorem kc10_243 : kCv kR10 243 m10_sayingByEvery 3 := ⟨kin4 100 (by decide +kernel) rfl, kwm_m10_sayingByEvery, kwl_m10_sayingByEvery, kwi_m10_sayingByEvery, kwc_m10_sayingByEvery, kcy_m10_sayingByEvery⟩
theorem kc10_256 : kCv kR10 256 m10_mayFit 0 := ⟨kin4 120 (by decide +kernel) rfl, kwm_m10_mayFit, kwl_m10_mayFit, kwi_m10_mayFit, kwc_m10_mayFit, kcy_m10_mayFit⟩
theorem kc10_253 : kCv kR10 253 m1_find 1 := ⟨kin4 124 (by decide +kernel) rfl, kwm_m1_find, kwl_m1_find, kwi_m1_find, kwc_m1_find, kcy_m1_find⟩
theorem kc1_37 : kCv kR1 37 m5_isUnsure 1 := ⟨kin4 128 (by decide +kernel) rfl, kwm_m5_isUnsure, kwl_m5_isUnsure, kwi_m5_isUnsure, kwc_m5_isUnsure, kcy_m5_isUnsure⟩
theorem kc1_44 : kCv kR1 44 m1_fitsHeard 3 := ⟨kin4 129 (by decide +kernel) rfl, kwm_m1_fitsHeard, kwl_m1_fitsHeard, kwi_m1_fitsHeard, kwc_m1_fitsHeard, kcy_m1_fitsHeard⟩
theorem kc1_67 : kCv kR1 67 m9_beginAsTold 2 := ⟨kin4 133 (by decide +kernel) rfl, kwm_m9_beginAsTold, kwl_m9_beginAsTold, kwi_m9_beginAsTold, kwc_m9_beginAsTold, kcy_m9_beginAsTold⟩
theorem kc1_77 : kCv kR1 77 m9_goOn 1 := ⟨kin4 134 (by decide +kernel) rfl, kwm_m9_goOn, kwl_m9_goOn, kwi_m9_goOn, kwc_m9_goOn, kcy_m9_goOn⟩
theorem kc1_57 : kCv kR1 57 m1_isFit 2 := ⟨kin4 135 (by decide +kernel) rfl, kwm_m1_isFit, kwl_m1_isFit, kwi_m1_isFit, kwc_m1_isFit, kcy_m1_isFit⟩
theorem kc10_265 : kCv kR10 265 m1_inSome 0 := ⟨kin4 147 (by decide +kernel) rfl, kwm_m1_inSome, kwl_m1_inSome, kwi_m1_inSome, kwc_m1_inSome, kcy_m1_inSome⟩
theorem kc10_268 : kCv kR10 268 m1_inAll 0 := ⟨kin4 155 (by decide +kernel) rfl, kwm_m1_inAll, kwl_m1_inAll, kwi_m1_inAll, kwc_m1_inAll, kcy_m1_inAll⟩
theorem kc10_274 : kCv kR10 274 m1_bestQuestion 1 := ⟨kin4 163 (by decide +kernel) rfl, kwm_m1_bestQuestion, kwl_m1_bestQuestion, kwi_m1_bestQuestion, kwc_m1_bestQuestion, kcy_m1_bestQuestion⟩
theorem kc1_93 : kCv kR1 93 m1_leftAtMost 1 := ⟨kin4 167 (by decide +kernel) rfl, kwm_m1_leftAtMost, kwl_m1_leftAtMost, kwi_m1_leftAtMost, kwc_m1_leftAtMost, kcy_m1_leftAtMost⟩
theorem kc1_87 : kCs kR1 87 mJ_max_J9 2 := ⟨kin4 171 (by decide +kernel) rfl, kws_mJ_max_J9, kwi_mJ_max_J9, kwc_mJ_max_J9, kcy_mJ_max_J9⟩
theorem kc10_277 : kCv kR10 277 m1_leftAtMost 1 := ⟨kin4 176 (by decide +kernel) rfl, kwm_m1_leftAtMost, kwl_m1_leftAtMost, kwi_m1_leftAtMost, kwc_m1_leftAtMost, kcy_m1_leftAtMost⟩
theorem kc10_283 : kCv kR10 283 m10_apartByTold 1 := ⟨kin4 181 (by decide +kernel) rfl, kwm_m10_apartByTold, kwl_m10_apartByTold, kwi_m10_apartByTold, kwc_m10_apartByTold, kcy_m10_apartByTold⟩
theorem kc10_289 : kCv kR10 289 m9_beginAsTold 2 := ⟨kin4 185 (by decide +kernel) rfl, kwm_m9_beginAsTold, kwl_m9_beginAsTold, kwi_m9_beginAsTold, kwc_m9_beginAsTold, kcy_m9_beginAsTold⟩
theorem kc10_303 : kCv kR10 303 m0_reckon 2 := ⟨kin4 199 (by decide +kernel) rfl, kwm_m0_reckon, kwl_m0_reckon, kwi_m0_reckon, kwc_m0_reckon, kcy_m0_reckon⟩
theorem kc0_27 : kCs kR0 27 mJ_min_J9 2 := ⟨kin4 203 (by decide +kernel) rfl, kws_mJ_min_J9, kwi_mJ_min_J9, kwc_mJ_min_J9, kcy_mJ_min_J9⟩
theorem kc10_310 : kCv kR10 310 m0_owedInAll 0 := ⟨kin4 208 (by decide +kernel) rfl, kwm_m0_owedInAll, kwl_m0_owedInAll, kwi_m0_owedInAll, kwc_m0_owedInAll, kcy_m0_owedInAll⟩
theorem kc0_42 : kCs kR0 42 mJ_max_J9 2 := ⟨kin4 212 (by decide +kernel) rfl, kws_mJ_max_J9, kwi_mJ_max_J9, kwc_mJ_max_J9, kcy_mJ_max_J9⟩
theorem kc10_313 : kCv kR10 313 m0_fewestPayments 0 := ⟨kin4 221 (by decide +kernel) rfl, kwm_m0_fewestPayments, kwl_m0_fewestPayments, kwi_m0_fewestPayments, kwc_m0_fewestPayments, kcy_m0_fewestPayments⟩
theorem kc10_316 : kCv kR10 316 m0_findRing 3 := ⟨kin4 229 (by decide +kernel) rfl, kwm_m0_findRing, kwl_m0_findRing, kwi_m0_findRing, kwc_m0_findRing, kcy_m0_findRing⟩
theorem kc0_48 : kCv kR0 48 m0_countDebtsHome 2 := ⟨kin4 233 (by decide +kernel) rfl, kwm_m0_countDebtsHome, kwl_m0_countDebtsHome, kwi_m0_countDebtsHome, kwc_m0_countDebtsHome, kcy_m0_countDebtsHome⟩
theorem kc0_60 : kCs kR0 60 mJ_fill_J7 2 := ⟨kin4 237 (by decide +kernel) rfl, kws_mJ_fill_J7, kwi_mJ_fill_J7, kwc_mJ_fill_J7, kcy_mJ_fill_J7⟩
theorem kc0_52 : kCv kR0 52 m0_fewestDebtsBehind 2 := ⟨kin4 238 (by decide +kernel) rfl, kwm_m0_fewestDebtsBehind, kwl_m0_fewestDebtsBehind, kwi_m0_fewestDebtsBehind, kwc_m0_fewestDebtsBehind, kcy_m0_fewestDebtsBehind⟩
theorem kc0_56 : kCv kR0 56 m0_firstNext 3 := ⟨kin5 2 (by decide +kernel) rfl, kwm_m0_firstNext, kwl_m0_firstNext, kwi_m0_firstNext, kwc_m0_firstNext, kcy_m0_firstNext⟩
theorem kc10_326 : kCs kR10 326 m10_share 3 := ⟨kin5 14 (by decide +kernel) rfl, kws_m10_share, kwi_m10_share, kwc_m10_share, kcy_m10_share⟩
theorem kc10_334 : kCs kR10 334 m10_isRestAt 2 := ⟨kin5 21 (by decide +kernel) rfl, kws_m10_isRestAt, kwi_m10_isRestAt, kwc_m10_isRestAt, kcy_m10_isRestAt⟩
theorem kc10_330 : kCs kR10 330 m10_isRest 3 := ⟨kin5 24 (by decide +kernel) rfl, kws_m10_isRest, kwi_m10_isRest, kwc_m10_isRest, kcy_m10_isRest⟩
theorem kc10_339 : kCv kR10 339 m2_reckon 3 := ⟨kin5 36 (by decide +kernel) rfl, kwm_m2_reckon, kwl_m2_reckon, kwi_m2_reckon, kwc_m2_reckon, kcy_m2_reckon⟩
theorem kc2_22 : kCv kR2 22 m2_lookBy 3 := ⟨kin5 40 (by decide +kernel) rfl, kwm_m2_lookBy, kwl_m2_lookBy, kwi_m2_lookBy, kwc_m2_lookBy, kcy_m2_lookBy⟩
theorem kc2_30 : kCs kR2 30 mJ_fill_J7 2 := ⟨kin5 44 (by decide +kernel) rfl, kws_mJ_fill_J7, kwi_mJ_fill_J7, kwc_mJ_fill_J7, kcy_mJ_fill_J7⟩
theorem kc10_348 : kCv kR10 348 m6_reduce 2 := ⟨kin5 46 (by decide +kernel) rfl, kwm_m6_reduce, kwl_m6_reduce, kwi_m6_reduce, kwc_m6_reduce, kcy_m6_reduce⟩
theorem kc10_352 : kCv kR10 352 m6_part 1 := ⟨kin5 50 (by decide +kernel) rfl, kwm_m6_part, kwl_m6_part, kwi_m6_part, kwc_m6_part, kcy_m6_part⟩
theorem kc10_357 : kCv kR10 357 m2_look 3 := ⟨kin5 59 (by decide +kernel) rfl, kwm_m2_look, kwl_m2_look, kwi_m2_look, kwc_m2_look, kcy_m2_look⟩
theorem kc10_364 : kCv kR10 364 m10_goWithDumb 3 := ⟨kin5 75 (by decide +kernel) rfl, kwm_m10_goWithDumb, kwl_m10_goWithDumb, kwi_m10_goWithDumb, kwc_m10_goWithDumb, kcy_m10_goWithDumb⟩
theorem kc10_375 : kCv kR10 375 m9_goDumb 0 := ⟨kin5 79 (by decide +kernel) rfl, kwm_m9_goDumb, kwl_m9_goDumb, kwi_m9_goDumb, kwc_m9_goDumb, kcy_m9_goDumb⟩
theorem kc10_368 : kCs kR10 368 m10_allChances 1 := ⟨kin5 80 (by decide +kernel) rfl, kws_m10_allChances, kwi_m10_allChances, kwc_m10_allChances, kcy_m10_allChances⟩
theorem kc10_380 : kCs kR10 380 m10_drawFrom 1 := ⟨kin5 92 (by decide +kernel) rfl, kws_m10_drawFrom, kwi_m10_drawFrom, kwc_m10_drawFrom, kcy_m10_drawFrom⟩
theorem kc10_386 : kCv kR10 386 m3_keep 1 := ⟨kin5 97 (by decide +kernel) rfl, kwm_m3_keep, kwl_m3_keep, kwi_m3_keep, kwc_m3_keep, kcy_m3_keep⟩
theorem kc3_25 : kCv kR3 25 m4_save 1 := ⟨kin5 101 (by decide +kernel) rfl, kwm_m4_save, kwl_m4_save, kwi_m4_save, kwc_m4_save, kcy_m4_save⟩
theorem kc3_29 : kCs kR3 29 mJ_min_J9 2 := ⟨kin5 105 (by decide +kernel) rfl, kws_mJ_min_J9, kwi_mJ_min_J9, kwc_mJ_min_J9, kcy_mJ_min_J9⟩
theorem kc10_396 : kCv kR10 396 m10_deny 1 := ⟨kin5 115 (by decide +kernel) rfl, kwm_m10_deny, kwl_m10_deny, kwi_m10_deny, kwc_m10_deny, kcy_m10_deny⟩
theorem kc10_400 : kCv kR10 400 m3_takeBack 1 := ⟨kin5 127 (by decide +kernel) rfl, kwm_m3_takeBack, kwl_m3_takeBack, kwi_m3_takeBack, kwc_m3_takeBack, kcy_m3_takeBack⟩
theorem kc3_35 : kCv kR3 35 m4_load 1 := ⟨kin5 131 (by decide +kernel) rfl, kwm_m4_load, kwl_m4_load, kwi_m4_load, kwc_m4_load, kcy_m4_load⟩
theorem kc10_403 : kCv kR10 403 m4_save 1 := ⟨kin5 139 (by decide +kernel) rfl, kwm_m4_save, kwl_m4_save, kwi_m4_save, kwc_m4_save, kcy_m4_save⟩
theorem kc10_407 : kCv kR10 407 m4_load 1 := ⟨kin5 144 (by decide +kernel) rfl, kwm_m4_load, kwl_m4_load, kwi_m4_load, kwc_m4_load, kcy_m4_load⟩
theorem kc10_413 : kCv kR10 413 m5_count 1 := ⟨kin5 149 (by decide +kernel) rfl, kwm_m5_count, kwl_m5_count, kwi_m5_count, kwc_m5_count, kcy_m5_count⟩
theorem kc11_164 : kCv kR11 164 m11_good 0 := ⟨kin6 131 (by decide +kernel) rfl, kwm_m11_good, kwl_m11_good, kwi_m11_good, kwc_m11_good, kcy_m11_good⟩
theorem kc11_146 : kCs kR11 146 m11_in 3 := ⟨kin6 135 (by decide +kernel) rfl, kws_m11_in, kwi_m11_in, kwc_m11_in, kcy_m11_in⟩
theorem kc11_167 : kCv kR11 167 m11_no 1 := ⟨kin6 138 (by decide +kernel) rfl, kwm_m11_no, kwl_m11_no, kwi_m11_no, kwc_m11_no, kcy_m11_no⟩
theorem kc11_118 : kCv kR11 118 m11_next 0 := ⟨kin6 142 (by decide +kernel) rfl, kwm_m11_next, kwl_m11_next, kwi_m11_next, kwc_m11_next, kcy_m11_next⟩
theorem kc11_74 : kCv kR11 74 m11_see 1 := ⟨kin6 146 (by decide +kernel) rfl, kwm_m11_see, kwl_m11_see, kwi_m11_see, kwc_m11_see, kcy_m11_see⟩
theorem kc11_90 : kCs kR11 90 m11_isSmall 1 := ⟨kin6 150 (by decide +kernel) rfl, kws_m11_isSmall, kwi_m11_isSmall, kwc_m11_isSmall, kcy_m11_isSmall⟩
theorem kc11_94 : kCs kR11 94 m11_isDigit 1 := ⟨kin6 153 (by decide +kernel) rfl, kws_m11_isDigit, kwi_m11_isDigit, kwc_m11_isDigit, kcy_m11_isDigit⟩
theorem kc11_170 : kCv kR11 170 m11_readLine 0 := ⟨kin6 156 (by decide +kernel) rfl, kwm_m11_readLine, kwl_m11_readLine, kwi_m11_readLine, kwc_m11_readLine, kcy_m11_readLine⟩
theorem kc11_114 : kCv kR11 114 m11_isWord 1 := ⟨kin6 161 (by decide +kernel) rfl, kwm_m11_isWord, kwl_m11_isWord, kwi_m11_isWord, kwc_m11_isWord, kcy_m11_isWord⟩
theorem kc11_104 : kCv kR11 104 mJ_length_J0 0 := ⟨kin6 165 (by decide +kernel) rfl, kwm_mJ_length_J0, kwl_mJ_length_J0, kwi_mJ_length_J0, kwc_mJ_length_J0, kcy_mJ_length_J0⟩
theorem kc11_110 : kCv kR11 110 mJ_charAt_J0 1 := ⟨kin6 166 (by decide +kernel) rfl, kwm_mJ_charAt_J0, kwl_mJ_charAt_J0, kwi_mJ_charAt_J0, kwc_mJ_charAt_J0, kcy_mJ_charAt_J0⟩
theorem kc11_186 : kCv kR11 186 m11_pierLine 0 := ⟨kin6 167 (by decide +kernel) rfl, kwm_m11_pierLine, kwl_m11_pierLine, kwi_m11_pierLine, kwc_m11_pierLine, kcy_m11_pierLine⟩
theorem kc11_124 : kCv kR11 124 m11_wrong 2 := ⟨kin6 171 (by decide +kernel) rfl, kwm_m11_wrong, kwl_m11_wrong, kwi_m11_wrong, kwc_m11_wrong, kcy_m11_wrong⟩
theorem kc11_210 : kCv kR11 210 m11_after 3 := ⟨kin6 176 (by decide +kernel) rfl, kwm_m11_after, kwl_m11_after, kwi_m11_after, kwc_m11_after, kcy_m11_after⟩
theorem kc11_157 : kCv kR11 157 m11_must 1 := ⟨kin6 180 (by decide +kernel) rfl, kwm_m11_must, kwl_m11_must, kwi_m11_must, kwc_m11_must, kcy_m11_must⟩
theorem kc11_121 : kCv kR11 121 m11_takesWord 1 := ⟨kin6 184 (by decide +kernel) rfl, kwm_m11_takesWord, kwl_m11_takesWord, kwi_m11_takesWord, kwc_m11_takesWord, kcy_m11_takesWord⟩
theorem kc11_161 : kCv kR11 161 m11_number 2 := ⟨kin6 188 (by decide +kernel) rfl, kwm_m11_number, kwl_m11_number, kwi_m11_number, kwc_m11_number, kcy_m11_number⟩
theorem kc11_150 : kCv kR11 150 m11_numberHere 2 := ⟨kin6 192 (by decide +kernel) rfl, kwm_m11_numberHere, kwl_m11_numberHere, kwi_m11_numberHere, kwc_m11_numberHere, kcy_m11_numberHere⟩
theorem kc11_154 : kCv kR11 154 m11_pass 0 := ⟨kin6 196 (by decide +kernel) rfl, kwm_m11_pass, kwl_m11_pass, kwi_m11_pass, kwc_m11_pass, kcy_m11_pass⟩
theorem kc11_189 : kCv kR11 189 m11_begins 2 := ⟨kin6 202 (by decide +kernel) rfl, kwm_m11_begins, kwl_m11_begins, kwi_m11_begins, kwc_m11_begins, kcy_m11_begins⟩
theorem kc11_193 : kCv kR11 193 m11_pairLine 0 := ⟨kin6 206 (by decide +kernel) rfl, kwm_m11_pairLine, kwl_m11_pairLine, kwi_m11_pairLine, kwc_m11_pairLine, kcy_m11_pairLine⟩
theorem kc11_216 : kCv kR11 216 m11_newName 1 := ⟨kin6 210 (by decide +kernel) rfl, kwm_m11_newName, kwl_m11_newName, kwi_m11_newName, kwc_m11_newName, kcy_m11_newName⟩
theorem kc11_140 : kCv kR11 140 m11_mustName 0 := ⟨kin6 214 (by decide +kernel) rfl, kwm_m11_mustName, kwl_m11_mustName, kwi_m11_mustName, kwc_m11_mustName, kcy_m11_mustName⟩
theorem kc11_143 : kCv kR11 143 m11_find 0 := ⟨kin6 222 (by decide +kernel) rfl, kwm_m11_find, kwl_m11_find, kwi_m11_find, kwc_m11_find, kcy_m11_find⟩
theorem kc11_196 : kCv kR11 196 m11_contractLine 0 := ⟨kin6 232 (by decide +kernel) rfl, kwm_m11_contractLine, kwl_m11_contractLine, kwi_m11_contractLine, kwc_m11_contractLine, kcy_m11_contractLine⟩
theorem kc11_232 : kCv kR11 232 m11_pairHere 0 := ⟨kin6 236 (by decide +kernel) rfl, kwm_m11_pairHere, kwl_m11_pairHere, kwi_m11_pairHere, kwc_m11_pairHere, kcy_m11_pairHere⟩
theorem kc11_199 : kCv kR11 199 m11_debtLine 0 := ⟨kin7 1 (by decide +kernel) rfl, kwm_m11_debtLine, kwl_m11_debtLine, kwi_m11_debtLine, kwc_m11_debtLine, kcy_m11_debtLine⟩
theorem kc11_202 : kCv kR11 202 m11_unsureLine 0 := ⟨kin7 5 (by decide +kernel) rfl, kwm_m11_unsureLine, kwl_m11_unsureLine, kwi_m11_unsureLine, kwc_m11_unsureLine, kcy_m11_unsureLine⟩
theorem kc11_205 : kCv kR11 205 m11_heardLine 0 := ⟨kin7 9 (by decide +kernel) rfl, kwm_m11_heardLine, kwl_m11_heardLine, kwi_m11_heardLine, kwc_m11_heardLine, kcy_m11_heardLine⟩
theorem kc11_173 : kCs kR11 173 m11_copy 5 := ⟨kin7 14 (by decide +kernel) rfl, kws_m11_copy, kwi_m11_copy, kwc_m11_copy, kcy_m11_copy⟩
theorem kc11_239 : kCv kR11 239 m11_isPair 1 := ⟨kin7 29 (by decide +kernel) rfl, kwm_m11_isPair, kwl_m11_isPair, kwi_m11_isPair, kwc_m11_isPair, kcy_m11_isPair⟩
theorem kc11_272 : kCv kR11 272 m11_isMore 1 := ⟨kin7 33 (by decide +kernel) rfl, kwm_m11_isMore, kwl_m11_isMore, kwi_m11_isMore, kwc_m11_isMore, kcy_m11_isMore⟩
theorem kc11_279 : kCv kR11 279 m11_aheadWhy 2 := ⟨kin7 41 (by decide +kernel) rfl, kwm_m11_aheadWhy, kwl_m11_aheadWhy, kwi_m11_aheadWhy, kwc_m11_aheadWhy, kcy_m11_aheadWhy⟩
theorem kc11_275 : kCv kR11 275 m11_why 2 := ⟨kin7 45 (by decide +kernel) rfl, kwm_m11_why, kwl_m11_why, kwi_m11_why, kwc_m11_why, kcy_m11_why⟩
theorem kc11_283 : kCv kR11 283 m11_saysIn 2 := ⟨kin7 49 (by decide +kernel) rfl, kwm_m11_saysIn, kwl_m11_saysIn, kwi_m11_saysIn, kwc_m11_saysIn, kcy_m11_saysIn⟩
theorem kc11_253 : kCv kR11 253 m11_saysBy 4 := ⟨kin7 53 (by decide +kernel) rfl, kwm_m11_saysBy, kwl_m11_saysBy, kwi_m11_saysBy, kwc_m11_saysBy, kcy_m11_saysBy⟩
theorem kc11_249 : kCv kR11 249 m11_behind 6 := ⟨kin7 57 (by decide +kernel) rfl, kwm_m11_behind, kwl_m11_behind, kwi_m11_behind, kwc_m11_behind, kcy_m11_behind⟩
theorem kc11_245 : kCv kR11 245 m11_byLaw 3 := ⟨kin7 61 (by decide +kernel) rfl, kwm_m11_byLaw, kwl_m11_byLaw, kwi_m11_byLaw, kwc_m11_byLaw, kcy_m11_byLaw⟩
theorem kc11_242 : kCv kR11 242 m11_within 1 := ⟨kin7 65 (by decide +kernel) rfl, kwm_m11_within, kwl_m11_within, kwi_m11_within, kwc_m11_within, kcy_m11_within⟩
theorem kc11_286 : kCv kR11 286 m11_goRound 1 := ⟨kin7 85 (by decide +kernel) rfl, kwm_m11_goRound, kwl_m11_goRound, kwi_m11_goRound, kwc_m11_goRound, kcy_m11_goRound⟩
theorem kc11_266 : kCv kR11 266 m11_isRoundOf 1 := ⟨kin7 89 (by decide +kernel) rfl, kwm_m11_isRoundOf, kwl_m11_isRoundOf, kwi_m11_isRoundOf, kwc_m11_isRoundOf, kcy_m11_isRoundOf⟩
theorem kc11_290 : kCv kR11 290 m11_extremeOf 2 := ⟨kin7 106 (by decide +kernel) rfl, kwm_m11_extremeOf, kwl_m11_extremeOf, kwi_m11_extremeOf, kwc_m11_extremeOf, kcy_m11_extremeOf⟩
theorem kc11_293 : kCv kR11 293 m11_areTwo 2 := ⟨kin7 122 (by decide +kernel) rfl, kwm_m11_areTwo, kwl_m11_areTwo, kwi_m11_areTwo, kwc_m11_areTwo, kcy_m11_areTwo⟩
theorem kc11_297 : kCv kR11 297 m11_mastersIn 1 := ⟨kin7 134 (by decide +kernel) rfl, kwm_m11_mastersIn, kwl_m11_mastersIn, kwi_m11_mastersIn, kwc_m11_mastersIn, kcy_m11_mastersIn⟩
theorem kc11_300 : kCv kR11 300 m11_bestEvery 2 := ⟨kin7 154 (by decide +kernel) rfl, kwm_m11_bestEvery, kwl_m11_bestEvery, kwi_m11_bestEvery, kwc_m11_bestEvery, kcy_m11_bestEvery⟩
theorem kc11_303 : kCv kR11 303 m11_isNeverMore 2 := ⟨kin7 166 (by decide +kernel) rfl, kwm_m11_isNeverMore, kwl_m11_isNeverMore, kwi_m11_isNeverMore, kwc_m11_isNeverMore, kcy_m11_isNeverMore⟩
theorem kc11_327 : kCv kR11 327 m11_seekSets 1 := ⟨kin7 178 (by decide +kernel) rfl, kwm_m11_seekSets, kwl_m11_seekSets, kwi_m11_seekSets, kwc_m11_seekSets, kcy_m11_seekSets⟩
theorem kc11_324 : kCv kR11 324 m11_wrongBy 1 := ⟨kin7 182 (by decide +kernel) rfl, kwm_m11_wrongBy, kwl_m11_wrongBy, kwi_m11_wrongBy, kwc_m11_wrongBy, kcy_m11_wrongBy⟩
theorem kc11_312 : kCv kR11 312 m11_saidThen 3 := ⟨kin7 186 (by decide +kernel) rfl, kwm_m11_saidThen, kwl_m11_saidThen, kwi_m11_saidThen, kwc_m11_saidThen, kcy_m11_saidThen⟩
theorem kc11_309 : kCv kR11 309 m11_stepBy 2 := ⟨kin7 190 (by decide +kernel) rfl, kwm_m11_stepBy, kwl_m11_stepBy, kwi_m11_stepBy, kwc_m11_stepBy, kcy_m11_stepBy⟩
theorem kc11_306 : kCs kR11 306 m11_hasBit 2 := ⟨kin7 194 (by decide +kernel) rfl, kws_m11_hasBit, kwi_m11_hasBit, kwc_m11_hasBit, kcy_m11_hasBit⟩
theorem kc11_333 : kCv kR11 333 m11_askOf 0 := ⟨kin7 213 (by decide +kernel) rfl, kwm_m11_askOf, kwl_m11_askOf, kwi_m11_askOf, kwc_m11_askOf, kcy_m11_askOf⟩
theorem kc11_330 : kCv kR11 330 m11_leavesOf 1 := ⟨kin7 217 (by decide +kernel) rfl, kwm_m11_leavesOf, kwl_m11_leavesOf, kwi_m11_leavesOf, kwc_m11_leavesOf, kcy_m11_leavesOf⟩
theorem kc11_336 : kCv kR11 336 m11_debtOf 2 := ⟨kin7 237 (by decide +kernel) rfl, kwm_m11_debtOf, kwl_m11_debtOf, kwi_m11_debtOf, kwc_m11_debtOf, kcy_m11_debtOf⟩
theorem kc11_339 : kCv kR11 339 m11_netOf 1 := ⟨kin8 5 (by decide +kernel) rfl, kwm_m11_netOf, kwl_m11_netOf, kwi_m11_netOf, kwc_m11_netOf, kcy_m11_netOf⟩
theorem kc11_349 : kCs kR11 349 m11_ones 1 := ⟨kin8 22 (by decide +kernel) rfl, kws_m11_ones, kwi_m11_ones, kwc_m11_ones, kcy_m11_ones⟩
theorem kc11_346 : kCv kR11 346 m11_groupsOf 1 := ⟨kin8 25 (by decide +kernel) rfl, kwm_m11_groupsOf, kwl_m11_groupsOf, kwi_m11_groupsOf, kwc_m11_groupsOf, kcy_m11_groupsOf⟩
theorem kc11_343 : kCv kR11 343 m11_netsOf 1 := ⟨kin8 29 (by decide +kernel) rfl, kwm_m11_netsOf, kwl_m11_netsOf, kwi_m11_netsOf, kwc_m11_netsOf, kcy_m11_netsOf⟩
theorem kc11_359 : kCv kR11 359 m11_seekRing 1 := ⟨kin8 37 (by decide +kernel) rfl, kwm_m11_seekRing, kwl_m11_seekRing, kwi_m11_seekRing, kwc_m11_seekRing, kcy_m11_seekRing⟩
theorem kc11_355 : kCv kR11 355 m11_tryRing 2 := ⟨kin8 42 (by decide +kernel) rfl, kwm_m11_tryRing, kwl_m11_tryRing, kwi_m11_tryRing, kwc_m11_tryRing, kcy_m11_tryRing⟩
theorem kc11_362 : kCs kR11 362 m11_talksOf 3 := ⟨kin8 54 (by decide +kernel) rfl, kws_m11_talksOf, kwi_m11_talksOf, kwc_m11_talksOf, kcy_m11_talksOf⟩
theorem kc11_369 : kCv kR11 369 m11_seekRests 1 := ⟨kin8 61 (by decide +kernel) rfl, kwm_m11_seekRests, kwl_m11_seekRests, kwi_m11_seekRests, kwc_m11_seekRests, kcy_m11_seekRests⟩
theorem kc11_372 : kCv kR11 372 m11_verdictOf 0 := ⟨kin8 73 (by decide +kernel) rfl, kwm_m11_verdictOf, kwl_m11_verdictOf, kwi_m11_verdictOf, kwc_m11_verdictOf, kcy_m11_verdictOf⟩
theorem kc11_375 : kCs kR11 375 m11_lowest 3 := ⟨kin8 77 (by decide +kernel) rfl, kws_m11_lowest, kwi_m11_lowest, kwc_m11_lowest, kcy_m11_lowest⟩
theorem kc11_381 : kCv kR11 381 m11_lookWhy 3 := ⟨kin8 84 (by decide +kernel) rfl, kwm_m11_lookWhy, kwl_m11_lookWhy, kwi_m11_lookWhy, kwc_m11_lookWhy, kcy_m11_lookWhy⟩
theorem kc11_395 : kCv kR11 395 m11_tryDumb 3 := ⟨kin8 98 (by decide +kernel) rfl, kwm_m11_tryDumb, kwl_m11_tryDumb, kwi_m11_tryDumb, kwc_m11_tryDumb, kcy_m11_tryDumb⟩
theorem kc11_399 : kCv kR11 399 m11_note 0 := ⟨kin8 114 (by decide +kernel) rfl, kwm_m11_note, kwl_m11_note, kwi_m11_note, kwc_m11_note, kcy_m11_note⟩
theorem kc11_402 : kCv kR11 402 m11_isNot 1 := ⟨kin8 126 (by decide +kernel) rfl, kwm_m11_isNot, kwl_m11_isNot, kwi_m11_isNot, kwc_m11_isNot, kcy_m11_isNot⟩
theorem kc2_26 : kCn kR2 "FigureKnee" 26 m10_firstMost 2 := ⟨by simp [kNl], kws_m10_firstMost, kwi_m10_firstMost, kwc_m10_firstMost, kcy_m10_firstMost⟩
theorem kc2_36 : kCn kR2 "FigureKnee" 36 m10_drawFrom 1 := ⟨by simp [kNl], kws_m10_drawFrom, kwi_m10_drawFrom, kwc_m10_drawFrom, kcy_m10_drawFrom⟩
end
section
-- the tables' types of arrays
def ktys (G : kG) : List (ClassId × FieldType) := [(G.2.1.1, .int), (G.2.1.2.1, .byte), (G.2.1.2.2.1, .long), (G.2.1.2.2.2, .array .int)]
/-- two static fields that nobody writes: texts are held by bytes; the maker of a message, null or some object -/
def kZs (G : kG) (E : kE) (A : Nat → Prop) (U : State) (H : Heap) : Prop := va_Z "java/lang/String" "COMPACT_STRINGS" "Z" (.int 1) A U H ∧ va_Z "jdk/internal/util/Preconditions" "SIOOBE_FORMATTER" "Ljava/util/function/BiFunction;" (kcv E.1 G.2.2.2.2) A U H
/-- what stands still while a method runs -/
def kCx (G : kG) (E : kE) (M : kM) (p : Program) (s : State) (m : MethodId) (args : Array Value) (meth : Method) (c : Code) (A : Nat → Prop) : Prop :=
  (p.tables.exec = Jvm.exec ∧ c.code = M.2.1 ∧ c.maxLocals = M.2.2.1 ∧ meth.sig.returnType = M.2.2.2 ∧ meth.locks = false ∧ s.vm.findClass M.1.cls = some m.cls ∧ (∀ w ∈ kT, w.before args s = true)) ∧
  va_K G.1 kCl (ktys G) s ∧ vk_S 16 kLen kByt G.2.2.1 G.2.2.2.1 A s s.heap ∧ (∀ z ∈ kSi, vk_R z.1 z.2.1 (kTx.getD z.2.2 "") (G.2.2.1 z.2.2) s) ∧
  (∀ q, s.heap.size ≤ q → A q) ∧ (∀ k, k < kN → A (E.1 k)) ∧ (∀ i j, i < kN → j < kN → E.1 i = E.1 j → i = j) ∧ (∀ i, i < 16 → E.1 (1000 + i) = G.2.2.1 i ∧ E.1 (1100 + i) = G.2.2.2.1 i) ∧ (∀ w ∈ kNl, va_Nw w s) ∧ kZs G E A s s.heap
/-- FROM pc ON, with these values at hand: if the picture o ends with q, the machine does, and its end is Z -/
def kOk {ρ : Type} (l : Launch) (G : kG) (E : kE) (Z : (Nat → Prop) → ρ → Array Value → State → Outcome → State → Prop) (M : kM) (d : Nat) (o : Option ρ) (pc : Nat) (lv : List (Nat × Value)) (st : List Value) (S : kSt) : Prop :=
  ∀ (p : Program) (e : Env) (s : State) (m : MethodId) (args : Array Value) (below : List Frame) (meth : Method) (c : Code) (A : Nat → Prop) (H : Heap) (locs : List Loc) (ls : Array Slot) (q : ρ),
    kCx G E M p s m args meth c A → va_P G.1 kCl (kws G E S) H → va_S A s.heap H locs → lv_has ls M.2.2.1 (lv.map (fun x => (x.1, kcv E.1 x.2))) → o = some q →
    W p l e (krm d) s m args below meth c H locs 0 0 (MQ below (Z A q) args s 0 0 A) (F0 m pc ls (st.map (kcv E.1)))
section RULES
variable {ρ : Type} {l : Launch} {G : kG} {E : kE} {Z : (Nat → Prop) → ρ → Array Value → State → Outcome → State → Prop} {M : kM} {d : Nat} {o : Option ρ} {pc pc' : Nat} {lv lv' : List (Nat × Value)} {st : List Value} {S : kSt}
theorem ok_none : kOk l G E Z M d (none : Option ρ) pc lv st S := by
  intro p e s m args below meth c A H locs ls q C hP hS hl ho
  cases ho
theorem klv_at {ls : Array Slot} {n : Nat} (h : lv_has ls n (lv.map (fun x => (x.1, kcv E.1 x.2)))) (i : Nat) {k : Nat} {v : Value} (hi : lv[i]? = some (k, v)) : ls[k]? = some (.val (kcv E.1 v)) :=
  h.2.2 (k, kcv E.1 v) (List.mem_map.mpr ⟨(k, v), List.mem_of_getElem? hi, rfl⟩)
theorem ok_sub (ks : List Nat) (h : lv_pick lv ks = lv') (k : kOk l G E Z M d o pc lv' st S) : kOk l G E Z M d o pc lv st S := by
  intro p e s m args below meth c A H locs ls q C hP hS hl ho
  refine k p e s m args below meth c A H locs ls q C hP hS ⟨hl.1, hl.2.1, fun x hx => ?_⟩ ho
  obtain ⟨y, hy, rfl⟩ := List.mem_map.mp hx
  rw [← h] at hy
  obtain ⟨i, -, hi⟩ := List.mem_filterMap.mp hy
  exact hl.2.2 _ (List.mem_map.mpr ⟨y, List.mem_of_getElem? hi, rfl⟩)
theorem kcat (ad : Nat → Nat) (v : Value) : (kcv ad v).category = v.category := by cases v <;> rfl
theorem kfilt (ad : Nat → Nat) (i : Nat) : ∀ l : List (Nat × Value), ((l.map (fun x => (x.1, kcv ad x.2))).filter (fun q => !(q.1 == i) && !(q.1 + 1 == i && q.2.category == 2))) = (l.filter (fun q => !(q.1 == i) && !(q.1 + 1 == i && q.2.category == 2))).map (fun x => (x.1, kcv ad x.2))
  | [] => rfl
  | a :: l => by
    rw [List.map_cons, List.filter_cons, List.filter_cons, kfilt ad i l, kcat]
    split <;> rfl
theorem kfilt2 (ad : Nat → Nat) (i : Nat) : ∀ l : List (Nat × Value), ((l.map (fun x => (x.1, kcv ad x.2))).filter (fun q => !(q.1 == i) && (!(q.1 == i + 1) && !(q.1 + 1 == i && q.2.category == 2)))) = (l.filter (fun q => !(q.1 == i) && (!(q.1 == i + 1) && !(q.1 + 1 == i && q.2.category == 2)))).map (fun x => (x.1, kcv ad x.2))
  | [] => rfl
  | a :: l => by
    rw [List.map_cons, List.filter_cons, List.filter_cons, kfilt2 ad i l, kcat]
    split <;> rfl

theorem ok_iconst {n : Int} {v : Int32} (hd : kD M pc (.iconst n) 1 pc') (hv : Int32.ofInt n = v) (k : kOk l G E Z M d o pc' lv (.int v :: st) S) : kOk l G E Z M d o pc lv st S := by
  intro p e s m args below meth c A H locs ls q C hP hS hl ho
  obtain ⟨hdc, rfl⟩ := hd
  exact lv_iconst C.1.1 C.1.2.1 hdc hv (k p e s m args below meth c A H locs ls q C hP hS hl ho)
theorem ok_bipush {n : Int} {v : Int32} (hd : kD M pc (.bipush n) 2 pc') (hv : (Int8.ofInt n).toInt32 = v) (k : kOk l G E Z M d o pc' lv (.int v :: st) S) : kOk l G E Z M d o pc lv st S := by
  intro p e s m args below meth c A H locs ls q C hP hS hl ho
  obtain ⟨hdc, rfl⟩ := hd
  exact lv_bipush C.1.1 C.1.2.1 hdc hv (k p e s m args below meth c A H locs ls q C hP hS hl ho)
theorem ok_sipush {n : Int} {v : Int32} (hd : kD M pc (.sipush n) 3 pc') (hv : (Int16.ofInt n).toInt32 = v) (k : kOk l G E Z M d o pc' lv (.int v :: st) S) : kOk l G E Z M d o pc lv st S := by
  intro p e s m args below meth c A H locs ls q C hP hS hl ho
  obtain ⟨hdc, rfl⟩ := hd
  exact lv_sipush C.1.1 C.1.2.1 hdc hv (k p e s m args below meth c A H locs ls q C hP hS hl ho)
theorem ok_lconst {n : Fin 2} {v : Int64} (hd : kD M pc (.lconst n) 1 pc') (hv : Int64.ofNat (n : Nat) = v) (k : kOk l G E Z M d o pc' lv (.long v :: st) S) : kOk l G E Z M d o pc lv st S := by
  intro p e s m args below meth c A H locs ls q C hP hS hl ho
  obtain ⟨hdc, rfl⟩ := hd
  exact lv_lconst C.1.1 C.1.2.1 hdc hv (k p e s m args below meth c A H locs ls q C hP hS hl ho)
theorem ok_iadd {x y : Int32} (hd : kD M pc .iadd 1 pc') (k : kOk l G E Z M d o pc' lv (.int (x + y) :: st) S) : kOk l G E Z M d o pc lv (.int y :: .int x :: st) S := by
  intro p e s m args below meth c A H locs ls q C hP hS hl ho
  obtain ⟨hdc, rfl⟩ := hd
  exact lv_iadd C.1.1 C.1.2.1 hdc (k p e s m args below meth c A H locs ls q C hP hS hl ho)
theorem ok_isub {x y : Int32} (hd : kD M pc .isub 1 pc') (k : kOk l G E Z M d o pc' lv (.int (x - y) :: st) S) : kOk l G E Z M d o pc lv (.int y :: .int x :: st) S := by
  intro p e s m args below meth c A H locs ls q C hP hS hl ho
  obtain ⟨hdc, rfl⟩ := hd
  exact lv_isub C.1.1 C.1.2.1 hdc (k p e s m args below meth c A H locs ls q C hP hS hl ho)
theorem ok_imul {x y : Int32} (hd : kD M pc .imul 1 pc') (k : kOk l G E Z M d o pc' lv (.int (x * y) :: st) S) : kOk l G E Z M d o pc lv (.int y :: .int x :: st) S := by
  intro p e s m args below meth c A H locs ls q C hP hS hl ho
  obtain ⟨hdc, rfl⟩ := hd
  exact lv_imul C.1.1 C.1.2.1 hdc (k p e s m args below meth c A H locs ls q C hP hS hl ho)
theorem ok_iand {x y : Int32} (hd : kD M pc .iand 1 pc') (k : kOk l G E Z M d o pc' lv (.int (x &&& y) :: st) S) : kOk l G E Z M d o pc lv (.int y :: .int x :: st) S := by
  intro p e s m args below meth c A H locs ls q C hP hS hl ho
  obtain ⟨hdc, rfl⟩ := hd
  exact lv_iand C.1.1 C.1.2.1 hdc (k p e s m args below meth c A H locs ls q C hP hS hl ho)
theorem ok_ior {x y : Int32} (hd : kD M pc .ior 1 pc') (k : kOk l G E Z M d o pc' lv (.int (x ||| y) :: st) S) : kOk l G E Z M d o pc lv (.int y :: .int x :: st) S := by
  intro p e s m args below meth c A H locs ls q C hP hS hl ho
  obtain ⟨hdc, rfl⟩ := hd
  exact lv_ior C.1.1 C.1.2.1 hdc (k p e s m args below meth c A H locs ls q C hP hS hl ho)
theorem ok_ixor {x y : Int32} (hd : kD M pc .ixor 1 pc') (k : kOk l G E Z M d o pc' lv (.int (x ^^^ y) :: st) S) : kOk l G E Z M d o pc lv (.int y :: .int x :: st) S := by
  intro p e s m args below meth c A H locs ls q C hP hS hl ho
  obtain ⟨hdc, rfl⟩ := hd
  exact lv_ixor C.1.1 C.1.2.1 hdc (k p e s m args below meth c A H locs ls q C hP hS hl ho)
theorem ok_ishl {x y : Int32} (hd : kD M pc .ishl 1 pc') (k : kOk l G E Z M d o pc' lv (.int (x <<< (y &&& 31)) :: st) S) : kOk l G E Z M d o pc lv (.int y :: .int x :: st) S := by
  intro p e s m args below meth c A H locs ls q C hP hS hl ho
  obtain ⟨hdc, rfl⟩ := hd
  exact lv_ishl C.1.1 C.1.2.1 hdc (k p e s m args below meth c A H locs ls q C hP hS hl ho)
theorem ok_ishr {x y : Int32} (hd : kD M pc .ishr 1 pc') (k : kOk l G E Z M d o pc' lv (.int (x >>> (y &&& 31)) :: st) S) : kOk l G E Z M d o pc lv (.int y :: .int x :: st) S := by
  intro p e s m args below meth c A H locs ls q C hP hS hl ho
  obtain ⟨hdc, rfl⟩ := hd
  exact lv_ishr C.1.1 C.1.2.1 hdc (k p e s m args below meth c A H locs ls q C hP hS hl ho)
theorem ok_iushr {x y : Int32} (hd : kD M pc .iushr 1 pc') (k : kOk l G E Z M d o pc' lv (.int ((x.toUInt32 >>> (y.toUInt32 &&& Int32.toUInt32 31)).toInt32) :: st) S) : kOk l G E Z M d o pc lv (.int y :: .int x :: st) S := by
  intro p e s m args below meth c A H locs ls q C hP hS hl ho
  obtain ⟨hdc, rfl⟩ := hd
  exact lv_iushr C.1.1 C.1.2.1 hdc rfl (k p e s m args below meth c A H locs ls q C hP hS hl ho)
theorem ok_ineg {x : Int32} (hd : kD M pc .ineg 1 pc') (k : kOk l G E Z M d o pc' lv (.int (-x) :: st) S) : kOk l G E Z M d o pc lv (.int x :: st) S := by
  intro p e s m args below meth c A H locs ls q C hP hS hl ho
  obtain ⟨hdc, rfl⟩ := hd
  exact lv_ineg C.1.1 C.1.2.1 hdc (k p e s m args below meth c A H locs ls q C hP hS hl ho)
theorem ok_ladd {x y : Int64} (hd : kD M pc .ladd 1 pc') (k : kOk l G E Z M d o pc' lv (.long (x + y) :: st) S) : kOk l G E Z M d o pc lv (.long y :: .long x :: st) S := by
  intro p e s m args below meth c A H locs ls q C hP hS hl ho
  obtain ⟨hdc, rfl⟩ := hd
  exact lv_ladd C.1.1 C.1.2.1 hdc (k p e s m args below meth c A H locs ls q C hP hS hl ho)
theorem ok_lsub {x y : Int64} (hd : kD M pc .lsub 1 pc') (k : kOk l G E Z M d o pc' lv (.long (x - y) :: st) S) : kOk l G E Z M d o pc lv (.long y :: .long x :: st) S := by
  intro p e s m args below meth c A H locs ls q C hP hS hl ho
  obtain ⟨hdc, rfl⟩ := hd
  exact lv_lsub C.1.1 C.1.2.1 hdc (k p e s m args below meth c A H locs ls q C hP hS hl ho)
theorem ok_lmul {x y : Int64} (hd : kD M pc .lmul 1 pc') (k : kOk l G E Z M d o pc' lv (.long (x * y) :: st) S) : kOk l G E Z M d o pc lv (.long y :: .long x :: st) S := by
  intro p e s m args below meth c A H locs ls q C hP hS hl ho
  obtain ⟨hdc, rfl⟩ := hd
  exact lv_lmul C.1.1 C.1.2.1 hdc (k p e s m args below meth c A H locs ls q C hP hS hl ho)
theorem ok_i2l {x : Int32} (hd : kD M pc .i2l 1 pc') (k : kOk l G E Z M d o pc' lv (.long x.toInt64 :: st) S) : kOk l G E Z M d o pc lv (.int x :: st) S := by
  intro p e s m args below meth c A H locs ls q C hP hS hl ho
  obtain ⟨hdc, rfl⟩ := hd
  exact lv_i2l C.1.1 C.1.2.1 hdc rfl (k p e s m args below meth c A H locs ls q C hP hS hl ho)
theorem ok_i2b {x : Int32} (hd : kD M pc .i2b 1 pc') (k : kOk l G E Z M d o pc' lv (.int x.toInt8.toInt32 :: st) S) : kOk l G E Z M d o pc lv (.int x :: st) S := by
  intro p e s m args below meth c A H locs ls q C hP hS hl ho
  obtain ⟨hdc, rfl⟩ := hd
  exact lv_i2b C.1.1 C.1.2.1 hdc rfl (k p e s m args below meth c A H locs ls q C hP hS hl ho)
theorem ok_lcmp {x y : Int64} (hd : kD M pc .lcmp 1 pc') (k : kOk l G E Z M d o pc' lv (.int (lg_cmp x y) :: st) S) : kOk l G E Z M d o pc lv (.long y :: .long x :: st) S := by
  intro p e s m args below meth c A H locs ls q C hP hS hl ho
  obtain ⟨hdc, rfl⟩ := hd
  exact W.lcmp C.1.1 C.1.2.1 hdc (k p e s m args below meth c A H locs ls q C hP hS hl ho)
theorem ok_goto {off : Int} {tgt : Nat} (hd : kD M pc (.goto off) 3 pc') (ht : (pc : Int) + off = (tgt : Int)) (k : kOk l G E Z M d o tgt lv st S) : kOk l G E Z M d o pc lv st S := by
  intro p e s m args below meth c A H locs ls q C hP hS hl ho
  obtain ⟨hdc, rfl⟩ := hd
  exact lv_goto C.1.1 C.1.2.1 hdc ht (k p e s m args below meth c A H locs ls q C hP hS hl ho)
theorem ok_icmp_eq {x y : Int32} {off : Int} {tgt : Nat} {o1 o2 : Option ρ} (hd : kD M pc (.if_icmp .eq off) 3 pc') (ht : (pc : Int) + off = (tgt : Int)) (k1 : x = y → kOk l G E Z M d o1 tgt lv st S) (k2 : ¬ x = y → kOk l G E Z M d o2 pc' lv st S) : kOk l G E Z M d (if x = y then o1 else o2) pc lv (.int y :: .int x :: st) S := by
  intro p e s m args below meth c A H locs ls q C hP hS hl ho
  obtain ⟨hdc, rfl⟩ := hd
  refine lv_icmp_eq C.1.1 C.1.2.1 hdc ht (fun hc => ?_) (fun hc => ?_)
  · rw [if_pos hc] at ho
    exact k1 hc p e s m args below meth c A H locs ls q C hP hS hl ho
  · rw [if_neg hc] at ho
    exact k2 hc p e s m args below meth c A H locs ls q C hP hS hl ho
theorem ok_icmp_lt {x y : Int32} {off : Int} {tgt : Nat} {o1 o2 : Option ρ} (hd : kD M pc (.if_icmp .lt off) 3 pc') (ht : (pc : Int) + off = (tgt : Int)) (k1 : x < y → kOk l G E Z M d o1 tgt lv st S) (k2 : ¬ x < y → kOk l G E Z M d o2 pc' lv st S) : kOk l G E Z M d (if x < y then o1 else o2) pc lv (.int y :: .int x :: st) S := by
  intro p e s m args below meth c A H locs ls q C hP hS hl ho
  obtain ⟨hdc, rfl⟩ := hd
  refine lv_icmp_lt C.1.1 C.1.2.1 hdc ht (fun hc => ?_) (fun hc => ?_)
  · rw [if_pos hc] at ho
    exact k1 hc p e s m args below meth c A H locs ls q C hP hS hl ho
  · rw [if_neg hc] at ho
    exact k2 hc p e s m args below meth c A H locs ls q C hP hS hl ho
theorem ok_icmp_ge {x y : Int32} {off : Int} {tgt : Nat} {o1 o2 : Option ρ} (hd : kD M pc (.if_icmp .ge off) 3 pc') (ht : (pc : Int) + off = (tgt : Int)) (k1 : y ≤ x → kOk l G E Z M d o1 tgt lv st S) (k2 : ¬ y ≤ x → kOk l G E Z M d o2 pc' lv st S) : kOk l G E Z M d (if y ≤ x then o1 else o2) pc lv (.int y :: .int x :: st) S := by
  intro p e s m args below meth c A H locs ls q C hP hS hl ho
  obtain ⟨hdc, rfl⟩ := hd
  refine lv_icmp_ge C.1.1 C.1.2.1 hdc ht (fun hc => ?_) (fun hc => ?_)
  · rw [if_pos hc] at ho
    exact k1 hc p e s m args below meth c A H locs ls q C hP hS hl ho
  · rw [if_neg hc] at ho
    exact k2 hc p e s m args below meth c A H locs ls q C hP hS hl ho
theorem ok_icmp_gt {x y : Int32} {off : Int} {tgt : Nat} {o1 o2 : Option ρ} (hd : kD M pc (.if_icmp .gt off) 3 pc') (ht : (pc : Int) + off = (tgt : Int)) (k1 : y < x → kOk l G E Z M d o1 tgt lv st S) (k2 : ¬ y < x → kOk l G E Z M d o2 pc' lv st S) : kOk l G E Z M d (if y < x then o1 else o2) pc lv (.int y :: .int x :: st) S := by
  intro p e s m args below meth c A H locs ls q C hP hS hl ho
  obtain ⟨hdc, rfl⟩ := hd
  refine lv_icmp_gt C.1.1 C.1.2.1 hdc ht (fun hc => ?_) (fun hc => ?_)
  · rw [if_pos hc] at ho
    exact k1 hc p e s m args below meth c A H locs ls q C hP hS hl ho
  · rw [if_neg hc] at ho
    exact k2 hc p e s m args below meth c A H locs ls q C hP hS hl ho
theorem ok_icmp_le {x y : Int32} {off : Int} {tgt : Nat} {o1 o2 : Option ρ} (hd : kD M pc (.if_icmp .le off) 3 pc') (ht : (pc : Int) + off = (tgt : Int)) (k1 : x ≤ y → kOk l G E Z M d o1 tgt lv st S) (k2 : ¬ x ≤ y → kOk l G E Z M d o2 pc' lv st S) : kOk l G E Z M d (if x ≤ y then o1 else o2) pc lv (.int y :: .int x :: st) S := by
  intro p e s m args below meth c A H locs ls q C hP hS hl ho
  obtain ⟨hdc, rfl⟩ := hd
  refine lv_icmp_le C.1.1 C.1.2.1 hdc ht (fun hc => ?_) (fun hc => ?_)
  · rw [if_pos hc] at ho
    exact k1 hc p e s m args below meth c A H locs ls q C hP hS hl ho
  · rw [if_neg hc] at ho
    exact k2 hc p e s m args below meth c A H locs ls q C hP hS hl ho
theorem ok_icmp_ne {x y : Int32} {off : Int} {tgt : Nat} {o1 o2 : Option ρ} (hd : kD M pc (.if_icmp .ne off) 3 pc') (ht : (pc : Int) + off = (tgt : Int)) (k1 : ¬ x = y → kOk l G E Z M d o1 tgt lv st S) (k2 : x = y → kOk l G E Z M d o2 pc' lv st S) : kOk l G E Z M d (if x = y then o2 else o1) pc lv (.int y :: .int x :: st) S := by
  intro p e s m args below meth c A H locs ls q C hP hS hl ho
  obtain ⟨hdc, rfl⟩ := hd
  refine lv_icmp_ne C.1.1 C.1.2.1 hdc ht (fun hc => ?_) (fun hc => ?_)
  · rw [if_neg hc] at ho
    exact k1 hc p e s m args below meth c A H locs ls q C hP hS hl ho
  · rw [if_pos hc] at ho
    exact k2 hc p e s m args below meth c A H locs ls q C hP hS hl ho
theorem ok_if_eq {x : Int32} {off : Int} {tgt : Nat} {o1 o2 : Option ρ} (hd : kD M pc (.ifCond .eq off) 3 pc') (ht : (pc : Int) + off = (tgt : Int)) (k1 : x = 0 → kOk l G E Z M d o1 tgt lv st S) (k2 : ¬ x = 0 → kOk l G E Z M d o2 pc' lv st S) : kOk l G E Z M d (if x = 0 then o1 else o2) pc lv (.int x :: st) S := by
  intro p e s m args below meth c A H locs ls q C hP hS hl ho
  obtain ⟨hdc, rfl⟩ := hd
  refine lv_if_eq C.1.1 C.1.2.1 hdc ht (fun hc => ?_) (fun hc => ?_)
  · rw [if_pos hc] at ho
    exact k1 hc p e s m args below meth c A H locs ls q C hP hS hl ho
  · rw [if_neg hc] at ho
    exact k2 hc p e s m args below meth c A H locs ls q C hP hS hl ho
theorem ok_if_lt {x : Int32} {off : Int} {tgt : Nat} {o1 o2 : Option ρ} (hd : kD M pc (.ifCond .lt off) 3 pc') (ht : (pc : Int) + off = (tgt : Int)) (k1 : x < 0 → kOk l G E Z M d o1 tgt lv st S) (k2 : ¬ x < 0 → kOk l G E Z M d o2 pc' lv st S) : kOk l G E Z M d (if x < 0 then o1 else o2) pc lv (.int x :: st) S := by
  intro p e s m args below meth c A H locs ls q C hP hS hl ho
  obtain ⟨hdc, rfl⟩ := hd
  refine lv_if_lt C.1.1 C.1.2.1 hdc ht (fun hc => ?_) (fun hc => ?_)
  · rw [if_pos hc] at ho
    exact k1 hc p e s m args below meth c A H locs ls q C hP hS hl ho
  · rw [if_neg hc] at ho
    exact k2 hc p e s m args below meth c A H locs ls q C hP hS hl ho
theorem ok_if_ge {x : Int32} {off : Int} {tgt : Nat} {o1 o2 : Option ρ} (hd : kD M pc (.ifCond .ge off) 3 pc') (ht : (pc : Int) + off = (tgt : Int)) (k1 : 0 ≤ x → kOk l G E Z M d o1 tgt lv st S) (k2 : ¬ 0 ≤ x → kOk l G E Z M d o2 pc' lv st S) : kOk l G E Z M d (if 0 ≤ x then o1 else o2) pc lv (.int x :: st) S := by
  intro p e s m args below meth c A H locs ls q C hP hS hl ho
  obtain ⟨hdc, rfl⟩ := hd
  refine lv_if_ge C.1.1 C.1.2.1 hdc ht (fun hc => ?_) (fun hc => ?_)
  · rw [if_pos hc] at ho
    exact k1 hc p e s m args below meth c A H locs ls q C hP hS hl ho
  · rw [if_neg hc] at ho
    exact k2 hc p e s m args below meth c A H locs ls q C hP hS hl ho
theorem ok_if_gt {x : Int32} {off : Int} {tgt : Nat} {o1 o2 : Option ρ} (hd : kD M pc (.ifCond .gt off) 3 pc') (ht : (pc : Int) + off = (tgt : Int)) (k1 : 0 < x → kOk l G E Z M d o1 tgt lv st S) (k2 : ¬ 0 < x → kOk l G E Z M d o2 pc' lv st S) : kOk l G E Z M d (if 0 < x then o1 else o2) pc lv (.int x :: st) S := by
  intro p e s m args below meth c A H locs ls q C hP hS hl ho
  obtain ⟨hdc, rfl⟩ := hd
  refine lv_if_gt C.1.1 C.1.2.1 hdc ht (fun hc => ?_) (fun hc => ?_)
  · rw [if_pos hc] at ho
    exact k1 hc p e s m args below meth c A H locs ls q C hP hS hl ho
  · rw [if_neg hc] at ho
    exact k2 hc p e s m args below meth c A H locs ls q C hP hS hl ho
theorem ok_if_le {x : Int32} {off : Int} {tgt : Nat} {o1 o2 : Option ρ} (hd : kD M pc (.ifCond .le off) 3 pc') (ht : (pc : Int) + off = (tgt : Int)) (k1 : x ≤ 0 → kOk l G E Z M d o1 tgt lv st S) (k2 : ¬ x ≤ 0 → kOk l G E Z M d o2 pc' lv st S) : kOk l G E Z M d (if x ≤ 0 then o1 else o2) pc lv (.int x :: st) S := by
  intro p e s m args below meth c A H locs ls q C hP hS hl ho
  obtain ⟨hdc, rfl⟩ := hd
  refine lv_if_le C.1.1 C.1.2.1 hdc ht (fun hc => ?_) (fun hc => ?_)
  · rw [if_pos hc] at ho
    exact k1 hc p e s m args below meth c A H locs ls q C hP hS hl ho
  · rw [if_neg hc] at ho
    exact k2 hc p e s m args below meth c A H locs ls q C hP hS hl ho
theorem ok_if_ne {x : Int32} {off : Int} {tgt : Nat} {o1 o2 : Option ρ} (hd : kD M pc (.ifCond .ne off) 3 pc') (ht : (pc : Int) + off = (tgt : Int)) (k1 : ¬ x = 0 → kOk l G E Z M d o1 tgt lv st S) (k2 : x = 0 → kOk l G E Z M d o2 pc' lv st S) : kOk l G E Z M d (if x = 0 then o2 else o1) pc lv (.int x :: st) S := by
  intro p e s m args below meth c A H locs ls q C hP hS hl ho
  obtain ⟨hdc, rfl⟩ := hd
  refine lv_if_ne C.1.1 C.1.2.1 hdc ht (fun hc => ?_) (fun hc => ?_)
  · rw [if_neg hc] at ho
    exact k1 hc p e s m args below meth c A H locs ls q C hP hS hl ho
  · rw [if_pos hc] at ho
    exact k2 hc p e s m args below meth c A H locs ls q C hP hS hl ho
theorem kb_0 (b : Bool) : kb b = 0 ↔ b = false := by cases b <;> decide
theorem ok_ifb_eq {b : Bool} {off : Int} {tgt : Nat} {o1 o2 : Option ρ} (hd : kD M pc (.ifCond .eq off) 3 pc') (ht : (pc : Int) + off = (tgt : Int)) (k1 : b = false → kOk l G E Z M d o1 tgt lv st S) (k2 : b = true → kOk l G E Z M d o2 pc' lv st S) : kOk l G E Z M d (if b then o2 else o1) pc lv (.int (kb b) :: st) S := by
  intro p e s m args below meth c A H locs ls q C hP hS hl ho
  obtain ⟨hdc, rfl⟩ := hd
  refine lv_if_eq C.1.1 C.1.2.1 hdc ht (fun hc => ?_) (fun hc => ?_)
  · have hb := (kb_0 b).mp hc
    subst hb
    exact k1 rfl p e s m args below meth c A H locs ls q C hP hS hl ho
  · have hb : b = true := by cases b with
      | true => rfl
      | false => exact absurd rfl hc
    subst hb
    exact k2 rfl p e s m args below meth c A H locs ls q C hP hS hl ho
theorem ok_ifb_ne {b : Bool} {off : Int} {tgt : Nat} {o1 o2 : Option ρ} (hd : kD M pc (.ifCond .ne off) 3 pc') (ht : (pc : Int) + off = (tgt : Int)) (k1 : b = true → kOk l G E Z M d o1 tgt lv st S) (k2 : b = false → kOk l G E Z M d o2 pc' lv st S) : kOk l G E Z M d (if b then o1 else o2) pc lv (.int (kb b) :: st) S := by
  intro p e s m args below meth c A H locs ls q C hP hS hl ho
  obtain ⟨hdc, rfl⟩ := hd
  refine lv_if_ne C.1.1 C.1.2.1 hdc ht (fun hc => ?_) (fun hc => ?_)
  · have hb : b = true := by cases b with
      | true => rfl
      | false => exact absurd rfl hc
    subst hb
    exact k1 rfl p e s m args below meth c A H locs ls q C hP hS hl ho
  · have hb := (kb_0 b).mp hc
    subst hb
    exact k2 rfl p e s m args below meth c A H locs ls q C hP hS hl ho
theorem ok_iload_n {f : Fin 4} {x : Int32} (i : Nat) {j : Nat} (hd : kD M pc (.iload_n f) 1 pc') (hj : (f : Nat) = j) (hi : lv[i]? = some (j, .int x)) (k : kOk l G E Z M d o pc' lv (.int x :: st) S) : kOk l G E Z M d o pc lv st S := by
  intro p e s m args below meth c A H locs ls q C hP hS hl ho
  obtain ⟨hdc, rfl⟩ := hd
  exact lv_iload_n C.1.1 C.1.2.1 hdc hj (klv_at hl i hi) (k p e s m args below meth c A H locs ls q C hP hS hl ho)
theorem ok_iload {x : Int32} (i : Nat) {j : Nat} (hd : kD M pc (.iload j) 2 pc') (hi : lv[i]? = some (j, .int x)) (k : kOk l G E Z M d o pc' lv (.int x :: st) S) : kOk l G E Z M d o pc lv st S := by
  intro p e s m args below meth c A H locs ls q C hP hS hl ho
  obtain ⟨hdc, rfl⟩ := hd
  exact lv_iload C.1.1 C.1.2.1 hdc (klv_at hl i hi) (k p e s m args below meth c A H locs ls q C hP hS hl ho)
theorem ok_lload_n {f : Fin 4} {x : Int64} (i : Nat) {j : Nat} (hd : kD M pc (.lload_n f) 1 pc') (hj : (f : Nat) = j) (hi : lv[i]? = some (j, .long x)) (k : kOk l G E Z M d o pc' lv (.long x :: st) S) : kOk l G E Z M d o pc lv st S := by
  intro p e s m args below meth c A H locs ls q C hP hS hl ho
  obtain ⟨hdc, rfl⟩ := hd
  exact lv_lload_n C.1.1 C.1.2.1 hdc hj (klv_at hl i hi) (k p e s m args below meth c A H locs ls q C hP hS hl ho)
theorem ok_lload {x : Int64} (i : Nat) {j : Nat} (hd : kD M pc (.lload j) 2 pc') (hi : lv[i]? = some (j, .long x)) (k : kOk l G E Z M d o pc' lv (.long x :: st) S) : kOk l G E Z M d o pc lv st S := by
  intro p e s m args below meth c A H locs ls q C hP hS hl ho
  obtain ⟨hdc, rfl⟩ := hd
  exact lv_lload C.1.1 C.1.2.1 hdc (klv_at hl i hi) (k p e s m args below meth c A H locs ls q C hP hS hl ho)
theorem ok_aload_n {f : Fin 4} {x : Nat} (i : Nat) {j : Nat} (hd : kD M pc (.aload_n f) 1 pc') (hj : (f : Nat) = j) (hi : lv[i]? = some (j, .ref x)) (k : kOk l G E Z M d o pc' lv (.ref x :: st) S) : kOk l G E Z M d o pc lv st S := by
  intro p e s m args below meth c A H locs ls q C hP hS hl ho
  obtain ⟨hdc, rfl⟩ := hd
  exact lv_aload_n C.1.1 C.1.2.1 hdc hj (klv_at hl i hi) (k p e s m args below meth c A H locs ls q C hP hS hl ho)
theorem ok_aload {x : Nat} (i : Nat) {j : Nat} (hd : kD M pc (.aload j) 2 pc') (hi : lv[i]? = some (j, .ref x)) (k : kOk l G E Z M d o pc' lv (.ref x :: st) S) : kOk l G E Z M d o pc lv st S := by
  intro p e s m args below meth c A H locs ls q C hP hS hl ho
  obtain ⟨hdc, rfl⟩ := hd
  exact lv_aload C.1.1 C.1.2.1 hdc (klv_at hl i hi) (k p e s m args below meth c A H locs ls q C hP hS hl ho)
theorem ok_istore_n {f : Fin 4} {x : Int32} {j : Nat} (hd : kD M pc (.istore_n f) 1 pc') (hj : (f : Nat) = j) (hn : j < M.2.2.1) (hv : (j, Value.int x) :: lv.filter (fun q => !(q.1 == j) && !(q.1 + 1 == j && q.2.category == 2)) = lv') (k : kOk l G E Z M d o pc' lv' st S) : kOk l G E Z M d o pc lv (.int x :: st) S := by
  intro p e s m args below meth c A H locs ls q C hP hS hl ho
  obtain ⟨hdc, rfl⟩ := hd
  exact lv_istore_n C.1.1 C.1.2.1 hdc hj hl hn (by rw [kfilt, ← hv]; rfl) (fun ls hl => k p e s m args below meth c A H locs ls q C hP hS hl ho)
theorem ok_istore {x : Int32} {j : Nat} (hd : kD M pc (.istore j) 2 pc') (hn : j < M.2.2.1) (hv : (j, Value.int x) :: lv.filter (fun q => !(q.1 == j) && !(q.1 + 1 == j && q.2.category == 2)) = lv') (k : kOk l G E Z M d o pc' lv' st S) : kOk l G E Z M d o pc lv (.int x :: st) S := by
  intro p e s m args below meth c A H locs ls q C hP hS hl ho
  obtain ⟨hdc, rfl⟩ := hd
  exact lv_istore C.1.1 C.1.2.1 hdc hl hn (by rw [kfilt, ← hv]; rfl) (fun ls hl => k p e s m args below meth c A H locs ls q C hP hS hl ho)
theorem ok_astore_n {f : Fin 4} {x : Nat} {j : Nat} (hd : kD M pc (.astore_n f) 1 pc') (hj : (f : Nat) = j) (hn : j < M.2.2.1) (hv : (j, Value.ref x) :: lv.filter (fun q => !(q.1 == j) && !(q.1 + 1 == j && q.2.category == 2)) = lv') (k : kOk l G E Z M d o pc' lv' st S) : kOk l G E Z M d o pc lv (.ref x :: st) S := by
  intro p e s m args below meth c A H locs ls q C hP hS hl ho
  obtain ⟨hdc, rfl⟩ := hd
  exact lv_astore_n C.1.1 C.1.2.1 hdc hj hl hn (by rw [kfilt, ← hv]; rfl) (fun ls hl => k p e s m args below meth c A H locs ls q C hP hS hl ho)
theorem ok_astore {x : Nat} {j : Nat} (hd : kD M pc (.astore j) 2 pc') (hn : j < M.2.2.1) (hv : (j, Value.ref x) :: lv.filter (fun q => !(q.1 == j) && !(q.1 + 1 == j && q.2.category == 2)) = lv') (k : kOk l G E Z M d o pc' lv' st S) : kOk l G E Z M d o pc lv (.ref x :: st) S := by
  intro p e s m args below meth c A H locs ls q C hP hS hl ho
  obtain ⟨hdc, rfl⟩ := hd
  exact lv_astore C.1.1 C.1.2.1 hdc hl hn (by rw [kfilt, ← hv]; rfl) (fun ls hl => k p e s m args below meth c A H locs ls q C hP hS hl ho)
theorem ok_lstore_n {f : Fin 4} {x : Int64} {j : Nat} (hd : kD M pc (.lstore_n f) 1 pc') (hj : (f : Nat) = j) (hn : j + 1 < M.2.2.1) (hv : (j, Value.long x) :: lv.filter (fun q => !(q.1 == j) && (!(q.1 == j + 1) && !(q.1 + 1 == j && q.2.category == 2))) = lv') (k : kOk l G E Z M d o pc' lv' st S) : kOk l G E Z M d o pc lv (.long x :: st) S := by
  intro p e s m args below meth c A H locs ls q C hP hS hl ho
  obtain ⟨hdc, rfl⟩ := hd
  exact lv_lstore_n C.1.1 C.1.2.1 hdc hj hl hn (by rw [kfilt2, ← hv]; rfl) (fun ls hl => k p e s m args below meth c A H locs ls q C hP hS hl ho)
theorem ok_lstore {x : Int64} {j : Nat} (hd : kD M pc (.lstore j) 2 pc') (hn : j + 1 < M.2.2.1) (hv : (j, Value.long x) :: lv.filter (fun q => !(q.1 == j) && (!(q.1 == j + 1) && !(q.1 + 1 == j && q.2.category == 2))) = lv') (k : kOk l G E Z M d o pc' lv' st S) : kOk l G E Z M d o pc lv (.long x :: st) S := by
  intro p e s m args below meth c A H locs ls q C hP hS hl ho
  obtain ⟨hdc, rfl⟩ := hd
  exact lv_lstore C.1.1 C.1.2.1 hdc hl hn (by rw [kfilt2, ← hv]; rfl) (fun ls hl => k p e s m args below meth c A H locs ls q C hP hS hl ho)
theorem ok_iinc {x v : Int32} {j : Nat} {n : Int} (i : Nat) (hd : kD M pc (.iinc j n) 3 pc') (hi : lv[i]? = some (j, .int x)) (hx : x + Int32.ofInt n = v) (hn : j < M.2.2.1) (hv : (j, Value.int v) :: lv.filter (fun q => !(q.1 == j) && !(q.1 + 1 == j && q.2.category == 2)) = lv') (k : kOk l G E Z M d o pc' lv' st S) : kOk l G E Z M d o pc lv st S := by
  intro p e s m args below meth c A H locs ls q C hP hS hl ho
  obtain ⟨hdc, rfl⟩ := hd
  exact lv_iinc (k := i) C.1.1 C.1.2.1 hdc hl (by rw [List.getElem?_map, hi]; rfl) hx hn (by rw [kfilt, ← hv]; rfl) (fun ls hl => k p e s m args below meth c A H locs ls q C hP hS hl ho)
theorem ok_dup {v : Value} (hd : kD M pc .dup 1 pc') (hv : v.category = 1) (k : kOk l G E Z M d o pc' lv (v :: v :: st) S) : kOk l G E Z M d o pc lv (v :: st) S := by
  intro p e s m args below meth c A H locs ls q C hP hS hl ho
  obtain ⟨hdc, rfl⟩ := hd
  exact lv_dup C.1.1 C.1.2.1 hdc (by rw [kcat]; exact hv) (k p e s m args below meth c A H locs ls q C hP hS hl ho)
theorem ok_pop {v : Value} (hd : kD M pc .pop 1 pc') (hv : v.category = 1) (k : kOk l G E Z M d o pc' lv st S) : kOk l G E Z M d o pc lv (v :: st) S := by
  intro p e s m args below meth c A H locs ls q C hP hS hl ho
  obtain ⟨hdc, rfl⟩ := hd
  exact lv_pop C.1.1 C.1.2.1 hdc (by rw [kcat]; exact hv) (k p e s m args below meth c A H locs ls q C hP hS hl ho)
theorem ok_dup2 {v w : Value} (hd : kD M pc .dup2 1 pc') (hv : v.category = 1) (hw : w.category = 1) (k : kOk l G E Z M d o pc' lv (v :: w :: v :: w :: st) S) : kOk l G E Z M d o pc lv (v :: w :: st) S := by
  intro p e s m args below meth c A H locs ls q C hP hS hl ho
  obtain ⟨hdc, rfl⟩ := hd
  exact lv_dup2_11 C.1.1 C.1.2.1 hdc (by rw [kcat]; exact hv) (by rw [kcat]; exact hw) (k p e s m args below meth c A H locs ls q C hP hS hl ho)
def kgz {α : Type} (y : Int32) (o : Option α) : Option α := if y = 0 then none else o
def kgzL {α : Type} (y : Int64) (o : Option α) : Option α := if y = 0 then none else o
def kgi {α : Type} (i : Int32) (n : Nat) (o : Option α) : Option α := if i < 0 ∨ n ≤ i.toNatClampNeg then none else o
def knx {α β : Type} (a : α) (f : α → β) : β := f a
theorem kgz_some {α : Type} {y : Int32} {o : Option α} {q : α} (h : kgz y o = some q) : ¬ y = 0 ∧ o = some q := by
  unfold kgz at h
  split at h
  · cases h
  · exact ⟨by assumption, h⟩
theorem kgzL_some {α : Type} {y : Int64} {o : Option α} {q : α} (h : kgzL y o = some q) : ¬ y = 0 ∧ o = some q := by
  unfold kgzL at h
  split at h
  · cases h
  · exact ⟨by assumption, h⟩
theorem kgi_some {α : Type} {i : Int32} {n : Nat} {o : Option α} {q : α} (h : kgi i n o = some q) : vp_in i n ∧ o = some q := by
  unfold kgi at h
  split at h
  · cases h
  · exact ⟨by assumption, h⟩
theorem ok_nx {α : Type} {a : α} {f : α → Option ρ} (k : ∀ b, b = a → kOk l G E Z M d (f b) pc lv st S) : kOk l G E Z M d (knx a f) pc lv st S := k a rfl
theorem ok_topi {x : Int32} {f : Int32 → Option ρ} (k : ∀ b, b = x → kOk l G E Z M d (f b) pc lv (.int b :: st) S) : kOk l G E Z M d (knx x f) pc lv (.int x :: st) S := k x rfl
theorem ok_topl {x : Int64} {f : Int64 → Option ρ} (k : ∀ b, b = x → kOk l G E Z M d (f b) pc lv (.long b :: st) S) : kOk l G E Z M d (knx x f) pc lv (.long x :: st) S := k x rfl
theorem ok_topb {x : Bool} {f : Bool → Option ρ} (k : ∀ b, b = x → kOk l G E Z M d (f b) pc lv (.int (kb b) :: st) S) : kOk l G E Z M d (knx x f) pc lv (.int (kb x) :: st) S := k x rfl
theorem ok_nS {T : kSt} {f : kSt → Option ρ} (k : ∀ b, b = T → kOk l G E Z M d (f b) pc lv st b) : kOk l G E Z M d (knx T f) pc lv st T := k T rfl
theorem ok_idiv {x y : Int32} (hd : kD M pc .idiv 1 pc') (k : kOk l G E Z M d o pc' lv (.int (x / y) :: st) S) : kOk l G E Z M d (kgz y o) pc lv (.int y :: .int x :: st) S := by
  intro p e s m args below meth c A H locs ls q C hP hS hl ho
  obtain ⟨hdc, rfl⟩ := hd
  obtain ⟨hy, ho⟩ := kgz_some ho
  exact lv_idiv C.1.1 C.1.2.1 hdc hy (k p e s m args below meth c A H locs ls q C hP hS hl ho)
theorem ok_ldiv {x y : Int64} (hd : kD M pc .ldiv 1 pc') (k : kOk l G E Z M d o pc' lv (.long (x / y) :: st) S) : kOk l G E Z M d (kgzL y o) pc lv (.long y :: .long x :: st) S := by
  intro p e s m args below meth c A H locs ls q C hP hS hl ho
  obtain ⟨hdc, rfl⟩ := hd
  obtain ⟨hy, ho⟩ := kgzL_some ho
  exact lv_ldiv C.1.1 C.1.2.1 hdc hy (k p e s m args below meth c A H locs ls q C hP hS hl ho)
theorem ok_irem {x y : Int32} (hd : kD M pc .irem 1 pc') (k : kOk l G E Z M d o pc' lv (.int (x - x / y * y) :: st) S) : kOk l G E Z M d (kgz y o) pc lv (.int y :: .int x :: st) S := by
  intro p e s m args below meth c A H locs ls q C hP hS hl ho
  obtain ⟨hdc, rfl⟩ := hd
  obtain ⟨hy, ho⟩ := kgz_some ho
  exact lv_irem C.1.1 C.1.2.1 hdc hy (k p e s m args below meth c A H locs ls q C hP hS hl ho)
theorem ok_lrem {x y : Int64} (hd : kD M pc .lrem 1 pc') (k : kOk l G E Z M d o pc' lv (.long (x - x / y * y) :: st) S) : kOk l G E Z M d (kgzL y o) pc lv (.long y :: .long x :: st) S := by
  intro p e s m args below meth c A H locs ls q C hP hS hl ho
  obtain ⟨hdc, rfl⟩ := hd
  obtain ⟨hy, ho⟩ := kgzL_some ho
  exact lv_lrem C.1.1 C.1.2.1 hdc hy (k p e s m args below meth c A H locs ls q C hP hS hl ho)
theorem ok_ldc {idx : Nat} {v : Int32} (hd : kD M pc (.ldc idx) 2 pc') (hw : Cond.constant M.1.cls idx v ∈ kT) (k : kOk l G E Z M d o pc' lv (.int v :: st) S) : kOk l G E Z M d o pc lv st S := by
  intro p e s m args below meth c A H locs ls q C hP hS hl ho
  obtain ⟨hdc, rfl⟩ := hd
  exact lv_ldc C.1.1 C.1.2.1 C.1.2.2.2.2.2.1 (C.1.2.2.2.2.2.2 _ hw) hdc (k p e s m args below meth c A H locs ls q C hP hS hl ho)
theorem ok_ldcw {idx : Nat} {v : Int32} (hd : kD M pc (.ldc_w idx) 3 pc') (hw : Cond.constant M.1.cls idx v ∈ kT) (k : kOk l G E Z M d o pc' lv (.int v :: st) S) : kOk l G E Z M d o pc lv st S := by
  intro p e s m args below meth c A H locs ls q C hP hS hl ho
  obtain ⟨hdc, rfl⟩ := hd
  exact lv_ldcw C.1.1 C.1.2.1 C.1.2.2.2.2.2.1 (C.1.2.2.2.2.2.2 _ hw) hdc (k p e s m args below meth c A H locs ls q C hP hS hl ho)
theorem ok_ldc2 {idx : Nat} {v : Int64} (hd : kD M pc (.ldc2_w idx) 3 pc') (hw : Cond.constantLong M.1.cls idx v ∈ kT) (k : kOk l G E Z M d o pc' lv (.long v :: st) S) : kOk l G E Z M d o pc lv st S := by
  intro p e s m args below meth c A H locs ls q C hP hS hl ho
  obtain ⟨hdc, rfl⟩ := hd
  exact lv_ldc2 C.1.1 C.1.2.1 C.1.2.2.2.2.2.1 (C.1.2.2.2.2.2.2 _ hw) hdc (k p e s m args below meth c A H locs ls q C hP hS hl ho)
end RULES
end
section
section HEAP
variable {ρ : Type} {l : Launch} {G : kG} {E : kE} {Z : (Nat → Prop) → ρ → Array Value → State → Outcome → State → Prop} {M : kM} {d : Nat} {o : Option ρ} {pc pc' : Nat} {lv lv' : List (Nat × Value)} {st : List Value} {S : kSt}
def kIsI (ty : FieldType) : Bool := match ty with
  | .int => true
  | .boolean => true
  | _ => false
def kIsR (ty : FieldType) : Bool := match ty with
  | .array _ => true
  | .object _ => true
  | _ => false
theorem kval_I {k j : Nat} {ty : FieldType} (h : kIsI ty = true) : kval E S k j ty = .int (S.1 k j) := by
  cases ty <;> first | rfl | cases h
theorem kval_R {k j : Nat} {ty : FieldType} (h : kIsR ty = true) : kval E S k j ty = va_rf ((kRf E.2 k j).map E.1) := by
  cases ty <;> first | rfl | cases h
/-- the row of getfield, whatever the place holds -/
theorem ok_getV {k c n j idx : Nat} {v : Value} (hd : kD M pc (.getfield idx) 3 pc') (hf : kFl M.1.cls idx c j) (hs : kSH[k]? = some (0, c, n)) (hv : kval E S k j (kTyp c j) = kcv E.1 v) (kk : kOk l G E Z M d o pc' lv (v :: st) S) : kOk l G E Z M d o pc lv (.ref k :: st) S := by
  intro p e s m args below meth c0 A H locs ls q C hP hS hl ho
  obtain ⟨hdc, rfl⟩ := hd
  obtain ⟨Cn, T, N, h1, h2, h3, h4⟩ := hf
  have hN := kshN hs h1
  subst hN
  refine va_get (a := E.1 k) (v := kcv E.1 v) C.1.1 C.1.2.1 C.1.2.2.2.2.2.2 (kob h1).1 C.1.2.2.2.2.2.1 C.2.1 hP k (fs := kfs E S k c n) (by rw [kws_at (kSH_lt hs), kent_obj hs]) h1 j h2 (C.1.2.2.2.2.2.2 _ h3) (by rw [h4]; exact fun _ h => h) (by rw [kfs_at h2, hv]) hdc (kk p e s m args below meth c0 A H locs ls q C hP hS hl ho)
theorem ok_getI {k c n j idx : Nat} (hd : kD M pc (.getfield idx) 3 pc') (hf : kFl M.1.cls idx c j) (hs : kSH[k]? = some (0, c, n)) (ht : kIsI (kTyp c j) = true) (kk : kOk l G E Z M d o pc' lv (.int (S.1 k j) :: st) S) : kOk l G E Z M d o pc lv (.ref k :: st) S :=
  ok_getV hd hf hs (kval_I ht) kk
theorem ok_getL {k c n j idx : Nat} (hd : kD M pc (.getfield idx) 3 pc') (hf : kFl M.1.cls idx c j) (hs : kSH[k]? = some (0, c, n)) (ht : kTyp c j = .long) (kk : kOk l G E Z M d o pc' lv (.long (S.2 k j) :: st) S) : kOk l G E Z M d o pc lv (.ref k :: st) S :=
  ok_getV (v := .long (S.2 k j)) hd hf hs (by rw [ht]; rfl) kk
theorem ok_getR {k c n j idx r : Nat} (hd : kD M pc (.getfield idx) 3 pc') (hf : kFl M.1.cls idx c j) (hs : kSH[k]? = some (0, c, n)) (ht : kIsR (kTyp c j) = true) (hr : kRf E.2 k j = some r) (kk : kOk l G E Z M d o pc' lv (.ref r :: st) S) : kOk l G E Z M d o pc lv (.ref k :: st) S :=
  ok_getV (v := .ref r) hd hf hs (by rw [kval_R ht, hr]; rfl) kk
/-- the row of putfield: the place j of cell k, by values -/
theorem ok_putV {k c n j idx : Nat} {v : Value} {S' : kSt} (hd : kD M pc (.putfield idx) 3 pc') (hf : kFl M.1.cls idx c j) (hs : kSH[k]? = some (0, c, n)) (hfin : kFin c j = false) (hn : narrow (kTyp c j) v = v) (hfit : fits (kTyp c j) v = true) (hv : kcv E.1 v = v) (h1 : kval E S' k j (kTyp c j) = v) (h2 : ∀ i, i ≠ j → kval E S' k i (kTyp c i) = kval E S k i (kTyp c i)) (h3 : ∀ i, i ≠ k → kent G E S' i = kent G E S i)
    (kk : kOk l G E Z M d o pc' lv st S') : kOk l G E Z M d o pc lv (v :: .ref k :: st) S := by
  intro p e s m args below meth c0 A H locs ls q C hP hS hl ho
  obtain ⟨hdc, rfl⟩ := hd
  obtain ⟨Cn, T, N, g1, g2, g3, g4⟩ := hf
  have hN := kshN hs g1
  subst hN
  have hlt := kSH_lt hs
  have hD : va_D A (kws G E S) := kws_D C.2.2.2.2.2.2.1 C.2.2.2.2.2.1
  have hff : (T j).2.2.2 = false := by
    unfold kFin at hfin
    rw [g1] at hfin
    exact hfin
  show W p l e (krm d) s m args below meth c0 H locs 0 0 _ (F0 m pc ls (kcv E.1 v :: .ref (E.1 k) :: st.map (kcv E.1)))
  rw [hv]
  refine va_put (a := E.1 k) (fs := kfs E S k c n) C.1.1 C.1.2.1 C.1.2.2.2.2.2.2 (kob g1).1 (kTyp c) (kob g1).2.1 (kob g1).2.2 C.1.2.2.2.2.2.1 C.2.1 hP hD hS k (by rw [kws_at hlt, kent_obj hs]) g1 j g2 (C.1.2.2.2.2.2.2 _ g3) (by rw [g4]; exact fun _ h => h) hff ((kob g1).2.1 j g2) hn hfit (by simpa [kfs] using g2) hdc (fun H1 locs1 hP1 _ hS1 => ?_)
  rw [← kfs_set (S' := S') h1 h2, kws_set (S' := S') hlt (kent_obj hs) h3] at hP1
  exact kk p e s m args below meth c0 A H1 locs1 ls q C hP1 hS1 hl ho
theorem kval_other {k j i : Nat} {x : Int32} {ty : FieldType} (h : i ≠ j) : kval E (kuI S k j x) k i ty = kval E S k i ty := by
  have h1 : (kuI S k j x).1 k i = S.1 k i := by simp [kuI, upd, h]
  unfold kval
  rw [h1]
  rfl
theorem kval_otherL {k j i : Nat} {x : Int64} {ty : FieldType} (h : i ≠ j) : kval E (kuL S k j x) k i ty = kval E S k i ty := by
  have h1 : (kuL S k j x).2 k i = S.2 k i := by simp [kuL, vp_updL, h]
  unfold kval
  rw [h1]
  rfl
theorem ok_putI {k c n j idx : Nat} {x : Int32} (hd : kD M pc (.putfield idx) 3 pc') (hf : kFl M.1.cls idx c j) (hs : kSH[k]? = some (0, c, n)) (hfin : kFin c j = false) (ht : kTyp c j = .int) (kk : kOk l G E Z M d o pc' lv st (kuI S k j x)) : kOk l G E Z M d o pc lv (.int x :: .ref k :: st) S :=
  ok_putV hd hf hs hfin (by rw [ht]; exact vp_nar_int x) (by rw [ht]; rfl) rfl (by rw [ht]; show Value.int ((kuI S k j x).1 k j) = _; simp [kuI, upd]) (fun i hi => kval_other hi) (fun i hi => kent_congr (kuI_ne S j x hi) rfl) kk
theorem ok_putZ {k c n j idx : Nat} {b : Bool} (hd : kD M pc (.putfield idx) 3 pc') (hf : kFl M.1.cls idx c j) (hs : kSH[k]? = some (0, c, n)) (hfin : kFin c j = false) (ht : kTyp c j = .boolean) (kk : kOk l G E Z M d o pc' lv st (kuI S k j (kb b))) : kOk l G E Z M d o pc lv (.int (kb b) :: .ref k :: st) S :=
  ok_putV hd hf hs hfin (by rw [ht]; cases b <;> decide +kernel) (by rw [ht]; cases b <;> decide +kernel) rfl (by rw [ht]; show Value.int ((kuI S k j (kb b)).1 k j) = _; simp [kuI, upd]) (fun i hi => kval_other hi) (fun i hi => kent_congr (kuI_ne S j (kb b) hi) rfl) kk
theorem ok_putL {k c n j idx : Nat} {x : Int64} (hd : kD M pc (.putfield idx) 3 pc') (hf : kFl M.1.cls idx c j) (hs : kSH[k]? = some (0, c, n)) (hfin : kFin c j = false) (ht : kTyp c j = .long) (kk : kOk l G E Z M d o pc' lv st (kuL S k j x)) : kOk l G E Z M d o pc lv (.long x :: .ref k :: st) S :=
  ok_putV hd hf hs hfin (by rw [ht]; rfl) (by rw [ht]; rfl) rfl (by rw [ht]; show Value.long ((kuL S k j x).2 k j) = _; simp [kuL, vp_updL]) (fun i hi => kval_otherL hi) (fun i hi => kent_congr rfl (kuL_ne S j x hi)) kk
-- arrays
theorem ok_iald {k n : Nat} {i : Int32} (hd : kD M pc .iaload 1 pc') (hs : kSH[k]? = some (1, 0, n)) (kk : kOk l G E Z M d o pc' lv (.int (S.1 k i.toNatClampNeg) :: st) S) : kOk l G E Z M d (kgi i n o) pc lv (.int i :: .ref k :: st) S := by
  intro p e s m args below meth c A H locs ls q C hP hS hl ho
  obtain ⟨hdc, rfl⟩ := hd
  obtain ⟨hi, ho⟩ := kgi_some ho
  exact va_iald (a := E.1 k) (cA := G.2.1.1) (n := n) (f := S.1 k) C.1.1 C.1.2.1 C.2.1 hP k 0 (by rw [kws_at (kSH_lt hs), kent_i hs]) rfl hi hdc (kk p e s m args below meth c A H locs ls q C hP hS hl ho)
theorem ok_bald {k n : Nat} {i : Int32} (hd : kD M pc .baload 1 pc') (hs : kSH[k]? = some (1, 1, n)) (kk : kOk l G E Z M d o pc' lv (.int (S.1 k i.toNatClampNeg) :: st) S) : kOk l G E Z M d (kgi i n o) pc lv (.int i :: .ref k :: st) S := by
  intro p e s m args below meth c A H locs ls q C hP hS hl ho
  obtain ⟨hdc, rfl⟩ := hd
  obtain ⟨hi, ho⟩ := kgi_some ho
  exact va_bald (a := E.1 k) (cA := G.2.1.2.1) (n := n) (f := S.1 k) C.1.1 C.1.2.1 C.2.1 hP k 1 (by rw [kws_at (kSH_lt hs), kent_b hs]) rfl hi hdc (kk p e s m args below meth c A H locs ls q C hP hS hl ho)
theorem ok_iast {k n : Nat} {i x : Int32} (hd : kD M pc .iastore 1 pc') (hs : kSH[k]? = some (1, 0, n)) (kk : kOk l G E Z M d o pc' lv st (kuI S k i.toNatClampNeg x)) : kOk l G E Z M d (kgi i n o) pc lv (.int x :: .int i :: .ref k :: st) S := by
  intro p e s m args below meth c A H locs ls q C hP hS hl ho
  obtain ⟨hdc, rfl⟩ := hd
  obtain ⟨hi, ho⟩ := kgi_some ho
  have hlt := kSH_lt hs
  have hD : va_D A (kws G E S) := kws_D C.2.2.2.2.2.2.1 C.2.2.2.2.2.1
  refine va_iast (a := E.1 k) (cA := G.2.1.1) (n := n) (f := S.1 k) C.1.1 C.1.2.1 C.2.1 hP hD hS k 0 (by rw [kws_at hlt, kent_i hs]) rfl hi hdc (fun H1 locs1 hP1 _ hS1 => ?_)
  rw [kws_set (S' := kuI S k i.toNatClampNeg x) hlt (by rw [kent_i hs, kuI_self]) (fun a ha => kent_congr (kuI_ne S _ _ ha) rfl)] at hP1
  exact kk p e s m args below meth c A H1 locs1 ls q C hP1 hS1 hl ho
theorem ok_bast {k n : Nat} {i x : Int32} (hd : kD M pc .bastore 1 pc') (hs : kSH[k]? = some (1, 1, n)) (kk : kOk l G E Z M d o pc' lv st (kuI S k i.toNatClampNeg x.toInt8.toInt32)) : kOk l G E Z M d (kgi i n o) pc lv (.int x :: .int i :: .ref k :: st) S := by
  intro p e s m args below meth c A H locs ls q C hP hS hl ho
  obtain ⟨hdc, rfl⟩ := hd
  obtain ⟨hi, ho⟩ := kgi_some ho
  have hlt := kSH_lt hs
  have hD : va_D A (kws G E S) := kws_D C.2.2.2.2.2.2.1 C.2.2.2.2.2.1
  refine va_bast (a := E.1 k) (cA := G.2.1.2.1) (n := n) (f := S.1 k) C.1.1 C.1.2.1 C.2.1 hP hD hS k 1 (by rw [kws_at hlt, kent_b hs]) rfl hi hdc (fun H1 locs1 hP1 _ hS1 => ?_)
  rw [vp_nar_byte, kws_set (S' := kuI S k i.toNatClampNeg x.toInt8.toInt32) hlt (by rw [kent_b hs, kuI_self]) (fun a ha => kent_congr (kuI_ne S _ _ ha) rfl)] at hP1
  exact kk p e s m args below meth c A H1 locs1 ls q C hP1 hS1 hl ho
theorem ok_alen {k n : Nat} (hd : kD M pc .arraylength 1 pc') (hs : kSH[k]? = some (1, 0, n)) (kk : kOk l G E Z M d o pc' lv (.int (Int32.ofNat n) :: st) S) : kOk l G E Z M d o pc lv (.ref k :: st) S := by
  intro p e s m args below meth c A H locs ls q C hP hS hl ho
  obtain ⟨hdc, rfl⟩ := hd
  exact va_alen (a := E.1 k) (cA := G.2.1.1) (x := (n, .inl (S.1 k))) (ty := .int) C.1.1 C.1.2.1 C.2.1 hP k 0 (by rw [kws_at (kSH_lt hs), kent_i hs]) rfl rfl hdc (kk p e s m args below meth c A H locs ls q C hP hS hl ho)
theorem ok_alenB {k n : Nat} (hd : kD M pc .arraylength 1 pc') (hs : kSH[k]? = some (1, 1, n)) (kk : kOk l G E Z M d o pc' lv (.int (Int32.ofNat n) :: st) S) : kOk l G E Z M d o pc lv (.ref k :: st) S := by
  intro p e s m args below meth c A H locs ls q C hP hS hl ho
  obtain ⟨hdc, rfl⟩ := hd
  exact va_alen (a := E.1 k) (cA := G.2.1.2.1) (x := (n, .inl (S.1 k))) (ty := .byte) C.1.1 C.1.2.1 C.2.1 hP k 1 (by rw [kws_at (kSH_lt hs), kent_b hs]) rfl rfl hdc (kk p e s m args below meth c A H locs ls q C hP hS hl ho)
theorem ok_aald {k n b : Nat} {i : Int32} (hd : kD M pc .aaload 1 pc') (hs : kSH[k]? = some (1, 3, n)) (hr : ∀ j, j < n → kRf E.2 k j = some (b + j)) (kk : i.toNatClampNeg < n → kOk l G E Z M d o pc' lv (.ref (b + i.toNatClampNeg) :: st) S) : kOk l G E Z M d (kgi i n o) pc lv (.int i :: .ref k :: st) S := by
  intro p e s m args below meth c A H locs ls q C hP hS hl ho
  obtain ⟨hdc, rfl⟩ := hd
  obtain ⟨hi, ho⟩ := kgi_some ho
  have hlt : i.toNatClampNeg < n := Nat.not_le.mp fun q => hi (Or.inr q)
  have hP0 := hP k (E.1 k, kent G E S k) (kws_at (kSH_lt hs))
  rw [kent_q hs] at hP0
  refine W.aald (v := .ref (E.1 (b + i.toNatClampNeg))) (ty := .array .int) C.1.1 C.1.2.1 hP0 ((C.2.1.2 3 _ rfl).1 n (fun j => va_rf ((kRf E.2 k j).map E.1))) rfl (fun q => by cases q) (by show ¬ (i < 0 ∨ (arrV _ _ _).slots.size ≤ _); rw [arrV_size]; exact hi) (by show (arrV _ _ _).slots[_]? = _; rw [arrV_read _ _ hlt]; show some (va_rf ((kRf E.2 k i.toNatClampNeg).map E.1)) = _; rw [hr _ hlt]; rfl) rfl rfl hdc (kk hlt p e s m args below meth c A H locs ls q C hP hS hl ho)
end HEAP
end
section
-- METHODS: their ends, their contracts, calls
def kQ (A : Nat → Prop) (B : State → Prop) (r : Option Value) : Array Value → State → Outcome → State → Prop := match r with
  | some (.int v) => va_Qi (fun (x : Int32) (_ : Unit) => x = v) (fun _ t => B t) A
  | some (.long v) => va_Ql (fun (x : Int64) (_ : Unit) => x = v) (fun _ t => B t) A
  | none => va_Qv (fun (_ : Unit) => True) (fun _ t => B t) A
  | _ => fun _ _ _ _ => False
def kjI (q : Int32 × kSt) : Option Value × kSt := (some (.int q.1), q.2)
def kjB (q : Bool × kSt) : Option Value × kSt := (some (.int (kb q.1)), q.2)
def kjL (q : Int64 × kSt) : Option Value × kSt := (some (.long q.1), q.2)
def kjV (q : kSt) : Option Value × kSt := (none, q)
def kZ {ρ : Type} (G : kG) (E : kE) (inj : ρ → Option Value × kSt) : (Nat → Prop) → ρ → Array Value → State → Outcome → State → Prop := fun A q => kQ A (fun t => va_P G.1 kCl (kws G E (inj q).2) t.heap) (inj q).1
def kA (E : kE) (sz : Nat) : Nat → Prop := fun q => (∃ k, k < kN ∧ q = E.1 k) ∨ sz ≤ q
def kWd (G : kG) (E : kE) (S : kSt) (sz : Nat) (U : State) : Prop := U.heap.size = sz ∧ va_P G.1 kCl (kws G E S) U.heap ∧ va_K G.1 kCl (ktys G) U ∧ vk_S 16 kLen kByt G.2.2.1 G.2.2.2.1 (kA E sz) U U.heap ∧ (∀ z ∈ kSi, vk_R z.1 z.2.1 (kTx.getD z.2.2 "") (G.2.2.1 z.2.2) U) ∧ (∀ i j, i < kN → j < kN → E.1 i = E.1 j → i = j) ∧ (∀ i, i < 16 → E.1 (1000 + i) = G.2.2.1 i ∧ E.1 (1100 + i) = G.2.2.2.1 i) ∧ (∀ w ∈ kNl, va_Nw w U) ∧ kZs G E (kA E sz) U U.heap
/-- the method's contract: if its picture ends with q, it does -/
def kFn {ρ : Type} (l : Launch) (G : kG) (E E' : kE) (inj : ρ → Option Value × kSt) (M : kM) (d : Nat) (as : List Value) (S : kSt) (o : Option ρ) : Prop :=
  ∀ q, o = some q → ∀ sz, Met l M.1 (kWs M) (krm d) (va_Pc (as.map (kcv E.1)) (kWd G E S sz)) (kZ G E' inj (kA E sz) q) 0 0 (kA E sz)
theorem kNl_tab : ∀ w ∈ kNl, w.onTables = true := by decide +kernel
theorem kNw_warm {s U : State} (hW : s.WarmedH U.vm) (h : ∀ w ∈ kNl, va_Nw w s) : ∀ w ∈ kNl, va_Nw w U := by
  intro w hw
  have h1 := h w hw
  simp only [kNl, List.mem_cons, List.not_mem_nil, or_false] at hw
  rcases hw with rfl | rfl
  · exact va_Nw.warmM hW h1
  · exact va_Nw.warmM hW h1
theorem kargs (ad : Nat → Nat) : ∀ (i : Nat) (as : List Value), lv_args i (as.map (kcv ad)) = (lv_args i as).map (fun x => (x.1, kcv ad x.2))
  | _, [] => rfl
  | i, v :: vs => by
    rw [List.map_cons, lv_args, lv_args, kcat, kargs ad _ vs]
    rfl
theorem kargl (ad : Nat → Nat) : ∀ (as : List Value), (lg_sl (as.map (kcv ad))).length = (lg_sl as).length
  | [] => rfl
  | v :: vs => by
    have h := kargl ad vs
    unfold lg_sl at h ⊢
    rw [List.map_cons, List.flatMap_cons, List.flatMap_cons, List.length_append, List.length_append, h, kcat]
    split <;> rfl
theorem kFn_of {ρ : Type} {l : Launch} {G : kG} {E E' : kE} {inj : ρ → Option Value × kSt} {M : kM} {d : Nat} {as : List Value} {S : kSt} {o : Option ρ} (hy : plainName M.1.cls = true) (hn : (lg_sl as).length ≤ M.2.2.1) (h : kOk l G E (kZ G E' inj) M d o 0 (lv_args 0 as) [] S) : kFn l G E E' inj M d as S o := by
  intro q hq sz
  refine Met.ofW (cc := M.2.1) (maxL := M.2.2.1) (ret := M.2.2.2) hy rfl ?_
  intro p e s m args below meth c s₁ B hml hv
  obtain ⟨rfl, hsz, hP, hK, hE, hR, hI, hT, hN, hZ⟩ := hv
  subst hsz
  have hts := atoms_spec (ws := kWs M) B.pre
  have hl := lv_entry (as.map (kcv E.1)) (n := M.2.2.1) (by rw [kargl]; exact hn)
  rw [kargs] at hl
  rw [lg_entry_eq]
  exact h p e s m _ below meth c (kA E s.heap.size) s.heap [] _ q ⟨⟨B.exec, B.bytes, hml, B.returns, B.notSynchronized, findClass_of_methodNamed B.named, fun w hw => hts w (List.mem_cons_of_mem _ hw)⟩, hK, hE, hR, fun q h => Or.inr h, fun k hk => Or.inl ⟨k, hk, rfl⟩, hI, hT, hN, hZ⟩ hP va_S.rf hl hq
section ENDS
variable {ρ : Type} {l : Launch} {G : kG} {E : kE} {Z : (Nat → Prop) → ρ → Array Value → State → Outcome → State → Prop} {M : kM} {d : Nat} {o : Option ρ} {pc pc' : Nat} {lv lv' : List (Nat × Value)} {st : List Value} {S : kSt}
theorem ok_ireturn {x : Int32} (hd : kD M pc .ireturn 1 pc') (hr : M.2.2.2 = some .int) : kOk l G E (kZ G E kjI) M d (some (x, S)) pc lv [.int x] S := by
  intro p e s m args below meth c A H locs ls q C hP hS hl ho
  obtain ⟨hdc, rfl⟩ := hd
  cases ho
  exact W.iret C.1.1 C.1.2.1 (by rw [C.1.2.2.2.1, hr]) (fun t ht _ => ⟨⟨x, (), rfl, rfl, by show va_P _ _ _ t.heap; rw [ht]; exact hP⟩, hS.F ht⟩) hS.2.2 hdc C.1.2.2.2.2.1
theorem ok_zreturn {x : Bool} (hd : kD M pc .ireturn 1 pc') (hr : M.2.2.2 = some .boolean) : kOk l G E (kZ G E kjB) M d (some (x, S)) pc lv [.int (kb x)] S := by
  intro p e s m args below meth c A H locs ls q C hP hS hl ho
  obtain ⟨hdc, rfl⟩ := hd
  cases ho
  exact W.zret C.1.1 C.1.2.1 (by rw [C.1.2.2.2.1, hr]) (by cases x <;> decide +kernel) (fun t ht _ => ⟨⟨kb x, (), rfl, rfl, by show va_P _ _ _ t.heap; rw [ht]; exact hP⟩, hS.F ht⟩) hS.2.2 hdc C.1.2.2.2.2.1
theorem ok_lreturn {x : Int64} (hd : kD M pc .lreturn 1 pc') (hr : M.2.2.2 = some .long) : kOk l G E (kZ G E kjL) M d (some (x, S)) pc lv [.long x] S := by
  intro p e s m args below meth c A H locs ls q C hP hS hl ho
  obtain ⟨hdc, rfl⟩ := hd
  cases ho
  exact W.lret C.1.1 C.1.2.1 (by rw [C.1.2.2.2.1, hr]) (fun t ht _ => ⟨⟨x, (), rfl, rfl, by show va_P _ _ _ t.heap; rw [ht]; exact hP⟩, hS.F ht⟩) hS.2.2 hdc C.1.2.2.2.2.1
theorem ok_return (hd : kD M pc .return_ 1 pc') (hr : M.2.2.2 = none) : kOk l G E (kZ G E kjV) M d (some S) pc lv [] S := by
  intro p e s m args below meth c A H locs ls q C hP hS hl ho
  obtain ⟨hdc, rfl⟩ := hd
  cases ho
  exact W.vret C.1.1 C.1.2.1 (by rw [C.1.2.2.2.1, hr]) (fun t ht _ => ⟨⟨(), rfl, trivial, by show va_P _ _ _ t.heap; rw [ht]; exact hP⟩, hS.F ht⟩) hS.2.2 hdc C.1.2.2.2.2.1
/-- what a callee is given -/
theorem kPre {p : Program} {s : State} {m : MethodId} {args : Array Value} {meth : Method} {c : Code} {A : Nat → Prop} {H : Heap} {locs : List Loc} (C : kCx G E M p s m args meth c A) (hP : va_P G.1 kCl (kws G E S) H) (hS : va_S A s.heap H locs) (as : List Value) : PreS s H (va_Pc (as.map (kcv E.1)) (kWd G E S H.size)) (as.map (kcv E.1)) := by
  have hAA : ∀ q, kA E H.size q → A q := fun q h => by
    rcases h with ⟨k, hk, rfl⟩ | h
    · exact C.2.2.2.2.2.1 k hk
    · exact C.2.2.2.2.1 q (Nat.le_trans hS.1 h)
  refine ⟨fun a U g mk q => ?_, fun U hU hW => ⟨rfl, by rw [hU], by rw [hU]; exact hP, va_K.moved hW.alike C.2.1, ?_, fun z hz => (C.2.2.2.1 z hz).warm hW, C.2.2.2.2.2.2.1, C.2.2.2.2.2.2.2.1, kNw_warm hW C.2.2.2.2.2.2.2.2.1, ?_⟩⟩
  · obtain ⟨q0, q1, q2, q3, q4, q5, q6, q7, q8, q9, q10⟩ := q
    exact ⟨q0, q1, q2, va_K.moved (u := U) (U := U.calling g mk a) (Vm.Alike.refl U.vm) q3, vk_S.moved (u := U) (U := U.calling g mk a) (Vm.Alike.refl U.vm) q4, fun z hz => vk_R.same rfl (q5 z hz), q6, q7, fun w hw => va_Nw.same (u := U) (U := U.calling g mk a) (kNl_tab w hw) rfl (q8 w hw), va_Z.moved (u := U) (U := U.calling g mk a) (Vm.Alike.refl U.vm) q9, va_Z.moved (u := U) (U := U.calling g mk a) (Vm.Alike.refl U.vm) q10⟩
  · have h1 := (C.2.2.1.kept hS.2.1).narrow hAA
    rw [hU]
    exact vk_S.moved hW.alike h1
  · have hz := C.2.2.2.2.2.2.2.2.2
    rw [hU]
    exact ⟨va_Z.moved hW.alike ((hz.1.kept hS.2.1).narrow hAA), va_Z.moved hW.alike ((hz.2.kept hS.2.1).narrow hAA)⟩
theorem kGood {M' : kM} (h : kcode M' ∈ kT) : GoodIn kT (kWs M') := fun w hw => by
  rcases List.mem_cons.mp hw with rfl | hw
  · exact ⟨h, kT_good h⟩
  · exact ⟨hw, kT_good hw⟩
theorem krm_ok {d d' n : Nat} (h : d' < d) (hn : n ≤ 30) : (krm d').frames + 1 ≤ (krm d).frames ∧ 8 + (n + 11) + (krm d').locals ≤ (krm d).locals := by
  show d' + 1 ≤ d ∧ 8 + (n + 11) + 60 * d' ≤ 60 * d
  omega
/-- the run of a call -/
theorem kRunV {ρ' : Type} {E' : kE} {inj : ρ' → Option Value × kSt} {M' : kM} {d' idx n k c nf : Nat} {as stk : List Value} {o1 : Option ρ'} {r : ρ'} {p : Program} {e : Env} {s : State} {m : MethodId} {args : Array Value} {below : List Frame} {meth : Method} {c0 : Code} {A : Nat → Prop} {H : Heap} {locs : List Loc} {ls : Array Slot}
    (hdc : decode M.2.1 pc = .ok (.invokevirtual idx, 3)) (hc : kCv M.1.cls idx M' n) (hs : kSH[k]? = some (0, c, nf)) (hcl : (kCl[c]?).map (fun q => q.1) = some M'.1.cls) (hn : as.length = n) (hm : M'.2.2.1 ≤ 30) (hF : kFn l G E E' inj M' d' (.ref k :: as) S o1) (hdd : d' < d) (hst : as.reverse ++ .ref k :: st = stk) (hrest : (st.map fun v => v.category).sum ≤ 8)
    (C : kCx G E M p s m args meth c0 A) (hP : va_P G.1 kCl (kws G E S) H) (hS : va_S A s.heap H locs) (hl : lv_has ls M.2.2.1 (lv.map (fun x => (x.1, kcv E.1 x.2)))) (hr : o1 = some r) :
    va_Run p l e (krm d) s m args below meth c0 H locs 0 0 0 0 (F0 m pc ls (stk.map (kcv E.1))) (st.map (kcv E.1)) (kZ G E' inj (kA E H.size) r ((Value.ref k :: as).map (kcv E.1)).toArray) (kA E H.size) := by
  subst hst
  obtain ⟨w1, w2, w3, w4, w5, w6⟩ := hc
  have hlt := kSH_lt hs
  have hpre := kPre C hP hS (.ref k :: as)
  cases hq : kCl[c]? with
  | none => rw [hq] at hcl; cases hcl
  | some qc =>
    rw [hq] at hcl
    have hcls : qc.1 = M'.1.cls := Option.some.inj hcl
    have hrv := va_recv (q0 := k) (ci := c) (fs := kfs E S k c nf) C.2.1 hP hq (by rw [kws_at hlt, kent_obj hs])
    rw [hcls] at hrv
    have cw := cwV (R := krm d) (rm := krm d') (mc := 0) (ms := 0) (own := M.1.cls) (index := idx) (C := M'.1.cls) (y := M'.1) (bytes := M'.2.1) (maxL := M'.2.2.1) (ret := M'.2.2.2) (ws := kWs M') (ws' := kT) n C.1.2.2.2.2.2.2 (fun w hw => by
      rcases List.mem_append.mp hw with hw | hw
      · simp only [List.mem_cons, List.not_mem_nil, or_false] at hw
        rcases hw with rfl | rfl | rfl | rfl
        · exact ⟨w1, kT_good w1⟩
        · exact ⟨w2, kT_good w2⟩
        · exact ⟨w3, kT_good w3⟩
        · exact ⟨w4, kT_good w4⟩
      · exact kGood w5 w hw) rfl rfl rfl ⟨rfl, w6.1, w6.2.1, w6.2.2⟩ (krm_ok hdd hm)
    refine va_runV (b := E.1 k) (As := as.map (kcv E.1)) (nL := M.2.2.1) (C := M'.1.cls) ⟨C.1.1, C.1.2.1, C.1.2.2.1, C.1.2.2.2.2.2.1, C.1.2.2.2.2.2.2⟩ (hF r hr H.size) cw ⟨hpre.1, hrv, hpre.2⟩ rfl (by rw [List.length_map]; exact hn) hl.1 ?_ ?_ hdc ⟨Nat.le_refl 0, Nat.le_refl 0⟩
    · show (as.reverse ++ .ref k :: st).map (kcv E.1) = _
      rw [List.map_append, List.map_reverse]
      rfl
    · refine lv_room ?_
      rw [List.map_map]
      have : (List.map ((fun v => Value.category v) ∘ kcv E.1) st) = st.map (fun v => v.category) := List.map_congr_left (fun v _ => kcat E.1 v)
      rw [this]
      exact hrest
theorem kRunS {ρ' : Type} {E' : kE} {inj : ρ' → Option Value × kSt} {M' : kM} {d' idx n : Nat} {as stk : List Value} {o1 : Option ρ'} {r : ρ'} {p : Program} {e : Env} {s : State} {m : MethodId} {args : Array Value} {below : List Frame} {meth : Method} {c0 : Code} {A : Nat → Prop} {H : Heap} {locs : List Loc} {ls : Array Slot}
    (hdc : decode M.2.1 pc = .ok (.invokestatic idx, 3)) (hc : kCs M.1.cls idx M' n) (hn : as.length = n) (hm : M'.2.2.1 ≤ 30) (hF : kFn l G E E' inj M' d' as S o1) (hdd : d' < d) (hst : as.reverse ++ st = stk) (hrest : (st.map fun v => v.category).sum ≤ 8)
    (C : kCx G E M p s m args meth c0 A) (hP : va_P G.1 kCl (kws G E S) H) (hS : va_S A s.heap H locs) (hl : lv_has ls M.2.2.1 (lv.map (fun x => (x.1, kcv E.1 x.2)))) (hr : o1 = some r) :
    va_Run p l e (krm d) s m args below meth c0 H locs 0 0 0 0 (F0 m pc ls (stk.map (kcv E.1))) (st.map (kcv E.1)) (kZ G E' inj (kA E H.size) r (as.map (kcv E.1)).toArray) (kA E H.size) := by
  subst hst
  obtain ⟨w1, w2, w4, w5, w6⟩ := hc
  have hpre := kPre C hP hS as
  have cw := va_cwS (R := krm d) (rm := krm d') (mc := 0) (ms := 0) (own := M.1.cls) (index := idx) (y := M'.1) (bytes := M'.2.1) (maxL := M'.2.2.1) (ret := M'.2.2.2) (ws := kWs M') (ws' := kT) n C.1.2.2.2.2.2.2 (fun w hw => by
      rcases List.mem_append.mp hw with hw | hw
      · simp only [List.mem_cons, List.not_mem_nil, or_false] at hw
        rcases hw with rfl | rfl | rfl
        · exact ⟨w1, kT_good w1⟩
        · exact ⟨w2, kT_good w2⟩
        · exact ⟨w4, kT_good w4⟩
      · exact kGood w5 w hw) rfl rfl rfl ⟨w6.1, w6.2.1, w6.2.2⟩ (krm_ok hdd hm)
  refine va_runS (As := as.map (kcv E.1)) (nL := M.2.2.1) ⟨C.1.1, C.1.2.1, C.1.2.2.1, C.1.2.2.2.2.2.1, C.1.2.2.2.2.2.2⟩ (hF r hr H.size) cw hpre rfl (by rw [List.length_map]; exact hn) hl.1 ?_ ?_ hdc ⟨Nat.le_refl 0, Nat.le_refl 0⟩
  · show (as.reverse ++ st).map (kcv E.1) = _
    rw [List.map_append, List.map_reverse]
  · refine lv_room ?_
    rw [List.map_map]
    have : (List.map ((fun v => Value.category v) ∘ kcv E.1) st) = st.map (fun v => v.category) := List.map_congr_left (fun v _ => kcat E.1 v)
    rw [this]
    exact hrest
theorem kRunN {ρ' : Type} {E' : kE} {inj : ρ' → Option Value × kSt} {M' : kM} {host : String} {d' idx n : Nat} {as stk : List Value} {o1 : Option ρ'} {r : ρ'} {p : Program} {e : Env} {s : State} {m : MethodId} {args : Array Value} {below : List Frame} {meth : Method} {c0 : Code} {A : Nat → Prop} {H : Heap} {locs : List Loc} {ls : Array Slot}
    (hdc : decode M.2.1 pc = .ok (.invokestatic idx, 3)) (hc : kCn M.1.cls host idx M' n) (hn : as.length = n) (hm : M'.2.2.1 ≤ 30) (hF : kFn l G E E' inj M' d' as S o1) (hdd : d' < d) (hst : as.reverse ++ st = stk) (hrest : (st.map fun v => v.category).sum ≤ 8)
    (C : kCx G E M p s m args meth c0 A) (hP : va_P G.1 kCl (kws G E S) H) (hS : va_S A s.heap H locs) (hl : lv_has ls M.2.2.1 (lv.map (fun x => (x.1, kcv E.1 x.2)))) (hr : o1 = some r) :
    va_Run p l e (krm d) s m args below meth c0 H locs 0 0 0 0 (F0 m pc ls (stk.map (kcv E.1))) (st.map (kcv E.1)) (kZ G E' inj (kA E H.size) r (as.map (kcv E.1)).toArray) (kA E H.size) := by
  subst hst
  obtain ⟨w1, w2, w4, w5, w6⟩ := hc
  have hpre := kPre C hP hS as
  have cw := va_cnB (R := krm d) (rm := krm d') (mc := 0) (ms := 0) (own := M.1.cls) (host := host) (index := idx) (y := M'.1) (bytes := M'.2.1) (maxL := M'.2.2.1) (ret := M'.2.2.2) (ws := kWs M') (ws' := kT) n C.1.2.2.2.2.2.2 (kGood w5) rfl rfl rfl (C.2.2.2.2.2.2.2.2.1 _ w1) (C.1.2.2.2.2.2.2 _ w4) ⟨w6.1, w6.2.1, w6.2.2⟩ (krm_ok hdd hm)
  refine va_runSN (As := as.map (kcv E.1)) (nL := M.2.2.1) ⟨C.1.1, C.1.2.1, C.1.2.2.1, C.1.2.2.2.2.2.1, C.1.2.2.2.2.2.2⟩ (hF r hr H.size) ⟨cw, C.1.2.2.2.2.2.2 _ w2, trivial⟩ hpre rfl (by rw [List.length_map]; exact hn) hl.1 ?_ ?_ hdc ⟨Nat.le_refl 0, Nat.le_refl 0⟩
  · show (as.reverse ++ st).map (kcv E.1) = _
    rw [List.map_append, List.map_reverse]
  · refine lv_room ?_
    rw [List.map_map]
    have : (List.map ((fun v => Value.category v) ∘ kcv E.1) st) = st.map (fun v => v.category) := List.map_congr_left (fun v _ => kcat E.1 v)
    rw [this]
    exact hrest
/-- the callee's cells are among the caller's -/
theorem kAA {p : Program} {s : State} {m : MethodId} {args : Array Value} {meth : Method} {c : Code} {A : Nat → Prop} {H : Heap} {locs : List Loc} (C : kCx G E M p s m args meth c A) (hS : va_S A s.heap H locs) : ∀ q, kA E H.size q → A q := fun q h => by
  rcases h with ⟨k, hk, rfl⟩ | h
  · exact C.2.2.2.2.2.1 k hk
  · exact C.2.2.2.2.1 q (Nat.le_trans hS.1 h)
theorem kbnd {α β : Type} {o1 : Option α} {o2 : α → Option β} {q : β} (h : o1.bind o2 = some q) : ∃ a, o1 = some a ∧ o2 a = some q := by
  cases o1 with
  | none => cases h
  | some a => exact ⟨a, rfl, h⟩
theorem ok_callVI {M' : kM} {d' idx n : Nat} {k c nf : Nat} {as stk : List Value} {o1 : Option (Int32 × kSt)} {o2 : Int32 × kSt → Option ρ} (hd : kD M pc (.invokevirtual idx) 3 pc') (hc : kCv M.1.cls idx M' n) (hs : kSH[k]? = some (0, c, nf)) (hcl : (kCl[c]?).map (fun q => q.1) = some M'.1.cls) (hn : as.length = n) (hm : M'.2.2.1 ≤ 30) (hF : kFn l G E E kjI M' d' (.ref k :: as) S o1) (hdd : d' < d) (hst : as.reverse ++ .ref k :: st = stk) (hrest : (st.map fun v => v.category).sum ≤ 8) (kk : ∀ a, o1 = some a → kOk l G E Z M d (o2 a) pc' lv (.int a.1 :: st) a.2) : kOk l G E Z M d (o1.bind o2) pc lv stk S := by
  intro p e s m args below meth c0 A H locs ls q C hP hS hl ho
  obtain ⟨hdc, rfl⟩ := hd
  obtain ⟨a, ha, ho⟩ := kbnd ho
  refine va_calli (a := ((Value.ref k :: as).map (kcv E.1)).toArray) (kRunV hdc hc hs hcl hn hm hF hdd hst hrest C hP hS hl ha) hS (fun q _ h => kAA C hS q h) (kAA C hS) (fun r u t H1 locs1 ht hvm hw hB _ _ hS1 => ?_)
  dsimp only at hB
  rw [ht] at hB
  cases hw
  exact kk a ha p e s m args below meth c0 A H1 locs1 ls q C hB hS1 hl ho
theorem ok_callSI {M' : kM} {d' idx n : Nat} {as stk : List Value} {o1 : Option (Int32 × kSt)} {o2 : Int32 × kSt → Option ρ} (hd : kD M pc (.invokestatic idx) 3 pc') (hc : kCs M.1.cls idx M' n) (hn : as.length = n) (hm : M'.2.2.1 ≤ 30) (hF : kFn l G E E kjI M' d' as S o1) (hdd : d' < d) (hst : as.reverse ++ st = stk) (hrest : (st.map fun v => v.category).sum ≤ 8) (kk : ∀ a, o1 = some a → kOk l G E Z M d (o2 a) pc' lv (.int a.1 :: st) a.2) : kOk l G E Z M d (o1.bind o2) pc lv stk S := by
  intro p e s m args below meth c0 A H locs ls q C hP hS hl ho
  obtain ⟨hdc, rfl⟩ := hd
  obtain ⟨a, ha, ho⟩ := kbnd ho
  refine va_calli (a := (as.map (kcv E.1)).toArray) (kRunS hdc hc hn hm hF hdd hst hrest C hP hS hl ha) hS (fun q _ h => kAA C hS q h) (kAA C hS) (fun r u t H1 locs1 ht hvm hw hB _ _ hS1 => ?_)
  dsimp only at hB
  rw [ht] at hB
  cases hw
  exact kk a ha p e s m args below meth c0 A H1 locs1 ls q C hB hS1 hl ho
theorem ok_callNI {M' : kM} {d' idx n : Nat} {host : String} {as stk : List Value} {o1 : Option (Int32 × kSt)} {o2 : Int32 × kSt → Option ρ} (hd : kD M pc (.invokestatic idx) 3 pc') (hc : kCn M.1.cls host idx M' n) (hn : as.length = n) (hm : M'.2.2.1 ≤ 30) (hF : kFn l G E E kjI M' d' as S o1) (hdd : d' < d) (hst : as.reverse ++ st = stk) (hrest : (st.map fun v => v.category).sum ≤ 8) (kk : ∀ a, o1 = some a → kOk l G E Z M d (o2 a) pc' lv (.int a.1 :: st) a.2) : kOk l G E Z M d (o1.bind o2) pc lv stk S := by
  intro p e s m args below meth c0 A H locs ls q C hP hS hl ho
  obtain ⟨hdc, rfl⟩ := hd
  obtain ⟨a, ha, ho⟩ := kbnd ho
  refine va_calli (a := (as.map (kcv E.1)).toArray) (kRunN hdc hc hn hm hF hdd hst hrest C hP hS hl ha) hS (fun q _ h => kAA C hS q h) (kAA C hS) (fun r u t H1 locs1 ht hvm hw hB _ _ hS1 => ?_)
  dsimp only at hB
  rw [ht] at hB
  cases hw
  exact kk a ha p e s m args below meth c0 A H1 locs1 ls q C hB hS1 hl ho
theorem ok_callVB {M' : kM} {d' idx n : Nat} {k c nf : Nat} {as stk : List Value} {o1 : Option (Bool × kSt)} {o2 : Bool × kSt → Option ρ} (hd : kD M pc (.invokevirtual idx) 3 pc') (hc : kCv M.1.cls idx M' n) (hs : kSH[k]? = some (0, c, nf)) (hcl : (kCl[c]?).map (fun q => q.1) = some M'.1.cls) (hn : as.length = n) (hm : M'.2.2.1 ≤ 30) (hF : kFn l G E E kjB M' d' (.ref k :: as) S o1) (hdd : d' < d) (hst : as.reverse ++ .ref k :: st = stk) (hrest : (st.map fun v => v.category).sum ≤ 8) (kk : ∀ a, o1 = some a → kOk l G E Z M d (o2 a) pc' lv (.int (kb a.1) :: st) a.2) : kOk l G E Z M d (o1.bind o2) pc lv stk S := by
  intro p e s m args below meth c0 A H locs ls q C hP hS hl ho
  obtain ⟨hdc, rfl⟩ := hd
  obtain ⟨a, ha, ho⟩ := kbnd ho
  refine va_calli (a := ((Value.ref k :: as).map (kcv E.1)).toArray) (kRunV hdc hc hs hcl hn hm hF hdd hst hrest C hP hS hl ha) hS (fun q _ h => kAA C hS q h) (kAA C hS) (fun r u t H1 locs1 ht hvm hw hB _ _ hS1 => ?_)
  dsimp only at hB
  rw [ht] at hB
  cases hw
  exact kk a ha p e s m args below meth c0 A H1 locs1 ls q C hB hS1 hl ho
theorem ok_callSB {M' : kM} {d' idx n : Nat} {as stk : List Value} {o1 : Option (Bool × kSt)} {o2 : Bool × kSt → Option ρ} (hd : kD M pc (.invokestatic idx) 3 pc') (hc : kCs M.1.cls idx M' n) (hn : as.length = n) (hm : M'.2.2.1 ≤ 30) (hF : kFn l G E E kjB M' d' as S o1) (hdd : d' < d) (hst : as.reverse ++ st = stk) (hrest : (st.map fun v => v.category).sum ≤ 8) (kk : ∀ a, o1 = some a → kOk l G E Z M d (o2 a) pc' lv (.int (kb a.1) :: st) a.2) : kOk l G E Z M d (o1.bind o2) pc lv stk S := by
  intro p e s m args below meth c0 A H locs ls q C hP hS hl ho
  obtain ⟨hdc, rfl⟩ := hd
  obtain ⟨a, ha, ho⟩ := kbnd ho
  refine va_calli (a := (as.map (kcv E.1)).toArray) (kRunS hdc hc hn hm hF hdd hst hrest C hP hS hl ha) hS (fun q _ h => kAA C hS q h) (kAA C hS) (fun r u t H1 locs1 ht hvm hw hB _ _ hS1 => ?_)
  dsimp only at hB
  rw [ht] at hB
  cases hw
  exact kk a ha p e s m args below meth c0 A H1 locs1 ls q C hB hS1 hl ho
theorem ok_callNB {M' : kM} {d' idx n : Nat} {host : String} {as stk : List Value} {o1 : Option (Bool × kSt)} {o2 : Bool × kSt → Option ρ} (hd : kD M pc (.invokestatic idx) 3 pc') (hc : kCn M.1.cls host idx M' n) (hn : as.length = n) (hm : M'.2.2.1 ≤ 30) (hF : kFn l G E E kjB M' d' as S o1) (hdd : d' < d) (hst : as.reverse ++ st = stk) (hrest : (st.map fun v => v.category).sum ≤ 8) (kk : ∀ a, o1 = some a → kOk l G E Z M d (o2 a) pc' lv (.int (kb a.1) :: st) a.2) : kOk l G E Z M d (o1.bind o2) pc lv stk S := by
  intro p e s m args below meth c0 A H locs ls q C hP hS hl ho
  obtain ⟨hdc, rfl⟩ := hd
  obtain ⟨a, ha, ho⟩ := kbnd ho
  refine va_calli (a := (as.map (kcv E.1)).toArray) (kRunN hdc hc hn hm hF hdd hst hrest C hP hS hl ha) hS (fun q _ h => kAA C hS q h) (kAA C hS) (fun r u t H1 locs1 ht hvm hw hB _ _ hS1 => ?_)
  dsimp only at hB
  rw [ht] at hB
  cases hw
  exact kk a ha p e s m args below meth c0 A H1 locs1 ls q C hB hS1 hl ho
theorem ok_callVL {M' : kM} {d' idx n : Nat} {k c nf : Nat} {as stk : List Value} {o1 : Option (Int64 × kSt)} {o2 : Int64 × kSt → Option ρ} (hd : kD M pc (.invokevirtual idx) 3 pc') (hc : kCv M.1.cls idx M' n) (hs : kSH[k]? = some (0, c, nf)) (hcl : (kCl[c]?).map (fun q => q.1) = some M'.1.cls) (hn : as.length = n) (hm : M'.2.2.1 ≤ 30) (hF : kFn l G E E kjL M' d' (.ref k :: as) S o1) (hdd : d' < d) (hst : as.reverse ++ .ref k :: st = stk) (hrest : (st.map fun v => v.category).sum ≤ 8) (kk : ∀ a, o1 = some a → kOk l G E Z M d (o2 a) pc' lv (.long a.1 :: st) a.2) : kOk l G E Z M d (o1.bind o2) pc lv stk S := by
  intro p e s m args below meth c0 A H locs ls q C hP hS hl ho
  obtain ⟨hdc, rfl⟩ := hd
  obtain ⟨a, ha, ho⟩ := kbnd ho
  refine va_calll (a := ((Value.ref k :: as).map (kcv E.1)).toArray) (kRunV hdc hc hs hcl hn hm hF hdd hst hrest C hP hS hl ha) hS (fun q _ h => kAA C hS q h) (kAA C hS) (fun r u t H1 locs1 ht hvm hw hB _ _ hS1 => ?_)
  dsimp only at hB
  rw [ht] at hB
  cases hw
  exact kk a ha p e s m args below meth c0 A H1 locs1 ls q C hB hS1 hl ho
theorem ok_callSL {M' : kM} {d' idx n : Nat} {as stk : List Value} {o1 : Option (Int64 × kSt)} {o2 : Int64 × kSt → Option ρ} (hd : kD M pc (.invokestatic idx) 3 pc') (hc : kCs M.1.cls idx M' n) (hn : as.length = n) (hm : M'.2.2.1 ≤ 30) (hF : kFn l G E E kjL M' d' as S o1) (hdd : d' < d) (hst : as.reverse ++ st = stk) (hrest : (st.map fun v => v.category).sum ≤ 8) (kk : ∀ a, o1 = some a → kOk l G E Z M d (o2 a) pc' lv (.long a.1 :: st) a.2) : kOk l G E Z M d (o1.bind o2) pc lv stk S := by
  intro p e s m args below meth c0 A H locs ls q C hP hS hl ho
  obtain ⟨hdc, rfl⟩ := hd
  obtain ⟨a, ha, ho⟩ := kbnd ho
  refine va_calll (a := (as.map (kcv E.1)).toArray) (kRunS hdc hc hn hm hF hdd hst hrest C hP hS hl ha) hS (fun q _ h => kAA C hS q h) (kAA C hS) (fun r u t H1 locs1 ht hvm hw hB _ _ hS1 => ?_)
  dsimp only at hB
  rw [ht] at hB
  cases hw
  exact kk a ha p e s m args below meth c0 A H1 locs1 ls q C hB hS1 hl ho
theorem ok_callNL {M' : kM} {d' idx n : Nat} {host : String} {as stk : List Value} {o1 : Option (Int64 × kSt)} {o2 : Int64 × kSt → Option ρ} (hd : kD M pc (.invokestatic idx) 3 pc') (hc : kCn M.1.cls host idx M' n) (hn : as.length = n) (hm : M'.2.2.1 ≤ 30) (hF : kFn l G E E kjL M' d' as S o1) (hdd : d' < d) (hst : as.reverse ++ st = stk) (hrest : (st.map fun v => v.category).sum ≤ 8) (kk : ∀ a, o1 = some a → kOk l G E Z M d (o2 a) pc' lv (.long a.1 :: st) a.2) : kOk l G E Z M d (o1.bind o2) pc lv stk S := by
  intro p e s m args below meth c0 A H locs ls q C hP hS hl ho
  obtain ⟨hdc, rfl⟩ := hd
  obtain ⟨a, ha, ho⟩ := kbnd ho
  refine va_calll (a := (as.map (kcv E.1)).toArray) (kRunN hdc hc hn hm hF hdd hst hrest C hP hS hl ha) hS (fun q _ h => kAA C hS q h) (kAA C hS) (fun r u t H1 locs1 ht hvm hw hB _ _ hS1 => ?_)
  dsimp only at hB
  rw [ht] at hB
  cases hw
  exact kk a ha p e s m args below meth c0 A H1 locs1 ls q C hB hS1 hl ho
theorem ok_callVV {M' : kM} {d' idx n : Nat} {k c nf : Nat} {as stk : List Value} {o1 : Option kSt} {o2 : kSt → Option ρ} (hd : kD M pc (.invokevirtual idx) 3 pc') (hc : kCv M.1.cls idx M' n) (hs : kSH[k]? = some (0, c, nf)) (hcl : (kCl[c]?).map (fun q => q.1) = some M'.1.cls) (hn : as.length = n) (hm : M'.2.2.1 ≤ 30) (hF : kFn l G E E kjV M' d' (.ref k :: as) S o1) (hdd : d' < d) (hst : as.reverse ++ .ref k :: st = stk) (hrest : (st.map fun v => v.category).sum ≤ 8) (kk : ∀ a, o1 = some a → kOk l G E Z M d (o2 a) pc' lv st a) : kOk l G E Z M d (o1.bind o2) pc lv stk S := by
  intro p e s m args below meth c0 A H locs ls q C hP hS hl ho
  obtain ⟨hdc, rfl⟩ := hd
  obtain ⟨a, ha, ho⟩ := kbnd ho
  refine va_callv (a := ((Value.ref k :: as).map (kcv E.1)).toArray) (kRunV hdc hc hs hcl hn hm hF hdd hst hrest C hP hS hl ha) hS (fun q _ h => kAA C hS q h) (kAA C hS) (fun u t H1 locs1 ht hvm hw hB _ _ hS1 => ?_)
  dsimp only at hB
  rw [ht] at hB
  exact kk a ha p e s m args below meth c0 A H1 locs1 ls q C hB hS1 hl ho
theorem ok_callSV {M' : kM} {d' idx n : Nat} {as stk : List Value} {o1 : Option kSt} {o2 : kSt → Option ρ} (hd : kD M pc (.invokestatic idx) 3 pc') (hc : kCs M.1.cls idx M' n) (hn : as.length = n) (hm : M'.2.2.1 ≤ 30) (hF : kFn l G E E kjV M' d' as S o1) (hdd : d' < d) (hst : as.reverse ++ st = stk) (hrest : (st.map fun v => v.category).sum ≤ 8) (kk : ∀ a, o1 = some a → kOk l G E Z M d (o2 a) pc' lv st a) : kOk l G E Z M d (o1.bind o2) pc lv stk S := by
  intro p e s m args below meth c0 A H locs ls q C hP hS hl ho
  obtain ⟨hdc, rfl⟩ := hd
  obtain ⟨a, ha, ho⟩ := kbnd ho
  refine va_callv (a := (as.map (kcv E.1)).toArray) (kRunS hdc hc hn hm hF hdd hst hrest C hP hS hl ha) hS (fun q _ h => kAA C hS q h) (kAA C hS) (fun u t H1 locs1 ht hvm hw hB _ _ hS1 => ?_)
  dsimp only at hB
  rw [ht] at hB
  exact kk a ha p e s m args below meth c0 A H1 locs1 ls q C hB hS1 hl ho
end ENDS
end
