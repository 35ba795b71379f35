section
-- ===== PART A: goes FIRST, ahead of the names: the tables' words, and 'selects' of the private methods out of them =====
/-- a private method of a class that the tables say can be made, by its rows of tables_1 -/
def lw_okq (q : MethodName × Nat) : Prop := (q.1.cls ≠ "java/lang/invoke/MethodHandle" ∧ q.1.cls ≠ "java/lang/invoke/VarHandle") ∧ Cond.instantiable q.1.cls q.2 ∈ tables_1 ∧ Cond.privateMethod q.1 ∈ tables_1 ∧ Cond.instanceMethod q.1 ∈ tables_1
theorem lw_p0 : lw_okq (⟨"FigureKnee", "putBytes", "(I)V"⟩, 19) := ⟨⟨by decide +kernel, by decide +kernel⟩, List.mem_of_getElem? (i := 25) (by decide +kernel), List.mem_of_getElem? (i := 431) (by decide +kernel), List.mem_of_getElem? (i := 432) (by decide +kernel)⟩
theorem lw_p1 : lw_okq (⟨"FigureKnee", "refuse", "(I)I"⟩, 19) := ⟨⟨by decide +kernel, by decide +kernel⟩, List.mem_of_getElem? (i := 25) (by decide +kernel), List.mem_of_getElem? (i := 442) (by decide +kernel), List.mem_of_getElem? (i := 443) (by decide +kernel)⟩
theorem lw_p2 : lw_okq (⟨"FigureKnee$Reade\x72", "next", "()V"⟩, 11) := ⟨⟨by decide +kernel, by decide +kernel⟩, List.mem_of_getElem? (i := 137) (by decide +kernel), List.mem_of_getElem? (i := 460) (by decide +kernel), List.mem_of_getElem? (i := 461) (by decide +kernel)⟩
theorem lw_p3 : lw_okq (⟨"FigureKnee$Reade\x72", "takeLetters", "()V"⟩, 11) := ⟨⟨by decide +kernel, by decide +kernel⟩, List.mem_of_getElem? (i := 137) (by decide +kernel), List.mem_of_getElem? (i := 467) (by decide +kernel), List.mem_of_getElem? (i := 468) (by decide +kernel)⟩
theorem lw_p4 : lw_okq (⟨"FigureKnee$Reade\x72", "takeDigits", "()V"⟩, 11) := ⟨⟨by decide +kernel, by decide +kernel⟩, List.mem_of_getElem? (i := 137) (by decide +kernel), List.mem_of_getElem? (i := 474) (by decide +kernel), List.mem_of_getElem? (i := 475) (by decide +kernel)⟩
theorem lw_p5 : lw_okq (⟨"FigureKnee$Reade\x72", "readHead", "()Z"⟩, 11) := ⟨⟨by decide +kernel, by decide +kernel⟩, List.mem_of_getElem? (i := 137) (by decide +kernel), List.mem_of_getElem? (i := 478) (by decide +kernel), List.mem_of_getElem? (i := 479) (by decide +kernel)⟩
theorem lw_p6 : lw_okq (⟨"FigureKnee$Reade\x72", "isWord", "(Ljava/lang/String;)Z"⟩, 11) := ⟨⟨by decide +kernel, by decide +kernel⟩, List.mem_of_getElem? (i := 137) (by decide +kernel), List.mem_of_getElem? (i := 483) (by decide +kernel), List.mem_of_getElem? (i := 484) (by decide +kernel)⟩
theorem lw_p7 : lw_okq (⟨"FigureKnee$Reade\x72", "isHeadOfLine", "()Z"⟩, 11) := ⟨⟨by decide +kernel, by decide +kernel⟩, List.mem_of_getElem? (i := 137) (by decide +kernel), List.mem_of_getElem? (i := 535) (by decide +kernel), List.mem_of_getElem? (i := 536) (by decide +kernel)⟩
theorem lw_p8 : lw_okq (⟨"FigureKnee$Reade\x72", "found", "(I)Z"⟩, 11) := ⟨⟨by decide +kernel, by decide +kernel⟩, List.mem_of_getElem? (i := 137) (by decide +kernel), List.mem_of_getElem? (i := 544) (by decide +kernel), List.mem_of_getElem? (i := 545) (by decide +kernel)⟩
theorem lw_p9 : lw_okq (⟨"FigureKnee$Reade\x72", "takeWord", "(Ljava/lang/String;)Z"⟩, 11) := ⟨⟨by decide +kernel, by decide +kernel⟩, List.mem_of_getElem? (i := 137) (by decide +kernel), List.mem_of_getElem? (i := 549) (by decide +kernel), List.mem_of_getElem? (i := 550) (by decide +kernel)⟩
theorem lw_p10 : lw_okq (⟨"FigureKnee$Reade\x72", "seesWhole", "(II)Z"⟩, 11) := ⟨⟨by decide +kernel, by decide +kernel⟩, List.mem_of_getElem? (i := 137) (by decide +kernel), List.mem_of_getElem? (i := 553) (by decide +kernel), List.mem_of_getElem? (i := 554) (by decide +kernel)⟩
theorem lw_p11 : lw_okq (⟨"FigureKnee$Reade\x72", "readLine", "()Z"⟩, 11) := ⟨⟨by decide +kernel, by decide +kernel⟩, List.mem_of_getElem? (i := 137) (by decide +kernel), List.mem_of_getElem? (i := 558) (by decide +kernel), List.mem_of_getElem? (i := 559) (by decide +kernel)⟩
theorem lw_p12 : lw_okq (⟨"FigureKnee$Reade\x72", "readPai\x72", "()Z"⟩, 11) := ⟨⟨by decide +kernel, by decide +kernel⟩, List.mem_of_getElem? (i := 137) (by decide +kernel), List.mem_of_getElem? (i := 562) (by decide +kernel), List.mem_of_getElem? (i := 563) (by decide +kernel)⟩
theorem lw_p13 : lw_okq (⟨"FigureKnee$Reade\x72", "pairOfName", "()I"⟩, 11) := ⟨⟨by decide +kernel, by decide +kernel⟩, List.mem_of_getElem? (i := 137) (by decide +kernel), List.mem_of_getElem? (i := 566) (by decide +kernel), List.mem_of_getElem? (i := 567) (by decide +kernel)⟩
theorem lw_p14 : lw_okq (⟨"FigureKnee$Reade\x72", "isSame", "(II)Z"⟩, 11) := ⟨⟨by decide +kernel, by decide +kernel⟩, List.mem_of_getElem? (i := 137) (by decide +kernel), List.mem_of_getElem? (i := 570) (by decide +kernel), List.mem_of_getElem? (i := 571) (by decide +kernel)⟩
theorem lw_p15 : lw_okq (⟨"FigureKnee$Reade\x72", "lawOfWord", "()I"⟩, 11) := ⟨⟨by decide +kernel, by decide +kernel⟩, List.mem_of_getElem? (i := 137) (by decide +kernel), List.mem_of_getElem? (i := 574) (by decide +kernel), List.mem_of_getElem? (i := 575) (by decide +kernel)⟩
def lw_privs_1 : List (MethodName × Nat) := [(⟨"FigureKnee", "putBytes", "(I)V"⟩, 19), (⟨"FigureKnee", "refuse", "(I)I"⟩, 19), (⟨"FigureKnee$Reade\x72", "next", "()V"⟩, 11), (⟨"FigureKnee$Reade\x72", "takeLetters", "()V"⟩, 11), (⟨"FigureKnee$Reade\x72", "takeDigits", "()V"⟩, 11), (⟨"FigureKnee$Reade\x72", "readHead", "()Z"⟩, 11), (⟨"FigureKnee$Reade\x72", "isWord", "(Ljava/lang/String;)Z"⟩, 11), (⟨"FigureKnee$Reade\x72", "isHeadOfLine", "()Z"⟩, 11), (⟨"FigureKnee$Reade\x72", "found", "(I)Z"⟩, 11), (⟨"FigureKnee$Reade\x72", "takeWord", "(Ljava/lang/String;)Z"⟩, 11), (⟨"FigureKnee$Reade\x72", "seesWhole", "(II)Z"⟩, 11), (⟨"FigureKnee$Reade\x72", "readLine", "()Z"⟩, 11), (⟨"FigureKnee$Reade\x72", "readPai\x72", "()Z"⟩, 11), (⟨"FigureKnee$Reade\x72", "pairOfName", "()I"⟩, 11), (⟨"FigureKnee$Reade\x72", "isSame", "(II)Z"⟩, 11), (⟨"FigureKnee$Reade\x72", "lawOfWord", "()I"⟩, 11)]
theorem lw_r1 : ∀ q ∈ lw_privs_1, lw_okq q := List.forall_mem_cons.mpr ⟨lw_p0, List.forall_mem_cons.mpr ⟨lw_p1, List.forall_mem_cons.mpr ⟨lw_p2, List.forall_mem_cons.mpr ⟨lw_p3, List.forall_mem_cons.mpr ⟨lw_p4, List.forall_mem_cons.mpr ⟨lw_p5, List.forall_mem_cons.mpr ⟨lw_p6, List.forall_mem_cons.mpr ⟨lw_p7, List.forall_mem_cons.mpr ⟨lw_p8, List.forall_mem_cons.mpr ⟨lw_p9, List.forall_mem_cons.mpr ⟨lw_p10, List.forall_mem_cons.mpr ⟨lw_p11, List.forall_mem_cons.mpr ⟨lw_p12, List.forall_mem_cons.mpr ⟨lw_p13, List.forall_mem_cons.mpr ⟨lw_p14, List.forall_mem_cons.mpr ⟨lw_p15, fun _ h => absurd h List.not_mem_nil⟩⟩⟩⟩⟩⟩⟩⟩⟩⟩⟩⟩⟩⟩⟩⟩
theorem lw_p16 : lw_okq (⟨"FigureKnee$Reade\x72", "readContract", "()Z"⟩, 11) := ⟨⟨by decide +kernel, by decide +kernel⟩, List.mem_of_getElem? (i := 137) (by decide +kernel), List.mem_of_getElem? (i := 584) (by decide +kernel), List.mem_of_getElem? (i := 585) (by decide +kernel)⟩
theorem lw_p17 : lw_okq (⟨"FigureKnee$Reade\x72", "seenPai\x72", "()I"⟩, 11) := ⟨⟨by decide +kernel, by decide +kernel⟩, List.mem_of_getElem? (i := 137) (by decide +kernel), List.mem_of_getElem? (i := 588) (by decide +kernel), List.mem_of_getElem? (i := 589) (by decide +kernel)⟩
theorem lw_p18 : lw_okq (⟨"FigureKnee$Reade\x72", "readDebt", "()Z"⟩, 11) := ⟨⟨by decide +kernel, by decide +kernel⟩, List.mem_of_getElem? (i := 137) (by decide +kernel), List.mem_of_getElem? (i := 593) (by decide +kernel), List.mem_of_getElem? (i := 594) (by decide +kernel)⟩
theorem lw_p19 : lw_okq (⟨"FigureKnee$Reade\x72", "readUnsure", "()Z"⟩, 11) := ⟨⟨by decide +kernel, by decide +kernel⟩, List.mem_of_getElem? (i := 137) (by decide +kernel), List.mem_of_getElem? (i := 597) (by decide +kernel), List.mem_of_getElem? (i := 598) (by decide +kernel)⟩
theorem lw_p20 : lw_okq (⟨"FigureKnee$Reade\x72", "readHeard", "()Z"⟩, 11) := ⟨⟨by decide +kernel, by decide +kernel⟩, List.mem_of_getElem? (i := 137) (by decide +kernel), List.mem_of_getElem? (i := 605) (by decide +kernel), List.mem_of_getElem? (i := 606) (by decide +kernel)⟩
theorem lw_p21 : lw_okq (⟨"FigureKnee", "isPai\x72", "(I)Z"⟩, 19) := ⟨⟨by decide +kernel, by decide +kernel⟩, List.mem_of_getElem? (i := 25) (by decide +kernel), List.mem_of_getElem? (i := 637) (by decide +kernel), List.mem_of_getElem? (i := 638) (by decide +kernel)⟩
theorem lw_p22 : lw_okq (⟨"FigureKnee", "may", "(Z)Z"⟩, 19) := ⟨⟨by decide +kernel, by decide +kernel⟩, List.mem_of_getElem? (i := 25) (by decide +kernel), List.mem_of_getElem? (i := 641) (by decide +kernel), List.mem_of_getElem? (i := 642) (by decide +kernel)⟩
theorem lw_p23 : lw_okq (⟨"FigureKnee", "may", "(ZZ)Z"⟩, 19) := ⟨⟨by decide +kernel, by decide +kernel⟩, List.mem_of_getElem? (i := 25) (by decide +kernel), List.mem_of_getElem? (i := 645) (by decide +kernel), List.mem_of_getElem? (i := 646) (by decide +kernel)⟩
theorem lw_p24 : lw_okq (⟨"FigureKnee", "isMore", "(I)Z"⟩, 19) := ⟨⟨by decide +kernel, by decide +kernel⟩, List.mem_of_getElem? (i := 25) (by decide +kernel), List.mem_of_getElem? (i := 649) (by decide +kernel), List.mem_of_getElem? (i := 650) (by decide +kernel)⟩
theorem lw_p25 : lw_okq (⟨"FigureKnee", "sayingBehind", "(II)I"⟩, 19) := ⟨⟨by decide +kernel, by decide +kernel⟩, List.mem_of_getElem? (i := 25) (by decide +kernel), List.mem_of_getElem? (i := 657) (by decide +kernel), List.mem_of_getElem? (i := 658) (by decide +kernel)⟩
theorem lw_p26 : lw_okq (⟨"FigureKnee$Walk", "byLaw", "()I"⟩, 6) := ⟨⟨by decide +kernel, by decide +kernel⟩, List.mem_of_getElem? (i := 226) (by decide +kernel), List.mem_of_getElem? (i := 677) (by decide +kernel), List.mem_of_getElem? (i := 678) (by decide +kernel)⟩
theorem lw_p27 : lw_okq (⟨"FigureKnee", "goRound", "(I)V"⟩, 19) := ⟨⟨by decide +kernel, by decide +kernel⟩, List.mem_of_getElem? (i := 25) (by decide +kernel), List.mem_of_getElem? (i := 715) (by decide +kernel), List.mem_of_getElem? (i := 716) (by decide +kernel)⟩
theorem lw_p28 : lw_okq (⟨"FigureKnee$Rounds", "shortenRound", "()V"⟩, 4) := ⟨⟨by decide +kernel, by decide +kernel⟩, List.mem_of_getElem? (i := 259) (by decide +kernel), List.mem_of_getElem? (i := 730) (by decide +kernel), List.mem_of_getElem? (i := 731) (by decide +kernel)⟩
theorem lw_p29 : lw_okq (⟨"FigureKnee$Rounds", "comesAgainBehind", "(I)Z"⟩, 4) := ⟨⟨by decide +kernel, by decide +kernel⟩, List.mem_of_getElem? (i := 259) (by decide +kernel), List.mem_of_getElem? (i := 734) (by decide +kernel), List.mem_of_getElem? (i := 735) (by decide +kernel)⟩
theorem lw_p30 : lw_okq (⟨"FigureKnee", "areUnlike", "(II)Z"⟩, 19) := ⟨⟨by decide +kernel, by decide +kernel⟩, List.mem_of_getElem? (i := 25) (by decide +kernel), List.mem_of_getElem? (i := 775) (by decide +kernel), List.mem_of_getElem? (i := 776) (by decide +kernel)⟩
theorem lw_p31 : lw_okq (⟨"FigureKnee", "sayAllBehind", "(I)V"⟩, 19) := ⟨⟨by decide +kernel, by decide +kernel⟩, List.mem_of_getElem? (i := 25) (by decide +kernel), List.mem_of_getElem? (i := 783) (by decide +kernel), List.mem_of_getElem? (i := 784) (by decide +kernel)⟩
def lw_privs_2 : List (MethodName × Nat) := [(⟨"FigureKnee$Reade\x72", "readContract", "()Z"⟩, 11), (⟨"FigureKnee$Reade\x72", "seenPai\x72", "()I"⟩, 11), (⟨"FigureKnee$Reade\x72", "readDebt", "()Z"⟩, 11), (⟨"FigureKnee$Reade\x72", "readUnsure", "()Z"⟩, 11), (⟨"FigureKnee$Reade\x72", "readHeard", "()Z"⟩, 11), (⟨"FigureKnee", "isPai\x72", "(I)Z"⟩, 19), (⟨"FigureKnee", "may", "(Z)Z"⟩, 19), (⟨"FigureKnee", "may", "(ZZ)Z"⟩, 19), (⟨"FigureKnee", "isMore", "(I)Z"⟩, 19), (⟨"FigureKnee", "sayingBehind", "(II)I"⟩, 19), (⟨"FigureKnee$Walk", "byLaw", "()I"⟩, 6), (⟨"FigureKnee", "goRound", "(I)V"⟩, 19), (⟨"FigureKnee$Rounds", "shortenRound", "()V"⟩, 4), (⟨"FigureKnee$Rounds", "comesAgainBehind", "(I)Z"⟩, 4), (⟨"FigureKnee", "areUnlike", "(II)Z"⟩, 19), (⟨"FigureKnee", "sayAllBehind", "(I)V"⟩, 19)]
theorem lw_r2 : ∀ q ∈ lw_privs_2, lw_okq q := List.forall_mem_cons.mpr ⟨lw_p16, List.forall_mem_cons.mpr ⟨lw_p17, List.forall_mem_cons.mpr ⟨lw_p18, List.forall_mem_cons.mpr ⟨lw_p19, List.forall_mem_cons.mpr ⟨lw_p20, List.forall_mem_cons.mpr ⟨lw_p21, List.forall_mem_cons.mpr ⟨lw_p22, List.forall_mem_cons.mpr ⟨lw_p23, List.forall_mem_cons.mpr ⟨lw_p24, List.forall_mem_cons.mpr ⟨lw_p25, List.forall_mem_cons.mpr ⟨lw_p26, List.forall_mem_cons.mpr ⟨lw_p27, List.forall_mem_cons.mpr ⟨lw_p28, List.forall_mem_cons.mpr ⟨lw_p29, List.forall_mem_cons.mpr ⟨lw_p30, List.forall_mem_cons.mpr ⟨lw_p31, fun _ h => absurd h List.not_mem_nil⟩⟩⟩⟩⟩⟩⟩⟩⟩⟩⟩⟩⟩⟩⟩⟩
theorem lw_p32 : lw_okq (⟨"FigureKnee", "bitsOfMore", "([I)I"⟩, 19) := ⟨⟨by decide +kernel, by decide +kernel⟩, List.mem_of_getElem? (i := 25) (by decide +kernel), List.mem_of_getElem? (i := 809) (by decide +kernel), List.mem_of_getElem? (i := 810) (by decide +kernel)⟩
theorem lw_p33 : lw_okq (⟨"FigureKnee", "bestEvery", "(II)I"⟩, 19) := ⟨⟨by decide +kernel, by decide +kernel⟩, List.mem_of_getElem? (i := 25) (by decide +kernel), List.mem_of_getElem? (i := 817) (by decide +kernel), List.mem_of_getElem? (i := 818) (by decide +kernel)⟩
theorem lw_p34 : lw_okq (⟨"FigureKnee", "sayingByEvery", "(III)I"⟩, 19) := ⟨⟨by decide +kernel, by decide +kernel⟩, List.mem_of_getElem? (i := 25) (by decide +kernel), List.mem_of_getElem? (i := 821) (by decide +kernel), List.mem_of_getElem? (i := 822) (by decide +kernel)⟩
theorem lw_p35 : lw_okq (⟨"FigureKnee", "mayFit", "()Z"⟩, 19) := ⟨⟨by decide +kernel, by decide +kernel⟩, List.mem_of_getElem? (i := 25) (by decide +kernel), List.mem_of_getElem? (i := 841) (by decide +kernel), List.mem_of_getElem? (i := 842) (by decide +kernel)⟩
theorem lw_p36 : lw_okq (⟨"FigureKnee$Fitting", "fitsHeard", "(LFigureKnee$Pier;II)Z"⟩, 5) := ⟨⟨by decide +kernel, by decide +kernel⟩, List.mem_of_getElem? (i := 280) (by decide +kernel), List.mem_of_getElem? (i := 850) (by decide +kernel), List.mem_of_getElem? (i := 851) (by decide +kernel)⟩
theorem lw_p37 : lw_okq (⟨"FigureKnee$Fitting", "isFit", "(II)Z"⟩, 5) := ⟨⟨by decide +kernel, by decide +kernel⟩, List.mem_of_getElem? (i := 280) (by decide +kernel), List.mem_of_getElem? (i := 856) (by decide +kernel), List.mem_of_getElem? (i := 857) (by decide +kernel)⟩
theorem lw_p38 : lw_okq (⟨"FigureKnee", "apartByTold", "(I)I"⟩, 19) := ⟨⟨by decide +kernel, by decide +kernel⟩, List.mem_of_getElem? (i := 25) (by decide +kernel), List.mem_of_getElem? (i := 902) (by decide +kernel), List.mem_of_getElem? (i := 903) (by decide +kernel)⟩
theorem lw_p39 : lw_okq (⟨"FigureKnee$Books", "countDebtsHome", "(LFigureKnee$Now;I)V"⟩, 7) := ⟨⟨by decide +kernel, by decide +kernel⟩, List.mem_of_getElem? (i := 306) (by decide +kernel), List.mem_of_getElem? (i := 954) (by decide +kernel), List.mem_of_getElem? (i := 955) (by decide +kernel)⟩
theorem lw_p40 : lw_okq (⟨"FigureKnee$Books", "fewestDebtsBehind", "(LFigureKnee$Now;I)I"⟩, 7) := ⟨⟨by decide +kernel, by decide +kernel⟩, List.mem_of_getElem? (i := 306) (by decide +kernel), List.mem_of_getElem? (i := 959) (by decide +kernel), List.mem_of_getElem? (i := 960) (by decide +kernel)⟩
theorem lw_p41 : lw_okq (⟨"FigureKnee$Books", "firstNext", "(LFigureKnee$Now;II)I"⟩, 7) := ⟨⟨by decide +kernel, by decide +kernel⟩, List.mem_of_getElem? (i := 306) (by decide +kernel), List.mem_of_getElem? (i := 963) (by decide +kernel), List.mem_of_getElem? (i := 964) (by decide +kernel)⟩
theorem lw_p42 : lw_okq (⟨"FigureKnee$Gallery", "lookBy", "(III)V"⟩, 3) := ⟨⟨by decide +kernel, by decide +kernel⟩, List.mem_of_getElem? (i := 337) (by decide +kernel), List.mem_of_getElem? (i := 1001) (by decide +kernel), List.mem_of_getElem? (i := 1002) (by decide +kernel)⟩
theorem lw_p43 : lw_okq (⟨"FigureKnee", "goWithDumb", "(III)J"⟩, 19) := ⟨⟨by decide +kernel, by decide +kernel⟩, List.mem_of_getElem? (i := 25) (by decide +kernel), List.mem_of_getElem? (i := 1036) (by decide +kernel), List.mem_of_getElem? (i := 1037) (by decide +kernel)⟩
theorem lw_p44 : lw_okq (⟨"FigureKnee", "deny", "(I)Z"⟩, 19) := ⟨⟨by decide +kernel, by decide +kernel⟩, List.mem_of_getElem? (i := 25) (by decide +kernel), List.mem_of_getElem? (i := 1076) (by decide +kernel), List.mem_of_getElem? (i := 1077) (by decide +kernel)⟩
theorem lw_p45 : lw_okq (⟨"java/lang/Throwable", "fillInStackTrace", "(I)Ljava/lang/Throwable;"⟩, 6) := ⟨⟨by decide +kernel, by decide +kernel⟩, List.mem_of_getElem? (i := 1162) (by decide +kernel), List.mem_of_getElem? (i := 1160) (by decide +kernel), List.mem_of_getElem? (i := 1161) (by decide +kernel)⟩
theorem lw_p46 : lw_okq (⟨"FigureKneeModel", "good", "()V"⟩, 42) := ⟨⟨by decide +kernel, by decide +kernel⟩, List.mem_of_getElem? (i := 1187) (by decide +kernel), List.mem_of_getElem? (i := 1332) (by decide +kernel), List.mem_of_getElem? (i := 1333) (by decide +kernel)⟩
theorem lw_p47 : lw_okq (⟨"FigureKneeModel", "no", "(I)I"⟩, 42) := ⟨⟨by decide +kernel, by decide +kernel⟩, List.mem_of_getElem? (i := 1187) (by decide +kernel), List.mem_of_getElem? (i := 1339) (by decide +kernel), List.mem_of_getElem? (i := 1340) (by decide +kernel)⟩
def lw_privs_3 : List (MethodName × Nat) := [(⟨"FigureKnee", "bitsOfMore", "([I)I"⟩, 19), (⟨"FigureKnee", "bestEvery", "(II)I"⟩, 19), (⟨"FigureKnee", "sayingByEvery", "(III)I"⟩, 19), (⟨"FigureKnee", "mayFit", "()Z"⟩, 19), (⟨"FigureKnee$Fitting", "fitsHeard", "(LFigureKnee$Pier;II)Z"⟩, 5), (⟨"FigureKnee$Fitting", "isFit", "(II)Z"⟩, 5), (⟨"FigureKnee", "apartByTold", "(I)I"⟩, 19), (⟨"FigureKnee$Books", "countDebtsHome", "(LFigureKnee$Now;I)V"⟩, 7), (⟨"FigureKnee$Books", "fewestDebtsBehind", "(LFigureKnee$Now;I)I"⟩, 7), (⟨"FigureKnee$Books", "firstNext", "(LFigureKnee$Now;II)I"⟩, 7), (⟨"FigureKnee$Gallery", "lookBy", "(III)V"⟩, 3), (⟨"FigureKnee", "goWithDumb", "(III)J"⟩, 19), (⟨"FigureKnee", "deny", "(I)Z"⟩, 19), (⟨"java/lang/Throwable", "fillInStackTrace", "(I)Ljava/lang/Throwable;"⟩, 6), (⟨"FigureKneeModel", "good", "()V"⟩, 42), (⟨"FigureKneeModel", "no", "(I)I"⟩, 42)]
theorem lw_r3 : ∀ q ∈ lw_privs_3, lw_okq q := List.forall_mem_cons.mpr ⟨lw_p32, List.forall_mem_cons.mpr ⟨lw_p33, List.forall_mem_cons.mpr ⟨lw_p34, List.forall_mem_cons.mpr ⟨lw_p35, List.forall_mem_cons.mpr ⟨lw_p36, List.forall_mem_cons.mpr ⟨lw_p37, List.forall_mem_cons.mpr ⟨lw_p38, List.forall_mem_cons.mpr ⟨lw_p39, List.forall_mem_cons.mpr ⟨lw_p40, List.forall_mem_cons.mpr ⟨lw_p41, List.forall_mem_cons.mpr ⟨lw_p42, List.forall_mem_cons.mpr ⟨lw_p43, List.forall_mem_cons.mpr ⟨lw_p44, List.forall_mem_cons.mpr ⟨lw_p45, List.forall_mem_cons.mpr ⟨lw_p46, List.forall_mem_cons.mpr ⟨lw_p47, fun _ h => absurd h List.not_mem_nil⟩⟩⟩⟩⟩⟩⟩⟩⟩⟩⟩⟩⟩⟩⟩⟩
theorem lw_p48 : lw_okq (⟨"FigureKneeModel", "next", "()V"⟩, 42) := ⟨⟨by decide +kernel, by decide +kernel⟩, List.mem_of_getElem? (i := 1187) (by decide +kernel), List.mem_of_getElem? (i := 1343) (by decide +kernel), List.mem_of_getElem? (i := 1344) (by decide +kernel)⟩
theorem lw_p49 : lw_okq (⟨"FigureKneeModel", "see", "(I)I"⟩, 42) := ⟨⟨by decide +kernel, by decide +kernel⟩, List.mem_of_getElem? (i := 1187) (by decide +kernel), List.mem_of_getElem? (i := 1347) (by decide +kernel), List.mem_of_getElem? (i := 1348) (by decide +kernel)⟩
theorem lw_p50 : lw_okq (⟨"FigureKneeModel", "readLine", "()V"⟩, 42) := ⟨⟨by decide +kernel, by decide +kernel⟩, List.mem_of_getElem? (i := 1187) (by decide +kernel), List.mem_of_getElem? (i := 1357) (by decide +kernel), List.mem_of_getElem? (i := 1358) (by decide +kernel)⟩
theorem lw_p51 : lw_okq (⟨"FigureKneeModel", "isWord", "(Ljava/lang/String;)Z"⟩, 42) := ⟨⟨by decide +kernel, by decide +kernel⟩, List.mem_of_getElem? (i := 1187) (by decide +kernel), List.mem_of_getElem? (i := 1362) (by decide +kernel), List.mem_of_getElem? (i := 1363) (by decide +kernel)⟩
theorem lw_p52 : lw_okq (⟨"FigureKneeModel", "pierLine", "()V"⟩, 42) := ⟨⟨by decide +kernel, by decide +kernel⟩, List.mem_of_getElem? (i := 1187) (by decide +kernel), List.mem_of_getElem? (i := 1368) (by decide +kernel), List.mem_of_getElem? (i := 1369) (by decide +kernel)⟩
theorem lw_p53 : lw_okq (⟨"FigureKneeModel", "wrong", "(II)V"⟩, 42) := ⟨⟨by decide +kernel, by decide +kernel⟩, List.mem_of_getElem? (i := 1187) (by decide +kernel), List.mem_of_getElem? (i := 1372) (by decide +kernel), List.mem_of_getElem? (i := 1373) (by decide +kernel)⟩
theorem lw_p54 : lw_okq (⟨"FigureKneeModel", "afte\x72", "(Ljava/lang/String;II)I"⟩, 42) := ⟨⟨by decide +kernel, by decide +kernel⟩, List.mem_of_getElem? (i := 1187) (by decide +kernel), List.mem_of_getElem? (i := 1377) (by decide +kernel), List.mem_of_getElem? (i := 1378) (by decide +kernel)⟩
theorem lw_p55 : lw_okq (⟨"FigureKneeModel", "must", "(Ljava/lang/String;)V"⟩, 42) := ⟨⟨by decide +kernel, by decide +kernel⟩, List.mem_of_getElem? (i := 1187) (by decide +kernel), List.mem_of_getElem? (i := 1381) (by decide +kernel), List.mem_of_getElem? (i := 1382) (by decide +kernel)⟩
theorem lw_p56 : lw_okq (⟨"FigureKneeModel", "takesWord", "(Ljava/lang/String;)Z"⟩, 42) := ⟨⟨by decide +kernel, by decide +kernel⟩, List.mem_of_getElem? (i := 1187) (by decide +kernel), List.mem_of_getElem? (i := 1385) (by decide +kernel), List.mem_of_getElem? (i := 1386) (by decide +kernel)⟩
theorem lw_p57 : lw_okq (⟨"FigureKneeModel", "numbe\x72", "(II)I"⟩, 42) := ⟨⟨by decide +kernel, by decide +kernel⟩, List.mem_of_getElem? (i := 1187) (by decide +kernel), List.mem_of_getElem? (i := 1389) (by decide +kernel), List.mem_of_getElem? (i := 1390) (by decide +kernel)⟩
theorem lw_p58 : lw_okq (⟨"FigureKneeModel", "numberHere", "(II)I"⟩, 42) := ⟨⟨by decide +kernel, by decide +kernel⟩, List.mem_of_getElem? (i := 1187) (by decide +kernel), List.mem_of_getElem? (i := 1393) (by decide +kernel), List.mem_of_getElem? (i := 1394) (by decide +kernel)⟩
theorem lw_p59 : lw_okq (⟨"FigureKneeModel", "pass", "()V"⟩, 42) := ⟨⟨by decide +kernel, by decide +kernel⟩, List.mem_of_getElem? (i := 1187) (by decide +kernel), List.mem_of_getElem? (i := 1397) (by decide +kernel), List.mem_of_getElem? (i := 1398) (by decide +kernel)⟩
theorem lw_p60 : lw_okq (⟨"FigureKneeModel", "begins", "(Ljava/lang/String;Z)Z"⟩, 42) := ⟨⟨by decide +kernel, by decide +kernel⟩, List.mem_of_getElem? (i := 1187) (by decide +kernel), List.mem_of_getElem? (i := 1403) (by decide +kernel), List.mem_of_getElem? (i := 1404) (by decide +kernel)⟩
theorem lw_p61 : lw_okq (⟨"FigureKneeModel", "pairLine", "()V"⟩, 42) := ⟨⟨by decide +kernel, by decide +kernel⟩, List.mem_of_getElem? (i := 1187) (by decide +kernel), List.mem_of_getElem? (i := 1407) (by decide +kernel), List.mem_of_getElem? (i := 1408) (by decide +kernel)⟩
theorem lw_p62 : lw_okq (⟨"FigureKneeModel", "newName", "(I)V"⟩, 42) := ⟨⟨by decide +kernel, by decide +kernel⟩, List.mem_of_getElem? (i := 1187) (by decide +kernel), List.mem_of_getElem? (i := 1411) (by decide +kernel), List.mem_of_getElem? (i := 1412) (by decide +kernel)⟩
theorem lw_p63 : lw_okq (⟨"FigureKneeModel", "mustName", "()V"⟩, 42) := ⟨⟨by decide +kernel, by decide +kernel⟩, List.mem_of_getElem? (i := 1187) (by decide +kernel), List.mem_of_getElem? (i := 1415) (by decide +kernel), List.mem_of_getElem? (i := 1416) (by decide +kernel)⟩
def lw_privs_4 : List (MethodName × Nat) := [(⟨"FigureKneeModel", "next", "()V"⟩, 42), (⟨"FigureKneeModel", "see", "(I)I"⟩, 42), (⟨"FigureKneeModel", "readLine", "()V"⟩, 42), (⟨"FigureKneeModel", "isWord", "(Ljava/lang/String;)Z"⟩, 42), (⟨"FigureKneeModel", "pierLine", "()V"⟩, 42), (⟨"FigureKneeModel", "wrong", "(II)V"⟩, 42), (⟨"FigureKneeModel", "afte\x72", "(Ljava/lang/String;II)I"⟩, 42), (⟨"FigureKneeModel", "must", "(Ljava/lang/String;)V"⟩, 42), (⟨"FigureKneeModel", "takesWord", "(Ljava/lang/String;)Z"⟩, 42), (⟨"FigureKneeModel", "numbe\x72", "(II)I"⟩, 42), (⟨"FigureKneeModel", "numberHere", "(II)I"⟩, 42), (⟨"FigureKneeModel", "pass", "()V"⟩, 42), (⟨"FigureKneeModel", "begins", "(Ljava/lang/String;Z)Z"⟩, 42), (⟨"FigureKneeModel", "pairLine", "()V"⟩, 42), (⟨"FigureKneeModel", "newName", "(I)V"⟩, 42), (⟨"FigureKneeModel", "mustName", "()V"⟩, 42)]
theorem lw_r4 : ∀ q ∈ lw_privs_4, lw_okq q := List.forall_mem_cons.mpr ⟨lw_p48, List.forall_mem_cons.mpr ⟨lw_p49, List.forall_mem_cons.mpr ⟨lw_p50, List.forall_mem_cons.mpr ⟨lw_p51, List.forall_mem_cons.mpr ⟨lw_p52, List.forall_mem_cons.mpr ⟨lw_p53, List.forall_mem_cons.mpr ⟨lw_p54, List.forall_mem_cons.mpr ⟨lw_p55, List.forall_mem_cons.mpr ⟨lw_p56, List.forall_mem_cons.mpr ⟨lw_p57, List.forall_mem_cons.mpr ⟨lw_p58, List.forall_mem_cons.mpr ⟨lw_p59, List.forall_mem_cons.mpr ⟨lw_p60, List.forall_mem_cons.mpr ⟨lw_p61, List.forall_mem_cons.mpr ⟨lw_p62, List.forall_mem_cons.mpr ⟨lw_p63, fun _ h => absurd h List.not_mem_nil⟩⟩⟩⟩⟩⟩⟩⟩⟩⟩⟩⟩⟩⟩⟩⟩
theorem lw_p64 : lw_okq (⟨"FigureKneeModel", "find", "()I"⟩, 42) := ⟨⟨by decide +kernel, by decide +kernel⟩, List.mem_of_getElem? (i := 1187) (by decide +kernel), List.mem_of_getElem? (i := 1423) (by decide +kernel), List.mem_of_getElem? (i := 1424) (by decide +kernel)⟩
theorem lw_p65 : lw_okq (⟨"FigureKneeModel", "contractLine", "()V"⟩, 42) := ⟨⟨by decide +kernel, by decide +kernel⟩, List.mem_of_getElem? (i := 1187) (by decide +kernel), List.mem_of_getElem? (i := 1433) (by decide +kernel), List.mem_of_getElem? (i := 1434) (by decide +kernel)⟩
theorem lw_p66 : lw_okq (⟨"FigureKneeModel", "pairHere", "()I"⟩, 42) := ⟨⟨by decide +kernel, by decide +kernel⟩, List.mem_of_getElem? (i := 1187) (by decide +kernel), List.mem_of_getElem? (i := 1437) (by decide +kernel), List.mem_of_getElem? (i := 1438) (by decide +kernel)⟩
theorem lw_p67 : lw_okq (⟨"FigureKneeModel", "debtLine", "()V"⟩, 42) := ⟨⟨by decide +kernel, by decide +kernel⟩, List.mem_of_getElem? (i := 1187) (by decide +kernel), List.mem_of_getElem? (i := 1442) (by decide +kernel), List.mem_of_getElem? (i := 1443) (by decide +kernel)⟩
theorem lw_p68 : lw_okq (⟨"FigureKneeModel", "unsureLine", "()V"⟩, 42) := ⟨⟨by decide +kernel, by decide +kernel⟩, List.mem_of_getElem? (i := 1187) (by decide +kernel), List.mem_of_getElem? (i := 1446) (by decide +kernel), List.mem_of_getElem? (i := 1447) (by decide +kernel)⟩
theorem lw_p69 : lw_okq (⟨"FigureKneeModel", "heardLine", "()V"⟩, 42) := ⟨⟨by decide +kernel, by decide +kernel⟩, List.mem_of_getElem? (i := 1187) (by decide +kernel), List.mem_of_getElem? (i := 1450) (by decide +kernel), List.mem_of_getElem? (i := 1451) (by decide +kernel)⟩
theorem lw_p70 : lw_okq (⟨"FigureKneeModel", "isPai\x72", "(I)Z"⟩, 42) := ⟨⟨by decide +kernel, by decide +kernel⟩, List.mem_of_getElem? (i := 1187) (by decide +kernel), List.mem_of_getElem? (i := 1470) (by decide +kernel), List.mem_of_getElem? (i := 1471) (by decide +kernel)⟩
theorem lw_p71 : lw_okq (⟨"FigureKneeModel", "isMore", "(I)Z"⟩, 42) := ⟨⟨by decide +kernel, by decide +kernel⟩, List.mem_of_getElem? (i := 1187) (by decide +kernel), List.mem_of_getElem? (i := 1474) (by decide +kernel), List.mem_of_getElem? (i := 1475) (by decide +kernel)⟩
theorem lw_p72 : lw_okq (⟨"FigureKneeModel", "aheadWhy", "(ZI)I"⟩, 42) := ⟨⟨by decide +kernel, by decide +kernel⟩, List.mem_of_getElem? (i := 1187) (by decide +kernel), List.mem_of_getElem? (i := 1482) (by decide +kernel), List.mem_of_getElem? (i := 1483) (by decide +kernel)⟩
theorem lw_p73 : lw_okq (⟨"FigureKneeModel", "why", "(ZZ)I"⟩, 42) := ⟨⟨by decide +kernel, by decide +kernel⟩, List.mem_of_getElem? (i := 1187) (by decide +kernel), List.mem_of_getElem? (i := 1486) (by decide +kernel), List.mem_of_getElem? (i := 1487) (by decide +kernel)⟩
theorem lw_p74 : lw_okq (⟨"FigureKneeModel", "saysIn", "(II)I"⟩, 42) := ⟨⟨by decide +kernel, by decide +kernel⟩, List.mem_of_getElem? (i := 1187) (by decide +kernel), List.mem_of_getElem? (i := 1490) (by decide +kernel), List.mem_of_getElem? (i := 1491) (by decide +kernel)⟩
theorem lw_p75 : lw_okq (⟨"FigureKneeModel", "saysBy", "(IIII)I"⟩, 42) := ⟨⟨by decide +kernel, by decide +kernel⟩, List.mem_of_getElem? (i := 1187) (by decide +kernel), List.mem_of_getElem? (i := 1494) (by decide +kernel), List.mem_of_getElem? (i := 1495) (by decide +kernel)⟩
theorem lw_p76 : lw_okq (⟨"FigureKneeModel", "behind", "(IIIIIZ)I"⟩, 42) := ⟨⟨by decide +kernel, by decide +kernel⟩, List.mem_of_getElem? (i := 1187) (by decide +kernel), List.mem_of_getElem? (i := 1498) (by decide +kernel), List.mem_of_getElem? (i := 1499) (by decide +kernel)⟩
theorem lw_p77 : lw_okq (⟨"FigureKneeModel", "byLaw", "(III)I"⟩, 42) := ⟨⟨by decide +kernel, by decide +kernel⟩, List.mem_of_getElem? (i := 1187) (by decide +kernel), List.mem_of_getElem? (i := 1502) (by decide +kernel), List.mem_of_getElem? (i := 1503) (by decide +kernel)⟩
theorem lw_p78 : lw_okq (⟨"FigureKneeModel", "within", "(I)I"⟩, 42) := ⟨⟨by decide +kernel, by decide +kernel⟩, List.mem_of_getElem? (i := 1187) (by decide +kernel), List.mem_of_getElem? (i := 1506) (by decide +kernel), List.mem_of_getElem? (i := 1507) (by decide +kernel)⟩
theorem lw_p79 : lw_okq (⟨"FigureKneeModel", "goRound", "(I)V"⟩, 42) := ⟨⟨by decide +kernel, by decide +kernel⟩, List.mem_of_getElem? (i := 1187) (by decide +kernel), List.mem_of_getElem? (i := 1526) (by decide +kernel), List.mem_of_getElem? (i := 1527) (by decide +kernel)⟩
def lw_privs_5 : List (MethodName × Nat) := [(⟨"FigureKneeModel", "find", "()I"⟩, 42), (⟨"FigureKneeModel", "contractLine", "()V"⟩, 42), (⟨"FigureKneeModel", "pairHere", "()I"⟩, 42), (⟨"FigureKneeModel", "debtLine", "()V"⟩, 42), (⟨"FigureKneeModel", "unsureLine", "()V"⟩, 42), (⟨"FigureKneeModel", "heardLine", "()V"⟩, 42), (⟨"FigureKneeModel", "isPai\x72", "(I)Z"⟩, 42), (⟨"FigureKneeModel", "isMore", "(I)Z"⟩, 42), (⟨"FigureKneeModel", "aheadWhy", "(ZI)I"⟩, 42), (⟨"FigureKneeModel", "why", "(ZZ)I"⟩, 42), (⟨"FigureKneeModel", "saysIn", "(II)I"⟩, 42), (⟨"FigureKneeModel", "saysBy", "(IIII)I"⟩, 42), (⟨"FigureKneeModel", "behind", "(IIIIIZ)I"⟩, 42), (⟨"FigureKneeModel", "byLaw", "(III)I"⟩, 42), (⟨"FigureKneeModel", "within", "(I)I"⟩, 42), (⟨"FigureKneeModel", "goRound", "(I)V"⟩, 42)]
theorem lw_r5 : ∀ q ∈ lw_privs_5, lw_okq q := List.forall_mem_cons.mpr ⟨lw_p64, List.forall_mem_cons.mpr ⟨lw_p65, List.forall_mem_cons.mpr ⟨lw_p66, List.forall_mem_cons.mpr ⟨lw_p67, List.forall_mem_cons.mpr ⟨lw_p68, List.forall_mem_cons.mpr ⟨lw_p69, List.forall_mem_cons.mpr ⟨lw_p70, List.forall_mem_cons.mpr ⟨lw_p71, List.forall_mem_cons.mpr ⟨lw_p72, List.forall_mem_cons.mpr ⟨lw_p73, List.forall_mem_cons.mpr ⟨lw_p74, List.forall_mem_cons.mpr ⟨lw_p75, List.forall_mem_cons.mpr ⟨lw_p76, List.forall_mem_cons.mpr ⟨lw_p77, List.forall_mem_cons.mpr ⟨lw_p78, List.forall_mem_cons.mpr ⟨lw_p79, fun _ h => absurd h List.not_mem_nil⟩⟩⟩⟩⟩⟩⟩⟩⟩⟩⟩⟩⟩⟩⟩⟩
theorem lw_p80 : lw_okq (⟨"FigureKneeModel", "isRoundOf", "(I)Z"⟩, 42) := ⟨⟨by decide +kernel, by decide +kernel⟩, List.mem_of_getElem? (i := 1187) (by decide +kernel), List.mem_of_getElem? (i := 1530) (by decide +kernel), List.mem_of_getElem? (i := 1531) (by decide +kernel)⟩
theorem lw_p81 : lw_okq (⟨"FigureKneeModel", "extremeOf", "(II)I"⟩, 42) := ⟨⟨by decide +kernel, by decide +kernel⟩, List.mem_of_getElem? (i := 1187) (by decide +kernel), List.mem_of_getElem? (i := 1547) (by decide +kernel), List.mem_of_getElem? (i := 1548) (by decide +kernel)⟩
theorem lw_p82 : lw_okq (⟨"FigureKneeModel", "areTwo", "(II)Z"⟩, 42) := ⟨⟨by decide +kernel, by decide +kernel⟩, List.mem_of_getElem? (i := 1187) (by decide +kernel), List.mem_of_getElem? (i := 1563) (by decide +kernel), List.mem_of_getElem? (i := 1564) (by decide +kernel)⟩
theorem lw_p83 : lw_okq (⟨"FigureKneeModel", "mastersIn", "(I)I"⟩, 42) := ⟨⟨by decide +kernel, by decide +kernel⟩, List.mem_of_getElem? (i := 1187) (by decide +kernel), List.mem_of_getElem? (i := 1575) (by decide +kernel), List.mem_of_getElem? (i := 1576) (by decide +kernel)⟩
theorem lw_p84 : lw_okq (⟨"FigureKneeModel", "bestEvery", "(II)I"⟩, 42) := ⟨⟨by decide +kernel, by decide +kernel⟩, List.mem_of_getElem? (i := 1187) (by decide +kernel), List.mem_of_getElem? (i := 1595) (by decide +kernel), List.mem_of_getElem? (i := 1596) (by decide +kernel)⟩
theorem lw_p85 : lw_okq (⟨"FigureKneeModel", "isNeverMore", "(II)Z"⟩, 42) := ⟨⟨by decide +kernel, by decide +kernel⟩, List.mem_of_getElem? (i := 1187) (by decide +kernel), List.mem_of_getElem? (i := 1607) (by decide +kernel), List.mem_of_getElem? (i := 1608) (by decide +kernel)⟩
theorem lw_p86 : lw_okq (⟨"FigureKneeModel", "seekSets", "(I)I"⟩, 42) := ⟨⟨by decide +kernel, by decide +kernel⟩, List.mem_of_getElem? (i := 1187) (by decide +kernel), List.mem_of_getElem? (i := 1619) (by decide +kernel), List.mem_of_getElem? (i := 1620) (by decide +kernel)⟩
theorem lw_p87 : lw_okq (⟨"FigureKneeModel", "wrongBy", "(I)I"⟩, 42) := ⟨⟨by decide +kernel, by decide +kernel⟩, List.mem_of_getElem? (i := 1187) (by decide +kernel), List.mem_of_getElem? (i := 1623) (by decide +kernel), List.mem_of_getElem? (i := 1624) (by decide +kernel)⟩
theorem lw_p88 : lw_okq (⟨"FigureKneeModel", "saidThen", "(III)I"⟩, 42) := ⟨⟨by decide +kernel, by decide +kernel⟩, List.mem_of_getElem? (i := 1187) (by decide +kernel), List.mem_of_getElem? (i := 1627) (by decide +kernel), List.mem_of_getElem? (i := 1628) (by decide +kernel)⟩
theorem lw_p89 : lw_okq (⟨"FigureKneeModel", "stepBy", "(II)I"⟩, 42) := ⟨⟨by decide +kernel, by decide +kernel⟩, List.mem_of_getElem? (i := 1187) (by decide +kernel), List.mem_of_getElem? (i := 1631) (by decide +kernel), List.mem_of_getElem? (i := 1632) (by decide +kernel)⟩
theorem lw_p90 : lw_okq (⟨"FigureKneeModel", "askOf", "()I"⟩, 42) := ⟨⟨by decide +kernel, by decide +kernel⟩, List.mem_of_getElem? (i := 1187) (by decide +kernel), List.mem_of_getElem? (i := 1654) (by decide +kernel), List.mem_of_getElem? (i := 1655) (by decide +kernel)⟩
theorem lw_p91 : lw_okq (⟨"FigureKneeModel", "leavesOf", "(I)I"⟩, 42) := ⟨⟨by decide +kernel, by decide +kernel⟩, List.mem_of_getElem? (i := 1187) (by decide +kernel), List.mem_of_getElem? (i := 1658) (by decide +kernel), List.mem_of_getElem? (i := 1659) (by decide +kernel)⟩
theorem lw_p92 : lw_okq (⟨"FigureKneeModel", "debtOf", "(II)I"⟩, 42) := ⟨⟨by decide +kernel, by decide +kernel⟩, List.mem_of_getElem? (i := 1187) (by decide +kernel), List.mem_of_getElem? (i := 1678) (by decide +kernel), List.mem_of_getElem? (i := 1679) (by decide +kernel)⟩
theorem lw_p93 : lw_okq (⟨"FigureKneeModel", "netOf", "(I)I"⟩, 42) := ⟨⟨by decide +kernel, by decide +kernel⟩, List.mem_of_getElem? (i := 1187) (by decide +kernel), List.mem_of_getElem? (i := 1686) (by decide +kernel), List.mem_of_getElem? (i := 1687) (by decide +kernel)⟩
theorem lw_p94 : lw_okq (⟨"FigureKneeModel", "groupsOf", "(I)I"⟩, 42) := ⟨⟨by decide +kernel, by decide +kernel⟩, List.mem_of_getElem? (i := 1187) (by decide +kernel), List.mem_of_getElem? (i := 1706) (by decide +kernel), List.mem_of_getElem? (i := 1707) (by decide +kernel)⟩
theorem lw_p95 : lw_okq (⟨"FigureKneeModel", "netsOf", "(I)I"⟩, 42) := ⟨⟨by decide +kernel, by decide +kernel⟩, List.mem_of_getElem? (i := 1187) (by decide +kernel), List.mem_of_getElem? (i := 1710) (by decide +kernel), List.mem_of_getElem? (i := 1711) (by decide +kernel)⟩
def lw_privs_6 : List (MethodName × Nat) := [(⟨"FigureKneeModel", "isRoundOf", "(I)Z"⟩, 42), (⟨"FigureKneeModel", "extremeOf", "(II)I"⟩, 42), (⟨"FigureKneeModel", "areTwo", "(II)Z"⟩, 42), (⟨"FigureKneeModel", "mastersIn", "(I)I"⟩, 42), (⟨"FigureKneeModel", "bestEvery", "(II)I"⟩, 42), (⟨"FigureKneeModel", "isNeverMore", "(II)Z"⟩, 42), (⟨"FigureKneeModel", "seekSets", "(I)I"⟩, 42), (⟨"FigureKneeModel", "wrongBy", "(I)I"⟩, 42), (⟨"FigureKneeModel", "saidThen", "(III)I"⟩, 42), (⟨"FigureKneeModel", "stepBy", "(II)I"⟩, 42), (⟨"FigureKneeModel", "askOf", "()I"⟩, 42), (⟨"FigureKneeModel", "leavesOf", "(I)I"⟩, 42), (⟨"FigureKneeModel", "debtOf", "(II)I"⟩, 42), (⟨"FigureKneeModel", "netOf", "(I)I"⟩, 42), (⟨"FigureKneeModel", "groupsOf", "(I)I"⟩, 42), (⟨"FigureKneeModel", "netsOf", "(I)I"⟩, 42)]
theorem lw_r6 : ∀ q ∈ lw_privs_6, lw_okq q := List.forall_mem_cons.mpr ⟨lw_p80, List.forall_mem_cons.mpr ⟨lw_p81, List.forall_mem_cons.mpr ⟨lw_p82, List.forall_mem_cons.mpr ⟨lw_p83, List.forall_mem_cons.mpr ⟨lw_p84, List.forall_mem_cons.mpr ⟨lw_p85, List.forall_mem_cons.mpr ⟨lw_p86, List.forall_mem_cons.mpr ⟨lw_p87, List.forall_mem_cons.mpr ⟨lw_p88, List.forall_mem_cons.mpr ⟨lw_p89, List.forall_mem_cons.mpr ⟨lw_p90, List.forall_mem_cons.mpr ⟨lw_p91, List.forall_mem_cons.mpr ⟨lw_p92, List.forall_mem_cons.mpr ⟨lw_p93, List.forall_mem_cons.mpr ⟨lw_p94, List.forall_mem_cons.mpr ⟨lw_p95, fun _ h => absurd h List.not_mem_nil⟩⟩⟩⟩⟩⟩⟩⟩⟩⟩⟩⟩⟩⟩⟩⟩
theorem lw_p96 : lw_okq (⟨"FigureKneeModel", "seekRing", "(I)Z"⟩, 42) := ⟨⟨by decide +kernel, by decide +kernel⟩, List.mem_of_getElem? (i := 1187) (by decide +kernel), List.mem_of_getElem? (i := 1718) (by decide +kernel), List.mem_of_getElem? (i := 1719) (by decide +kernel)⟩
theorem lw_p97 : lw_okq (⟨"FigureKneeModel", "tryRing", "(II)V"⟩, 42) := ⟨⟨by decide +kernel, by decide +kernel⟩, List.mem_of_getElem? (i := 1187) (by decide +kernel), List.mem_of_getElem? (i := 1723) (by decide +kernel), List.mem_of_getElem? (i := 1724) (by decide +kernel)⟩
theorem lw_p98 : lw_okq (⟨"FigureKneeModel", "seekRests", "(I)I"⟩, 42) := ⟨⟨by decide +kernel, by decide +kernel⟩, List.mem_of_getElem? (i := 1187) (by decide +kernel), List.mem_of_getElem? (i := 1742) (by decide +kernel), List.mem_of_getElem? (i := 1743) (by decide +kernel)⟩
theorem lw_p99 : lw_okq (⟨"FigureKneeModel", "verdictOf", "()I"⟩, 42) := ⟨⟨by decide +kernel, by decide +kernel⟩, List.mem_of_getElem? (i := 1187) (by decide +kernel), List.mem_of_getElem? (i := 1754) (by decide +kernel), List.mem_of_getElem? (i := 1755) (by decide +kernel)⟩
theorem lw_p100 : lw_okq (⟨"FigureKneeModel", "lookWhy", "(ZII)I"⟩, 42) := ⟨⟨by decide +kernel, by decide +kernel⟩, List.mem_of_getElem? (i := 1187) (by decide +kernel), List.mem_of_getElem? (i := 1765) (by decide +kernel), List.mem_of_getElem? (i := 1766) (by decide +kernel)⟩
theorem lw_p101 : lw_okq (⟨"FigureKneeModel", "tryDumb", "(III)V"⟩, 42) := ⟨⟨by decide +kernel, by decide +kernel⟩, List.mem_of_getElem? (i := 1187) (by decide +kernel), List.mem_of_getElem? (i := 1779) (by decide +kernel), List.mem_of_getElem? (i := 1780) (by decide +kernel)⟩
theorem lw_p102 : lw_okq (⟨"FigureKneeModel", "note", "()V"⟩, 42) := ⟨⟨by decide +kernel, by decide +kernel⟩, List.mem_of_getElem? (i := 1187) (by decide +kernel), List.mem_of_getElem? (i := 1795) (by decide +kernel), List.mem_of_getElem? (i := 1796) (by decide +kernel)⟩
theorem lw_p103 : lw_okq (⟨"FigureKneeModel", "isNot", "(I)Z"⟩, 42) := ⟨⟨by decide +kernel, by decide +kernel⟩, List.mem_of_getElem? (i := 1187) (by decide +kernel), List.mem_of_getElem? (i := 1807) (by decide +kernel), List.mem_of_getElem? (i := 1808) (by decide +kernel)⟩
def lw_privs_7 : List (MethodName × Nat) := [(⟨"FigureKneeModel", "seekRing", "(I)Z"⟩, 42), (⟨"FigureKneeModel", "tryRing", "(II)V"⟩, 42), (⟨"FigureKneeModel", "seekRests", "(I)I"⟩, 42), (⟨"FigureKneeModel", "verdictOf", "()I"⟩, 42), (⟨"FigureKneeModel", "lookWhy", "(ZII)I"⟩, 42), (⟨"FigureKneeModel", "tryDumb", "(III)V"⟩, 42), (⟨"FigureKneeModel", "note", "()V"⟩, 42), (⟨"FigureKneeModel", "isNot", "(I)Z"⟩, 42)]
theorem lw_r7 : ∀ q ∈ lw_privs_7, lw_okq q := List.forall_mem_cons.mpr ⟨lw_p96, List.forall_mem_cons.mpr ⟨lw_p97, List.forall_mem_cons.mpr ⟨lw_p98, List.forall_mem_cons.mpr ⟨lw_p99, List.forall_mem_cons.mpr ⟨lw_p100, List.forall_mem_cons.mpr ⟨lw_p101, List.forall_mem_cons.mpr ⟨lw_p102, List.forall_mem_cons.mpr ⟨lw_p103, fun _ h => absurd h List.not_mem_nil⟩⟩⟩⟩⟩⟩⟩⟩
def lw_privs : List (MethodName × Nat) := lw_privs_1 ++ (lw_privs_2 ++ (lw_privs_3 ++ (lw_privs_4 ++ (lw_privs_5 ++ (lw_privs_6 ++ (lw_privs_7))))))
def lw_tbl : List Cond := k2_sels lw_privs ++ tables_1
theorem lw_privs_ok : ∀ q ∈ lw_privs, lw_okq q := by
  show ∀ q ∈ lw_privs_1 ++ (lw_privs_2 ++ (lw_privs_3 ++ (lw_privs_4 ++ (lw_privs_5 ++ (lw_privs_6 ++ (lw_privs_7)))))), lw_okq q
  exact List.forall_mem_append.mpr ⟨lw_r1, List.forall_mem_append.mpr ⟨lw_r2, List.forall_mem_append.mpr ⟨lw_r3, List.forall_mem_append.mpr ⟨lw_r4, List.forall_mem_append.mpr ⟨lw_r5, List.forall_mem_append.mpr ⟨lw_r6, lw_r7⟩⟩⟩⟩⟩⟩
-- names, fields, types
def kR0 : String := "FigureKnee$Books"
def kF0 : u_T := fun k => match k with
  | 0 => ("FigureKnee$Books", "pairs", "I", false)
  | 1 => ("FigureKnee$Books", "nets", "[I", true)
  | 2 => ("FigureKnee$Books", "sums", "[I", true)
  | 3 => ("FigureKnee$Books", "groups", "[I", true)
  | 4 => ("FigureKnee$Books", "debtsHome", "[I", true)
  | 5 => ("FigureKnee$Books", "ringRow", "[I", true)
  | _ => ("FigureKnee$Books", "ringLength", "I", false)
def kt0 : Nat → FieldType := fun k => match k with
  | 0 => .int
  | 1 => .array .int
  | 2 => .array .int
  | 3 => .array .int
  | 4 => .array .int
  | 5 => .array .int
  | _ => .int
theorem kn0 : ∀ a, a < 7 → ∀ b, b < 7 → a ≠ b → (kF0 a).2.1 ≠ (kF0 b).2.1 := by decide +kernel
theorem kto0 : ∀ k, k < 7 → parseFieldDescriptor (kF0 k).2.2.1 = some (kt0 k) := by decide +kernel
def kR1 : String := "FigureKnee$Fitting"
def kF1 : u_T := fun k => match k with
  | 0 => ("FigureKnee$Fitting", "walk", "LFigureKnee$Walk;", true)
  | 1 => ("FigureKnee$Fitting", "asTold", "[I", true)
  | 2 => ("FigureKnee$Fitting", "asOthe\x72", "[I", true)
  | 3 => ("FigureKnee$Fitting", "sets", "[I", true)
  | _ => ("FigureKnee$Fitting", "count", "I", false)
def kt1 : Nat → FieldType := fun k => match k with
  | 0 => .object "FigureKnee$Walk"
  | 1 => .array .int
  | 2 => .array .int
  | 3 => .array .int
  | _ => .int
theorem kn1 : ∀ a, a < 5 → ∀ b, b < 5 → a ≠ b → (kF1 a).2.1 ≠ (kF1 b).2.1 := by decide +kernel
theorem kto1 : ∀ k, k < 5 → parseFieldDescriptor (kF1 k).2.2.1 = some (kt1 k) := by decide +kernel
def kR2 : String := "FigureKnee$Gallery"
def kF2 : u_T := fun k => match k with
  | 0 => ("FigureKnee$Gallery", "looked", "[I", true)
  | 1 => ("FigureKnee$Gallery", "hits", "I", false)
  | _ => ("FigureKnee$Gallery", "outcomes", "I", false)
def kt2 : Nat → FieldType := fun k => match k with
  | 0 => .array .int
  | 1 => .int
  | _ => .int
theorem kn2 : ∀ a, a < 3 → ∀ b, b < 3 → a ≠ b → (kF2 a).2.1 ≠ (kF2 b).2.1 := by decide +kernel
theorem kto2 : ∀ k, k < 3 → parseFieldDescriptor (kF2 k).2.2.1 = some (kt2 k) := by decide +kernel
def kR3 : String := "FigureKnee$History"
def kF3 : u_T := fun k => match k with
  | 0 => ("FigureKnee$History", "rows", "[[I", true)
  | 1 => ("FigureKnee$History", "free", "I", false)
  | _ => ("FigureKnee$History", "count", "I", false)
def kt3 : Nat → FieldType := fun k => match k with
  | 0 => .array (.array .int)
  | 1 => .int
  | _ => .int
theorem kn3 : ∀ a, a < 3 → ∀ b, b < 3 → a ≠ b → (kF3 a).2.1 ≠ (kF3 b).2.1 := by decide +kernel
theorem kto3 : ∀ k, k < 3 → parseFieldDescriptor (kF3 k).2.2.1 = some (kt3 k) := by decide +kernel
def kR4 : String := "FigureKnee$Now"
def kF4 : u_T := fun k => match k with
  | 0 => ("FigureKnee$Now", "seasons", "I", false)
  | 1 => ("FigureKnee$Now", "figures", "[I", true)
  | 2 => ("FigureKnee$Now", "steps", "[I", true)
  | _ => ("FigureKnee$Now", "owed", "[I", true)
def kt4 : Nat → FieldType := fun k => match k with
  | 0 => .int
  | 1 => .array .int
  | 2 => .array .int
  | _ => .array .int
theorem kn4 : ∀ a, a < 4 → ∀ b, b < 4 → a ≠ b → (kF4 a).2.1 ≠ (kF4 b).2.1 := by decide +kernel
theorem kto4 : ∀ k, k < 4 → parseFieldDescriptor (kF4 k).2.2.1 = some (kt4 k) := by decide +kernel
def kR5 : String := "FigureKnee$Pie\x72"
def kF5 : u_T := fun k => match k with
  | 0 => ("FigureKnee$Pie\x72", "words", "I", false)
  | 1 => ("FigureKnee$Pie\x72", "dumb", "I", false)
  | 2 => ("FigureKnee$Pie\x72", "pairs", "I", false)
  | 3 => ("FigureKnee$Pie\x72", "contracts", "I", false)
  | 4 => ("FigureKnee$Pie\x72", "debts", "I", false)
  | 5 => ("FigureKnee$Pie\x72", "unsures", "I", false)
  | 6 => ("FigureKnee$Pie\x72", "heards", "I", false)
  | 7 => ("FigureKnee$Pie\x72", "laws", "[I", true)
  | 8 => ("FigureKnee$Pie\x72", "figures", "[I", true)
  | 9 => ("FigureKnee$Pie\x72", "steps", "[I", true)
  | 10 => ("FigureKnee$Pie\x72", "everies", "[I", true)
  | 11 => ("FigureKnee$Pie\x72", "owed", "[I", true)
  | 12 => ("FigureKnee$Pie\x72", "unsurePairs", "[I", true)
  | 13 => ("FigureKnee$Pie\x72", "unsureSteps", "[I", true)
  | 14 => ("FigureKnee$Pie\x72", "heardPairs", "[I", true)
  | 15 => ("FigureKnee$Pie\x72", "heardSeasons", "[I", true)
  | _ => ("FigureKnee$Pie\x72", "heardFigures", "[I", true)
def kt5 : Nat → FieldType := fun k => match k with
  | 0 => .int
  | 1 => .int
  | 2 => .int
  | 3 => .int
  | 4 => .int
  | 5 => .int
  | 6 => .int
  | 7 => .array .int
  | 8 => .array .int
  | 9 => .array .int
  | 10 => .array .int
  | 11 => .array .int
  | 12 => .array .int
  | 13 => .array .int
  | 14 => .array .int
  | 15 => .array .int
  | _ => .array .int
theorem kn5 : ∀ a, a < 17 → ∀ b, b < 17 → a ≠ b → (kF5 a).2.1 ≠ (kF5 b).2.1 := by decide +kernel
theorem kto5 : ∀ k, k < 17 → parseFieldDescriptor (kF5 k).2.2.1 = some (kt5 k) := by decide +kernel
def kR6 : String := "FigureKnee$Ratio"
def kF6 : u_T := fun k => match k with
  | 0 => ("FigureKnee$Ratio", "uppe\x72", "J", false)
  | _ => ("FigureKnee$Ratio", "lowe\x72", "J", false)
def kt6 : Nat → FieldType := fun k => match k with
  | 0 => .long
  | _ => .long
theorem kn6 : ∀ a, a < 2 → ∀ b, b < 2 → a ≠ b → (kF6 a).2.1 ≠ (kF6 b).2.1 := by decide +kernel
theorem kto6 : ∀ k, k < 2 → parseFieldDescriptor (kF6 k).2.2.1 = some (kt6 k) := by decide +kernel
def kR7 : String := "FigureKnee$Reade\x72"
def kF7 : u_T := fun k => match k with
  | 0 => ("FigureKnee$Reade\x72", "text", "[B", true)
  | 1 => ("FigureKnee$Reade\x72", "end", "I", false)
  | 2 => ("FigureKnee$Reade\x72", "place", "I", false)
  | 3 => ("FigureKnee$Reade\x72", "kind", "I", false)
  | 4 => ("FigureKnee$Reade\x72", "start", "I", false)
  | 5 => ("FigureKnee$Reade\x72", "whole", "I", false)
  | 6 => ("FigureKnee$Reade\x72", "pie\x72", "LFigureKnee$Pier;", false)
  | 7 => ("FigureKnee$Reade\x72", "nameStarts", "[I", true)
  | 8 => ("FigureKnee$Reade\x72", "nameLengths", "[I", true)
  | 9 => ("FigureKnee$Reade\x72", "faultNumbe\x72", "I", false)
  | _ => ("FigureKnee$Reade\x72", "faultPlace", "I", false)
def kt7 : Nat → FieldType := fun k => match k with
  | 0 => .array .byte
  | 1 => .int
  | 2 => .int
  | 3 => .int
  | 4 => .int
  | 5 => .int
  | 6 => .object "FigureKnee$Pie\x72"
  | 7 => .array .int
  | 8 => .array .int
  | 9 => .int
  | _ => .int
theorem kn7 : ∀ a, a < 11 → ∀ b, b < 11 → a ≠ b → (kF7 a).2.1 ≠ (kF7 b).2.1 := by decide +kernel
theorem kto7 : ∀ k, k < 11 → parseFieldDescriptor (kF7 k).2.2.1 = some (kt7 k) := by decide +kernel
def kR8 : String := "FigureKnee$Rounds"
def kF8 : u_T := fun k => match k with
  | 0 => ("FigureKnee$Rounds", "seen", "[I", true)
  | 1 => ("FigureKnee$Rounds", "values", "[I", true)
  | 2 => ("FigureKnee$Rounds", "first", "I", false)
  | _ => ("FigureKnee$Rounds", "length", "I", false)
def kt8 : Nat → FieldType := fun k => match k with
  | 0 => .array .int
  | 1 => .array .int
  | 2 => .int
  | _ => .int
theorem kn8 : ∀ a, a < 4 → ∀ b, b < 4 → a ≠ b → (kF8 a).2.1 ≠ (kF8 b).2.1 := by decide +kernel
theorem kto8 : ∀ k, k < 4 → parseFieldDescriptor (kF8 k).2.2.1 = some (kt8 k) := by decide +kernel
def kR9 : String := "FigureKnee$Walk"
def kF9 : u_T := fun k => match k with
  | 0 => ("FigureKnee$Walk", "words", "I", false)
  | 1 => ("FigureKnee$Walk", "law", "I", false)
  | 2 => ("FigureKnee$Walk", "step", "I", false)
  | 3 => ("FigureKnee$Walk", "every", "I", false)
  | 4 => ("FigureKnee$Walk", "figure", "I", false)
  | _ => ("FigureKnee$Walk", "seasons", "I", false)
def kt9 : Nat → FieldType := fun k => match k with
  | 0 => .int
  | 1 => .int
  | 2 => .int
  | 3 => .int
  | 4 => .int
  | _ => .int
theorem kn9 : ∀ a, a < 6 → ∀ b, b < 6 → a ≠ b → (kF9 a).2.1 ≠ (kF9 b).2.1 := by decide +kernel
theorem kto9 : ∀ k, k < 6 → parseFieldDescriptor (kF9 k).2.2.1 = some (kt9 k) := by decide +kernel
def kR10 : String := "FigureKnee"
def kF10 : u_T := fun k => match k with
  | 0 => ("FigureKnee", "tape", "[B", true)
  | 1 => ("FigureKnee", "tapeLength", "I", false)
  | 2 => ("FigureKnee", "told", "LFigureKnee$Pier;", false)
  | 3 => ("FigureKnee", "draft", "LFigureKnee$Pier;", false)
  | 4 => ("FigureKnee", "reade\x72", "LFigureKnee$Reader;", true)
  | 5 => ("FigureKnee", "standing", "Z", false)
  | 6 => ("FigureKnee", "now", "LFigureKnee$Now;", true)
  | 7 => ("FigureKnee", "history", "LFigureKnee$History;", true)
  | 8 => ("FigureKnee", "images", "[[I", true)
  | 9 => ("FigureKnee", "imageCount", "I", false)
  | 10 => ("FigureKnee", "walk", "LFigureKnee$Walk;", true)
  | 11 => ("FigureKnee", "otherWalk", "LFigureKnee$Walk;", true)
  | 12 => ("FigureKnee", "sayings", "[I", true)
  | 13 => ("FigureKnee", "rounds", "LFigureKnee$Rounds;", true)
  | 14 => ("FigureKnee", "fitting", "LFigureKnee$Fitting;", true)
  | 15 => ("FigureKnee", "books", "LFigureKnee$Books;", true)
  | 16 => ("FigureKnee", "gallery", "LFigureKnee$Gallery;", true)
  | 17 => ("FigureKnee", "ratio", "LFigureKnee$Ratio;", true)
  | _ => ("FigureKnee", "troubleNumbe\x72", "I", false)
def kt10 : Nat → FieldType := fun k => match k with
  | 0 => .array .byte
  | 1 => .int
  | 2 => .object "FigureKnee$Pie\x72"
  | 3 => .object "FigureKnee$Pie\x72"
  | 4 => .object "FigureKnee$Reade\x72"
  | 5 => .boolean
  | 6 => .object "FigureKnee$Now"
  | 7 => .object "FigureKnee$History"
  | 8 => .array (.array .int)
  | 9 => .int
  | 10 => .object "FigureKnee$Walk"
  | 11 => .object "FigureKnee$Walk"
  | 12 => .array .int
  | 13 => .object "FigureKnee$Rounds"
  | 14 => .object "FigureKnee$Fitting"
  | 15 => .object "FigureKnee$Books"
  | 16 => .object "FigureKnee$Gallery"
  | 17 => .object "FigureKnee$Ratio"
  | _ => .int
theorem kn10 : ∀ a, a < 19 → ∀ b, b < 19 → a ≠ b → (kF10 a).2.1 ≠ (kF10 b).2.1 := by decide +kernel
theorem kto10 : ∀ k, k < 19 → parseFieldDescriptor (kF10 k).2.2.1 = some (kt10 k) := by decide +kernel
def kR11 : String := "FigureKneeModel"
def kF11 : u_T := fun k => match k with
  | 0 => ("FigureKneeModel", "thrown", "I", false)
  | 1 => ("FigureKneeModel", "tape", "[I", true)
  | 2 => ("FigureKneeModel", "taped", "I", false)
  | 3 => ("FigureKneeModel", "size", "I", false)
  | 4 => ("FigureKneeModel", "at", "I", false)
  | 5 => ("FigureKneeModel", "end", "I", false)
  | 6 => ("FigureKneeModel", "token", "I", false)
  | 7 => ("FigureKneeModel", "whole", "I", false)
  | 8 => ("FigureKneeModel", "nameSize", "I", false)
  | 9 => ("FigureKneeModel", "fault", "I", false)
  | 10 => ("FigureKneeModel", "place", "I", false)
  | 11 => ("FigureKneeModel", "trouble", "I", false)
  | 12 => ("FigureKneeModel", "letters", "[I", true)
  | 13 => ("FigureKneeModel", "failed", "Z", false)
  | 14 => ("FigureKneeModel", "hasPie\x72", "Z", false)
  | 15 => ("FigureKneeModel", "\x72", "[I", true)
  | 16 => ("FigureKneeModel", "fresh", "[I", true)
  | 17 => ("FigureKneeModel", "told", "[I", true)
  | 18 => ("FigureKneeModel", "read", "[I", true)
  | 19 => ("FigureKneeModel", "st", "[I", true)
  | 20 => ("FigureKneeModel", "undone", "[I", true)
  | 21 => ("FigureKneeModel", "kept", "[I", true)
  | 22 => ("FigureKneeModel", "undos", "I", false)
  | 23 => ("FigureKneeModel", "images", "I", false)
  | 24 => ("FigureKneeModel", "said", "[I", true)
  | 25 => ("FigureKneeModel", "metAt", "[I", true)
  | 26 => ("FigureKneeModel", "stateFrom", "I", false)
  | 27 => ("FigureKneeModel", "stateRound", "I", false)
  | 28 => ("FigureKneeModel", "from", "I", false)
  | 29 => ("FigureKneeModel", "roundLong", "I", false)
  | 30 => ("FigureKneeModel", "often", "[I", true)
  | 31 => ("FigureKneeModel", "setMany", "I", false)
  | 32 => ("FigureKneeModel", "someOf", "I", false)
  | 33 => ("FigureKneeModel", "allOf", "I", false)
  | 34 => ("FigureKneeModel", "way", "[I", true)
  | 35 => ("FigureKneeModel", "ring", "[I", true)
  | 36 => ("FigureKneeModel", "ringMany", "I", false)
  | 37 => ("FigureKneeModel", "firstRest", "I", false)
  | 38 => ("FigureKneeModel", "looked", "[I", true)
  | 39 => ("FigureKneeModel", "allWeight", "J", false)
  | 40 => ("FigureKneeModel", "moreWeight", "J", false)
  | _ => ("FigureKneeModel", "saidSum", "J", false)
def kt11 : Nat → FieldType := fun k => match k with
  | 0 => .int
  | 1 => .array .int
  | 2 => .int
  | 3 => .int
  | 4 => .int
  | 5 => .int
  | 6 => .int
  | 7 => .int
  | 8 => .int
  | 9 => .int
  | 10 => .int
  | 11 => .int
  | 12 => .array .int
  | 13 => .boolean
  | 14 => .boolean
  | 15 => .array .int
  | 16 => .array .int
  | 17 => .array .int
  | 18 => .array .int
  | 19 => .array .int
  | 20 => .array .int
  | 21 => .array .int
  | 22 => .int
  | 23 => .int
  | 24 => .array .int
  | 25 => .array .int
  | 26 => .int
  | 27 => .int
  | 28 => .int
  | 29 => .int
  | 30 => .array .int
  | 31 => .int
  | 32 => .int
  | 33 => .int
  | 34 => .array .int
  | 35 => .array .int
  | 36 => .int
  | 37 => .int
  | 38 => .array .int
  | 39 => .long
  | 40 => .long
  | _ => .long
theorem kn11 : ∀ a, a < 42 → ∀ b, b < 42 → a ≠ b → (kF11 a).2.1 ≠ (kF11 b).2.1 := by decide +kernel
theorem kto11 : ∀ k, k < 42 → parseFieldDescriptor (kF11 k).2.2.1 = some (kt11 k) := by decide +kernel
abbrev kCl : List vw_C := [(kR0, kF0, 7), (kR1, kF1, 5), (kR2, kF2, 3), (kR3, kF3, 3), (kR4, kF4, 4), (kR5, kF5, 17), (kR6, kF6, 2), (kR7, kF7, 11), (kR8, kF8, 4), (kR9, kF9, 6), (kR10, kF10, 19), (kR11, kF11, 42)]
def kTyp : Nat → Nat → FieldType := fun c => match c with
  | 0 => kt0
  | 1 => kt1
  | 2 => kt2
  | 3 => kt3
  | 4 => kt4
  | 5 => kt5
  | 6 => kt6
  | 7 => kt7
  | 8 => kt8
  | 9 => kt9
  | 10 => kt10
  | _ => kt11
-- the cells: (0, its kind, its fields) or (1, what it holds: 0 ints, 1 bytes, 2 longs, 3 rows of ints, how many)
def kN : Nat := 89
def kSH : List (Nat × Nat × Nat) := [(0, 10, 19), (0, 5, 17), (0, 5, 17), (0, 7, 11), (0, 4, 4), (0, 3, 3), (0, 9, 6), (0, 9, 6), (0, 8, 4), (0, 1, 5), (0, 0, 7), (0, 2, 3), (0, 6, 2), (0, 9, 6), (0, 11, 42), (1, 1, 900), (1, 0, 5), (1, 3, 3), (1, 0, 5), (1, 0, 5), (1, 0, 5), (1, 0, 5), (1, 0, 25), (1, 0, 4), (1, 0, 4), (1, 0, 8), (1, 0, 8), (1, 0, 8), (1, 0, 5), (1, 0, 5), (1, 0, 5), (1, 0, 5), (1, 0, 25), (1, 0, 4), (1, 0, 4), (1, 0, 8), (1, 0, 8), (1, 0, 8), (1, 0, 5), (1, 0, 5), (1, 0, 5), (1, 0, 5), (1, 0, 25), (1, 3, 16), (1, 0, 900), (1, 0, 900), (1, 0, 4), (1, 0, 4), (1, 0, 16), (1, 0, 5), (1, 0, 32), (1, 0, 32), (1, 0, 5), (1, 0, 5), (1, 0, 5), (1, 0, 900), (1, 0, 8), (1, 0, 95), (1, 0, 95), (1, 0, 36), (1, 0, 36), (1, 0, 36), (1, 0, 576), (1, 0, 108), (1, 0, 2600), (1, 0, 900), (1, 0, 4), (1, 0, 5), (1, 0, 5), (1, 0, 5), (1, 0, 36), (1, 0, 36), (1, 0, 36), (1, 0, 36), (1, 0, 36), (1, 0, 36), (1, 0, 36), (1, 0, 36), (1, 0, 36), (1, 0, 36), (1, 0, 36), (1, 0, 36), (1, 0, 36), (1, 0, 36), (1, 0, 36), (1, 0, 36), (1, 0, 36), (1, 0, 36), (1, 0, 36)]
def kRT : List (List (Option Nat)) := [[some 15, none, some 1, some 2, some 3, none, some 4, some 5, some 17, none, some 6, some 7, some 16, some 8, some 9, some 10, some 11, some 12, none], [none, none, none, none, none, none, none, some 18, some 19, some 20, some 21, some 22, some 23, some 24, some 25, some 26, some 27], [none, none, none, none, none, none, none, some 28, some 29, some 30, some 31, some 32, some 33, some 34, some 35, some 36, some 37], [some 15, none, none, none, none, none, none, some 38, some 39, none, none], [none, some 40, some 41, some 42], [some 43, none, none], [none, none, none, none, none, none], [none, none, none, none, none, none], [some 44, some 45, none, none], [some 13, some 46, some 47, some 48, none], [none, some 49, some 50, some 51, some 52, some 53, none], [some 54, none, none], [none, none], [none, none, none, none, none, none], [none, some 55, none, none, none, none, none, none, none, none, none, none, some 56, none, none, some 57, some 58, some 59, some 60, some 61, some 62, some 63, none, none, some 64, some 65, none, none, none, none, some 66, none, none, none, some 67, some 68, none, none, some 69, none, none, none]]
def kRf (z k j : Nat) : Option Nat := if k = 17 then (if j < 3 then some (70 + j) else none) else if k = 43 then (if j < 16 then some (73 + j) else none) else if k = 3 ∧ j = 6 then some z else ((kRT.getD k []).getD j none)
-- texts
def kTx : List String := ["pie\x72", "pai\x72", "contract", "debt", "unsure", "heard", "words", "dumb", "creeping", "leaping", "fading", "swinging", "figure", "step", "every", "season"]
def kLen : List Nat := [4, 4, 8, 4, 6, 5, 5, 4, 8, 7, 6, 8, 6, 4, 5, 6]
def kByt : List (List Int32) := [[112, 105, 101, 114], [112, 97, 105, 114], [99, 111, 110, 116, 114, 97, 99, 116], [100, 101, 98, 116], [117, 110, 115, 117, 114, 101], [104, 101, 97, 114, 100], [119, 111, 114, 100, 115], [100, 117, 109, 98], [99, 114, 101, 101, 112, 105, 110, 103], [108, 101, 97, 112, 105, 110, 103], [102, 97, 100, 105, 110, 103], [115, 119, 105, 110, 103, 105, 110, 103], [102, 105, 103, 117, 114, 101], [115, 116, 101, 112], [101, 118, 101, 114, 121], [115, 101, 97, 115, 111, 110]]
def kSi : List (String × Nat × Nat) := [("FigureKnee$Reade\x72", 98, 0), ("FigureKnee$Reade\x72", 103, 1), ("FigureKnee$Reade\x72", 105, 2), ("FigureKnee$Reade\x72", 107, 3), ("FigureKnee$Reade\x72", 109, 4), ("FigureKnee$Reade\x72", 111, 5), ("FigureKnee$Reade\x72", 133, 6), ("FigureKnee$Reade\x72", 143, 7), ("FigureKnee$Reade\x72", 113, 8), ("FigureKnee$Reade\x72", 117, 9), ("FigureKnee$Reade\x72", 119, 10), ("FigureKnee$Reade\x72", 121, 11), ("FigureKnee$Reade\x72", 168, 12), ("FigureKnee$Reade\x72", 173, 13), ("FigureKnee$Reade\x72", 184, 14), ("FigureKnee$Reade\x72", 210, 15), ("FigureKneeModel", 128, 0), ("FigureKneeModel", 208, 6), ("FigureKneeModel", 214, 7), ("FigureKneeModel", 130, 1), ("FigureKneeModel", 132, 2), ("FigureKneeModel", 134, 3), ("FigureKneeModel", 136, 4), ("FigureKneeModel", 138, 5), ("FigureKneeModel", 220, 8), ("FigureKneeModel", 222, 9), ("FigureKneeModel", 224, 10), ("FigureKneeModel", 226, 11), ("FigureKneeModel", 228, 12), ("FigureKneeModel", 230, 13), ("FigureKneeModel", 235, 14), ("FigureKneeModel", 237, 15)]
-- methods: name, bytes, locals, answer
abbrev kM : Type := MethodName × ByteArray × Nat × Option FieldType
def m0_reckon : kM := (⟨kR0, "reckon", "(LFigureKnee$Now;I)V"⟩, prog_2_method_2_code, 5, none)
def m0_owedInAll : kM := (⟨kR0, "owedInAll", "()I"⟩, prog_2_method_3_code, 3, some .int)
def m0_fewestPayments : kM := (⟨kR0, "fewestPayments", "()I"⟩, prog_2_method_4_code, 6, some .int)
def m0_findRing : kM := (⟨kR0, "findRing", "(LFigureKnee$Now;II)V"⟩, prog_2_method_5_code, 6, none)
def m0_countDebtsHome : kM := (⟨kR0, "countDebtsHome", "(LFigureKnee$Now;I)V"⟩, prog_2_method_6_code, 5, none)
def m0_fewestDebtsBehind : kM := (⟨kR0, "fewestDebtsBehind", "(LFigureKnee$Now;I)I"⟩, prog_2_method_7_code, 5, some .int)
def m0_firstNext : kM := (⟨kR0, "firstNext", "(LFigureKnee$Now;II)I"⟩, prog_2_method_8_code, 5, some .int)
def m1_find : kM := (⟨kR1, "find", "(LFigureKnee$Pier;)V"⟩, prog_3_method_2_code, 4, none)
def m1_fitsHeard : kM := (⟨kR1, "fitsHeard", "(LFigureKnee$Pier;II)Z"⟩, prog_3_method_3_code, 5, some .boolean)
def m1_isFit : kM := (⟨kR1, "isFit", "(II)Z"⟩, prog_3_method_4_code, 5, some .boolean)
def m1_inSome : kM := (⟨kR1, "inSome", "()I"⟩, prog_3_method_5_code, 3, some .int)
def m1_inAll : kM := (⟨kR1, "inAll", "()I"⟩, prog_3_method_6_code, 3, some .int)
def m1_leftAtMost : kM := (⟨kR1, "leftAtMost", "(I)I"⟩, prog_3_method_7_code, 4, some .int)
def m1_bestQuestion : kM := (⟨kR1, "bestQuestion", "(I)I"⟩, prog_3_method_8_code, 6, some .int)
def m2_reckon : kM := (⟨kR2, "reckon", "(III)V"⟩, prog_4_method_2_code, 5, none)
def m2_lookBy : kM := (⟨kR2, "lookBy", "(III)V"⟩, prog_4_method_3_code, 6, none)
def m2_look : kM := (⟨kR2, "look", "(III)V"⟩, prog_4_method_4_code, 6, none)
def m3_forget : kM := (⟨kR3, "forget", "()V"⟩, prog_5_method_2_code, 1, none)
def m3_keep : kM := (⟨kR3, "keep", "(LFigureKnee$Now;)V"⟩, prog_5_method_3_code, 2, none)
def m3_takeBack : kM := (⟨kR3, "takeBack", "(LFigureKnee$Now;)V"⟩, prog_5_method_4_code, 2, none)
def m4_begin : kM := (⟨kR4, "begin", "(LFigureKnee$Pier;)V"⟩, prog_6_method_2_code, 2, none)
def m4_save : kM := (⟨kR4, "save", "([I)V"⟩, prog_6_method_3_code, 2, none)
def m4_load : kM := (⟨kR4, "load", "([I)V"⟩, prog_6_method_4_code, 2, none)
def m5_clear : kM := (⟨kR5, "clea\x72", "()V"⟩, prog_7_method_2_code, 1, none)
def m5_count : kM := (⟨kR5, "count", "(I)I"⟩, prog_7_method_3_code, 2, some .int)
def m5_isUnsure : kM := (⟨kR5, "isUnsure", "(I)Z"⟩, prog_7_method_4_code, 3, some .boolean)
def m5_isHeard : kM := (⟨kR5, "isHeard", "(II)Z"⟩, prog_7_method_5_code, 4, some .boolean)
def m6_reduce : kM := (⟨kR6, "reduce", "(JJ)V"⟩, prog_8_method_2_code, 12, none)
def m6_part : kM := (⟨kR6, "part", "(Z)J"⟩, prog_8_method_3_code, 2, some .long)
def m7_read : kM := (⟨kR7, "read", "(ILFigureKnee$Pier;)Z"⟩, prog_9_method_2_code, 4, some .boolean)
def m7_found : kM := (⟨kR7, "found", "(I)Z"⟩, prog_9_method_3_code, 2, some .boolean)
def m7_next : kM := (⟨kR7, "next", "()V"⟩, prog_9_method_4_code, 1, none)
def m7_isLetter : kM := (⟨kR7, "isLette\x72", "(I)Z"⟩, prog_9_method_5_code, 1, some .boolean)
def m7_isDigit : kM := (⟨kR7, "isDigit", "(I)Z"⟩, prog_9_method_6_code, 1, some .boolean)
def m7_takeLetters : kM := (⟨kR7, "takeLetters", "()V"⟩, prog_9_method_7_code, 1, none)
def m7_takeDigits : kM := (⟨kR7, "takeDigits", "()V"⟩, prog_9_method_8_code, 1, none)
def m7_isWord : kM := (⟨kR7, "isWord", "(Ljava/lang/String;)Z"⟩, prog_9_method_9_code, 3, some .boolean)
def m7_isHeadOfLine : kM := (⟨kR7, "isHeadOfLine", "()Z"⟩, prog_9_method_10_code, 1, some .boolean)
def m7_lawOfWord : kM := (⟨kR7, "lawOfWord", "()I"⟩, prog_9_method_11_code, 1, some .int)
def m7_pairOfName : kM := (⟨kR7, "pairOfName", "()I"⟩, prog_9_method_12_code, 2, some .int)
def m7_isSame : kM := (⟨kR7, "isSame", "(II)Z"⟩, prog_9_method_13_code, 4, some .boolean)
def m7_takeWord : kM := (⟨kR7, "takeWord", "(Ljava/lang/String;)Z"⟩, prog_9_method_14_code, 2, some .boolean)
def m7_seesWhole : kM := (⟨kR7, "seesWhole", "(II)Z"⟩, prog_9_method_15_code, 3, some .boolean)
def m7_seenPair : kM := (⟨kR7, "seenPai\x72", "()I"⟩, prog_9_method_16_code, 2, some .int)
def m7_readHead : kM := (⟨kR7, "readHead", "()Z"⟩, prog_9_method_17_code, 1, some .boolean)
def m7_readLine : kM := (⟨kR7, "readLine", "()Z"⟩, prog_9_method_18_code, 1, some .boolean)
def m7_readPair : kM := (⟨kR7, "readPai\x72", "()Z"⟩, prog_9_method_19_code, 2, some .boolean)
def m7_readContract : kM := (⟨kR7, "readContract", "()Z"⟩, prog_9_method_20_code, 2, some .boolean)
def m7_readDebt : kM := (⟨kR7, "readDebt", "()Z"⟩, prog_9_method_21_code, 3, some .boolean)
def m7_readUnsure : kM := (⟨kR7, "readUnsure", "()Z"⟩, prog_9_method_22_code, 3, some .boolean)
def m7_readHeard : kM := (⟨kR7, "readHeard", "()Z"⟩, prog_9_method_23_code, 3, some .boolean)
def m8_follow : kM := (⟨kR8, "follow", "(LFigureKnee$Walk;)V"⟩, prog_10_method_2_code, 4, none)
def m8_stateOf : kM := (⟨kR8, "stateOf", "(LFigureKnee$Walk;)I"⟩, prog_10_method_3_code, 3, some .int)
def m8_shortenRound : kM := (⟨kR8, "shortenRound", "()V"⟩, prog_10_method_4_code, 2, none)
def m8_comesAgainBehind : kM := (⟨kR8, "comesAgainBehind", "(I)Z"⟩, prog_10_method_5_code, 3, some .boolean)
def m8_saying : kM := (⟨kR8, "saying", "(I)I"⟩, prog_10_method_6_code, 2, some .int)
def m8_most : kM := (⟨kR8, "most", "()I"⟩, prog_10_method_7_code, 3, some .int)
def m8_least : kM := (⟨kR8, "least", "()I"⟩, prog_10_method_8_code, 3, some .int)
def m9_begin : kM := (⟨kR9, "begin", "(LFigureKnee$Pier;LFigureKnee$Now;I)V"⟩, prog_11_method_2_code, 4, none)
def m9_beginAsTold : kM := (⟨kR9, "beginAsTold", "(LFigureKnee$Pier;I)V"⟩, prog_11_method_3_code, 3, none)
def m9_go : kM := (⟨kR9, "go", "()V"⟩, prog_11_method_4_code, 1, none)
def m9_byLaw : kM := (⟨kR9, "byLaw", "()I"⟩, prog_11_method_5_code, 1, some .int)
def m9_goDumb : kM := (⟨kR9, "goDumb", "()V"⟩, prog_11_method_6_code, 1, none)
def m9_goOn : kM := (⟨kR9, "goOn", "(I)V"⟩, prog_11_method_7_code, 3, none)
def m9_isMore : kM := (⟨kR9, "isMore", "()Z"⟩, prog_11_method_8_code, 1, some .boolean)
def m9_countMore : kM := (⟨kR9, "countMore", "(I)I"⟩, prog_11_method_9_code, 4, some .int)
def m10_may : kM := (⟨kR10, "may", "(ZZ)Z"⟩, prog_1_method_2_code, 3, some .boolean)
def m10_may_ : kM := (⟨kR10, "may", "(Z)Z"⟩, prog_1_method_3_code, 2, some .boolean)
def m10_refuse : kM := (⟨kR10, "refuse", "(I)I"⟩, prog_1_method_4_code, 2, some .int)
def m10_deny : kM := (⟨kR10, "deny", "(I)Z"⟩, prog_1_method_5_code, 2, some .boolean)
def m10_isPair : kM := (⟨kR10, "isPai\x72", "(I)Z"⟩, prog_1_method_6_code, 2, some .boolean)
def m10_areUnlike : kM := (⟨kR10, "areUnlike", "(II)Z"⟩, prog_1_method_7_code, 3, some .boolean)
def m10_upTo : kM := (⟨kR10, "upTo", "(II)Z"⟩, prog_1_method_8_code, 2, some .boolean)
def m10_feed : kM := (⟨kR10, "feed", "(IIIII)I"⟩, prog_1_method_9_code, 6, some .int)
def m10_putBytes : kM := (⟨kR10, "putBytes", "(I)V"⟩, prog_1_method_10_code, 3, none)
def m10_pier : kM := (⟨kR10, "pie\x72", "(I)I"⟩, prog_1_method_11_code, 3, some .int)
def m10_fault : kM := (⟨kR10, "fault", "()I"⟩, prog_1_method_12_code, 1, some .int)
def m10_where : kM := (⟨kR10, "where", "()I"⟩, prog_1_method_13_code, 1, some .int)
def m10_pair : kM := (⟨kR10, "pai\x72", "(II)I"⟩, prog_1_method_14_code, 4, some .int)
def m10_isMore : kM := (⟨kR10, "isMore", "(I)Z"⟩, prog_1_method_15_code, 2, some .boolean)
def m10_sayingBehind : kM := (⟨kR10, "sayingBehind", "(II)I"⟩, prog_1_method_16_code, 3, some .int)
def m10_sayAllBehind : kM := (⟨kR10, "sayAllBehind", "(I)V"⟩, prog_1_method_17_code, 3, none)
def m10_says : kM := (⟨kR10, "says", "(II)I"⟩, prog_1_method_18_code, 3, some .int)
def m10_saysAll : kM := (⟨kR10, "saysAll", "(II)I"⟩, prog_1_method_19_code, 5, some .int)
def m10_moreIn : kM := (⟨kR10, "moreIn", "(I)I"⟩, prog_1_method_20_code, 3, some .int)
def m10_moreTimes : kM := (⟨kR10, "moreTimes", "(II)I"⟩, prog_1_method_21_code, 3, some .int)
def m10_goRound : kM := (⟨kR10, "goRound", "(I)V"⟩, prog_1_method_22_code, 2, none)
def m10_settles : kM := (⟨kR10, "settles", "(I)I"⟩, prog_1_method_23_code, 2, some .int)
def m10_round : kM := (⟨kR10, "round", "(I)I"⟩, prog_1_method_24_code, 2, some .int)
def m10_saysLate : kM := (⟨kR10, "saysLate", "(II)I"⟩, prog_1_method_25_code, 3, some .int)
def m10_roundMost : kM := (⟨kR10, "roundMost", "(I)I"⟩, prog_1_method_26_code, 2, some .int)
def m10_roundLeast : kM := (⟨kR10, "roundLeast", "(I)I"⟩, prog_1_method_27_code, 2, some .int)
def m10_turnsAbout : kM := (⟨kR10, "turnsAbout", "(I)I"⟩, prog_1_method_28_code, 6, some .int)
def m10_alikeIn : kM := (⟨kR10, "alikeIn", "(II)I"⟩, prog_1_method_29_code, 4, some .int)
def m10_loudest : kM := (⟨kR10, "loudest", "(I)I"⟩, prog_1_method_30_code, 2, some .int)
def m10_firstMost : kM := (⟨kR10, "firstMost", "([II)I"⟩, prog_1_method_31_code, 4, some .int)
def m10_overtakes : kM := (⟨kR10, "overtakes", "(II)I"⟩, prog_1_method_32_code, 4, some .int)
def m10_widest : kM := (⟨kR10, "widest", "(I)I"⟩, prog_1_method_33_code, 7, some .int)
def m10_sumAll : kM := (⟨kR10, "sumAll", "(I)I"⟩, prog_1_method_34_code, 4, some .int)
def m10_masters : kM := (⟨kR10, "masters", "(I)I"⟩, prog_1_method_35_code, 2, some .int)
def m10_bitsOfMore : kM := (⟨kR10, "bitsOfMore", "([I)I"⟩, prog_1_method_36_code, 4, some .int)
def m10_sayingByEvery : kM := (⟨kR10, "sayingByEvery", "(III)I"⟩, prog_1_method_37_code, 4, some .int)
def m10_bestEvery : kM := (⟨kR10, "bestEvery", "(II)I"⟩, prog_1_method_38_code, 7, some .int)
def m10_everyFor : kM := (⟨kR10, "everyFo\x72", "(II)I"⟩, prog_1_method_39_code, 3, some .int)
def m10_everySays : kM := (⟨kR10, "everySays", "(II)I"⟩, prog_1_method_40_code, 3, some .int)
def m10_everyNever : kM := (⟨kR10, "everyNeve\x72", "(I)I"⟩, prog_1_method_41_code, 3, some .int)
def m10_stepFor : kM := (⟨kR10, "stepFo\x72", "(II)I"⟩, prog_1_method_42_code, 4, some .int)
def m10_mayFit : kM := (⟨kR10, "mayFit", "()Z"⟩, prog_1_method_43_code, 1, some .boolean)
def m10_fits : kM := (⟨kR10, "fits", "()I"⟩, prog_1_method_44_code, 1, some .int)
def m10_fitAt : kM := (⟨kR10, "fitAt", "(I)I"⟩, prog_1_method_45_code, 2, some .int)
def m10_could : kM := (⟨kR10, "could", "()I"⟩, prog_1_method_46_code, 1, some .int)
def m10_surely : kM := (⟨kR10, "surely", "()I"⟩, prog_1_method_47_code, 1, some .int)
def m10_ask : kM := (⟨kR10, "ask", "()I"⟩, prog_1_method_48_code, 1, some .int)
def m10_askLeaves : kM := (⟨kR10, "askLeaves", "()I"⟩, prog_1_method_49_code, 2, some .int)
def m10_judge : kM := (⟨kR10, "judge", "()I"⟩, prog_1_method_50_code, 2, some .int)
def m10_apartByTold : kM := (⟨kR10, "apartByTold", "(I)I"⟩, prog_1_method_51_code, 2, some .int)
def m10_third : kM := (⟨kR10, "third", "(I)I"⟩, prog_1_method_52_code, 4, some .int)
def m10_owes : kM := (⟨kR10, "owes", "(II)I"⟩, prog_1_method_53_code, 3, some .int)
def m10_net : kM := (⟨kR10, "net", "(I)I"⟩, prog_1_method_54_code, 2, some .int)
def m10_due : kM := (⟨kR10, "due", "()I"⟩, prog_1_method_55_code, 1, some .int)
def m10_creditor : kM := (⟨kR10, "credito\x72", "()I"⟩, prog_1_method_56_code, 1, some .int)
def m10_payments : kM := (⟨kR10, "payments", "()I"⟩, prog_1_method_57_code, 1, some .int)
def m10_ring : kM := (⟨kR10, "ring", "(I)I"⟩, prog_1_method_58_code, 2, some .int)
def m10_ringAt : kM := (⟨kR10, "ringAt", "(II)I"⟩, prog_1_method_59_code, 3, some .int)
def m10_share : kM := (⟨kR10, "share", "(IZZ)I"⟩, prog_1_method_60_code, 3, some .int)
def m10_isRest : kM := (⟨kR10, "isRest", "(IZZ)Z"⟩, prog_1_method_61_code, 3, some .boolean)
def m10_isRestAt : kM := (⟨kR10, "isRestAt", "(II)Z"⟩, prog_1_method_62_code, 2, some .boolean)
def m10_talks : kM := (⟨kR10, "talks", "(IZZZ)I"⟩, prog_1_method_63_code, 5, some .int)
def m10_rests : kM := (⟨kR10, "rests", "(I)I"⟩, prog_1_method_64_code, 4, some .int)
def m10_rest : kM := (⟨kR10, "rest", "(I)I"⟩, prog_1_method_65_code, 3, some .int)
def m10_verdictOdds : kM := (⟨kR10, "verdictOdds", "(IIZ)J"⟩, prog_1_method_66_code, 4, some .long)
def m10_looks : kM := (⟨kR10, "looks", "(III)I"⟩, prog_1_method_67_code, 4, some .int)
def m10_verdict : kM := (⟨kR10, "verdict", "(II)I"⟩, prog_1_method_68_code, 3, some .int)
def m10_drawFrom : kM := (⟨kR10, "drawFrom", "(I)I"⟩, prog_1_method_69_code, 1, some .int)
def m10_odds : kM := (⟨kR10, "odds", "(IIIZ)J"⟩, prog_1_method_70_code, 10, some .long)
def m10_mean : kM := (⟨kR10, "mean", "(IIZ)J"⟩, prog_1_method_71_code, 9, some .long)
def m10_goWithDumb : kM := (⟨kR10, "goWithDumb", "(III)J"⟩, prog_1_method_72_code, 7, some .long)
def m10_allChances : kM := (⟨kR10, "allChances", "(I)J"⟩, prog_1_method_73_code, 4, some .long)
def m10_drawn : kM := (⟨kR10, "drawn", "(III)I"⟩, prog_1_method_74_code, 6, some .int)
def m10_season : kM := (⟨kR10, "season", "()I"⟩, prog_1_method_75_code, 1, some .int)
def m10_change : kM := (⟨kR10, "change", "(I)I"⟩, prog_1_method_76_code, 3, some .int)
def m10_step : kM := (⟨kR10, "step", "(II)Z"⟩, prog_1_method_77_code, 3, some .boolean)
def m10_pay : kM := (⟨kR10, "pay", "(III)I"⟩, prog_1_method_78_code, 5, some .int)
def m10_undo : kM := (⟨kR10, "undo", "()Z"⟩, prog_1_method_79_code, 1, some .boolean)
def m10_image : kM := (⟨kR10, "image", "()I"⟩, prog_1_method_80_code, 1, some .int)
def m10_back : kM := (⟨kR10, "back", "(I)Z"⟩, prog_1_method_81_code, 2, some .boolean)
def m10_led : kM := (⟨kR10, "led", "(I)I"⟩, prog_1_method_82_code, 4, some .int)
def m10_size : kM := (⟨kR10, "size", "(I)I"⟩, prog_1_method_83_code, 2, some .int)
def m10_trouble : kM := (⟨kR10, "trouble", "()I"⟩, prog_1_method_84_code, 1, some .int)
def m11_thrown : kM := (⟨kR11, "thrown", "()I"⟩, prog_13_method_2_code, 1, some .int)
def m11_good : kM := (⟨kR11, "good", "()V"⟩, prog_13_method_3_code, 1, none)
def m11_no : kM := (⟨kR11, "no", "(I)I"⟩, prog_13_method_4_code, 2, some .int)
def m11_isNot : kM := (⟨kR11, "isNot", "(I)Z"⟩, prog_13_method_5_code, 2, some .boolean)
def m11_in : kM := (⟨kR11, "in", "(III)Z"⟩, prog_13_method_6_code, 3, some .boolean)
def m11_hasBit : kM := (⟨kR11, "hasBit", "(II)Z"⟩, prog_13_method_7_code, 2, some .boolean)
def m11_ones : kM := (⟨kR11, "ones", "(I)I"⟩, prog_13_method_8_code, 3, some .int)
def m11_copy : kM := (⟨kR11, "copy", "([II[III)V"⟩, prog_13_method_9_code, 6, none)
def m11_lowest : kM := (⟨kR11, "lowest", "(JJZ)J"⟩, prog_13_method_10_code, 11, some .long)
def m11_feed : kM := (⟨kR11, "feed", "(IIIII)I"⟩, prog_13_method_11_code, 8, some .int)
def m11_see : kM := (⟨kR11, "see", "(I)I"⟩, prog_13_method_12_code, 2, some .int)
def m11_isSmall : kM := (⟨kR11, "isSmall", "(I)Z"⟩, prog_13_method_13_code, 1, some .boolean)
def m11_isDigit : kM := (⟨kR11, "isDigit", "(I)Z"⟩, prog_13_method_14_code, 1, some .boolean)
def m11_next : kM := (⟨kR11, "next", "()V"⟩, prog_13_method_15_code, 4, none)
def m11_wrong : kM := (⟨kR11, "wrong", "(II)V"⟩, prog_13_method_16_code, 3, none)
def m11_isWord : kM := (⟨kR11, "isWord", "(Ljava/lang/String;)Z"⟩, prog_13_method_17_code, 4, some .boolean)
def m11_takesWord : kM := (⟨kR11, "takesWord", "(Ljava/lang/String;)Z"⟩, prog_13_method_18_code, 2, some .boolean)
def m11_must : kM := (⟨kR11, "must", "(Ljava/lang/String;)V"⟩, prog_13_method_19_code, 2, none)
def m11_mustName : kM := (⟨kR11, "mustName", "()V"⟩, prog_13_method_20_code, 1, none)
def m11_find : kM := (⟨kR11, "find", "()I"⟩, prog_13_method_21_code, 4, some .int)
def m11_newName : kM := (⟨kR11, "newName", "(I)V"⟩, prog_13_method_22_code, 3, none)
def m11_pairHere : kM := (⟨kR11, "pairHere", "()I"⟩, prog_13_method_23_code, 2, some .int)
def m11_pass : kM := (⟨kR11, "pass", "()V"⟩, prog_13_method_24_code, 1, none)
def m11_numberHere : kM := (⟨kR11, "numberHere", "(II)I"⟩, prog_13_method_25_code, 3, some .int)
def m11_number : kM := (⟨kR11, "numbe\x72", "(II)I"⟩, prog_13_method_26_code, 4, some .int)
def m11_after : kM := (⟨kR11, "afte\x72", "(Ljava/lang/String;II)I"⟩, prog_13_method_27_code, 4, some .int)
def m11_pier : kM := (⟨kR11, "pie\x72", "(I)I"⟩, prog_13_method_28_code, 3, some .int)
def m11_begins : kM := (⟨kR11, "begins", "(Ljava/lang/String;Z)Z"⟩, prog_13_method_29_code, 3, some .boolean)
def m11_readLine : kM := (⟨kR11, "readLine", "()V"⟩, prog_13_method_30_code, 1, none)
def m11_pierLine : kM := (⟨kR11, "pierLine", "()V"⟩, prog_13_method_31_code, 1, none)
def m11_pairLine : kM := (⟨kR11, "pairLine", "()V"⟩, prog_13_method_32_code, 5, none)
def m11_contractLine : kM := (⟨kR11, "contractLine", "()V"⟩, prog_13_method_33_code, 3, none)
def m11_debtLine : kM := (⟨kR11, "debtLine", "()V"⟩, prog_13_method_34_code, 4, none)
def m11_unsureLine : kM := (⟨kR11, "unsureLine", "()V"⟩, prog_13_method_35_code, 4, none)
def m11_heardLine : kM := (⟨kR11, "heardLine", "()V"⟩, prog_13_method_36_code, 5, none)
def m11_fault : kM := (⟨kR11, "fault", "()I"⟩, prog_13_method_37_code, 1, some .int)
def m11_where : kM := (⟨kR11, "where", "()I"⟩, prog_13_method_38_code, 1, some .int)
def m11_isPair : kM := (⟨kR11, "isPai\x72", "(I)Z"⟩, prog_13_method_39_code, 2, some .boolean)
def m11_areTwo : kM := (⟨kR11, "areTwo", "(II)Z"⟩, prog_13_method_40_code, 3, some .boolean)
def m11_why : kM := (⟨kR11, "why", "(ZZ)I"⟩, prog_13_method_41_code, 3, some .int)
def m11_within : kM := (⟨kR11, "within", "(I)I"⟩, prog_13_method_42_code, 2, some .int)
def m11_byLaw : kM := (⟨kR11, "byLaw", "(III)I"⟩, prog_13_method_43_code, 5, some .int)
def m11_behind : kM := (⟨kR11, "behind", "(IIIIIZ)I"⟩, prog_13_method_44_code, 8, some .int)
def m11_isMore : kM := (⟨kR11, "isMore", "(I)Z"⟩, prog_13_method_45_code, 2, some .boolean)
def m11_saysBy : kM := (⟨kR11, "saysBy", "(IIII)I"⟩, prog_13_method_46_code, 7, some .int)
def m11_saysIn : kM := (⟨kR11, "saysIn", "(II)I"⟩, prog_13_method_47_code, 3, some .int)
def m11_goRound : kM := (⟨kR11, "goRound", "(I)V"⟩, prog_13_method_48_code, 7, none)
def m11_isRoundOf : kM := (⟨kR11, "isRoundOf", "(I)Z"⟩, prog_13_method_49_code, 3, some .boolean)
def m11_pair : kM := (⟨kR11, "pai\x72", "(II)I"⟩, prog_13_method_50_code, 3, some .int)
def m11_aheadWhy : kM := (⟨kR11, "aheadWhy", "(ZI)I"⟩, prog_13_method_51_code, 3, some .int)
def m11_says : kM := (⟨kR11, "says", "(II)I"⟩, prog_13_method_52_code, 4, some .int)
def m11_saysAll : kM := (⟨kR11, "saysAll", "(II)I"⟩, prog_13_method_53_code, 6, some .int)
def m11_moreIn : kM := (⟨kR11, "moreIn", "(I)I"⟩, prog_13_method_54_code, 3, some .int)
def m11_moreTimes : kM := (⟨kR11, "moreTimes", "(II)I"⟩, prog_13_method_55_code, 6, some .int)
def m11_settles : kM := (⟨kR11, "settles", "(I)I"⟩, prog_13_method_56_code, 2, some .int)
def m11_round : kM := (⟨kR11, "round", "(I)I"⟩, prog_13_method_57_code, 2, some .int)
def m11_saysLate : kM := (⟨kR11, "saysLate", "(II)I"⟩, prog_13_method_58_code, 4, some .int)
def m11_extremeOf : kM := (⟨kR11, "extremeOf", "(II)I"⟩, prog_13_method_59_code, 5, some .int)
def m11_roundMost : kM := (⟨kR11, "roundMost", "(I)I"⟩, prog_13_method_60_code, 2, some .int)
def m11_roundLeast : kM := (⟨kR11, "roundLeast", "(I)I"⟩, prog_13_method_61_code, 2, some .int)
def m11_turnsAbout : kM := (⟨kR11, "turnsAbout", "(I)I"⟩, prog_13_method_62_code, 4, some .int)
def m11_alikeIn : kM := (⟨kR11, "alikeIn", "(II)I"⟩, prog_13_method_63_code, 4, some .int)
def m11_loudest : kM := (⟨kR11, "loudest", "(I)I"⟩, prog_13_method_64_code, 5, some .int)
def m11_mastersIn : kM := (⟨kR11, "mastersIn", "(I)I"⟩, prog_13_method_65_code, 4, some .int)
def m11_masters : kM := (⟨kR11, "masters", "(I)I"⟩, prog_13_method_66_code, 3, some .int)
def m11_overtakes : kM := (⟨kR11, "overtakes", "(II)I"⟩, prog_13_method_67_code, 4, some .int)
def m11_widest : kM := (⟨kR11, "widest", "(I)I"⟩, prog_13_method_68_code, 8, some .int)
def m11_sumAll : kM := (⟨kR11, "sumAll", "(I)I"⟩, prog_13_method_69_code, 5, some .int)
def m11_bestEvery : kM := (⟨kR11, "bestEvery", "(II)I"⟩, prog_13_method_70_code, 5, some .int)
def m11_everyFor : kM := (⟨kR11, "everyFo\x72", "(II)I"⟩, prog_13_method_71_code, 4, some .int)
def m11_everySays : kM := (⟨kR11, "everySays", "(II)I"⟩, prog_13_method_72_code, 4, some .int)
def m11_isNeverMore : kM := (⟨kR11, "isNeverMore", "(II)Z"⟩, prog_13_method_73_code, 4, some .boolean)
def m11_everyNever : kM := (⟨kR11, "everyNeve\x72", "(I)I"⟩, prog_13_method_74_code, 3, some .int)
def m11_stepFor : kM := (⟨kR11, "stepFo\x72", "(II)I"⟩, prog_13_method_75_code, 5, some .int)
def m11_stepBy : kM := (⟨kR11, "stepBy", "(II)I"⟩, prog_13_method_76_code, 5, some .int)
def m11_saidThen : kM := (⟨kR11, "saidThen", "(III)I"⟩, prog_13_method_77_code, 6, some .int)
def m11_wrongBy : kM := (⟨kR11, "wrongBy", "(I)I"⟩, prog_13_method_78_code, 3, some .int)
def m11_seekSets : kM := (⟨kR11, "seekSets", "(I)I"⟩, prog_13_method_79_code, 5, some .int)
def m11_fits : kM := (⟨kR11, "fits", "()I"⟩, prog_13_method_80_code, 1, some .int)
def m11_fitAt : kM := (⟨kR11, "fitAt", "(I)I"⟩, prog_13_method_81_code, 3, some .int)
def m11_could : kM := (⟨kR11, "could", "()I"⟩, prog_13_method_82_code, 1, some .int)
def m11_surely : kM := (⟨kR11, "surely", "()I"⟩, prog_13_method_83_code, 1, some .int)
def m11_leavesOf : kM := (⟨kR11, "leavesOf", "(I)I"⟩, prog_13_method_84_code, 2, some .int)
def m11_askOf : kM := (⟨kR11, "askOf", "()I"⟩, prog_13_method_85_code, 3, some .int)
def m11_ask : kM := (⟨kR11, "ask", "()I"⟩, prog_13_method_86_code, 1, some .int)
def m11_askLeaves : kM := (⟨kR11, "askLeaves", "()I"⟩, prog_13_method_87_code, 2, some .int)
def m11_judge : kM := (⟨kR11, "judge", "()I"⟩, prog_13_method_88_code, 1, some .int)
def m11_third : kM := (⟨kR11, "third", "(I)I"⟩, prog_13_method_89_code, 5, some .int)
def m11_debtOf : kM := (⟨kR11, "debtOf", "(II)I"⟩, prog_13_method_90_code, 3, some .int)
def m11_netOf : kM := (⟨kR11, "netOf", "(I)I"⟩, prog_13_method_91_code, 4, some .int)
def m11_owes : kM := (⟨kR11, "owes", "(II)I"⟩, prog_13_method_92_code, 3, some .int)
def m11_net : kM := (⟨kR11, "net", "(I)I"⟩, prog_13_method_93_code, 2, some .int)
def m11_due : kM := (⟨kR11, "due", "()I"⟩, prog_13_method_94_code, 3, some .int)
def m11_creditor : kM := (⟨kR11, "credito\x72", "()I"⟩, prog_13_method_95_code, 3, some .int)
def m11_netsOf : kM := (⟨kR11, "netsOf", "(I)I"⟩, prog_13_method_96_code, 4, some .int)
def m11_groupsOf : kM := (⟨kR11, "groupsOf", "(I)I"⟩, prog_13_method_97_code, 5, some .int)
def m11_payments : kM := (⟨kR11, "payments", "()I"⟩, prog_13_method_98_code, 3, some .int)
def m11_tryRing : kM := (⟨kR11, "tryRing", "(II)V"⟩, prog_13_method_99_code, 4, none)
def m11_seekRing : kM := (⟨kR11, "seekRing", "(I)Z"⟩, prog_13_method_100_code, 2, some .boolean)
def m11_ring : kM := (⟨kR11, "ring", "(I)I"⟩, prog_13_method_101_code, 2, some .int)
def m11_ringAt : kM := (⟨kR11, "ringAt", "(II)I"⟩, prog_13_method_102_code, 3, some .int)
def m11_talksOf : kM := (⟨kR11, "talksOf", "(IZZ)I"⟩, prog_13_method_103_code, 3, some .int)
def m11_talks : kM := (⟨kR11, "talks", "(IZZZ)I"⟩, prog_13_method_104_code, 6, some .int)
def m11_seekRests : kM := (⟨kR11, "seekRests", "(I)I"⟩, prog_13_method_105_code, 6, some .int)
def m11_rests : kM := (⟨kR11, "rests", "(I)I"⟩, prog_13_method_106_code, 3, some .int)
def m11_rest : kM := (⟨kR11, "rest", "(I)I"⟩, prog_13_method_107_code, 3, some .int)
def m11_verdictOf : kM := (⟨kR11, "verdictOf", "()I"⟩, prog_13_method_108_code, 3, some .int)
def m11_verdictOdds : kM := (⟨kR11, "verdictOdds", "(IIZ)J"⟩, prog_13_method_109_code, 10, some .long)
def m11_lookWhy : kM := (⟨kR11, "lookWhy", "(ZII)I"⟩, prog_13_method_110_code, 6, some .int)
def m11_looks : kM := (⟨kR11, "looks", "(III)I"⟩, prog_13_method_111_code, 5, some .int)
def m11_verdict : kM := (⟨kR11, "verdict", "(II)I"⟩, prog_13_method_112_code, 4, some .int)
def m11_tryDumb : kM := (⟨kR11, "tryDumb", "(III)V"⟩, prog_13_method_113_code, 9, none)
def m11_odds : kM := (⟨kR11, "odds", "(IIIZ)J"⟩, prog_13_method_114_code, 6, some .long)
def m11_mean : kM := (⟨kR11, "mean", "(IIZ)J"⟩, prog_13_method_115_code, 5, some .long)
def m11_drawn : kM := (⟨kR11, "drawn", "(III)I"⟩, prog_13_method_116_code, 8, some .int)
def m11_note : kM := (⟨kR11, "note", "()V"⟩, prog_13_method_117_code, 2, none)
def m11_season : kM := (⟨kR11, "season", "()I"⟩, prog_13_method_118_code, 2, some .int)
def m11_change : kM := (⟨kR11, "change", "(I)I"⟩, prog_13_method_119_code, 2, some .int)
def m11_step : kM := (⟨kR11, "step", "(II)Z"⟩, prog_13_method_120_code, 3, some .boolean)
def m11_pay : kM := (⟨kR11, "pay", "(III)I"⟩, prog_13_method_121_code, 5, some .int)
def m11_undo : kM := (⟨kR11, "undo", "()Z"⟩, prog_13_method_122_code, 1, some .boolean)
def m11_image : kM := (⟨kR11, "image", "()I"⟩, prog_13_method_123_code, 1, some .int)
def m11_back : kM := (⟨kR11, "back", "(I)Z"⟩, prog_13_method_124_code, 2, some .boolean)
def m11_led : kM := (⟨kR11, "led", "(I)I"⟩, prog_13_method_125_code, 4, some .int)
def m11_size : kM := (⟨kR11, "size", "(I)I"⟩, prog_13_method_126_code, 2, some .int)
def m11_trouble : kM := (⟨kR11, "trouble", "()I"⟩, prog_13_method_127_code, 1, some .int)
end
section
-- THE WORLD: S holds every int and long by cell and place; G: what the tables number; E: where the cells lie, and the cell that reader.pier names
abbrev kSt : Type := (Nat → Nat → Int32) × (Nat → Nat → Int64)
abbrev kG : Type := va_G × (ClassId × ClassId × ClassId × ClassId) × (Nat → Nat) × (Nat → Nat) × Value
abbrev kE : Type := (Nat → Nat) × Nat
def kuI (S : kSt) (k j : Nat) (x : Int32) : kSt := (fun a => if a = k then upd (S.1 a) j x else S.1 a, S.2)
def kuL (S : kSt) (k j : Nat) (x : Int64) : kSt := (S.1, fun a => if a = k then vp_updL (S.2 a) j x else S.2 a)
def kuA (S : kSt) (k : Nat) (f : Nat → Int32) : kSt := (fun a => if a = k then f else S.1 a, S.2)
def kcv (ad : Nat → Nat) (v : Value) : Value := match v with
  | .ref k => .ref (ad k)
  | v => v
def kb (b : Bool) : Int32 := if b then 1 else 0
def kval (E : kE) (S : kSt) (k j : Nat) (ty : FieldType) : Value := match ty with
  | .long => .long (S.2 k j)
  | .array _ => va_rf ((kRf E.2 k j).map E.1)
  | .object _ => va_rf ((kRf E.2 k j).map E.1)
  | _ => .int (S.1 k j)
def kfs (E : kE) (S : kSt) (k c n : Nat) : List Value := (List.range n).map (fun j => kval E S k j (kTyp c j))
def kent (G : kG) (E : kE) (S : kSt) (k : Nat) : va_E := match kSH[k]? with
  | some (0, c, n) => .inr (c, kfs E S k c n)
  | some (1, 0, n) => .inl (G.2.1.1, n, .inl (S.1 k))
  | some (1, 1, n) => .inl (G.2.1.2.1, n, .inl (S.1 k))
  | some (1, 2, n) => .inl (G.2.1.2.2.1, n, .inr (.inl (S.2 k)))
  | some (1, _, n) => .inl (G.2.1.2.2.2, n, .inr (.inr (.inr (.inr (fun j => (kRf E.2 k j).map E.1)))))
  | _ => .inr (0, [])
def kws (G : kG) (E : kE) (S : kSt) : va_W := (List.range kN).map (fun k => (E.1 k, kent G E S k))
theorem kws_at {G : kG} {E : kE} {S : kSt} {k : Nat} (h : k < kN) : (kws G E S)[k]? = some (E.1 k, kent G E S k) := by
  simp [kws, List.getElem?_map, List.getElem?_range h]
theorem kws_inv {G : kG} {E : kE} {S : kSt} {k : Nat} {q : Nat × va_E} (h : (kws G E S)[k]? = some q) : k < kN ∧ q = (E.1 k, kent G E S k) := by
  have hl := (List.getElem?_eq_some_iff.mp h).1
  have hk : k < kN := by simpa [kws] using hl
  rw [kws_at hk] at h
  exact ⟨hk, (Option.some.inj h).symm⟩
theorem kws_set {G : kG} {E : kE} {S S' : kSt} {k : Nat} {e : va_E} (hk : k < kN) (he : kent G E S' k = e) (h : ∀ i, i ≠ k → kent G E S' i = kent G E S i) : (kws G E S).set k (E.1 k, e) = kws G E S' := by
  subst he
  apply List.ext_getElem?
  intro i
  by_cases hi : i < kN
  · by_cases hik : i = k
    · subst hik
      rw [List.getElem?_set_self (by simpa [kws] using hi), kws_at hi]
    · rw [List.getElem?_set_ne (Ne.symm hik), kws_at hi, kws_at hi, h i hik]
  · rw [List.getElem?_eq_none (by simpa [kws] using hi), List.getElem?_eq_none (by simpa [kws] using hi)]
theorem kws_D {G : kG} {E : kE} {S : kSt} {A : Nat → Prop} (hi : ∀ i j, i < kN → j < kN → E.1 i = E.1 j → i = j) (hA : ∀ k, k < kN → A (E.1 k)) : va_D A (kws G E S) := by
  refine ⟨fun i j p q hp hq e => ?_, fun k q hq => ?_⟩
  · obtain ⟨h1, rfl⟩ := kws_inv hp
    obtain ⟨h2, rfl⟩ := kws_inv hq
    exact hi i j h1 h2 e
  · obtain ⟨h1, rfl⟩ := kws_inv hq
    exact hA k h1
theorem kfs_at {E : kE} {S : kSt} {k c n j : Nat} (h : j < n) : (kfs E S k c n)[j]? = some (kval E S k j (kTyp c j)) := by
  simp [kfs, List.getElem?_map, List.getElem?_range h]
theorem kfs_set {E : kE} {S S' : kSt} {k c n j : Nat} {v : Value} (hv : kval E S' k j (kTyp c j) = v) (h : ∀ i, i ≠ j → kval E S' k i (kTyp c i) = kval E S k i (kTyp c i)) : kfs E S' k c n = (kfs E S k c n).set j v := by
  subst hv
  apply List.ext_getElem?
  intro i
  by_cases hi : i < n
  · by_cases hij : i = j
    · subst hij
      rw [List.getElem?_set_self (by simpa [kfs] using hi), kfs_at hi]
    · rw [List.getElem?_set_ne (Ne.symm hij), kfs_at hi, kfs_at hi, h i hij]
  · rw [List.getElem?_eq_none (by simpa [kfs] using hi), List.getElem?_eq_none (by simpa [kfs] using hi)]
theorem kuI_self (S : kSt) (k j : Nat) (x : Int32) : (kuI S k j x).1 k = upd (S.1 k) j x := by simp [kuI]
theorem kuI_ne (S : kSt) {k a : Nat} (j : Nat) (x : Int32) (h : a ≠ k) : (kuI S k j x).1 a = S.1 a := by simp [kuI, h]
theorem kuI_2 (S : kSt) (k j : Nat) (x : Int32) : (kuI S k j x).2 = S.2 := rfl
theorem kuA_self (S : kSt) (k : Nat) (f : Nat → Int32) : (kuA S k f).1 k = f := by simp [kuA]
theorem kuA_ne (S : kSt) {k a : Nat} (f : Nat → Int32) (h : a ≠ k) : (kuA S k f).1 a = S.1 a := by simp [kuA, h]
theorem kuL_self (S : kSt) (k j : Nat) (x : Int64) : (kuL S k j x).2 k = vp_updL (S.2 k) j x := by simp [kuL]
theorem kuL_ne (S : kSt) {k a : Nat} (j : Nat) (x : Int64) (h : a ≠ k) : (kuL S k j x).2 a = S.2 a := by simp [kuL, h]
theorem kent_congr {G : kG} {E : kE} {S S' : kSt} {i : Nat} (h1 : S'.1 i = S.1 i) (h2 : S'.2 i = S.2 i) : kent G E S' i = kent G E S i := by
  have hv : ∀ j ty, kval E S' i j ty = kval E S i j ty := by
    intro j ty
    unfold kval
    rw [h1, h2]
  have hf : ∀ c n, kfs E S' i c n = kfs E S i c n := by
    intro c n
    unfold kfs
    exact List.map_congr_left (fun j _ => hv j _)
  unfold kent
  rw [h1, h2]
  split <;> simp [hf]
theorem kent_obj {G : kG} {E : kE} {S : kSt} {k c n : Nat} (h : kSH[k]? = some (0, c, n)) : kent G E S k = .inr (c, kfs E S k c n) := by
  unfold kent
  rw [h] <;> rfl
theorem kent_i {G : kG} {E : kE} {S : kSt} {k n : Nat} (h : kSH[k]? = some (1, 0, n)) : kent G E S k = .inl (G.2.1.1, n, .inl (S.1 k)) := by
  unfold kent
  rw [h] <;> rfl
theorem kent_b {G : kG} {E : kE} {S : kSt} {k n : Nat} (h : kSH[k]? = some (1, 1, n)) : kent G E S k = .inl (G.2.1.2.1, n, .inl (S.1 k)) := by
  unfold kent
  rw [h] <;> rfl
theorem kent_q {G : kG} {E : kE} {S : kSt} {k n : Nat} (h : kSH[k]? = some (1, 3, n)) : kent G E S k = .inl (G.2.1.2.2.2, n, .inr (.inr (.inr (.inr (fun j => (kRf E.2 k j).map E.1))))) := by
  unfold kent
  rw [h] <;> rfl
theorem kSH_lt {k : Nat} {q : Nat × Nat × Nat} (h : kSH[k]? = some q) : k < kN := by
  have h1 := (List.getElem?_eq_some_iff.mp h).1
  have h2 : kSH.length = kN := by decide +kernel
  omega
-- the words
def kT : List Cond := lw_tbl.filter goodWord
theorem kin {w : Cond} (i : Nat) (h : tables_1[i]? = some w) (hg : goodWord w = true) : w ∈ kT := List.mem_filter.mpr ⟨List.mem_append_right _ (List.mem_of_getElem? h), hg⟩
theorem kinS {w : Cond} (i : Nat) (h : (k2_sels lw_privs)[i]? = some w) (hg : goodWord w = true) : w ∈ kT := List.mem_filter.mpr ⟨List.mem_append_left _ (List.mem_of_getElem? h), hg⟩
theorem kT_good {w : Cond} (h : w ∈ kT) : (w.onTables && w.keeps) = true ∨ ∃ ty, w = .arrayClass ty := good_of_word (List.mem_filter.mp h).2
def kcode (M : kM) : Cond := .code M.1 M.2.1 M.2.2.1 M.2.2.2
def kWs (M : kM) : List Cond := kcode M :: kT
def kD (M : kM) (pc : Nat) (i : Instr) (n pc' : Nat) : Prop := decode M.2.1 pc = .ok (i, n) ∧ pc' = pc + n
def kDec (M : kM) (L : List (Nat × Instr × Nat × Nat)) : Prop := ∀ q ∈ L, kD M q.1 q.2.1 q.2.2.1 q.2.2.2
theorem kDec.at {M : kM} {L : List (Nat × Instr × Nat × Nat)} (h : kDec M L) (i : Nat) {pc n pc' : Nat} {ins : Instr} (hi : L[i]? = some (pc, ins, n, pc')) : kD M pc ins n pc' := h (pc, ins, n, pc') (List.mem_of_getElem? hi)
def kNl : List Cond := [.methodLinkNest kR2 26 m10_firstMost.1 "FigureKnee", .methodLinkNest kR2 36 m10_drawFrom.1 "FigureKnee"]
def krm (d : Nat) : Room := { frames := d, cells := 0, slots := 0, locals := 60 * d }
end
section
theorem kin1 {w : Cond} (i : Nat) (h : tables_1_1[i]? = some w) (hg : goodWord w = true) : w ∈ kT := List.mem_filter.mpr ⟨List.mem_append_right _ ((fun h => List.mem_append_left _ h) (List.mem_of_getElem? h)), hg⟩
theorem kin2 {w : Cond} (i : Nat) (h : tables_1_2[i]? = some w) (hg : goodWord w = true) : w ∈ kT := List.mem_filter.mpr ⟨List.mem_append_right _ ((fun h => List.mem_append_right _ (List.mem_append_left _ h)) (List.mem_of_getElem? h)), hg⟩
theorem kin3 {w : Cond} (i : Nat) (h : tables_1_3[i]? = some w) (hg : goodWord w = true) : w ∈ kT := List.mem_filter.mpr ⟨List.mem_append_right _ ((fun h => List.mem_append_right _ (List.mem_append_right _ (List.mem_append_left _ h))) (List.mem_of_getElem? h)), hg⟩
theorem kin4 {w : Cond} (i : Nat) (h : tables_1_4[i]? = some w) (hg : goodWord w = true) : w ∈ kT := List.mem_filter.mpr ⟨List.mem_append_right _ ((fun h => List.mem_append_right _ (List.mem_append_right _ (List.mem_append_right _ (List.mem_append_left _ h)))) (List.mem_of_getElem? h)), hg⟩
theorem kin5 {w : Cond} (i : Nat) (h : tables_1_5[i]? = some w) (hg : goodWord w = true) : w ∈ kT := List.mem_filter.mpr ⟨List.mem_append_right _ ((fun h => List.mem_append_right _ (List.mem_append_right _ (List.mem_append_right _ (List.mem_append_right _ (List.mem_append_left _ h))))) (List.mem_of_getElem? h)), hg⟩
theorem kin6 {w : Cond} (i : Nat) (h : tables_1_6[i]? = some w) (hg : goodWord w = true) : w ∈ kT := List.mem_filter.mpr ⟨List.mem_append_right _ ((fun h => List.mem_append_right _ (List.mem_append_right _ (List.mem_append_right _ (List.mem_append_right _ (List.mem_append_right _ (List.mem_append_left _ h)))))) (List.mem_of_getElem? h)), hg⟩
theorem kin7 {w : Cond} (i : Nat) (h : tables_1_7[i]? = some w) (hg : goodWord w = true) : w ∈ kT := List.mem_filter.mpr ⟨List.mem_append_right _ ((fun h => List.mem_append_right _ (List.mem_append_right _ (List.mem_append_right _ (List.mem_append_right _ (List.mem_append_right _ (List.mem_append_right _ (List.mem_append_left _ h))))))) (List.mem_of_getElem? h)), hg⟩
theorem kin8 {w : Cond} (i : Nat) (h : tables_1_8[i]? = some w) (hg : goodWord w = true) : w ∈ kT := List.mem_filter.mpr ⟨List.mem_append_right _ ((fun h => List.mem_append_right _ (List.mem_append_right _ (List.mem_append_right _ (List.mem_append_right _ (List.mem_append_right _ (List.mem_append_right _ (List.mem_append_right _ (h)))))))) (List.mem_of_getElem? h)), hg⟩
theorem kia0 : ∀ j, j < 7 → tables_1[([321, 323, 325, 327, 329, 331, 333] : List Nat).getD j 0]? = some (u_lay kR0 kF0 j) := by decide +kernel
theorem kib0 : ∀ j, j < 7 → goodWord (u_lay kR0 kF0 j) = true := by decide +kernel
theorem kic0 : ∀ w ∈ u_ws kR0 kF0 7, w ∈ kT := by
  intro w hw
  obtain ⟨j, hj, rfl⟩ := List.mem_map.mp hw
  have h := List.mem_range.mp hj
  exact kin _ (kia0 j h) (kib0 j h)
theorem kia1 : ∀ j, j < 5 → tables_1[([294, 296, 298, 300, 302] : List Nat).getD j 0]? = some (u_lay kR1 kF1 j) := by decide +kernel
theorem kib1 : ∀ j, j < 5 → goodWord (u_lay kR1 kF1 j) = true := by decide +kernel
theorem kic1 : ∀ w ∈ u_ws kR1 kF1 5, w ∈ kT := by
  intro w hw
  obtain ⟨j, hj, rfl⟩ := List.mem_map.mp hw
  have h := List.mem_range.mp hj
  exact kin _ (kia1 j h) (kib1 j h)
theorem kia2 : ∀ j, j < 3 → tables_1[([348, 350, 352] : List Nat).getD j 0]? = some (u_lay kR2 kF2 j) := by decide +kernel
theorem kib2 : ∀ j, j < 3 → goodWord (u_lay kR2 kF2 j) = true := by decide +kernel
theorem kic2 : ∀ w ∈ u_ws kR2 kF2 3, w ∈ kT := by
  intro w hw
  obtain ⟨j, hj, rfl⟩ := List.mem_map.mp hw
  have h := List.mem_range.mp hj
  exact kin _ (kia2 j h) (kib2 j h)
theorem kia3 : ∀ j, j < 3 → tables_1[([217, 219, 221] : List Nat).getD j 0]? = some (u_lay kR3 kF3 j) := by decide +kernel
theorem kib3 : ∀ j, j < 3 → goodWord (u_lay kR3 kF3 j) = true := by decide +kernel
theorem kic3 : ∀ w ∈ u_ws kR3 kF3 3, w ∈ kT := by
  intro w hw
  obtain ⟨j, hj, rfl⟩ := List.mem_map.mp hw
  have h := List.mem_range.mp hj
  exact kin _ (kia3 j h) (kib3 j h)
theorem kia4 : ∀ j, j < 4 → tables_1[([196, 198, 200, 202] : List Nat).getD j 0]? = some (u_lay kR4 kF4 j) := by decide +kernel
theorem kib4 : ∀ j, j < 4 → goodWord (u_lay kR4 kF4 j) = true := by decide +kernel
theorem kic4 : ∀ w ∈ u_ws kR4 kF4 4, w ∈ kT := by
  intro w hw
  obtain ⟨j, hj, rfl⟩ := List.mem_map.mp hw
  have h := List.mem_range.mp hj
  exact kin _ (kia4 j h) (kib4 j h)
theorem kia5 : ∀ j, j < 17 → tables_1[([99, 101, 103, 105, 107, 109, 111, 113, 115, 117, 119, 121, 123, 125, 127, 129, 131] : List Nat).getD j 0]? = some (u_lay kR5 kF5 j) := by decide +kernel
theorem kib5 : ∀ j, j < 17 → goodWord (u_lay kR5 kF5 j) = true := by decide +kernel
theorem kic5 : ∀ w ∈ u_ws kR5 kF5 17, w ∈ kT := by
  intro w hw
  obtain ⟨j, hj, rfl⟩ := List.mem_map.mp hw
  have h := List.mem_range.mp hj
  exact kin _ (kia5 j h) (kib5 j h)
theorem kia6 : ∀ j, j < 2 → tables_1[([363, 365] : List Nat).getD j 0]? = some (u_lay kR6 kF6 j) := by decide +kernel
theorem kib6 : ∀ j, j < 2 → goodWord (u_lay kR6 kF6 j) = true := by decide +kernel
theorem kic6 : ∀ w ∈ u_ws kR6 kF6 2, w ∈ kT := by
  intro w hw
  obtain ⟨j, hj, rfl⟩ := List.mem_map.mp hw
  have h := List.mem_range.mp hj
  exact kin _ (kia6 j h) (kib6 j h)
theorem kia7 : ∀ j, j < 11 → tables_1[([155, 157, 159, 161, 163, 165, 167, 169, 171, 173, 175] : List Nat).getD j 0]? = some (u_lay kR7 kF7 j) := by decide +kernel
theorem kib7 : ∀ j, j < 11 → goodWord (u_lay kR7 kF7 j) = true := by decide +kernel
theorem kic7 : ∀ w ∈ u_ws kR7 kF7 11, w ∈ kT := by
  intro w hw
  obtain ⟨j, hj, rfl⟩ := List.mem_map.mp hw
  have h := List.mem_range.mp hj
  exact kin _ (kia7 j h) (kib7 j h)
theorem kia8 : ∀ j, j < 4 → tables_1[([270, 272, 274, 276] : List Nat).getD j 0]? = some (u_lay kR8 kF8 j) := by decide +kernel
theorem kib8 : ∀ j, j < 4 → goodWord (u_lay kR8 kF8 j) = true := by decide +kernel
theorem kic8 : ∀ w ∈ u_ws kR8 kF8 4, w ∈ kT := by
  intro w hw
  obtain ⟨j, hj, rfl⟩ := List.mem_map.mp hw
  have h := List.mem_range.mp hj
  exact kin _ (kia8 j h) (kib8 j h)
theorem kia9 : ∀ j, j < 6 → tables_1[([245, 247, 249, 251, 253, 255] : List Nat).getD j 0]? = some (u_lay kR9 kF9 j) := by decide +kernel
theorem kib9 : ∀ j, j < 6 → goodWord (u_lay kR9 kF9 j) = true := by decide +kernel
theorem kic9 : ∀ w ∈ u_ws kR9 kF9 6, w ∈ kT := by
  intro w hw
  obtain ⟨j, hj, rfl⟩ := List.mem_map.mp hw
  have h := List.mem_range.mp hj
  exact kin _ (kia9 j h) (kib9 j h)
theorem kia10 : ∀ j, j < 19 → tables_1[([387, 389, 391, 393, 395, 397, 399, 401, 403, 405, 407, 409, 411, 413, 415, 417, 419, 421, 423] : List Nat).getD j 0]? = some (u_lay kR10 kF10 j) := by decide +kernel
theorem kib10 : ∀ j, j < 19 → goodWord (u_lay kR10 kF10 j) = true := by decide +kernel
theorem kic10 : ∀ w ∈ u_ws kR10 kF10 19, w ∈ kT := by
  intro w hw
  obtain ⟨j, hj, rfl⟩ := List.mem_map.mp hw
  have h := List.mem_range.mp hj
  exact kin _ (kia10 j h) (kib10 j h)
theorem kia11 : ∀ j, j < 42 → tables_1[([1234, 1236, 1238, 1240, 1242, 1244, 1246, 1248, 1250, 1252, 1254, 1256, 1258, 1260, 1262, 1264, 1266, 1268, 1270, 1272, 1274, 1276, 1278, 1280, 1282, 1284, 1286, 1288, 1290, 1292, 1294, 1296, 1298, 1300, 1302, 1304, 1306, 1308, 1310, 1312, 1314, 1316] : List Nat).getD j 0]? = some (u_lay kR11 kF11 j) := by decide +kernel
theorem kib11 : ∀ j, j < 42 → goodWord (u_lay kR11 kF11 j) = true := by decide +kernel
theorem kic11 : ∀ w ∈ u_ws kR11 kF11 42, w ∈ kT := by
  intro w hw
  obtain ⟨j, hj, rfl⟩ := List.mem_map.mp hw
  have h := List.mem_range.mp hj
  exact kin _ (kia11 j h) (kib11 j h)
/-- what the tables say of a kind of object -/
def kOb (c : Nat) (C : String) (T : u_T) (N : Nat) : Prop := (∀ w ∈ u_ws C T N, w ∈ kT) ∧ (∀ k, k < N → parseFieldDescriptor (T k).2.2.1 = some (kTyp c k)) ∧ (∀ a, a < N → ∀ b, b < N → a ≠ b → (T a).2.1 ≠ (T b).2.1)
theorem kob {c : Nat} {C : String} {T : u_T} {N : Nat} (h : kCl[c]? = some (C, T, N)) : kOb c C T N := by
  match c, h with
  | 0, h => cases h; exact ⟨kic0, kto0, kn0⟩
  | 1, h => cases h; exact ⟨kic1, kto1, kn1⟩
  | 2, h => cases h; exact ⟨kic2, kto2, kn2⟩
  | 3, h => cases h; exact ⟨kic3, kto3, kn3⟩
  | 4, h => cases h; exact ⟨kic4, kto4, kn4⟩
  | 5, h => cases h; exact ⟨kic5, kto5, kn5⟩
  | 6, h => cases h; exact ⟨kic6, kto6, kn6⟩
  | 7, h => cases h; exact ⟨kic7, kto7, kn7⟩
  | 8, h => cases h; exact ⟨kic8, kto8, kn8⟩
  | 9, h => cases h; exact ⟨kic9, kto9, kn9⟩
  | 10, h => cases h; exact ⟨kic10, kto10, kn10⟩
  | 11, h => cases h; exact ⟨kic11, kto11, kn11⟩
  | c + 12, h => simp [kCl] at h
theorem ksh : ∀ q ∈ kSH, q.1 = 0 → (kCl[q.2.1]?).map (fun r => r.2.2) = some q.2.2 := by decide +kernel
theorem kshN {k c n N : Nat} {C : String} {T : u_T} (hs : kSH[k]? = some (0, c, n)) (hc : kCl[c]? = some (C, T, N)) : n = N := by
  have h := ksh _ (List.mem_of_getElem? hs) rfl
  rw [show (0, c, n).2.1 = c from rfl, hc] at h
  exact (Option.some.inj h).symm
/-- entry idx of own's pool names place j of kind c -/
def kFl (own : String) (idx c j : Nat) : Prop := ∃ (C : String) (T : u_T) (N : Nat), kCl[c]? = some (C, T, N) ∧ j < N ∧ Cond.fieldLink own idx C (T j).2.1 (T j).2.2.1 ∈ kT ∧ (T j).1 = C
def kFin (c j : Nat) : Bool := match kCl[c]? with
  | some q => (q.2.1 j).2.2.2
  | none => true
/-- a call: own's entry idx is the method M' of n numbers -/
def kCy (M : kM) (n : Nat) : Prop := M.1.cls ≠ "java/lang/invoke/MethodHandle" ∧ M.1.cls ≠ "java/lang/invoke/VarHandle" ∧ (parseMethodDescriptor M.1.desc).map (fun d => d.parameters.length) = some n
def kCv (own : String) (idx : Nat) (M : kM) (n : Nat) : Prop := Cond.methodLink own idx M.1 ∈ kT ∧ Cond.instanceMethod M.1 ∈ kT ∧ Cond.selects M.1.cls M.1 M.1 ∈ kT ∧ Cond.initialized M.1.cls ∈ kT ∧ kcode M ∈ kT ∧ kCy M n
def kCs (own : String) (idx : Nat) (M : kM) (n : Nat) : Prop := Cond.methodLink own idx M.1 ∈ kT ∧ Cond.static M.1 ∈ kT ∧ Cond.initialized M.1.cls ∈ kT ∧ kcode M ∈ kT ∧ kCy M n
def kCn (own host : String) (idx : Nat) (M : kM) (n : Nat) : Prop := Cond.methodLinkNest own idx M.1 host ∈ kNl ∧ Cond.static M.1 ∈ kT ∧ Cond.initialized M.1.cls ∈ kT ∧ kcode M ∈ kT ∧ kCy M n
theorem kf5_42 : kFl kR5 42 5 0 := ⟨_, _, _, rfl, by decide, kin1 38 (by decide +kernel) rfl, rfl⟩
theorem kf9_33 : kFl kR9 33 5 0 := ⟨_, _, _, rfl, by decide, kin1 39 (by decide +kernel) rfl, rfl⟩
theorem kf10_163 : kFl kR10 163 5 0 := ⟨_, _, _, rfl, by decide, kin1 40 (by decide +kernel) rfl, rfl⟩
theorem kf7_141 : kFl kR7 141 5 0 := ⟨_, _, _, rfl, by decide, kin1 41 (by decide +kernel) rfl, rfl⟩
theorem kf5_46 : kFl kR5 46 5 1 := ⟨_, _, _, rfl, by decide, kin1 42 (by decide +kernel) rfl, rfl⟩
theorem kf7_145 : kFl kR7 145 5 1 := ⟨_, _, _, rfl, by decide, kin1 43 (by decide +kernel) rfl, rfl⟩
theorem kf10_372 : kFl kR10 372 5 1 := ⟨_, _, _, rfl, by decide, kin1 44 (by decide +kernel) rfl, rfl⟩
theorem kf1_32 : kFl kR1 32 5 2 := ⟨_, _, _, rfl, by decide, kin1 45 (by decide +kernel) rfl, rfl⟩
theorem kf5_49 : kFl kR5 49 5 2 := ⟨_, _, _, rfl, by decide, kin1 46 (by decide +kernel) rfl, rfl⟩
theorem kf7_67 : kFl kR7 67 5 2 := ⟨_, _, _, rfl, by decide, kin1 47 (by decide +kernel) rfl, rfl⟩
theorem kf10_112 : kFl kR10 112 5 2 := ⟨_, _, _, rfl, by decide, kin1 48 (by decide +kernel) rfl, rfl⟩
theorem kf5_52 : kFl kR5 52 5 3 := ⟨_, _, _, rfl, by decide, kin1 49 (by decide +kernel) rfl, rfl⟩
theorem kf7_186 : kFl kR7 186 5 3 := ⟨_, _, _, rfl, by decide, kin1 50 (by decide +kernel) rfl, rfl⟩
theorem kf5_55 : kFl kR5 55 5 4 := ⟨_, _, _, rfl, by decide, kin1 51 (by decide +kernel) rfl, rfl⟩
theorem kf7_189 : kFl kR7 189 5 4 := ⟨_, _, _, rfl, by decide, kin1 52 (by decide +kernel) rfl, rfl⟩
theorem kf5_58 : kFl kR5 58 5 5 := ⟨_, _, _, rfl, by decide, kin1 53 (by decide +kernel) rfl, rfl⟩
theorem kf1_48 : kFl kR1 48 5 5 := ⟨_, _, _, rfl, by decide, kin1 54 (by decide +kernel) rfl, rfl⟩
theorem kf7_195 : kFl kR7 195 5 5 := ⟨_, _, _, rfl, by decide, kin1 55 (by decide +kernel) rfl, rfl⟩
theorem kf10_271 : kFl kR10 271 5 5 := ⟨_, _, _, rfl, by decide, kin1 56 (by decide +kernel) rfl, rfl⟩
theorem kf5_61 : kFl kR5 61 5 6 := ⟨_, _, _, rfl, by decide, kin1 57 (by decide +kernel) rfl, rfl⟩
theorem kf1_61 : kFl kR1 61 5 6 := ⟨_, _, _, rfl, by decide, kin1 58 (by decide +kernel) rfl, rfl⟩
theorem kf7_207 : kFl kR7 207 5 6 := ⟨_, _, _, rfl, by decide, kin1 59 (by decide +kernel) rfl, rfl⟩
theorem kf10_280 : kFl kR10 280 5 6 := ⟨_, _, _, rfl, by decide, kin1 60 (by decide +kernel) rfl, rfl⟩
theorem kf5_9 : kFl kR5 9 5 7 := ⟨_, _, _, rfl, by decide, kin1 61 (by decide +kernel) rfl, rfl⟩
theorem kf9_39 : kFl kR9 39 5 7 := ⟨_, _, _, rfl, by decide, kin1 62 (by decide +kernel) rfl, rfl⟩
theorem kf10_160 : kFl kR10 160 5 7 := ⟨_, _, _, rfl, by decide, kin1 63 (by decide +kernel) rfl, rfl⟩
theorem kf7_162 : kFl kR7 162 5 7 := ⟨_, _, _, rfl, by decide, kin1 64 (by decide +kernel) rfl, rfl⟩
theorem kf5_15 : kFl kR5 15 5 8 := ⟨_, _, _, rfl, by decide, kin1 65 (by decide +kernel) rfl, rfl⟩
theorem kf4_25 : kFl kR4 25 5 8 := ⟨_, _, _, rfl, by decide, kin1 66 (by decide +kernel) rfl, rfl⟩
theorem kf9_52 : kFl kR9 52 5 8 := ⟨_, _, _, rfl, by decide, kin1 67 (by decide +kernel) rfl, rfl⟩
theorem kf7_170 : kFl kR7 170 5 8 := ⟨_, _, _, rfl, by decide, kin1 68 (by decide +kernel) rfl, rfl⟩
theorem kf5_18 : kFl kR5 18 5 9 := ⟨_, _, _, rfl, by decide, kin1 69 (by decide +kernel) rfl, rfl⟩
theorem kf4_34 : kFl kR4 34 5 9 := ⟨_, _, _, rfl, by decide, kin1 70 (by decide +kernel) rfl, rfl⟩
theorem kf1_41 : kFl kR1 41 5 9 := ⟨_, _, _, rfl, by decide, kin1 71 (by decide +kernel) rfl, rfl⟩
theorem kf9_45 : kFl kR9 45 5 9 := ⟨_, _, _, rfl, by decide, kin1 72 (by decide +kernel) rfl, rfl⟩
theorem kf7_175 : kFl kR7 175 5 9 := ⟨_, _, _, rfl, by decide, kin1 73 (by decide +kernel) rfl, rfl⟩
theorem kf5_21 : kFl kR5 21 5 10 := ⟨_, _, _, rfl, by decide, kin1 74 (by decide +kernel) rfl, rfl⟩
theorem kf9_46 : kFl kR9 46 5 10 := ⟨_, _, _, rfl, by decide, kin1 75 (by decide +kernel) rfl, rfl⟩
theorem kf10_169 : kFl kR10 169 5 10 := ⟨_, _, _, rfl, by decide, kin1 76 (by decide +kernel) rfl, rfl⟩
theorem kf7_181 : kFl kR7 181 5 10 := ⟨_, _, _, rfl, by decide, kin1 77 (by decide +kernel) rfl, rfl⟩
theorem kf5_24 : kFl kR5 24 5 11 := ⟨_, _, _, rfl, by decide, kin1 78 (by decide +kernel) rfl, rfl⟩
theorem kf4_35 : kFl kR4 35 5 11 := ⟨_, _, _, rfl, by decide, kin1 79 (by decide +kernel) rfl, rfl⟩
theorem kf7_192 : kFl kR7 192 5 11 := ⟨_, _, _, rfl, by decide, kin1 80 (by decide +kernel) rfl, rfl⟩
theorem kf5_27 : kFl kR5 27 5 12 := ⟨_, _, _, rfl, by decide, kin1 81 (by decide +kernel) rfl, rfl⟩
theorem kf1_51 : kFl kR1 51 5 12 := ⟨_, _, _, rfl, by decide, kin1 82 (by decide +kernel) rfl, rfl⟩
theorem kf7_201 : kFl kR7 201 5 12 := ⟨_, _, _, rfl, by decide, kin1 83 (by decide +kernel) rfl, rfl⟩
theorem kf5_30 : kFl kR5 30 5 13 := ⟨_, _, _, rfl, by decide, kin1 84 (by decide +kernel) rfl, rfl⟩
theorem kf1_54 : kFl kR1 54 5 13 := ⟨_, _, _, rfl, by decide, kin1 85 (by decide +kernel) rfl, rfl⟩
theorem kf7_204 : kFl kR7 204 5 13 := ⟨_, _, _, rfl, by decide, kin1 86 (by decide +kernel) rfl, rfl⟩
theorem kf5_33 : kFl kR5 33 5 14 := ⟨_, _, _, rfl, by decide, kin1 87 (by decide +kernel) rfl, rfl⟩
theorem kf1_64 : kFl kR1 64 5 14 := ⟨_, _, _, rfl, by decide, kin1 88 (by decide +kernel) rfl, rfl⟩
theorem kf7_215 : kFl kR7 215 5 14 := ⟨_, _, _, rfl, by decide, kin1 89 (by decide +kernel) rfl, rfl⟩
theorem kf10_286 : kFl kR10 286 5 14 := ⟨_, _, _, rfl, by decide, kin1 90 (by decide +kernel) rfl, rfl⟩
theorem kf5_36 : kFl kR5 36 5 15 := ⟨_, _, _, rfl, by decide, kin1 91 (by decide +kernel) rfl, rfl⟩
theorem kf1_74 : kFl kR1 74 5 15 := ⟨_, _, _, rfl, by decide, kin1 92 (by decide +kernel) rfl, rfl⟩
theorem kf7_218 : kFl kR7 218 5 15 := ⟨_, _, _, rfl, by decide, kin1 93 (by decide +kernel) rfl, rfl⟩
theorem kf10_293 : kFl kR10 293 5 15 := ⟨_, _, _, rfl, by decide, kin1 94 (by decide +kernel) rfl, rfl⟩
theorem kf5_39 : kFl kR5 39 5 16 := ⟨_, _, _, rfl, by decide, kin1 95 (by decide +kernel) rfl, rfl⟩
theorem kf1_84 : kFl kR1 84 5 16 := ⟨_, _, _, rfl, by decide, kin1 96 (by decide +kernel) rfl, rfl⟩
theorem kf7_221 : kFl kR7 221 5 16 := ⟨_, _, _, rfl, by decide, kin1 97 (by decide +kernel) rfl, rfl⟩
theorem kf10_296 : kFl kR10 296 5 16 := ⟨_, _, _, rfl, by decide, kin1 98 (by decide +kernel) rfl, rfl⟩
theorem kf7_18 : kFl kR7 18 7 0 := ⟨_, _, _, rfl, by decide, kin1 142 (by decide +kernel) rfl, rfl⟩
theorem kf7_37 : kFl kR7 37 7 1 := ⟨_, _, _, rfl, by decide, kin1 143 (by decide +kernel) rfl, rfl⟩
theorem kf7_41 : kFl kR7 41 7 2 := ⟨_, _, _, rfl, by decide, kin1 144 (by decide +kernel) rfl, rfl⟩
theorem kf7_57 : kFl kR7 57 7 3 := ⟨_, _, _, rfl, by decide, kin1 145 (by decide +kernel) rfl, rfl⟩
theorem kf7_70 : kFl kR7 70 7 4 := ⟨_, _, _, rfl, by decide, kin1 146 (by decide +kernel) rfl, rfl⟩
theorem kf7_85 : kFl kR7 85 7 5 := ⟨_, _, _, rfl, by decide, kin1 147 (by decide +kernel) rfl, rfl⟩
theorem kf7_22 : kFl kR7 22 7 6 := ⟨_, _, _, rfl, by decide, kin1 148 (by decide +kernel) rfl, rfl⟩
theorem kf7_9 : kFl kR7 9 7 7 := ⟨_, _, _, rfl, by decide, kin1 149 (by decide +kernel) rfl, rfl⟩
theorem kf7_15 : kFl kR7 15 7 8 := ⟨_, _, _, rfl, by decide, kin1 150 (by decide +kernel) rfl, rfl⟩
theorem kf7_44 : kFl kR7 44 7 9 := ⟨_, _, _, rfl, by decide, kin1 151 (by decide +kernel) rfl, rfl⟩
theorem kf10_148 : kFl kR10 148 7 9 := ⟨_, _, _, rfl, by decide, kin1 152 (by decide +kernel) rfl, rfl⟩
theorem kf7_47 : kFl kR7 47 7 10 := ⟨_, _, _, rfl, by decide, kin1 153 (by decide +kernel) rfl, rfl⟩
theorem kf10_151 : kFl kR10 151 7 10 := ⟨_, _, _, rfl, by decide, kin1 154 (by decide +kernel) rfl, rfl⟩
theorem kf4_21 : kFl kR4 21 4 0 := ⟨_, _, _, rfl, by decide, kin1 184 (by decide +kernel) rfl, rfl⟩
theorem kf9_29 : kFl kR9 29 4 0 := ⟨_, _, _, rfl, by decide, kin1 185 (by decide +kernel) rfl, rfl⟩
theorem kf10_383 : kFl kR10 383 4 0 := ⟨_, _, _, rfl, by decide, kin1 186 (by decide +kernel) rfl, rfl⟩
theorem kf4_11 : kFl kR4 11 4 1 := ⟨_, _, _, rfl, by decide, kin1 187 (by decide +kernel) rfl, rfl⟩
theorem kf9_23 : kFl kR9 23 4 1 := ⟨_, _, _, rfl, by decide, kin1 188 (by decide +kernel) rfl, rfl⟩
theorem kf10_157 : kFl kR10 157 4 1 := ⟨_, _, _, rfl, by decide, kin1 189 (by decide +kernel) rfl, rfl⟩
theorem kf4_15 : kFl kR4 15 4 2 := ⟨_, _, _, rfl, by decide, kin1 190 (by decide +kernel) rfl, rfl⟩
theorem kf9_13 : kFl kR9 13 4 2 := ⟨_, _, _, rfl, by decide, kin1 191 (by decide +kernel) rfl, rfl⟩
theorem kf10_166 : kFl kR10 166 4 2 := ⟨_, _, _, rfl, by decide, kin1 192 (by decide +kernel) rfl, rfl⟩
theorem kf4_18 : kFl kR4 18 4 3 := ⟨_, _, _, rfl, by decide, kin1 193 (by decide +kernel) rfl, rfl⟩
theorem kf0_37 : kFl kR0 37 4 3 := ⟨_, _, _, rfl, by decide, kin1 194 (by decide +kernel) rfl, rfl⟩
theorem kf10_299 : kFl kR10 299 4 3 := ⟨_, _, _, rfl, by decide, kin1 195 (by decide +kernel) rfl, rfl⟩
theorem kf3_13 : kFl kR3 13 3 0 := ⟨_, _, _, rfl, by decide, kin1 213 (by decide +kernel) rfl, rfl⟩
theorem kf3_22 : kFl kR3 22 3 1 := ⟨_, _, _, rfl, by decide, kin1 214 (by decide +kernel) rfl, rfl⟩
theorem kf3_18 : kFl kR3 18 3 2 := ⟨_, _, _, rfl, by decide, kin1 215 (by decide +kernel) rfl, rfl⟩
theorem kf10_399 : kFl kR10 399 3 2 := ⟨_, _, _, rfl, by decide, kin1 216 (by decide +kernel) rfl, rfl⟩
theorem kf9_38 : kFl kR9 38 9 0 := ⟨_, _, _, rfl, by decide, kin1 231 (by decide +kernel) rfl, rfl⟩
theorem kf9_42 : kFl kR9 42 9 1 := ⟨_, _, _, rfl, by decide, kin1 232 (by decide +kernel) rfl, rfl⟩
theorem kf9_19 : kFl kR9 19 9 2 := ⟨_, _, _, rfl, by decide, kin1 233 (by decide +kernel) rfl, rfl⟩
theorem kf1_71 : kFl kR1 71 9 2 := ⟨_, _, _, rfl, by decide, kin1 234 (by decide +kernel) rfl, rfl⟩
theorem kf10_250 : kFl kR10 250 9 2 := ⟨_, _, _, rfl, by decide, kin1 235 (by decide +kernel) rfl, rfl⟩
theorem kf8_52 : kFl kR8 52 9 3 := ⟨_, _, _, rfl, by decide, kin1 236 (by decide +kernel) rfl, rfl⟩
theorem kf9_49 : kFl kR9 49 9 3 := ⟨_, _, _, rfl, by decide, kin1 237 (by decide +kernel) rfl, rfl⟩
theorem kf10_240 : kFl kR10 240 9 3 := ⟨_, _, _, rfl, by decide, kin1 238 (by decide +kernel) rfl, rfl⟩
theorem kf9_26 : kFl kR9 26 9 4 := ⟨_, _, _, rfl, by decide, kin1 239 (by decide +kernel) rfl, rfl⟩
theorem kf8_28 : kFl kR8 28 9 4 := ⟨_, _, _, rfl, by decide, kin2 0 (by decide +kernel) rfl, rfl⟩
theorem kf1_81 : kFl kR1 81 9 4 := ⟨_, _, _, rfl, by decide, kin2 1 (by decide +kernel) rfl, rfl⟩
theorem kf10_181 : kFl kR10 181 9 4 := ⟨_, _, _, rfl, by decide, kin2 2 (by decide +kernel) rfl, rfl⟩
theorem kf9_32 : kFl kR9 32 9 5 := ⟨_, _, _, rfl, by decide, kin2 3 (by decide +kernel) rfl, rfl⟩
theorem kf8_55 : kFl kR8 55 9 5 := ⟨_, _, _, rfl, by decide, kin2 4 (by decide +kernel) rfl, rfl⟩
theorem kf8_11 : kFl kR8 11 8 0 := ⟨_, _, _, rfl, by decide, kin2 24 (by decide +kernel) rfl, rfl⟩
theorem kf8_15 : kFl kR8 15 8 1 := ⟨_, _, _, rfl, by decide, kin2 25 (by decide +kernel) rfl, rfl⟩
theorem kf8_43 : kFl kR8 43 8 2 := ⟨_, _, _, rfl, by decide, kin2 26 (by decide +kernel) rfl, rfl⟩
theorem kf10_204 : kFl kR10 204 8 2 := ⟨_, _, _, rfl, by decide, kin2 27 (by decide +kernel) rfl, rfl⟩
theorem kf8_46 : kFl kR8 46 8 3 := ⟨_, _, _, rfl, by decide, kin2 28 (by decide +kernel) rfl, rfl⟩
theorem kf10_207 : kFl kR10 207 8 3 := ⟨_, _, _, rfl, by decide, kin2 29 (by decide +kernel) rfl, rfl⟩
theorem kf1_12 : kFl kR1 12 1 0 := ⟨_, _, _, rfl, by decide, kin2 47 (by decide +kernel) rfl, rfl⟩
theorem kf1_18 : kFl kR1 18 1 1 := ⟨_, _, _, rfl, by decide, kin2 48 (by decide +kernel) rfl, rfl⟩
theorem kf1_22 : kFl kR1 22 1 2 := ⟨_, _, _, rfl, by decide, kin2 49 (by decide +kernel) rfl, rfl⟩
theorem kf1_25 : kFl kR1 25 1 3 := ⟨_, _, _, rfl, by decide, kin2 50 (by decide +kernel) rfl, rfl⟩
theorem kf10_262 : kFl kR10 262 1 3 := ⟨_, _, _, rfl, by decide, kin2 51 (by decide +kernel) rfl, rfl⟩
theorem kf1_28 : kFl kR1 28 1 4 := ⟨_, _, _, rfl, by decide, kin2 52 (by decide +kernel) rfl, rfl⟩
theorem kf10_259 : kFl kR10 259 1 4 := ⟨_, _, _, rfl, by decide, kin2 53 (by decide +kernel) rfl, rfl⟩
theorem kf0_33 : kFl kR0 33 0 0 := ⟨_, _, _, rfl, by decide, kin2 71 (by decide +kernel) rfl, rfl⟩
theorem kf0_9 : kFl kR0 9 0 1 := ⟨_, _, _, rfl, by decide, kin2 72 (by decide +kernel) rfl, rfl⟩
theorem kf10_307 : kFl kR10 307 0 1 := ⟨_, _, _, rfl, by decide, kin2 73 (by decide +kernel) rfl, rfl⟩
theorem kf0_15 : kFl kR0 15 0 2 := ⟨_, _, _, rfl, by decide, kin2 74 (by decide +kernel) rfl, rfl⟩
theorem kf0_18 : kFl kR0 18 0 3 := ⟨_, _, _, rfl, by decide, kin2 75 (by decide +kernel) rfl, rfl⟩
theorem kf0_21 : kFl kR0 21 0 4 := ⟨_, _, _, rfl, by decide, kin2 76 (by decide +kernel) rfl, rfl⟩
theorem kf0_24 : kFl kR0 24 0 5 := ⟨_, _, _, rfl, by decide, kin2 77 (by decide +kernel) rfl, rfl⟩
theorem kf10_323 : kFl kR10 323 0 5 := ⟨_, _, _, rfl, by decide, kin2 78 (by decide +kernel) rfl, rfl⟩
theorem kf0_45 : kFl kR0 45 0 6 := ⟨_, _, _, rfl, by decide, kin2 79 (by decide +kernel) rfl, rfl⟩
theorem kf10_320 : kFl kR10 320 0 6 := ⟨_, _, _, rfl, by decide, kin2 80 (by decide +kernel) rfl, rfl⟩
theorem kf2_9 : kFl kR2 9 2 0 := ⟨_, _, _, rfl, by decide, kin2 102 (by decide +kernel) rfl, rfl⟩
theorem kf10_360 : kFl kR10 360 2 0 := ⟨_, _, _, rfl, by decide, kin2 103 (by decide +kernel) rfl, rfl⟩
theorem kf2_19 : kFl kR2 19 2 1 := ⟨_, _, _, rfl, by decide, kin2 104 (by decide +kernel) rfl, rfl⟩
theorem kf10_342 : kFl kR10 342 2 1 := ⟨_, _, _, rfl, by decide, kin2 105 (by decide +kernel) rfl, rfl⟩
theorem kf2_15 : kFl kR2 15 2 2 := ⟨_, _, _, rfl, by decide, kin2 106 (by decide +kernel) rfl, rfl⟩
theorem kf10_345 : kFl kR10 345 2 2 := ⟨_, _, _, rfl, by decide, kin2 107 (by decide +kernel) rfl, rfl⟩
theorem kf6_7 : kFl kR6 7 6 0 := ⟨_, _, _, rfl, by decide, kin2 121 (by decide +kernel) rfl, rfl⟩
theorem kf6_13 : kFl kR6 13 6 1 := ⟨_, _, _, rfl, by decide, kin2 122 (by decide +kernel) rfl, rfl⟩
theorem kf10_9 : kFl kR10 9 10 0 := ⟨_, _, _, rfl, by decide, kin2 128 (by decide +kernel) rfl, rfl⟩
theorem kf10_119 : kFl kR10 119 10 1 := ⟨_, _, _, rfl, by decide, kin2 129 (by decide +kernel) rfl, rfl⟩
theorem kf10_16 : kFl kR10 16 10 2 := ⟨_, _, _, rfl, by decide, kin2 130 (by decide +kernel) rfl, rfl⟩
theorem kf10_20 : kFl kR10 20 10 3 := ⟨_, _, _, rfl, by decide, kin2 131 (by decide +kernel) rfl, rfl⟩
theorem kf10_28 : kFl kR10 28 10 4 := ⟨_, _, _, rfl, by decide, kin2 132 (by decide +kernel) rfl, rfl⟩
theorem kf10_108 : kFl kR10 108 10 5 := ⟨_, _, _, rfl, by decide, kin2 133 (by decide +kernel) rfl, rfl⟩
theorem kf10_35 : kFl kR10 35 10 6 := ⟨_, _, _, rfl, by decide, kin2 134 (by decide +kernel) rfl, rfl⟩
theorem kf10_42 : kFl kR10 42 10 7 := ⟨_, _, _, rfl, by decide, kin2 135 (by decide +kernel) rfl, rfl⟩
theorem kf10_48 : kFl kR10 48 10 8 := ⟨_, _, _, rfl, by decide, kin2 136 (by decide +kernel) rfl, rfl⟩
theorem kf10_145 : kFl kR10 145 10 9 := ⟨_, _, _, rfl, by decide, kin2 137 (by decide +kernel) rfl, rfl⟩
theorem kf10_54 : kFl kR10 54 10 10 := ⟨_, _, _, rfl, by decide, kin2 138 (by decide +kernel) rfl, rfl⟩
theorem kf10_58 : kFl kR10 58 10 11 := ⟨_, _, _, rfl, by decide, kin2 139 (by decide +kernel) rfl, rfl⟩
theorem kf10_61 : kFl kR10 61 10 12 := ⟨_, _, _, rfl, by decide, kin2 140 (by decide +kernel) rfl, rfl⟩
theorem kf10_68 : kFl kR10 68 10 13 := ⟨_, _, _, rfl, by decide, kin2 141 (by decide +kernel) rfl, rfl⟩
theorem kf10_75 : kFl kR10 75 10 14 := ⟨_, _, _, rfl, by decide, kin2 142 (by decide +kernel) rfl, rfl⟩
theorem kf10_82 : kFl kR10 82 10 15 := ⟨_, _, _, rfl, by decide, kin2 143 (by decide +kernel) rfl, rfl⟩
theorem kf10_89 : kFl kR10 89 10 16 := ⟨_, _, _, rfl, by decide, kin2 144 (by decide +kernel) rfl, rfl⟩
theorem kf10_96 : kFl kR10 96 10 17 := ⟨_, _, _, rfl, by decide, kin2 145 (by decide +kernel) rfl, rfl⟩
theorem kf10_100 : kFl kR10 100 10 18 := ⟨_, _, _, rfl, by decide, kin2 146 (by decide +kernel) rfl, rfl⟩
theorem kf11_59 : kFl kR11 59 11 0 := ⟨_, _, _, rfl, by decide, kin5 232 (by decide +kernel) rfl, rfl⟩
theorem kf11_7 : kFl kR11 7 11 1 := ⟨_, _, _, rfl, by decide, kin5 233 (by decide +kernel) rfl, rfl⟩
theorem kf11_65 : kFl kR11 65 11 2 := ⟨_, _, _, rfl, by decide, kin5 234 (by decide +kernel) rfl, rfl⟩
theorem kf11_68 : kFl kR11 68 11 3 := ⟨_, _, _, rfl, by decide, kin5 235 (by decide +kernel) rfl, rfl⟩
theorem kf11_78 : kFl kR11 78 11 4 := ⟨_, _, _, rfl, by decide, kin5 236 (by decide +kernel) rfl, rfl⟩
theorem kf11_71 : kFl kR11 71 11 5 := ⟨_, _, _, rfl, by decide, kin5 237 (by decide +kernel) rfl, rfl⟩
theorem kf11_87 : kFl kR11 87 11 6 := ⟨_, _, _, rfl, by decide, kin5 238 (by decide +kernel) rfl, rfl⟩
theorem kf11_84 : kFl kR11 84 11 7 := ⟨_, _, _, rfl, by decide, kin5 239 (by decide +kernel) rfl, rfl⟩
theorem kf11_81 : kFl kR11 81 11 8 := ⟨_, _, _, rfl, by decide, kin6 0 (by decide +kernel) rfl, rfl⟩
theorem kf11_101 : kFl kR11 101 11 9 := ⟨_, _, _, rfl, by decide, kin6 1 (by decide +kernel) rfl, rfl⟩
theorem kf11_13 : kFl kR11 13 11 10 := ⟨_, _, _, rfl, by decide, kin6 2 (by decide +kernel) rfl, rfl⟩
theorem kf11_62 : kFl kR11 62 11 11 := ⟨_, _, _, rfl, by decide, kin6 3 (by decide +kernel) rfl, rfl⟩
theorem kf11_17 : kFl kR11 17 11 12 := ⟨_, _, _, rfl, by decide, kin6 4 (by decide +kernel) rfl, rfl⟩
theorem kf11_97 : kFl kR11 97 11 13 := ⟨_, _, _, rfl, by decide, kin6 5 (by decide +kernel) rfl, rfl⟩
theorem kf11_177 : kFl kR11 177 11 14 := ⟨_, _, _, rfl, by decide, kin6 6 (by decide +kernel) rfl, rfl⟩
theorem kf11_20 : kFl kR11 20 11 15 := ⟨_, _, _, rfl, by decide, kin6 7 (by decide +kernel) rfl, rfl⟩
theorem kf11_23 : kFl kR11 23 11 16 := ⟨_, _, _, rfl, by decide, kin6 8 (by decide +kernel) rfl, rfl⟩
theorem kf11_26 : kFl kR11 26 11 17 := ⟨_, _, _, rfl, by decide, kin6 9 (by decide +kernel) rfl, rfl⟩
theorem kf11_29 : kFl kR11 29 11 18 := ⟨_, _, _, rfl, by decide, kin6 10 (by decide +kernel) rfl, rfl⟩
theorem kf11_32 : kFl kR11 32 11 19 := ⟨_, _, _, rfl, by decide, kin6 11 (by decide +kernel) rfl, rfl⟩
theorem kf11_35 : kFl kR11 35 11 20 := ⟨_, _, _, rfl, by decide, kin6 12 (by decide +kernel) rfl, rfl⟩
theorem kf11_38 : kFl kR11 38 11 21 := ⟨_, _, _, rfl, by decide, kin6 13 (by decide +kernel) rfl, rfl⟩
theorem kf11_180 : kFl kR11 180 11 22 := ⟨_, _, _, rfl, by decide, kin6 14 (by decide +kernel) rfl, rfl⟩
theorem kf11_183 : kFl kR11 183 11 23 := ⟨_, _, _, rfl, by decide, kin6 15 (by decide +kernel) rfl, rfl⟩
theorem kf11_41 : kFl kR11 41 11 24 := ⟨_, _, _, rfl, by decide, kin6 16 (by decide +kernel) rfl, rfl⟩
theorem kf11_44 : kFl kR11 44 11 25 := ⟨_, _, _, rfl, by decide, kin6 17 (by decide +kernel) rfl, rfl⟩
theorem kf11_257 : kFl kR11 257 11 26 := ⟨_, _, _, rfl, by decide, kin6 18 (by decide +kernel) rfl, rfl⟩
theorem kf11_260 : kFl kR11 260 11 27 := ⟨_, _, _, rfl, by decide, kin6 19 (by decide +kernel) rfl, rfl⟩
theorem kf11_269 : kFl kR11 269 11 28 := ⟨_, _, _, rfl, by decide, kin6 20 (by decide +kernel) rfl, rfl⟩
theorem kf11_263 : kFl kR11 263 11 29 := ⟨_, _, _, rfl, by decide, kin6 21 (by decide +kernel) rfl, rfl⟩
theorem kf11_47 : kFl kR11 47 11 30 := ⟨_, _, _, rfl, by decide, kin6 22 (by decide +kernel) rfl, rfl⟩
theorem kf11_315 : kFl kR11 315 11 31 := ⟨_, _, _, rfl, by decide, kin6 23 (by decide +kernel) rfl, rfl⟩
theorem kf11_318 : kFl kR11 318 11 32 := ⟨_, _, _, rfl, by decide, kin6 24 (by decide +kernel) rfl, rfl⟩
theorem kf11_321 : kFl kR11 321 11 33 := ⟨_, _, _, rfl, by decide, kin6 25 (by decide +kernel) rfl, rfl⟩
theorem kf11_50 : kFl kR11 50 11 34 := ⟨_, _, _, rfl, by decide, kin6 26 (by decide +kernel) rfl, rfl⟩
theorem kf11_53 : kFl kR11 53 11 35 := ⟨_, _, _, rfl, by decide, kin6 27 (by decide +kernel) rfl, rfl⟩
theorem kf11_352 : kFl kR11 352 11 36 := ⟨_, _, _, rfl, by decide, kin6 28 (by decide +kernel) rfl, rfl⟩
theorem kf11_366 : kFl kR11 366 11 37 := ⟨_, _, _, rfl, by decide, kin6 29 (by decide +kernel) rfl, rfl⟩
theorem kf11_56 : kFl kR11 56 11 38 := ⟨_, _, _, rfl, by decide, kin6 30 (by decide +kernel) rfl, rfl⟩
theorem kf11_385 : kFl kR11 385 11 39 := ⟨_, _, _, rfl, by decide, kin6 31 (by decide +kernel) rfl, rfl⟩
theorem kf11_389 : kFl kR11 389 11 40 := ⟨_, _, _, rfl, by decide, kin6 32 (by decide +kernel) rfl, rfl⟩
theorem kf11_392 : kFl kR11 392 11 41 := ⟨_, _, _, rfl, by decide, kin6 33 (by decide +kernel) rfl, rfl⟩
def mJ_abs_J9 : kM := (⟨"java/lang/Math", "abs", "(I)I"⟩, prog_18_method_59_code, 1, some .int)
def mJ_max_J9 : kM := (⟨"java/lang/Math", "max", "(II)I"⟩, prog_18_method_65_code, 2, some .int)
def mJ_min_J9 : kM := (⟨"java/lang/Math", "min", "(II)I"⟩, prog_18_method_69_code, 2, some .int)
def mJ_length_J0 : kM := (⟨"java/lang/String", "length", "()I"⟩, prog_20_method_54_code, 1, some .int)
def mJ_charAt_J0 : kM := (⟨"java/lang/String", "charAt", "(I)C"⟩, prog_20_method_56_code, 2, some .char)
def mJ_coder_J0 : kM := (⟨"java/lang/String", "code\x72", "()B"⟩, prog_20_method_152_code, 1, some .byte)
def mJ_isLatin1_J0 : kM := (⟨"java/lang/String", "isLatin1", "()Z"⟩, prog_20_method_154_code, 1, some .boolean)
def mJ_checkIndex_J0 : kM := (⟨"java/lang/String", "checkIndex", "(II)V"⟩, prog_20_method_155_code, 2, none)
def mJ_charAt_J1 : kM := (⟨"java/lang/StringLatin1", "charAt", "([BI)C"⟩, prog_21_method_2_code, 2, some .char)
def mJ_getChar_J2 : kM := (⟨"java/lang/StringUTF16", "getCha\x72", "([BI)C"⟩, prog_22_method_5_code, 2, some .char)
def mJ_length_J2 : kM := (⟨"java/lang/StringUTF16", "length", "([B)I"⟩, prog_22_method_6_code, 1, some .int)
def mJ_charAt_J2 : kM := (⟨"java/lang/StringUTF16", "charAt", "([BI)C"⟩, prog_22_method_83_code, 2, some .char)
def mJ_checkIndex_J2 : kM := (⟨"java/lang/StringUTF16", "checkIndex", "(I[B)V"⟩, prog_22_method_91_code, 2, none)
def mJ_fill_J7 : kM := (⟨"java/util/Arrays", "fill", "([II)V"⟩, prog_27_method_103_code, 4, none)
def mJ_checkIndex_J3 : kM := (⟨"jdk/internal/util/Preconditions", "checkIndex", "(IILjava/util/function/BiFunction;)I"⟩, prog_29_method_11_code, 3, some .int)
theorem kwc_m0_reckon : kcode m0_reckon ∈ kT := kin4 202 (by decide +kernel) rfl
theorem kwi_m0_reckon : Cond.initialized m0_reckon.1.cls ∈ kT := kin1 9 (by decide +kernel) rfl
theorem kwm_m0_reckon : Cond.instanceMethod m0_reckon.1 ∈ kT := kin4 200 (by decide +kernel) rfl
theorem kwl_m0_reckon : Cond.selects m0_reckon.1.cls m0_reckon.1 m0_reckon.1 ∈ kT := kin4 201 (by decide +kernel) rfl
theorem kwc_m0_owedInAll : kcode m0_owedInAll ∈ kT := kin4 211 (by decide +kernel) rfl
theorem kwi_m0_owedInAll : Cond.initialized m0_owedInAll.1.cls ∈ kT := kin1 9 (by decide +kernel) rfl
theorem kwm_m0_owedInAll : Cond.instanceMethod m0_owedInAll.1 ∈ kT := kin4 209 (by decide +kernel) rfl
theorem kwl_m0_owedInAll : Cond.selects m0_owedInAll.1.cls m0_owedInAll.1 m0_owedInAll.1 ∈ kT := kin4 210 (by decide +kernel) rfl
theorem kwc_m0_fewestPayments : kcode m0_fewestPayments ∈ kT := kin4 224 (by decide +kernel) rfl
theorem kwi_m0_fewestPayments : Cond.initialized m0_fewestPayments.1.cls ∈ kT := kin1 9 (by decide +kernel) rfl
theorem kwm_m0_fewestPayments : Cond.instanceMethod m0_fewestPayments.1 ∈ kT := kin4 222 (by decide +kernel) rfl
theorem kwl_m0_fewestPayments : Cond.selects m0_fewestPayments.1.cls m0_fewestPayments.1 m0_fewestPayments.1 ∈ kT := kin4 223 (by decide +kernel) rfl
theorem kwc_m0_findRing : kcode m0_findRing ∈ kT := kin4 232 (by decide +kernel) rfl
theorem kwi_m0_findRing : Cond.initialized m0_findRing.1.cls ∈ kT := kin1 9 (by decide +kernel) rfl
theorem kwm_m0_findRing : Cond.instanceMethod m0_findRing.1 ∈ kT := kin4 230 (by decide +kernel) rfl
theorem kwl_m0_findRing : Cond.selects m0_findRing.1.cls m0_findRing.1 m0_findRing.1 ∈ kT := kin4 231 (by decide +kernel) rfl
theorem kwc_m0_countDebtsHome : kcode m0_countDebtsHome ∈ kT := kin4 236 (by decide +kernel) rfl
theorem kwi_m0_countDebtsHome : Cond.initialized m0_countDebtsHome.1.cls ∈ kT := kin1 9 (by decide +kernel) rfl
theorem kwm_m0_countDebtsHome : Cond.instanceMethod m0_countDebtsHome.1 ∈ kT := kin4 235 (by decide +kernel) rfl
theorem kwl_m0_countDebtsHome : Cond.selects m0_countDebtsHome.1.cls m0_countDebtsHome.1 m0_countDebtsHome.1 ∈ kT := kinS 39 (by decide +kernel) rfl
theorem kwc_m0_fewestDebtsBehind : kcode m0_fewestDebtsBehind ∈ kT := kin5 1 (by decide +kernel) rfl
theorem kwi_m0_fewestDebtsBehind : Cond.initialized m0_fewestDebtsBehind.1.cls ∈ kT := kin1 9 (by decide +kernel) rfl
theorem kwm_m0_fewestDebtsBehind : Cond.instanceMethod m0_fewestDebtsBehind.1 ∈ kT := kin5 0 (by decide +kernel) rfl
theorem kwl_m0_fewestDebtsBehind : Cond.selects m0_fewestDebtsBehind.1.cls m0_fewestDebtsBehind.1 m0_fewestDebtsBehind.1 ∈ kT := kinS 40 (by decide +kernel) rfl
theorem kwc_m0_firstNext : kcode m0_firstNext ∈ kT := kin5 5 (by decide +kernel) rfl
theorem kwi_m0_firstNext : Cond.initialized m0_firstNext.1.cls ∈ kT := kin1 9 (by decide +kernel) rfl
theorem kwm_m0_firstNext : Cond.instanceMethod m0_firstNext.1 ∈ kT := kin5 4 (by decide +kernel) rfl
theorem kwl_m0_firstNext : Cond.selects m0_firstNext.1.cls m0_firstNext.1 m0_firstNext.1 ∈ kT := kinS 41 (by decide +kernel) rfl
theorem kwc_m1_find : kcode m1_find ∈ kT := kin4 127 (by decide +kernel) rfl
theorem kwi_m1_find : Cond.initialized m1_find.1.cls ∈ kT := kin1 8 (by decide +kernel) rfl
theorem kwm_m1_find : Cond.instanceMethod m1_find.1 ∈ kT := kin4 125 (by decide +kernel) rfl
theorem kwl_m1_find : Cond.selects m1_find.1.cls m1_find.1 m1_find.1 ∈ kT := kin4 126 (by decide +kernel) rfl
theorem kwc_m1_fitsHeard : kcode m1_fitsHeard ∈ kT := kin4 132 (by decide +kernel) rfl
theorem kwi_m1_fitsHeard : Cond.initialized m1_fitsHeard.1.cls ∈ kT := kin1 8 (by decide +kernel) rfl
theorem kwm_m1_fitsHeard : Cond.instanceMethod m1_fitsHeard.1 ∈ kT := kin4 131 (by decide +kernel) rfl
theorem kwl_m1_fitsHeard : Cond.selects m1_fitsHeard.1.cls m1_fitsHeard.1 m1_fitsHeard.1 ∈ kT := kinS 36 (by decide +kernel) rfl
theorem kwc_m1_isFit : kcode m1_isFit ∈ kT := kin4 138 (by decide +kernel) rfl
theorem kwi_m1_isFit : Cond.initialized m1_isFit.1.cls ∈ kT := kin1 8 (by decide +kernel) rfl
theorem kwm_m1_isFit : Cond.instanceMethod m1_isFit.1 ∈ kT := kin4 137 (by decide +kernel) rfl
theorem kwl_m1_isFit : Cond.selects m1_isFit.1.cls m1_isFit.1 m1_isFit.1 ∈ kT := kinS 37 (by decide +kernel) rfl
theorem kwc_m1_inSome : kcode m1_inSome ∈ kT := kin4 150 (by decide +kernel) rfl
theorem kwi_m1_inSome : Cond.initialized m1_inSome.1.cls ∈ kT := kin1 8 (by decide +kernel) rfl
theorem kwm_m1_inSome : Cond.instanceMethod m1_inSome.1 ∈ kT := kin4 148 (by decide +kernel) rfl
theorem kwl_m1_inSome : Cond.selects m1_inSome.1.cls m1_inSome.1 m1_inSome.1 ∈ kT := kin4 149 (by decide +kernel) rfl
theorem kwc_m1_inAll : kcode m1_inAll ∈ kT := kin4 158 (by decide +kernel) rfl
theorem kwi_m1_inAll : Cond.initialized m1_inAll.1.cls ∈ kT := kin1 8 (by decide +kernel) rfl
theorem kwm_m1_inAll : Cond.instanceMethod m1_inAll.1 ∈ kT := kin4 156 (by decide +kernel) rfl
theorem kwl_m1_inAll : Cond.selects m1_inAll.1.cls m1_inAll.1 m1_inAll.1 ∈ kT := kin4 157 (by decide +kernel) rfl
theorem kwc_m1_leftAtMost : kcode m1_leftAtMost ∈ kT := kin4 170 (by decide +kernel) rfl
theorem kwi_m1_leftAtMost : Cond.initialized m1_leftAtMost.1.cls ∈ kT := kin1 8 (by decide +kernel) rfl
theorem kwm_m1_leftAtMost : Cond.instanceMethod m1_leftAtMost.1 ∈ kT := kin4 168 (by decide +kernel) rfl
theorem kwl_m1_leftAtMost : Cond.selects m1_leftAtMost.1.cls m1_leftAtMost.1 m1_leftAtMost.1 ∈ kT := kin4 169 (by decide +kernel) rfl
theorem kwc_m1_bestQuestion : kcode m1_bestQuestion ∈ kT := kin4 166 (by decide +kernel) rfl
theorem kwi_m1_bestQuestion : Cond.initialized m1_bestQuestion.1.cls ∈ kT := kin1 8 (by decide +kernel) rfl
theorem kwm_m1_bestQuestion : Cond.instanceMethod m1_bestQuestion.1 ∈ kT := kin4 164 (by decide +kernel) rfl
theorem kwl_m1_bestQuestion : Cond.selects m1_bestQuestion.1.cls m1_bestQuestion.1 m1_bestQuestion.1 ∈ kT := kin4 165 (by decide +kernel) rfl
theorem kwc_m2_reckon : kcode m2_reckon ∈ kT := kin5 39 (by decide +kernel) rfl
theorem kwi_m2_reckon : Cond.initialized m2_reckon.1.cls ∈ kT := kin1 10 (by decide +kernel) rfl
theorem kwm_m2_reckon : Cond.instanceMethod m2_reckon.1 ∈ kT := kin5 37 (by decide +kernel) rfl
theorem kwl_m2_reckon : Cond.selects m2_reckon.1.cls m2_reckon.1 m2_reckon.1 ∈ kT := kin5 38 (by decide +kernel) rfl
theorem kwc_m2_lookBy : kcode m2_lookBy ∈ kT := kin5 43 (by decide +kernel) rfl
theorem kwi_m2_lookBy : Cond.initialized m2_lookBy.1.cls ∈ kT := kin1 10 (by decide +kernel) rfl
theorem kwm_m2_lookBy : Cond.instanceMethod m2_lookBy.1 ∈ kT := kin5 42 (by decide +kernel) rfl
theorem kwl_m2_lookBy : Cond.selects m2_lookBy.1.cls m2_lookBy.1 m2_lookBy.1 ∈ kT := kinS 42 (by decide +kernel) rfl
theorem kwc_m2_look : kcode m2_look ∈ kT := kin5 62 (by decide +kernel) rfl
theorem kwi_m2_look : Cond.initialized m2_look.1.cls ∈ kT := kin1 10 (by decide +kernel) rfl
theorem kwm_m2_look : Cond.instanceMethod m2_look.1 ∈ kT := kin5 60 (by decide +kernel) rfl
theorem kwl_m2_look : Cond.selects m2_look.1.cls m2_look.1 m2_look.1 ∈ kT := kin5 61 (by decide +kernel) rfl
theorem kwc_m3_forget : kcode m3_forget ∈ kT := kin3 143 (by decide +kernel) rfl
theorem kwi_m3_forget : Cond.initialized m3_forget.1.cls ∈ kT := kin1 5 (by decide +kernel) rfl
theorem kwm_m3_forget : Cond.instanceMethod m3_forget.1 ∈ kT := kin3 141 (by decide +kernel) rfl
theorem kwl_m3_forget : Cond.selects m3_forget.1.cls m3_forget.1 m3_forget.1 ∈ kT := kin3 142 (by decide +kernel) rfl
theorem kwc_m3_keep : kcode m3_keep ∈ kT := kin5 100 (by decide +kernel) rfl
theorem kwi_m3_keep : Cond.initialized m3_keep.1.cls ∈ kT := kin1 5 (by decide +kernel) rfl
theorem kwm_m3_keep : Cond.instanceMethod m3_keep.1 ∈ kT := kin5 98 (by decide +kernel) rfl
theorem kwl_m3_keep : Cond.selects m3_keep.1.cls m3_keep.1 m3_keep.1 ∈ kT := kin5 99 (by decide +kernel) rfl
theorem kwc_m3_takeBack : kcode m3_takeBack ∈ kT := kin5 130 (by decide +kernel) rfl
theorem kwi_m3_takeBack : Cond.initialized m3_takeBack.1.cls ∈ kT := kin1 5 (by decide +kernel) rfl
theorem kwm_m3_takeBack : Cond.instanceMethod m3_takeBack.1 ∈ kT := kin5 128 (by decide +kernel) rfl
theorem kwl_m3_takeBack : Cond.selects m3_takeBack.1.cls m3_takeBack.1 m3_takeBack.1 ∈ kT := kin5 129 (by decide +kernel) rfl
theorem kwc_m4_begin : kcode m4_begin ∈ kT := kin3 136 (by decide +kernel) rfl
theorem kwi_m4_begin : Cond.initialized m4_begin.1.cls ∈ kT := kin1 4 (by decide +kernel) rfl
theorem kwm_m4_begin : Cond.instanceMethod m4_begin.1 ∈ kT := kin3 134 (by decide +kernel) rfl
theorem kwl_m4_begin : Cond.selects m4_begin.1.cls m4_begin.1 m4_begin.1 ∈ kT := kin3 135 (by decide +kernel) rfl
theorem kwc_m4_save : kcode m4_save ∈ kT := kin5 104 (by decide +kernel) rfl
theorem kwi_m4_save : Cond.initialized m4_save.1.cls ∈ kT := kin1 4 (by decide +kernel) rfl
theorem kwm_m4_save : Cond.instanceMethod m4_save.1 ∈ kT := kin5 102 (by decide +kernel) rfl
theorem kwl_m4_save : Cond.selects m4_save.1.cls m4_save.1 m4_save.1 ∈ kT := kin5 103 (by decide +kernel) rfl
theorem kwc_m4_load : kcode m4_load ∈ kT := kin5 134 (by decide +kernel) rfl
theorem kwi_m4_load : Cond.initialized m4_load.1.cls ∈ kT := kin1 4 (by decide +kernel) rfl
theorem kwm_m4_load : Cond.instanceMethod m4_load.1 ∈ kT := kin5 132 (by decide +kernel) rfl
theorem kwl_m4_load : Cond.selects m4_load.1.cls m4_load.1 m4_load.1 ∈ kT := kin5 133 (by decide +kernel) rfl
theorem kwc_m5_clear : kcode m5_clear ∈ kT := kin2 212 (by decide +kernel) rfl
theorem kwi_m5_clear : Cond.initialized m5_clear.1.cls ∈ kT := kin1 2 (by decide +kernel) rfl
theorem kwm_m5_clear : Cond.instanceMethod m5_clear.1 ∈ kT := kin2 210 (by decide +kernel) rfl
theorem kwl_m5_clear : Cond.selects m5_clear.1.cls m5_clear.1 m5_clear.1 ∈ kT := kin2 211 (by decide +kernel) rfl
theorem kwc_m5_count : kcode m5_count ∈ kT := kin5 152 (by decide +kernel) rfl
theorem kwi_m5_count : Cond.initialized m5_count.1.cls ∈ kT := kin1 2 (by decide +kernel) rfl
theorem kwm_m5_count : Cond.instanceMethod m5_count.1 ∈ kT := kin5 150 (by decide +kernel) rfl
theorem kwl_m5_count : Cond.selects m5_count.1.cls m5_count.1 m5_count.1 ∈ kT := kin5 151 (by decide +kernel) rfl
theorem kwc_m5_isUnsure : kcode m5_isUnsure ∈ kT := kin3 123 (by decide +kernel) rfl
theorem kwi_m5_isUnsure : Cond.initialized m5_isUnsure.1.cls ∈ kT := kin1 2 (by decide +kernel) rfl
theorem kwm_m5_isUnsure : Cond.instanceMethod m5_isUnsure.1 ∈ kT := kin3 121 (by decide +kernel) rfl
theorem kwl_m5_isUnsure : Cond.selects m5_isUnsure.1.cls m5_isUnsure.1 m5_isUnsure.1 ∈ kT := kin3 122 (by decide +kernel) rfl
theorem kwc_m5_isHeard : kcode m5_isHeard ∈ kT := kin3 132 (by decide +kernel) rfl
theorem kwi_m5_isHeard : Cond.initialized m5_isHeard.1.cls ∈ kT := kin1 2 (by decide +kernel) rfl
theorem kwm_m5_isHeard : Cond.instanceMethod m5_isHeard.1 ∈ kT := kin3 130 (by decide +kernel) rfl
theorem kwl_m5_isHeard : Cond.selects m5_isHeard.1.cls m5_isHeard.1 m5_isHeard.1 ∈ kT := kin3 131 (by decide +kernel) rfl
theorem kwc_m6_reduce : kcode m6_reduce ∈ kT := kin5 49 (by decide +kernel) rfl
theorem kwi_m6_reduce : Cond.initialized m6_reduce.1.cls ∈ kT := kin1 11 (by decide +kernel) rfl
theorem kwm_m6_reduce : Cond.instanceMethod m6_reduce.1 ∈ kT := kin5 47 (by decide +kernel) rfl
theorem kwl_m6_reduce : Cond.selects m6_reduce.1.cls m6_reduce.1 m6_reduce.1 ∈ kT := kin5 48 (by decide +kernel) rfl
theorem kwc_m6_part : kcode m6_part ∈ kT := kin5 53 (by decide +kernel) rfl
theorem kwi_m6_part : Cond.initialized m6_part.1.cls ∈ kT := kin1 11 (by decide +kernel) rfl
theorem kwm_m6_part : Cond.instanceMethod m6_part.1 ∈ kT := kin5 51 (by decide +kernel) rfl
theorem kwl_m6_part : Cond.selects m6_part.1.cls m6_part.1 m6_part.1 ∈ kT := kin5 52 (by decide +kernel) rfl
theorem kwc_m7_read : kcode m7_read ∈ kT := kin2 208 (by decide +kernel) rfl
theorem kwi_m7_read : Cond.initialized m7_read.1.cls ∈ kT := kin1 3 (by decide +kernel) rfl
theorem kwm_m7_read : Cond.instanceMethod m7_read.1 ∈ kT := kin2 206 (by decide +kernel) rfl
theorem kwl_m7_read : Cond.selects m7_read.1.cls m7_read.1 m7_read.1 ∈ kT := kin2 207 (by decide +kernel) rfl
theorem kwc_m7_found : kcode m7_found ∈ kT := kin3 66 (by decide +kernel) rfl
theorem kwi_m7_found : Cond.initialized m7_found.1.cls ∈ kT := kin1 3 (by decide +kernel) rfl
theorem kwm_m7_found : Cond.instanceMethod m7_found.1 ∈ kT := kin3 65 (by decide +kernel) rfl
theorem kwl_m7_found : Cond.selects m7_found.1.cls m7_found.1 m7_found.1 ∈ kT := kinS 8 (by decide +kernel) rfl
theorem kwc_m7_next : kcode m7_next ∈ kT := kin2 222 (by decide +kernel) rfl
theorem kwi_m7_next : Cond.initialized m7_next.1.cls ∈ kT := kin1 3 (by decide +kernel) rfl
theorem kwm_m7_next : Cond.instanceMethod m7_next.1 ∈ kT := kin2 221 (by decide +kernel) rfl
theorem kwl_m7_next : Cond.selects m7_next.1.cls m7_next.1 m7_next.1 ∈ kT := kinS 2 (by decide +kernel) rfl
theorem kwc_m7_isLetter : kcode m7_isLetter ∈ kT := kin2 225 (by decide +kernel) rfl
theorem kwi_m7_isLetter : Cond.initialized m7_isLetter.1.cls ∈ kT := kin1 3 (by decide +kernel) rfl
theorem kws_m7_isLetter : Cond.static m7_isLetter.1 ∈ kT := kin2 224 (by decide +kernel) rfl
theorem kwc_m7_isDigit : kcode m7_isDigit ∈ kT := kin2 232 (by decide +kernel) rfl
theorem kwi_m7_isDigit : Cond.initialized m7_isDigit.1.cls ∈ kT := kin1 3 (by decide +kernel) rfl
theorem kws_m7_isDigit : Cond.static m7_isDigit.1 ∈ kT := kin2 231 (by decide +kernel) rfl
theorem kwc_m7_takeLetters : kcode m7_takeLetters ∈ kT := kin2 229 (by decide +kernel) rfl
theorem kwi_m7_takeLetters : Cond.initialized m7_takeLetters.1.cls ∈ kT := kin1 3 (by decide +kernel) rfl
theorem kwm_m7_takeLetters : Cond.instanceMethod m7_takeLetters.1 ∈ kT := kin2 228 (by decide +kernel) rfl
theorem kwl_m7_takeLetters : Cond.selects m7_takeLetters.1.cls m7_takeLetters.1 m7_takeLetters.1 ∈ kT := kinS 3 (by decide +kernel) rfl
theorem kwc_m7_takeDigits : kcode m7_takeDigits ∈ kT := kin2 236 (by decide +kernel) rfl
theorem kwi_m7_takeDigits : Cond.initialized m7_takeDigits.1.cls ∈ kT := kin1 3 (by decide +kernel) rfl
theorem kwm_m7_takeDigits : Cond.instanceMethod m7_takeDigits.1 ∈ kT := kin2 235 (by decide +kernel) rfl
theorem kwl_m7_takeDigits : Cond.selects m7_takeDigits.1.cls m7_takeDigits.1 m7_takeDigits.1 ∈ kT := kinS 4 (by decide +kernel) rfl
theorem kwc_m7_isWord : kcode m7_isWord ∈ kT := kin3 5 (by decide +kernel) rfl
theorem kwi_m7_isWord : Cond.initialized m7_isWord.1.cls ∈ kT := kin1 3 (by decide +kernel) rfl
theorem kwm_m7_isWord : Cond.instanceMethod m7_isWord.1 ∈ kT := kin3 4 (by decide +kernel) rfl
theorem kwl_m7_isWord : Cond.selects m7_isWord.1.cls m7_isWord.1 m7_isWord.1 ∈ kT := kinS 6 (by decide +kernel) rfl
theorem kwc_m7_isHeadOfLine : kcode m7_isHeadOfLine ∈ kT := kin3 57 (by decide +kernel) rfl
theorem kwi_m7_isHeadOfLine : Cond.initialized m7_isHeadOfLine.1.cls ∈ kT := kin1 3 (by decide +kernel) rfl
theorem kwm_m7_isHeadOfLine : Cond.instanceMethod m7_isHeadOfLine.1 ∈ kT := kin3 56 (by decide +kernel) rfl
theorem kwl_m7_isHeadOfLine : Cond.selects m7_isHeadOfLine.1.cls m7_isHeadOfLine.1 m7_isHeadOfLine.1 ∈ kT := kinS 7 (by decide +kernel) rfl
theorem kwc_m7_lawOfWord : kcode m7_lawOfWord ∈ kT := kin3 96 (by decide +kernel) rfl
theorem kwi_m7_lawOfWord : Cond.initialized m7_lawOfWord.1.cls ∈ kT := kin1 3 (by decide +kernel) rfl
theorem kwm_m7_lawOfWord : Cond.instanceMethod m7_lawOfWord.1 ∈ kT := kin3 95 (by decide +kernel) rfl
theorem kwl_m7_lawOfWord : Cond.selects m7_lawOfWord.1.cls m7_lawOfWord.1 m7_lawOfWord.1 ∈ kT := kinS 15 (by decide +kernel) rfl
theorem kwc_m7_pairOfName : kcode m7_pairOfName ∈ kT := kin3 88 (by decide +kernel) rfl
theorem kwi_m7_pairOfName : Cond.initialized m7_pairOfName.1.cls ∈ kT := kin1 3 (by decide +kernel) rfl
theorem kwm_m7_pairOfName : Cond.instanceMethod m7_pairOfName.1 ∈ kT := kin3 87 (by decide +kernel) rfl
theorem kwl_m7_pairOfName : Cond.selects m7_pairOfName.1.cls m7_pairOfName.1 m7_pairOfName.1 ∈ kT := kinS 13 (by decide +kernel) rfl
theorem kwc_m7_isSame : kcode m7_isSame ∈ kT := kin3 92 (by decide +kernel) rfl
theorem kwi_m7_isSame : Cond.initialized m7_isSame.1.cls ∈ kT := kin1 3 (by decide +kernel) rfl
theorem kwm_m7_isSame : Cond.instanceMethod m7_isSame.1 ∈ kT := kin3 91 (by decide +kernel) rfl
theorem kwl_m7_isSame : Cond.selects m7_isSame.1.cls m7_isSame.1 m7_isSame.1 ∈ kT := kinS 14 (by decide +kernel) rfl
theorem kwc_m7_takeWord : kcode m7_takeWord ∈ kT := kin3 71 (by decide +kernel) rfl
theorem kwi_m7_takeWord : Cond.initialized m7_takeWord.1.cls ∈ kT := kin1 3 (by decide +kernel) rfl
theorem kwm_m7_takeWord : Cond.instanceMethod m7_takeWord.1 ∈ kT := kin3 70 (by decide +kernel) rfl
theorem kwl_m7_takeWord : Cond.selects m7_takeWord.1.cls m7_takeWord.1 m7_takeWord.1 ∈ kT := kinS 9 (by decide +kernel) rfl
theorem kwc_m7_seesWhole : kcode m7_seesWhole ∈ kT := kin3 75 (by decide +kernel) rfl
theorem kwi_m7_seesWhole : Cond.initialized m7_seesWhole.1.cls ∈ kT := kin1 3 (by decide +kernel) rfl
theorem kwm_m7_seesWhole : Cond.instanceMethod m7_seesWhole.1 ∈ kT := kin3 74 (by decide +kernel) rfl
theorem kwl_m7_seesWhole : Cond.selects m7_seesWhole.1.cls m7_seesWhole.1 m7_seesWhole.1 ∈ kT := kinS 10 (by decide +kernel) rfl
theorem kwc_m7_seenPair : kcode m7_seenPair ∈ kT := kin3 110 (by decide +kernel) rfl
theorem kwi_m7_seenPair : Cond.initialized m7_seenPair.1.cls ∈ kT := kin1 3 (by decide +kernel) rfl
theorem kwm_m7_seenPair : Cond.instanceMethod m7_seenPair.1 ∈ kT := kin3 109 (by decide +kernel) rfl
theorem kwl_m7_seenPair : Cond.selects m7_seenPair.1.cls m7_seenPair.1 m7_seenPair.1 ∈ kT := kinS 17 (by decide +kernel) rfl
theorem kwc_m7_readHead : kcode m7_readHead ∈ kT := kin3 0 (by decide +kernel) rfl
theorem kwi_m7_readHead : Cond.initialized m7_readHead.1.cls ∈ kT := kin1 3 (by decide +kernel) rfl
theorem kwm_m7_readHead : Cond.instanceMethod m7_readHead.1 ∈ kT := kin2 239 (by decide +kernel) rfl
theorem kwl_m7_readHead : Cond.selects m7_readHead.1.cls m7_readHead.1 m7_readHead.1 ∈ kT := kinS 5 (by decide +kernel) rfl
theorem kwc_m7_readLine : kcode m7_readLine ∈ kT := kin3 80 (by decide +kernel) rfl
theorem kwi_m7_readLine : Cond.initialized m7_readLine.1.cls ∈ kT := kin1 3 (by decide +kernel) rfl
theorem kwm_m7_readLine : Cond.instanceMethod m7_readLine.1 ∈ kT := kin3 79 (by decide +kernel) rfl
theorem kwl_m7_readLine : Cond.selects m7_readLine.1.cls m7_readLine.1 m7_readLine.1 ∈ kT := kinS 11 (by decide +kernel) rfl
theorem kwc_m7_readPair : kcode m7_readPair ∈ kT := kin3 84 (by decide +kernel) rfl
theorem kwi_m7_readPair : Cond.initialized m7_readPair.1.cls ∈ kT := kin1 3 (by decide +kernel) rfl
theorem kwm_m7_readPair : Cond.instanceMethod m7_readPair.1 ∈ kT := kin3 83 (by decide +kernel) rfl
theorem kwl_m7_readPair : Cond.selects m7_readPair.1.cls m7_readPair.1 m7_readPair.1 ∈ kT := kinS 12 (by decide +kernel) rfl
theorem kwc_m7_readContract : kcode m7_readContract ∈ kT := kin3 106 (by decide +kernel) rfl
theorem kwi_m7_readContract : Cond.initialized m7_readContract.1.cls ∈ kT := kin1 3 (by decide +kernel) rfl
theorem kwm_m7_readContract : Cond.instanceMethod m7_readContract.1 ∈ kT := kin3 105 (by decide +kernel) rfl
theorem kwl_m7_readContract : Cond.selects m7_readContract.1.cls m7_readContract.1 m7_readContract.1 ∈ kT := kinS 16 (by decide +kernel) rfl
theorem kwc_m7_readDebt : kcode m7_readDebt ∈ kT := kin3 115 (by decide +kernel) rfl
theorem kwi_m7_readDebt : Cond.initialized m7_readDebt.1.cls ∈ kT := kin1 3 (by decide +kernel) rfl
theorem kwm_m7_readDebt : Cond.instanceMethod m7_readDebt.1 ∈ kT := kin3 114 (by decide +kernel) rfl
theorem kwl_m7_readDebt : Cond.selects m7_readDebt.1.cls m7_readDebt.1 m7_readDebt.1 ∈ kT := kinS 18 (by decide +kernel) rfl
theorem kwc_m7_readUnsure : kcode m7_readUnsure ∈ kT := kin3 119 (by decide +kernel) rfl
theorem kwi_m7_readUnsure : Cond.initialized m7_readUnsure.1.cls ∈ kT := kin1 3 (by decide +kernel) rfl
theorem kwm_m7_readUnsure : Cond.instanceMethod m7_readUnsure.1 ∈ kT := kin3 118 (by decide +kernel) rfl
theorem kwl_m7_readUnsure : Cond.selects m7_readUnsure.1.cls m7_readUnsure.1 m7_readUnsure.1 ∈ kT := kinS 19 (by decide +kernel) rfl
theorem kwc_m7_readHeard : kcode m7_readHeard ∈ kT := kin3 127 (by decide +kernel) rfl
theorem kwi_m7_readHeard : Cond.initialized m7_readHeard.1.cls ∈ kT := kin1 3 (by decide +kernel) rfl
theorem kwm_m7_readHeard : Cond.instanceMethod m7_readHeard.1 ∈ kT := kin3 126 (by decide +kernel) rfl
theorem kwl_m7_readHeard : Cond.selects m7_readHeard.1.cls m7_readHeard.1 m7_readHeard.1 ∈ kT := kinS 20 (by decide +kernel) rfl
theorem kwc_m8_follow : kcode m8_follow ∈ kT := kin4 1 (by decide +kernel) rfl
theorem kwi_m8_follow : Cond.initialized m8_follow.1.cls ∈ kT := kin1 7 (by decide +kernel) rfl
theorem kwm_m8_follow : Cond.instanceMethod m8_follow.1 ∈ kT := kin3 239 (by decide +kernel) rfl
theorem kwl_m8_follow : Cond.selects m8_follow.1.cls m8_follow.1 m8_follow.1 ∈ kT := kin4 0 (by decide +kernel) rfl
theorem kwc_m8_stateOf : kcode m8_stateOf ∈ kT := kin4 5 (by decide +kernel) rfl
theorem kwi_m8_stateOf : Cond.initialized m8_stateOf.1.cls ∈ kT := kin1 7 (by decide +kernel) rfl
theorem kws_m8_stateOf : Cond.static m8_stateOf.1 ∈ kT := kin4 4 (by decide +kernel) rfl
theorem kwc_m8_shortenRound : kcode m8_shortenRound ∈ kT := kin4 12 (by decide +kernel) rfl
theorem kwi_m8_shortenRound : Cond.initialized m8_shortenRound.1.cls ∈ kT := kin1 7 (by decide +kernel) rfl
theorem kwm_m8_shortenRound : Cond.instanceMethod m8_shortenRound.1 ∈ kT := kin4 11 (by decide +kernel) rfl
theorem kwl_m8_shortenRound : Cond.selects m8_shortenRound.1.cls m8_shortenRound.1 m8_shortenRound.1 ∈ kT := kinS 28 (by decide +kernel) rfl
theorem kwc_m8_comesAgainBehind : kcode m8_comesAgainBehind ∈ kT := kin4 16 (by decide +kernel) rfl
theorem kwi_m8_comesAgainBehind : Cond.initialized m8_comesAgainBehind.1.cls ∈ kT := kin1 7 (by decide +kernel) rfl
theorem kwm_m8_comesAgainBehind : Cond.instanceMethod m8_comesAgainBehind.1 ∈ kT := kin4 15 (by decide +kernel) rfl
theorem kwl_m8_comesAgainBehind : Cond.selects m8_comesAgainBehind.1.cls m8_comesAgainBehind.1 m8_comesAgainBehind.1 ∈ kT := kinS 29 (by decide +kernel) rfl
theorem kwc_m8_saying : kcode m8_saying ∈ kT := kin4 29 (by decide +kernel) rfl
theorem kwi_m8_saying : Cond.initialized m8_saying.1.cls ∈ kT := kin1 7 (by decide +kernel) rfl
theorem kwm_m8_saying : Cond.instanceMethod m8_saying.1 ∈ kT := kin4 27 (by decide +kernel) rfl
theorem kwl_m8_saying : Cond.selects m8_saying.1.cls m8_saying.1 m8_saying.1 ∈ kT := kin4 28 (by decide +kernel) rfl
theorem kwc_m8_most : kcode m8_most ∈ kT := kin4 37 (by decide +kernel) rfl
theorem kwi_m8_most : Cond.initialized m8_most.1.cls ∈ kT := kin1 7 (by decide +kernel) rfl
theorem kwm_m8_most : Cond.instanceMethod m8_most.1 ∈ kT := kin4 35 (by decide +kernel) rfl
theorem kwl_m8_most : Cond.selects m8_most.1.cls m8_most.1 m8_most.1 ∈ kT := kin4 36 (by decide +kernel) rfl
theorem kwc_m8_least : kcode m8_least ∈ kT := kin4 45 (by decide +kernel) rfl
theorem kwi_m8_least : Cond.initialized m8_least.1.cls ∈ kT := kin1 7 (by decide +kernel) rfl
theorem kwm_m8_least : Cond.instanceMethod m8_least.1 ∈ kT := kin4 43 (by decide +kernel) rfl
theorem kwl_m8_least : Cond.selects m8_least.1.cls m8_least.1 m8_least.1 ∈ kT := kin4 44 (by decide +kernel) rfl
theorem kwc_m9_begin : kcode m9_begin ∈ kT := kin3 183 (by decide +kernel) rfl
theorem kwi_m9_begin : Cond.initialized m9_begin.1.cls ∈ kT := kin1 6 (by decide +kernel) rfl
theorem kwm_m9_begin : Cond.instanceMethod m9_begin.1 ∈ kT := kin3 181 (by decide +kernel) rfl
theorem kwl_m9_begin : Cond.selects m9_begin.1.cls m9_begin.1 m9_begin.1 ∈ kT := kin3 182 (by decide +kernel) rfl
theorem kwc_m9_beginAsTold : kcode m9_beginAsTold ∈ kT := kin3 187 (by decide +kernel) rfl
theorem kwi_m9_beginAsTold : Cond.initialized m9_beginAsTold.1.cls ∈ kT := kin1 6 (by decide +kernel) rfl
theorem kwm_m9_beginAsTold : Cond.instanceMethod m9_beginAsTold.1 ∈ kT := kin3 185 (by decide +kernel) rfl
theorem kwl_m9_beginAsTold : Cond.selects m9_beginAsTold.1.cls m9_beginAsTold.1 m9_beginAsTold.1 ∈ kT := kin3 186 (by decide +kernel) rfl
theorem kwc_m9_go : kcode m9_go ∈ kT := kin3 195 (by decide +kernel) rfl
theorem kwi_m9_go : Cond.initialized m9_go.1.cls ∈ kT := kin1 6 (by decide +kernel) rfl
theorem kwm_m9_go : Cond.instanceMethod m9_go.1 ∈ kT := kin3 193 (by decide +kernel) rfl
theorem kwl_m9_go : Cond.selects m9_go.1.cls m9_go.1 m9_go.1 ∈ kT := kin3 194 (by decide +kernel) rfl
theorem kwc_m9_byLaw : kcode m9_byLaw ∈ kT := kin3 199 (by decide +kernel) rfl
theorem kwi_m9_byLaw : Cond.initialized m9_byLaw.1.cls ∈ kT := kin1 6 (by decide +kernel) rfl
theorem kwm_m9_byLaw : Cond.instanceMethod m9_byLaw.1 ∈ kT := kin3 198 (by decide +kernel) rfl
theorem kwl_m9_byLaw : Cond.selects m9_byLaw.1.cls m9_byLaw.1 m9_byLaw.1 ∈ kT := kinS 26 (by decide +kernel) rfl
theorem kwc_m9_goDumb : kcode m9_goDumb ∈ kT := kin3 207 (by decide +kernel) rfl
theorem kwi_m9_goDumb : Cond.initialized m9_goDumb.1.cls ∈ kT := kin1 6 (by decide +kernel) rfl
theorem kwm_m9_goDumb : Cond.instanceMethod m9_goDumb.1 ∈ kT := kin3 205 (by decide +kernel) rfl
theorem kwl_m9_goDumb : Cond.selects m9_goDumb.1.cls m9_goDumb.1 m9_goDumb.1 ∈ kT := kin3 206 (by decide +kernel) rfl
theorem kwc_m9_goOn : kcode m9_goOn ∈ kT := kin3 191 (by decide +kernel) rfl
theorem kwi_m9_goOn : Cond.initialized m9_goOn.1.cls ∈ kT := kin1 6 (by decide +kernel) rfl
theorem kwm_m9_goOn : Cond.instanceMethod m9_goOn.1 ∈ kT := kin3 189 (by decide +kernel) rfl
theorem kwl_m9_goOn : Cond.selects m9_goOn.1.cls m9_goOn.1 m9_goOn.1 ∈ kT := kin3 190 (by decide +kernel) rfl
theorem kwc_m9_isMore : kcode m9_isMore ∈ kT := kin3 220 (by decide +kernel) rfl
theorem kwi_m9_isMore : Cond.initialized m9_isMore.1.cls ∈ kT := kin1 6 (by decide +kernel) rfl
theorem kwm_m9_isMore : Cond.instanceMethod m9_isMore.1 ∈ kT := kin3 218 (by decide +kernel) rfl
theorem kwl_m9_isMore : Cond.selects m9_isMore.1.cls m9_isMore.1 m9_isMore.1 ∈ kT := kin3 219 (by decide +kernel) rfl
theorem kwc_m9_countMore : kcode m9_countMore ∈ kT := kin3 228 (by decide +kernel) rfl
theorem kwi_m9_countMore : Cond.initialized m9_countMore.1.cls ∈ kT := kin1 6 (by decide +kernel) rfl
theorem kwm_m9_countMore : Cond.instanceMethod m9_countMore.1 ∈ kT := kin3 226 (by decide +kernel) rfl
theorem kwl_m9_countMore : Cond.selects m9_countMore.1.cls m9_countMore.1 m9_countMore.1 ∈ kT := kin3 227 (by decide +kernel) rfl
theorem kwc_m10_may : kcode m10_may ∈ kT := kin3 167 (by decide +kernel) rfl
theorem kwi_m10_may : Cond.initialized m10_may.1.cls ∈ kT := kin1 1 (by decide +kernel) rfl
theorem kwm_m10_may : Cond.instanceMethod m10_may.1 ∈ kT := kin3 166 (by decide +kernel) rfl
theorem kwl_m10_may : Cond.selects m10_may.1.cls m10_may.1 m10_may.1 ∈ kT := kinS 23 (by decide +kernel) rfl
theorem kwc_m10_may_ : kcode m10_may_ ∈ kT := kin3 163 (by decide +kernel) rfl
theorem kwi_m10_may_ : Cond.initialized m10_may_.1.cls ∈ kT := kin1 1 (by decide +kernel) rfl
theorem kwm_m10_may_ : Cond.instanceMethod m10_may_.1 ∈ kT := kin3 162 (by decide +kernel) rfl
theorem kwl_m10_may_ : Cond.selects m10_may_.1.cls m10_may_.1 m10_may_.1 ∈ kT := kinS 22 (by decide +kernel) rfl
theorem kwc_m10_refuse : kcode m10_refuse ∈ kT := kin2 204 (by decide +kernel) rfl
theorem kwi_m10_refuse : Cond.initialized m10_refuse.1.cls ∈ kT := kin1 1 (by decide +kernel) rfl
theorem kwm_m10_refuse : Cond.instanceMethod m10_refuse.1 ∈ kT := kin2 203 (by decide +kernel) rfl
theorem kwl_m10_refuse : Cond.selects m10_refuse.1.cls m10_refuse.1 m10_refuse.1 ∈ kT := kinS 1 (by decide +kernel) rfl
theorem kwc_m10_deny : kcode m10_deny ∈ kT := kin5 118 (by decide +kernel) rfl
theorem kwi_m10_deny : Cond.initialized m10_deny.1.cls ∈ kT := kin1 1 (by decide +kernel) rfl
theorem kwm_m10_deny : Cond.instanceMethod m10_deny.1 ∈ kT := kin5 117 (by decide +kernel) rfl
theorem kwl_m10_deny : Cond.selects m10_deny.1.cls m10_deny.1 m10_deny.1 ∈ kT := kinS 44 (by decide +kernel) rfl
theorem kwc_m10_isPair : kcode m10_isPair ∈ kT := kin3 159 (by decide +kernel) rfl
theorem kwi_m10_isPair : Cond.initialized m10_isPair.1.cls ∈ kT := kin1 1 (by decide +kernel) rfl
theorem kwm_m10_isPair : Cond.instanceMethod m10_isPair.1 ∈ kT := kin3 158 (by decide +kernel) rfl
theorem kwl_m10_isPair : Cond.selects m10_isPair.1.cls m10_isPair.1 m10_isPair.1 ∈ kT := kinS 21 (by decide +kernel) rfl
theorem kwc_m10_areUnlike : kcode m10_areUnlike ∈ kT := kin4 57 (by decide +kernel) rfl
theorem kwi_m10_areUnlike : Cond.initialized m10_areUnlike.1.cls ∈ kT := kin1 1 (by decide +kernel) rfl
theorem kwm_m10_areUnlike : Cond.instanceMethod m10_areUnlike.1 ∈ kT := kin4 56 (by decide +kernel) rfl
theorem kwl_m10_areUnlike : Cond.selects m10_areUnlike.1.cls m10_areUnlike.1 m10_areUnlike.1 ∈ kT := kinS 30 (by decide +kernel) rfl
theorem kwc_m10_upTo : kcode m10_upTo ∈ kT := kin2 200 (by decide +kernel) rfl
theorem kwi_m10_upTo : Cond.initialized m10_upTo.1.cls ∈ kT := kin1 1 (by decide +kernel) rfl
theorem kws_m10_upTo : Cond.static m10_upTo.1 ∈ kT := kin2 199 (by decide +kernel) rfl
theorem kwc_m10_feed : kcode m10_feed ∈ kT := kin2 189 (by decide +kernel) rfl
theorem kwi_m10_feed : Cond.initialized m10_feed.1.cls ∈ kT := kin1 1 (by decide +kernel) rfl
theorem kwm_m10_feed : Cond.instanceMethod m10_feed.1 ∈ kT := kin2 187 (by decide +kernel) rfl
theorem kwl_m10_feed : Cond.selects m10_feed.1.cls m10_feed.1 m10_feed.1 ∈ kT := kin2 188 (by decide +kernel) rfl
theorem kwc_m10_putBytes : kcode m10_putBytes ∈ kT := kin2 193 (by decide +kernel) rfl
theorem kwi_m10_putBytes : Cond.initialized m10_putBytes.1.cls ∈ kT := kin1 1 (by decide +kernel) rfl
theorem kwm_m10_putBytes : Cond.instanceMethod m10_putBytes.1 ∈ kT := kin2 192 (by decide +kernel) rfl
theorem kwl_m10_putBytes : Cond.selects m10_putBytes.1.cls m10_putBytes.1 m10_putBytes.1 ∈ kT := kinS 0 (by decide +kernel) rfl
theorem kwc_m10_pier : kcode m10_pier ∈ kT := kin2 197 (by decide +kernel) rfl
theorem kwi_m10_pier : Cond.initialized m10_pier.1.cls ∈ kT := kin1 1 (by decide +kernel) rfl
theorem kwm_m10_pier : Cond.instanceMethod m10_pier.1 ∈ kT := kin2 195 (by decide +kernel) rfl
theorem kwl_m10_pier : Cond.selects m10_pier.1.cls m10_pier.1 m10_pier.1 ∈ kT := kin2 196 (by decide +kernel) rfl
theorem kwc_m10_fault : kcode m10_fault ∈ kT := kin3 147 (by decide +kernel) rfl
theorem kwi_m10_fault : Cond.initialized m10_fault.1.cls ∈ kT := kin1 1 (by decide +kernel) rfl
theorem kwm_m10_fault : Cond.instanceMethod m10_fault.1 ∈ kT := kin3 145 (by decide +kernel) rfl
theorem kwl_m10_fault : Cond.selects m10_fault.1.cls m10_fault.1 m10_fault.1 ∈ kT := kin3 146 (by decide +kernel) rfl
theorem kwc_m10_where : kcode m10_where ∈ kT := kin3 151 (by decide +kernel) rfl
theorem kwi_m10_where : Cond.initialized m10_where.1.cls ∈ kT := kin1 1 (by decide +kernel) rfl
theorem kwm_m10_where : Cond.instanceMethod m10_where.1 ∈ kT := kin3 149 (by decide +kernel) rfl
theorem kwl_m10_where : Cond.selects m10_where.1.cls m10_where.1 m10_where.1 ∈ kT := kin3 150 (by decide +kernel) rfl
theorem kwc_m10_pair : kcode m10_pair ∈ kT := kin3 155 (by decide +kernel) rfl
theorem kwi_m10_pair : Cond.initialized m10_pair.1.cls ∈ kT := kin1 1 (by decide +kernel) rfl
theorem kwm_m10_pair : Cond.instanceMethod m10_pair.1 ∈ kT := kin3 153 (by decide +kernel) rfl
theorem kwl_m10_pair : Cond.selects m10_pair.1.cls m10_pair.1 m10_pair.1 ∈ kT := kin3 154 (by decide +kernel) rfl
theorem kwc_m10_isMore : kcode m10_isMore ∈ kT := kin3 171 (by decide +kernel) rfl
theorem kwi_m10_isMore : Cond.initialized m10_isMore.1.cls ∈ kT := kin1 1 (by decide +kernel) rfl
theorem kwm_m10_isMore : Cond.instanceMethod m10_isMore.1 ∈ kT := kin3 170 (by decide +kernel) rfl
theorem kwl_m10_isMore : Cond.selects m10_isMore.1.cls m10_isMore.1 m10_isMore.1 ∈ kT := kinS 24 (by decide +kernel) rfl
theorem kwc_m10_sayingBehind : kcode m10_sayingBehind ∈ kT := kin3 179 (by decide +kernel) rfl
theorem kwi_m10_sayingBehind : Cond.initialized m10_sayingBehind.1.cls ∈ kT := kin1 1 (by decide +kernel) rfl
theorem kwm_m10_sayingBehind : Cond.instanceMethod m10_sayingBehind.1 ∈ kT := kin3 178 (by decide +kernel) rfl
theorem kwl_m10_sayingBehind : Cond.selects m10_sayingBehind.1.cls m10_sayingBehind.1 m10_sayingBehind.1 ∈ kT := kinS 25 (by decide +kernel) rfl
theorem kwc_m10_sayAllBehind : kcode m10_sayAllBehind ∈ kT := kin4 65 (by decide +kernel) rfl
theorem kwi_m10_sayAllBehind : Cond.initialized m10_sayAllBehind.1.cls ∈ kT := kin1 1 (by decide +kernel) rfl
theorem kwm_m10_sayAllBehind : Cond.instanceMethod m10_sayAllBehind.1 ∈ kT := kin4 64 (by decide +kernel) rfl
theorem kwl_m10_sayAllBehind : Cond.selects m10_sayAllBehind.1.cls m10_sayAllBehind.1 m10_sayAllBehind.1 ∈ kT := kinS 31 (by decide +kernel) rfl
theorem kwc_m10_says : kcode m10_says ∈ kT := kin3 175 (by decide +kernel) rfl
theorem kwi_m10_says : Cond.initialized m10_says.1.cls ∈ kT := kin1 1 (by decide +kernel) rfl
theorem kwm_m10_says : Cond.instanceMethod m10_says.1 ∈ kT := kin3 173 (by decide +kernel) rfl
theorem kwl_m10_says : Cond.selects m10_says.1.cls m10_says.1 m10_says.1 ∈ kT := kin3 174 (by decide +kernel) rfl
theorem kwc_m10_saysAll : kcode m10_saysAll ∈ kT := kin3 211 (by decide +kernel) rfl
theorem kwi_m10_saysAll : Cond.initialized m10_saysAll.1.cls ∈ kT := kin1 1 (by decide +kernel) rfl
theorem kwm_m10_saysAll : Cond.instanceMethod m10_saysAll.1 ∈ kT := kin3 209 (by decide +kernel) rfl
theorem kwl_m10_saysAll : Cond.selects m10_saysAll.1.cls m10_saysAll.1 m10_saysAll.1 ∈ kT := kin3 210 (by decide +kernel) rfl
theorem kwc_m10_moreIn : kcode m10_moreIn ∈ kT := kin3 216 (by decide +kernel) rfl
theorem kwi_m10_moreIn : Cond.initialized m10_moreIn.1.cls ∈ kT := kin1 1 (by decide +kernel) rfl
theorem kwm_m10_moreIn : Cond.instanceMethod m10_moreIn.1 ∈ kT := kin3 214 (by decide +kernel) rfl
theorem kwl_m10_moreIn : Cond.selects m10_moreIn.1.cls m10_moreIn.1 m10_moreIn.1 ∈ kT := kin3 215 (by decide +kernel) rfl
theorem kwc_m10_moreTimes : kcode m10_moreTimes ∈ kT := kin3 224 (by decide +kernel) rfl
theorem kwi_m10_moreTimes : Cond.initialized m10_moreTimes.1.cls ∈ kT := kin1 1 (by decide +kernel) rfl
theorem kwm_m10_moreTimes : Cond.instanceMethod m10_moreTimes.1 ∈ kT := kin3 222 (by decide +kernel) rfl
theorem kwl_m10_moreTimes : Cond.selects m10_moreTimes.1.cls m10_moreTimes.1 m10_moreTimes.1 ∈ kT := kin3 223 (by decide +kernel) rfl
theorem kwc_m10_goRound : kcode m10_goRound ∈ kT := kin3 237 (by decide +kernel) rfl
theorem kwi_m10_goRound : Cond.initialized m10_goRound.1.cls ∈ kT := kin1 1 (by decide +kernel) rfl
theorem kwm_m10_goRound : Cond.instanceMethod m10_goRound.1 ∈ kT := kin3 236 (by decide +kernel) rfl
theorem kwl_m10_goRound : Cond.selects m10_goRound.1.cls m10_goRound.1 m10_goRound.1 ∈ kT := kinS 27 (by decide +kernel) rfl
theorem kwc_m10_settles : kcode m10_settles ∈ kT := kin3 233 (by decide +kernel) rfl
theorem kwi_m10_settles : Cond.initialized m10_settles.1.cls ∈ kT := kin1 1 (by decide +kernel) rfl
theorem kwm_m10_settles : Cond.instanceMethod m10_settles.1 ∈ kT := kin3 231 (by decide +kernel) rfl
theorem kwl_m10_settles : Cond.selects m10_settles.1.cls m10_settles.1 m10_settles.1 ∈ kT := kin3 232 (by decide +kernel) rfl
theorem kwc_m10_round : kcode m10_round ∈ kT := kin4 20 (by decide +kernel) rfl
theorem kwi_m10_round : Cond.initialized m10_round.1.cls ∈ kT := kin1 1 (by decide +kernel) rfl
theorem kwm_m10_round : Cond.instanceMethod m10_round.1 ∈ kT := kin4 18 (by decide +kernel) rfl
theorem kwl_m10_round : Cond.selects m10_round.1.cls m10_round.1 m10_round.1 ∈ kT := kin4 19 (by decide +kernel) rfl
theorem kwc_m10_saysLate : kcode m10_saysLate ∈ kT := kin4 24 (by decide +kernel) rfl
theorem kwi_m10_saysLate : Cond.initialized m10_saysLate.1.cls ∈ kT := kin1 1 (by decide +kernel) rfl
theorem kwm_m10_saysLate : Cond.instanceMethod m10_saysLate.1 ∈ kT := kin4 22 (by decide +kernel) rfl
theorem kwl_m10_saysLate : Cond.selects m10_saysLate.1.cls m10_saysLate.1 m10_saysLate.1 ∈ kT := kin4 23 (by decide +kernel) rfl
theorem kwc_m10_roundMost : kcode m10_roundMost ∈ kT := kin4 33 (by decide +kernel) rfl
theorem kwi_m10_roundMost : Cond.initialized m10_roundMost.1.cls ∈ kT := kin1 1 (by decide +kernel) rfl
theorem kwm_m10_roundMost : Cond.instanceMethod m10_roundMost.1 ∈ kT := kin4 31 (by decide +kernel) rfl
theorem kwl_m10_roundMost : Cond.selects m10_roundMost.1.cls m10_roundMost.1 m10_roundMost.1 ∈ kT := kin4 32 (by decide +kernel) rfl
theorem kwc_m10_roundLeast : kcode m10_roundLeast ∈ kT := kin4 41 (by decide +kernel) rfl
theorem kwi_m10_roundLeast : Cond.initialized m10_roundLeast.1.cls ∈ kT := kin1 1 (by decide +kernel) rfl
theorem kwm_m10_roundLeast : Cond.instanceMethod m10_roundLeast.1 ∈ kT := kin4 39 (by decide +kernel) rfl
theorem kwl_m10_roundLeast : Cond.selects m10_roundLeast.1.cls m10_roundLeast.1 m10_roundLeast.1 ∈ kT := kin4 40 (by decide +kernel) rfl
theorem kwc_m10_turnsAbout : kcode m10_turnsAbout ∈ kT := kin4 49 (by decide +kernel) rfl
theorem kwi_m10_turnsAbout : Cond.initialized m10_turnsAbout.1.cls ∈ kT := kin1 1 (by decide +kernel) rfl
theorem kwm_m10_turnsAbout : Cond.instanceMethod m10_turnsAbout.1 ∈ kT := kin4 47 (by decide +kernel) rfl
theorem kwl_m10_turnsAbout : Cond.selects m10_turnsAbout.1.cls m10_turnsAbout.1 m10_turnsAbout.1 ∈ kT := kin4 48 (by decide +kernel) rfl
theorem kwc_m10_alikeIn : kcode m10_alikeIn ∈ kT := kin4 53 (by decide +kernel) rfl
theorem kwi_m10_alikeIn : Cond.initialized m10_alikeIn.1.cls ∈ kT := kin1 1 (by decide +kernel) rfl
theorem kwm_m10_alikeIn : Cond.instanceMethod m10_alikeIn.1 ∈ kT := kin4 51 (by decide +kernel) rfl
theorem kwl_m10_alikeIn : Cond.selects m10_alikeIn.1.cls m10_alikeIn.1 m10_alikeIn.1 ∈ kT := kin4 52 (by decide +kernel) rfl
theorem kwc_m10_loudest : kcode m10_loudest ∈ kT := kin4 61 (by decide +kernel) rfl
theorem kwi_m10_loudest : Cond.initialized m10_loudest.1.cls ∈ kT := kin1 1 (by decide +kernel) rfl
theorem kwm_m10_loudest : Cond.instanceMethod m10_loudest.1 ∈ kT := kin4 59 (by decide +kernel) rfl
theorem kwl_m10_loudest : Cond.selects m10_loudest.1.cls m10_loudest.1 m10_loudest.1 ∈ kT := kin4 60 (by decide +kernel) rfl
theorem kwc_m10_firstMost : kcode m10_firstMost ∈ kT := kin4 68 (by decide +kernel) rfl
theorem kwi_m10_firstMost : Cond.initialized m10_firstMost.1.cls ∈ kT := kin1 1 (by decide +kernel) rfl
theorem kws_m10_firstMost : Cond.static m10_firstMost.1 ∈ kT := kin4 67 (by decide +kernel) rfl
theorem kwc_m10_overtakes : kcode m10_overtakes ∈ kT := kin4 72 (by decide +kernel) rfl
theorem kwi_m10_overtakes : Cond.initialized m10_overtakes.1.cls ∈ kT := kin1 1 (by decide +kernel) rfl
theorem kwm_m10_overtakes : Cond.instanceMethod m10_overtakes.1 ∈ kT := kin4 70 (by decide +kernel) rfl
theorem kwl_m10_overtakes : Cond.selects m10_overtakes.1.cls m10_overtakes.1 m10_overtakes.1 ∈ kT := kin4 71 (by decide +kernel) rfl
theorem kwc_m10_widest : kcode m10_widest ∈ kT := kin4 76 (by decide +kernel) rfl
theorem kwi_m10_widest : Cond.initialized m10_widest.1.cls ∈ kT := kin1 1 (by decide +kernel) rfl
theorem kwm_m10_widest : Cond.instanceMethod m10_widest.1 ∈ kT := kin4 74 (by decide +kernel) rfl
theorem kwl_m10_widest : Cond.selects m10_widest.1.cls m10_widest.1 m10_widest.1 ∈ kT := kin4 75 (by decide +kernel) rfl
theorem kwc_m10_sumAll : kcode m10_sumAll ∈ kT := kin4 83 (by decide +kernel) rfl
theorem kwi_m10_sumAll : Cond.initialized m10_sumAll.1.cls ∈ kT := kin1 1 (by decide +kernel) rfl
theorem kwm_m10_sumAll : Cond.instanceMethod m10_sumAll.1 ∈ kT := kin4 81 (by decide +kernel) rfl
theorem kwl_m10_sumAll : Cond.selects m10_sumAll.1.cls m10_sumAll.1 m10_sumAll.1 ∈ kT := kin4 82 (by decide +kernel) rfl
theorem kwc_m10_masters : kcode m10_masters ∈ kT := kin4 87 (by decide +kernel) rfl
theorem kwi_m10_masters : Cond.initialized m10_masters.1.cls ∈ kT := kin1 1 (by decide +kernel) rfl
theorem kwm_m10_masters : Cond.instanceMethod m10_masters.1 ∈ kT := kin4 85 (by decide +kernel) rfl
theorem kwl_m10_masters : Cond.selects m10_masters.1.cls m10_masters.1 m10_masters.1 ∈ kT := kin4 86 (by decide +kernel) rfl
theorem kwc_m10_bitsOfMore : kcode m10_bitsOfMore ∈ kT := kin4 91 (by decide +kernel) rfl
theorem kwi_m10_bitsOfMore : Cond.initialized m10_bitsOfMore.1.cls ∈ kT := kin1 1 (by decide +kernel) rfl
theorem kwm_m10_bitsOfMore : Cond.instanceMethod m10_bitsOfMore.1 ∈ kT := kin4 90 (by decide +kernel) rfl
theorem kwl_m10_bitsOfMore : Cond.selects m10_bitsOfMore.1.cls m10_bitsOfMore.1 m10_bitsOfMore.1 ∈ kT := kinS 32 (by decide +kernel) rfl
theorem kwc_m10_sayingByEvery : kcode m10_sayingByEvery ∈ kT := kin4 103 (by decide +kernel) rfl
theorem kwi_m10_sayingByEvery : Cond.initialized m10_sayingByEvery.1.cls ∈ kT := kin1 1 (by decide +kernel) rfl
theorem kwm_m10_sayingByEvery : Cond.instanceMethod m10_sayingByEvery.1 ∈ kT := kin4 102 (by decide +kernel) rfl
theorem kwl_m10_sayingByEvery : Cond.selects m10_sayingByEvery.1.cls m10_sayingByEvery.1 m10_sayingByEvery.1 ∈ kT := kinS 34 (by decide +kernel) rfl
theorem kwc_m10_bestEvery : kcode m10_bestEvery ∈ kT := kin4 99 (by decide +kernel) rfl
theorem kwi_m10_bestEvery : Cond.initialized m10_bestEvery.1.cls ∈ kT := kin1 1 (by decide +kernel) rfl
theorem kwm_m10_bestEvery : Cond.instanceMethod m10_bestEvery.1 ∈ kT := kin4 98 (by decide +kernel) rfl
theorem kwl_m10_bestEvery : Cond.selects m10_bestEvery.1.cls m10_bestEvery.1 m10_bestEvery.1 ∈ kT := kinS 33 (by decide +kernel) rfl
theorem kwc_m10_everyFor : kcode m10_everyFor ∈ kT := kin4 95 (by decide +kernel) rfl
theorem kwi_m10_everyFor : Cond.initialized m10_everyFor.1.cls ∈ kT := kin1 1 (by decide +kernel) rfl
theorem kwm_m10_everyFor : Cond.instanceMethod m10_everyFor.1 ∈ kT := kin4 93 (by decide +kernel) rfl
theorem kwl_m10_everyFor : Cond.selects m10_everyFor.1.cls m10_everyFor.1 m10_everyFor.1 ∈ kT := kin4 94 (by decide +kernel) rfl
theorem kwc_m10_everySays : kcode m10_everySays ∈ kT := kin4 107 (by decide +kernel) rfl
theorem kwi_m10_everySays : Cond.initialized m10_everySays.1.cls ∈ kT := kin1 1 (by decide +kernel) rfl
theorem kwm_m10_everySays : Cond.instanceMethod m10_everySays.1 ∈ kT := kin4 105 (by decide +kernel) rfl
theorem kwl_m10_everySays : Cond.selects m10_everySays.1.cls m10_everySays.1 m10_everySays.1 ∈ kT := kin4 106 (by decide +kernel) rfl
theorem kwc_m10_everyNever : kcode m10_everyNever ∈ kT := kin4 111 (by decide +kernel) rfl
theorem kwi_m10_everyNever : Cond.initialized m10_everyNever.1.cls ∈ kT := kin1 1 (by decide +kernel) rfl
theorem kwm_m10_everyNever : Cond.instanceMethod m10_everyNever.1 ∈ kT := kin4 109 (by decide +kernel) rfl
theorem kwl_m10_everyNever : Cond.selects m10_everyNever.1.cls m10_everyNever.1 m10_everyNever.1 ∈ kT := kin4 110 (by decide +kernel) rfl
theorem kwc_m10_stepFor : kcode m10_stepFor ∈ kT := kin4 115 (by decide +kernel) rfl
theorem kwi_m10_stepFor : Cond.initialized m10_stepFor.1.cls ∈ kT := kin1 1 (by decide +kernel) rfl
theorem kwm_m10_stepFor : Cond.instanceMethod m10_stepFor.1 ∈ kT := kin4 113 (by decide +kernel) rfl
theorem kwl_m10_stepFor : Cond.selects m10_stepFor.1.cls m10_stepFor.1 m10_stepFor.1 ∈ kT := kin4 114 (by decide +kernel) rfl
theorem kwc_m10_mayFit : kcode m10_mayFit ∈ kT := kin4 123 (by decide +kernel) rfl
theorem kwi_m10_mayFit : Cond.initialized m10_mayFit.1.cls ∈ kT := kin1 1 (by decide +kernel) rfl
theorem kwm_m10_mayFit : Cond.instanceMethod m10_mayFit.1 ∈ kT := kin4 122 (by decide +kernel) rfl
theorem kwl_m10_mayFit : Cond.selects m10_mayFit.1.cls m10_mayFit.1 m10_mayFit.1 ∈ kT := kinS 35 (by decide +kernel) rfl
theorem kwc_m10_fits : kcode m10_fits ∈ kT := kin4 119 (by decide +kernel) rfl
theorem kwi_m10_fits : Cond.initialized m10_fits.1.cls ∈ kT := kin1 1 (by decide +kernel) rfl
theorem kwm_m10_fits : Cond.instanceMethod m10_fits.1 ∈ kT := kin4 117 (by decide +kernel) rfl
theorem kwl_m10_fits : Cond.selects m10_fits.1.cls m10_fits.1 m10_fits.1 ∈ kT := kin4 118 (by decide +kernel) rfl
theorem kwc_m10_fitAt : kcode m10_fitAt ∈ kT := kin4 142 (by decide +kernel) rfl
theorem kwi_m10_fitAt : Cond.initialized m10_fitAt.1.cls ∈ kT := kin1 1 (by decide +kernel) rfl
theorem kwm_m10_fitAt : Cond.instanceMethod m10_fitAt.1 ∈ kT := kin4 140 (by decide +kernel) rfl
theorem kwl_m10_fitAt : Cond.selects m10_fitAt.1.cls m10_fitAt.1 m10_fitAt.1 ∈ kT := kin4 141 (by decide +kernel) rfl
theorem kwc_m10_could : kcode m10_could ∈ kT := kin4 146 (by decide +kernel) rfl
theorem kwi_m10_could : Cond.initialized m10_could.1.cls ∈ kT := kin1 1 (by decide +kernel) rfl
theorem kwm_m10_could : Cond.instanceMethod m10_could.1 ∈ kT := kin4 144 (by decide +kernel) rfl
theorem kwl_m10_could : Cond.selects m10_could.1.cls m10_could.1 m10_could.1 ∈ kT := kin4 145 (by decide +kernel) rfl
theorem kwc_m10_surely : kcode m10_surely ∈ kT := kin4 154 (by decide +kernel) rfl
theorem kwi_m10_surely : Cond.initialized m10_surely.1.cls ∈ kT := kin1 1 (by decide +kernel) rfl
theorem kwm_m10_surely : Cond.instanceMethod m10_surely.1 ∈ kT := kin4 152 (by decide +kernel) rfl
theorem kwl_m10_surely : Cond.selects m10_surely.1.cls m10_surely.1 m10_surely.1 ∈ kT := kin4 153 (by decide +kernel) rfl
theorem kwc_m10_ask : kcode m10_ask ∈ kT := kin4 162 (by decide +kernel) rfl
theorem kwi_m10_ask : Cond.initialized m10_ask.1.cls ∈ kT := kin1 1 (by decide +kernel) rfl
theorem kwm_m10_ask : Cond.instanceMethod m10_ask.1 ∈ kT := kin4 160 (by decide +kernel) rfl
theorem kwl_m10_ask : Cond.selects m10_ask.1.cls m10_ask.1 m10_ask.1 ∈ kT := kin4 161 (by decide +kernel) rfl
theorem kwc_m10_askLeaves : kcode m10_askLeaves ∈ kT := kin4 175 (by decide +kernel) rfl
theorem kwi_m10_askLeaves : Cond.initialized m10_askLeaves.1.cls ∈ kT := kin1 1 (by decide +kernel) rfl
theorem kwm_m10_askLeaves : Cond.instanceMethod m10_askLeaves.1 ∈ kT := kin4 173 (by decide +kernel) rfl
theorem kwl_m10_askLeaves : Cond.selects m10_askLeaves.1.cls m10_askLeaves.1 m10_askLeaves.1 ∈ kT := kin4 174 (by decide +kernel) rfl
theorem kwc_m10_judge : kcode m10_judge ∈ kT := kin4 180 (by decide +kernel) rfl
theorem kwi_m10_judge : Cond.initialized m10_judge.1.cls ∈ kT := kin1 1 (by decide +kernel) rfl
theorem kwm_m10_judge : Cond.instanceMethod m10_judge.1 ∈ kT := kin4 178 (by decide +kernel) rfl
theorem kwl_m10_judge : Cond.selects m10_judge.1.cls m10_judge.1 m10_judge.1 ∈ kT := kin4 179 (by decide +kernel) rfl
theorem kwc_m10_apartByTold : kcode m10_apartByTold ∈ kT := kin4 184 (by decide +kernel) rfl
theorem kwi_m10_apartByTold : Cond.initialized m10_apartByTold.1.cls ∈ kT := kin1 1 (by decide +kernel) rfl
theorem kwm_m10_apartByTold : Cond.instanceMethod m10_apartByTold.1 ∈ kT := kin4 183 (by decide +kernel) rfl
theorem kwl_m10_apartByTold : Cond.selects m10_apartByTold.1.cls m10_apartByTold.1 m10_apartByTold.1 ∈ kT := kinS 38 (by decide +kernel) rfl
theorem kwc_m10_third : kcode m10_third ∈ kT := kin4 189 (by decide +kernel) rfl
theorem kwi_m10_third : Cond.initialized m10_third.1.cls ∈ kT := kin1 1 (by decide +kernel) rfl
theorem kwm_m10_third : Cond.instanceMethod m10_third.1 ∈ kT := kin4 187 (by decide +kernel) rfl
theorem kwl_m10_third : Cond.selects m10_third.1.cls m10_third.1 m10_third.1 ∈ kT := kin4 188 (by decide +kernel) rfl
theorem kwc_m10_owes : kcode m10_owes ∈ kT := kin4 193 (by decide +kernel) rfl
theorem kwi_m10_owes : Cond.initialized m10_owes.1.cls ∈ kT := kin1 1 (by decide +kernel) rfl
theorem kwm_m10_owes : Cond.instanceMethod m10_owes.1 ∈ kT := kin4 191 (by decide +kernel) rfl
theorem kwl_m10_owes : Cond.selects m10_owes.1.cls m10_owes.1 m10_owes.1 ∈ kT := kin4 192 (by decide +kernel) rfl
theorem kwc_m10_net : kcode m10_net ∈ kT := kin4 197 (by decide +kernel) rfl
theorem kwi_m10_net : Cond.initialized m10_net.1.cls ∈ kT := kin1 1 (by decide +kernel) rfl
theorem kwm_m10_net : Cond.instanceMethod m10_net.1 ∈ kT := kin4 195 (by decide +kernel) rfl
theorem kwl_m10_net : Cond.selects m10_net.1.cls m10_net.1 m10_net.1 ∈ kT := kin4 196 (by decide +kernel) rfl
theorem kwc_m10_due : kcode m10_due ∈ kT := kin4 207 (by decide +kernel) rfl
theorem kwi_m10_due : Cond.initialized m10_due.1.cls ∈ kT := kin1 1 (by decide +kernel) rfl
theorem kwm_m10_due : Cond.instanceMethod m10_due.1 ∈ kT := kin4 205 (by decide +kernel) rfl
theorem kwl_m10_due : Cond.selects m10_due.1.cls m10_due.1 m10_due.1 ∈ kT := kin4 206 (by decide +kernel) rfl
theorem kwc_m10_creditor : kcode m10_creditor ∈ kT := kin4 216 (by decide +kernel) rfl
theorem kwi_m10_creditor : Cond.initialized m10_creditor.1.cls ∈ kT := kin1 1 (by decide +kernel) rfl
theorem kwm_m10_creditor : Cond.instanceMethod m10_creditor.1 ∈ kT := kin4 214 (by decide +kernel) rfl
theorem kwl_m10_creditor : Cond.selects m10_creditor.1.cls m10_creditor.1 m10_creditor.1 ∈ kT := kin4 215 (by decide +kernel) rfl
theorem kwc_m10_payments : kcode m10_payments ∈ kT := kin4 220 (by decide +kernel) rfl
theorem kwi_m10_payments : Cond.initialized m10_payments.1.cls ∈ kT := kin1 1 (by decide +kernel) rfl
theorem kwm_m10_payments : Cond.instanceMethod m10_payments.1 ∈ kT := kin4 218 (by decide +kernel) rfl
theorem kwl_m10_payments : Cond.selects m10_payments.1.cls m10_payments.1 m10_payments.1 ∈ kT := kin4 219 (by decide +kernel) rfl
theorem kwc_m10_ring : kcode m10_ring ∈ kT := kin4 228 (by decide +kernel) rfl
theorem kwi_m10_ring : Cond.initialized m10_ring.1.cls ∈ kT := kin1 1 (by decide +kernel) rfl
theorem kwm_m10_ring : Cond.instanceMethod m10_ring.1 ∈ kT := kin4 226 (by decide +kernel) rfl
theorem kwl_m10_ring : Cond.selects m10_ring.1.cls m10_ring.1 m10_ring.1 ∈ kT := kin4 227 (by decide +kernel) rfl
theorem kwc_m10_ringAt : kcode m10_ringAt ∈ kT := kin5 9 (by decide +kernel) rfl
theorem kwi_m10_ringAt : Cond.initialized m10_ringAt.1.cls ∈ kT := kin1 1 (by decide +kernel) rfl
theorem kwm_m10_ringAt : Cond.instanceMethod m10_ringAt.1 ∈ kT := kin5 7 (by decide +kernel) rfl
theorem kwl_m10_ringAt : Cond.selects m10_ringAt.1.cls m10_ringAt.1 m10_ringAt.1 ∈ kT := kin5 8 (by decide +kernel) rfl
theorem kwc_m10_share : kcode m10_share ∈ kT := kin5 16 (by decide +kernel) rfl
theorem kwi_m10_share : Cond.initialized m10_share.1.cls ∈ kT := kin1 1 (by decide +kernel) rfl
theorem kws_m10_share : Cond.static m10_share.1 ∈ kT := kin5 15 (by decide +kernel) rfl
theorem kwc_m10_isRest : kcode m10_isRest ∈ kT := kin5 26 (by decide +kernel) rfl
theorem kwi_m10_isRest : Cond.initialized m10_isRest.1.cls ∈ kT := kin1 1 (by decide +kernel) rfl
theorem kws_m10_isRest : Cond.static m10_isRest.1 ∈ kT := kin5 25 (by decide +kernel) rfl
theorem kwc_m10_isRestAt : kcode m10_isRestAt ∈ kT := kin5 23 (by decide +kernel) rfl
theorem kwi_m10_isRestAt : Cond.initialized m10_isRestAt.1.cls ∈ kT := kin1 1 (by decide +kernel) rfl
theorem kws_m10_isRestAt : Cond.static m10_isRestAt.1 ∈ kT := kin5 22 (by decide +kernel) rfl
theorem kwc_m10_talks : kcode m10_talks ∈ kT := kin5 13 (by decide +kernel) rfl
theorem kwi_m10_talks : Cond.initialized m10_talks.1.cls ∈ kT := kin1 1 (by decide +kernel) rfl
theorem kwm_m10_talks : Cond.instanceMethod m10_talks.1 ∈ kT := kin5 11 (by decide +kernel) rfl
theorem kwl_m10_talks : Cond.selects m10_talks.1.cls m10_talks.1 m10_talks.1 ∈ kT := kin5 12 (by decide +kernel) rfl
theorem kwc_m10_rests : kcode m10_rests ∈ kT := kin5 20 (by decide +kernel) rfl
theorem kwi_m10_rests : Cond.initialized m10_rests.1.cls ∈ kT := kin1 1 (by decide +kernel) rfl
theorem kwm_m10_rests : Cond.instanceMethod m10_rests.1 ∈ kT := kin5 18 (by decide +kernel) rfl
theorem kwl_m10_rests : Cond.selects m10_rests.1.cls m10_rests.1 m10_rests.1 ∈ kT := kin5 19 (by decide +kernel) rfl
theorem kwc_m10_rest : kcode m10_rest ∈ kT := kin5 30 (by decide +kernel) rfl
theorem kwi_m10_rest : Cond.initialized m10_rest.1.cls ∈ kT := kin1 1 (by decide +kernel) rfl
theorem kwm_m10_rest : Cond.instanceMethod m10_rest.1 ∈ kT := kin5 28 (by decide +kernel) rfl
theorem kwl_m10_rest : Cond.selects m10_rest.1.cls m10_rest.1 m10_rest.1 ∈ kT := kin5 29 (by decide +kernel) rfl
theorem kwc_m10_verdictOdds : kcode m10_verdictOdds ∈ kT := kin5 34 (by decide +kernel) rfl
theorem kwi_m10_verdictOdds : Cond.initialized m10_verdictOdds.1.cls ∈ kT := kin1 1 (by decide +kernel) rfl
theorem kwm_m10_verdictOdds : Cond.instanceMethod m10_verdictOdds.1 ∈ kT := kin5 32 (by decide +kernel) rfl
theorem kwl_m10_verdictOdds : Cond.selects m10_verdictOdds.1.cls m10_verdictOdds.1 m10_verdictOdds.1 ∈ kT := kin5 33 (by decide +kernel) rfl
theorem kwc_m10_looks : kcode m10_looks ∈ kT := kin5 57 (by decide +kernel) rfl
theorem kwi_m10_looks : Cond.initialized m10_looks.1.cls ∈ kT := kin1 1 (by decide +kernel) rfl
theorem kwm_m10_looks : Cond.instanceMethod m10_looks.1 ∈ kT := kin5 55 (by decide +kernel) rfl
theorem kwl_m10_looks : Cond.selects m10_looks.1.cls m10_looks.1 m10_looks.1 ∈ kT := kin5 56 (by decide +kernel) rfl
theorem kwc_m10_verdict : kcode m10_verdict ∈ kT := kin5 70 (by decide +kernel) rfl
theorem kwi_m10_verdict : Cond.initialized m10_verdict.1.cls ∈ kT := kin1 1 (by decide +kernel) rfl
theorem kwm_m10_verdict : Cond.instanceMethod m10_verdict.1 ∈ kT := kin5 68 (by decide +kernel) rfl
theorem kwl_m10_verdict : Cond.selects m10_verdict.1.cls m10_verdict.1 m10_verdict.1 ∈ kT := kin5 69 (by decide +kernel) rfl
theorem kwc_m10_drawFrom : kcode m10_drawFrom ∈ kT := kin5 65 (by decide +kernel) rfl
theorem kwi_m10_drawFrom : Cond.initialized m10_drawFrom.1.cls ∈ kT := kin1 1 (by decide +kernel) rfl
theorem kws_m10_drawFrom : Cond.static m10_drawFrom.1 ∈ kT := kin5 64 (by decide +kernel) rfl
theorem kwc_m10_odds : kcode m10_odds ∈ kT := kin5 74 (by decide +kernel) rfl
theorem kwi_m10_odds : Cond.initialized m10_odds.1.cls ∈ kT := kin1 1 (by decide +kernel) rfl
theorem kwm_m10_odds : Cond.instanceMethod m10_odds.1 ∈ kT := kin5 72 (by decide +kernel) rfl
theorem kwl_m10_odds : Cond.selects m10_odds.1.cls m10_odds.1 m10_odds.1 ∈ kT := kin5 73 (by decide +kernel) rfl
theorem kwc_m10_mean : kcode m10_mean ∈ kT := kin5 87 (by decide +kernel) rfl
theorem kwi_m10_mean : Cond.initialized m10_mean.1.cls ∈ kT := kin1 1 (by decide +kernel) rfl
theorem kwm_m10_mean : Cond.instanceMethod m10_mean.1 ∈ kT := kin5 85 (by decide +kernel) rfl
theorem kwl_m10_mean : Cond.selects m10_mean.1.cls m10_mean.1 m10_mean.1 ∈ kT := kin5 86 (by decide +kernel) rfl
theorem kwc_m10_goWithDumb : kcode m10_goWithDumb ∈ kT := kin5 78 (by decide +kernel) rfl
theorem kwi_m10_goWithDumb : Cond.initialized m10_goWithDumb.1.cls ∈ kT := kin1 1 (by decide +kernel) rfl
theorem kwm_m10_goWithDumb : Cond.instanceMethod m10_goWithDumb.1 ∈ kT := kin5 77 (by decide +kernel) rfl
theorem kwl_m10_goWithDumb : Cond.selects m10_goWithDumb.1.cls m10_goWithDumb.1 m10_goWithDumb.1 ∈ kT := kinS 43 (by decide +kernel) rfl
theorem kwc_m10_allChances : kcode m10_allChances ∈ kT := kin5 82 (by decide +kernel) rfl
theorem kwi_m10_allChances : Cond.initialized m10_allChances.1.cls ∈ kT := kin1 1 (by decide +kernel) rfl
theorem kws_m10_allChances : Cond.static m10_allChances.1 ∈ kT := kin5 81 (by decide +kernel) rfl
theorem kwc_m10_drawn : kcode m10_drawn ∈ kT := kin5 91 (by decide +kernel) rfl
theorem kwi_m10_drawn : Cond.initialized m10_drawn.1.cls ∈ kT := kin1 1 (by decide +kernel) rfl
theorem kwm_m10_drawn : Cond.instanceMethod m10_drawn.1 ∈ kT := kin5 89 (by decide +kernel) rfl
theorem kwl_m10_drawn : Cond.selects m10_drawn.1.cls m10_drawn.1 m10_drawn.1 ∈ kT := kin5 90 (by decide +kernel) rfl
theorem kwc_m10_season : kcode m10_season ∈ kT := kin5 96 (by decide +kernel) rfl
theorem kwi_m10_season : Cond.initialized m10_season.1.cls ∈ kT := kin1 1 (by decide +kernel) rfl
theorem kwm_m10_season : Cond.instanceMethod m10_season.1 ∈ kT := kin5 94 (by decide +kernel) rfl
theorem kwl_m10_season : Cond.selects m10_season.1.cls m10_season.1 m10_season.1 ∈ kT := kin5 95 (by decide +kernel) rfl
theorem kwc_m10_change : kcode m10_change ∈ kT := kin5 110 (by decide +kernel) rfl
theorem kwi_m10_change : Cond.initialized m10_change.1.cls ∈ kT := kin1 1 (by decide +kernel) rfl
theorem kwm_m10_change : Cond.instanceMethod m10_change.1 ∈ kT := kin5 108 (by decide +kernel) rfl
theorem kwl_m10_change : Cond.selects m10_change.1.cls m10_change.1 m10_change.1 ∈ kT := kin5 109 (by decide +kernel) rfl
theorem kwc_m10_step : kcode m10_step ∈ kT := kin5 114 (by decide +kernel) rfl
theorem kwi_m10_step : Cond.initialized m10_step.1.cls ∈ kT := kin1 1 (by decide +kernel) rfl
theorem kwm_m10_step : Cond.instanceMethod m10_step.1 ∈ kT := kin5 112 (by decide +kernel) rfl
theorem kwl_m10_step : Cond.selects m10_step.1.cls m10_step.1 m10_step.1 ∈ kT := kin5 113 (by decide +kernel) rfl
theorem kwc_m10_pay : kcode m10_pay ∈ kT := kin5 122 (by decide +kernel) rfl
theorem kwi_m10_pay : Cond.initialized m10_pay.1.cls ∈ kT := kin1 1 (by decide +kernel) rfl
theorem kwm_m10_pay : Cond.instanceMethod m10_pay.1 ∈ kT := kin5 120 (by decide +kernel) rfl
theorem kwl_m10_pay : Cond.selects m10_pay.1.cls m10_pay.1 m10_pay.1 ∈ kT := kin5 121 (by decide +kernel) rfl
theorem kwc_m10_undo : kcode m10_undo ∈ kT := kin5 126 (by decide +kernel) rfl
theorem kwi_m10_undo : Cond.initialized m10_undo.1.cls ∈ kT := kin1 1 (by decide +kernel) rfl
theorem kwm_m10_undo : Cond.instanceMethod m10_undo.1 ∈ kT := kin5 124 (by decide +kernel) rfl
theorem kwl_m10_undo : Cond.selects m10_undo.1.cls m10_undo.1 m10_undo.1 ∈ kT := kin5 125 (by decide +kernel) rfl
theorem kwc_m10_image : kcode m10_image ∈ kT := kin5 138 (by decide +kernel) rfl
theorem kwi_m10_image : Cond.initialized m10_image.1.cls ∈ kT := kin1 1 (by decide +kernel) rfl
theorem kwm_m10_image : Cond.instanceMethod m10_image.1 ∈ kT := kin5 136 (by decide +kernel) rfl
theorem kwl_m10_image : Cond.selects m10_image.1.cls m10_image.1 m10_image.1 ∈ kT := kin5 137 (by decide +kernel) rfl
theorem kwc_m10_back : kcode m10_back ∈ kT := kin5 143 (by decide +kernel) rfl
theorem kwi_m10_back : Cond.initialized m10_back.1.cls ∈ kT := kin1 1 (by decide +kernel) rfl
theorem kwm_m10_back : Cond.instanceMethod m10_back.1 ∈ kT := kin5 141 (by decide +kernel) rfl
theorem kwl_m10_back : Cond.selects m10_back.1.cls m10_back.1 m10_back.1 ∈ kT := kin5 142 (by decide +kernel) rfl
theorem kwc_m10_led : kcode m10_led ∈ kT := kin5 164 (by decide +kernel) rfl
theorem kwi_m10_led : Cond.initialized m10_led.1.cls ∈ kT := kin1 1 (by decide +kernel) rfl
theorem kwm_m10_led : Cond.instanceMethod m10_led.1 ∈ kT := kin5 162 (by decide +kernel) rfl
theorem kwl_m10_led : Cond.selects m10_led.1.cls m10_led.1 m10_led.1 ∈ kT := kin5 163 (by decide +kernel) rfl
theorem kwc_m10_size : kcode m10_size ∈ kT := kin5 148 (by decide +kernel) rfl
theorem kwi_m10_size : Cond.initialized m10_size.1.cls ∈ kT := kin1 1 (by decide +kernel) rfl
theorem kwm_m10_size : Cond.instanceMethod m10_size.1 ∈ kT := kin5 146 (by decide +kernel) rfl
theorem kwl_m10_size : Cond.selects m10_size.1.cls m10_size.1 m10_size.1 ∈ kT := kin5 147 (by decide +kernel) rfl
theorem kwc_m10_trouble : kcode m10_trouble ∈ kT := kin5 156 (by decide +kernel) rfl
theorem kwi_m10_trouble : Cond.initialized m10_trouble.1.cls ∈ kT := kin1 1 (by decide +kernel) rfl
theorem kwm_m10_trouble : Cond.instanceMethod m10_trouble.1 ∈ kT := kin5 154 (by decide +kernel) rfl
theorem kwl_m10_trouble : Cond.selects m10_trouble.1.cls m10_trouble.1 m10_trouble.1 ∈ kT := kin5 155 (by decide +kernel) rfl
theorem kwc_m11_thrown : kcode m11_thrown ∈ kT := kin6 122 (by decide +kernel) rfl
theorem kwi_m11_thrown : Cond.initialized m11_thrown.1.cls ∈ kT := kin1 12 (by decide +kernel) rfl
theorem kwm_m11_thrown : Cond.instanceMethod m11_thrown.1 ∈ kT := kin6 120 (by decide +kernel) rfl
theorem kwl_m11_thrown : Cond.selects m11_thrown.1.cls m11_thrown.1 m11_thrown.1 ∈ kT := kin6 121 (by decide +kernel) rfl
theorem kwc_m11_good : kcode m11_good ∈ kT := kin6 134 (by decide +kernel) rfl
theorem kwi_m11_good : Cond.initialized m11_good.1.cls ∈ kT := kin1 12 (by decide +kernel) rfl
theorem kwm_m11_good : Cond.instanceMethod m11_good.1 ∈ kT := kin6 133 (by decide +kernel) rfl
theorem kwl_m11_good : Cond.selects m11_good.1.cls m11_good.1 m11_good.1 ∈ kT := kinS 46 (by decide +kernel) rfl
theorem kwc_m11_no : kcode m11_no ∈ kT := kin6 141 (by decide +kernel) rfl
theorem kwi_m11_no : Cond.initialized m11_no.1.cls ∈ kT := kin1 12 (by decide +kernel) rfl
theorem kwm_m11_no : Cond.instanceMethod m11_no.1 ∈ kT := kin6 140 (by decide +kernel) rfl
theorem kwl_m11_no : Cond.selects m11_no.1.cls m11_no.1 m11_no.1 ∈ kT := kinS 47 (by decide +kernel) rfl
theorem kwc_m11_isNot : kcode m11_isNot ∈ kT := kin8 129 (by decide +kernel) rfl
theorem kwi_m11_isNot : Cond.initialized m11_isNot.1.cls ∈ kT := kin1 12 (by decide +kernel) rfl
theorem kwm_m11_isNot : Cond.instanceMethod m11_isNot.1 ∈ kT := kin8 128 (by decide +kernel) rfl
theorem kwl_m11_isNot : Cond.selects m11_isNot.1.cls m11_isNot.1 m11_isNot.1 ∈ kT := kinS 103 (by decide +kernel) rfl
theorem kwc_m11_in : kcode m11_in ∈ kT := kin6 137 (by decide +kernel) rfl
theorem kwi_m11_in : Cond.initialized m11_in.1.cls ∈ kT := kin1 12 (by decide +kernel) rfl
theorem kws_m11_in : Cond.static m11_in.1 ∈ kT := kin6 136 (by decide +kernel) rfl
theorem kwc_m11_hasBit : kcode m11_hasBit ∈ kT := kin7 196 (by decide +kernel) rfl
theorem kwi_m11_hasBit : Cond.initialized m11_hasBit.1.cls ∈ kT := kin1 12 (by decide +kernel) rfl
theorem kws_m11_hasBit : Cond.static m11_hasBit.1 ∈ kT := kin7 195 (by decide +kernel) rfl
theorem kwc_m11_ones : kcode m11_ones ∈ kT := kin8 24 (by decide +kernel) rfl
theorem kwi_m11_ones : Cond.initialized m11_ones.1.cls ∈ kT := kin1 12 (by decide +kernel) rfl
theorem kws_m11_ones : Cond.static m11_ones.1 ∈ kT := kin8 23 (by decide +kernel) rfl
theorem kwc_m11_copy : kcode m11_copy ∈ kT := kin7 16 (by decide +kernel) rfl
theorem kwi_m11_copy : Cond.initialized m11_copy.1.cls ∈ kT := kin1 12 (by decide +kernel) rfl
theorem kws_m11_copy : Cond.static m11_copy.1 ∈ kT := kin7 15 (by decide +kernel) rfl
theorem kwc_m11_lowest : kcode m11_lowest ∈ kT := kin8 79 (by decide +kernel) rfl
theorem kwi_m11_lowest : Cond.initialized m11_lowest.1.cls ∈ kT := kin1 12 (by decide +kernel) rfl
theorem kws_m11_lowest : Cond.static m11_lowest.1 ∈ kT := kin8 78 (by decide +kernel) rfl
theorem kwc_m11_feed : kcode m11_feed ∈ kT := kin6 126 (by decide +kernel) rfl
theorem kwi_m11_feed : Cond.initialized m11_feed.1.cls ∈ kT := kin1 12 (by decide +kernel) rfl
theorem kwm_m11_feed : Cond.instanceMethod m11_feed.1 ∈ kT := kin6 124 (by decide +kernel) rfl
theorem kwl_m11_feed : Cond.selects m11_feed.1.cls m11_feed.1 m11_feed.1 ∈ kT := kin6 125 (by decide +kernel) rfl
theorem kwc_m11_see : kcode m11_see ∈ kT := kin6 149 (by decide +kernel) rfl
theorem kwi_m11_see : Cond.initialized m11_see.1.cls ∈ kT := kin1 12 (by decide +kernel) rfl
theorem kwm_m11_see : Cond.instanceMethod m11_see.1 ∈ kT := kin6 148 (by decide +kernel) rfl
theorem kwl_m11_see : Cond.selects m11_see.1.cls m11_see.1 m11_see.1 ∈ kT := kinS 49 (by decide +kernel) rfl
theorem kwc_m11_isSmall : kcode m11_isSmall ∈ kT := kin6 152 (by decide +kernel) rfl
theorem kwi_m11_isSmall : Cond.initialized m11_isSmall.1.cls ∈ kT := kin1 12 (by decide +kernel) rfl
theorem kws_m11_isSmall : Cond.static m11_isSmall.1 ∈ kT := kin6 151 (by decide +kernel) rfl
theorem kwc_m11_isDigit : kcode m11_isDigit ∈ kT := kin6 155 (by decide +kernel) rfl
theorem kwi_m11_isDigit : Cond.initialized m11_isDigit.1.cls ∈ kT := kin1 12 (by decide +kernel) rfl
theorem kws_m11_isDigit : Cond.static m11_isDigit.1 ∈ kT := kin6 154 (by decide +kernel) rfl
theorem kwc_m11_next : kcode m11_next ∈ kT := kin6 145 (by decide +kernel) rfl
theorem kwi_m11_next : Cond.initialized m11_next.1.cls ∈ kT := kin1 12 (by decide +kernel) rfl
theorem kwm_m11_next : Cond.instanceMethod m11_next.1 ∈ kT := kin6 144 (by decide +kernel) rfl
theorem kwl_m11_next : Cond.selects m11_next.1.cls m11_next.1 m11_next.1 ∈ kT := kinS 48 (by decide +kernel) rfl
theorem kwc_m11_wrong : kcode m11_wrong ∈ kT := kin6 174 (by decide +kernel) rfl
theorem kwi_m11_wrong : Cond.initialized m11_wrong.1.cls ∈ kT := kin1 12 (by decide +kernel) rfl
theorem kwm_m11_wrong : Cond.instanceMethod m11_wrong.1 ∈ kT := kin6 173 (by decide +kernel) rfl
theorem kwl_m11_wrong : Cond.selects m11_wrong.1.cls m11_wrong.1 m11_wrong.1 ∈ kT := kinS 53 (by decide +kernel) rfl
theorem kwc_m11_isWord : kcode m11_isWord ∈ kT := kin6 164 (by decide +kernel) rfl
theorem kwi_m11_isWord : Cond.initialized m11_isWord.1.cls ∈ kT := kin1 12 (by decide +kernel) rfl
theorem kwm_m11_isWord : Cond.instanceMethod m11_isWord.1 ∈ kT := kin6 163 (by decide +kernel) rfl
theorem kwl_m11_isWord : Cond.selects m11_isWord.1.cls m11_isWord.1 m11_isWord.1 ∈ kT := kinS 51 (by decide +kernel) rfl
theorem kwc_m11_takesWord : kcode m11_takesWord ∈ kT := kin6 187 (by decide +kernel) rfl
theorem kwi_m11_takesWord : Cond.initialized m11_takesWord.1.cls ∈ kT := kin1 12 (by decide +kernel) rfl
theorem kwm_m11_takesWord : Cond.instanceMethod m11_takesWord.1 ∈ kT := kin6 186 (by decide +kernel) rfl
theorem kwl_m11_takesWord : Cond.selects m11_takesWord.1.cls m11_takesWord.1 m11_takesWord.1 ∈ kT := kinS 56 (by decide +kernel) rfl
theorem kwc_m11_must : kcode m11_must ∈ kT := kin6 183 (by decide +kernel) rfl
theorem kwi_m11_must : Cond.initialized m11_must.1.cls ∈ kT := kin1 12 (by decide +kernel) rfl
theorem kwm_m11_must : Cond.instanceMethod m11_must.1 ∈ kT := kin6 182 (by decide +kernel) rfl
theorem kwl_m11_must : Cond.selects m11_must.1.cls m11_must.1 m11_must.1 ∈ kT := kinS 55 (by decide +kernel) rfl
theorem kwc_m11_mustName : kcode m11_mustName ∈ kT := kin6 217 (by decide +kernel) rfl
theorem kwi_m11_mustName : Cond.initialized m11_mustName.1.cls ∈ kT := kin1 12 (by decide +kernel) rfl
theorem kwm_m11_mustName : Cond.instanceMethod m11_mustName.1 ∈ kT := kin6 216 (by decide +kernel) rfl
theorem kwl_m11_mustName : Cond.selects m11_mustName.1.cls m11_mustName.1 m11_mustName.1 ∈ kT := kinS 63 (by decide +kernel) rfl
theorem kwc_m11_find : kcode m11_find ∈ kT := kin6 225 (by decide +kernel) rfl
theorem kwi_m11_find : Cond.initialized m11_find.1.cls ∈ kT := kin1 12 (by decide +kernel) rfl
theorem kwm_m11_find : Cond.instanceMethod m11_find.1 ∈ kT := kin6 224 (by decide +kernel) rfl
theorem kwl_m11_find : Cond.selects m11_find.1.cls m11_find.1 m11_find.1 ∈ kT := kinS 64 (by decide +kernel) rfl
theorem kwc_m11_newName : kcode m11_newName ∈ kT := kin6 213 (by decide +kernel) rfl
theorem kwi_m11_newName : Cond.initialized m11_newName.1.cls ∈ kT := kin1 12 (by decide +kernel) rfl
theorem kwm_m11_newName : Cond.instanceMethod m11_newName.1 ∈ kT := kin6 212 (by decide +kernel) rfl
theorem kwl_m11_newName : Cond.selects m11_newName.1.cls m11_newName.1 m11_newName.1 ∈ kT := kinS 62 (by decide +kernel) rfl
theorem kwc_m11_pairHere : kcode m11_pairHere ∈ kT := kin6 239 (by decide +kernel) rfl
theorem kwi_m11_pairHere : Cond.initialized m11_pairHere.1.cls ∈ kT := kin1 12 (by decide +kernel) rfl
theorem kwm_m11_pairHere : Cond.instanceMethod m11_pairHere.1 ∈ kT := kin6 238 (by decide +kernel) rfl
theorem kwl_m11_pairHere : Cond.selects m11_pairHere.1.cls m11_pairHere.1 m11_pairHere.1 ∈ kT := kinS 66 (by decide +kernel) rfl
theorem kwc_m11_pass : kcode m11_pass ∈ kT := kin6 199 (by decide +kernel) rfl
theorem kwi_m11_pass : Cond.initialized m11_pass.1.cls ∈ kT := kin1 12 (by decide +kernel) rfl
theorem kwm_m11_pass : Cond.instanceMethod m11_pass.1 ∈ kT := kin6 198 (by decide +kernel) rfl
theorem kwl_m11_pass : Cond.selects m11_pass.1.cls m11_pass.1 m11_pass.1 ∈ kT := kinS 59 (by decide +kernel) rfl
theorem kwc_m11_numberHere : kcode m11_numberHere ∈ kT := kin6 195 (by decide +kernel) rfl
theorem kwi_m11_numberHere : Cond.initialized m11_numberHere.1.cls ∈ kT := kin1 12 (by decide +kernel) rfl
theorem kwm_m11_numberHere : Cond.instanceMethod m11_numberHere.1 ∈ kT := kin6 194 (by decide +kernel) rfl
theorem kwl_m11_numberHere : Cond.selects m11_numberHere.1.cls m11_numberHere.1 m11_numberHere.1 ∈ kT := kinS 58 (by decide +kernel) rfl
theorem kwc_m11_number : kcode m11_number ∈ kT := kin6 191 (by decide +kernel) rfl
theorem kwi_m11_number : Cond.initialized m11_number.1.cls ∈ kT := kin1 12 (by decide +kernel) rfl
theorem kwm_m11_number : Cond.instanceMethod m11_number.1 ∈ kT := kin6 190 (by decide +kernel) rfl
theorem kwl_m11_number : Cond.selects m11_number.1.cls m11_number.1 m11_number.1 ∈ kT := kinS 57 (by decide +kernel) rfl
theorem kwc_m11_after : kcode m11_after ∈ kT := kin6 179 (by decide +kernel) rfl
theorem kwi_m11_after : Cond.initialized m11_after.1.cls ∈ kT := kin1 12 (by decide +kernel) rfl
theorem kwm_m11_after : Cond.instanceMethod m11_after.1 ∈ kT := kin6 178 (by decide +kernel) rfl
theorem kwl_m11_after : Cond.selects m11_after.1.cls m11_after.1 m11_after.1 ∈ kT := kinS 54 (by decide +kernel) rfl
theorem kwc_m11_pier : kcode m11_pier ∈ kT := kin6 130 (by decide +kernel) rfl
theorem kwi_m11_pier : Cond.initialized m11_pier.1.cls ∈ kT := kin1 12 (by decide +kernel) rfl
theorem kwm_m11_pier : Cond.instanceMethod m11_pier.1 ∈ kT := kin6 128 (by decide +kernel) rfl
theorem kwl_m11_pier : Cond.selects m11_pier.1.cls m11_pier.1 m11_pier.1 ∈ kT := kin6 129 (by decide +kernel) rfl
theorem kwc_m11_begins : kcode m11_begins ∈ kT := kin6 205 (by decide +kernel) rfl
theorem kwi_m11_begins : Cond.initialized m11_begins.1.cls ∈ kT := kin1 12 (by decide +kernel) rfl
theorem kwm_m11_begins : Cond.instanceMethod m11_begins.1 ∈ kT := kin6 204 (by decide +kernel) rfl
theorem kwl_m11_begins : Cond.selects m11_begins.1.cls m11_begins.1 m11_begins.1 ∈ kT := kinS 60 (by decide +kernel) rfl
theorem kwc_m11_readLine : kcode m11_readLine ∈ kT := kin6 159 (by decide +kernel) rfl
theorem kwi_m11_readLine : Cond.initialized m11_readLine.1.cls ∈ kT := kin1 12 (by decide +kernel) rfl
theorem kwm_m11_readLine : Cond.instanceMethod m11_readLine.1 ∈ kT := kin6 158 (by decide +kernel) rfl
theorem kwl_m11_readLine : Cond.selects m11_readLine.1.cls m11_readLine.1 m11_readLine.1 ∈ kT := kinS 50 (by decide +kernel) rfl
theorem kwc_m11_pierLine : kcode m11_pierLine ∈ kT := kin6 170 (by decide +kernel) rfl
theorem kwi_m11_pierLine : Cond.initialized m11_pierLine.1.cls ∈ kT := kin1 12 (by decide +kernel) rfl
theorem kwm_m11_pierLine : Cond.instanceMethod m11_pierLine.1 ∈ kT := kin6 169 (by decide +kernel) rfl
theorem kwl_m11_pierLine : Cond.selects m11_pierLine.1.cls m11_pierLine.1 m11_pierLine.1 ∈ kT := kinS 52 (by decide +kernel) rfl
theorem kwc_m11_pairLine : kcode m11_pairLine ∈ kT := kin6 209 (by decide +kernel) rfl
theorem kwi_m11_pairLine : Cond.initialized m11_pairLine.1.cls ∈ kT := kin1 12 (by decide +kernel) rfl
theorem kwm_m11_pairLine : Cond.instanceMethod m11_pairLine.1 ∈ kT := kin6 208 (by decide +kernel) rfl
theorem kwl_m11_pairLine : Cond.selects m11_pairLine.1.cls m11_pairLine.1 m11_pairLine.1 ∈ kT := kinS 61 (by decide +kernel) rfl
theorem kwc_m11_contractLine : kcode m11_contractLine ∈ kT := kin6 235 (by decide +kernel) rfl
theorem kwi_m11_contractLine : Cond.initialized m11_contractLine.1.cls ∈ kT := kin1 12 (by decide +kernel) rfl
theorem kwm_m11_contractLine : Cond.instanceMethod m11_contractLine.1 ∈ kT := kin6 234 (by decide +kernel) rfl
theorem kwl_m11_contractLine : Cond.selects m11_contractLine.1.cls m11_contractLine.1 m11_contractLine.1 ∈ kT := kinS 65 (by decide +kernel) rfl
theorem kwc_m11_debtLine : kcode m11_debtLine ∈ kT := kin7 4 (by decide +kernel) rfl
theorem kwi_m11_debtLine : Cond.initialized m11_debtLine.1.cls ∈ kT := kin1 12 (by decide +kernel) rfl
theorem kwm_m11_debtLine : Cond.instanceMethod m11_debtLine.1 ∈ kT := kin7 3 (by decide +kernel) rfl
theorem kwl_m11_debtLine : Cond.selects m11_debtLine.1.cls m11_debtLine.1 m11_debtLine.1 ∈ kT := kinS 67 (by decide +kernel) rfl
theorem kwc_m11_unsureLine : kcode m11_unsureLine ∈ kT := kin7 8 (by decide +kernel) rfl
theorem kwi_m11_unsureLine : Cond.initialized m11_unsureLine.1.cls ∈ kT := kin1 12 (by decide +kernel) rfl
theorem kwm_m11_unsureLine : Cond.instanceMethod m11_unsureLine.1 ∈ kT := kin7 7 (by decide +kernel) rfl
theorem kwl_m11_unsureLine : Cond.selects m11_unsureLine.1.cls m11_unsureLine.1 m11_unsureLine.1 ∈ kT := kinS 68 (by decide +kernel) rfl
theorem kwc_m11_heardLine : kcode m11_heardLine ∈ kT := kin7 12 (by decide +kernel) rfl
theorem kwi_m11_heardLine : Cond.initialized m11_heardLine.1.cls ∈ kT := kin1 12 (by decide +kernel) rfl
theorem kwm_m11_heardLine : Cond.instanceMethod m11_heardLine.1 ∈ kT := kin7 11 (by decide +kernel) rfl
theorem kwl_m11_heardLine : Cond.selects m11_heardLine.1.cls m11_heardLine.1 m11_heardLine.1 ∈ kT := kinS 69 (by decide +kernel) rfl
theorem kwc_m11_fault : kcode m11_fault ∈ kT := kin7 20 (by decide +kernel) rfl
theorem kwi_m11_fault : Cond.initialized m11_fault.1.cls ∈ kT := kin1 12 (by decide +kernel) rfl
theorem kwm_m11_fault : Cond.instanceMethod m11_fault.1 ∈ kT := kin7 18 (by decide +kernel) rfl
theorem kwl_m11_fault : Cond.selects m11_fault.1.cls m11_fault.1 m11_fault.1 ∈ kT := kin7 19 (by decide +kernel) rfl
theorem kwc_m11_where : kcode m11_where ∈ kT := kin7 24 (by decide +kernel) rfl
theorem kwi_m11_where : Cond.initialized m11_where.1.cls ∈ kT := kin1 12 (by decide +kernel) rfl
theorem kwm_m11_where : Cond.instanceMethod m11_where.1 ∈ kT := kin7 22 (by decide +kernel) rfl
theorem kwl_m11_where : Cond.selects m11_where.1.cls m11_where.1 m11_where.1 ∈ kT := kin7 23 (by decide +kernel) rfl
theorem kwc_m11_isPair : kcode m11_isPair ∈ kT := kin7 32 (by decide +kernel) rfl
theorem kwi_m11_isPair : Cond.initialized m11_isPair.1.cls ∈ kT := kin1 12 (by decide +kernel) rfl
theorem kwm_m11_isPair : Cond.instanceMethod m11_isPair.1 ∈ kT := kin7 31 (by decide +kernel) rfl
theorem kwl_m11_isPair : Cond.selects m11_isPair.1.cls m11_isPair.1 m11_isPair.1 ∈ kT := kinS 70 (by decide +kernel) rfl
theorem kwc_m11_areTwo : kcode m11_areTwo ∈ kT := kin7 125 (by decide +kernel) rfl
theorem kwi_m11_areTwo : Cond.initialized m11_areTwo.1.cls ∈ kT := kin1 12 (by decide +kernel) rfl
theorem kwm_m11_areTwo : Cond.instanceMethod m11_areTwo.1 ∈ kT := kin7 124 (by decide +kernel) rfl
theorem kwl_m11_areTwo : Cond.selects m11_areTwo.1.cls m11_areTwo.1 m11_areTwo.1 ∈ kT := kinS 82 (by decide +kernel) rfl
theorem kwc_m11_why : kcode m11_why ∈ kT := kin7 48 (by decide +kernel) rfl
theorem kwi_m11_why : Cond.initialized m11_why.1.cls ∈ kT := kin1 12 (by decide +kernel) rfl
theorem kwm_m11_why : Cond.instanceMethod m11_why.1 ∈ kT := kin7 47 (by decide +kernel) rfl
theorem kwl_m11_why : Cond.selects m11_why.1.cls m11_why.1 m11_why.1 ∈ kT := kinS 73 (by decide +kernel) rfl
theorem kwc_m11_within : kcode m11_within ∈ kT := kin7 68 (by decide +kernel) rfl
theorem kwi_m11_within : Cond.initialized m11_within.1.cls ∈ kT := kin1 12 (by decide +kernel) rfl
theorem kwm_m11_within : Cond.instanceMethod m11_within.1 ∈ kT := kin7 67 (by decide +kernel) rfl
theorem kwl_m11_within : Cond.selects m11_within.1.cls m11_within.1 m11_within.1 ∈ kT := kinS 78 (by decide +kernel) rfl
theorem kwc_m11_byLaw : kcode m11_byLaw ∈ kT := kin7 64 (by decide +kernel) rfl
theorem kwi_m11_byLaw : Cond.initialized m11_byLaw.1.cls ∈ kT := kin1 12 (by decide +kernel) rfl
theorem kwm_m11_byLaw : Cond.instanceMethod m11_byLaw.1 ∈ kT := kin7 63 (by decide +kernel) rfl
theorem kwl_m11_byLaw : Cond.selects m11_byLaw.1.cls m11_byLaw.1 m11_byLaw.1 ∈ kT := kinS 77 (by decide +kernel) rfl
theorem kwc_m11_behind : kcode m11_behind ∈ kT := kin7 60 (by decide +kernel) rfl
theorem kwi_m11_behind : Cond.initialized m11_behind.1.cls ∈ kT := kin1 12 (by decide +kernel) rfl
theorem kwm_m11_behind : Cond.instanceMethod m11_behind.1 ∈ kT := kin7 59 (by decide +kernel) rfl
theorem kwl_m11_behind : Cond.selects m11_behind.1.cls m11_behind.1 m11_behind.1 ∈ kT := kinS 76 (by decide +kernel) rfl
theorem kwc_m11_isMore : kcode m11_isMore ∈ kT := kin7 36 (by decide +kernel) rfl
theorem kwi_m11_isMore : Cond.initialized m11_isMore.1.cls ∈ kT := kin1 12 (by decide +kernel) rfl
theorem kwm_m11_isMore : Cond.instanceMethod m11_isMore.1 ∈ kT := kin7 35 (by decide +kernel) rfl
theorem kwl_m11_isMore : Cond.selects m11_isMore.1.cls m11_isMore.1 m11_isMore.1 ∈ kT := kinS 71 (by decide +kernel) rfl
theorem kwc_m11_saysBy : kcode m11_saysBy ∈ kT := kin7 56 (by decide +kernel) rfl
theorem kwi_m11_saysBy : Cond.initialized m11_saysBy.1.cls ∈ kT := kin1 12 (by decide +kernel) rfl
theorem kwm_m11_saysBy : Cond.instanceMethod m11_saysBy.1 ∈ kT := kin7 55 (by decide +kernel) rfl
theorem kwl_m11_saysBy : Cond.selects m11_saysBy.1.cls m11_saysBy.1 m11_saysBy.1 ∈ kT := kinS 75 (by decide +kernel) rfl
theorem kwc_m11_saysIn : kcode m11_saysIn ∈ kT := kin7 52 (by decide +kernel) rfl
theorem kwi_m11_saysIn : Cond.initialized m11_saysIn.1.cls ∈ kT := kin1 12 (by decide +kernel) rfl
theorem kwm_m11_saysIn : Cond.instanceMethod m11_saysIn.1 ∈ kT := kin7 51 (by decide +kernel) rfl
theorem kwl_m11_saysIn : Cond.selects m11_saysIn.1.cls m11_saysIn.1 m11_saysIn.1 ∈ kT := kinS 74 (by decide +kernel) rfl
theorem kwc_m11_goRound : kcode m11_goRound ∈ kT := kin7 88 (by decide +kernel) rfl
theorem kwi_m11_goRound : Cond.initialized m11_goRound.1.cls ∈ kT := kin1 12 (by decide +kernel) rfl
theorem kwm_m11_goRound : Cond.instanceMethod m11_goRound.1 ∈ kT := kin7 87 (by decide +kernel) rfl
theorem kwl_m11_goRound : Cond.selects m11_goRound.1.cls m11_goRound.1 m11_goRound.1 ∈ kT := kinS 79 (by decide +kernel) rfl
theorem kwc_m11_isRoundOf : kcode m11_isRoundOf ∈ kT := kin7 92 (by decide +kernel) rfl
theorem kwi_m11_isRoundOf : Cond.initialized m11_isRoundOf.1.cls ∈ kT := kin1 12 (by decide +kernel) rfl
theorem kwm_m11_isRoundOf : Cond.instanceMethod m11_isRoundOf.1 ∈ kT := kin7 91 (by decide +kernel) rfl
theorem kwl_m11_isRoundOf : Cond.selects m11_isRoundOf.1.cls m11_isRoundOf.1 m11_isRoundOf.1 ∈ kT := kinS 80 (by decide +kernel) rfl
theorem kwc_m11_pair : kcode m11_pair ∈ kT := kin7 28 (by decide +kernel) rfl
theorem kwi_m11_pair : Cond.initialized m11_pair.1.cls ∈ kT := kin1 12 (by decide +kernel) rfl
theorem kwm_m11_pair : Cond.instanceMethod m11_pair.1 ∈ kT := kin7 26 (by decide +kernel) rfl
theorem kwl_m11_pair : Cond.selects m11_pair.1.cls m11_pair.1 m11_pair.1 ∈ kT := kin7 27 (by decide +kernel) rfl
theorem kwc_m11_aheadWhy : kcode m11_aheadWhy ∈ kT := kin7 44 (by decide +kernel) rfl
theorem kwi_m11_aheadWhy : Cond.initialized m11_aheadWhy.1.cls ∈ kT := kin1 12 (by decide +kernel) rfl
theorem kwm_m11_aheadWhy : Cond.instanceMethod m11_aheadWhy.1 ∈ kT := kin7 43 (by decide +kernel) rfl
theorem kwl_m11_aheadWhy : Cond.selects m11_aheadWhy.1.cls m11_aheadWhy.1 m11_aheadWhy.1 ∈ kT := kinS 72 (by decide +kernel) rfl
theorem kwc_m11_says : kcode m11_says ∈ kT := kin7 40 (by decide +kernel) rfl
theorem kwi_m11_says : Cond.initialized m11_says.1.cls ∈ kT := kin1 12 (by decide +kernel) rfl
theorem kwm_m11_says : Cond.instanceMethod m11_says.1 ∈ kT := kin7 38 (by decide +kernel) rfl
theorem kwl_m11_says : Cond.selects m11_says.1.cls m11_says.1 m11_says.1 ∈ kT := kin7 39 (by decide +kernel) rfl
theorem kwc_m11_saysAll : kcode m11_saysAll ∈ kT := kin7 72 (by decide +kernel) rfl
theorem kwi_m11_saysAll : Cond.initialized m11_saysAll.1.cls ∈ kT := kin1 12 (by decide +kernel) rfl
theorem kwm_m11_saysAll : Cond.instanceMethod m11_saysAll.1 ∈ kT := kin7 70 (by decide +kernel) rfl
theorem kwl_m11_saysAll : Cond.selects m11_saysAll.1.cls m11_saysAll.1 m11_saysAll.1 ∈ kT := kin7 71 (by decide +kernel) rfl
theorem kwc_m11_moreIn : kcode m11_moreIn ∈ kT := kin7 76 (by decide +kernel) rfl
theorem kwi_m11_moreIn : Cond.initialized m11_moreIn.1.cls ∈ kT := kin1 12 (by decide +kernel) rfl
theorem kwm_m11_moreIn : Cond.instanceMethod m11_moreIn.1 ∈ kT := kin7 74 (by decide +kernel) rfl
theorem kwl_m11_moreIn : Cond.selects m11_moreIn.1.cls m11_moreIn.1 m11_moreIn.1 ∈ kT := kin7 75 (by decide +kernel) rfl
theorem kwc_m11_moreTimes : kcode m11_moreTimes ∈ kT := kin7 80 (by decide +kernel) rfl
theorem kwi_m11_moreTimes : Cond.initialized m11_moreTimes.1.cls ∈ kT := kin1 12 (by decide +kernel) rfl
theorem kwm_m11_moreTimes : Cond.instanceMethod m11_moreTimes.1 ∈ kT := kin7 78 (by decide +kernel) rfl
theorem kwl_m11_moreTimes : Cond.selects m11_moreTimes.1.cls m11_moreTimes.1 m11_moreTimes.1 ∈ kT := kin7 79 (by decide +kernel) rfl
theorem kwc_m11_settles : kcode m11_settles ∈ kT := kin7 84 (by decide +kernel) rfl
theorem kwi_m11_settles : Cond.initialized m11_settles.1.cls ∈ kT := kin1 12 (by decide +kernel) rfl
theorem kwm_m11_settles : Cond.instanceMethod m11_settles.1 ∈ kT := kin7 82 (by decide +kernel) rfl
theorem kwl_m11_settles : Cond.selects m11_settles.1.cls m11_settles.1 m11_settles.1 ∈ kT := kin7 83 (by decide +kernel) rfl
theorem kwc_m11_round : kcode m11_round ∈ kT := kin7 96 (by decide +kernel) rfl
theorem kwi_m11_round : Cond.initialized m11_round.1.cls ∈ kT := kin1 12 (by decide +kernel) rfl
theorem kwm_m11_round : Cond.instanceMethod m11_round.1 ∈ kT := kin7 94 (by decide +kernel) rfl
theorem kwl_m11_round : Cond.selects m11_round.1.cls m11_round.1 m11_round.1 ∈ kT := kin7 95 (by decide +kernel) rfl
theorem kwc_m11_saysLate : kcode m11_saysLate ∈ kT := kin7 100 (by decide +kernel) rfl
theorem kwi_m11_saysLate : Cond.initialized m11_saysLate.1.cls ∈ kT := kin1 12 (by decide +kernel) rfl
theorem kwm_m11_saysLate : Cond.instanceMethod m11_saysLate.1 ∈ kT := kin7 98 (by decide +kernel) rfl
theorem kwl_m11_saysLate : Cond.selects m11_saysLate.1.cls m11_saysLate.1 m11_saysLate.1 ∈ kT := kin7 99 (by decide +kernel) rfl
theorem kwc_m11_extremeOf : kcode m11_extremeOf ∈ kT := kin7 109 (by decide +kernel) rfl
theorem kwi_m11_extremeOf : Cond.initialized m11_extremeOf.1.cls ∈ kT := kin1 12 (by decide +kernel) rfl
theorem kwm_m11_extremeOf : Cond.instanceMethod m11_extremeOf.1 ∈ kT := kin7 108 (by decide +kernel) rfl
theorem kwl_m11_extremeOf : Cond.selects m11_extremeOf.1.cls m11_extremeOf.1 m11_extremeOf.1 ∈ kT := kinS 81 (by decide +kernel) rfl
theorem kwc_m11_roundMost : kcode m11_roundMost ∈ kT := kin7 105 (by decide +kernel) rfl
theorem kwi_m11_roundMost : Cond.initialized m11_roundMost.1.cls ∈ kT := kin1 12 (by decide +kernel) rfl
theorem kwm_m11_roundMost : Cond.instanceMethod m11_roundMost.1 ∈ kT := kin7 103 (by decide +kernel) rfl
theorem kwl_m11_roundMost : Cond.selects m11_roundMost.1.cls m11_roundMost.1 m11_roundMost.1 ∈ kT := kin7 104 (by decide +kernel) rfl
theorem kwc_m11_roundLeast : kcode m11_roundLeast ∈ kT := kin7 113 (by decide +kernel) rfl
theorem kwi_m11_roundLeast : Cond.initialized m11_roundLeast.1.cls ∈ kT := kin1 12 (by decide +kernel) rfl
theorem kwm_m11_roundLeast : Cond.instanceMethod m11_roundLeast.1 ∈ kT := kin7 111 (by decide +kernel) rfl
theorem kwl_m11_roundLeast : Cond.selects m11_roundLeast.1.cls m11_roundLeast.1 m11_roundLeast.1 ∈ kT := kin7 112 (by decide +kernel) rfl
theorem kwc_m11_turnsAbout : kcode m11_turnsAbout ∈ kT := kin7 117 (by decide +kernel) rfl
theorem kwi_m11_turnsAbout : Cond.initialized m11_turnsAbout.1.cls ∈ kT := kin1 12 (by decide +kernel) rfl
theorem kwm_m11_turnsAbout : Cond.instanceMethod m11_turnsAbout.1 ∈ kT := kin7 115 (by decide +kernel) rfl
theorem kwl_m11_turnsAbout : Cond.selects m11_turnsAbout.1.cls m11_turnsAbout.1 m11_turnsAbout.1 ∈ kT := kin7 116 (by decide +kernel) rfl
theorem kwc_m11_alikeIn : kcode m11_alikeIn ∈ kT := kin7 121 (by decide +kernel) rfl
theorem kwi_m11_alikeIn : Cond.initialized m11_alikeIn.1.cls ∈ kT := kin1 12 (by decide +kernel) rfl
theorem kwm_m11_alikeIn : Cond.instanceMethod m11_alikeIn.1 ∈ kT := kin7 119 (by decide +kernel) rfl
theorem kwl_m11_alikeIn : Cond.selects m11_alikeIn.1.cls m11_alikeIn.1 m11_alikeIn.1 ∈ kT := kin7 120 (by decide +kernel) rfl
theorem kwc_m11_loudest : kcode m11_loudest ∈ kT := kin7 129 (by decide +kernel) rfl
theorem kwi_m11_loudest : Cond.initialized m11_loudest.1.cls ∈ kT := kin1 12 (by decide +kernel) rfl
theorem kwm_m11_loudest : Cond.instanceMethod m11_loudest.1 ∈ kT := kin7 127 (by decide +kernel) rfl
theorem kwl_m11_loudest : Cond.selects m11_loudest.1.cls m11_loudest.1 m11_loudest.1 ∈ kT := kin7 128 (by decide +kernel) rfl
theorem kwc_m11_mastersIn : kcode m11_mastersIn ∈ kT := kin7 137 (by decide +kernel) rfl
theorem kwi_m11_mastersIn : Cond.initialized m11_mastersIn.1.cls ∈ kT := kin1 12 (by decide +kernel) rfl
theorem kwm_m11_mastersIn : Cond.instanceMethod m11_mastersIn.1 ∈ kT := kin7 136 (by decide +kernel) rfl
theorem kwl_m11_mastersIn : Cond.selects m11_mastersIn.1.cls m11_mastersIn.1 m11_mastersIn.1 ∈ kT := kinS 83 (by decide +kernel) rfl
theorem kwc_m11_masters : kcode m11_masters ∈ kT := kin7 133 (by decide +kernel) rfl
theorem kwi_m11_masters : Cond.initialized m11_masters.1.cls ∈ kT := kin1 12 (by decide +kernel) rfl
theorem kwm_m11_masters : Cond.instanceMethod m11_masters.1 ∈ kT := kin7 131 (by decide +kernel) rfl
theorem kwl_m11_masters : Cond.selects m11_masters.1.cls m11_masters.1 m11_masters.1 ∈ kT := kin7 132 (by decide +kernel) rfl
theorem kwc_m11_overtakes : kcode m11_overtakes ∈ kT := kin7 141 (by decide +kernel) rfl
theorem kwi_m11_overtakes : Cond.initialized m11_overtakes.1.cls ∈ kT := kin1 12 (by decide +kernel) rfl
theorem kwm_m11_overtakes : Cond.instanceMethod m11_overtakes.1 ∈ kT := kin7 139 (by decide +kernel) rfl
theorem kwl_m11_overtakes : Cond.selects m11_overtakes.1.cls m11_overtakes.1 m11_overtakes.1 ∈ kT := kin7 140 (by decide +kernel) rfl
theorem kwc_m11_widest : kcode m11_widest ∈ kT := kin7 145 (by decide +kernel) rfl
theorem kwi_m11_widest : Cond.initialized m11_widest.1.cls ∈ kT := kin1 12 (by decide +kernel) rfl
theorem kwm_m11_widest : Cond.instanceMethod m11_widest.1 ∈ kT := kin7 143 (by decide +kernel) rfl
theorem kwl_m11_widest : Cond.selects m11_widest.1.cls m11_widest.1 m11_widest.1 ∈ kT := kin7 144 (by decide +kernel) rfl
theorem kwc_m11_sumAll : kcode m11_sumAll ∈ kT := kin7 149 (by decide +kernel) rfl
theorem kwi_m11_sumAll : Cond.initialized m11_sumAll.1.cls ∈ kT := kin1 12 (by decide +kernel) rfl
theorem kwm_m11_sumAll : Cond.instanceMethod m11_sumAll.1 ∈ kT := kin7 147 (by decide +kernel) rfl
theorem kwl_m11_sumAll : Cond.selects m11_sumAll.1.cls m11_sumAll.1 m11_sumAll.1 ∈ kT := kin7 148 (by decide +kernel) rfl
theorem kwc_m11_bestEvery : kcode m11_bestEvery ∈ kT := kin7 157 (by decide +kernel) rfl
theorem kwi_m11_bestEvery : Cond.initialized m11_bestEvery.1.cls ∈ kT := kin1 12 (by decide +kernel) rfl
theorem kwm_m11_bestEvery : Cond.instanceMethod m11_bestEvery.1 ∈ kT := kin7 156 (by decide +kernel) rfl
theorem kwl_m11_bestEvery : Cond.selects m11_bestEvery.1.cls m11_bestEvery.1 m11_bestEvery.1 ∈ kT := kinS 84 (by decide +kernel) rfl
theorem kwc_m11_everyFor : kcode m11_everyFor ∈ kT := kin7 153 (by decide +kernel) rfl
theorem kwi_m11_everyFor : Cond.initialized m11_everyFor.1.cls ∈ kT := kin1 12 (by decide +kernel) rfl
theorem kwm_m11_everyFor : Cond.instanceMethod m11_everyFor.1 ∈ kT := kin7 151 (by decide +kernel) rfl
theorem kwl_m11_everyFor : Cond.selects m11_everyFor.1.cls m11_everyFor.1 m11_everyFor.1 ∈ kT := kin7 152 (by decide +kernel) rfl
theorem kwc_m11_everySays : kcode m11_everySays ∈ kT := kin7 161 (by decide +kernel) rfl
theorem kwi_m11_everySays : Cond.initialized m11_everySays.1.cls ∈ kT := kin1 12 (by decide +kernel) rfl
theorem kwm_m11_everySays : Cond.instanceMethod m11_everySays.1 ∈ kT := kin7 159 (by decide +kernel) rfl
theorem kwl_m11_everySays : Cond.selects m11_everySays.1.cls m11_everySays.1 m11_everySays.1 ∈ kT := kin7 160 (by decide +kernel) rfl
theorem kwc_m11_isNeverMore : kcode m11_isNeverMore ∈ kT := kin7 169 (by decide +kernel) rfl
theorem kwi_m11_isNeverMore : Cond.initialized m11_isNeverMore.1.cls ∈ kT := kin1 12 (by decide +kernel) rfl
theorem kwm_m11_isNeverMore : Cond.instanceMethod m11_isNeverMore.1 ∈ kT := kin7 168 (by decide +kernel) rfl
theorem kwl_m11_isNeverMore : Cond.selects m11_isNeverMore.1.cls m11_isNeverMore.1 m11_isNeverMore.1 ∈ kT := kinS 85 (by decide +kernel) rfl
theorem kwc_m11_everyNever : kcode m11_everyNever ∈ kT := kin7 165 (by decide +kernel) rfl
theorem kwi_m11_everyNever : Cond.initialized m11_everyNever.1.cls ∈ kT := kin1 12 (by decide +kernel) rfl
theorem kwm_m11_everyNever : Cond.instanceMethod m11_everyNever.1 ∈ kT := kin7 163 (by decide +kernel) rfl
theorem kwl_m11_everyNever : Cond.selects m11_everyNever.1.cls m11_everyNever.1 m11_everyNever.1 ∈ kT := kin7 164 (by decide +kernel) rfl
theorem kwc_m11_stepFor : kcode m11_stepFor ∈ kT := kin7 173 (by decide +kernel) rfl
theorem kwi_m11_stepFor : Cond.initialized m11_stepFor.1.cls ∈ kT := kin1 12 (by decide +kernel) rfl
theorem kwm_m11_stepFor : Cond.instanceMethod m11_stepFor.1 ∈ kT := kin7 171 (by decide +kernel) rfl
theorem kwl_m11_stepFor : Cond.selects m11_stepFor.1.cls m11_stepFor.1 m11_stepFor.1 ∈ kT := kin7 172 (by decide +kernel) rfl
theorem kwc_m11_stepBy : kcode m11_stepBy ∈ kT := kin7 193 (by decide +kernel) rfl
theorem kwi_m11_stepBy : Cond.initialized m11_stepBy.1.cls ∈ kT := kin1 12 (by decide +kernel) rfl
theorem kwm_m11_stepBy : Cond.instanceMethod m11_stepBy.1 ∈ kT := kin7 192 (by decide +kernel) rfl
theorem kwl_m11_stepBy : Cond.selects m11_stepBy.1.cls m11_stepBy.1 m11_stepBy.1 ∈ kT := kinS 89 (by decide +kernel) rfl
theorem kwc_m11_saidThen : kcode m11_saidThen ∈ kT := kin7 189 (by decide +kernel) rfl
theorem kwi_m11_saidThen : Cond.initialized m11_saidThen.1.cls ∈ kT := kin1 12 (by decide +kernel) rfl
theorem kwm_m11_saidThen : Cond.instanceMethod m11_saidThen.1 ∈ kT := kin7 188 (by decide +kernel) rfl
theorem kwl_m11_saidThen : Cond.selects m11_saidThen.1.cls m11_saidThen.1 m11_saidThen.1 ∈ kT := kinS 88 (by decide +kernel) rfl
theorem kwc_m11_wrongBy : kcode m11_wrongBy ∈ kT := kin7 185 (by decide +kernel) rfl
theorem kwi_m11_wrongBy : Cond.initialized m11_wrongBy.1.cls ∈ kT := kin1 12 (by decide +kernel) rfl
theorem kwm_m11_wrongBy : Cond.instanceMethod m11_wrongBy.1 ∈ kT := kin7 184 (by decide +kernel) rfl
theorem kwl_m11_wrongBy : Cond.selects m11_wrongBy.1.cls m11_wrongBy.1 m11_wrongBy.1 ∈ kT := kinS 87 (by decide +kernel) rfl
theorem kwc_m11_seekSets : kcode m11_seekSets ∈ kT := kin7 181 (by decide +kernel) rfl
theorem kwi_m11_seekSets : Cond.initialized m11_seekSets.1.cls ∈ kT := kin1 12 (by decide +kernel) rfl
theorem kwm_m11_seekSets : Cond.instanceMethod m11_seekSets.1 ∈ kT := kin7 180 (by decide +kernel) rfl
theorem kwl_m11_seekSets : Cond.selects m11_seekSets.1.cls m11_seekSets.1 m11_seekSets.1 ∈ kT := kinS 86 (by decide +kernel) rfl
theorem kwc_m11_fits : kcode m11_fits ∈ kT := kin7 177 (by decide +kernel) rfl
theorem kwi_m11_fits : Cond.initialized m11_fits.1.cls ∈ kT := kin1 12 (by decide +kernel) rfl
theorem kwm_m11_fits : Cond.instanceMethod m11_fits.1 ∈ kT := kin7 175 (by decide +kernel) rfl
theorem kwl_m11_fits : Cond.selects m11_fits.1.cls m11_fits.1 m11_fits.1 ∈ kT := kin7 176 (by decide +kernel) rfl
theorem kwc_m11_fitAt : kcode m11_fitAt ∈ kT := kin7 200 (by decide +kernel) rfl
theorem kwi_m11_fitAt : Cond.initialized m11_fitAt.1.cls ∈ kT := kin1 12 (by decide +kernel) rfl
theorem kwm_m11_fitAt : Cond.instanceMethod m11_fitAt.1 ∈ kT := kin7 198 (by decide +kernel) rfl
theorem kwl_m11_fitAt : Cond.selects m11_fitAt.1.cls m11_fitAt.1 m11_fitAt.1 ∈ kT := kin7 199 (by decide +kernel) rfl
theorem kwc_m11_could : kcode m11_could ∈ kT := kin7 204 (by decide +kernel) rfl
theorem kwi_m11_could : Cond.initialized m11_could.1.cls ∈ kT := kin1 12 (by decide +kernel) rfl
theorem kwm_m11_could : Cond.instanceMethod m11_could.1 ∈ kT := kin7 202 (by decide +kernel) rfl
theorem kwl_m11_could : Cond.selects m11_could.1.cls m11_could.1 m11_could.1 ∈ kT := kin7 203 (by decide +kernel) rfl
theorem kwc_m11_surely : kcode m11_surely ∈ kT := kin7 208 (by decide +kernel) rfl
theorem kwi_m11_surely : Cond.initialized m11_surely.1.cls ∈ kT := kin1 12 (by decide +kernel) rfl
theorem kwm_m11_surely : Cond.instanceMethod m11_surely.1 ∈ kT := kin7 206 (by decide +kernel) rfl
theorem kwl_m11_surely : Cond.selects m11_surely.1.cls m11_surely.1 m11_surely.1 ∈ kT := kin7 207 (by decide +kernel) rfl
theorem kwc_m11_leavesOf : kcode m11_leavesOf ∈ kT := kin7 220 (by decide +kernel) rfl
theorem kwi_m11_leavesOf : Cond.initialized m11_leavesOf.1.cls ∈ kT := kin1 12 (by decide +kernel) rfl
theorem kwm_m11_leavesOf : Cond.instanceMethod m11_leavesOf.1 ∈ kT := kin7 219 (by decide +kernel) rfl
theorem kwl_m11_leavesOf : Cond.selects m11_leavesOf.1.cls m11_leavesOf.1 m11_leavesOf.1 ∈ kT := kinS 91 (by decide +kernel) rfl
theorem kwc_m11_askOf : kcode m11_askOf ∈ kT := kin7 216 (by decide +kernel) rfl
theorem kwi_m11_askOf : Cond.initialized m11_askOf.1.cls ∈ kT := kin1 12 (by decide +kernel) rfl
theorem kwm_m11_askOf : Cond.instanceMethod m11_askOf.1 ∈ kT := kin7 215 (by decide +kernel) rfl
theorem kwl_m11_askOf : Cond.selects m11_askOf.1.cls m11_askOf.1 m11_askOf.1 ∈ kT := kinS 90 (by decide +kernel) rfl
theorem kwc_m11_ask : kcode m11_ask ∈ kT := kin7 212 (by decide +kernel) rfl
theorem kwi_m11_ask : Cond.initialized m11_ask.1.cls ∈ kT := kin1 12 (by decide +kernel) rfl
theorem kwm_m11_ask : Cond.instanceMethod m11_ask.1 ∈ kT := kin7 210 (by decide +kernel) rfl
theorem kwl_m11_ask : Cond.selects m11_ask.1.cls m11_ask.1 m11_ask.1 ∈ kT := kin7 211 (by decide +kernel) rfl
theorem kwc_m11_askLeaves : kcode m11_askLeaves ∈ kT := kin7 224 (by decide +kernel) rfl
theorem kwi_m11_askLeaves : Cond.initialized m11_askLeaves.1.cls ∈ kT := kin1 12 (by decide +kernel) rfl
theorem kwm_m11_askLeaves : Cond.instanceMethod m11_askLeaves.1 ∈ kT := kin7 222 (by decide +kernel) rfl
theorem kwl_m11_askLeaves : Cond.selects m11_askLeaves.1.cls m11_askLeaves.1 m11_askLeaves.1 ∈ kT := kin7 223 (by decide +kernel) rfl
theorem kwc_m11_judge : kcode m11_judge ∈ kT := kin7 228 (by decide +kernel) rfl
theorem kwi_m11_judge : Cond.initialized m11_judge.1.cls ∈ kT := kin1 12 (by decide +kernel) rfl
theorem kwm_m11_judge : Cond.instanceMethod m11_judge.1 ∈ kT := kin7 226 (by decide +kernel) rfl
theorem kwl_m11_judge : Cond.selects m11_judge.1.cls m11_judge.1 m11_judge.1 ∈ kT := kin7 227 (by decide +kernel) rfl
theorem kwc_m11_third : kcode m11_third ∈ kT := kin7 232 (by decide +kernel) rfl
theorem kwi_m11_third : Cond.initialized m11_third.1.cls ∈ kT := kin1 12 (by decide +kernel) rfl
theorem kwm_m11_third : Cond.instanceMethod m11_third.1 ∈ kT := kin7 230 (by decide +kernel) rfl
theorem kwl_m11_third : Cond.selects m11_third.1.cls m11_third.1 m11_third.1 ∈ kT := kin7 231 (by decide +kernel) rfl
theorem kwc_m11_debtOf : kcode m11_debtOf ∈ kT := kin8 0 (by decide +kernel) rfl
theorem kwi_m11_debtOf : Cond.initialized m11_debtOf.1.cls ∈ kT := kin1 12 (by decide +kernel) rfl
theorem kwm_m11_debtOf : Cond.instanceMethod m11_debtOf.1 ∈ kT := kin7 239 (by decide +kernel) rfl
theorem kwl_m11_debtOf : Cond.selects m11_debtOf.1.cls m11_debtOf.1 m11_debtOf.1 ∈ kT := kinS 92 (by decide +kernel) rfl
theorem kwc_m11_netOf : kcode m11_netOf ∈ kT := kin8 8 (by decide +kernel) rfl
theorem kwi_m11_netOf : Cond.initialized m11_netOf.1.cls ∈ kT := kin1 12 (by decide +kernel) rfl
theorem kwm_m11_netOf : Cond.instanceMethod m11_netOf.1 ∈ kT := kin8 7 (by decide +kernel) rfl
theorem kwl_m11_netOf : Cond.selects m11_netOf.1.cls m11_netOf.1 m11_netOf.1 ∈ kT := kinS 93 (by decide +kernel) rfl
theorem kwc_m11_owes : kcode m11_owes ∈ kT := kin7 236 (by decide +kernel) rfl
theorem kwi_m11_owes : Cond.initialized m11_owes.1.cls ∈ kT := kin1 12 (by decide +kernel) rfl
theorem kwm_m11_owes : Cond.instanceMethod m11_owes.1 ∈ kT := kin7 234 (by decide +kernel) rfl
theorem kwl_m11_owes : Cond.selects m11_owes.1.cls m11_owes.1 m11_owes.1 ∈ kT := kin7 235 (by decide +kernel) rfl
theorem kwc_m11_net : kcode m11_net ∈ kT := kin8 4 (by decide +kernel) rfl
theorem kwi_m11_net : Cond.initialized m11_net.1.cls ∈ kT := kin1 12 (by decide +kernel) rfl
theorem kwm_m11_net : Cond.instanceMethod m11_net.1 ∈ kT := kin8 2 (by decide +kernel) rfl
theorem kwl_m11_net : Cond.selects m11_net.1.cls m11_net.1 m11_net.1 ∈ kT := kin8 3 (by decide +kernel) rfl
theorem kwc_m11_due : kcode m11_due ∈ kT := kin8 13 (by decide +kernel) rfl
theorem kwi_m11_due : Cond.initialized m11_due.1.cls ∈ kT := kin1 12 (by decide +kernel) rfl
theorem kwm_m11_due : Cond.instanceMethod m11_due.1 ∈ kT := kin8 11 (by decide +kernel) rfl
theorem kwl_m11_due : Cond.selects m11_due.1.cls m11_due.1 m11_due.1 ∈ kT := kin8 12 (by decide +kernel) rfl
theorem kwc_m11_creditor : kcode m11_creditor ∈ kT := kin8 17 (by decide +kernel) rfl
theorem kwi_m11_creditor : Cond.initialized m11_creditor.1.cls ∈ kT := kin1 12 (by decide +kernel) rfl
theorem kwm_m11_creditor : Cond.instanceMethod m11_creditor.1 ∈ kT := kin8 15 (by decide +kernel) rfl
theorem kwl_m11_creditor : Cond.selects m11_creditor.1.cls m11_creditor.1 m11_creditor.1 ∈ kT := kin8 16 (by decide +kernel) rfl
theorem kwc_m11_netsOf : kcode m11_netsOf ∈ kT := kin8 32 (by decide +kernel) rfl
theorem kwi_m11_netsOf : Cond.initialized m11_netsOf.1.cls ∈ kT := kin1 12 (by decide +kernel) rfl
theorem kwm_m11_netsOf : Cond.instanceMethod m11_netsOf.1 ∈ kT := kin8 31 (by decide +kernel) rfl
theorem kwl_m11_netsOf : Cond.selects m11_netsOf.1.cls m11_netsOf.1 m11_netsOf.1 ∈ kT := kinS 95 (by decide +kernel) rfl
theorem kwc_m11_groupsOf : kcode m11_groupsOf ∈ kT := kin8 28 (by decide +kernel) rfl
theorem kwi_m11_groupsOf : Cond.initialized m11_groupsOf.1.cls ∈ kT := kin1 12 (by decide +kernel) rfl
theorem kwm_m11_groupsOf : Cond.instanceMethod m11_groupsOf.1 ∈ kT := kin8 27 (by decide +kernel) rfl
theorem kwl_m11_groupsOf : Cond.selects m11_groupsOf.1.cls m11_groupsOf.1 m11_groupsOf.1 ∈ kT := kinS 94 (by decide +kernel) rfl
theorem kwc_m11_payments : kcode m11_payments ∈ kT := kin8 21 (by decide +kernel) rfl
theorem kwi_m11_payments : Cond.initialized m11_payments.1.cls ∈ kT := kin1 12 (by decide +kernel) rfl
theorem kwm_m11_payments : Cond.instanceMethod m11_payments.1 ∈ kT := kin8 19 (by decide +kernel) rfl
theorem kwl_m11_payments : Cond.selects m11_payments.1.cls m11_payments.1 m11_payments.1 ∈ kT := kin8 20 (by decide +kernel) rfl
theorem kwc_m11_tryRing : kcode m11_tryRing ∈ kT := kin8 45 (by decide +kernel) rfl
theorem kwi_m11_tryRing : Cond.initialized m11_tryRing.1.cls ∈ kT := kin1 12 (by decide +kernel) rfl
theorem kwm_m11_tryRing : Cond.instanceMethod m11_tryRing.1 ∈ kT := kin8 44 (by decide +kernel) rfl
theorem kwl_m11_tryRing : Cond.selects m11_tryRing.1.cls m11_tryRing.1 m11_tryRing.1 ∈ kT := kinS 97 (by decide +kernel) rfl
theorem kwc_m11_seekRing : kcode m11_seekRing ∈ kT := kin8 40 (by decide +kernel) rfl
theorem kwi_m11_seekRing : Cond.initialized m11_seekRing.1.cls ∈ kT := kin1 12 (by decide +kernel) rfl
theorem kwm_m11_seekRing : Cond.instanceMethod m11_seekRing.1 ∈ kT := kin8 39 (by decide +kernel) rfl
theorem kwl_m11_seekRing : Cond.selects m11_seekRing.1.cls m11_seekRing.1 m11_seekRing.1 ∈ kT := kinS 96 (by decide +kernel) rfl
theorem kwc_m11_ring : kcode m11_ring ∈ kT := kin8 36 (by decide +kernel) rfl
theorem kwi_m11_ring : Cond.initialized m11_ring.1.cls ∈ kT := kin1 12 (by decide +kernel) rfl
theorem kwm_m11_ring : Cond.instanceMethod m11_ring.1 ∈ kT := kin8 34 (by decide +kernel) rfl
theorem kwl_m11_ring : Cond.selects m11_ring.1.cls m11_ring.1 m11_ring.1 ∈ kT := kin8 35 (by decide +kernel) rfl
theorem kwc_m11_ringAt : kcode m11_ringAt ∈ kT := kin8 49 (by decide +kernel) rfl
theorem kwi_m11_ringAt : Cond.initialized m11_ringAt.1.cls ∈ kT := kin1 12 (by decide +kernel) rfl
theorem kwm_m11_ringAt : Cond.instanceMethod m11_ringAt.1 ∈ kT := kin8 47 (by decide +kernel) rfl
theorem kwl_m11_ringAt : Cond.selects m11_ringAt.1.cls m11_ringAt.1 m11_ringAt.1 ∈ kT := kin8 48 (by decide +kernel) rfl
theorem kwc_m11_talksOf : kcode m11_talksOf ∈ kT := kin8 56 (by decide +kernel) rfl
theorem kwi_m11_talksOf : Cond.initialized m11_talksOf.1.cls ∈ kT := kin1 12 (by decide +kernel) rfl
theorem kws_m11_talksOf : Cond.static m11_talksOf.1 ∈ kT := kin8 55 (by decide +kernel) rfl
theorem kwc_m11_talks : kcode m11_talks ∈ kT := kin8 53 (by decide +kernel) rfl
theorem kwi_m11_talks : Cond.initialized m11_talks.1.cls ∈ kT := kin1 12 (by decide +kernel) rfl
theorem kwm_m11_talks : Cond.instanceMethod m11_talks.1 ∈ kT := kin8 51 (by decide +kernel) rfl
theorem kwl_m11_talks : Cond.selects m11_talks.1.cls m11_talks.1 m11_talks.1 ∈ kT := kin8 52 (by decide +kernel) rfl
theorem kwc_m11_seekRests : kcode m11_seekRests ∈ kT := kin8 64 (by decide +kernel) rfl
theorem kwi_m11_seekRests : Cond.initialized m11_seekRests.1.cls ∈ kT := kin1 12 (by decide +kernel) rfl
theorem kwm_m11_seekRests : Cond.instanceMethod m11_seekRests.1 ∈ kT := kin8 63 (by decide +kernel) rfl
theorem kwl_m11_seekRests : Cond.selects m11_seekRests.1.cls m11_seekRests.1 m11_seekRests.1 ∈ kT := kinS 98 (by decide +kernel) rfl
theorem kwc_m11_rests : kcode m11_rests ∈ kT := kin8 60 (by decide +kernel) rfl
theorem kwi_m11_rests : Cond.initialized m11_rests.1.cls ∈ kT := kin1 12 (by decide +kernel) rfl
theorem kwm_m11_rests : Cond.instanceMethod m11_rests.1 ∈ kT := kin8 58 (by decide +kernel) rfl
theorem kwl_m11_rests : Cond.selects m11_rests.1.cls m11_rests.1 m11_rests.1 ∈ kT := kin8 59 (by decide +kernel) rfl
theorem kwc_m11_rest : kcode m11_rest ∈ kT := kin8 68 (by decide +kernel) rfl
theorem kwi_m11_rest : Cond.initialized m11_rest.1.cls ∈ kT := kin1 12 (by decide +kernel) rfl
theorem kwm_m11_rest : Cond.instanceMethod m11_rest.1 ∈ kT := kin8 66 (by decide +kernel) rfl
theorem kwl_m11_rest : Cond.selects m11_rest.1.cls m11_rest.1 m11_rest.1 ∈ kT := kin8 67 (by decide +kernel) rfl
theorem kwc_m11_verdictOf : kcode m11_verdictOf ∈ kT := kin8 76 (by decide +kernel) rfl
theorem kwi_m11_verdictOf : Cond.initialized m11_verdictOf.1.cls ∈ kT := kin1 12 (by decide +kernel) rfl
theorem kwm_m11_verdictOf : Cond.instanceMethod m11_verdictOf.1 ∈ kT := kin8 75 (by decide +kernel) rfl
theorem kwl_m11_verdictOf : Cond.selects m11_verdictOf.1.cls m11_verdictOf.1 m11_verdictOf.1 ∈ kT := kinS 99 (by decide +kernel) rfl
theorem kwc_m11_verdictOdds : kcode m11_verdictOdds ∈ kT := kin8 72 (by decide +kernel) rfl
theorem kwi_m11_verdictOdds : Cond.initialized m11_verdictOdds.1.cls ∈ kT := kin1 12 (by decide +kernel) rfl
theorem kwm_m11_verdictOdds : Cond.instanceMethod m11_verdictOdds.1 ∈ kT := kin8 70 (by decide +kernel) rfl
theorem kwl_m11_verdictOdds : Cond.selects m11_verdictOdds.1.cls m11_verdictOdds.1 m11_verdictOdds.1 ∈ kT := kin8 71 (by decide +kernel) rfl
theorem kwc_m11_lookWhy : kcode m11_lookWhy ∈ kT := kin8 87 (by decide +kernel) rfl
theorem kwi_m11_lookWhy : Cond.initialized m11_lookWhy.1.cls ∈ kT := kin1 12 (by decide +kernel) rfl
theorem kwm_m11_lookWhy : Cond.instanceMethod m11_lookWhy.1 ∈ kT := kin8 86 (by decide +kernel) rfl
theorem kwl_m11_lookWhy : Cond.selects m11_lookWhy.1.cls m11_lookWhy.1 m11_lookWhy.1 ∈ kT := kinS 100 (by decide +kernel) rfl
theorem kwc_m11_looks : kcode m11_looks ∈ kT := kin8 83 (by decide +kernel) rfl
theorem kwi_m11_looks : Cond.initialized m11_looks.1.cls ∈ kT := kin1 12 (by decide +kernel) rfl
theorem kwm_m11_looks : Cond.instanceMethod m11_looks.1 ∈ kT := kin8 81 (by decide +kernel) rfl
theorem kwl_m11_looks : Cond.selects m11_looks.1.cls m11_looks.1 m11_looks.1 ∈ kT := kin8 82 (by decide +kernel) rfl
theorem kwc_m11_verdict : kcode m11_verdict ∈ kT := kin8 93 (by decide +kernel) rfl
theorem kwi_m11_verdict : Cond.initialized m11_verdict.1.cls ∈ kT := kin1 12 (by decide +kernel) rfl
theorem kwm_m11_verdict : Cond.instanceMethod m11_verdict.1 ∈ kT := kin8 91 (by decide +kernel) rfl
theorem kwl_m11_verdict : Cond.selects m11_verdict.1.cls m11_verdict.1 m11_verdict.1 ∈ kT := kin8 92 (by decide +kernel) rfl
theorem kwc_m11_tryDumb : kcode m11_tryDumb ∈ kT := kin8 101 (by decide +kernel) rfl
theorem kwi_m11_tryDumb : Cond.initialized m11_tryDumb.1.cls ∈ kT := kin1 12 (by decide +kernel) rfl
theorem kwm_m11_tryDumb : Cond.instanceMethod m11_tryDumb.1 ∈ kT := kin8 100 (by decide +kernel) rfl
theorem kwl_m11_tryDumb : Cond.selects m11_tryDumb.1.cls m11_tryDumb.1 m11_tryDumb.1 ∈ kT := kinS 101 (by decide +kernel) rfl
theorem kwc_m11_odds : kcode m11_odds ∈ kT := kin8 97 (by decide +kernel) rfl
theorem kwi_m11_odds : Cond.initialized m11_odds.1.cls ∈ kT := kin1 12 (by decide +kernel) rfl
theorem kwm_m11_odds : Cond.instanceMethod m11_odds.1 ∈ kT := kin8 95 (by decide +kernel) rfl
theorem kwl_m11_odds : Cond.selects m11_odds.1.cls m11_odds.1 m11_odds.1 ∈ kT := kin8 96 (by decide +kernel) rfl
theorem kwc_m11_mean : kcode m11_mean ∈ kT := kin8 105 (by decide +kernel) rfl
theorem kwi_m11_mean : Cond.initialized m11_mean.1.cls ∈ kT := kin1 12 (by decide +kernel) rfl
theorem kwm_m11_mean : Cond.instanceMethod m11_mean.1 ∈ kT := kin8 103 (by decide +kernel) rfl
theorem kwl_m11_mean : Cond.selects m11_mean.1.cls m11_mean.1 m11_mean.1 ∈ kT := kin8 104 (by decide +kernel) rfl
theorem kwc_m11_drawn : kcode m11_drawn ∈ kT := kin8 109 (by decide +kernel) rfl
theorem kwi_m11_drawn : Cond.initialized m11_drawn.1.cls ∈ kT := kin1 12 (by decide +kernel) rfl
theorem kwm_m11_drawn : Cond.instanceMethod m11_drawn.1 ∈ kT := kin8 107 (by decide +kernel) rfl
theorem kwl_m11_drawn : Cond.selects m11_drawn.1.cls m11_drawn.1 m11_drawn.1 ∈ kT := kin8 108 (by decide +kernel) rfl
theorem kwc_m11_note : kcode m11_note ∈ kT := kin8 117 (by decide +kernel) rfl
theorem kwi_m11_note : Cond.initialized m11_note.1.cls ∈ kT := kin1 12 (by decide +kernel) rfl
theorem kwm_m11_note : Cond.instanceMethod m11_note.1 ∈ kT := kin8 116 (by decide +kernel) rfl
theorem kwl_m11_note : Cond.selects m11_note.1.cls m11_note.1 m11_note.1 ∈ kT := kinS 102 (by decide +kernel) rfl
theorem kwc_m11_season : kcode m11_season ∈ kT := kin8 113 (by decide +kernel) rfl
theorem kwi_m11_season : Cond.initialized m11_season.1.cls ∈ kT := kin1 12 (by decide +kernel) rfl
theorem kwm_m11_season : Cond.instanceMethod m11_season.1 ∈ kT := kin8 111 (by decide +kernel) rfl
theorem kwl_m11_season : Cond.selects m11_season.1.cls m11_season.1 m11_season.1 ∈ kT := kin8 112 (by decide +kernel) rfl
theorem kwc_m11_change : kcode m11_change ∈ kT := kin8 121 (by decide +kernel) rfl
theorem kwi_m11_change : Cond.initialized m11_change.1.cls ∈ kT := kin1 12 (by decide +kernel) rfl
theorem kwm_m11_change : Cond.instanceMethod m11_change.1 ∈ kT := kin8 119 (by decide +kernel) rfl
theorem kwl_m11_change : Cond.selects m11_change.1.cls m11_change.1 m11_change.1 ∈ kT := kin8 120 (by decide +kernel) rfl
theorem kwc_m11_step : kcode m11_step ∈ kT := kin8 125 (by decide +kernel) rfl
theorem kwi_m11_step : Cond.initialized m11_step.1.cls ∈ kT := kin1 12 (by decide +kernel) rfl
theorem kwm_m11_step : Cond.instanceMethod m11_step.1 ∈ kT := kin8 123 (by decide +kernel) rfl
theorem kwl_m11_step : Cond.selects m11_step.1.cls m11_step.1 m11_step.1 ∈ kT := kin8 124 (by decide +kernel) rfl
theorem kwc_m11_pay : kcode m11_pay ∈ kT := kin8 133 (by decide +kernel) rfl
theorem kwi_m11_pay : Cond.initialized m11_pay.1.cls ∈ kT := kin1 12 (by decide +kernel) rfl
theorem kwm_m11_pay : Cond.instanceMethod m11_pay.1 ∈ kT := kin8 131 (by decide +kernel) rfl
theorem kwl_m11_pay : Cond.selects m11_pay.1.cls m11_pay.1 m11_pay.1 ∈ kT := kin8 132 (by decide +kernel) rfl
theorem kwc_m11_undo : kcode m11_undo ∈ kT := kin8 137 (by decide +kernel) rfl
theorem kwi_m11_undo : Cond.initialized m11_undo.1.cls ∈ kT := kin1 12 (by decide +kernel) rfl
theorem kwm_m11_undo : Cond.instanceMethod m11_undo.1 ∈ kT := kin8 135 (by decide +kernel) rfl
theorem kwl_m11_undo : Cond.selects m11_undo.1.cls m11_undo.1 m11_undo.1 ∈ kT := kin8 136 (by decide +kernel) rfl
theorem kwc_m11_image : kcode m11_image ∈ kT := kin8 141 (by decide +kernel) rfl
theorem kwi_m11_image : Cond.initialized m11_image.1.cls ∈ kT := kin1 12 (by decide +kernel) rfl
theorem kwm_m11_image : Cond.instanceMethod m11_image.1 ∈ kT := kin8 139 (by decide +kernel) rfl
theorem kwl_m11_image : Cond.selects m11_image.1.cls m11_image.1 m11_image.1 ∈ kT := kin8 140 (by decide +kernel) rfl
theorem kwc_m11_back : kcode m11_back ∈ kT := kin8 145 (by decide +kernel) rfl
theorem kwi_m11_back : Cond.initialized m11_back.1.cls ∈ kT := kin1 12 (by decide +kernel) rfl
theorem kwm_m11_back : Cond.instanceMethod m11_back.1 ∈ kT := kin8 143 (by decide +kernel) rfl
theorem kwl_m11_back : Cond.selects m11_back.1.cls m11_back.1 m11_back.1 ∈ kT := kin8 144 (by decide +kernel) rfl
theorem kwc_m11_led : kcode m11_led ∈ kT := kin8 149 (by decide +kernel) rfl
theorem kwi_m11_led : Cond.initialized m11_led.1.cls ∈ kT := kin1 12 (by decide +kernel) rfl
theorem kwm_m11_led : Cond.instanceMethod m11_led.1 ∈ kT := kin8 147 (by decide +kernel) rfl
theorem kwl_m11_led : Cond.selects m11_led.1.cls m11_led.1 m11_led.1 ∈ kT := kin8 148 (by decide +kernel) rfl
theorem kwc_m11_size : kcode m11_size ∈ kT := kin8 153 (by decide +kernel) rfl
theorem kwi_m11_size : Cond.initialized m11_size.1.cls ∈ kT := kin1 12 (by decide +kernel) rfl
theorem kwm_m11_size : Cond.instanceMethod m11_size.1 ∈ kT := kin8 151 (by decide +kernel) rfl
theorem kwl_m11_size : Cond.selects m11_size.1.cls m11_size.1 m11_size.1 ∈ kT := kin8 152 (by decide +kernel) rfl
theorem kwc_m11_trouble : kcode m11_trouble ∈ kT := kin8 157 (by decide +kernel) rfl
theorem kwi_m11_trouble : Cond.initialized m11_trouble.1.cls ∈ kT := kin1 12 (by decide +kernel) rfl
theorem kwm_m11_trouble : Cond.instanceMethod m11_trouble.1 ∈ kT := kin8 155 (by decide +kernel) rfl
theorem kwl_m11_trouble : Cond.selects m11_trouble.1.cls m11_trouble.1 m11_trouble.1 ∈ kT := kin8 156 (by decide +kernel) rfl
theorem kwc_mJ_abs_J9 : kcode mJ_abs_J9 ∈ kT := kin4 79 (by decide +kernel) rfl
theorem kwi_mJ_abs_J9 : Cond.initialized mJ_abs_J9.1.cls ∈ kT := kin1 14 (by decide +kernel) rfl
theorem kws_mJ_abs_J9 : Cond.static mJ_abs_J9.1 ∈ kT := kin4 78 (by decide +kernel) rfl
theorem kwc_mJ_max_J9 : kcode mJ_max_J9 ∈ kT := kin3 203 (by decide +kernel) rfl
theorem kwi_mJ_max_J9 : Cond.initialized mJ_max_J9.1.cls ∈ kT := kin1 14 (by decide +kernel) rfl
theorem kws_mJ_max_J9 : Cond.static mJ_max_J9.1 ∈ kT := kin3 202 (by decide +kernel) rfl
theorem kwc_mJ_min_J9 : kcode mJ_min_J9 ∈ kT := kin2 218 (by decide +kernel) rfl
theorem kwi_mJ_min_J9 : Cond.initialized mJ_min_J9.1.cls ∈ kT := kin1 14 (by decide +kernel) rfl
theorem kws_mJ_min_J9 : Cond.static mJ_min_J9.1 ∈ kT := kin2 217 (by decide +kernel) rfl
theorem kwc_mJ_length_J0 : kcode mJ_length_J0 ∈ kT := kin3 9 (by decide +kernel) rfl
theorem kwi_mJ_length_J0 : Cond.initialized mJ_length_J0.1.cls ∈ kT := kin1 15 (by decide +kernel) rfl
theorem kwm_mJ_length_J0 : Cond.instanceMethod mJ_length_J0.1 ∈ kT := kin3 7 (by decide +kernel) rfl
theorem kwl_mJ_length_J0 : Cond.selects mJ_length_J0.1.cls mJ_length_J0.1 mJ_length_J0.1 ∈ kT := kin3 8 (by decide +kernel) rfl
theorem kwc_mJ_charAt_J0 : kcode mJ_charAt_J0 ∈ kT := kin3 19 (by decide +kernel) rfl
theorem kwi_mJ_charAt_J0 : Cond.initialized mJ_charAt_J0.1.cls ∈ kT := kin1 15 (by decide +kernel) rfl
theorem kwm_mJ_charAt_J0 : Cond.instanceMethod mJ_charAt_J0.1 ∈ kT := kin3 17 (by decide +kernel) rfl
theorem kwl_mJ_charAt_J0 : Cond.selects mJ_charAt_J0.1.cls mJ_charAt_J0.1 mJ_charAt_J0.1 ∈ kT := kin3 18 (by decide +kernel) rfl
theorem kwc_mJ_coder_J0 : kcode mJ_coder_J0 ∈ kT := kin3 13 (by decide +kernel) rfl
theorem kwi_mJ_coder_J0 : Cond.initialized mJ_coder_J0.1.cls ∈ kT := kin1 15 (by decide +kernel) rfl
theorem kwm_mJ_coder_J0 : Cond.instanceMethod mJ_coder_J0.1 ∈ kT := kin3 11 (by decide +kernel) rfl
theorem kwl_mJ_coder_J0 : Cond.selects mJ_coder_J0.1.cls mJ_coder_J0.1 mJ_coder_J0.1 ∈ kT := kin3 12 (by decide +kernel) rfl
theorem kwc_mJ_isLatin1_J0 : kcode mJ_isLatin1_J0 ∈ kT := kin3 23 (by decide +kernel) rfl
theorem kwi_mJ_isLatin1_J0 : Cond.initialized mJ_isLatin1_J0.1.cls ∈ kT := kin1 15 (by decide +kernel) rfl
theorem kwm_mJ_isLatin1_J0 : Cond.instanceMethod mJ_isLatin1_J0.1 ∈ kT := kin3 21 (by decide +kernel) rfl
theorem kwl_mJ_isLatin1_J0 : Cond.selects mJ_isLatin1_J0.1.cls mJ_isLatin1_J0.1 mJ_isLatin1_J0.1 ∈ kT := kin3 22 (by decide +kernel) rfl
theorem kwc_mJ_checkIndex_J0 : kcode mJ_checkIndex_J0 ∈ kT := kin3 29 (by decide +kernel) rfl
theorem kwi_mJ_checkIndex_J0 : Cond.initialized mJ_checkIndex_J0.1.cls ∈ kT := kin1 15 (by decide +kernel) rfl
theorem kws_mJ_checkIndex_J0 : Cond.static mJ_checkIndex_J0.1 ∈ kT := kin3 28 (by decide +kernel) rfl
theorem kwc_mJ_charAt_J1 : kcode mJ_charAt_J1 ∈ kT := kin3 26 (by decide +kernel) rfl
theorem kwi_mJ_charAt_J1 : Cond.initialized mJ_charAt_J1.1.cls ∈ kT := kin1 16 (by decide +kernel) rfl
theorem kws_mJ_charAt_J1 : Cond.static mJ_charAt_J1.1 ∈ kT := kin3 25 (by decide +kernel) rfl
theorem kwc_mJ_getChar_J2 : kcode mJ_getChar_J2 ∈ kT := kin3 47 (by decide +kernel) rfl
theorem kwi_mJ_getChar_J2 : Cond.initialized mJ_getChar_J2.1.cls ∈ kT := kin1 18 (by decide +kernel) rfl
theorem kws_mJ_getChar_J2 : Cond.static mJ_getChar_J2.1 ∈ kT := kin3 46 (by decide +kernel) rfl
theorem kwc_mJ_length_J2 : kcode mJ_length_J2 ∈ kT := kin3 43 (by decide +kernel) rfl
theorem kwi_mJ_length_J2 : Cond.initialized mJ_length_J2.1.cls ∈ kT := kin1 18 (by decide +kernel) rfl
theorem kws_mJ_length_J2 : Cond.static mJ_length_J2.1 ∈ kT := kin3 42 (by decide +kernel) rfl
theorem kwc_mJ_charAt_J2 : kcode mJ_charAt_J2 ∈ kT := kin3 37 (by decide +kernel) rfl
theorem kwi_mJ_charAt_J2 : Cond.initialized mJ_charAt_J2.1.cls ∈ kT := kin1 18 (by decide +kernel) rfl
theorem kws_mJ_charAt_J2 : Cond.static mJ_charAt_J2.1 ∈ kT := kin3 36 (by decide +kernel) rfl
theorem kwc_mJ_checkIndex_J2 : kcode mJ_checkIndex_J2 ∈ kT := kin3 40 (by decide +kernel) rfl
theorem kwi_mJ_checkIndex_J2 : Cond.initialized mJ_checkIndex_J2.1.cls ∈ kT := kin1 18 (by decide +kernel) rfl
theorem kws_mJ_checkIndex_J2 : Cond.static mJ_checkIndex_J2.1 ∈ kT := kin3 39 (by decide +kernel) rfl
theorem kwc_mJ_fill_J7 : kcode mJ_fill_J7 ∈ kT := kin2 215 (by decide +kernel) rfl
theorem kwi_mJ_fill_J7 : Cond.initialized mJ_fill_J7.1.cls ∈ kT := kin1 13 (by decide +kernel) rfl
theorem kws_mJ_fill_J7 : Cond.static mJ_fill_J7.1 ∈ kT := kin2 214 (by decide +kernel) rfl
theorem kwc_mJ_checkIndex_J3 : kcode mJ_checkIndex_J3 ∈ kT := kin3 34 (by decide +kernel) rfl
theorem kwi_mJ_checkIndex_J3 : Cond.initialized mJ_checkIndex_J3.1.cls ∈ kT := kin1 17 (by decide +kernel) rfl
theorem kws_mJ_checkIndex_J3 : Cond.static mJ_checkIndex_J3.1 ∈ kT := kin3 33 (by decide +kernel) rfl
theorem kcy_m0_reckon : kCy m0_reckon 2 := ⟨by decide +kernel, by decide +kernel, by decide +kernel⟩
theorem kcy_m0_owedInAll : kCy m0_owedInAll 0 := ⟨by decide +kernel, by decide +kernel, by decide +kernel⟩
theorem kcy_m0_fewestPayments : kCy m0_fewestPayments 0 := ⟨by decide +kernel, by decide +kernel, by decide +kernel⟩
theorem kcy_m0_findRing : kCy m0_findRing 3 := ⟨by decide +kernel, by decide +kernel, by decide +kernel⟩
theorem kcy_m0_countDebtsHome : kCy m0_countDebtsHome 2 := ⟨by decide +kernel, by decide +kernel, by decide +kernel⟩
theorem kcy_m0_fewestDebtsBehind : kCy m0_fewestDebtsBehind 2 := ⟨by decide +kernel, by decide +kernel, by decide +kernel⟩
theorem kcy_m0_firstNext : kCy m0_firstNext 3 := ⟨by decide +kernel, by decide +kernel, by decide +kernel⟩
theorem kcy_m1_find : kCy m1_find 1 := ⟨by decide +kernel, by decide +kernel, by decide +kernel⟩
theorem kcy_m1_fitsHeard : kCy m1_fitsHeard 3 := ⟨by decide +kernel, by decide +kernel, by decide +kernel⟩
theorem kcy_m1_isFit : kCy m1_isFit 2 := ⟨by decide +kernel, by decide +kernel, by decide +kernel⟩
theorem kcy_m1_inSome : kCy m1_inSome 0 := ⟨by decide +kernel, by decide +kernel, by decide +kernel⟩
theorem kcy_m1_inAll : kCy m1_inAll 0 := ⟨by decide +kernel, by decide +kernel, by decide +kernel⟩
theorem kcy_m1_leftAtMost : kCy m1_leftAtMost 1 := ⟨by decide +kernel, by decide +kernel, by decide +kernel⟩
theorem kcy_m1_bestQuestion : kCy m1_bestQuestion 1 := ⟨by decide +kernel, by decide +kernel, by decide +kernel⟩
theorem kcy_m2_reckon : kCy m2_reckon 3 := ⟨by decide +kernel, by decide +kernel, by decide +kernel⟩
theorem kcy_m2_lookBy : kCy m2_lookBy 3 := ⟨by decide +kernel, by decide +kernel, by decide +kernel⟩
theorem kcy_m2_look : kCy m2_look 3 := ⟨by decide +kernel, by decide +kernel, by decide +kernel⟩
theorem kcy_m3_forget : kCy m3_forget 0 := ⟨by decide +kernel, by decide +kernel, by decide +kernel⟩
theorem kcy_m3_keep : kCy m3_keep 1 := ⟨by decide +kernel, by decide +kernel, by decide +kernel⟩
theorem kcy_m3_takeBack : kCy m3_takeBack 1 := ⟨by decide +kernel, by decide +kernel, by decide +kernel⟩
theorem kcy_m4_begin : kCy m4_begin 1 := ⟨by decide +kernel, by decide +kernel, by decide +kernel⟩
theorem kcy_m4_save : kCy m4_save 1 := ⟨by decide +kernel, by decide +kernel, by decide +kernel⟩
theorem kcy_m4_load : kCy m4_load 1 := ⟨by decide +kernel, by decide +kernel, by decide +kernel⟩
theorem kcy_m5_clear : kCy m5_clear 0 := ⟨by decide +kernel, by decide +kernel, by decide +kernel⟩
theorem kcy_m5_count : kCy m5_count 1 := ⟨by decide +kernel, by decide +kernel, by decide +kernel⟩
theorem kcy_m5_isUnsure : kCy m5_isUnsure 1 := ⟨by decide +kernel, by decide +kernel, by decide +kernel⟩
theorem kcy_m5_isHeard : kCy m5_isHeard 2 := ⟨by decide +kernel, by decide +kernel, by decide +kernel⟩
theorem kcy_m6_reduce : kCy m6_reduce 2 := ⟨by decide +kernel, by decide +kernel, by decide +kernel⟩
theorem kcy_m6_part : kCy m6_part 1 := ⟨by decide +kernel, by decide +kernel, by decide +kernel⟩
theorem kcy_m7_read : kCy m7_read 2 := ⟨by decide +kernel, by decide +kernel, by decide +kernel⟩
theorem kcy_m7_found : kCy m7_found 1 := ⟨by decide +kernel, by decide +kernel, by decide +kernel⟩
theorem kcy_m7_next : kCy m7_next 0 := ⟨by decide +kernel, by decide +kernel, by decide +kernel⟩
theorem kcy_m7_isLetter : kCy m7_isLetter 1 := ⟨by decide +kernel, by decide +kernel, by decide +kernel⟩
theorem kcy_m7_isDigit : kCy m7_isDigit 1 := ⟨by decide +kernel, by decide +kernel, by decide +kernel⟩
theorem kcy_m7_takeLetters : kCy m7_takeLetters 0 := ⟨by decide +kernel, by decide +kernel, by decide +kernel⟩
theorem kcy_m7_takeDigits : kCy m7_takeDigits 0 := ⟨by decide +kernel, by decide +kernel, by decide +kernel⟩
theorem kcy_m7_isWord : kCy m7_isWord 1 := ⟨by decide +kernel, by decide +kernel, by decide +kernel⟩
theorem kcy_m7_isHeadOfLine : kCy m7_isHeadOfLine 0 := ⟨by decide +kernel, by decide +kernel, by decide +kernel⟩
theorem kcy_m7_lawOfWord : kCy m7_lawOfWord 0 := ⟨by decide +kernel, by decide +kernel, by decide +kernel⟩
theorem kcy_m7_pairOfName : kCy m7_pairOfName 0 := ⟨by decide +kernel, by decide +kernel, by decide +kernel⟩
theorem kcy_m7_isSame : kCy m7_isSame 2 := ⟨by decide +kernel, by decide +kernel, by decide +kernel⟩
theorem kcy_m7_takeWord : kCy m7_takeWord 1 := ⟨by decide +kernel, by decide +kernel, by decide +kernel⟩
theorem kcy_m7_seesWhole : kCy m7_seesWhole 2 := ⟨by decide +kernel, by decide +kernel, by decide +kernel⟩
theorem kcy_m7_seenPair : kCy m7_seenPair 0 := ⟨by decide +kernel, by decide +kernel, by decide +kernel⟩
theorem kcy_m7_readHead : kCy m7_readHead 0 := ⟨by decide +kernel, by decide +kernel, by decide +kernel⟩
theorem kcy_m7_readLine : kCy m7_readLine 0 := ⟨by decide +kernel, by decide +kernel, by decide +kernel⟩
theorem kcy_m7_readPair : kCy m7_readPair 0 := ⟨by decide +kernel, by decide +kernel, by decide +kernel⟩
theorem kcy_m7_readContract : kCy m7_readContract 0 := ⟨by decide +kernel, by decide +kernel, by decide +kernel⟩
theorem kcy_m7_readDebt : kCy m7_readDebt 0 := ⟨by decide +kernel, by decide +kernel, by decide +kernel⟩
theorem kcy_m7_readUnsure : kCy m7_readUnsure 0 := ⟨by decide +kernel, by decide +kernel, by decide +kernel⟩
theorem kcy_m7_readHeard : kCy m7_readHeard 0 := ⟨by decide +kernel, by decide +kernel, by decide +kernel⟩
theorem kcy_m8_follow : kCy m8_follow 1 := ⟨by decide +kernel, by decide +kernel, by decide +kernel⟩
theorem kcy_m8_stateOf : kCy m8_stateOf 1 := ⟨by decide +kernel, by decide +kernel, by decide +kernel⟩
theorem kcy_m8_shortenRound : kCy m8_shortenRound 0 := ⟨by decide +kernel, by decide +kernel, by decide +kernel⟩
theorem kcy_m8_comesAgainBehind : kCy m8_comesAgainBehind 1 := ⟨by decide +kernel, by decide +kernel, by decide +kernel⟩
theorem kcy_m8_saying : kCy m8_saying 1 := ⟨by decide +kernel, by decide +kernel, by decide +kernel⟩
theorem kcy_m8_most : kCy m8_most 0 := ⟨by decide +kernel, by decide +kernel, by decide +kernel⟩
theorem kcy_m8_least : kCy m8_least 0 := ⟨by decide +kernel, by decide +kernel, by decide +kernel⟩
theorem kcy_m9_begin : kCy m9_begin 3 := ⟨by decide +kernel, by decide +kernel, by decide +kernel⟩
theorem kcy_m9_beginAsTold : kCy m9_beginAsTold 2 := ⟨by decide +kernel, by decide +kernel, by decide +kernel⟩
theorem kcy_m9_go : kCy m9_go 0 := ⟨by decide +kernel, by decide +kernel, by decide +kernel⟩
theorem kcy_m9_byLaw : kCy m9_byLaw 0 := ⟨by decide +kernel, by decide +kernel, by decide +kernel⟩
theorem kcy_m9_goDumb : kCy m9_goDumb 0 := ⟨by decide +kernel, by decide +kernel, by decide +kernel⟩
theorem kcy_m9_goOn : kCy m9_goOn 1 := ⟨by decide +kernel, by decide +kernel, by decide +kernel⟩
theorem kcy_m9_isMore : kCy m9_isMore 0 := ⟨by decide +kernel, by decide +kernel, by decide +kernel⟩
theorem kcy_m9_countMore : kCy m9_countMore 1 := ⟨by decide +kernel, by decide +kernel, by decide +kernel⟩
theorem kcy_m10_may : kCy m10_may 2 := ⟨by decide +kernel, by decide +kernel, by decide +kernel⟩
theorem kcy_m10_may_ : kCy m10_may_ 1 := ⟨by decide +kernel, by decide +kernel, by decide +kernel⟩
theorem kcy_m10_refuse : kCy m10_refuse 1 := ⟨by decide +kernel, by decide +kernel, by decide +kernel⟩
theorem kcy_m10_deny : kCy m10_deny 1 := ⟨by decide +kernel, by decide +kernel, by decide +kernel⟩
theorem kcy_m10_isPair : kCy m10_isPair 1 := ⟨by decide +kernel, by decide +kernel, by decide +kernel⟩
theorem kcy_m10_areUnlike : kCy m10_areUnlike 2 := ⟨by decide +kernel, by decide +kernel, by decide +kernel⟩
theorem kcy_m10_upTo : kCy m10_upTo 2 := ⟨by decide +kernel, by decide +kernel, by decide +kernel⟩
theorem kcy_m10_feed : kCy m10_feed 5 := ⟨by decide +kernel, by decide +kernel, by decide +kernel⟩
theorem kcy_m10_putBytes : kCy m10_putBytes 1 := ⟨by decide +kernel, by decide +kernel, by decide +kernel⟩
theorem kcy_m10_pier : kCy m10_pier 1 := ⟨by decide +kernel, by decide +kernel, by decide +kernel⟩
theorem kcy_m10_fault : kCy m10_fault 0 := ⟨by decide +kernel, by decide +kernel, by decide +kernel⟩
theorem kcy_m10_where : kCy m10_where 0 := ⟨by decide +kernel, by decide +kernel, by decide +kernel⟩
theorem kcy_m10_pair : kCy m10_pair 2 := ⟨by decide +kernel, by decide +kernel, by decide +kernel⟩
theorem kcy_m10_isMore : kCy m10_isMore 1 := ⟨by decide +kernel, by decide +kernel, by decide +kernel⟩
theorem kcy_m10_sayingBehind : kCy m10_sayingBehind 2 := ⟨by decide +kernel, by decide +kernel, by decide +kernel⟩
theorem kcy_m10_sayAllBehind : kCy m10_sayAllBehind 1 := ⟨by decide +kernel, by decide +kernel, by decide +kernel⟩
theorem kcy_m10_says : kCy m10_says 2 := ⟨by decide +kernel, by decide +kernel, by decide +kernel⟩
theorem kcy_m10_saysAll : kCy m10_saysAll 2 := ⟨by decide +kernel, by decide +kernel, by decide +kernel⟩
theorem kcy_m10_moreIn : kCy m10_moreIn 1 := ⟨by decide +kernel, by decide +kernel, by decide +kernel⟩
theorem kcy_m10_moreTimes : kCy m10_moreTimes 2 := ⟨by decide +kernel, by decide +kernel, by decide +kernel⟩
theorem kcy_m10_goRound : kCy m10_goRound 1 := ⟨by decide +kernel, by decide +kernel, by decide +kernel⟩
theorem kcy_m10_settles : kCy m10_settles 1 := ⟨by decide +kernel, by decide +kernel, by decide +kernel⟩
theorem kcy_m10_round : kCy m10_round 1 := ⟨by decide +kernel, by decide +kernel, by decide +kernel⟩
theorem kcy_m10_saysLate : kCy m10_saysLate 2 := ⟨by decide +kernel, by decide +kernel, by decide +kernel⟩
theorem kcy_m10_roundMost : kCy m10_roundMost 1 := ⟨by decide +kernel, by decide +kernel, by decide +kernel⟩
theorem kcy_m10_roundLeast : kCy m10_roundLeast 1 := ⟨by decide +kernel, by decide +kernel, by decide +kernel⟩
theorem kcy_m10_turnsAbout : kCy m10_turnsAbout 1 := ⟨by decide +kernel, by decide +kernel, by decide +kernel⟩
theorem kcy_m10_alikeIn : kCy m10_alikeIn 2 := ⟨by decide +kernel, by decide +kernel, by decide +kernel⟩
theorem kcy_m10_loudest : kCy m10_loudest 1 := ⟨by decide +kernel, by decide +kernel, by decide +kernel⟩
theorem kcy_m10_firstMost : kCy m10_firstMost 2 := ⟨by decide +kernel, by decide +kernel, by decide +kernel⟩
theorem kcy_m10_overtakes : kCy m10_overtakes 2 := ⟨by decide +kernel, by decide +kernel, by decide +kernel⟩
theorem kcy_m10_widest : kCy m10_widest 1 := ⟨by decide +kernel, by decide +kernel, by decide +kernel⟩
theorem kcy_m10_sumAll : kCy m10_sumAll 1 := ⟨by decide +kernel, by decide +kernel, by decide +kernel⟩
theorem kcy_m10_masters : kCy m10_masters 1 := ⟨by decide +kernel, by decide +kernel, by decide +kernel⟩
theorem kcy_m10_bitsOfMore : kCy m10_bitsOfMore 1 := ⟨by decide +kernel, by decide +kernel, by decide +kernel⟩
theorem kcy_m10_sayingByEvery : kCy m10_sayingByEvery 3 := ⟨by decide +kernel, by decide +kernel, by decide +kernel⟩
theorem kcy_m10_bestEvery : kCy m10_bestEvery 2 := ⟨by decide +kernel, by decide +kernel, by decide +kernel⟩
theorem kcy_m10_everyFor : kCy m10_everyFor 2 := ⟨by decide +kernel, by decide +kernel, by decide +kernel⟩
theorem kcy_m10_everySays : kCy m10_everySays 2 := ⟨by decide +kernel, by decide +kernel, by decide +kernel⟩
theorem kcy_m10_everyNever : kCy m10_everyNever 1 := ⟨by decide +kernel, by decide +kernel, by decide +kernel⟩
theorem kcy_m10_stepFor : kCy m10_stepFor 2 := ⟨by decide +kernel, by decide +kernel, by decide +kernel⟩
theorem kcy_m10_mayFit : kCy m10_mayFit 0 := ⟨by decide +kernel, by decide +kernel, by decide +kernel⟩
theorem kcy_m10_fits : kCy m10_fits 0 := ⟨by decide +kernel, by decide +kernel, by decide +kernel⟩
theorem kcy_m10_fitAt : kCy m10_fitAt 1 := ⟨by decide +kernel, by decide +kernel, by decide +kernel⟩
theorem kcy_m10_could : kCy m10_could 0 := ⟨by decide +kernel, by decide +kernel, by decide +kernel⟩
theorem kcy_m10_surely : kCy m10_surely 0 := ⟨by decide +kernel, by decide +kernel, by decide +kernel⟩
theorem kcy_m10_ask : kCy m10_ask 0 := ⟨by decide +kernel, by decide +kernel, by decide +kernel⟩
theorem kcy_m10_askLeaves : kCy m10_askLeaves 0 := ⟨by decide +kernel, by decide +kernel, by decide +kernel⟩
theorem kcy_m10_judge : kCy m10_judge 0 := ⟨by decide +kernel, by decide +kernel, by decide +kernel⟩
theorem kcy_m10_apartByTold : kCy m10_apartByTold 1 := ⟨by decide +kernel, by decide +kernel, by decide +kernel⟩
theorem kcy_m10_third : kCy m10_third 1 := ⟨by decide +kernel, by decide +kernel, by decide +kernel⟩
theorem kcy_m10_owes : kCy m10_owes 2 := ⟨by decide +kernel, by decide +kernel, by decide +kernel⟩
theorem kcy_m10_net : kCy m10_net 1 := ⟨by decide +kernel, by decide +kernel, by decide +kernel⟩
theorem kcy_m10_due : kCy m10_due 0 := ⟨by decide +kernel, by decide +kernel, by decide +kernel⟩
theorem kcy_m10_creditor : kCy m10_creditor 0 := ⟨by decide +kernel, by decide +kernel, by decide +kernel⟩
theorem kcy_m10_payments : kCy m10_payments 0 := ⟨by decide +kernel, by decide +kernel, by decide +kernel⟩
theorem kcy_m10_ring : kCy m10_ring 1 := ⟨by decide +kernel, by decide +kernel, by decide +kernel⟩
theorem kcy_m10_ringAt : kCy m10_ringAt 2 := ⟨by decide +kernel, by decide +kernel, by decide +kernel⟩
theorem kcy_m10_share : kCy m10_share 3 := ⟨by decide +kernel, by decide +kernel, by decide +kernel⟩
theorem kcy_m10_isRest : kCy m10_isRest 3 := ⟨by decide +kernel, by decide +kernel, by decide +kernel⟩
theorem kcy_m10_isRestAt : kCy m10_isRestAt 2 := ⟨by decide +kernel, by decide +kernel, by decide +kernel⟩
theorem kcy_m10_talks : kCy m10_talks 4 := ⟨by decide +kernel, by decide +kernel, by decide +kernel⟩
theorem kcy_m10_rests : kCy m10_rests 1 := ⟨by decide +kernel, by decide +kernel, by decide +kernel⟩
theorem kcy_m10_rest : kCy m10_rest 1 := ⟨by decide +kernel, by decide +kernel, by decide +kernel⟩
theorem kcy_m10_verdictOdds : kCy m10_verdictOdds 3 := ⟨by decide +kernel, by decide +kernel, by decide +kernel⟩
theorem kcy_m10_looks : kCy m10_looks 3 := ⟨by decide +kernel, by decide +kernel, by decide +kernel⟩
theorem kcy_m10_verdict : kCy m10_verdict 2 := ⟨by decide +kernel, by decide +kernel, by decide +kernel⟩
theorem kcy_m10_drawFrom : kCy m10_drawFrom 1 := ⟨by decide +kernel, by decide +kernel, by decide +kernel⟩
theorem kcy_m10_odds : kCy m10_odds 4 := ⟨by decide +kernel, by decide +kernel, by decide +kernel⟩
theorem kcy_m10_mean : kCy m10_mean 3 := ⟨by decide +kernel, by decide +kernel, by decide +kernel⟩
theorem kcy_m10_goWithDumb : kCy m10_goWithDumb 3 := ⟨by decide +kernel, by decide +kernel, by decide +kernel⟩
theorem kcy_m10_allChances : kCy m10_allChances 1 := ⟨by decide +kernel, by decide +kernel, by decide +kernel⟩
theorem kcy_m10_drawn : kCy m10_drawn 3 := ⟨by decide +kernel, by decide +kernel, by decide +kernel⟩
theorem kcy_m10_season : kCy m10_season 0 := ⟨by decide +kernel, by decide +kernel, by decide +kernel⟩
theorem kcy_m10_change : kCy m10_change 1 := ⟨by decide +kernel, by decide +kernel, by decide +kernel⟩
theorem kcy_m10_step : kCy m10_step 2 := ⟨by decide +kernel, by decide +kernel, by decide +kernel⟩
theorem kcy_m10_pay : kCy m10_pay 3 := ⟨by decide +kernel, by decide +kernel, by decide +kernel⟩
theorem kcy_m10_undo : kCy m10_undo 0 := ⟨by decide +kernel, by decide +kernel, by decide +kernel⟩
theorem kcy_m10_image : kCy m10_image 0 := ⟨by decide +kernel, by decide +kernel, by decide +kernel⟩
theorem kcy_m10_back : kCy m10_back 1 := ⟨by decide +kernel, by decide +kernel, by decide +kernel⟩
theorem kcy_m10_led : kCy m10_led 1 := ⟨by decide +kernel, by decide +kernel, by decide +kernel⟩
theorem kcy_m10_size : kCy m10_size 1 := ⟨by decide +kernel, by decide +kernel, by decide +kernel⟩
theorem kcy_m10_trouble : kCy m10_trouble 0 := ⟨by decide +kernel, by decide +kernel, by decide +kernel⟩
theorem kcy_m11_thrown : kCy m11_thrown 0 := ⟨by decide +kernel, by decide +kernel, by decide +kernel⟩
theorem kcy_m11_good : kCy m11_good 0 := ⟨by decide +kernel, by decide +kernel, by decide +kernel⟩
theorem kcy_m11_no : kCy m11_no 1 := ⟨by decide +kernel, by decide +kernel, by decide +kernel⟩
theorem kcy_m11_isNot : kCy m11_isNot 1 := ⟨by decide +kernel, by decide +kernel, by decide +kernel⟩
theorem kcy_m11_in : kCy m11_in 3 := ⟨by decide +kernel, by decide +kernel, by decide +kernel⟩
theorem kcy_m11_hasBit : kCy m11_hasBit 2 := ⟨by decide +kernel, by decide +kernel, by decide +kernel⟩
theorem kcy_m11_ones : kCy m11_ones 1 := ⟨by decide +kernel, by decide +kernel, by decide +kernel⟩
theorem kcy_m11_copy : kCy m11_copy 5 := ⟨by decide +kernel, by decide +kernel, by decide +kernel⟩
theorem kcy_m11_lowest : kCy m11_lowest 3 := ⟨by decide +kernel, by decide +kernel, by decide +kernel⟩
theorem kcy_m11_feed : kCy m11_feed 5 := ⟨by decide +kernel, by decide +kernel, by decide +kernel⟩
theorem kcy_m11_see : kCy m11_see 1 := ⟨by decide +kernel, by decide +kernel, by decide +kernel⟩
theorem kcy_m11_isSmall : kCy m11_isSmall 1 := ⟨by decide +kernel, by decide +kernel, by decide +kernel⟩
theorem kcy_m11_isDigit : kCy m11_isDigit 1 := ⟨by decide +kernel, by decide +kernel, by decide +kernel⟩
theorem kcy_m11_next : kCy m11_next 0 := ⟨by decide +kernel, by decide +kernel, by decide +kernel⟩
theorem kcy_m11_wrong : kCy m11_wrong 2 := ⟨by decide +kernel, by decide +kernel, by decide +kernel⟩
theorem kcy_m11_isWord : kCy m11_isWord 1 := ⟨by decide +kernel, by decide +kernel, by decide +kernel⟩
theorem kcy_m11_takesWord : kCy m11_takesWord 1 := ⟨by decide +kernel, by decide +kernel, by decide +kernel⟩
theorem kcy_m11_must : kCy m11_must 1 := ⟨by decide +kernel, by decide +kernel, by decide +kernel⟩
theorem kcy_m11_mustName : kCy m11_mustName 0 := ⟨by decide +kernel, by decide +kernel, by decide +kernel⟩
theorem kcy_m11_find : kCy m11_find 0 := ⟨by decide +kernel, by decide +kernel, by decide +kernel⟩
theorem kcy_m11_newName : kCy m11_newName 1 := ⟨by decide +kernel, by decide +kernel, by decide +kernel⟩
theorem kcy_m11_pairHere : kCy m11_pairHere 0 := ⟨by decide +kernel, by decide +kernel, by decide +kernel⟩
theorem kcy_m11_pass : kCy m11_pass 0 := ⟨by decide +kernel, by decide +kernel, by decide +kernel⟩
theorem kcy_m11_numberHere : kCy m11_numberHere 2 := ⟨by decide +kernel, by decide +kernel, by decide +kernel⟩
theorem kcy_m11_number : kCy m11_number 2 := ⟨by decide +kernel, by decide +kernel, by decide +kernel⟩
theorem kcy_m11_after : kCy m11_after 3 := ⟨by decide +kernel, by decide +kernel, by decide +kernel⟩
theorem kcy_m11_pier : kCy m11_pier 1 := ⟨by decide +kernel, by decide +kernel, by decide +kernel⟩
theorem kcy_m11_begins : kCy m11_begins 2 := ⟨by decide +kernel, by decide +kernel, by decide +kernel⟩
theorem kcy_m11_readLine : kCy m11_readLine 0 := ⟨by decide +kernel, by decide +kernel, by decide +kernel⟩
theorem kcy_m11_pierLine : kCy m11_pierLine 0 := ⟨by decide +kernel, by decide +kernel, by decide +kernel⟩
theorem kcy_m11_pairLine : kCy m11_pairLine 0 := ⟨by decide +kernel, by decide +kernel, by decide +kernel⟩
theorem kcy_m11_contractLine : kCy m11_contractLine 0 := ⟨by decide +kernel, by decide +kernel, by decide +kernel⟩
theorem kcy_m11_debtLine : kCy m11_debtLine 0 := ⟨by decide +kernel, by decide +kernel, by decide +kernel⟩
theorem kcy_m11_unsureLine : kCy m11_unsureLine 0 := ⟨by decide +kernel, by decide +kernel, by decide +kernel⟩
theorem kcy_m11_heardLine : kCy m11_heardLine 0 := ⟨by decide +kernel, by decide +kernel, by decide +kernel⟩
theorem kcy_m11_fault : kCy m11_fault 0 := ⟨by decide +kernel, by decide +kernel, by decide +kernel⟩
theorem kcy_m11_where : kCy m11_where 0 := ⟨by decide +kernel, by decide +kernel, by decide +kernel⟩
theorem kcy_m11_isPair : kCy m11_isPair 1 := ⟨by decide +kernel, by decide +kernel, by decide +kernel⟩
theorem kcy_m11_areTwo : kCy m11_areTwo 2 := ⟨by decide +kernel, by decide +kernel, by decide +kernel⟩
theorem kcy_m11_why : kCy m11_why 2 := ⟨by decide +kernel, by decide +kernel, by decide +kernel⟩
theorem kcy_m11_within : kCy m11_within 1 := ⟨by decide +kernel, by decide +kernel, by decide +kernel⟩
theorem kcy_m11_byLaw : kCy m11_byLaw 3 := ⟨by decide +kernel, by decide +kernel, by decide +kernel⟩
theorem kcy_m11_behind : kCy m11_behind 6 := ⟨by decide +kernel, by decide +kernel, by decide +kernel⟩
theorem kcy_m11_isMore : kCy m11_isMore 1 := ⟨by decide +kernel, by decide +kernel, by decide +kernel⟩
theorem kcy_m11_saysBy : kCy m11_saysBy 4 := ⟨by decide +kernel, by decide +kernel, by decide +kernel⟩
theorem kcy_m11_saysIn : kCy m11_saysIn 2 := ⟨by decide +kernel, by decide +kernel, by decide +kernel⟩
theorem kcy_m11_goRound : kCy m11_goRound 1 := ⟨by decide +kernel, by decide +kernel, by decide +kernel⟩
theorem kcy_m11_isRoundOf : kCy m11_isRoundOf 1 := ⟨by decide +kernel, by decide +kernel, by decide +kernel⟩
theorem kcy_m11_pair : kCy m11_pair 2 := ⟨by decide +kernel, by decide +kernel, by decide +kernel⟩
theorem kcy_m11_aheadWhy : kCy m11_aheadWhy 2 := ⟨by decide +kernel, by decide +kernel, by decide +kernel⟩
theorem kcy_m11_says : kCy m11_says 2 := ⟨by decide +kernel, by decide +kernel, by decide +kernel⟩
theorem kcy_m11_saysAll : kCy m11_saysAll 2 := ⟨by decide +kernel, by decide +kernel, by decide +kernel⟩
theorem kcy_m11_moreIn : kCy m11_moreIn 1 := ⟨by decide +kernel, by decide +kernel, by decide +kernel⟩
theorem kcy_m11_moreTimes : kCy m11_moreTimes 2 := ⟨by decide +kernel, by decide +kernel, by decide +kernel⟩
theorem kcy_m11_settles : kCy m11_settles 1 := ⟨by decide +kernel, by decide +kernel, by decide +kernel⟩
theorem kcy_m11_round : kCy m11_round 1 := ⟨by decide +kernel, by decide +kernel, by decide +kernel⟩
theorem kcy_m11_saysLate : kCy m11_saysLate 2 := ⟨by decide +kernel, by decide +kernel, by decide +kernel⟩
theorem kcy_m11_extremeOf : kCy m11_extremeOf 2 := ⟨by decide +kernel, by decide +kernel, by decide +kernel⟩
theorem kcy_m11_roundMost : kCy m11_roundMost 1 := ⟨by decide +kernel, by decide +kernel, by decide +kernel⟩
theorem kcy_m11_roundLeast : kCy m11_roundLeast 1 := ⟨by decide +kernel, by decide +kernel, by decide +kernel⟩
theorem kcy_m11_turnsAbout : kCy m11_turnsAbout 1 := ⟨by decide +kernel, by decide +kernel, by decide +kernel⟩
theorem kcy_m11_alikeIn : kCy m11_alikeIn 2 := ⟨by decide +kernel, by decide +kernel, by decide +kernel⟩
theorem kcy_m11_loudest : kCy m11_loudest 1 := ⟨by decide +kernel, by decide +kernel, by decide +kernel⟩
theorem kcy_m11_mastersIn : kCy m11_mastersIn 1 := ⟨by decide +kernel, by decide +kernel, by decide +kernel⟩
theorem kcy_m11_masters : kCy m11_masters 1 := ⟨by decide +kernel, by decide +kernel, by decide +kernel⟩
theorem kcy_m11_overtakes : kCy m11_overtakes 2 := ⟨by decide +kernel, by decide +kernel, by decide +kernel⟩
theorem kcy_m11_widest : kCy m11_widest 1 := ⟨by decide +kernel, by decide +kernel, by decide +kernel⟩
theorem kcy_m11_sumAll : kCy m11_sumAll 1 := ⟨by decide +kernel, by decide +kernel, by decide +kernel⟩
theorem kcy_m11_bestEvery : kCy m11_bestEvery 2 := ⟨by decide +kernel, by decide +kernel, by decide +kernel⟩
theorem kcy_m11_everyFor : kCy m11_everyFor 2 := ⟨by decide +kernel, by decide +kernel, by decide +kernel⟩
theorem kcy_m11_everySays : kCy m11_everySays 2 := ⟨by decide +kernel, by decide +kernel, by decide +kernel⟩
theorem kcy_m11_isNeverMore : kCy m11_isNeverMore 2 := ⟨by decide +kernel, by decide +kernel, by decide +kernel⟩
theorem kcy_m11_everyNever : kCy m11_everyNever 1 := ⟨by decide +kernel, by decide +kernel, by decide +kernel⟩
theorem kcy_m11_stepFor : kCy m11_stepFor 2 := ⟨by decide +kernel, by decide +kernel, by decide +kernel⟩
theorem kcy_m11_stepBy : kCy m11_stepBy 2 := ⟨by decide +kernel, by decide +kernel, by decide +kernel⟩
theorem kcy_m11_saidThen : kCy m11_saidThen 3 := ⟨by decide +kernel, by decide +kernel, by decide +kernel⟩
theorem kcy_m11_wrongBy : kCy m11_wrongBy 1 := ⟨by decide +kernel, by decide +kernel, by decide +kernel⟩
theorem kcy_m11_seekSets : kCy m11_seekSets 1 := ⟨by decide +kernel, by decide +kernel, by decide +kernel⟩
theorem kcy_m11_fits : kCy m11_fits 0 := ⟨by decide +kernel, by decide +kernel, by decide +kernel⟩
theorem kcy_m11_fitAt : kCy m11_fitAt 1 := ⟨by decide +kernel, by decide +kernel, by decide +kernel⟩
theorem kcy_m11_could : kCy m11_could 0 := ⟨by decide +kernel, by decide +kernel, by decide +kernel⟩
theorem kcy_m11_surely : kCy m11_surely 0 := ⟨by decide +kernel, by decide +kernel, by decide +kernel⟩
theorem kcy_m11_leavesOf : kCy m11_leavesOf 1 := ⟨by decide +kernel, by decide +kernel, by decide +kernel⟩
theorem kcy_m11_askOf : kCy m11_askOf 0 := ⟨by decide +kernel, by decide +kernel, by decide +kernel⟩
theorem kcy_m11_ask : kCy m11_ask 0 := ⟨by decide +kernel, by decide +kernel, by decide +kernel⟩
theorem kcy_m11_askLeaves : kCy m11_askLeaves 0 := ⟨by decide +kernel, by decide +kernel, by decide +kernel⟩
theorem kcy_m11_judge : kCy m11_judge 0 := ⟨by decide +kernel, by decide +kernel, by decide +kernel⟩
theorem kcy_m11_third : kCy m11_third 1 := ⟨by decide +kernel, by decide +kernel, by decide +kernel⟩
theorem kcy_m11_debtOf : kCy m11_debtOf 2 := ⟨by decide +kernel, by decide +kernel, by decide +kernel⟩
theorem kcy_m11_netOf : kCy m11_netOf 1 := ⟨by decide +kernel, by decide +kernel, by decide +kernel⟩
theorem kcy_m11_owes : kCy m11_owes 2 := ⟨by decide +kernel, by decide +kernel, by decide +kernel⟩
theorem kcy_m11_net : kCy m11_net 1 := ⟨by decide +kernel, by decide +kernel, by decide +kernel⟩
theorem kcy_m11_due : kCy m11_due 0 := ⟨by decide +kernel, by decide +kernel, by decide +kernel⟩
theorem kcy_m11_creditor : kCy m11_creditor 0 := ⟨by decide +kernel, by decide +kernel, by decide +kernel⟩
theorem kcy_m11_netsOf : kCy m11_netsOf 1 := ⟨by decide +kernel, by decide +kernel, by decide +kernel⟩
theorem kcy_m11_groupsOf : kCy m11_groupsOf 1 := ⟨by decide +kernel, by decide +kernel, by decide +kernel⟩
theorem kcy_m11_payments : kCy m11_payments 0 := ⟨by decide +kernel, by decide +kernel, by decide +kernel⟩
theorem kcy_m11_tryRing : kCy m11_tryRing 2 := ⟨by decide +kernel, by decide +kernel, by decide +kernel⟩
theorem kcy_m11_seekRing : kCy m11_seekRing 1 := ⟨by decide +kernel, by decide +kernel, by decide +kernel⟩
theorem kcy_m11_ring : kCy m11_ring 1 := ⟨by decide +kernel, by decide +kernel, by decide +kernel⟩
theorem kcy_m11_ringAt : kCy m11_ringAt 2 := ⟨by decide +kernel, by decide +kernel, by decide +kernel⟩
theorem kcy_m11_talksOf : kCy m11_talksOf 3 := ⟨by decide +kernel, by decide +kernel, by decide +kernel⟩
theorem kcy_m11_talks : kCy m11_talks 4 := ⟨by decide +kernel, by decide +kernel, by decide +kernel⟩
theorem kcy_m11_seekRests : kCy m11_seekRests 1 := ⟨by decide +kernel, by decide +kernel, by decide +kernel⟩
theorem kcy_m11_rests : kCy m11_rests 1 := ⟨by decide +kernel, by decide +kernel, by decide +kernel⟩
theorem kcy_m11_rest : kCy m11_rest 1 := ⟨by decide +kernel, by decide +kernel, by decide +kernel⟩
theorem kcy_m11_verdictOf : kCy m11_verdictOf 0 := ⟨by decide +kernel, by decide +kernel, by decide +kernel⟩
theorem kcy_m11_verdictOdds : kCy m11_verdictOdds 3 := ⟨by decide +kernel, by decide +kernel, by decide +kernel⟩
theorem kcy_m11_lookWhy : kCy m11_lookWhy 3 := ⟨by decide +kernel, by decide +kernel, by decide +kernel⟩
theorem kcy_m11_looks : kCy m11_looks 3 := ⟨by decide +kernel, by decide +kernel, by decide +kernel⟩
theorem kcy_m11_verdict : kCy m11_verdict 2 := ⟨by decide +kernel, by decide +kernel, by decide +kernel⟩
theorem kcy_m11_tryDumb : kCy m11_tryDumb 3 := ⟨by decide +kernel, by decide +kernel, by decide +kernel⟩
theorem kcy_m11_odds : kCy m11_odds 4 := ⟨by decide +kernel, by decide +kernel, by decide +kernel⟩
theorem kcy_m11_mean : kCy m11_mean 3 := ⟨by decide +kernel, by decide +kernel, by decide +kernel⟩
theorem kcy_m11_drawn : kCy m11_drawn 3 := ⟨by decide +kernel, by decide +kernel, by decide +kernel⟩
theorem kcy_m11_note : kCy m11_note 0 := ⟨by decide +kernel, by decide +kernel, by decide +kernel⟩
theorem kcy_m11_season : kCy m11_season 0 := ⟨by decide +kernel, by decide +kernel, by decide +kernel⟩
theorem kcy_m11_change : kCy m11_change 1 := ⟨by decide +kernel, by decide +kernel, by decide +kernel⟩
theorem kcy_m11_step : kCy m11_step 2 := ⟨by decide +kernel, by decide +kernel, by decide +kernel⟩
theorem kcy_m11_pay : kCy m11_pay 3 := ⟨by decide +kernel, by decide +kernel, by decide +kernel⟩
theorem kcy_m11_undo : kCy m11_undo 0 := ⟨by decide +kernel, by decide +kernel, by decide +kernel⟩
theorem kcy_m11_image : kCy m11_image 0 := ⟨by decide +kernel, by decide +kernel, by decide +kernel⟩
theorem kcy_m11_back : kCy m11_back 1 := ⟨by decide +kernel, by decide +kernel, by decide +kernel⟩
theorem kcy_m11_led : kCy m11_led 1 := ⟨by decide +kernel, by decide +kernel, by decide +kernel⟩
theorem kcy_m11_size : kCy m11_size 1 := ⟨by decide +kernel, by decide +kernel, by decide +kernel⟩
theorem kcy_m11_trouble : kCy m11_trouble 0 := ⟨by decide +kernel, by decide +kernel, by decide +kernel⟩
theorem kcy_mJ_abs_J9 : kCy mJ_abs_J9 1 := ⟨by decide +kernel, by decide +kernel, by decide +kernel⟩
theorem kcy_mJ_max_J9 : kCy mJ_max_J9 2 := ⟨by decide +kernel, by decide +kernel, by decide +kernel⟩
theorem kcy_mJ_min_J9 : kCy mJ_min_J9 2 := ⟨by decide +kernel, by decide +kernel, by decide +kernel⟩
theorem kcy_mJ_length_J0 : kCy mJ_length_J0 0 := ⟨by decide +kernel, by decide +kernel, by decide +kernel⟩
theorem kcy_mJ_charAt_J0 : kCy mJ_charAt_J0 1 := ⟨by decide +kernel, by decide +kernel, by decide +kernel⟩
theorem kcy_mJ_coder_J0 : kCy mJ_coder_J0 0 := ⟨by decide +kernel, by decide +kernel, by decide +kernel⟩
theorem kcy_mJ_isLatin1_J0 : kCy mJ_isLatin1_J0 0 := ⟨by decide +kernel, by decide +kernel, by decide +kernel⟩
theorem kcy_mJ_checkIndex_J0 : kCy mJ_checkIndex_J0 2 := ⟨by decide +kernel, by decide +kernel, by decide +kernel⟩
theorem kcy_mJ_charAt_J1 : kCy mJ_charAt_J1 2 := ⟨by decide +kernel, by decide +kernel, by decide +kernel⟩
theorem kcy_mJ_getChar_J2 : kCy mJ_getChar_J2 2 := ⟨by decide +kernel, by decide +kernel, by decide +kernel⟩
theorem kcy_mJ_length_J2 : kCy mJ_length_J2 1 := ⟨by decide +kernel, by decide +kernel, by decide +kernel⟩
theorem kcy_mJ_charAt_J2 : kCy mJ_charAt_J2 2 := ⟨by decide +kernel, by decide +kernel, by decide +kernel⟩
theorem kcy_mJ_checkIndex_J2 : kCy mJ_checkIndex_J2 2 := ⟨by decide +kernel, by decide +kernel, by decide +kernel⟩
theorem kcy_mJ_fill_J7 : kCy mJ_fill_J7 2 := ⟨by decide +kernel, by decide +kernel, by decide +kernel⟩
theorem kcy_mJ_checkIndex_J3 : kCy mJ_checkIndex_J3 3 := ⟨by decide +kernel, by decide +kernel, by decide +kernel⟩
theorem kc10_122 : kCv kR10 122 m10_putBytes 1 := ⟨kin2 190 (by decide +kernel) rfl, kwm_m10_putBytes, kwl_m10_putBytes, kwi_m10_putBytes, kwc_m10_putBytes, kcy_m10_putBytes⟩
theorem kc10_126 : kCs kR10 126 m10_upTo 2 := ⟨kin2 198 (by decide +kernel) rfl, kws_m10_upTo, kwi_m10_upTo, kwc_m10_upTo, kcy_m10_upTo⟩
theorem kc10_130 : kCv kR10 130 m10_refuse 1 := ⟨kin2 201 (by decide +kernel) rfl, kwm_m10_refuse, kwl_m10_refuse, kwi_m10_refuse, kwc_m10_refuse, kcy_m10_refuse⟩
theorem kc10_134 : kCv kR10 134 m7_read 2 := ⟨kin2 205 (by decide +kernel) rfl, kwm_m7_read, kwl_m7_read, kwi_m7_read, kwc_m7_read, kcy_m7_read⟩
theorem kc7_26 : kCv kR7 26 m5_clear 0 := ⟨kin2 209 (by decide +kernel) rfl, kwm_m5_clear, kwl_m5_clear, kwi_m5_clear, kwc_m5_clear, kcy_m5_clear⟩
theorem kc5_64 : kCs kR5 64 mJ_fill_J7 2 := ⟨kin2 213 (by decide +kernel) rfl, kws_mJ_fill_J7, kwi_mJ_fill_J7, kwc_mJ_fill_J7, kcy_mJ_fill_J7⟩
theorem kc7_31 : kCs kR7 31 mJ_min_J9 2 := ⟨kin2 216 (by decide +kernel) rfl, kws_mJ_min_J9, kwi_mJ_min_J9, kwc_mJ_min_J9, kcy_mJ_min_J9⟩
theorem kc7_50 : kCv kR7 50 m7_next 0 := ⟨kin2 219 (by decide +kernel) rfl, kwm_m7_next, kwl_m7_next, kwi_m7_next, kwc_m7_next, kcy_m7_next⟩
theorem kc7_73 : kCs kR7 73 m7_isLetter 1 := ⟨kin2 223 (by decide +kernel) rfl, kws_m7_isLetter, kwi_m7_isLetter, kwc_m7_isLetter, kcy_m7_isLetter⟩
theorem kc7_76 : kCv kR7 76 m7_takeLetters 0 := ⟨kin2 226 (by decide +kernel) rfl, kwm_m7_takeLetters, kwl_m7_takeLetters, kwi_m7_takeLetters, kwc_m7_takeLetters, kcy_m7_takeLetters⟩
theorem kc7_79 : kCs kR7 79 m7_isDigit 1 := ⟨kin2 230 (by decide +kernel) rfl, kws_m7_isDigit, kwi_m7_isDigit, kwc_m7_isDigit, kcy_m7_isDigit⟩
theorem kc7_82 : kCv kR7 82 m7_takeDigits 0 := ⟨kin2 233 (by decide +kernel) rfl, kwm_m7_takeDigits, kwl_m7_takeDigits, kwi_m7_takeDigits, kwc_m7_takeDigits, kcy_m7_takeDigits⟩
theorem kc7_53 : kCv kR7 53 m7_readHead 0 := ⟨kin2 237 (by decide +kernel) rfl, kwm_m7_readHead, kwl_m7_readHead, kwi_m7_readHead, kwc_m7_readHead, kcy_m7_readHead⟩
theorem kc7_99 : kCv kR7 99 m7_isWord 1 := ⟨kin3 2 (by decide +kernel) rfl, kwm_m7_isWord, kwl_m7_isWord, kwi_m7_isWord, kwc_m7_isWord, kcy_m7_isWord⟩
theorem kc7_88 : kCv kR7 88 mJ_length_J0 0 := ⟨kin3 6 (by decide +kernel) rfl, kwm_mJ_length_J0, kwl_mJ_length_J0, kwi_mJ_length_J0, kwc_mJ_length_J0, kcy_mJ_length_J0⟩
theorem kc7_94 : kCv kR7 94 mJ_charAt_J0 1 := ⟨kin3 16 (by decide +kernel) rfl, kwm_mJ_charAt_J0, kwl_mJ_charAt_J0, kwi_mJ_charAt_J0, kwc_mJ_charAt_J0, kcy_mJ_charAt_J0⟩
theorem kc7_127 : kCv kR7 127 m7_isHeadOfLine 0 := ⟨kin3 54 (by decide +kernel) rfl, kwm_m7_isHeadOfLine, kwl_m7_isHeadOfLine, kwi_m7_isHeadOfLine, kwc_m7_isHeadOfLine, kcy_m7_isHeadOfLine⟩
theorem kc7_63 : kCv kR7 63 m7_found 1 := ⟨kin3 63 (by decide +kernel) rfl, kwm_m7_found, kwl_m7_found, kwi_m7_found, kwc_m7_found, kcy_m7_found⟩
theorem kc7_135 : kCv kR7 135 m7_takeWord 1 := ⟨kin3 68 (by decide +kernel) rfl, kwm_m7_takeWord, kwl_m7_takeWord, kwi_m7_takeWord, kwc_m7_takeWord, kcy_m7_takeWord⟩
theorem kc7_138 : kCv kR7 138 m7_seesWhole 2 := ⟨kin3 72 (by decide +kernel) rfl, kwm_m7_seesWhole, kwl_m7_seesWhole, kwi_m7_seesWhole, kwc_m7_seesWhole, kcy_m7_seesWhole⟩
theorem kc7_60 : kCv kR7 60 m7_readLine 0 := ⟨kin3 77 (by decide +kernel) rfl, kwm_m7_readLine, kwl_m7_readLine, kwi_m7_readLine, kwc_m7_readLine, kcy_m7_readLine⟩
theorem kc7_147 : kCv kR7 147 m7_readPair 0 := ⟨kin3 81 (by decide +kernel) rfl, kwm_m7_readPair, kwl_m7_readPair, kwi_m7_readPair, kwc_m7_readPair, kcy_m7_readPair⟩
theorem kc7_130 : kCv kR7 130 m7_pairOfName 0 := ⟨kin3 85 (by decide +kernel) rfl, kwm_m7_pairOfName, kwl_m7_pairOfName, kwi_m7_pairOfName, kwc_m7_pairOfName, kcy_m7_pairOfName⟩
theorem kc7_123 : kCv kR7 123 m7_isSame 2 := ⟨kin3 89 (by decide +kernel) rfl, kwm_m7_isSame, kwl_m7_isSame, kwi_m7_isSame, kwc_m7_isSame, kcy_m7_isSame⟩
theorem kc7_165 : kCv kR7 165 m7_lawOfWord 0 := ⟨kin3 93 (by decide +kernel) rfl, kwm_m7_lawOfWord, kwl_m7_lawOfWord, kwi_m7_lawOfWord, kwc_m7_lawOfWord, kcy_m7_lawOfWord⟩
theorem kc7_150 : kCv kR7 150 m7_readContract 0 := ⟨kin3 103 (by decide +kernel) rfl, kwm_m7_readContract, kwl_m7_readContract, kwi_m7_readContract, kwc_m7_readContract, kcy_m7_readContract⟩
theorem kc7_178 : kCv kR7 178 m7_seenPair 0 := ⟨kin3 107 (by decide +kernel) rfl, kwm_m7_seenPair, kwl_m7_seenPair, kwi_m7_seenPair, kwc_m7_seenPair, kcy_m7_seenPair⟩
theorem kc7_153 : kCv kR7 153 m7_readDebt 0 := ⟨kin3 112 (by decide +kernel) rfl, kwm_m7_readDebt, kwl_m7_readDebt, kwi_m7_readDebt, kwc_m7_readDebt, kcy_m7_readDebt⟩
theorem kc7_156 : kCv kR7 156 m7_readUnsure 0 := ⟨kin3 116 (by decide +kernel) rfl, kwm_m7_readUnsure, kwl_m7_readUnsure, kwi_m7_readUnsure, kwc_m7_readUnsure, kcy_m7_readUnsure⟩
theorem kc7_198 : kCv kR7 198 m5_isUnsure 1 := ⟨kin3 120 (by decide +kernel) rfl, kwm_m5_isUnsure, kwl_m5_isUnsure, kwi_m5_isUnsure, kwc_m5_isUnsure, kcy_m5_isUnsure⟩
theorem kc7_159 : kCv kR7 159 m7_readHeard 0 := ⟨kin3 124 (by decide +kernel) rfl, kwm_m7_readHeard, kwl_m7_readHeard, kwi_m7_readHeard, kwc_m7_readHeard, kcy_m7_readHeard⟩
theorem kc7_212 : kCv kR7 212 m5_isHeard 2 := ⟨kin3 129 (by decide +kernel) rfl, kwm_m5_isHeard, kwl_m5_isHeard, kwi_m5_isHeard, kwc_m5_isHeard, kcy_m5_isHeard⟩
theorem kc10_138 : kCv kR10 138 m4_begin 1 := ⟨kin3 133 (by decide +kernel) rfl, kwm_m4_begin, kwl_m4_begin, kwi_m4_begin, kwc_m4_begin, kcy_m4_begin⟩
theorem kc10_142 : kCv kR10 142 m3_forget 0 := ⟨kin3 140 (by decide +kernel) rfl, kwm_m3_forget, kwl_m3_forget, kwi_m3_forget, kwc_m3_forget, kcy_m3_forget⟩
theorem kc10_115 : kCv kR10 115 m10_isPair 1 := ⟨kin3 156 (by decide +kernel) rfl, kwm_m10_isPair, kwl_m10_isPair, kwi_m10_isPair, kwc_m10_isPair, kcy_m10_isPair⟩
theorem kc10_154 : kCv kR10 154 m10_may_ 1 := ⟨kin3 160 (by decide +kernel) rfl, kwm_m10_may_, kwl_m10_may_, kwi_m10_may_, kwc_m10_may_, kcy_m10_may_⟩
theorem kc10_104 : kCv kR10 104 m10_may 2 := ⟨kin3 164 (by decide +kernel) rfl, kwm_m10_may, kwl_m10_may, kwi_m10_may, kwc_m10_may, kcy_m10_may⟩
theorem kc10_172 : kCv kR10 172 m10_isMore 1 := ⟨kin3 168 (by decide +kernel) rfl, kwm_m10_isMore, kwl_m10_isMore, kwi_m10_isMore, kwc_m10_isMore, kcy_m10_isMore⟩
theorem kc10_184 : kCv kR10 184 m10_sayingBehind 2 := ⟨kin3 176 (by decide +kernel) rfl, kwm_m10_sayingBehind, kwl_m10_sayingBehind, kwi_m10_sayingBehind, kwc_m10_sayingBehind, kcy_m10_sayingBehind⟩
theorem kc10_175 : kCv kR10 175 m9_begin 3 := ⟨kin3 180 (by decide +kernel) rfl, kwm_m9_begin, kwl_m9_begin, kwi_m9_begin, kwc_m9_begin, kcy_m9_begin⟩
theorem kc9_7 : kCv kR9 7 m9_beginAsTold 2 := ⟨kin3 184 (by decide +kernel) rfl, kwm_m9_beginAsTold, kwl_m9_beginAsTold, kwi_m9_beginAsTold, kwc_m9_beginAsTold, kcy_m9_beginAsTold⟩
theorem kc10_178 : kCv kR10 178 m9_goOn 1 := ⟨kin3 188 (by decide +kernel) rfl, kwm_m9_goOn, kwl_m9_goOn, kwi_m9_goOn, kwc_m9_goOn, kcy_m9_goOn⟩
theorem kc9_69 : kCv kR9 69 m9_go 0 := ⟨kin3 192 (by decide +kernel) rfl, kwm_m9_go, kwl_m9_go, kwi_m9_go, kwc_m9_go, kcy_m9_go⟩
theorem kc9_53 : kCv kR9 53 m9_byLaw 0 := ⟨kin3 196 (by decide +kernel) rfl, kwm_m9_byLaw, kwl_m9_byLaw, kwi_m9_byLaw, kwc_m9_byLaw, kcy_m9_byLaw⟩
theorem kc9_57 : kCs kR9 57 mJ_min_J9 2 := ⟨kin3 200 (by decide +kernel) rfl, kws_mJ_min_J9, kwi_mJ_min_J9, kwc_mJ_min_J9, kcy_mJ_min_J9⟩
theorem kc9_63 : kCs kR9 63 mJ_max_J9 2 := ⟨kin3 201 (by decide +kernel) rfl, kws_mJ_max_J9, kwi_mJ_max_J9, kwc_mJ_max_J9, kcy_mJ_max_J9⟩
theorem kc9_66 : kCv kR9 66 m9_goDumb 0 := ⟨kin3 204 (by decide +kernel) rfl, kwm_m9_goDumb, kwl_m9_goDumb, kwi_m9_goDumb, kwc_m9_goDumb, kcy_m9_goDumb⟩
theorem kc10_188 : kCv kR10 188 m9_go 0 := ⟨kin3 212 (by decide +kernel) rfl, kwm_m9_go, kwl_m9_go, kwi_m9_go, kwc_m9_go, kcy_m9_go⟩
theorem kc10_191 : kCv kR10 191 m9_isMore 0 := ⟨kin3 217 (by decide +kernel) rfl, kwm_m9_isMore, kwl_m9_isMore, kwi_m9_isMore, kwc_m9_isMore, kcy_m9_isMore⟩
theorem kc10_194 : kCv kR10 194 m9_countMore 1 := ⟨kin3 225 (by decide +kernel) rfl, kwm_m9_countMore, kwl_m9_countMore, kwi_m9_countMore, kwc_m9_countMore, kcy_m9_countMore⟩
theorem kc9_72 : kCv kR9 72 m9_isMore 0 := ⟨kin3 229 (by decide +kernel) rfl, kwm_m9_isMore, kwl_m9_isMore, kwi_m9_isMore, kwc_m9_isMore, kcy_m9_isMore⟩
theorem kc10_201 : kCv kR10 201 m10_goRound 1 := ⟨kin3 234 (by decide +kernel) rfl, kwm_m10_goRound, kwl_m10_goRound, kwi_m10_goRound, kwc_m10_goRound, kcy_m10_goRound⟩
theorem kc10_197 : kCv kR10 197 m8_follow 1 := ⟨kin3 238 (by decide +kernel) rfl, kwm_m8_follow, kwl_m8_follow, kwi_m8_follow, kwc_m8_follow, kcy_m8_follow⟩
theorem kc8_18 : kCs kR8 18 mJ_fill_J7 2 := ⟨kin4 2 (by decide +kernel) rfl, kws_mJ_fill_J7, kwi_mJ_fill_J7, kwc_mJ_fill_J7, kcy_mJ_fill_J7⟩
theorem kc8_24 : kCs kR8 24 m8_stateOf 1 := ⟨kin4 3 (by decide +kernel) rfl, kws_m8_stateOf, kwi_m8_stateOf, kwc_m8_stateOf, kcy_m8_stateOf⟩
theorem kc8_37 : kCs kR8 37 mJ_max_J9 2 := ⟨kin4 6 (by decide +kernel) rfl, kws_mJ_max_J9, kwi_mJ_max_J9, kwc_mJ_max_J9, kcy_mJ_max_J9⟩
theorem kc8_58 : kCs kR8 58 mJ_min_J9 2 := ⟨kin4 7 (by decide +kernel) rfl, kws_mJ_min_J9, kwi_mJ_min_J9, kwc_mJ_min_J9, kcy_mJ_min_J9⟩
theorem kc8_34 : kCv kR8 34 m9_go 0 := ⟨kin4 8 (by decide +kernel) rfl, kwm_m9_go, kwl_m9_go, kwi_m9_go, kwc_m9_go, kcy_m9_go⟩
theorem kc8_49 : kCv kR8 49 m8_shortenRound 0 := ⟨kin4 9 (by decide +kernel) rfl, kwm_m8_shortenRound, kwl_m8_shortenRound, kwi_m8_shortenRound, kwc_m8_shortenRound, kcy_m8_shortenRound⟩
theorem kc8_61 : kCv kR8 61 m8_comesAgainBehind 1 := ⟨kin4 13 (by decide +kernel) rfl, kwm_m8_comesAgainBehind, kwl_m8_comesAgainBehind, kwi_m8_comesAgainBehind, kwc_m8_comesAgainBehind, kcy_m8_comesAgainBehind⟩
theorem kc10_211 : kCv kR10 211 m8_saying 1 := ⟨kin4 26 (by decide +kernel) rfl, kwm_m8_saying, kwl_m8_saying, kwi_m8_saying, kwc_m8_saying, kcy_m8_saying⟩
theorem kc10_214 : kCv kR10 214 m8_most 0 := ⟨kin4 34 (by decide +kernel) rfl, kwm_m8_most, kwl_m8_most, kwi_m8_most, kwc_m8_most, kcy_m8_most⟩
theorem kc10_218 : kCv kR10 218 m8_least 0 := ⟨kin4 42 (by decide +kernel) rfl, kwm_m8_least, kwl_m8_least, kwi_m8_least, kwc_m8_least, kcy_m8_least⟩
theorem kc10_221 : kCv kR10 221 m10_areUnlike 2 := ⟨kin4 54 (by decide +kernel) rfl, kwm_m10_areUnlike, kwl_m10_areUnlike, kwi_m10_areUnlike, kwc_m10_areUnlike, kcy_m10_areUnlike⟩
theorem kc10_224 : kCv kR10 224 m10_sayAllBehind 1 := ⟨kin4 62 (by decide +kernel) rfl, kwm_m10_sayAllBehind, kwl_m10_sayAllBehind, kwi_m10_sayAllBehind, kwc_m10_sayAllBehind, kcy_m10_sayAllBehind⟩
theorem kc10_227 : kCs kR10 227 m10_firstMost 2 := ⟨kin4 66 (by decide +kernel) rfl, kws_m10_firstMost, kwi_m10_firstMost, kwc_m10_firstMost, kcy_m10_firstMost⟩
theorem kc10_231 : kCs kR10 231 mJ_abs_J9 1 := ⟨kin4 77 (by decide +kernel) rfl, kws_mJ_abs_J9, kwi_mJ_abs_J9, kwc_mJ_abs_J9, kcy_mJ_abs_J9⟩
theorem kc10_236 : kCv kR10 236 m10_bitsOfMore 1 := ⟨kin4 88 (by decide +kernel) rfl, kwm_m10_bitsOfMore, kwl_m10_bitsOfMore, kwi_m10_bitsOfMore, kwc_m10_bitsOfMore, kcy_m10_bitsOfMore⟩
theorem kc10_247 : kCv kR10 247 m10_bestEvery 2 := ⟨kin4 96 (by decide +kernel) rfl, kwm_m10_bestEvery, kwl_m10_bestEvery, kwi_m10_bestEvery, kwc_m10_bestEvery, kcy_m10_bestEvery⟩
theorem kc10_243 : kCv kR10 243 m10_sayingByEvery 3 := ⟨kin4 100 (by decide +kernel) rfl, kwm_m10_sayingByEvery, kwl_m10_sayingByEvery, kwi_m10_sayingByEvery, kwc_m10_sayingByEvery, kcy_m10_sayingByEvery⟩
theorem kc10_256 : kCv kR10 256 m10_mayFit 0 := ⟨kin4 120 (by decide +kernel) rfl, kwm_m10_mayFit, kwl_m10_mayFit, kwi_m10_mayFit, kwc_m10_mayFit, kcy_m10_mayFit⟩
theorem kc10_253 : kCv kR10 253 m1_find 1 := ⟨kin4 124 (by decide +kernel) rfl, kwm_m1_find, kwl_m1_find, kwi_m1_find, kwc_m1_find, kcy_m1_find⟩
theorem kc1_37 : kCv kR1 37 m5_isUnsure 1 := ⟨kin4 128 (by decide +kernel) rfl, kwm_m5_isUnsure, kwl_m5_isUnsure, kwi_m5_isUnsure, kwc_m5_isUnsure, kcy_m5_isUnsure⟩
theorem kc1_44 : kCv kR1 44 m1_fitsHeard 3 := ⟨kin4 129 (by decide +kernel) rfl, kwm_m1_fitsHeard, kwl_m1_fitsHeard, kwi_m1_fitsHeard, kwc_m1_fitsHeard, kcy_m1_fitsHeard⟩
theorem kc1_67 : kCv kR1 67 m9_beginAsTold 2 := ⟨kin4 133 (by decide +kernel) rfl, kwm_m9_beginAsTold, kwl_m9_beginAsTold, kwi_m9_beginAsTold, kwc_m9_beginAsTold, kcy_m9_beginAsTold⟩
theorem kc1_77 : kCv kR1 77 m9_goOn 1 := ⟨kin4 134 (by decide +kernel) rfl, kwm_m9_goOn, kwl_m9_goOn, kwi_m9_goOn, kwc_m9_goOn, kcy_m9_goOn⟩
theorem kc1_57 : kCv kR1 57 m1_isFit 2 := ⟨kin4 135 (by decide +kernel) rfl, kwm_m1_isFit, kwl_m1_isFit, kwi_m1_isFit, kwc_m1_isFit, kcy_m1_isFit⟩
theorem kc10_265 : kCv kR10 265 m1_inSome 0 := ⟨kin4 147 (by decide +kernel) rfl, kwm_m1_inSome, kwl_m1_inSome, kwi_m1_inSome, kwc_m1_inSome, kcy_m1_inSome⟩
theorem kc10_268 : kCv kR10 268 m1_inAll 0 := ⟨kin4 155 (by decide +kernel) rfl, kwm_m1_inAll, kwl_m1_inAll, kwi_m1_inAll, kwc_m1_inAll, kcy_m1_inAll⟩
theorem kc10_274 : kCv kR10 274 m1_bestQuestion 1 := ⟨kin4 163 (by decide +kernel) rfl, kwm_m1_bestQuestion, kwl_m1_bestQuestion, kwi_m1_bestQuestion, kwc_m1_bestQuestion, kcy_m1_bestQuestion⟩
theorem kc1_93 : kCv kR1 93 m1_leftAtMost 1 := ⟨kin4 167 (by decide +kernel) rfl, kwm_m1_leftAtMost, kwl_m1_leftAtMost, kwi_m1_leftAtMost, kwc_m1_leftAtMost, kcy_m1_leftAtMost⟩
theorem kc1_87 : kCs kR1 87 mJ_max_J9 2 := ⟨kin4 171 (by decide +kernel) rfl, kws_mJ_max_J9, kwi_mJ_max_J9, kwc_mJ_max_J9, kcy_mJ_max_J9⟩
theorem kc10_277 : kCv kR10 277 m1_leftAtMost 1 := ⟨kin4 176 (by decide +kernel) rfl, kwm_m1_leftAtMost, kwl_m1_leftAtMost, kwi_m1_leftAtMost, kwc_m1_leftAtMost, kcy_m1_leftAtMost⟩
theorem kc10_283 : kCv kR10 283 m10_apartByTold 1 := ⟨kin4 181 (by decide +kernel) rfl, kwm_m10_apartByTold, kwl_m10_apartByTold, kwi_m10_apartByTold, kwc_m10_apartByTold, kcy_m10_apartByTold⟩
theorem kc10_289 : kCv kR10 289 m9_beginAsTold 2 := ⟨kin4 185 (by decide +kernel) rfl, kwm_m9_beginAsTold, kwl_m9_beginAsTold, kwi_m9_beginAsTold, kwc_m9_beginAsTold, kcy_m9_beginAsTold⟩
theorem kc10_303 : kCv kR10 303 m0_reckon 2 := ⟨kin4 199 (by decide +kernel) rfl, kwm_m0_reckon, kwl_m0_reckon, kwi_m0_reckon, kwc_m0_reckon, kcy_m0_reckon⟩
theorem kc0_27 : kCs kR0 27 mJ_min_J9 2 := ⟨kin4 203 (by decide +kernel) rfl, kws_mJ_min_J9, kwi_mJ_min_J9, kwc_mJ_min_J9, kcy_mJ_min_J9⟩
theorem kc10_310 : kCv kR10 310 m0_owedInAll 0 := ⟨kin4 208 (by decide +kernel) rfl, kwm_m0_owedInAll, kwl_m0_owedInAll, kwi_m0_owedInAll, kwc_m0_owedInAll, kcy_m0_owedInAll⟩
theorem kc0_42 : kCs kR0 42 mJ_max_J9 2 := ⟨kin4 212 (by decide +kernel) rfl, kws_mJ_max_J9, kwi_mJ_max_J9, kwc_mJ_max_J9, kcy_mJ_max_J9⟩
theorem kc10_313 : kCv kR10 313 m0_fewestPayments 0 := ⟨kin4 221 (by decide +kernel) rfl, kwm_m0_fewestPayments, kwl_m0_fewestPayments, kwi_m0_fewestPayments, kwc_m0_fewestPayments, kcy_m0_fewestPayments⟩
theorem kc10_316 : kCv kR10 316 m0_findRing 3 := ⟨kin4 229 (by decide +kernel) rfl, kwm_m0_findRing, kwl_m0_findRing, kwi_m0_findRing, kwc_m0_findRing, kcy_m0_findRing⟩
theorem kc0_48 : kCv kR0 48 m0_countDebtsHome 2 := ⟨kin4 233 (by decide +kernel) rfl, kwm_m0_countDebtsHome, kwl_m0_countDebtsHome, kwi_m0_countDebtsHome, kwc_m0_countDebtsHome, kcy_m0_countDebtsHome⟩
theorem kc0_60 : kCs kR0 60 mJ_fill_J7 2 := ⟨kin4 237 (by decide +kernel) rfl, kws_mJ_fill_J7, kwi_mJ_fill_J7, kwc_mJ_fill_J7, kcy_mJ_fill_J7⟩
theorem kc0_52 : kCv kR0 52 m0_fewestDebtsBehind 2 := ⟨kin4 238 (by decide +kernel) rfl, kwm_m0_fewestDebtsBehind, kwl_m0_fewestDebtsBehind, kwi_m0_fewestDebtsBehind, kwc_m0_fewestDebtsBehind, kcy_m0_fewestDebtsBehind⟩
theorem kc0_56 : kCv kR0 56 m0_firstNext 3 := ⟨kin5 2 (by decide +kernel) rfl, kwm_m0_firstNext, kwl_m0_firstNext, kwi_m0_firstNext, kwc_m0_firstNext, kcy_m0_firstNext⟩
theorem kc10_326 : kCs kR10 326 m10_share 3 := ⟨kin5 14 (by decide +kernel) rfl, kws_m10_share, kwi_m10_share, kwc_m10_share, kcy_m10_share⟩
theorem kc10_334 : kCs kR10 334 m10_isRestAt 2 := ⟨kin5 21 (by decide +kernel) rfl, kws_m10_isRestAt, kwi_m10_isRestAt, kwc_m10_isRestAt, kcy_m10_isRestAt⟩
theorem kc10_330 : kCs kR10 330 m10_isRest 3 := ⟨kin5 24 (by decide +kernel) rfl, kws_m10_isRest, kwi_m10_isRest, kwc_m10_isRest, kcy_m10_isRest⟩
theorem kc10_339 : kCv kR10 339 m2_reckon 3 := ⟨kin5 36 (by decide +kernel) rfl, kwm_m2_reckon, kwl_m2_reckon, kwi_m2_reckon, kwc_m2_reckon, kcy_m2_reckon⟩
theorem kc2_22 : kCv kR2 22 m2_lookBy 3 := ⟨kin5 40 (by decide +kernel) rfl, kwm_m2_lookBy, kwl_m2_lookBy, kwi_m2_lookBy, kwc_m2_lookBy, kcy_m2_lookBy⟩
theorem kc2_30 : kCs kR2 30 mJ_fill_J7 2 := ⟨kin5 44 (by decide +kernel) rfl, kws_mJ_fill_J7, kwi_mJ_fill_J7, kwc_mJ_fill_J7, kcy_mJ_fill_J7⟩
theorem kc10_348 : kCv kR10 348 m6_reduce 2 := ⟨kin5 46 (by decide +kernel) rfl, kwm_m6_reduce, kwl_m6_reduce, kwi_m6_reduce, kwc_m6_reduce, kcy_m6_reduce⟩
theorem kc10_352 : kCv kR10 352 m6_part 1 := ⟨kin5 50 (by decide +kernel) rfl, kwm_m6_part, kwl_m6_part, kwi_m6_part, kwc_m6_part, kcy_m6_part⟩
theorem kc10_357 : kCv kR10 357 m2_look 3 := ⟨kin5 59 (by decide +kernel) rfl, kwm_m2_look, kwl_m2_look, kwi_m2_look, kwc_m2_look, kcy_m2_look⟩
theorem kc10_364 : kCv kR10 364 m10_goWithDumb 3 := ⟨kin5 75 (by decide +kernel) rfl, kwm_m10_goWithDumb, kwl_m10_goWithDumb, kwi_m10_goWithDumb, kwc_m10_goWithDumb, kcy_m10_goWithDumb⟩
theorem kc10_375 : kCv kR10 375 m9_goDumb 0 := ⟨kin5 79 (by decide +kernel) rfl, kwm_m9_goDumb, kwl_m9_goDumb, kwi_m9_goDumb, kwc_m9_goDumb, kcy_m9_goDumb⟩
theorem kc10_368 : kCs kR10 368 m10_allChances 1 := ⟨kin5 80 (by decide +kernel) rfl, kws_m10_allChances, kwi_m10_allChances, kwc_m10_allChances, kcy_m10_allChances⟩
theorem kc10_380 : kCs kR10 380 m10_drawFrom 1 := ⟨kin5 92 (by decide +kernel) rfl, kws_m10_drawFrom, kwi_m10_drawFrom, kwc_m10_drawFrom, kcy_m10_drawFrom⟩
theorem kc10_386 : kCv kR10 386 m3_keep 1 := ⟨kin5 97 (by decide +kernel) rfl, kwm_m3_keep, kwl_m3_keep, kwi_m3_keep, kwc_m3_keep, kcy_m3_keep⟩
theorem kc3_25 : kCv kR3 25 m4_save 1 := ⟨kin5 101 (by decide +kernel) rfl, kwm_m4_save, kwl_m4_save, kwi_m4_save, kwc_m4_save, kcy_m4_save⟩
theorem kc3_29 : kCs kR3 29 mJ_min_J9 2 := ⟨kin5 105 (by decide +kernel) rfl, kws_mJ_min_J9, kwi_mJ_min_J9, kwc_mJ_min_J9, kcy_mJ_min_J9⟩
theorem kc10_396 : kCv kR10 396 m10_deny 1 := ⟨kin5 115 (by decide +kernel) rfl, kwm_m10_deny, kwl_m10_deny, kwi_m10_deny, kwc_m10_deny, kcy_m10_deny⟩
theorem kc10_400 : kCv kR10 400 m3_takeBack 1 := ⟨kin5 127 (by decide +kernel) rfl, kwm_m3_takeBack, kwl_m3_takeBack, kwi_m3_takeBack, kwc_m3_takeBack, kcy_m3_takeBack⟩
theorem kc3_35 : kCv kR3 35 m4_load 1 := ⟨kin5 131 (by decide +kernel) rfl, kwm_m4_load, kwl_m4_load, kwi_m4_load, kwc_m4_load, kcy_m4_load⟩
theorem kc10_403 : kCv kR10 403 m4_save 1 := ⟨kin5 139 (by decide +kernel) rfl, kwm_m4_save, kwl_m4_save, kwi_m4_save, kwc_m4_save, kcy_m4_save⟩
theorem kc10_407 : kCv kR10 407 m4_load 1 := ⟨kin5 144 (by decide +kernel) rfl, kwm_m4_load, kwl_m4_load, kwi_m4_load, kwc_m4_load, kcy_m4_load⟩
theorem kc10_413 : kCv kR10 413 m5_count 1 := ⟨kin5 149 (by decide +kernel) rfl, kwm_m5_count, kwl_m5_count, kwi_m5_count, kwc_m5_count, kcy_m5_count⟩
theorem kc11_164 : kCv kR11 164 m11_good 0 := ⟨kin6 131 (by decide +kernel) rfl, kwm_m11_good, kwl_m11_good, kwi_m11_good, kwc_m11_good, kcy_m11_good⟩
theorem kc11_146 : kCs kR11 146 m11_in 3 := ⟨kin6 135 (by decide +kernel) rfl, kws_m11_in, kwi_m11_in, kwc_m11_in, kcy_m11_in⟩
theorem kc11_167 : kCv kR11 167 m11_no 1 := ⟨kin6 138 (by decide +kernel) rfl, kwm_m11_no, kwl_m11_no, kwi_m11_no, kwc_m11_no, kcy_m11_no⟩
theorem kc11_118 : kCv kR11 118 m11_next 0 := ⟨kin6 142 (by decide +kernel) rfl, kwm_m11_next, kwl_m11_next, kwi_m11_next, kwc_m11_next, kcy_m11_next⟩
theorem kc11_74 : kCv kR11 74 m11_see 1 := ⟨kin6 146 (by decide +kernel) rfl, kwm_m11_see, kwl_m11_see, kwi_m11_see, kwc_m11_see, kcy_m11_see⟩
theorem kc11_90 : kCs kR11 90 m11_isSmall 1 := ⟨kin6 150 (by decide +kernel) rfl, kws_m11_isSmall, kwi_m11_isSmall, kwc_m11_isSmall, kcy_m11_isSmall⟩
theorem kc11_94 : kCs kR11 94 m11_isDigit 1 := ⟨kin6 153 (by decide +kernel) rfl, kws_m11_isDigit, kwi_m11_isDigit, kwc_m11_isDigit, kcy_m11_isDigit⟩
theorem kc11_170 : kCv kR11 170 m11_readLine 0 := ⟨kin6 156 (by decide +kernel) rfl, kwm_m11_readLine, kwl_m11_readLine, kwi_m11_readLine, kwc_m11_readLine, kcy_m11_readLine⟩
theorem kc11_114 : kCv kR11 114 m11_isWord 1 := ⟨kin6 161 (by decide +kernel) rfl, kwm_m11_isWord, kwl_m11_isWord, kwi_m11_isWord, kwc_m11_isWord, kcy_m11_isWord⟩
theorem kc11_104 : kCv kR11 104 mJ_length_J0 0 := ⟨kin6 165 (by decide +kernel) rfl, kwm_mJ_length_J0, kwl_mJ_length_J0, kwi_mJ_length_J0, kwc_mJ_length_J0, kcy_mJ_length_J0⟩
theorem kc11_110 : kCv kR11 110 mJ_charAt_J0 1 := ⟨kin6 166 (by decide +kernel) rfl, kwm_mJ_charAt_J0, kwl_mJ_charAt_J0, kwi_mJ_charAt_J0, kwc_mJ_charAt_J0, kcy_mJ_charAt_J0⟩
theorem kc11_186 : kCv kR11 186 m11_pierLine 0 := ⟨kin6 167 (by decide +kernel) rfl, kwm_m11_pierLine, kwl_m11_pierLine, kwi_m11_pierLine, kwc_m11_pierLine, kcy_m11_pierLine⟩
theorem kc11_124 : kCv kR11 124 m11_wrong 2 := ⟨kin6 171 (by decide +kernel) rfl, kwm_m11_wrong, kwl_m11_wrong, kwi_m11_wrong, kwc_m11_wrong, kcy_m11_wrong⟩
theorem kc11_210 : kCv kR11 210 m11_after 3 := ⟨kin6 176 (by decide +kernel) rfl, kwm_m11_after, kwl_m11_after, kwi_m11_after, kwc_m11_after, kcy_m11_after⟩
theorem kc11_157 : kCv kR11 157 m11_must 1 := ⟨kin6 180 (by decide +kernel) rfl, kwm_m11_must, kwl_m11_must, kwi_m11_must, kwc_m11_must, kcy_m11_must⟩
theorem kc11_121 : kCv kR11 121 m11_takesWord 1 := ⟨kin6 184 (by decide +kernel) rfl, kwm_m11_takesWord, kwl_m11_takesWord, kwi_m11_takesWord, kwc_m11_takesWord, kcy_m11_takesWord⟩
theorem kc11_161 : kCv kR11 161 m11_number 2 := ⟨kin6 188 (by decide +kernel) rfl, kwm_m11_number, kwl_m11_number, kwi_m11_number, kwc_m11_number, kcy_m11_number⟩
theorem kc11_150 : kCv kR11 150 m11_numberHere 2 := ⟨kin6 192 (by decide +kernel) rfl, kwm_m11_numberHere, kwl_m11_numberHere, kwi_m11_numberHere, kwc_m11_numberHere, kcy_m11_numberHere⟩
theorem kc11_154 : kCv kR11 154 m11_pass 0 := ⟨kin6 196 (by decide +kernel) rfl, kwm_m11_pass, kwl_m11_pass, kwi_m11_pass, kwc_m11_pass, kcy_m11_pass⟩
theorem kc11_189 : kCv kR11 189 m11_begins 2 := ⟨kin6 202 (by decide +kernel) rfl, kwm_m11_begins, kwl_m11_begins, kwi_m11_begins, kwc_m11_begins, kcy_m11_begins⟩
theorem kc11_193 : kCv kR11 193 m11_pairLine 0 := ⟨kin6 206 (by decide +kernel) rfl, kwm_m11_pairLine, kwl_m11_pairLine, kwi_m11_pairLine, kwc_m11_pairLine, kcy_m11_pairLine⟩
theorem kc11_216 : kCv kR11 216 m11_newName 1 := ⟨kin6 210 (by decide +kernel) rfl, kwm_m11_newName, kwl_m11_newName, kwi_m11_newName, kwc_m11_newName, kcy_m11_newName⟩
theorem kc11_140 : kCv kR11 140 m11_mustName 0 := ⟨kin6 214 (by decide +kernel) rfl, kwm_m11_mustName, kwl_m11_mustName, kwi_m11_mustName, kwc_m11_mustName, kcy_m11_mustName⟩
theorem kc11_143 : kCv kR11 143 m11_find 0 := ⟨kin6 222 (by decide +kernel) rfl, kwm_m11_find, kwl_m11_find, kwi_m11_find, kwc_m11_find, kcy_m11_find⟩
theorem kc11_196 : kCv kR11 196 m11_contractLine 0 := ⟨kin6 232 (by decide +kernel) rfl, kwm_m11_contractLine, kwl_m11_contractLine, kwi_m11_contractLine, kwc_m11_contractLine, kcy_m11_contractLine⟩
theorem kc11_232 : kCv kR11 232 m11_pairHere 0 := ⟨kin6 236 (by decide +kernel) rfl, kwm_m11_pairHere, kwl_m11_pairHere, kwi_m11_pairHere, kwc_m11_pairHere, kcy_m11_pairHere⟩
theorem kc11_199 : kCv kR11 199 m11_debtLine 0 := ⟨kin7 1 (by decide +kernel) rfl, kwm_m11_debtLine, kwl_m11_debtLine, kwi_m11_debtLine, kwc_m11_debtLine, kcy_m11_debtLine⟩
theorem kc11_202 : kCv kR11 202 m11_unsureLine 0 := ⟨kin7 5 (by decide +kernel) rfl, kwm_m11_unsureLine, kwl_m11_unsureLine, kwi_m11_unsureLine, kwc_m11_unsureLine, kcy_m11_unsureLine⟩
theorem kc11_205 : kCv kR11 205 m11_heardLine 0 := ⟨kin7 9 (by decide +kernel) rfl, kwm_m11_heardLine, kwl_m11_heardLine, kwi_m11_heardLine, kwc_m11_heardLine, kcy_m11_heardLine⟩
theorem kc11_173 : kCs kR11 173 m11_copy 5 := ⟨kin7 14 (by decide +kernel) rfl, kws_m11_copy, kwi_m11_copy, kwc_m11_copy, kcy_m11_copy⟩
theorem kc11_239 : kCv kR11 239 m11_isPair 1 := ⟨kin7 29 (by decide +kernel) rfl, kwm_m11_isPair, kwl_m11_isPair, kwi_m11_isPair, kwc_m11_isPair, kcy_m11_isPair⟩
theorem kc11_272 : kCv kR11 272 m11_isMore 1 := ⟨kin7 33 (by decide +kernel) rfl, kwm_m11_isMore, kwl_m11_isMore, kwi_m11_isMore, kwc_m11_isMore, kcy_m11_isMore⟩
theorem kc11_279 : kCv kR11 279 m11_aheadWhy 2 := ⟨kin7 41 (by decide +kernel) rfl, kwm_m11_aheadWhy, kwl_m11_aheadWhy, kwi_m11_aheadWhy, kwc_m11_aheadWhy, kcy_m11_aheadWhy⟩
theorem kc11_275 : kCv kR11 275 m11_why 2 := ⟨kin7 45 (by decide +kernel) rfl, kwm_m11_why, kwl_m11_why, kwi_m11_why, kwc_m11_why, kcy_m11_why⟩
theorem kc11_283 : kCv kR11 283 m11_saysIn 2 := ⟨kin7 49 (by decide +kernel) rfl, kwm_m11_saysIn, kwl_m11_saysIn, kwi_m11_saysIn, kwc_m11_saysIn, kcy_m11_saysIn⟩
theorem kc11_253 : kCv kR11 253 m11_saysBy 4 := ⟨kin7 53 (by decide +kernel) rfl, kwm_m11_saysBy, kwl_m11_saysBy, kwi_m11_saysBy, kwc_m11_saysBy, kcy_m11_saysBy⟩
theorem kc11_249 : kCv kR11 249 m11_behind 6 := ⟨kin7 57 (by decide +kernel) rfl, kwm_m11_behind, kwl_m11_behind, kwi_m11_behind, kwc_m11_behind, kcy_m11_behind⟩
theorem kc11_245 : kCv kR11 245 m11_byLaw 3 := ⟨kin7 61 (by decide +kernel) rfl, kwm_m11_byLaw, kwl_m11_byLaw, kwi_m11_byLaw, kwc_m11_byLaw, kcy_m11_byLaw⟩
theorem kc11_242 : kCv kR11 242 m11_within 1 := ⟨kin7 65 (by decide +kernel) rfl, kwm_m11_within, kwl_m11_within, kwi_m11_within, kwc_m11_within, kcy_m11_within⟩
theorem kc11_286 : kCv kR11 286 m11_goRound 1 := ⟨kin7 85 (by decide +kernel) rfl, kwm_m11_goRound, kwl_m11_goRound, kwi_m11_goRound, kwc_m11_goRound, kcy_m11_goRound⟩
theorem kc11_266 : kCv kR11 266 m11_isRoundOf 1 := ⟨kin7 89 (by decide +kernel) rfl, kwm_m11_isRoundOf, kwl_m11_isRoundOf, kwi_m11_isRoundOf, kwc_m11_isRoundOf, kcy_m11_isRoundOf⟩
theorem kc11_290 : kCv kR11 290 m11_extremeOf 2 := ⟨kin7 106 (by decide +kernel) rfl, kwm_m11_extremeOf, kwl_m11_extremeOf, kwi_m11_extremeOf, kwc_m11_extremeOf, kcy_m11_extremeOf⟩
theorem kc11_293 : kCv kR11 293 m11_areTwo 2 := ⟨kin7 122 (by decide +kernel) rfl, kwm_m11_areTwo, kwl_m11_areTwo, kwi_m11_areTwo, kwc_m11_areTwo, kcy_m11_areTwo⟩
theorem kc11_297 : kCv kR11 297 m11_mastersIn 1 := ⟨kin7 134 (by decide +kernel) rfl, kwm_m11_mastersIn, kwl_m11_mastersIn, kwi_m11_mastersIn, kwc_m11_mastersIn, kcy_m11_mastersIn⟩
theorem kc11_300 : kCv kR11 300 m11_bestEvery 2 := ⟨kin7 154 (by decide +kernel) rfl, kwm_m11_bestEvery, kwl_m11_bestEvery, kwi_m11_bestEvery, kwc_m11_bestEvery, kcy_m11_bestEvery⟩
theorem kc11_303 : kCv kR11 303 m11_isNeverMore 2 := ⟨kin7 166 (by decide +kernel) rfl, kwm_m11_isNeverMore, kwl_m11_isNeverMore, kwi_m11_isNeverMore, kwc_m11_isNeverMore, kcy_m11_isNeverMore⟩
theorem kc11_327 : kCv kR11 327 m11_seekSets 1 := ⟨kin7 178 (by decide +kernel) rfl, kwm_m11_seekSets, kwl_m11_seekSets, kwi_m11_seekSets, kwc_m11_seekSets, kcy_m11_seekSets⟩
theorem kc11_324 : kCv kR11 324 m11_wrongBy 1 := ⟨kin7 182 (by decide +kernel) rfl, kwm_m11_wrongBy, kwl_m11_wrongBy, kwi_m11_wrongBy, kwc_m11_wrongBy, kcy_m11_wrongBy⟩
theorem kc11_312 : kCv kR11 312 m11_saidThen 3 := ⟨kin7 186 (by decide +kernel) rfl, kwm_m11_saidThen, kwl_m11_saidThen, kwi_m11_saidThen, kwc_m11_saidThen, kcy_m11_saidThen⟩
theorem kc11_309 : kCv kR11 309 m11_stepBy 2 := ⟨kin7 190 (by decide +kernel) rfl, kwm_m11_stepBy, kwl_m11_stepBy, kwi_m11_stepBy, kwc_m11_stepBy, kcy_m11_stepBy⟩
theorem kc11_306 : kCs kR11 306 m11_hasBit 2 := ⟨kin7 194 (by decide +kernel) rfl, kws_m11_hasBit, kwi_m11_hasBit, kwc_m11_hasBit, kcy_m11_hasBit⟩
theorem kc11_333 : kCv kR11 333 m11_askOf 0 := ⟨kin7 213 (by decide +kernel) rfl, kwm_m11_askOf, kwl_m11_askOf, kwi_m11_askOf, kwc_m11_askOf, kcy_m11_askOf⟩
theorem kc11_330 : kCv kR11 330 m11_leavesOf 1 := ⟨kin7 217 (by decide +kernel) rfl, kwm_m11_leavesOf, kwl_m11_leavesOf, kwi_m11_leavesOf, kwc_m11_leavesOf, kcy_m11_leavesOf⟩
theorem kc11_336 : kCv kR11 336 m11_debtOf 2 := ⟨kin7 237 (by decide +kernel) rfl, kwm_m11_debtOf, kwl_m11_debtOf, kwi_m11_debtOf, kwc_m11_debtOf, kcy_m11_debtOf⟩
theorem kc11_339 : kCv kR11 339 m11_netOf 1 := ⟨kin8 5 (by decide +kernel) rfl, kwm_m11_netOf, kwl_m11_netOf, kwi_m11_netOf, kwc_m11_netOf, kcy_m11_netOf⟩
theorem kc11_349 : kCs kR11 349 m11_ones 1 := ⟨kin8 22 (by decide +kernel) rfl, kws_m11_ones, kwi_m11_ones, kwc_m11_ones, kcy_m11_ones⟩
theorem kc11_346 : kCv kR11 346 m11_groupsOf 1 := ⟨kin8 25 (by decide +kernel) rfl, kwm_m11_groupsOf, kwl_m11_groupsOf, kwi_m11_groupsOf, kwc_m11_groupsOf, kcy_m11_groupsOf⟩
theorem kc11_343 : kCv kR11 343 m11_netsOf 1 := ⟨kin8 29 (by decide +kernel) rfl, kwm_m11_netsOf, kwl_m11_netsOf, kwi_m11_netsOf, kwc_m11_netsOf, kcy_m11_netsOf⟩
theorem kc11_359 : kCv kR11 359 m11_seekRing 1 := ⟨kin8 37 (by decide +kernel) rfl, kwm_m11_seekRing, kwl_m11_seekRing, kwi_m11_seekRing, kwc_m11_seekRing, kcy_m11_seekRing⟩
theorem kc11_355 : kCv kR11 355 m11_tryRing 2 := ⟨kin8 42 (by decide +kernel) rfl, kwm_m11_tryRing, kwl_m11_tryRing, kwi_m11_tryRing, kwc_m11_tryRing, kcy_m11_tryRing⟩
theorem kc11_362 : kCs kR11 362 m11_talksOf 3 := ⟨kin8 54 (by decide +kernel) rfl, kws_m11_talksOf, kwi_m11_talksOf, kwc_m11_talksOf, kcy_m11_talksOf⟩
theorem kc11_369 : kCv kR11 369 m11_seekRests 1 := ⟨kin8 61 (by decide +kernel) rfl, kwm_m11_seekRests, kwl_m11_seekRests, kwi_m11_seekRests, kwc_m11_seekRests, kcy_m11_seekRests⟩
theorem kc11_372 : kCv kR11 372 m11_verdictOf 0 := ⟨kin8 73 (by decide +kernel) rfl, kwm_m11_verdictOf, kwl_m11_verdictOf, kwi_m11_verdictOf, kwc_m11_verdictOf, kcy_m11_verdictOf⟩
theorem kc11_375 : kCs kR11 375 m11_lowest 3 := ⟨kin8 77 (by decide +kernel) rfl, kws_m11_lowest, kwi_m11_lowest, kwc_m11_lowest, kcy_m11_lowest⟩
theorem kc11_381 : kCv kR11 381 m11_lookWhy 3 := ⟨kin8 84 (by decide +kernel) rfl, kwm_m11_lookWhy, kwl_m11_lookWhy, kwi_m11_lookWhy, kwc_m11_lookWhy, kcy_m11_lookWhy⟩
theorem kc11_395 : kCv kR11 395 m11_tryDumb 3 := ⟨kin8 98 (by decide +kernel) rfl, kwm_m11_tryDumb, kwl_m11_tryDumb, kwi_m11_tryDumb, kwc_m11_tryDumb, kcy_m11_tryDumb⟩
theorem kc11_399 : kCv kR11 399 m11_note 0 := ⟨kin8 114 (by decide +kernel) rfl, kwm_m11_note, kwl_m11_note, kwi_m11_note, kwc_m11_note, kcy_m11_note⟩
theorem kc11_402 : kCv kR11 402 m11_isNot 1 := ⟨kin8 126 (by decide +kernel) rfl, kwm_m11_isNot, kwl_m11_isNot, kwi_m11_isNot, kwc_m11_isNot, kcy_m11_isNot⟩
theorem kc2_26 : kCn kR2 "FigureKnee" 26 m10_firstMost 2 := ⟨by simp [kNl], kws_m10_firstMost, kwi_m10_firstMost, kwc_m10_firstMost, kcy_m10_firstMost⟩
theorem kc2_36 : kCn kR2 "FigureKnee" 36 m10_drawFrom 1 := ⟨by simp [kNl], kws_m10_drawFrom, kwi_m10_drawFrom, kwc_m10_drawFrom, kcy_m10_drawFrom⟩
end
section
-- the tables' types of arrays
def ktys (G : kG) : List (ClassId × FieldType) := [(G.2.1.1, .int), (G.2.1.2.1, .byte), (G.2.1.2.2.1, .long), (G.2.1.2.2.2, .array .int)]
/-- two static fields that nobody writes: texts are held by bytes; the maker of a message, null or some object -/
def kZs (G : kG) (E : kE) (A : Nat → Prop) (U : State) (H : Heap) : Prop := va_Z "java/lang/String" "COMPACT_STRINGS" "Z" (.int 1) A U H ∧ va_Z "jdk/internal/util/Preconditions" "SIOOBE_FORMATTER" "Ljava/util/function/BiFunction;" (kcv E.1 G.2.2.2.2) A U H
/-- what stands still while a method runs -/
def kCx (G : kG) (E : kE) (M : kM) (p : Program) (s : State) (m : MethodId) (args : Array Value) (meth : Method) (c : Code) (A : Nat → Prop) : Prop :=
  (p.tables.exec = Jvm.exec ∧ c.code = M.2.1 ∧ c.maxLocals = M.2.2.1 ∧ meth.sig.returnType = M.2.2.2 ∧ meth.locks = false ∧ s.vm.findClass M.1.cls = some m.cls ∧ (∀ w ∈ kT, w.before args s = true)) ∧
  va_K G.1 kCl (ktys G) s ∧ vk_S 16 kLen kByt G.2.2.1 G.2.2.2.1 A s s.heap ∧ (∀ z ∈ kSi, vk_R z.1 z.2.1 (kTx.getD z.2.2 "") (G.2.2.1 z.2.2) s) ∧
  (∀ q, s.heap.size ≤ q → A q) ∧ (∀ k, k < kN → A (E.1 k)) ∧ (∀ i j, i < kN → j < kN → E.1 i = E.1 j → i = j) ∧ (∀ i, i < 16 → E.1 (1000 + i) = G.2.2.1 i ∧ E.1 (1100 + i) = G.2.2.2.1 i) ∧ (∀ w ∈ kNl, va_Nw w s) ∧ kZs G E A s s.heap
/-- FROM pc ON, with these values at hand: if the picture o ends with q, the machine does, and its end is Z -/
def kOk {ρ : Type} (l : Launch) (G : kG) (E : kE) (Z : (Nat → Prop) → ρ → Array Value → State → Outcome → State → Prop) (M : kM) (d : Nat) (o : Option ρ) (pc : Nat) (lv : List (Nat × Value)) (st : List Value) (S : kSt) : Prop :=
  ∀ (p : Program) (e : Env) (s : State) (m : MethodId) (args : Array Value) (below : List Frame) (meth : Method) (c : Code) (A : Nat → Prop) (H : Heap) (locs : List Loc) (ls : Array Slot) (q : ρ),
    kCx G E M p s m args meth c A → va_P G.1 kCl (kws G E S) H → va_S A s.heap H locs → lv_has ls M.2.2.1 (lv.map (fun x => (x.1, kcv E.1 x.2))) → o = some q →
    W p l e (krm d) s m args below meth c H locs 0 0 (MQ below (Z A q) args s 0 0 A) (F0 m pc ls (st.map (kcv E.1)))
section RULES
variable {ρ : Type} {l : Launch} {G : kG} {E : kE} {Z : (Nat → Prop) → ρ → Array Value → State → Outcome → State → Prop} {M : kM} {d : Nat} {o : Option ρ} {pc pc' : Nat} {lv lv' : List (Nat × Value)} {st : List Value} {S : kSt}
theorem ok_none : kOk l G E Z M d (none : Option ρ) pc lv st S := by
  intro p e s m args below meth c A H locs ls q C hP hS hl ho
  cases ho
theorem klv_at {ls : Array Slot} {n : Nat} (h : lv_has ls n (lv.map (fun x => (x.1, kcv E.1 x.2)))) (i : Nat) {k : Nat} {v : Value} (hi : lv[i]? = some (k, v)) : ls[k]? = some (.val (kcv E.1 v)) :=
  h.2.2 (k, kcv E.1 v) (List.mem_map.mpr ⟨(k, v), List.mem_of_getElem? hi, rfl⟩)
theorem ok_sub (ks : List Nat) (h : lv_pick lv ks = lv') (k : kOk l G E Z M d o pc lv' st S) : kOk l G E Z M d o pc lv st S := by
  intro p e s m args below meth c A H locs ls q C hP hS hl ho
  refine k p e s m args below meth c A H locs ls q C hP hS ⟨hl.1, hl.2.1, fun x hx => ?_⟩ ho
  obtain ⟨y, hy, rfl⟩ := List.mem_map.mp hx
  rw [← h] at hy
  obtain ⟨i, -, hi⟩ := List.mem_filterMap.mp hy
  exact hl.2.2 _ (List.mem_map.mpr ⟨y, List.mem_of_getElem? hi, rfl⟩)
theorem kcat (ad : Nat → Nat) (v : Value) : (kcv ad v).category = v.category := by cases v <;> rfl
theorem kfilt (ad : Nat → Nat) (i : Nat) : ∀ l : List (Nat × Value), ((l.map (fun x => (x.1, kcv ad x.2))).filter (fun q => !(q.1 == i) && !(q.1 + 1 == i && q.2.category == 2))) = (l.filter (fun q => !(q.1 == i) && !(q.1 + 1 == i && q.2.category == 2))).map (fun x => (x.1, kcv ad x.2))
  | [] => rfl
  | a :: l => by
    rw [List.map_cons, List.filter_cons, List.filter_cons, kfilt ad i l, kcat]
    split <;> rfl
theorem kfilt2 (ad : Nat → Nat) (i : Nat) : ∀ l : List (Nat × Value), ((l.map (fun x => (x.1, kcv ad x.2))).filter (fun q => !(q.1 == i) && (!(q.1 == i + 1) && !(q.1 + 1 == i && q.2.category == 2)))) = (l.filter (fun q => !(q.1 == i) && (!(q.1 == i + 1) && !(q.1 + 1 == i && q.2.category == 2)))).map (fun x => (x.1, kcv ad x.2))
  | [] => rfl
  | a :: l => by
    rw [List.map_cons, List.filter_cons, List.filter_cons, kfilt2 ad i l, kcat]
    split <;> rfl

theorem ok_iconst {n : Int} {v : Int32} (hd : kD M pc (.iconst n) 1 pc') (hv : Int32.ofInt n = v) (k : kOk l G E Z M d o pc' lv (.int v :: st) S) : kOk l G E Z M d o pc lv st S := by
  intro p e s m args below meth c A H locs ls q C hP hS hl ho
  obtain ⟨hdc, rfl⟩ := hd
  exact lv_iconst C.1.1 C.1.2.1 hdc hv (k p e s m args below meth c A H locs ls q C hP hS hl ho)
theorem ok_bipush {n : Int} {v : Int32} (hd : kD M pc (.bipush n) 2 pc') (hv : (Int8.ofInt n).toInt32 = v) (k : kOk l G E Z M d o pc' lv (.int v :: st) S) : kOk l G E Z M d o pc lv st S := by
  intro p e s m args below meth c A H locs ls q C hP hS hl ho
  obtain ⟨hdc, rfl⟩ := hd
  exact lv_bipush C.1.1 C.1.2.1 hdc hv (k p e s m args below meth c A H locs ls q C hP hS hl ho)
theorem ok_sipush {n : Int} {v : Int32} (hd : kD M pc (.sipush n) 3 pc') (hv : (Int16.ofInt n).toInt32 = v) (k : kOk l G E Z M d o pc' lv (.int v :: st) S) : kOk l G E Z M d o pc lv st S := by
  intro p e s m args below meth c A H locs ls q C hP hS hl ho
  obtain ⟨hdc, rfl⟩ := hd
  exact lv_sipush C.1.1 C.1.2.1 hdc hv (k p e s m args below meth c A H locs ls q C hP hS hl ho)
theorem ok_lconst {n : Fin 2} {v : Int64} (hd : kD M pc (.lconst n) 1 pc') (hv : Int64.ofNat (n : Nat) = v) (k : kOk l G E Z M d o pc' lv (.long v :: st) S) : kOk l G E Z M d o pc lv st S := by
  intro p e s m args below meth c A H locs ls q C hP hS hl ho
  obtain ⟨hdc, rfl⟩ := hd
  exact lv_lconst C.1.1 C.1.2.1 hdc hv (k p e s m args below meth c A H locs ls q C hP hS hl ho)
theorem ok_iadd {x y : Int32} (hd : kD M pc .iadd 1 pc') (k : kOk l G E Z M d o pc' lv (.int (x + y) :: st) S) : kOk l G E Z M d o pc lv (.int y :: .int x :: st) S := by
  intro p e s m args below meth c A H locs ls q C hP hS hl ho
  obtain ⟨hdc, rfl⟩ := hd
  exact lv_iadd C.1.1 C.1.2.1 hdc (k p e s m args below meth c A H locs ls q C hP hS hl ho)
theorem ok_isub {x y : Int32} (hd : kD M pc .isub 1 pc') (k : kOk l G E Z M d o pc' lv (.int (x - y) :: st) S) : kOk l G E Z M d o pc lv (.int y :: .int x :: st) S := by
  intro p e s m args below meth c A H locs ls q C hP hS hl ho
  obtain ⟨hdc, rfl⟩ := hd
  exact lv_isub C.1.1 C.1.2.1 hdc (k p e s m args below meth c A H locs ls q C hP hS hl ho)
theorem ok_imul {x y : Int32} (hd : kD M pc .imul 1 pc') (k : kOk l G E Z M d o pc' lv (.int (x * y) :: st) S) : kOk l G E Z M d o pc lv (.int y :: .int x :: st) S := by
  intro p e s m args below meth c A H locs ls q C hP hS hl ho
  obtain ⟨hdc, rfl⟩ := hd
  exact lv_imul C.1.1 C.1.2.1 hdc (k p e s m args below meth c A H locs ls q C hP hS hl ho)
theorem ok_iand {x y : Int32} (hd : kD M pc .iand 1 pc') (k : kOk l G E Z M d o pc' lv (.int (x &&& y) :: st) S) : kOk l G E Z M d o pc lv (.int y :: .int x :: st) S := by
  intro p e s m args below meth c A H locs ls q C hP hS hl ho
  obtain ⟨hdc, rfl⟩ := hd
  exact lv_iand C.1.1 C.1.2.1 hdc (k p e s m args below meth c A H locs ls q C hP hS hl ho)
theorem ok_ior {x y : Int32} (hd : kD M pc .ior 1 pc') (k : kOk l G E Z M d o pc' lv (.int (x ||| y) :: st) S) : kOk l G E Z M d o pc lv (.int y :: .int x :: st) S := by
  intro p e s m args below meth c A H locs ls q C hP hS hl ho
  obtain ⟨hdc, rfl⟩ := hd
  exact lv_ior C.1.1 C.1.2.1 hdc (k p e s m args below meth c A H locs ls q C hP hS hl ho)
theorem ok_ixor {x y : Int32} (hd : kD M pc .ixor 1 pc') (k : kOk l G E Z M d o pc' lv (.int (x ^^^ y) :: st) S) : kOk l G E Z M d o pc lv (.int y :: .int x :: st) S := by
  intro p e s m args below meth c A H locs ls q C hP hS hl ho
  obtain ⟨hdc, rfl⟩ := hd
  exact lv_ixor C.1.1 C.1.2.1 hdc (k p e s m args below meth c A H locs ls q C hP hS hl ho)
theorem ok_ishl {x y : Int32} (hd : kD M pc .ishl 1 pc') (k : kOk l G E Z M d o pc' lv (.int (x <<< (y &&& 31)) :: st) S) : kOk l G E Z M d o pc lv (.int y :: .int x :: st) S := by
  intro p e s m args below meth c A H locs ls q C hP hS hl ho
  obtain ⟨hdc, rfl⟩ := hd
  exact lv_ishl C.1.1 C.1.2.1 hdc (k p e s m args below meth c A H locs ls q C hP hS hl ho)
theorem ok_ishr {x y : Int32} (hd : kD M pc .ishr 1 pc') (k : kOk l G E Z M d o pc' lv (.int (x >>> (y &&& 31)) :: st) S) : kOk l G E Z M d o pc lv (.int y :: .int x :: st) S := by
  intro p e s m args below meth c A H locs ls q C hP hS hl ho
  obtain ⟨hdc, rfl⟩ := hd
  exact lv_ishr C.1.1 C.1.2.1 hdc (k p e s m args below meth c A H locs ls q C hP hS hl ho)
theorem ok_iushr {x y : Int32} (hd : kD M pc .iushr 1 pc') (k : kOk l G E Z M d o pc' lv (.int ((x.toUInt32 >>> (y.toUInt32 &&& Int32.toUInt32 31)).toInt32) :: st) S) : kOk l G E Z M d o pc lv (.int y :: .int x :: st) S := by
  intro p e s m args below meth c A H locs ls q C hP hS hl ho
  obtain ⟨hdc, rfl⟩ := hd
  exact lv_iushr C.1.1 C.1.2.1 hdc rfl (k p e s m args below meth c A H locs ls q C hP hS hl ho)
theorem ok_ineg {x : Int32} (hd : kD M pc .ineg 1 pc') (k : kOk l G E Z M d o pc' lv (.int (-x) :: st) S) : kOk l G E Z M d o pc lv (.int x :: st) S := by
  intro p e s m args below meth c A H locs ls q C hP hS hl ho
  obtain ⟨hdc, rfl⟩ := hd
  exact lv_ineg C.1.1 C.1.2.1 hdc (k p e s m args below meth c A H locs ls q C hP hS hl ho)
theorem ok_ladd {x y : Int64} (hd : kD M pc .ladd 1 pc') (k : kOk l G E Z M d o pc' lv (.long (x + y) :: st) S) : kOk l G E Z M d o pc lv (.long y :: .long x :: st) S := by
  intro p e s m args below meth c A H locs ls q C hP hS hl ho
  obtain ⟨hdc, rfl⟩ := hd
  exact lv_ladd C.1.1 C.1.2.1 hdc (k p e s m args below meth c A H locs ls q C hP hS hl ho)
theorem ok_lsub {x y : Int64} (hd : kD M pc .lsub 1 pc') (k : kOk l G E Z M d o pc' lv (.long (x - y) :: st) S) : kOk l G E Z M d o pc lv (.long y :: .long x :: st) S := by
  intro p e s m args below meth c A H locs ls q C hP hS hl ho
  obtain ⟨hdc, rfl⟩ := hd
  exact lv_lsub C.1.1 C.1.2.1 hdc (k p e s m args below meth c A H locs ls q C hP hS hl ho)
theorem ok_lmul {x y : Int64} (hd : kD M pc .lmul 1 pc') (k : kOk l G E Z M d o pc' lv (.long (x * y) :: st) S) : kOk l G E Z M d o pc lv (.long y :: .long x :: st) S := by
  intro p e s m args below meth c A H locs ls q C hP hS hl ho
  obtain ⟨hdc, rfl⟩ := hd
  exact lv_lmul C.1.1 C.1.2.1 hdc (k p e s m args below meth c A H locs ls q C hP hS hl ho)
theorem ok_i2l {x : Int32} (hd : kD M pc .i2l 1 pc') (k : kOk l G E Z M d o pc' lv (.long x.toInt64 :: st) S) : kOk l G E Z M d o pc lv (.int x :: st) S := by
  intro p e s m args below meth c A H locs ls q C hP hS hl ho
  obtain ⟨hdc, rfl⟩ := hd
  exact lv_i2l C.1.1 C.1.2.1 hdc rfl (k p e s m args below meth c A H locs ls q C hP hS hl ho)
theorem ok_i2b {x : Int32} (hd : kD M pc .i2b 1 pc') (k : kOk l G E Z M d o pc' lv (.int x.toInt8.toInt32 :: st) S) : kOk l G E Z M d o pc lv (.int x :: st) S := by
  intro p e s m args below meth c A H locs ls q C hP hS hl ho
  obtain ⟨hdc, rfl⟩ := hd
  exact lv_i2b C.1.1 C.1.2.1 hdc rfl (k p e s m args below meth c A H locs ls q C hP hS hl ho)
theorem ok_lcmp {x y : Int64} (hd : kD M pc .lcmp 1 pc') (k : kOk l G E Z M d o pc' lv (.int (lg_cmp x y) :: st) S) : kOk l G E Z M d o pc lv (.long y :: .long x :: st) S := by
  intro p e s m args below meth c A H locs ls q C hP hS hl ho
  obtain ⟨hdc, rfl⟩ := hd
  exact W.lcmp C.1.1 C.1.2.1 hdc (k p e s m args below meth c A H locs ls q C hP hS hl ho)
theorem ok_goto {off : Int} {tgt : Nat} (hd : kD M pc (.goto off) 3 pc') (ht : (pc : Int) + off = (tgt : Int)) (k : kOk l G E Z M d o tgt lv st S) : kOk l G E Z M d o pc lv st S := by
  intro p e s m args below meth c A H locs ls q C hP hS hl ho
  obtain ⟨hdc, rfl⟩ := hd
  exact lv_goto C.1.1 C.1.2.1 hdc ht (k p e s m args below meth c A H locs ls q C hP hS hl ho)
theorem ok_icmp_eq {x y : Int32} {off : Int} {tgt : Nat} {o1 o2 : Option ρ} (hd : kD M pc (.if_icmp .eq off) 3 pc') (ht : (pc : Int) + off = (tgt : Int)) (k1 : x = y → kOk l G E Z M d o1 tgt lv st S) (k2 : ¬ x = y → kOk l G E Z M d o2 pc' lv st S) : kOk l G E Z M d (if x = y then o1 else o2) pc lv (.int y :: .int x :: st) S := by
  intro p e s m args below meth c A H locs ls q C hP hS hl ho
  obtain ⟨hdc, rfl⟩ := hd
  refine lv_icmp_eq C.1.1 C.1.2.1 hdc ht (fun hc => ?_) (fun hc => ?_)
  · rw [if_pos hc] at ho
    exact k1 hc p e s m args below meth c A H locs ls q C hP hS hl ho
  · rw [if_neg hc] at ho
    exact k2 hc p e s m args below meth c A H locs ls q C hP hS hl ho
theorem ok_icmp_lt {x y : Int32} {off : Int} {tgt : Nat} {o1 o2 : Option ρ} (hd : kD M pc (.if_icmp .lt off) 3 pc') (ht : (pc : Int) + off = (tgt : Int)) (k1 : x < y → kOk l G E Z M d o1 tgt lv st S) (k2 : ¬ x < y → kOk l G E Z M d o2 pc' lv st S) : kOk l G E Z M d (if x < y then o1 else o2) pc lv (.int y :: .int x :: st) S := by
  intro p e s m args below meth c A H locs ls q C hP hS hl ho
  obtain ⟨hdc, rfl⟩ := hd
  refine lv_icmp_lt C.1.1 C.1.2.1 hdc ht (fun hc => ?_) (fun hc => ?_)
  · rw [if_pos hc] at ho
    exact k1 hc p e s m args below meth c A H locs ls q C hP hS hl ho
  · rw [if_neg hc] at ho
    exact k2 hc p e s m args below meth c A H locs ls q C hP hS hl ho
theorem ok_icmp_ge {x y : Int32} {off : Int} {tgt : Nat} {o1 o2 : Option ρ} (hd : kD M pc (.if_icmp .ge off) 3 pc') (ht : (pc : Int) + off = (tgt : Int)) (k1 : y ≤ x → kOk l G E Z M d o1 tgt lv st S) (k2 : ¬ y ≤ x → kOk l G E Z M d o2 pc' lv st S) : kOk l G E Z M d (if y ≤ x then o1 else o2) pc lv (.int y :: .int x :: st) S := by
  intro p e s m args below meth c A H locs ls q C hP hS hl ho
  obtain ⟨hdc, rfl⟩ := hd
  refine lv_icmp_ge C.1.1 C.1.2.1 hdc ht (fun hc => ?_) (fun hc => ?_)
  · rw [if_pos hc] at ho
    exact k1 hc p e s m args below meth c A H locs ls q C hP hS hl ho
  · rw [if_neg hc] at ho
    exact k2 hc p e s m args below meth c A H locs ls q C hP hS hl ho
theorem ok_icmp_gt {x y : Int32} {off : Int} {tgt : Nat} {o1 o2 : Option ρ} (hd : kD M pc (.if_icmp .gt off) 3 pc') (ht : (pc : Int) + off = (tgt : Int)) (k1 : y < x → kOk l G E Z M d o1 tgt lv st S) (k2 : ¬ y < x → kOk l G E Z M d o2 pc' lv st S) : kOk l G E Z M d (if y < x then o1 else o2) pc lv (.int y :: .int x :: st) S := by
  intro p e s m args below meth c A H locs ls q C hP hS hl ho
  obtain ⟨hdc, rfl⟩ := hd
  refine lv_icmp_gt C.1.1 C.1.2.1 hdc ht (fun hc => ?_) (fun hc => ?_)
  · rw [if_pos hc] at ho
    exact k1 hc p e s m args below meth c A H locs ls q C hP hS hl ho
  · rw [if_neg hc] at ho
    exact k2 hc p e s m args below meth c A H locs ls q C hP hS hl ho
theorem ok_icmp_le {x y : Int32} {off : Int} {tgt : Nat} {o1 o2 : Option ρ} (hd : kD M pc (.if_icmp .le off) 3 pc') (ht : (pc : Int) + off = (tgt : Int)) (k1 : x ≤ y → kOk l G E Z M d o1 tgt lv st S) (k2 : ¬ x ≤ y → kOk l G E Z M d o2 pc' lv st S) : kOk l G E Z M d (if x ≤ y then o1 else o2) pc lv (.int y :: .int x :: st) S := by
  intro p e s m args below meth c A H locs ls q C hP hS hl ho
  obtain ⟨hdc, rfl⟩ := hd
  refine lv_icmp_le C.1.1 C.1.2.1 hdc ht (fun hc => ?_) (fun hc => ?_)
  · rw [if_pos hc] at ho
    exact k1 hc p e s m args below meth c A H locs ls q C hP hS hl ho
  · rw [if_neg hc] at ho
    exact k2 hc p e s m args below meth c A H locs ls q C hP hS hl ho
theorem ok_icmp_ne {x y : Int32} {off : Int} {tgt : Nat} {o1 o2 : Option ρ} (hd : kD M pc (.if_icmp .ne off) 3 pc') (ht : (pc : Int) + off = (tgt : Int)) (k1 : ¬ x = y → kOk l G E Z M d o1 tgt lv st S) (k2 : x = y → kOk l G E Z M d o2 pc' lv st S) : kOk l G E Z M d (if x = y then o2 else o1) pc lv (.int y :: .int x :: st) S := by
  intro p e s m args below meth c A H locs ls q C hP hS hl ho
  obtain ⟨hdc, rfl⟩ := hd
  refine lv_icmp_ne C.1.1 C.1.2.1 hdc ht (fun hc => ?_) (fun hc => ?_)
  · rw [if_neg hc] at ho
    exact k1 hc p e s m args below meth c A H locs ls q C hP hS hl ho
  · rw [if_pos hc] at ho
    exact k2 hc p e s m args below meth c A H locs ls q C hP hS hl ho
theorem ok_if_eq {x : Int32} {off : Int} {tgt : Nat} {o1 o2 : Option ρ} (hd : kD M pc (.ifCond .eq off) 3 pc') (ht : (pc : Int) + off = (tgt : Int)) (k1 : x = 0 → kOk l G E Z M d o1 tgt lv st S) (k2 : ¬ x = 0 → kOk l G E Z M d o2 pc' lv st S) : kOk l G E Z M d (if x = 0 then o1 else o2) pc lv (.int x :: st) S := by
  intro p e s m args below meth c A H locs ls q C hP hS hl ho
  obtain ⟨hdc, rfl⟩ := hd
  refine lv_if_eq C.1.1 C.1.2.1 hdc ht (fun hc => ?_) (fun hc => ?_)
  · rw [if_pos hc] at ho
    exact k1 hc p e s m args below meth c A H locs ls q C hP hS hl ho
  · rw [if_neg hc] at ho
    exact k2 hc p e s m args below meth c A H locs ls q C hP hS hl ho
theorem ok_if_lt {x : Int32} {off : Int} {tgt : Nat} {o1 o2 : Option ρ} (hd : kD M pc (.ifCond .lt off) 3 pc') (ht : (pc : Int) + off = (tgt : Int)) (k1 : x < 0 → kOk l G E Z M d o1 tgt lv st S) (k2 : ¬ x < 0 → kOk l G E Z M d o2 pc' lv st S) : kOk l G E Z M d (if x < 0 then o1 else o2) pc lv (.int x :: st) S := by
  intro p e s m args below meth c A H locs ls q C hP hS hl ho
  obtain ⟨hdc, rfl⟩ := hd
  refine lv_if_lt C.1.1 C.1.2.1 hdc ht (fun hc => ?_) (fun hc => ?_)
  · rw [if_pos hc] at ho
    exact k1 hc p e s m args below meth c A H locs ls q C hP hS hl ho
  · rw [if_neg hc] at ho
    exact k2 hc p e s m args below meth c A H locs ls q C hP hS hl ho
theorem ok_if_ge {x : Int32} {off : Int} {tgt : Nat} {o1 o2 : Option ρ} (hd : kD M pc (.ifCond .ge off) 3 pc') (ht : (pc : Int) + off = (tgt : Int)) (k1 : 0 ≤ x → kOk l G E Z M d o1 tgt lv st S) (k2 : ¬ 0 ≤ x → kOk l G E Z M d o2 pc' lv st S) : kOk l G E Z M d (if 0 ≤ x then o1 else o2) pc lv (.int x :: st) S := by
  intro p e s m args below meth c A H locs ls q C hP hS hl ho
  obtain ⟨hdc, rfl⟩ := hd
  refine lv_if_ge C.1.1 C.1.2.1 hdc ht (fun hc => ?_) (fun hc => ?_)
  · rw [if_pos hc] at ho
    exact k1 hc p e s m args below meth c A H locs ls q C hP hS hl ho
  · rw [if_neg hc] at ho
    exact k2 hc p e s m args below meth c A H locs ls q C hP hS hl ho
theorem ok_if_gt {x : Int32} {off : Int} {tgt : Nat} {o1 o2 : Option ρ} (hd : kD M pc (.ifCond .gt off) 3 pc') (ht : (pc : Int) + off = (tgt : Int)) (k1 : 0 < x → kOk l G E Z M d o1 tgt lv st S) (k2 : ¬ 0 < x → kOk l G E Z M d o2 pc' lv st S) : kOk l G E Z M d (if 0 < x then o1 else o2) pc lv (.int x :: st) S := by
  intro p e s m args below meth c A H locs ls q C hP hS hl ho
  obtain ⟨hdc, rfl⟩ := hd
  refine lv_if_gt C.1.1 C.1.2.1 hdc ht (fun hc => ?_) (fun hc => ?_)
  · rw [if_pos hc] at ho
    exact k1 hc p e s m args below meth c A H locs ls q C hP hS hl ho
  · rw [if_neg hc] at ho
    exact k2 hc p e s m args below meth c A H locs ls q C hP hS hl ho
theorem ok_if_le {x : Int32} {off : Int} {tgt : Nat} {o1 o2 : Option ρ} (hd : kD M pc (.ifCond .le off) 3 pc') (ht : (pc : Int) + off = (tgt : Int)) (k1 : x ≤ 0 → kOk l G E Z M d o1 tgt lv st S) (k2 : ¬ x ≤ 0 → kOk l G E Z M d o2 pc' lv st S) : kOk l G E Z M d (if x ≤ 0 then o1 else o2) pc lv (.int x :: st) S := by
  intro p e s m args below meth c A H locs ls q C hP hS hl ho
  obtain ⟨hdc, rfl⟩ := hd
  refine lv_if_le C.1.1 C.1.2.1 hdc ht (fun hc => ?_) (fun hc => ?_)
  · rw [if_pos hc] at ho
    exact k1 hc p e s m args below meth c A H locs ls q C hP hS hl ho
  · rw [if_neg hc] at ho
    exact k2 hc p e s m args below meth c A H locs ls q C hP hS hl ho
theorem ok_if_ne {x : Int32} {off : Int} {tgt : Nat} {o1 o2 : Option ρ} (hd : kD M pc (.ifCond .ne off) 3 pc') (ht : (pc : Int) + off = (tgt : Int)) (k1 : ¬ x = 0 → kOk l G E Z M d o1 tgt lv st S) (k2 : x = 0 → kOk l G E Z M d o2 pc' lv st S) : kOk l G E Z M d (if x = 0 then o2 else o1) pc lv (.int x :: st) S := by
  intro p e s m args below meth c A H locs ls q C hP hS hl ho
  obtain ⟨hdc, rfl⟩ := hd
  refine lv_if_ne C.1.1 C.1.2.1 hdc ht (fun hc => ?_) (fun hc => ?_)
  · rw [if_neg hc] at ho
    exact k1 hc p e s m args below meth c A H locs ls q C hP hS hl ho
  · rw [if_pos hc] at ho
    exact k2 hc p e s m args below meth c A H locs ls q C hP hS hl ho
theorem kb_0 (b : Bool) : kb b = 0 ↔ b = false := by cases b <;> decide
theorem ok_ifb_eq {b : Bool} {off : Int} {tgt : Nat} {o1 o2 : Option ρ} (hd : kD M pc (.ifCond .eq off) 3 pc') (ht : (pc : Int) + off = (tgt : Int)) (k1 : b = false → kOk l G E Z M d o1 tgt lv st S) (k2 : b = true → kOk l G E Z M d o2 pc' lv st S) : kOk l G E Z M d (if b then o2 else o1) pc lv (.int (kb b) :: st) S := by
  intro p e s m args below meth c A H locs ls q C hP hS hl ho
  obtain ⟨hdc, rfl⟩ := hd
  refine lv_if_eq C.1.1 C.1.2.1 hdc ht (fun hc => ?_) (fun hc => ?_)
  · have hb := (kb_0 b).mp hc
    subst hb
    exact k1 rfl p e s m args below meth c A H locs ls q C hP hS hl ho
  · have hb : b = true := by cases b with
      | true => rfl
      | false => exact absurd rfl hc
    subst hb
    exact k2 rfl p e s m args below meth c A H locs ls q C hP hS hl ho
theorem ok_ifb_ne {b : Bool} {off : Int} {tgt : Nat} {o1 o2 : Option ρ} (hd : kD M pc (.ifCond .ne off) 3 pc') (ht : (pc : Int) + off = (tgt : Int)) (k1 : b = true → kOk l G E Z M d o1 tgt lv st S) (k2 : b = false → kOk l G E Z M d o2 pc' lv st S) : kOk l G E Z M d (if b then o1 else o2) pc lv (.int (kb b) :: st) S := by
  intro p e s m args below meth c A H locs ls q C hP hS hl ho
  obtain ⟨hdc, rfl⟩ := hd
  refine lv_if_ne C.1.1 C.1.2.1 hdc ht (fun hc => ?_) (fun hc => ?_)
  · have hb : b = true := by cases b with
      | true => rfl
      | false => exact absurd rfl hc
    subst hb
    exact k1 rfl p e s m args below meth c A H locs ls q C hP hS hl ho
  · have hb := (kb_0 b).mp hc
    subst hb
    exact k2 rfl p e s m args below meth c A H locs ls q C hP hS hl ho
theorem ok_iload_n {f : Fin 4} {x : Int32} (i : Nat) {j : Nat} (hd : kD M pc (.iload_n f) 1 pc') (hj : (f : Nat) = j) (hi : lv[i]? = some (j, .int x)) (k : kOk l G E Z M d o pc' lv (.int x :: st) S) : kOk l G E Z M d o pc lv st S := by
  intro p e s m args below meth c A H locs ls q C hP hS hl ho
  obtain ⟨hdc, rfl⟩ := hd
  exact lv_iload_n C.1.1 C.1.2.1 hdc hj (klv_at hl i hi) (k p e s m args below meth c A H locs ls q C hP hS hl ho)
theorem ok_iload {x : Int32} (i : Nat) {j : Nat} (hd : kD M pc (.iload j) 2 pc') (hi : lv[i]? = some (j, .int x)) (k : kOk l G E Z M d o pc' lv (.int x :: st) S) : kOk l G E Z M d o pc lv st S := by
  intro p e s m args below meth c A H locs ls q C hP hS hl ho
  obtain ⟨hdc, rfl⟩ := hd
  exact lv_iload C.1.1 C.1.2.1 hdc (klv_at hl i hi) (k p e s m args below meth c A H locs ls q C hP hS hl ho)
theorem ok_lload_n {f : Fin 4} {x : Int64} (i : Nat) {j : Nat} (hd : kD M pc (.lload_n f) 1 pc') (hj : (f : Nat) = j) (hi : lv[i]? = some (j, .long x)) (k : kOk l G E Z M d o pc' lv (.long x :: st) S) : kOk l G E Z M d o pc lv st S := by
  intro p e s m args below meth c A H locs ls q C hP hS hl ho
  obtain ⟨hdc, rfl⟩ := hd
  exact lv_lload_n C.1.1 C.1.2.1 hdc hj (klv_at hl i hi) (k p e s m args below meth c A H locs ls q C hP hS hl ho)
theorem ok_lload {x : Int64} (i : Nat) {j : Nat} (hd : kD M pc (.lload j) 2 pc') (hi : lv[i]? = some (j, .long x)) (k : kOk l G E Z M d o pc' lv (.long x :: st) S) : kOk l G E Z M d o pc lv st S := by
  intro p e s m args below meth c A H locs ls q C hP hS hl ho
  obtain ⟨hdc, rfl⟩ := hd
  exact lv_lload C.1.1 C.1.2.1 hdc (klv_at hl i hi) (k p e s m args below meth c A H locs ls q C hP hS hl ho)
theorem ok_aload_n {f : Fin 4} {x : Nat} (i : Nat) {j : Nat} (hd : kD M pc (.aload_n f) 1 pc') (hj : (f : Nat) = j) (hi : lv[i]? = some (j, .ref x)) (k : kOk l G E Z M d o pc' lv (.ref x :: st) S) : kOk l G E Z M d o pc lv st S := by
  intro p e s m args below meth c A H locs ls q C hP hS hl ho
  obtain ⟨hdc, rfl⟩ := hd
  exact lv_aload_n C.1.1 C.1.2.1 hdc hj (klv_at hl i hi) (k p e s m args below meth c A H locs ls q C hP hS hl ho)
theorem ok_aload {x : Nat} (i : Nat) {j : Nat} (hd : kD M pc (.aload j) 2 pc') (hi : lv[i]? = some (j, .ref x)) (k : kOk l G E Z M d o pc' lv (.ref x :: st) S) : kOk l G E Z M d o pc lv st S := by
  intro p e s m args below meth c A H locs ls q C hP hS hl ho
  obtain ⟨hdc, rfl⟩ := hd
  exact lv_aload C.1.1 C.1.2.1 hdc (klv_at hl i hi) (k p e s m args below meth c A H locs ls q C hP hS hl ho)
theorem ok_istore_n {f : Fin 4} {x : Int32} {j : Nat} (hd : kD M pc (.istore_n f) 1 pc') (hj : (f : Nat) = j) (hn : j < M.2.2.1) (hv : (j, Value.int x) :: lv.filter (fun q => !(q.1 == j) && !(q.1 + 1 == j && q.2.category == 2)) = lv') (k : kOk l G E Z M d o pc' lv' st S) : kOk l G E Z M d o pc lv (.int x :: st) S := by
  intro p e s m args below meth c A H locs ls q C hP hS hl ho
  obtain ⟨hdc, rfl⟩ := hd
  exact lv_istore_n C.1.1 C.1.2.1 hdc hj hl hn (by rw [kfilt, ← hv]; rfl) (fun ls hl => k p e s m args below meth c A H locs ls q C hP hS hl ho)
theorem ok_istore {x : Int32} {j : Nat} (hd : kD M pc (.istore j) 2 pc') (hn : j < M.2.2.1) (hv : (j, Value.int x) :: lv.filter (fun q => !(q.1 == j) && !(q.1 + 1 == j && q.2.category == 2)) = lv') (k : kOk l G E Z M d o pc' lv' st S) : kOk l G E Z M d o pc lv (.int x :: st) S := by
  intro p e s m args below meth c A H locs ls q C hP hS hl ho
  obtain ⟨hdc, rfl⟩ := hd
  exact lv_istore C.1.1 C.1.2.1 hdc hl hn (by rw [kfilt, ← hv]; rfl) (fun ls hl => k p e s m args below meth c A H locs ls q C hP hS hl ho)
theorem ok_astore_n {f : Fin 4} {x : Nat} {j : Nat} (hd : kD M pc (.astore_n f) 1 pc') (hj : (f : Nat) = j) (hn : j < M.2.2.1) (hv : (j, Value.ref x) :: lv.filter (fun q => !(q.1 == j) && !(q.1 + 1 == j && q.2.category == 2)) = lv') (k : kOk l G E Z M d o pc' lv' st S) : kOk l G E Z M d o pc lv (.ref x :: st) S := by
  intro p e s m args below meth c A H locs ls q C hP hS hl ho
  obtain ⟨hdc, rfl⟩ := hd
  exact lv_astore_n C.1.1 C.1.2.1 hdc hj hl hn (by rw [kfilt, ← hv]; rfl) (fun ls hl => k p e s m args below meth c A H locs ls q C hP hS hl ho)
theorem ok_astore {x : Nat} {j : Nat} (hd : kD M pc (.astore j) 2 pc') (hn : j < M.2.2.1) (hv : (j, Value.ref x) :: lv.filter (fun q => !(q.1 == j) && !(q.1 + 1 == j && q.2.category == 2)) = lv') (k : kOk l G E Z M d o pc' lv' st S) : kOk l G E Z M d o pc lv (.ref x :: st) S := by
  intro p e s m args below meth c A H locs ls q C hP hS hl ho
  obtain ⟨hdc, rfl⟩ := hd
  exact lv_astore C.1.1 C.1.2.1 hdc hl hn (by rw [kfilt, ← hv]; rfl) (fun ls hl => k p e s m args below meth c A H locs ls q C hP hS hl ho)
theorem ok_lstore_n {f : Fin 4} {x : Int64} {j : Nat} (hd : kD M pc (.lstore_n f) 1 pc') (hj : (f : Nat) = j) (hn : j + 1 < M.2.2.1) (hv : (j, Value.long x) :: lv.filter (fun q => !(q.1 == j) && (!(q.1 == j + 1) && !(q.1 + 1 == j && q.2.category == 2))) = lv') (k : kOk l G E Z M d o pc' lv' st S) : kOk l G E Z M d o pc lv (.long x :: st) S := by
  intro p e s m args below meth c A H locs ls q C hP hS hl ho
  obtain ⟨hdc, rfl⟩ := hd
  exact lv_lstore_n C.1.1 C.1.2.1 hdc hj hl hn (by rw [kfilt2, ← hv]; rfl) (fun ls hl => k p e s m args below meth c A H locs ls q C hP hS hl ho)
theorem ok_lstore {x : Int64} {j : Nat} (hd : kD M pc (.lstore j) 2 pc') (hn : j + 1 < M.2.2.1) (hv : (j, Value.long x) :: lv.filter (fun q => !(q.1 == j) && (!(q.1 == j + 1) && !(q.1 + 1 == j && q.2.category == 2))) = lv') (k : kOk l G E Z M d o pc' lv' st S) : kOk l G E Z M d o pc lv (.long x :: st) S := by
  intro p e s m args below meth c A H locs ls q C hP hS hl ho
  obtain ⟨hdc, rfl⟩ := hd
  exact lv_lstore C.1.1 C.1.2.1 hdc hl hn (by rw [kfilt2, ← hv]; rfl) (fun ls hl => k p e s m args below meth c A H locs ls q C hP hS hl ho)
theorem ok_iinc {x v : Int32} {j : Nat} {n : Int} (i : Nat) (hd : kD M pc (.iinc j n) 3 pc') (hi : lv[i]? = some (j, .int x)) (hx : x + Int32.ofInt n = v) (hn : j < M.2.2.1) (hv : (j, Value.int v) :: lv.filter (fun q => !(q.1 == j) && !(q.1 + 1 == j && q.2.category == 2)) = lv') (k : kOk l G E Z M d o pc' lv' st S) : kOk l G E Z M d o pc lv st S := by
  intro p e s m args below meth c A H locs ls q C hP hS hl ho
  obtain ⟨hdc, rfl⟩ := hd
  exact lv_iinc (k := i) C.1.1 C.1.2.1 hdc hl (by rw [List.getElem?_map, hi]; rfl) hx hn (by rw [kfilt, ← hv]; rfl) (fun ls hl => k p e s m args below meth c A H locs ls q C hP hS hl ho)
theorem ok_dup {v : Value} (hd : kD M pc .dup 1 pc') (hv : v.category = 1) (k : kOk l G E Z M d o pc' lv (v :: v :: st) S) : kOk l G E Z M d o pc lv (v :: st) S := by
  intro p e s m args below meth c A H locs ls q C hP hS hl ho
  obtain ⟨hdc, rfl⟩ := hd
  exact lv_dup C.1.1 C.1.2.1 hdc (by rw [kcat]; exact hv) (k p e s m args below meth c A H locs ls q C hP hS hl ho)
theorem ok_pop {v : Value} (hd : kD M pc .pop 1 pc') (hv : v.category = 1) (k : kOk l G E Z M d o pc' lv st S) : kOk l G E Z M d o pc lv (v :: st) S := by
  intro p e s m args below meth c A H locs ls q C hP hS hl ho
  obtain ⟨hdc, rfl⟩ := hd
  exact lv_pop C.1.1 C.1.2.1 hdc (by rw [kcat]; exact hv) (k p e s m args below meth c A H locs ls q C hP hS hl ho)
theorem ok_dup2 {v w : Value} (hd : kD M pc .dup2 1 pc') (hv : v.category = 1) (hw : w.category = 1) (k : kOk l G E Z M d o pc' lv (v :: w :: v :: w :: st) S) : kOk l G E Z M d o pc lv (v :: w :: st) S := by
  intro p e s m args below meth c A H locs ls q C hP hS hl ho
  obtain ⟨hdc, rfl⟩ := hd
  exact lv_dup2_11 C.1.1 C.1.2.1 hdc (by rw [kcat]; exact hv) (by rw [kcat]; exact hw) (k p e s m args below meth c A H locs ls q C hP hS hl ho)
def kgz {α : Type} (y : Int32) (o : Option α) : Option α := if y = 0 then none else o
def kgzL {α : Type} (y : Int64) (o : Option α) : Option α := if y = 0 then none else o
def kgi {α : Type} (i : Int32) (n : Nat) (o : Option α) : Option α := if i < 0 ∨ n ≤ i.toNatClampNeg then none else o
def knx {α β : Type} (a : α) (f : α → β) : β := f a
theorem kgz_some {α : Type} {y : Int32} {o : Option α} {q : α} (h : kgz y o = some q) : ¬ y = 0 ∧ o = some q := by
  unfold kgz at h
  split at h
  · cases h
  · exact ⟨by assumption, h⟩
theorem kgzL_some {α : Type} {y : Int64} {o : Option α} {q : α} (h : kgzL y o = some q) : ¬ y = 0 ∧ o = some q := by
  unfold kgzL at h
  split at h
  · cases h
  · exact ⟨by assumption, h⟩
theorem kgi_some {α : Type} {i : Int32} {n : Nat} {o : Option α} {q : α} (h : kgi i n o = some q) : vp_in i n ∧ o = some q := by
  unfold kgi at h
  split at h
  · cases h
  · exact ⟨by assumption, h⟩
theorem ok_nx {α : Type} {a : α} {f : α → Option ρ} (k : ∀ b, b = a → kOk l G E Z M d (f b) pc lv st S) : kOk l G E Z M d (knx a f) pc lv st S := k a rfl
theorem ok_topi {x : Int32} {f : Int32 → Option ρ} (k : ∀ b, b = x → kOk l G E Z M d (f b) pc lv (.int b :: st) S) : kOk l G E Z M d (knx x f) pc lv (.int x :: st) S := k x rfl
theorem ok_topl {x : Int64} {f : Int64 → Option ρ} (k : ∀ b, b = x → kOk l G E Z M d (f b) pc lv (.long b :: st) S) : kOk l G E Z M d (knx x f) pc lv (.long x :: st) S := k x rfl
theorem ok_topb {x : Bool} {f : Bool → Option ρ} (k : ∀ b, b = x → kOk l G E Z M d (f b) pc lv (.int (kb b) :: st) S) : kOk l G E Z M d (knx x f) pc lv (.int (kb x) :: st) S := k x rfl
theorem ok_nS {T : kSt} {f : kSt → Option ρ} (k : ∀ b, b = T → kOk l G E Z M d (f b) pc lv st b) : kOk l G E Z M d (knx T f) pc lv st T := k T rfl
theorem ok_idiv {x y : Int32} (hd : kD M pc .idiv 1 pc') (k : kOk l G E Z M d o pc' lv (.int (x / y) :: st) S) : kOk l G E Z M d (kgz y o) pc lv (.int y :: .int x :: st) S := by
  intro p e s m args below meth c A H locs ls q C hP hS hl ho
  obtain ⟨hdc, rfl⟩ := hd
  obtain ⟨hy, ho⟩ := kgz_some ho
  exact lv_idiv C.1.1 C.1.2.1 hdc hy (k p e s m args below meth c A H locs ls q C hP hS hl ho)
theorem ok_ldiv {x y : Int64} (hd : kD M pc .ldiv 1 pc') (k : kOk l G E Z M d o pc' lv (.long (x / y) :: st) S) : kOk l G E Z M d (kgzL y o) pc lv (.long y :: .long x :: st) S := by
  intro p e s m args below meth c A H locs ls q C hP hS hl ho
  obtain ⟨hdc, rfl⟩ := hd
  obtain ⟨hy, ho⟩ := kgzL_some ho
  exact lv_ldiv C.1.1 C.1.2.1 hdc hy (k p e s m args below meth c A H locs ls q C hP hS hl ho)
theorem ok_irem {x y : Int32} (hd : kD M pc .irem 1 pc') (k : kOk l G E Z M d o pc' lv (.int (x - x / y * y) :: st) S) : kOk l G E Z M d (kgz y o) pc lv (.int y :: .int x :: st) S := by
  intro p e s m args below meth c A H locs ls q C hP hS hl ho
  obtain ⟨hdc, rfl⟩ := hd
  obtain ⟨hy, ho⟩ := kgz_some ho
  exact lv_irem C.1.1 C.1.2.1 hdc hy (k p e s m args below meth c A H locs ls q C hP hS hl ho)
theorem ok_lrem {x y : Int64} (hd : kD M pc .lrem 1 pc') (k : kOk l G E Z M d o pc' lv (.long (x - x / y * y) :: st) S) : kOk l G E Z M d (kgzL y o) pc lv (.long y :: .long x :: st) S := by
  intro p e s m args below meth c A H locs ls q C hP hS hl ho
  obtain ⟨hdc, rfl⟩ := hd
  obtain ⟨hy, ho⟩ := kgzL_some ho
  exact lv_lrem C.1.1 C.1.2.1 hdc hy (k p e s m args below meth c A H locs ls q C hP hS hl ho)
theorem ok_ldc {idx : Nat} {v : Int32} (hd : kD M pc (.ldc idx) 2 pc') (hw : Cond.constant M.1.cls idx v ∈ kT) (k : kOk l G E Z M d o pc' lv (.int v :: st) S) : kOk l G E Z M d o pc lv st S := by
  intro p e s m args below meth c A H locs ls q C hP hS hl ho
  obtain ⟨hdc, rfl⟩ := hd
  exact lv_ldc C.1.1 C.1.2.1 C.1.2.2.2.2.2.1 (C.1.2.2.2.2.2.2 _ hw) hdc (k p e s m args below meth c A H locs ls q C hP hS hl ho)
theorem ok_ldcw {idx : Nat} {v : Int32} (hd : kD M pc (.ldc_w idx) 3 pc') (hw : Cond.constant M.1.cls idx v ∈ kT) (k : kOk l G E Z M d o pc' lv (.int v :: st) S) : kOk l G E Z M d o pc lv st S := by
  intro p e s m args below meth c A H locs ls q C hP hS hl ho
  obtain ⟨hdc, rfl⟩ := hd
  exact lv_ldcw C.1.1 C.1.2.1 C.1.2.2.2.2.2.1 (C.1.2.2.2.2.2.2 _ hw) hdc (k p e s m args below meth c A H locs ls q C hP hS hl ho)
theorem ok_ldc2 {idx : Nat} {v : Int64} (hd : kD M pc (.ldc2_w idx) 3 pc') (hw : Cond.constantLong M.1.cls idx v ∈ kT) (k : kOk l G E Z M d o pc' lv (.long v :: st) S) : kOk l G E Z M d o pc lv st S := by
  intro p e s m args below meth c A H locs ls q C hP hS hl ho
  obtain ⟨hdc, rfl⟩ := hd
  exact lv_ldc2 C.1.1 C.1.2.1 C.1.2.2.2.2.2.1 (C.1.2.2.2.2.2.2 _ hw) hdc (k p e s m args below meth c A H locs ls q C hP hS hl ho)
end RULES
end
section
section HEAP
variable {ρ : Type} {l : Launch} {G : kG} {E : kE} {Z : (Nat → Prop) → ρ → Array Value → State → Outcome → State → Prop} {M : kM} {d : Nat} {o : Option ρ} {pc pc' : Nat} {lv lv' : List (Nat × Value)} {st : List Value} {S : kSt}
def kIsI (ty : FieldType) : Bool := match ty with
  | .int => true
  | .boolean => true
  | _ => false
def kIsR (ty : FieldType) : Bool := match ty with
  | .array _ => true
  | .object _ => true
  | _ => false
theorem kval_I {k j : Nat} {ty : FieldType} (h : kIsI ty = true) : kval E S k j ty = .int (S.1 k j) := by
  cases ty <;> first | rfl | cases h
theorem kval_R {k j : Nat} {ty : FieldType} (h : kIsR ty = true) : kval E S k j ty = va_rf ((kRf E.2 k j).map E.1) := by
  cases ty <;> first | rfl | cases h
/-- the row of getfield, whatever the place holds -/
theorem ok_getV {k c n j idx : Nat} {v : Value} (hd : kD M pc (.getfield idx) 3 pc') (hf : kFl M.1.cls idx c j) (hs : kSH[k]? = some (0, c, n)) (hv : kval E S k j (kTyp c j) = kcv E.1 v) (kk : kOk l G E Z M d o pc' lv (v :: st) S) : kOk l G E Z M d o pc lv (.ref k :: st) S := by
  intro p e s m args below meth c0 A H locs ls q C hP hS hl ho
  obtain ⟨hdc, rfl⟩ := hd
  obtain ⟨Cn, T, N, h1, h2, h3, h4⟩ := hf
  have hN := kshN hs h1
  subst hN
  refine va_get (a := E.1 k) (v := kcv E.1 v) C.1.1 C.1.2.1 C.1.2.2.2.2.2.2 (kob h1).1 C.1.2.2.2.2.2.1 C.2.1 hP k (fs := kfs E S k c n) (by rw [kws_at (kSH_lt hs), kent_obj hs]) h1 j h2 (C.1.2.2.2.2.2.2 _ h3) (by rw [h4]; exact fun _ h => h) (by rw [kfs_at h2, hv]) hdc (kk p e s m args below meth c0 A H locs ls q C hP hS hl ho)
theorem ok_getI {k c n j idx : Nat} (hd : kD M pc (.getfield idx) 3 pc') (hf : kFl M.1.cls idx c j) (hs : kSH[k]? = some (0, c, n)) (ht : kIsI (kTyp c j) = true) (kk : kOk l G E Z M d o pc' lv (.int (S.1 k j) :: st) S) : kOk l G E Z M d o pc lv (.ref k :: st) S :=
  ok_getV hd hf hs (kval_I ht) kk
theorem ok_getL {k c n j idx : Nat} (hd : kD M pc (.getfield idx) 3 pc') (hf : kFl M.1.cls idx c j) (hs : kSH[k]? = some (0, c, n)) (ht : kTyp c j = .long) (kk : kOk l G E Z M d o pc' lv (.long (S.2 k j) :: st) S) : kOk l G E Z M d o pc lv (.ref k :: st) S :=
  ok_getV (v := .long (S.2 k j)) hd hf hs (by rw [ht]; rfl) kk
theorem ok_getR {k c n j idx r : Nat} (hd : kD M pc (.getfield idx) 3 pc') (hf : kFl M.1.cls idx c j) (hs : kSH[k]? = some (0, c, n)) (ht : kIsR (kTyp c j) = true) (hr : kRf E.2 k j = some r) (kk : kOk l G E Z M d o pc' lv (.ref r :: st) S) : kOk l G E Z M d o pc lv (.ref k :: st) S :=
  ok_getV (v := .ref r) hd hf hs (by rw [kval_R ht, hr]; rfl) kk
/-- the row of putfield: the place j of cell k, by values -/
theorem ok_putV {k c n j idx : Nat} {v : Value} {S' : kSt} (hd : kD M pc (.putfield idx) 3 pc') (hf : kFl M.1.cls idx c j) (hs : kSH[k]? = some (0, c, n)) (hfin : kFin c j = false) (hn : narrow (kTyp c j) v = v) (hfit : fits (kTyp c j) v = true) (hv : kcv E.1 v = v) (h1 : kval E S' k j (kTyp c j) = v) (h2 : ∀ i, i ≠ j → kval E S' k i (kTyp c i) = kval E S k i (kTyp c i)) (h3 : ∀ i, i ≠ k → kent G E S' i = kent G E S i)
    (kk : kOk l G E Z M d o pc' lv st S') : kOk l G E Z M d o pc lv (v :: .ref k :: st) S := by
  intro p e s m args below meth c0 A H locs ls q C hP hS hl ho
  obtain ⟨hdc, rfl⟩ := hd
  obtain ⟨Cn, T, N, g1, g2, g3, g4⟩ := hf
  have hN := kshN hs g1
  subst hN
  have hlt := kSH_lt hs
  have hD : va_D A (kws G E S) := kws_D C.2.2.2.2.2.2.1 C.2.2.2.2.2.1
  have hff : (T j).2.2.2 = false := by
    unfold kFin at hfin
    rw [g1] at hfin
    exact hfin
  show W p l e (krm d) s m args below meth c0 H locs 0 0 _ (F0 m pc ls (kcv E.1 v :: .ref (E.1 k) :: st.map (kcv E.1)))
  rw [hv]
  refine va_put (a := E.1 k) (fs := kfs E S k c n) C.1.1 C.1.2.1 C.1.2.2.2.2.2.2 (kob g1).1 (kTyp c) (kob g1).2.1 (kob g1).2.2 C.1.2.2.2.2.2.1 C.2.1 hP hD hS k (by rw [kws_at hlt, kent_obj hs]) g1 j g2 (C.1.2.2.2.2.2.2 _ g3) (by rw [g4]; exact fun _ h => h) hff ((kob g1).2.1 j g2) hn hfit (by simpa [kfs] using g2) hdc (fun H1 locs1 hP1 _ hS1 => ?_)
  rw [← kfs_set (S' := S') h1 h2, kws_set (S' := S') hlt (kent_obj hs) h3] at hP1
  exact kk p e s m args below meth c0 A H1 locs1 ls q C hP1 hS1 hl ho
theorem kval_other {k j i : Nat} {x : Int32} {ty : FieldType} (h : i ≠ j) : kval E (kuI S k j x) k i ty = kval E S k i ty := by
  have h1 : (kuI S k j x).1 k i = S.1 k i := by simp [kuI, upd, h]
  unfold kval
  rw [h1]
  rfl
theorem kval_otherL {k j i : Nat} {x : Int64} {ty : FieldType} (h : i ≠ j) : kval E (kuL S k j x) k i ty = kval E S k i ty := by
  have h1 : (kuL S k j x).2 k i = S.2 k i := by simp [kuL, vp_updL, h]
  unfold kval
  rw [h1]
  rfl
theorem ok_putI {k c n j idx : Nat} {x : Int32} (hd : kD M pc (.putfield idx) 3 pc') (hf : kFl M.1.cls idx c j) (hs : kSH[k]? = some (0, c, n)) (hfin : kFin c j = false) (ht : kTyp c j = .int) (kk : kOk l G E Z M d o pc' lv st (kuI S k j x)) : kOk l G E Z M d o pc lv (.int x :: .ref k :: st) S :=
  ok_putV hd hf hs hfin (by rw [ht]; exact vp_nar_int x) (by rw [ht]; rfl) rfl (by rw [ht]; show Value.int ((kuI S k j x).1 k j) = _; simp [kuI, upd]) (fun i hi => kval_other hi) (fun i hi => kent_congr (kuI_ne S j x hi) rfl) kk
theorem ok_putZ {k c n j idx : Nat} {b : Bool} (hd : kD M pc (.putfield idx) 3 pc') (hf : kFl M.1.cls idx c j) (hs : kSH[k]? = some (0, c, n)) (hfin : kFin c j = false) (ht : kTyp c j = .boolean) (kk : kOk l G E Z M d o pc' lv st (kuI S k j (kb b))) : kOk l G E Z M d o pc lv (.int (kb b) :: .ref k :: st) S :=
  ok_putV hd hf hs hfin (by rw [ht]; cases b <;> decide +kernel) (by rw [ht]; cases b <;> decide +kernel) rfl (by rw [ht]; show Value.int ((kuI S k j (kb b)).1 k j) = _; simp [kuI, upd]) (fun i hi => kval_other hi) (fun i hi => kent_congr (kuI_ne S j (kb b) hi) rfl) kk
theorem ok_putL {k c n j idx : Nat} {x : Int64} (hd : kD M pc (.putfield idx) 3 pc') (hf : kFl M.1.cls idx c j) (hs : kSH[k]? = some (0, c, n)) (hfin : kFin c j = false) (ht : kTyp c j = .long) (kk : kOk l G E Z M d o pc' lv st (kuL S k j x)) : kOk l G E Z M d o pc lv (.long x :: .ref k :: st) S :=
  ok_putV hd hf hs hfin (by rw [ht]; rfl) (by rw [ht]; rfl) rfl (by rw [ht]; show Value.long ((kuL S k j x).2 k j) = _; simp [kuL, vp_updL]) (fun i hi => kval_otherL hi) (fun i hi => kent_congr rfl (kuL_ne S j x hi)) kk
-- arrays
theorem ok_iald {k n : Nat} {i : Int32} (hd : kD M pc .iaload 1 pc') (hs : kSH[k]? = some (1, 0, n)) (kk : kOk l G E Z M d o pc' lv (.int (S.1 k i.toNatClampNeg) :: st) S) : kOk l G E Z M d (kgi i n o) pc lv (.int i :: .ref k :: st) S := by
  intro p e s m args below meth c A H locs ls q C hP hS hl ho
  obtain ⟨hdc, rfl⟩ := hd
  obtain ⟨hi, ho⟩ := kgi_some ho
  exact va_iald (a := E.1 k) (cA := G.2.1.1) (n := n) (f := S.1 k) C.1.1 C.1.2.1 C.2.1 hP k 0 (by rw [kws_at (kSH_lt hs), kent_i hs]) rfl hi hdc (kk p e s m args below meth c A H locs ls q C hP hS hl ho)
theorem ok_bald {k n : Nat} {i : Int32} (hd : kD M pc .baload 1 pc') (hs : kSH[k]? = some (1, 1, n)) (kk : kOk l G E Z M d o pc' lv (.int (S.1 k i.toNatClampNeg) :: st) S) : kOk l G E Z M d (kgi i n o) pc lv (.int i :: .ref k :: st) S := by
  intro p e s m args below meth c A H locs ls q C hP hS hl ho
  obtain ⟨hdc, rfl⟩ := hd
  obtain ⟨hi, ho⟩ := kgi_some ho
  exact va_bald (a := E.1 k) (cA := G.2.1.2.1) (n := n) (f := S.1 k) C.1.1 C.1.2.1 C.2.1 hP k 1 (by rw [kws_at (kSH_lt hs), kent_b hs]) rfl hi hdc (kk p e s m args below meth c A H locs ls q C hP hS hl ho)
theorem ok_iast {k n : Nat} {i x : Int32} (hd : kD M pc .iastore 1 pc') (hs : kSH[k]? = some (1, 0, n)) (kk : kOk l G E Z M d o pc' lv st (kuI S k i.toNatClampNeg x)) : kOk l G E Z M d (kgi i n o) pc lv (.int x :: .int i :: .ref k :: st) S := by
  intro p e s m args below meth c A H locs ls q C hP hS hl ho
  obtain ⟨hdc, rfl⟩ := hd
  obtain ⟨hi, ho⟩ := kgi_some ho
  have hlt := kSH_lt hs
  have hD : va_D A (kws G E S) := kws_D C.2.2.2.2.2.2.1 C.2.2.2.2.2.1
  refine va_iast (a := E.1 k) (cA := G.2.1.1) (n := n) (f := S.1 k) C.1.1 C.1.2.1 C.2.1 hP hD hS k 0 (by rw [kws_at hlt, kent_i hs]) rfl hi hdc (fun H1 locs1 hP1 _ hS1 => ?_)
  rw [kws_set (S' := kuI S k i.toNatClampNeg x) hlt (by rw [kent_i hs, kuI_self]) (fun a ha => kent_congr (kuI_ne S _ _ ha) rfl)] at hP1
  exact kk p e s m args below meth c A H1 locs1 ls q C hP1 hS1 hl ho
theorem ok_bast {k n : Nat} {i x : Int32} (hd : kD M pc .bastore 1 pc') (hs : kSH[k]? = some (1, 1, n)) (kk : kOk l G E Z M d o pc' lv st (kuI S k i.toNatClampNeg x.toInt8.toInt32)) : kOk l G E Z M d (kgi i n o) pc lv (.int x :: .int i :: .ref k :: st) S := by
  intro p e s m args below meth c A H locs ls q C hP hS hl ho
  obtain ⟨hdc, rfl⟩ := hd
  obtain ⟨hi, ho⟩ := kgi_some ho
  have hlt := kSH_lt hs
  have hD : va_D A (kws G E S) := kws_D C.2.2.2.2.2.2.1 C.2.2.2.2.2.1
  refine va_bast (a := E.1 k) (cA := G.2.1.2.1) (n := n) (f := S.1 k) C.1.1 C.1.2.1 C.2.1 hP hD hS k 1 (by rw [kws_at hlt, kent_b hs]) rfl hi hdc (fun H1 locs1 hP1 _ hS1 => ?_)
  rw [vp_nar_byte, kws_set (S' := kuI S k i.toNatClampNeg x.toInt8.toInt32) hlt (by rw [kent_b hs, kuI_self]) (fun a ha => kent_congr (kuI_ne S _ _ ha) rfl)] at hP1
  exact kk p e s m args below meth c A H1 locs1 ls q C hP1 hS1 hl ho
theorem ok_alen {k n : Nat} (hd : kD M pc .arraylength 1 pc') (hs : kSH[k]? = some (1, 0, n)) (kk : kOk l G E Z M d o pc' lv (.int (Int32.ofNat n) :: st) S) : kOk l G E Z M d o pc lv (.ref k :: st) S := by
  intro p e s m args below meth c A H locs ls q C hP hS hl ho
  obtain ⟨hdc, rfl⟩ := hd
  exact va_alen (a := E.1 k) (cA := G.2.1.1) (x := (n, .inl (S.1 k))) (ty := .int) C.1.1 C.1.2.1 C.2.1 hP k 0 (by rw [kws_at (kSH_lt hs), kent_i hs]) rfl rfl hdc (kk p e s m args below meth c A H locs ls q C hP hS hl ho)
theorem ok_alenB {k n : Nat} (hd : kD M pc .arraylength 1 pc') (hs : kSH[k]? = some (1, 1, n)) (kk : kOk l G E Z M d o pc' lv (.int (Int32.ofNat n) :: st) S) : kOk l G E Z M d o pc lv (.ref k :: st) S := by
  intro p e s m args below meth c A H locs ls q C hP hS hl ho
  obtain ⟨hdc, rfl⟩ := hd
  exact va_alen (a := E.1 k) (cA := G.2.1.2.1) (x := (n, .inl (S.1 k))) (ty := .byte) C.1.1 C.1.2.1 C.2.1 hP k 1 (by rw [kws_at (kSH_lt hs), kent_b hs]) rfl rfl hdc (kk p e s m args below meth c A H locs ls q C hP hS hl ho)
theorem ok_aald {k n b : Nat} {i : Int32} (hd : kD M pc .aaload 1 pc') (hs : kSH[k]? = some (1, 3, n)) (hr : ∀ j, j < n → kRf E.2 k j = some (b + j)) (kk : i.toNatClampNeg < n → kOk l G E Z M d o pc' lv (.ref (b + i.toNatClampNeg) :: st) S) : kOk l G E Z M d (kgi i n o) pc lv (.int i :: .ref k :: st) S := by
  intro p e s m args below meth c A H locs ls q C hP hS hl ho
  obtain ⟨hdc, rfl⟩ := hd
  obtain ⟨hi, ho⟩ := kgi_some ho
  have hlt : i.toNatClampNeg < n := Nat.not_le.mp fun q => hi (Or.inr q)
  have hP0 := hP k (E.1 k, kent G E S k) (kws_at (kSH_lt hs))
  rw [kent_q hs] at hP0
  refine W.aald (v := .ref (E.1 (b + i.toNatClampNeg))) (ty := .array .int) C.1.1 C.1.2.1 hP0 ((C.2.1.2 3 _ rfl).1 n (fun j => va_rf ((kRf E.2 k j).map E.1))) rfl (fun q => by cases q) (by show ¬ (i < 0 ∨ (arrV _ _ _).slots.size ≤ _); rw [arrV_size]; exact hi) (by show (arrV _ _ _).slots[_]? = _; rw [arrV_read _ _ hlt]; show some (va_rf ((kRf E.2 k i.toNatClampNeg).map E.1)) = _; rw [hr _ hlt]; rfl) rfl rfl hdc (kk hlt p e s m args below meth c A H locs ls q C hP hS hl ho)
end HEAP
end
section
-- METHODS: their ends, their contracts, calls
def kQ (A : Nat → Prop) (B : State → Prop) (r : Option Value) : Array Value → State → Outcome → State → Prop := match r with
  | some (.int v) => va_Qi (fun (x : Int32) (_ : Unit) => x = v) (fun _ t => B t) A
  | some (.long v) => va_Ql (fun (x : Int64) (_ : Unit) => x = v) (fun _ t => B t) A
  | none => va_Qv (fun (_ : Unit) => True) (fun _ t => B t) A
  | _ => fun _ _ _ _ => False
def kjI (q : Int32 × kSt) : Option Value × kSt := (some (.int q.1), q.2)
def kjB (q : Bool × kSt) : Option Value × kSt := (some (.int (kb q.1)), q.2)
def kjL (q : Int64 × kSt) : Option Value × kSt := (some (.long q.1), q.2)
def kjV (q : kSt) : Option Value × kSt := (none, q)
def kZ {ρ : Type} (G : kG) (E : kE) (inj : ρ → Option Value × kSt) : (Nat → Prop) → ρ → Array Value → State → Outcome → State → Prop := fun A q => kQ A (fun t => va_P G.1 kCl (kws G E (inj q).2) t.heap) (inj q).1
def kA (E : kE) (sz : Nat) : Nat → Prop := fun q => (∃ k, k < kN ∧ q = E.1 k) ∨ sz ≤ q
def kWd (G : kG) (E : kE) (S : kSt) (sz : Nat) (U : State) : Prop := U.heap.size = sz ∧ va_P G.1 kCl (kws G E S) U.heap ∧ va_K G.1 kCl (ktys G) U ∧ vk_S 16 kLen kByt G.2.2.1 G.2.2.2.1 (kA E sz) U U.heap ∧ (∀ z ∈ kSi, vk_R z.1 z.2.1 (kTx.getD z.2.2 "") (G.2.2.1 z.2.2) U) ∧ (∀ i j, i < kN → j < kN → E.1 i = E.1 j → i = j) ∧ (∀ i, i < 16 → E.1 (1000 + i) = G.2.2.1 i ∧ E.1 (1100 + i) = G.2.2.2.1 i) ∧ (∀ w ∈ kNl, va_Nw w U) ∧ kZs G E (kA E sz) U U.heap
/-- the method's contract: if its picture ends with q, it does -/
def kFn {ρ : Type} (l : Launch) (G : kG) (E E' : kE) (inj : ρ → Option Value × kSt) (M : kM) (d : Nat) (as : List Value) (S : kSt) (o : Option ρ) : Prop :=
  ∀ q, o = some q → ∀ sz, Met l M.1 (kWs M) (krm d) (va_Pc (as.map (kcv E.1)) (kWd G E S sz)) (kZ G E' inj (kA E sz) q) 0 0 (kA E sz)
theorem kNl_tab : ∀ w ∈ kNl, w.onTables = true := by decide +kernel
theorem kNw_warm {s U : State} (hW : s.WarmedH U.vm) (h : ∀ w ∈ kNl, va_Nw w s) : ∀ w ∈ kNl, va_Nw w U := by
  intro w hw
  have h1 := h w hw
  simp only [kNl, List.mem_cons, List.not_mem_nil, or_false] at hw
  rcases hw with rfl | rfl
  · exact va_Nw.warmM hW h1
  · exact va_Nw.warmM hW h1
theorem kargs (ad : Nat → Nat) : ∀ (i : Nat) (as : List Value), lv_args i (as.map (kcv ad)) = (lv_args i as).map (fun x => (x.1, kcv ad x.2))
  | _, [] => rfl
  | i, v :: vs => by
    rw [List.map_cons, lv_args, lv_args, kcat, kargs ad _ vs]
    rfl
theorem kargl (ad : Nat → Nat) : ∀ (as : List Value), (lg_sl (as.map (kcv ad))).length = (lg_sl as).length
  | [] => rfl
  | v :: vs => by
    have h := kargl ad vs
    unfold lg_sl at h ⊢
    rw [List.map_cons, List.flatMap_cons, List.flatMap_cons, List.length_append, List.length_append, h, kcat]
    split <;> rfl
theorem kFn_of {ρ : Type} {l : Launch} {G : kG} {E E' : kE} {inj : ρ → Option Value × kSt} {M : kM} {d : Nat} {as : List Value} {S : kSt} {o : Option ρ} (hy : plainName M.1.cls = true) (hn : (lg_sl as).length ≤ M.2.2.1) (h : kOk l G E (kZ G E' inj) M d o 0 (lv_args 0 as) [] S) : kFn l G E E' inj M d as S o := by
  intro q hq sz
  refine Met.ofW (cc := M.2.1) (maxL := M.2.2.1) (ret := M.2.2.2) hy rfl ?_
  intro p e s m args below meth c s₁ B hml hv
  obtain ⟨rfl, hsz, hP, hK, hE, hR, hI, hT, hN, hZ⟩ := hv
  subst hsz
  have hts := atoms_spec (ws := kWs M) B.pre
  have hl := lv_entry (as.map (kcv E.1)) (n := M.2.2.1) (by rw [kargl]; exact hn)
  rw [kargs] at hl
  rw [lg_entry_eq]
  exact h p e s m _ below meth c (kA E s.heap.size) s.heap [] _ q ⟨⟨B.exec, B.bytes, hml, B.returns, B.notSynchronized, findClass_of_methodNamed B.named, fun w hw => hts w (List.mem_cons_of_mem _ hw)⟩, hK, hE, hR, fun q h => Or.inr h, fun k hk => Or.inl ⟨k, hk, rfl⟩, hI, hT, hN, hZ⟩ hP va_S.rf hl hq
section ENDS
variable {ρ : Type} {l : Launch} {G : kG} {E : kE} {Z : (Nat → Prop) → ρ → Array Value → State → Outcome → State → Prop} {M : kM} {d : Nat} {o : Option ρ} {pc pc' : Nat} {lv lv' : List (Nat × Value)} {st : List Value} {S : kSt}
theorem ok_ireturn {x : Int32} (hd : kD M pc .ireturn 1 pc') (hr : M.2.2.2 = some .int) : kOk l G E (kZ G E kjI) M d (some (x, S)) pc lv [.int x] S := by
  intro p e s m args below meth c A H locs ls q C hP hS hl ho
  obtain ⟨hdc, rfl⟩ := hd
  cases ho
  exact W.iret C.1.1 C.1.2.1 (by rw [C.1.2.2.2.1, hr]) (fun t ht _ => ⟨⟨x, (), rfl, rfl, by show va_P _ _ _ t.heap; rw [ht]; exact hP⟩, hS.F ht⟩) hS.2.2 hdc C.1.2.2.2.2.1
theorem ok_zreturn {x : Bool} (hd : kD M pc .ireturn 1 pc') (hr : M.2.2.2 = some .boolean) : kOk l G E (kZ G E kjB) M d (some (x, S)) pc lv [.int (kb x)] S := by
  intro p e s m args below meth c A H locs ls q C hP hS hl ho
  obtain ⟨hdc, rfl⟩ := hd
  cases ho
  exact W.zret C.1.1 C.1.2.1 (by rw [C.1.2.2.2.1, hr]) (by cases x <;> decide +kernel) (fun t ht _ => ⟨⟨kb x, (), rfl, rfl, by show va_P _ _ _ t.heap; rw [ht]; exact hP⟩, hS.F ht⟩) hS.2.2 hdc C.1.2.2.2.2.1
theorem ok_lreturn {x : Int64} (hd : kD M pc .lreturn 1 pc') (hr : M.2.2.2 = some .long) : kOk l G E (kZ G E kjL) M d (some (x, S)) pc lv [.long x] S := by
  intro p e s m args below meth c A H locs ls q C hP hS hl ho
  obtain ⟨hdc, rfl⟩ := hd
  cases ho
  exact W.lret C.1.1 C.1.2.1 (by rw [C.1.2.2.2.1, hr]) (fun t ht _ => ⟨⟨x, (), rfl, rfl, by show va_P _ _ _ t.heap; rw [ht]; exact hP⟩, hS.F ht⟩) hS.2.2 hdc C.1.2.2.2.2.1
theorem ok_return (hd : kD M pc .return_ 1 pc') (hr : M.2.2.2 = none) : kOk l G E (kZ G E kjV) M d (some S) pc lv [] S := by
  intro p e s m args below meth c A H locs ls q C hP hS hl ho
  obtain ⟨hdc, rfl⟩ := hd
  cases ho
  exact W.vret C.1.1 C.1.2.1 (by rw [C.1.2.2.2.1, hr]) (fun t ht _ => ⟨⟨(), rfl, trivial, by show va_P _ _ _ t.heap; rw [ht]; exact hP⟩, hS.F ht⟩) hS.2.2 hdc C.1.2.2.2.2.1
/-- what a callee is given -/
theorem kPre {p : Program} {s : State} {m : MethodId} {args : Array Value} {meth : Method} {c : Code} {A : Nat → Prop} {H : Heap} {locs : List Loc} (C : kCx G E M p s m args meth c A) (hP : va_P G.1 kCl (kws G E S) H) (hS : va_S A s.heap H locs) (as : List Value) : PreS s H (va_Pc (as.map (kcv E.1)) (kWd G E S H.size)) (as.map (kcv E.1)) := by
  have hAA : ∀ q, kA E H.size q → A q := fun q h => by
    rcases h with ⟨k, hk, rfl⟩ | h
    · exact C.2.2.2.2.2.1 k hk
    · exact C.2.2.2.2.1 q (Nat.le_trans hS.1 h)
  refine ⟨fun a U g mk q => ?_, fun U hU hW => ⟨rfl, by rw [hU], by rw [hU]; exact hP, va_K.moved hW.alike C.2.1, ?_, fun z hz => (C.2.2.2.1 z hz).warm hW, C.2.2.2.2.2.2.1, C.2.2.2.2.2.2.2.1, kNw_warm hW C.2.2.2.2.2.2.2.2.1, ?_⟩⟩
  · obtain ⟨q0, q1, q2, q3, q4, q5, q6, q7, q8, q9, q10⟩ := q
    exact ⟨q0, q1, q2, va_K.moved (u := U) (U := U.calling g mk a) (Vm.Alike.refl U.vm) q3, vk_S.moved (u := U) (U := U.calling g mk a) (Vm.Alike.refl U.vm) q4, fun z hz => vk_R.same rfl (q5 z hz), q6, q7, fun w hw => va_Nw.same (u := U) (U := U.calling g mk a) (kNl_tab w hw) rfl (q8 w hw), va_Z.moved (u := U) (U := U.calling g mk a) (Vm.Alike.refl U.vm) q9, va_Z.moved (u := U) (U := U.calling g mk a) (Vm.Alike.refl U.vm) q10⟩
  · have h1 := (C.2.2.1.kept hS.2.1).narrow hAA
    rw [hU]
    exact vk_S.moved hW.alike h1
  · have hz := C.2.2.2.2.2.2.2.2.2
    rw [hU]
    exact ⟨va_Z.moved hW.alike ((hz.1.kept hS.2.1).narrow hAA), va_Z.moved hW.alike ((hz.2.kept hS.2.1).narrow hAA)⟩
theorem kGood {M' : kM} (h : kcode M' ∈ kT) : GoodIn kT (kWs M') := fun w hw => by
  rcases List.mem_cons.mp hw with rfl | hw
  · exact ⟨h, kT_good h⟩
  · exact ⟨hw, kT_good hw⟩
theorem krm_ok {d d' n : Nat} (h : d' < d) (hn : n ≤ 30) : (krm d').frames + 1 ≤ (krm d).frames ∧ 8 + (n + 11) + (krm d').locals ≤ (krm d).locals := by
  show d' + 1 ≤ d ∧ 8 + (n + 11) + 60 * d' ≤ 60 * d
  omega
/-- the run of a call -/
theorem kRunV {ρ' : Type} {E' : kE} {inj : ρ' → Option Value × kSt} {M' : kM} {d' idx n k c nf : Nat} {as stk : List Value} {o1 : Option ρ'} {r : ρ'} {p : Program} {e : Env} {s : State} {m : MethodId} {args : Array Value} {below : List Frame} {meth : Method} {c0 : Code} {A : Nat → Prop} {H : Heap} {locs : List Loc} {ls : Array Slot}
    (hdc : decode M.2.1 pc = .ok (.invokevirtual idx, 3)) (hc : kCv M.1.cls idx M' n) (hs : kSH[k]? = some (0, c, nf)) (hcl : (kCl[c]?).map (fun q => q.1) = some M'.1.cls) (hn : as.length = n) (hm : M'.2.2.1 ≤ 30) (hF : kFn l G E E' inj M' d' (.ref k :: as) S o1) (hdd : d' < d) (hst : as.reverse ++ .ref k :: st = stk) (hrest : (st.map fun v => v.category).sum ≤ 8)
    (C : kCx G E M p s m args meth c0 A) (hP : va_P G.1 kCl (kws G E S) H) (hS : va_S A s.heap H locs) (hl : lv_has ls M.2.2.1 (lv.map (fun x => (x.1, kcv E.1 x.2)))) (hr : o1 = some r) :
    va_Run p l e (krm d) s m args below meth c0 H locs 0 0 0 0 (F0 m pc ls (stk.map (kcv E.1))) (st.map (kcv E.1)) (kZ G E' inj (kA E H.size) r ((Value.ref k :: as).map (kcv E.1)).toArray) (kA E H.size) := by
  subst hst
  obtain ⟨w1, w2, w3, w4, w5, w6⟩ := hc
  have hlt := kSH_lt hs
  have hpre := kPre C hP hS (.ref k :: as)
  cases hq : kCl[c]? with
  | none => rw [hq] at hcl; cases hcl
  | some qc =>
    rw [hq] at hcl
    have hcls : qc.1 = M'.1.cls := Option.some.inj hcl
    have hrv := va_recv (q0 := k) (ci := c) (fs := kfs E S k c nf) C.2.1 hP hq (by rw [kws_at hlt, kent_obj hs])
    rw [hcls] at hrv
    have cw := cwV (R := krm d) (rm := krm d') (mc := 0) (ms := 0) (own := M.1.cls) (index := idx) (C := M'.1.cls) (y := M'.1) (bytes := M'.2.1) (maxL := M'.2.2.1) (ret := M'.2.2.2) (ws := kWs M') (ws' := kT) n C.1.2.2.2.2.2.2 (fun w hw => by
      rcases List.mem_append.mp hw with hw | hw
      · simp only [List.mem_cons, List.not_mem_nil, or_false] at hw
        rcases hw with rfl | rfl | rfl | rfl
        · exact ⟨w1, kT_good w1⟩
        · exact ⟨w2, kT_good w2⟩
        · exact ⟨w3, kT_good w3⟩
        · exact ⟨w4, kT_good w4⟩
      · exact kGood w5 w hw) rfl rfl rfl ⟨rfl, w6.1, w6.2.1, w6.2.2⟩ (krm_ok hdd hm)
    refine va_runV (b := E.1 k) (As := as.map (kcv E.1)) (nL := M.2.2.1) (C := M'.1.cls) ⟨C.1.1, C.1.2.1, C.1.2.2.1, C.1.2.2.2.2.2.1, C.1.2.2.2.2.2.2⟩ (hF r hr H.size) cw ⟨hpre.1, hrv, hpre.2⟩ rfl (by rw [List.length_map]; exact hn) hl.1 ?_ ?_ hdc ⟨Nat.le_refl 0, Nat.le_refl 0⟩
    · show (as.reverse ++ .ref k :: st).map (kcv E.1) = _
      rw [List.map_append, List.map_reverse]
      rfl
    · refine lv_room ?_
      rw [List.map_map]
      have : (List.map ((fun v => Value.category v) ∘ kcv E.1) st) = st.map (fun v => v.category) := List.map_congr_left (fun v _ => kcat E.1 v)
      rw [this]
      exact hrest
theorem kRunS {ρ' : Type} {E' : kE} {inj : ρ' → Option Value × kSt} {M' : kM} {d' idx n : Nat} {as stk : List Value} {o1 : Option ρ'} {r : ρ'} {p : Program} {e : Env} {s : State} {m : MethodId} {args : Array Value} {below : List Frame} {meth : Method} {c0 : Code} {A : Nat → Prop} {H : Heap} {locs : List Loc} {ls : Array Slot}
    (hdc : decode M.2.1 pc = .ok (.invokestatic idx, 3)) (hc : kCs M.1.cls idx M' n) (hn : as.length = n) (hm : M'.2.2.1 ≤ 30) (hF : kFn l G E E' inj M' d' as S o1) (hdd : d' < d) (hst : as.reverse ++ st = stk) (hrest : (st.map fun v => v.category).sum ≤ 8)
    (C : kCx G E M p s m args meth c0 A) (hP : va_P G.1 kCl (kws G E S) H) (hS : va_S A s.heap H locs) (hl : lv_has ls M.2.2.1 (lv.map (fun x => (x.1, kcv E.1 x.2)))) (hr : o1 = some r) :
    va_Run p l e (krm d) s m args below meth c0 H locs 0 0 0 0 (F0 m pc ls (stk.map (kcv E.1))) (st.map (kcv E.1)) (kZ G E' inj (kA E H.size) r (as.map (kcv E.1)).toArray) (kA E H.size) := by
  subst hst
  obtain ⟨w1, w2, w4, w5, w6⟩ := hc
  have hpre := kPre C hP hS as
  have cw := va_cwS (R := krm d) (rm := krm d') (mc := 0) (ms := 0) (own := M.1.cls) (index := idx) (y := M'.1) (bytes := M'.2.1) (maxL := M'.2.2.1) (ret := M'.2.2.2) (ws := kWs M') (ws' := kT) n C.1.2.2.2.2.2.2 (fun w hw => by
      rcases List.mem_append.mp hw with hw | hw
      · simp only [List.mem_cons, List.not_mem_nil, or_false] at hw
        rcases hw with rfl | rfl | rfl
        · exact ⟨w1, kT_good w1⟩
        · exact ⟨w2, kT_good w2⟩
        · exact ⟨w4, kT_good w4⟩
      · exact kGood w5 w hw) rfl rfl rfl ⟨w6.1, w6.2.1, w6.2.2⟩ (krm_ok hdd hm)
  refine va_runS (As := as.map (kcv E.1)) (nL := M.2.2.1) ⟨C.1.1, C.1.2.1, C.1.2.2.1, C.1.2.2.2.2.2.1, C.1.2.2.2.2.2.2⟩ (hF r hr H.size) cw hpre rfl (by rw [List.length_map]; exact hn) hl.1 ?_ ?_ hdc ⟨Nat.le_refl 0, Nat.le_refl 0⟩
  · show (as.reverse ++ st).map (kcv E.1) = _
    rw [List.map_append, List.map_reverse]
  · refine lv_room ?_
    rw [List.map_map]
    have : (List.map ((fun v => Value.category v) ∘ kcv E.1) st) = st.map (fun v => v.category) := List.map_congr_left (fun v _ => kcat E.1 v)
    rw [this]
    exact hrest
theorem kRunN {ρ' : Type} {E' : kE} {inj : ρ' → Option Value × kSt} {M' : kM} {host : String} {d' idx n : Nat} {as stk : List Value} {o1 : Option ρ'} {r : ρ'} {p : Program} {e : Env} {s : State} {m : MethodId} {args : Array Value} {below : List Frame} {meth : Method} {c0 : Code} {A : Nat → Prop} {H : Heap} {locs : List Loc} {ls : Array Slot}
    (hdc : decode M.2.1 pc = .ok (.invokestatic idx, 3)) (hc : kCn M.1.cls host idx M' n) (hn : as.length = n) (hm : M'.2.2.1 ≤ 30) (hF : kFn l G E E' inj M' d' as S o1) (hdd : d' < d) (hst : as.reverse ++ st = stk) (hrest : (st.map fun v => v.category).sum ≤ 8)
    (C : kCx G E M p s m args meth c0 A) (hP : va_P G.1 kCl (kws G E S) H) (hS : va_S A s.heap H locs) (hl : lv_has ls M.2.2.1 (lv.map (fun x => (x.1, kcv E.1 x.2)))) (hr : o1 = some r) :
    va_Run p l e (krm d) s m args below meth c0 H locs 0 0 0 0 (F0 m pc ls (stk.map (kcv E.1))) (st.map (kcv E.1)) (kZ G E' inj (kA E H.size) r (as.map (kcv E.1)).toArray) (kA E H.size) := by
  subst hst
  obtain ⟨w1, w2, w4, w5, w6⟩ := hc
  have hpre := kPre C hP hS as
  have cw := va_cnB (R := krm d) (rm := krm d') (mc := 0) (ms := 0) (own := M.1.cls) (host := host) (index := idx) (y := M'.1) (bytes := M'.2.1) (maxL := M'.2.2.1) (ret := M'.2.2.2) (ws := kWs M') (ws' := kT) n C.1.2.2.2.2.2.2 (kGood w5) rfl rfl rfl (C.2.2.2.2.2.2.2.2.1 _ w1) (C.1.2.2.2.2.2.2 _ w4) ⟨w6.1, w6.2.1, w6.2.2⟩ (krm_ok hdd hm)
  refine va_runSN (As := as.map (kcv E.1)) (nL := M.2.2.1) ⟨C.1.1, C.1.2.1, C.1.2.2.1, C.1.2.2.2.2.2.1, C.1.2.2.2.2.2.2⟩ (hF r hr H.size) ⟨cw, C.1.2.2.2.2.2.2 _ w2, trivial⟩ hpre rfl (by rw [List.length_map]; exact hn) hl.1 ?_ ?_ hdc ⟨Nat.le_refl 0, Nat.le_refl 0⟩
  · show (as.reverse ++ st).map (kcv E.1) = _
    rw [List.map_append, List.map_reverse]
  · refine lv_room ?_
    rw [List.map_map]
    have : (List.map ((fun v => Value.category v) ∘ kcv E.1) st) = st.map (fun v => v.category) := List.map_congr_left (fun v _ => kcat E.1 v)
    rw [this]
    exact hrest
/-- the callee's cells are among the caller's -/
theorem kAA {p : Program} {s : State} {m : MethodId} {args : Array Value} {meth : Method} {c : Code} {A : Nat → Prop} {H : Heap} {locs : List Loc} (C : kCx G E M p s m args meth c A) (hS : va_S A s.heap H locs) : ∀ q, kA E H.size q → A q := fun q h => by
  rcases h with ⟨k, hk, rfl⟩ | h
  · exact C.2.2.2.2.2.1 k hk
  · exact C.2.2.2.2.1 q (Nat.le_trans hS.1 h)
theorem kbnd {α β : Type} {o1 : Option α} {o2 : α → Option β} {q : β} (h : o1.bind o2 = some q) : ∃ a, o1 = some a ∧ o2 a = some q := by
  cases o1 with
  | none => cases h
  | some a => exact ⟨a, rfl, h⟩
theorem ok_callVI {M' : kM} {d' idx n : Nat} {k c nf : Nat} {as stk : List Value} {o1 : Option (Int32 × kSt)} {o2 : Int32 × kSt → Option ρ} (hd : kD M pc (.invokevirtual idx) 3 pc') (hc : kCv M.1.cls idx M' n) (hs : kSH[k]? = some (0, c, nf)) (hcl : (kCl[c]?).map (fun q => q.1) = some M'.1.cls) (hn : as.length = n) (hm : M'.2.2.1 ≤ 30) (hF : kFn l G E E kjI M' d' (.ref k :: as) S o1) (hdd : d' < d) (hst : as.reverse ++ .ref k :: st = stk) (hrest : (st.map fun v => v.category).sum ≤ 8) (kk : ∀ a, o1 = some a → kOk l G E Z M d (o2 a) pc' lv (.int a.1 :: st) a.2) : kOk l G E Z M d (o1.bind o2) pc lv stk S := by
  intro p e s m args below meth c0 A H locs ls q C hP hS hl ho
  obtain ⟨hdc, rfl⟩ := hd
  obtain ⟨a, ha, ho⟩ := kbnd ho
  refine va_calli (a := ((Value.ref k :: as).map (kcv E.1)).toArray) (kRunV hdc hc hs hcl hn hm hF hdd hst hrest C hP hS hl ha) hS (fun q _ h => kAA C hS q h) (kAA C hS) (fun r u t H1 locs1 ht hvm hw hB _ _ hS1 => ?_)
  dsimp only at hB
  rw [ht] at hB
  cases hw
  exact kk a ha p e s m args below meth c0 A H1 locs1 ls q C hB hS1 hl ho
theorem ok_callSI {M' : kM} {d' idx n : Nat} {as stk : List Value} {o1 : Option (Int32 × kSt)} {o2 : Int32 × kSt → Option ρ} (hd : kD M pc (.invokestatic idx) 3 pc') (hc : kCs M.1.cls idx M' n) (hn : as.length = n) (hm : M'.2.2.1 ≤ 30) (hF : kFn l G E E kjI M' d' as S o1) (hdd : d' < d) (hst : as.reverse ++ st = stk) (hrest : (st.map fun v => v.category).sum ≤ 8) (kk : ∀ a, o1 = some a → kOk l G E Z M d (o2 a) pc' lv (.int a.1 :: st) a.2) : kOk l G E Z M d (o1.bind o2) pc lv stk S := by
  intro p e s m args below meth c0 A H locs ls q C hP hS hl ho
  obtain ⟨hdc, rfl⟩ := hd
  obtain ⟨a, ha, ho⟩ := kbnd ho
  refine va_calli (a := (as.map (kcv E.1)).toArray) (kRunS hdc hc hn hm hF hdd hst hrest C hP hS hl ha) hS (fun q _ h => kAA C hS q h) (kAA C hS) (fun r u t H1 locs1 ht hvm hw hB _ _ hS1 => ?_)
  dsimp only at hB
  rw [ht] at hB
  cases hw
  exact kk a ha p e s m args below meth c0 A H1 locs1 ls q C hB hS1 hl ho
theorem ok_callNI {M' : kM} {d' idx n : Nat} {host : String} {as stk : List Value} {o1 : Option (Int32 × kSt)} {o2 : Int32 × kSt → Option ρ} (hd : kD M pc (.invokestatic idx) 3 pc') (hc : kCn M.1.cls host idx M' n) (hn : as.length = n) (hm : M'.2.2.1 ≤ 30) (hF : kFn l G E E kjI M' d' as S o1) (hdd : d' < d) (hst : as.reverse ++ st = stk) (hrest : (st.map fun v => v.category).sum ≤ 8) (kk : ∀ a, o1 = some a → kOk l G E Z M d (o2 a) pc' lv (.int a.1 :: st) a.2) : kOk l G E Z M d (o1.bind o2) pc lv stk S := by
  intro p e s m args below meth c0 A H locs ls q C hP hS hl ho
  obtain ⟨hdc, rfl⟩ := hd
  obtain ⟨a, ha, ho⟩ := kbnd ho
  refine va_calli (a := (as.map (kcv E.1)).toArray) (kRunN hdc hc hn hm hF hdd hst hrest C hP hS hl ha) hS (fun q _ h => kAA C hS q h) (kAA C hS) (fun r u t H1 locs1 ht hvm hw hB _ _ hS1 => ?_)
  dsimp only at hB
  rw [ht] at hB
  cases hw
  exact kk a ha p e s m args below meth c0 A H1 locs1 ls q C hB hS1 hl ho
theorem ok_callVB {M' : kM} {d' idx n : Nat} {k c nf : Nat} {as stk : List Value} {o1 : Option (Bool × kSt)} {o2 : Bool × kSt → Option ρ} (hd : kD M pc (.invokevirtual idx) 3 pc') (hc : kCv M.1.cls idx M' n) (hs : kSH[k]? = some (0, c, nf)) (hcl : (kCl[c]?).map (fun q => q.1) = some M'.1.cls) (hn : as.length = n) (hm : M'.2.2.1 ≤ 30) (hF : kFn l G E E kjB M' d' (.ref k :: as) S o1) (hdd : d' < d) (hst : as.reverse ++ .ref k :: st = stk) (hrest : (st.map fun v => v.category).sum ≤ 8) (kk : ∀ a, o1 = some a → kOk l G E Z M d (o2 a) pc' lv (.int (kb a.1) :: st) a.2) : kOk l G E Z M d (o1.bind o2) pc lv stk S := by
  intro p e s m args below meth c0 A H locs ls q C hP hS hl ho
  obtain ⟨hdc, rfl⟩ := hd
  obtain ⟨a, ha, ho⟩ := kbnd ho
  refine va_calli (a := ((Value.ref k :: as).map (kcv E.1)).toArray) (kRunV hdc hc hs hcl hn hm hF hdd hst hrest C hP hS hl ha) hS (fun q _ h => kAA C hS q h) (kAA C hS) (fun r u t H1 locs1 ht hvm hw hB _ _ hS1 => ?_)
  dsimp only at hB
  rw [ht] at hB
  cases hw
  exact kk a ha p e s m args below meth c0 A H1 locs1 ls q C hB hS1 hl ho
theorem ok_callSB {M' : kM} {d' idx n : Nat} {as stk : List Value} {o1 : Option (Bool × kSt)} {o2 : Bool × kSt → Option ρ} (hd : kD M pc (.invokestatic idx) 3 pc') (hc : kCs M.1.cls idx M' n) (hn : as.length = n) (hm : M'.2.2.1 ≤ 30) (hF : kFn l G E E kjB M' d' as S o1) (hdd : d' < d) (hst : as.reverse ++ st = stk) (hrest : (st.map fun v => v.category).sum ≤ 8) (kk : ∀ a, o1 = some a → kOk l G E Z M d (o2 a) pc' lv (.int (kb a.1) :: st) a.2) : kOk l G E Z M d (o1.bind o2) pc lv stk S := by
  intro p e s m args below meth c0 A H locs ls q C hP hS hl ho
  obtain ⟨hdc, rfl⟩ := hd
  obtain ⟨a, ha, ho⟩ := kbnd ho
  refine va_calli (a := (as.map (kcv E.1)).toArray) (kRunS hdc hc hn hm hF hdd hst hrest C hP hS hl ha) hS (fun q _ h => kAA C hS q h) (kAA C hS) (fun r u t H1 locs1 ht hvm hw hB _ _ hS1 => ?_)
  dsimp only at hB
  rw [ht] at hB
  cases hw
  exact kk a ha p e s m args below meth c0 A H1 locs1 ls q C hB hS1 hl ho
theorem ok_callNB {M' : kM} {d' idx n : Nat} {host : String} {as stk : List Value} {o1 : Option (Bool × kSt)} {o2 : Bool × kSt → Option ρ} (hd : kD M pc (.invokestatic idx) 3 pc') (hc : kCn M.1.cls host idx M' n) (hn : as.length = n) (hm : M'.2.2.1 ≤ 30) (hF : kFn l G E E kjB M' d' as S o1) (hdd : d' < d) (hst : as.reverse ++ st = stk) (hrest : (st.map fun v => v.category).sum ≤ 8) (kk : ∀ a, o1 = some a → kOk l G E Z M d (o2 a) pc' lv (.int (kb a.1) :: st) a.2) : kOk l G E Z M d (o1.bind o2) pc lv stk S := by
  intro p e s m args below meth c0 A H locs ls q C hP hS hl ho
  obtain ⟨hdc, rfl⟩ := hd
  obtain ⟨a, ha, ho⟩ := kbnd ho
  refine va_calli (a := (as.map (kcv E.1)).toArray) (kRunN hdc hc hn hm hF hdd hst hrest C hP hS hl ha) hS (fun q _ h => kAA C hS q h) (kAA C hS) (fun r u t H1 locs1 ht hvm hw hB _ _ hS1 => ?_)
  dsimp only at hB
  rw [ht] at hB
  cases hw
  exact kk a ha p e s m args below meth c0 A H1 locs1 ls q C hB hS1 hl ho
theorem ok_callVL {M' : kM} {d' idx n : Nat} {k c nf : Nat} {as stk : List Value} {o1 : Option (Int64 × kSt)} {o2 : Int64 × kSt → Option ρ} (hd : kD M pc (.invokevirtual idx) 3 pc') (hc : kCv M.1.cls idx M' n) (hs : kSH[k]? = some (0, c, nf)) (hcl : (kCl[c]?).map (fun q => q.1) = some M'.1.cls) (hn : as.length = n) (hm : M'.2.2.1 ≤ 30) (hF : kFn l G E E kjL M' d' (.ref k :: as) S o1) (hdd : d' < d) (hst : as.reverse ++ .ref k :: st = stk) (hrest : (st.map fun v => v.category).sum ≤ 8) (kk : ∀ a, o1 = some a → kOk l G E Z M d (o2 a) pc' lv (.long a.1 :: st) a.2) : kOk l G E Z M d (o1.bind o2) pc lv stk S := by
  intro p e s m args below meth c0 A H locs ls q C hP hS hl ho
  obtain ⟨hdc, rfl⟩ := hd
  obtain ⟨a, ha, ho⟩ := kbnd ho
  refine va_calll (a := ((Value.ref k :: as).map (kcv E.1)).toArray) (kRunV hdc hc hs hcl hn hm hF hdd hst hrest C hP hS hl ha) hS (fun q _ h => kAA C hS q h) (kAA C hS) (fun r u t H1 locs1 ht hvm hw hB _ _ hS1 => ?_)
  dsimp only at hB
  rw [ht] at hB
  cases hw
  exact kk a ha p e s m args below meth c0 A H1 locs1 ls q C hB hS1 hl ho
theorem ok_callSL {M' : kM} {d' idx n : Nat} {as stk : List Value} {o1 : Option (Int64 × kSt)} {o2 : Int64 × kSt → Option ρ} (hd : kD M pc (.invokestatic idx) 3 pc') (hc : kCs M.1.cls idx M' n) (hn : as.length = n) (hm : M'.2.2.1 ≤ 30) (hF : kFn l G E E kjL M' d' as S o1) (hdd : d' < d) (hst : as.reverse ++ st = stk) (hrest : (st.map fun v => v.category).sum ≤ 8) (kk : ∀ a, o1 = some a → kOk l G E Z M d (o2 a) pc' lv (.long a.1 :: st) a.2) : kOk l G E Z M d (o1.bind o2) pc lv stk S := by
  intro p e s m args below meth c0 A H locs ls q C hP hS hl ho
  obtain ⟨hdc, rfl⟩ := hd
  obtain ⟨a, ha, ho⟩ := kbnd ho
  refine va_calll (a := (as.map (kcv E.1)).toArray) (kRunS hdc hc hn hm hF hdd hst hrest C hP hS hl ha) hS (fun q _ h => kAA C hS q h) (kAA C hS) (fun r u t H1 locs1 ht hvm hw hB _ _ hS1 => ?_)
  dsimp only at hB
  rw [ht] at hB
  cases hw
  exact kk a ha p e s m args below meth c0 A H1 locs1 ls q C hB hS1 hl ho
theorem ok_callNL {M' : kM} {d' idx n : Nat} {host : String} {as stk : List Value} {o1 : Option (Int64 × kSt)} {o2 : Int64 × kSt → Option ρ} (hd : kD M pc (.invokestatic idx) 3 pc') (hc : kCn M.1.cls host idx M' n) (hn : as.length = n) (hm : M'.2.2.1 ≤ 30) (hF : kFn l G E E kjL M' d' as S o1) (hdd : d' < d) (hst : as.reverse ++ st = stk) (hrest : (st.map fun v => v.category).sum ≤ 8) (kk : ∀ a, o1 = some a → kOk l G E Z M d (o2 a) pc' lv (.long a.1 :: st) a.2) : kOk l G E Z M d (o1.bind o2) pc lv stk S := by
  intro p e s m args below meth c0 A H locs ls q C hP hS hl ho
  obtain ⟨hdc, rfl⟩ := hd
  obtain ⟨a, ha, ho⟩ := kbnd ho
  refine va_calll (a := (as.map (kcv E.1)).toArray) (kRunN hdc hc hn hm hF hdd hst hrest C hP hS hl ha) hS (fun q _ h => kAA C hS q h) (kAA C hS) (fun r u t H1 locs1 ht hvm hw hB _ _ hS1 => ?_)
  dsimp only at hB
  rw [ht] at hB
  cases hw
  exact kk a ha p e s m args below meth c0 A H1 locs1 ls q C hB hS1 hl ho
theorem ok_callVV {M' : kM} {d' idx n : Nat} {k c nf : Nat} {as stk : List Value} {o1 : Option kSt} {o2 : kSt → Option ρ} (hd : kD M pc (.invokevirtual idx) 3 pc') (hc : kCv M.1.cls idx M' n) (hs : kSH[k]? = some (0, c, nf)) (hcl : (kCl[c]?).map (fun q => q.1) = some M'.1.cls) (hn : as.length = n) (hm : M'.2.2.1 ≤ 30) (hF : kFn l G E E kjV M' d' (.ref k :: as) S o1) (hdd : d' < d) (hst : as.reverse ++ .ref k :: st = stk) (hrest : (st.map fun v => v.category).sum ≤ 8) (kk : ∀ a, o1 = some a → kOk l G E Z M d (o2 a) pc' lv st a) : kOk l G E Z M d (o1.bind o2) pc lv stk S := by
  intro p e s m args below meth c0 A H locs ls q C hP hS hl ho
  obtain ⟨hdc, rfl⟩ := hd
  obtain ⟨a, ha, ho⟩ := kbnd ho
  refine va_callv (a := ((Value.ref k :: as).map (kcv E.1)).toArray) (kRunV hdc hc hs hcl hn hm hF hdd hst hrest C hP hS hl ha) hS (fun q _ h => kAA C hS q h) (kAA C hS) (fun u t H1 locs1 ht hvm hw hB _ _ hS1 => ?_)
  dsimp only at hB
  rw [ht] at hB
  exact kk a ha p e s m args below meth c0 A H1 locs1 ls q C hB hS1 hl ho
theorem ok_callSV {M' : kM} {d' idx n : Nat} {as stk : List Value} {o1 : Option kSt} {o2 : kSt → Option ρ} (hd : kD M pc (.invokestatic idx) 3 pc') (hc : kCs M.1.cls idx M' n) (hn : as.length = n) (hm : M'.2.2.1 ≤ 30) (hF : kFn l G E E kjV M' d' as S o1) (hdd : d' < d) (hst : as.reverse ++ st = stk) (hrest : (st.map fun v => v.category).sum ≤ 8) (kk : ∀ a, o1 = some a → kOk l G E Z M d (o2 a) pc' lv st a) : kOk l G E Z M d (o1.bind o2) pc lv stk S := by
  intro p e s m args below meth c0 A H locs ls q C hP hS hl ho
  obtain ⟨hdc, rfl⟩ := hd
  obtain ⟨a, ha, ho⟩ := kbnd ho
  refine va_callv (a := (as.map (kcv E.1)).toArray) (kRunS hdc hc hn hm hF hdd hst hrest C hP hS hl ha) hS (fun q _ h => kAA C hS q h) (kAA C hS) (fun u t H1 locs1 ht hvm hw hB _ _ hS1 => ?_)
  dsimp only at hB
  rw [ht] at hB
  exact kk a ha p e s m args below meth c0 A H1 locs1 ls q C hB hS1 hl ho
end ENDS
end
section
-- TEXTS (constants i < 16: the text is cell 1000 + i, its bytes cell 1100 + i), static fields, copies of rows, switches
section TEXTS
variable {ρ : Type} {l : Launch} {G : kG} {E : kE} {Z : (Nat → Prop) → ρ → Array Value → State → Outcome → State → Prop} {M : kM} {d : Nat} {o : Option ρ} {pc pc' : Nat} {lv lv' : List (Nat × Value)} {st : List Value} {S : kSt}
theorem kSi_lt : ∀ z ∈ kSi, z.2.2 < 16 := by decide +kernel
theorem ok_ldcS {idx i : Nat} (hd : kD M pc (.ldc idx) 2 pc') (hz : (M.1.cls, idx, i) ∈ kSi) (k : kOk l G E Z M d o pc' lv (.ref (1000 + i) :: st) S) : kOk l G E Z M d o pc lv st S := by
  intro p e s m args below meth c A H locs ls q C hP hS hl ho
  obtain ⟨hdc, rfl⟩ := hd
  have h1 := C.2.2.2.1 _ hz
  have h2 := (C.2.2.2.2.2.2.2.1 i (kSi_lt _ hz)).1
  refine va_ldcS C.1.1 C.1.2.1 C.1.2.2.2.2.2.1 h1 hdc ?_
  have h3 := k p e s m args below meth c A H locs ls q C hP hS hl ho
  rw [List.map_cons, show kcv E.1 (.ref (1000 + i)) = .ref (E.1 (1000 + i)) from rfl, h2] at h3
  exact h3
theorem ok_sval {idx i : Nat} (hd : kD M pc (.getfield idx) 3 pc') (hi : i < 16) (hw : Cond.fieldLink M.1.cls idx "java/lang/String" "value" "[B" ∈ kT) (k : kOk l G E Z M d o pc' lv (.ref (1100 + i) :: st) S) : kOk l G E Z M d o pc lv (.ref (1000 + i) :: st) S := by
  intro p e s m args below meth c A H locs ls q C hP hS hl ho
  obtain ⟨hdc, rfl⟩ := hd
  obtain ⟨h2, h3⟩ := C.2.2.2.2.2.2.2.1 i hi
  have hk := k p e s m args below meth c A H locs ls q C hP hS hl ho
  rw [List.map_cons, show kcv E.1 (.ref (1100 + i)) = .ref (E.1 (1100 + i)) from rfl, h3] at hk
  rw [List.map_cons, show kcv E.1 (.ref (1000 + i)) = .ref (E.1 (1000 + i)) from rfl, h2]
  exact vk_getf C.1.1 C.1.2.1 (C.2.2.1.1 i hi).2.2.1 hS C.1.2.2.2.2.2.1 (C.1.2.2.2.2.2.2 _ hw) (fun _ h => h) hdc hk
theorem ok_scod {idx i : Nat} (hd : kD M pc (.getfield idx) 3 pc') (hi : i < 16) (hw : Cond.fieldLink M.1.cls idx "java/lang/String" "coder" "B" ∈ kT) (k : kOk l G E Z M d o pc' lv (.int 0 :: st) S) : kOk l G E Z M d o pc lv (.ref (1000 + i) :: st) S := by
  intro p e s m args below meth c A H locs ls q C hP hS hl ho
  obtain ⟨hdc, rfl⟩ := hd
  obtain ⟨h2, h3⟩ := C.2.2.2.2.2.2.2.1 i hi
  have hk := k p e s m args below meth c A H locs ls q C hP hS hl ho
  rw [List.map_cons, show kcv E.1 (.ref (1000 + i)) = .ref (E.1 (1000 + i)) from rfl, h2]
  exact vk_getf C.1.1 C.1.2.1 (C.2.2.1.1 i hi).2.1 hS C.1.2.2.2.2.2.1 (C.1.2.2.2.2.2.2 _ hw) (fun _ h => h) hdc hk
theorem ok_slen {i : Nat} (hd : kD M pc .arraylength 1 pc') (hi : i < 16) (k : kOk l G E Z M d o pc' lv (.int (Int32.ofNat (kLen.getD i 0)) :: st) S) : kOk l G E Z M d o pc lv (.ref (1100 + i) :: st) S := by
  intro p e s m args below meth c A H locs ls q C hP hS hl ho
  obtain ⟨hdc, rfl⟩ := hd
  obtain ⟨h2, h3⟩ := C.2.2.2.2.2.2.2.1 i hi
  have hk := k p e s m args below meth c A H locs ls q C hP hS hl ho
  rw [List.map_cons, show kcv E.1 (.ref (1100 + i)) = .ref (E.1 (1100 + i)) from rfl, h3]
  exact va_tlen C.1.1 C.1.2.1 (C.2.2.1.1 i hi).2.2.2 hS rfl hdc hk
theorem ok_sbyt {i : Nat} {j : Int32} (hd : kD M pc .baload 1 pc') (hi : i < 16) (k : kOk l G E Z M d o pc' lv (.int ((kByt.getD i []).getD j.toNatClampNeg 0) :: st) S) : kOk l G E Z M d (kgi j (kLen.getD i 0) o) pc lv (.int j :: .ref (1100 + i) :: st) S := by
  intro p e s m args below meth c A H locs ls q C hP hS hl ho
  obtain ⟨hdc, rfl⟩ := hd
  obtain ⟨hj, ho⟩ := kgi_some ho
  obtain ⟨h2, h3⟩ := C.2.2.2.2.2.2.2.1 i hi
  have hk := k p e s m args below meth c A H locs ls q C hP hS hl ho
  rw [List.map_cons, List.map_cons, show kcv E.1 (.ref (1100 + i)) = .ref (E.1 (1100 + i)) from rfl, h3]
  exact va_tb C.1.1 C.1.2.1 (C.2.2.1.1 i hi).2.2.2 hS hj rfl hdc hk
theorem ok_getsC {idx : Nat} (hd : kD M pc (.getstatic idx) 3 pc') (hw : Cond.fieldLink M.1.cls idx "java/lang/String" "COMPACT_STRINGS" "Z" ∈ kT) (k : kOk l G E Z M d o pc' lv (.int 1 :: st) S) : kOk l G E Z M d o pc lv st S := by
  intro p e s m args below meth c A H locs ls q C hP hS hl ho
  obtain ⟨hdc, rfl⟩ := hd
  exact va_gets C.1.1 C.1.2.1 C.2.2.2.2.2.2.2.2.2.1 hS C.1.2.2.2.2.2.1 (C.1.2.2.2.2.2.2 _ hw) (fun _ h => h) hdc (k p e s m args below meth c A H locs ls q C hP hS hl ho)
theorem ok_getsF {idx : Nat} (hd : kD M pc (.getstatic idx) 3 pc') (hw : Cond.fieldLink M.1.cls idx "jdk/internal/util/Preconditions" "SIOOBE_FORMATTER" "Ljava/util/function/BiFunction;" ∈ kT) (k : kOk l G E Z M d o pc' lv (G.2.2.2.2 :: st) S) : kOk l G E Z M d o pc lv st S := by
  intro p e s m args below meth c A H locs ls q C hP hS hl ho
  obtain ⟨hdc, rfl⟩ := hd
  exact va_gets C.1.1 C.1.2.1 C.2.2.2.2.2.2.2.2.2.2 hS C.1.2.2.2.2.2.1 (C.1.2.2.2.2.2.2 _ hw) (fun _ h => h) hdc (k p e s m args below meth c A H locs ls q C hP hS hl ho)
theorem ok_i2c {x : Int32} (hd : kD M pc .i2c 1 pc') (k : kOk l G E Z M d o pc' lv (.int (x.toUInt32 % 65536).toInt32 :: st) S) : kOk l G E Z M d o pc lv (.int x :: st) S := by
  intro p e s m args below meth c A H locs ls q C hP hS hl ho
  obtain ⟨hdc, rfl⟩ := hd
  exact lv_i2c C.1.1 C.1.2.1 hdc rfl (k p e s m args below meth c A H locs ls q C hP hS hl ho)
theorem ok_nreturn {x : Int32} {ty : FieldType} (hd : kD M pc .ireturn 1 pc') (hr : M.2.2.2 = some ty) (hn : narrow ty (.int x) = .int x) : kOk l G E (kZ G E kjI) M d (some (x, S)) pc lv [.int x] S := by
  intro p e s m args below meth c A H locs ls q C hP hS hl ho
  obtain ⟨hdc, rfl⟩ := hd
  cases ho
  exact W.zret C.1.1 C.1.2.1 (by rw [C.1.2.2.2.1, hr]) hn (fun t ht _ => ⟨⟨x, (), rfl, rfl, by show va_P _ _ _ t.heap; rw [ht]; exact hP⟩, hS.F ht⟩) hS.2.2 hdc C.1.2.2.2.2.1
-- a call of a text's own method
theorem kRunT {ρ' : Type} {inj : ρ' → Option Value × kSt} {M' : kM} {d' idx n i : Nat} {as stk : List Value} {o1 : Option ρ'} {r : ρ'} {p : Program} {e : Env} {s : State} {m : MethodId} {args : Array Value} {below : List Frame} {meth : Method} {c0 : Code} {A : Nat → Prop} {H : Heap} {locs : List Loc} {ls : Array Slot}
    (hdc : decode M.2.1 pc = .ok (.invokevirtual idx, 3)) (hc : kCv M.1.cls idx M' n) (hi : i < 16) (hcl : M'.1.cls = "java/lang/String") (hn : as.length = n) (hm : M'.2.2.1 ≤ 30) (hF : kFn l G E E inj M' d' (.ref (1000 + i) :: as) S o1) (hdd : d' < d) (hst : as.reverse ++ .ref (1000 + i) :: st = stk) (hrest : (st.map fun v => v.category).sum ≤ 8)
    (C : kCx G E M p s m args meth c0 A) (hP : va_P G.1 kCl (kws G E S) H) (hS : va_S A s.heap H locs) (hl : lv_has ls M.2.2.1 (lv.map (fun x => (x.1, kcv E.1 x.2)))) (hr : o1 = some r) :
    va_Run p l e (krm d) s m args below meth c0 H locs 0 0 0 0 (F0 m pc ls (stk.map (kcv E.1))) (st.map (kcv E.1)) (kZ G E inj (kA E H.size) r ((Value.ref (1000 + i) :: as).map (kcv E.1)).toArray) (kA E H.size) := by
  subst hst
  obtain ⟨w1, w2, w3, w4, w5, w6⟩ := hc
  have hpre := kPre C hP hS (.ref (1000 + i) :: as)
  have hrv := vk_recv C.2.2.1 hi hS
  rw [← (C.2.2.2.2.2.2.2.1 i hi).1, ← hcl] at hrv
  have cw := cwV (R := krm d) (rm := krm d') (mc := 0) (ms := 0) (own := M.1.cls) (index := idx) (C := M'.1.cls) (y := M'.1) (bytes := M'.2.1) (maxL := M'.2.2.1) (ret := M'.2.2.2) (ws := kWs M') (ws' := kT) n C.1.2.2.2.2.2.2 (fun w hw => by
    rcases List.mem_append.mp hw with hw | hw
    · simp only [List.mem_cons, List.not_mem_nil, or_false] at hw
      rcases hw with rfl | rfl | rfl | rfl
      · exact ⟨w1, kT_good w1⟩
      · exact ⟨w2, kT_good w2⟩
      · exact ⟨w3, kT_good w3⟩
      · exact ⟨w4, kT_good w4⟩
    · exact kGood w5 w hw) rfl rfl rfl ⟨rfl, w6.1, w6.2.1, w6.2.2⟩ (krm_ok hdd hm)
  refine va_runV (b := E.1 (1000 + i)) (As := as.map (kcv E.1)) (nL := M.2.2.1) (C := M'.1.cls) ⟨C.1.1, C.1.2.1, C.1.2.2.1, C.1.2.2.2.2.2.1, C.1.2.2.2.2.2.2⟩ (hF r hr H.size) cw ⟨hpre.1, hrv, hpre.2⟩ rfl (by rw [List.length_map]; exact hn) hl.1 ?_ ?_ hdc ⟨Nat.le_refl 0, Nat.le_refl 0⟩
  · show (as.reverse ++ .ref (1000 + i) :: st).map (kcv E.1) = _
    rw [List.map_append, List.map_reverse]
    rfl
  · refine lv_room ?_
    rw [List.map_map]
    have : (List.map ((fun v => Value.category v) ∘ kcv E.1) st) = st.map (fun v => v.category) := List.map_congr_left (fun v _ => kcat E.1 v)
    rw [this]
    exact hrest
theorem ok_callTI {M' : kM} {d' idx n i : Nat} {as stk : List Value} {o1 : Option (Int32 × kSt)} {o2 : Int32 × kSt → Option ρ} (hd : kD M pc (.invokevirtual idx) 3 pc') (hc : kCv M.1.cls idx M' n) (hi : i < 16) (hcl : M'.1.cls = "java/lang/String") (hn : as.length = n) (hm : M'.2.2.1 ≤ 30) (hF : kFn l G E E kjI M' d' (.ref (1000 + i) :: as) S o1) (hdd : d' < d) (hst : as.reverse ++ .ref (1000 + i) :: st = stk) (hrest : (st.map fun v => v.category).sum ≤ 8) (kk : ∀ a, o1 = some a → kOk l G E Z M d (o2 a) pc' lv (.int a.1 :: st) a.2) : kOk l G E Z M d (o1.bind o2) pc lv stk S := by
  intro p e s m args below meth c0 A H locs ls q C hP hS hl ho
  obtain ⟨hdc, rfl⟩ := hd
  obtain ⟨a, ha, ho⟩ := kbnd ho
  refine va_calli (a := ((Value.ref (1000 + i) :: as).map (kcv E.1)).toArray) (kRunT hdc hc hi hcl hn hm hF hdd hst hrest C hP hS hl ha) hS (fun q _ h => kAA C hS q h) (kAA C hS) (fun r u t H1 locs1 ht hvm hw hB _ _ hS1 => ?_)
  dsimp only at hB
  rw [ht] at hB
  cases hw
  exact kk a ha p e s m args below meth c0 A H1 locs1 ls q C hB hS1 hl ho
theorem ok_callTB {M' : kM} {d' idx n i : Nat} {as stk : List Value} {o1 : Option (Bool × kSt)} {o2 : Bool × kSt → Option ρ} (hd : kD M pc (.invokevirtual idx) 3 pc') (hc : kCv M.1.cls idx M' n) (hi : i < 16) (hcl : M'.1.cls = "java/lang/String") (hn : as.length = n) (hm : M'.2.2.1 ≤ 30) (hF : kFn l G E E kjB M' d' (.ref (1000 + i) :: as) S o1) (hdd : d' < d) (hst : as.reverse ++ .ref (1000 + i) :: st = stk) (hrest : (st.map fun v => v.category).sum ≤ 8) (kk : ∀ a, o1 = some a → kOk l G E Z M d (o2 a) pc' lv (.int (kb a.1) :: st) a.2) : kOk l G E Z M d (o1.bind o2) pc lv stk S := by
  intro p e s m args below meth c0 A H locs ls q C hP hS hl ho
  obtain ⟨hdc, rfl⟩ := hd
  obtain ⟨a, ha, ho⟩ := kbnd ho
  refine va_calli (a := ((Value.ref (1000 + i) :: as).map (kcv E.1)).toArray) (kRunT hdc hc hi hcl hn hm hF hdd hst hrest C hP hS hl ha) hS (fun q _ h => kAA C hS q h) (kAA C hS) (fun r u t H1 locs1 ht hvm hw hB _ _ hS1 => ?_)
  dsimp only at hB
  rw [ht] at hB
  cases hw
  exact kk a ha p e s m args below meth c0 A H1 locs1 ls q C hB hS1 hl ho
-- copies
def kgc {α : Type} (sp dp n : Int32) (n0 n1 : Nat) (o : Option α) : Option α := if sp < 0 ∨ dp < 0 ∨ n < 0 ∨ n0 < sp.toNatClampNeg + n.toNatClampNeg ∨ n1 < dp.toNatClampNeg + n.toNatClampNeg then none else o
theorem ok_acopy {idx k0 k1 n0 n1 : Nat} {sp dp n : Int32} (hd : kD M pc (.invokestatic idx) 3 pc') (hw1 : Cond.methodLink M.1.cls idx arraycopyName ∈ kT) (hw2 : Cond.native arraycopyName ∈ kT) (hw3 : Cond.static arraycopyName ∈ kT) (hw4 : Cond.initialized "java/lang/System" ∈ kT) (hs0 : kSH[k0]? = some (1, 0, n0)) (hs1 : kSH[k1]? = some (1, 0, n1)) (hd1 : 1 ≤ d) (hrest : (st.map fun v => v.category).sum ≤ 8) (k : kOk l G E Z M d o pc' lv st (kuA S k1 (va_cpy (S.1 k0) (S.1 k1) sp.toNatClampNeg dp.toNatClampNeg n.toNatClampNeg))) : kOk l G E Z M d (kgc sp dp n n0 n1 o) pc lv (.int n :: .int dp :: .ref k1 :: .int sp :: .ref k0 :: st) S := by
  intro p e s m args below meth c A H locs ls q C hP hS hl ho
  obtain ⟨hdc, rfl⟩ := hd
  unfold kgc at ho
  split at ho
  · cases ho
  rename_i hg
  have hlt := kSH_lt hs1
  have hD : va_D A (kws G E S) := kws_D C.2.2.2.2.2.2.1 C.2.2.2.2.2.1
  have hr2 : ((st.map (kcv E.1)).map fun v => v.category).sum ≤ 8 := by
    rw [List.map_map]
    have : (List.map ((fun v => Value.category v) ∘ kcv E.1) st) = st.map (fun v => v.category) := List.map_congr_left (fun v _ => kcat E.1 v)
    rw [this]
    exact hrest
  refine va_copyi (a := E.1 k1) (a0 := E.1 k0) (c0 := G.2.1.1) (c1 := G.2.1.1) (n0 := n0) (n1 := n1) (f := S.1 k0) (g := S.1 k1) (ty := .int) C.1.1 C.1.2.1 (by rw [C.1.2.2.1]; exact hl.1.symm) C.1.2.2.2.2.2.1 (C.1.2.2.2.2.2.2 _ hw1) (C.1.2.2.2.2.2.2 _ hw2) (C.1.2.2.2.2.2.2 _ hw3) (C.1.2.2.2.2.2.2 _ hw4) C.2.1 hP hD hS k0 k1 0 0 (by rw [kws_at (kSH_lt hs0), kent_i hs0]) (by rw [kws_at hlt, kent_i hs1]) rfl rfl rfl (fun h => hg (Or.inl h)) (fun h => hg (Or.inr (Or.inl h))) (fun h => hg (Or.inr (Or.inr (Or.inl h)))) (Nat.not_lt.mp fun h => hg (Or.inr (Or.inr (Or.inr (Or.inl h))))) (Nat.not_lt.mp fun h => hg (Or.inr (Or.inr (Or.inr (Or.inr h))))) (fun _ _ => rfl) hd1 ?_ hdc (fun H1 locs1 hP1 _ hS1 => ?_)
  · have h1 : nativeFrameWords "java/lang/System" "arraycopy" 5 ≤ 30 := by decide +kernel
    show _ ≤ 60 * d
    omega
  · rw [kws_set (S' := kuA S k1 (va_cpy (S.1 k0) (S.1 k1) sp.toNatClampNeg dp.toNatClampNeg n.toNatClampNeg)) hlt (by rw [kent_i hs1, kuA_self]) (fun a ha => kent_congr (kuA_ne S _ ha) rfl)] at hP1
    exact k p e s m args below meth c A H1 locs1 ls q C hP1 hS1 hl ho
-- switches over a table: the place of x among lo .. hi
def ksw (lo hi : Int) (x : Int32) : Option Nat := if x.toInt < lo ∨ hi < x.toInt then none else some (x.toInt - lo).toNat
theorem ok_table {dflt lo hi : Int} {offs : Array Int} {n : Nat} {x : Int32} {F : Option Nat → Option ρ} (tg : Nat → Nat) (td : Nat) (hd : kD M pc (.tableswitch dflt lo hi offs) n pc') (h0 : (pc : Int) + dflt = (td : Int)) (h1 : ∀ j : Nat, (j : Int) ≤ hi - lo → ∃ off, offs[j]? = some off ∧ (pc : Int) + off = (tg j : Int)) (k0 : kOk l G E Z M d (F none) td lv st S) (k1 : ∀ j : Nat, (j : Int) ≤ hi - lo → kOk l G E Z M d (F (some j)) (tg j) lv st S) : kOk l G E Z M d (F (ksw lo hi x)) pc lv (.int x :: st) S := by
  intro p e s m args below meth c A H locs ls q C hP hS hl ho
  obtain ⟨hdc, rfl⟩ := hd
  by_cases hc : x.toInt < lo ∨ hi < x.toInt
  · rw [ksw, if_pos hc] at ho
    exact lv_tableOut C.1.1 C.1.2.1 hdc hc h0 (k0 p e s m args below meth c A H locs ls q C hP hS hl ho)
  · rw [ksw, if_neg hc] at ho
    have hj : (((x.toInt - lo).toNat : Nat) : Int) ≤ hi - lo := by omega
    obtain ⟨off, g1, g2⟩ := h1 _ hj
    exact lv_tableIn C.1.1 C.1.2.1 hdc (fun h => hc (Or.inl h)) (fun h => hc (Or.inr h)) g1 g2 (k1 _ hj p e s m args below meth c A H locs ls q C hP hS hl ho)
end TEXTS
end
section
def kdecB (M : kM) (L : List (Nat × Instr × Nat × Nat)) : Bool := L.all (fun q => decide (decode M.2.1 q.1 = .ok (q.2.1, q.2.2.1)) && q.2.2.2 == q.1 + q.2.2.1)
theorem kDec_of {M : kM} {L : List (Nat × Instr × Nat × Nat)} (h : kdecB M L = true) : kDec M L := by
  intro q hq
  have h1 := List.all_eq_true.mp h q hq
  rw [Bool.and_eq_true] at h1
  exact ⟨of_decide_eq_true h1.1, by simpa using h1.2⟩
def kl_m0_reckon : List (Nat × Instr × Nat × Nat) := [(0, .aload_n 0, 1, 1), (1, .iload_n 2, 1, 2), (2, .iconst 5, 1, 3), (3, .invokestatic 27, 3, 6), (6, .putfield 33, 3, 9), (9, .iconst 0, 1, 10), (10, .istore_n 3, 1, 11), (11, .iload_n 3, 1, 12), (12, .aload_n 0, 1, 13), (13, .getfield 33, 3, 16), (16, .if_icmp .ge 66, 3, 19), (19, .aload_n 0, 1, 20), (20, .getfield 9, 3, 23), (23, .iload_n 3, 1, 24), (24, .iconst 0, 1, 25), (25, .iastore, 1, 26), (26, .iconst 0, 1, 27), (27, .istore 4, 2, 29), (29, .iload 4, 2, 31), (31, .aload_n 0, 1, 32), (32, .getfield 33, 3, 35), (35, .if_icmp .ge 41, 3, 38), (38, .aload_n 0, 1, 39), (39, .getfield 9, 3, 42), (42, .iload_n 3, 1, 43), (43, .dup2, 1, 44), (44, .iaload, 1, 45), (45, .aload_n 1, 1, 46), (46, .getfield 37, 3, 49), (49, .iload 4, 2, 51), (51, .iconst 5, 1, 52), (52, .imul, 1, 53), (53, .iload_n 3, 1, 54), (54, .iadd, 1, 55), (55, .iaload, 1, 56), (56, .aload_n 1, 1, 57), (57, .getfield 37, 3, 60), (60, .iload_n 3, 1, 61), (61, .iconst 5, 1, 62), (62, .imul, 1, 63), (63, .iload 4, 2, 65), (65, .iadd, 1, 66), (66, .iaload, 1, 67), (67, .isub, 1, 68), (68, .iadd, 1, 69), (69, .iastore, 1, 70), (70, .iinc 4 1, 3, 73), (73, .goto (-44), 3, 76), (76, .iinc 3 1, 3, 79), (79, .goto (-68), 3, 82), (82, .return_, 1, 83)]
theorem kd_m0_reckon : kDec m0_reckon kl_m0_reckon := kDec_of (by decide +kernel)
def kl_m0_owedInAll : List (Nat × Instr × Nat × Nat) := [(0, .iconst 0, 1, 1), (1, .istore_n 1, 1, 2), (2, .iconst 0, 1, 3), (3, .istore_n 2, 1, 4), (4, .iload_n 2, 1, 5), (5, .aload_n 0, 1, 6), (6, .getfield 33, 3, 9), (9, .if_icmp .ge 22, 3, 12), (12, .iload_n 1, 1, 13), (13, .iconst 0, 1, 14), (14, .aload_n 0, 1, 15), (15, .getfield 9, 3, 18), (18, .iload_n 2, 1, 19), (19, .iaload, 1, 20), (20, .invokestatic 42, 3, 23), (23, .iadd, 1, 24), (24, .istore_n 1, 1, 25), (25, .iinc 2 1, 3, 28), (28, .goto (-24), 3, 31), (31, .iload_n 1, 1, 32), (32, .ireturn, 1, 33)]
theorem kd_m0_owedInAll : kDec m0_owedInAll kl_m0_owedInAll := kDec_of (by decide +kernel)
def kl_m0_fewestPayments : List (Nat × Instr × Nat × Nat) := [(0, .iconst 1, 1, 1), (1, .aload_n 0, 1, 2), (2, .getfield 33, 3, 5), (5, .ishl, 1, 6), (6, .iconst 1, 1, 7), (7, .isub, 1, 8), (8, .istore_n 1, 1, 9), (9, .aload_n 0, 1, 10), (10, .getfield 15, 3, 13), (13, .iconst 0, 1, 14), (14, .iconst 0, 1, 15), (15, .iastore, 1, 16), (16, .aload_n 0, 1, 17), (17, .getfield 18, 3, 20), (20, .iconst 0, 1, 21), (21, .iconst 0, 1, 22), (22, .iastore, 1, 23), (23, .iconst 1, 1, 24), (24, .istore_n 2, 1, 25), (25, .iload_n 2, 1, 26), (26, .iload_n 1, 1, 27), (27, .if_icmp .gt 101, 3, 30), (30, .iconst 0, 1, 31), (31, .istore_n 3, 1, 32), (32, .iconst 0, 1, 33), (33, .istore 4, 2, 35), (35, .iload 4, 2, 37), (37, .aload_n 0, 1, 38), (38, .getfield 33, 3, 41), (41, .if_icmp .ge 59, 3, 44), (44, .iload_n 2, 1, 45), (45, .iload 4, 2, 47), (47, .ishr, 1, 48), (48, .iconst 1, 1, 49), (49, .iand, 1, 50), (50, .ifCond .eq 44, 3, 53), (53, .iload_n 2, 1, 54), (54, .iconst 1, 1, 55), (55, .iload 4, 2, 57), (57, .ishl, 1, 58), (58, .ixor, 1, 59), (59, .istore 5, 2, 61), (61, .aload_n 0, 1, 62), (62, .getfield 15, 3, 65), (65, .iload_n 2, 1, 66), (66, .aload_n 0, 1, 67), (67, .getfield 15, 3, 70), (70, .iload 5, 2, 72), (72, .iaload, 1, 73), (73, .aload_n 0, 1, 74), (74, .getfield 9, 3, 77), (77, .iload 4, 2, 79), (79, .iaload, 1, 80), (80, .iadd, 1, 81), (81, .iastore, 1, 82), (82, .iload_n 3, 1, 83), (83, .aload_n 0, 1, 84), (84, .getfield 18, 3, 87), (87, .iload 5, 2, 89), (89, .iaload, 1, 90), (90, .invokestatic 42, 3, 93), (93, .istore_n 3, 1, 94), (94, .iinc 4 1, 3, 97), (97, .goto (-62), 3, 100), (100, .aload_n 0, 1, 101), (101, .getfield 18, 3, 104), (104, .iload_n 2, 1, 105), (105, .aload_n 0, 1, 106), (106, .getfield 15, 3, 109), (109, .iload_n 2, 1, 110), (110, .iaload, 1, 111), (111, .ifCond .ne 9, 3, 114), (114, .iload_n 3, 1, 115), (115, .iconst 1, 1, 116), (116, .iadd, 1, 117), (117, .goto 4, 3, 120), (120, .iload_n 3, 1, 121), (121, .iastore, 1, 122), (122, .iinc 2 1, 3, 125), (125, .goto (-100), 3, 128), (128, .aload_n 0, 1, 129), (129, .getfield 33, 3, 132), (132, .aload_n 0, 1, 133), (133, .getfield 18, 3, 136), (136, .iload_n 1, 1, 137), (137, .iaload, 1, 138), (138, .isub, 1, 139), (139, .ireturn, 1, 140)]
theorem kd_m0_fewestPayments : kDec m0_fewestPayments kl_m0_fewestPayments := kDec_of (by decide +kernel)
def kl_m0_findRing : List (Nat × Instr × Nat × Nat) := [(0, .aload_n 0, 1, 1), (1, .iload_n 2, 1, 2), (2, .iconst 5, 1, 3), (3, .invokestatic 27, 3, 6), (6, .putfield 33, 3, 9), (9, .aload_n 0, 1, 10), (10, .iconst 0, 1, 11), (11, .putfield 45, 3, 14), (14, .aload_n 0, 1, 15), (15, .aload_n 1, 1, 16), (16, .iload_n 3, 1, 17), (17, .invokevirtual 48, 3, 20), (20, .aload_n 0, 1, 21), (21, .aload_n 1, 1, 22), (22, .iload_n 3, 1, 23), (23, .invokevirtual 52, 3, 26), (26, .istore 4, 2, 28), (28, .iload 4, 2, 30), (30, .aload_n 0, 1, 31), (31, .getfield 33, 3, 34), (34, .if_icmp .le 4, 3, 37), (37, .return_, 1, 38), (38, .iload_n 3, 1, 39), (39, .istore 5, 2, 41), (41, .aload_n 0, 1, 42), (42, .getfield 24, 3, 45), (45, .iconst 0, 1, 46), (46, .iload_n 3, 1, 47), (47, .iastore, 1, 48), (48, .aload_n 0, 1, 49), (49, .iconst 1, 1, 50), (50, .putfield 45, 3, 53), (53, .iload 4, 2, 55), (55, .ifCond .le 49, 3, 58), (58, .aload_n 0, 1, 59), (59, .getfield 45, 3, 62), (62, .iconst 5, 1, 63), (63, .if_icmp .ge 41, 3, 66), (66, .aload_n 0, 1, 67), (67, .aload_n 1, 1, 68), (68, .iload 5, 2, 70), (70, .iload 4, 2, 72), (72, .invokevirtual 56, 3, 75), (75, .istore 5, 2, 77), (77, .aload_n 0, 1, 78), (78, .getfield 24, 3, 81), (81, .aload_n 0, 1, 82), (82, .getfield 45, 3, 85), (85, .iload 5, 2, 87), (87, .iastore, 1, 88), (88, .aload_n 0, 1, 89), (89, .dup, 1, 90), (90, .getfield 45, 3, 93), (93, .iconst 1, 1, 94), (94, .iadd, 1, 95), (95, .putfield 45, 3, 98), (98, .iinc 4 (-1), 3, 101), (101, .goto (-48), 3, 104), (104, .return_, 1, 105)]
theorem kd_m0_findRing : kDec m0_findRing kl_m0_findRing := kDec_of (by decide +kernel)
def kl_m0_countDebtsHome : List (Nat × Instr × Nat × Nat) := [(0, .aload_n 0, 1, 1), (1, .getfield 21, 3, 4), (4, .bipush 6, 2, 6), (6, .invokestatic 60, 3, 9), (9, .aload_n 0, 1, 10), (10, .getfield 21, 3, 13), (13, .iload_n 2, 1, 14), (14, .iconst 0, 1, 15), (15, .iastore, 1, 16), (16, .iconst 0, 1, 17), (17, .istore_n 3, 1, 18), (18, .iload_n 3, 1, 19), (19, .aload_n 0, 1, 20), (20, .getfield 33, 3, 23), (23, .if_icmp .ge 59, 3, 26), (26, .iconst 0, 1, 27), (27, .istore 4, 2, 29), (29, .iload 4, 2, 31), (31, .aload_n 0, 1, 32), (32, .getfield 33, 3, 35), (35, .if_icmp .ge 41, 3, 38), (38, .iload 4, 2, 40), (40, .iload_n 2, 1, 41), (41, .if_icmp .eq 29, 3, 44), (44, .aload_n 0, 1, 45), (45, .getfield 21, 3, 48), (48, .iload 4, 2, 50), (50, .aload_n 0, 1, 51), (51, .getfield 21, 3, 54), (54, .iload 4, 2, 56), (56, .iaload, 1, 57), (57, .aload_n 0, 1, 58), (58, .aload_n 1, 1, 59), (59, .iload 4, 2, 61), (61, .invokevirtual 52, 3, 64), (64, .iconst 1, 1, 65), (65, .iadd, 1, 66), (66, .invokestatic 27, 3, 69), (69, .iastore, 1, 70), (70, .iinc 4 1, 3, 73), (73, .goto (-44), 3, 76), (76, .iinc 3 1, 3, 79), (79, .goto (-61), 3, 82), (82, .return_, 1, 83)]
theorem kd_m0_countDebtsHome : kDec m0_countDebtsHome kl_m0_countDebtsHome := kDec_of (by decide +kernel)
def kl_m0_fewestDebtsBehind : List (Nat × Instr × Nat × Nat) := [(0, .bipush 6, 2, 2), (2, .istore_n 3, 1, 3), (3, .iconst 0, 1, 4), (4, .istore 4, 2, 6), (6, .iload 4, 2, 8), (8, .aload_n 0, 1, 9), (9, .getfield 33, 3, 12), (12, .if_icmp .ge 35, 3, 15), (15, .aload_n 1, 1, 16), (16, .getfield 37, 3, 19), (19, .iload_n 2, 1, 20), (20, .iconst 5, 1, 21), (21, .imul, 1, 22), (22, .iload 4, 2, 24), (24, .iadd, 1, 25), (25, .iaload, 1, 26), (26, .ifCond .le 15, 3, 29), (29, .iload_n 3, 1, 30), (30, .aload_n 0, 1, 31), (31, .getfield 21, 3, 34), (34, .iload 4, 2, 36), (36, .iaload, 1, 37), (37, .invokestatic 27, 3, 40), (40, .istore_n 3, 1, 41), (41, .iinc 4 1, 3, 44), (44, .goto (-38), 3, 47), (47, .iload_n 3, 1, 48), (48, .ireturn, 1, 49)]
theorem kd_m0_fewestDebtsBehind : kDec m0_fewestDebtsBehind kl_m0_fewestDebtsBehind := kDec_of (by decide +kernel)
def kl_m0_firstNext : List (Nat × Instr × Nat × Nat) := [(0, .iconst 0, 1, 1), (1, .istore 4, 2, 3), (3, .iload 4, 2, 5), (5, .aload_n 0, 1, 6), (6, .getfield 33, 3, 9), (9, .if_icmp .ge 37, 3, 12), (12, .aload_n 1, 1, 13), (13, .getfield 37, 3, 16), (16, .iload_n 2, 1, 17), (17, .iconst 5, 1, 18), (18, .imul, 1, 19), (19, .iload 4, 2, 21), (21, .iadd, 1, 22), (22, .iaload, 1, 23), (23, .ifCond .le 17, 3, 26), (26, .aload_n 0, 1, 27), (27, .getfield 21, 3, 30), (30, .iload 4, 2, 32), (32, .iaload, 1, 33), (33, .iload_n 3, 1, 34), (34, .if_icmp .ne 6, 3, 37), (37, .iload 4, 2, 39), (39, .ireturn, 1, 40), (40, .iinc 4 1, 3, 43), (43, .goto (-40), 3, 46), (46, .iload_n 2, 1, 47), (47, .ireturn, 1, 48)]
theorem kd_m0_firstNext : kDec m0_firstNext kl_m0_firstNext := kDec_of (by decide +kernel)
def kl_m1_find : List (Nat × Instr × Nat × Nat) := [(0, .aload_n 0, 1, 1), (1, .iconst 0, 1, 2), (2, .putfield 28, 3, 5), (5, .iconst 0, 1, 6), (6, .istore_n 2, 1, 7), (7, .iload_n 2, 1, 8), (8, .aload_n 1, 1, 9), (9, .getfield 32, 3, 12), (12, .if_icmp .ge 33, 3, 15), (15, .aload_n 1, 1, 16), (16, .iload_n 2, 1, 17), (17, .invokevirtual 37, 3, 20), (20, .ifCond .ne 19, 3, 23), (23, .aload_n 0, 1, 24), (24, .aload_n 1, 1, 25), (25, .iload_n 2, 1, 26), (26, .aload_n 1, 1, 27), (27, .getfield 41, 3, 30), (30, .iload_n 2, 1, 31), (31, .iaload, 1, 32), (32, .invokevirtual 44, 3, 35), (35, .ifCond .ne 4, 3, 38), (38, .return_, 1, 39), (39, .iinc 2 1, 3, 42), (42, .goto (-35), 3, 45), (45, .iconst 0, 1, 46), (46, .istore_n 2, 1, 47), (47, .iload_n 2, 1, 48), (48, .aload_n 1, 1, 49), (49, .getfield 48, 3, 52), (52, .if_icmp .ge 68, 3, 55), (55, .aload_n 1, 1, 56), (56, .getfield 51, 3, 59), (59, .iload_n 2, 1, 60), (60, .iaload, 1, 61), (61, .istore_n 3, 1, 62), (62, .aload_n 0, 1, 63), (63, .getfield 18, 3, 66), (66, .iload_n 2, 1, 67), (67, .aload_n 0, 1, 68), (68, .aload_n 1, 1, 69), (69, .iload_n 3, 1, 70), (70, .aload_n 1, 1, 71), (71, .getfield 41, 3, 74), (74, .iload_n 3, 1, 75), (75, .iaload, 1, 76), (76, .invokevirtual 44, 3, 79), (79, .ifCond .eq 7, 3, 82), (82, .iconst 1, 1, 83), (83, .goto 4, 3, 86), (86, .iconst 0, 1, 87), (87, .iastore, 1, 88), (88, .aload_n 0, 1, 89), (89, .getfield 22, 3, 92), (92, .iload_n 2, 1, 93), (93, .aload_n 0, 1, 94), (94, .aload_n 1, 1, 95), (95, .iload_n 3, 1, 96), (96, .aload_n 1, 1, 97), (97, .getfield 54, 3, 100), (100, .iload_n 2, 1, 101), (101, .iaload, 1, 102), (102, .invokevirtual 44, 3, 105), (105, .ifCond .eq 7, 3, 108), (108, .iconst 1, 1, 109), (109, .goto 4, 3, 112), (112, .iconst 0, 1, 113), (113, .iastore, 1, 114), (114, .iinc 2 1, 3, 117), (117, .goto (-70), 3, 120), (120, .iconst 0, 1, 121), (121, .istore_n 2, 1, 122), (122, .iload_n 2, 1, 123), (123, .iconst 1, 1, 124), (124, .aload_n 1, 1, 125), (125, .getfield 48, 3, 128), (128, .ishl, 1, 129), (129, .if_icmp .ge 41, 3, 132), (132, .aload_n 0, 1, 133), (133, .iload_n 2, 1, 134), (134, .aload_n 1, 1, 135), (135, .getfield 48, 3, 138), (138, .invokevirtual 57, 3, 141), (141, .ifCond .eq 23, 3, 144), (144, .aload_n 0, 1, 145), (145, .getfield 25, 3, 148), (148, .aload_n 0, 1, 149), (149, .getfield 28, 3, 152), (152, .iload_n 2, 1, 153), (153, .iastore, 1, 154), (154, .aload_n 0, 1, 155), (155, .dup, 1, 156), (156, .getfield 28, 3, 159), (159, .iconst 1, 1, 160), (160, .iadd, 1, 161), (161, .putfield 28, 3, 164), (164, .iinc 2 1, 3, 167), (167, .goto (-45), 3, 170), (170, .return_, 1, 171)]
theorem kd_m1_find : kDec m1_find kl_m1_find := kDec_of (by decide +kernel)
def kl_m1_fitsHeard : List (Nat × Instr × Nat × Nat) := [(0, .iconst 0, 1, 1), (1, .istore 4, 2, 3), (3, .iload 4, 2, 5), (5, .aload_n 1, 1, 6), (6, .getfield 61, 3, 9), (9, .if_icmp .ge 70, 3, 12), (12, .aload_n 1, 1, 13), (13, .getfield 64, 3, 16), (16, .iload 4, 2, 18), (18, .iaload, 1, 19), (19, .iload_n 2, 1, 20), (20, .if_icmp .ne 53, 3, 23), (23, .aload_n 0, 1, 24), (24, .getfield 12, 3, 27), (27, .aload_n 1, 1, 28), (28, .iload_n 2, 1, 29), (29, .invokevirtual 67, 3, 32), (32, .aload_n 0, 1, 33), (33, .getfield 12, 3, 36), (36, .iload_n 3, 1, 37), (37, .putfield 71, 3, 40), (40, .aload_n 0, 1, 41), (41, .getfield 12, 3, 44), (44, .aload_n 1, 1, 45), (45, .getfield 74, 3, 48), (48, .iload 4, 2, 50), (50, .iaload, 1, 51), (51, .invokevirtual 77, 3, 54), (54, .aload_n 0, 1, 55), (55, .getfield 12, 3, 58), (58, .getfield 81, 3, 61), (61, .aload_n 1, 1, 62), (62, .getfield 84, 3, 65), (65, .iload 4, 2, 67), (67, .iaload, 1, 68), (68, .if_icmp .eq 5, 3, 71), (71, .iconst 0, 1, 72), (72, .ireturn, 1, 73), (73, .iinc 4 1, 3, 76), (76, .goto (-73), 3, 79), (79, .iconst 1, 1, 80), (80, .ireturn, 1, 81)]
theorem kd_m1_fitsHeard : kDec m1_fitsHeard kl_m1_fitsHeard := kDec_of (by decide +kernel)
def kl_m1_isFit : List (Nat × Instr × Nat × Nat) := [(0, .iconst 0, 1, 1), (1, .istore_n 3, 1, 2), (2, .iload_n 3, 1, 3), (3, .iload_n 2, 1, 4), (4, .if_icmp .ge 41, 3, 7), (7, .iload_n 1, 1, 8), (8, .iload_n 3, 1, 9), (9, .ishr, 1, 10), (10, .iconst 1, 1, 11), (11, .iand, 1, 12), (12, .ifCond .eq 12, 3, 15), (15, .aload_n 0, 1, 16), (16, .getfield 22, 3, 19), (19, .iload_n 3, 1, 20), (20, .iaload, 1, 21), (21, .goto 9, 3, 24), (24, .aload_n 0, 1, 25), (25, .getfield 18, 3, 28), (28, .iload_n 3, 1, 29), (29, .iaload, 1, 30), (30, .istore 4, 2, 32), (32, .iload 4, 2, 34), (34, .ifCond .ne 5, 3, 37), (37, .iconst 0, 1, 38), (38, .ireturn, 1, 39), (39, .iinc 3 1, 3, 42), (42, .goto (-40), 3, 45), (45, .iconst 1, 1, 46), (46, .ireturn, 1, 47)]
theorem kd_m1_isFit : kDec m1_isFit kl_m1_isFit := kDec_of (by decide +kernel)
def kl_m1_inSome : List (Nat × Instr × Nat × Nat) := [(0, .iconst 0, 1, 1), (1, .istore_n 1, 1, 2), (2, .iconst 0, 1, 3), (3, .istore_n 2, 1, 4), (4, .iload_n 2, 1, 5), (5, .aload_n 0, 1, 6), (6, .getfield 28, 3, 9), (9, .if_icmp .ge 18, 3, 12), (12, .iload_n 1, 1, 13), (13, .aload_n 0, 1, 14), (14, .getfield 25, 3, 17), (17, .iload_n 2, 1, 18), (18, .iaload, 1, 19), (19, .ior, 1, 20), (20, .istore_n 1, 1, 21), (21, .iinc 2 1, 3, 24), (24, .goto (-20), 3, 27), (27, .iload_n 1, 1, 28), (28, .ireturn, 1, 29)]
theorem kd_m1_inSome : kDec m1_inSome kl_m1_inSome := kDec_of (by decide +kernel)
def kl_m1_inAll : List (Nat × Instr × Nat × Nat) := [(0, .aload_n 0, 1, 1), (1, .getfield 28, 3, 4), (4, .ifCond .ne 7, 3, 7), (7, .iconst 0, 1, 8), (8, .goto 9, 3, 11), (11, .aload_n 0, 1, 12), (12, .getfield 25, 3, 15), (15, .iconst 0, 1, 16), (16, .iaload, 1, 17), (17, .istore_n 1, 1, 18), (18, .iconst 1, 1, 19), (19, .istore_n 2, 1, 20), (20, .iload_n 2, 1, 21), (21, .aload_n 0, 1, 22), (22, .getfield 28, 3, 25), (25, .if_icmp .ge 18, 3, 28), (28, .iload_n 1, 1, 29), (29, .aload_n 0, 1, 30), (30, .getfield 25, 3, 33), (33, .iload_n 2, 1, 34), (34, .iaload, 1, 35), (35, .iand, 1, 36), (36, .istore_n 1, 1, 37), (37, .iinc 2 1, 3, 40), (40, .goto (-20), 3, 43), (43, .iload_n 1, 1, 44), (44, .ireturn, 1, 45)]
theorem kd_m1_inAll : kDec m1_inAll kl_m1_inAll := kDec_of (by decide +kernel)
def kl_m1_leftAtMost : List (Nat × Instr × Nat × Nat) := [(0, .iconst 0, 1, 1), (1, .istore_n 2, 1, 2), (2, .iconst 0, 1, 3), (3, .istore_n 3, 1, 4), (4, .iload_n 3, 1, 5), (5, .aload_n 0, 1, 6), (6, .getfield 28, 3, 9), (9, .if_icmp .ge 22, 3, 12), (12, .iload_n 2, 1, 13), (13, .aload_n 0, 1, 14), (14, .getfield 25, 3, 17), (17, .iload_n 3, 1, 18), (18, .iaload, 1, 19), (19, .iload_n 1, 1, 20), (20, .ishr, 1, 21), (21, .iconst 1, 1, 22), (22, .iand, 1, 23), (23, .iadd, 1, 24), (24, .istore_n 2, 1, 25), (25, .iinc 3 1, 3, 28), (28, .goto (-24), 3, 31), (31, .iload_n 2, 1, 32), (32, .aload_n 0, 1, 33), (33, .getfield 28, 3, 36), (36, .iload_n 2, 1, 37), (37, .isub, 1, 38), (38, .invokestatic 87, 3, 41), (41, .ireturn, 1, 42)]
theorem kd_m1_leftAtMost : kDec m1_leftAtMost kl_m1_leftAtMost := kDec_of (by decide +kernel)
def kl_m1_bestQuestion : List (Nat × Instr × Nat × Nat) := [(0, .bipush (-2), 2, 2), (2, .istore_n 2, 1, 3), (3, .aload_n 0, 1, 4), (4, .getfield 28, 3, 7), (7, .istore_n 3, 1, 8), (8, .iconst 0, 1, 9), (9, .istore 4, 2, 11), (11, .aload_n 0, 1, 12), (12, .getfield 28, 3, 15), (15, .ifCond .le 39, 3, 18), (18, .iload 4, 2, 20), (20, .iload_n 1, 1, 21), (21, .if_icmp .ge 33, 3, 24), (24, .aload_n 0, 1, 25), (25, .iload 4, 2, 27), (27, .invokevirtual 93, 3, 30), (30, .istore 5, 2, 32), (32, .iload_n 2, 1, 33), (33, .ifCond .lt 9, 3, 36), (36, .iload 5, 2, 38), (38, .iload_n 3, 1, 39), (39, .if_icmp .ge 9, 3, 42), (42, .iload 5, 2, 44), (44, .istore_n 3, 1, 45), (45, .iload 4, 2, 47), (47, .istore_n 2, 1, 48), (48, .iinc 4 1, 3, 51), (51, .goto (-40), 3, 54), (54, .iload_n 2, 1, 55), (55, .ireturn, 1, 56)]
theorem kd_m1_bestQuestion : kDec m1_bestQuestion kl_m1_bestQuestion := kDec_of (by decide +kernel)
def kl_m2_reckon : List (Nat × Instr × Nat × Nat) := [(0, .aload_n 0, 1, 1), (1, .iconst 1, 1, 2), (2, .putfield 15, 3, 5), (5, .iconst 0, 1, 6), (6, .istore 4, 2, 8), (8, .iload 4, 2, 10), (10, .iload_n 3, 1, 11), (11, .if_icmp .ge 19, 3, 14), (14, .aload_n 0, 1, 15), (15, .dup, 1, 16), (16, .getfield 15, 3, 19), (19, .iload_n 1, 1, 20), (20, .imul, 1, 21), (21, .putfield 15, 3, 24), (24, .iinc 4 1, 3, 27), (27, .goto (-19), 3, 30), (30, .aload_n 0, 1, 31), (31, .iconst 0, 1, 32), (32, .putfield 19, 3, 35), (35, .iconst 0, 1, 36), (36, .istore 4, 2, 38), (38, .iload 4, 2, 40), (40, .aload_n 0, 1, 41), (41, .getfield 15, 3, 44), (44, .if_icmp .ge 39, 3, 47), (47, .aload_n 0, 1, 48), (48, .iload 4, 2, 50), (50, .iload_n 1, 1, 51), (51, .iload_n 3, 1, 52), (52, .invokevirtual 22, 3, 55), (55, .aload_n 0, 1, 56), (56, .getfield 9, 3, 59), (59, .iload_n 1, 1, 60), (60, .invokestatic 26, 3, 63), (63, .iload_n 2, 1, 64), (64, .if_icmp .ne 13, 3, 67), (67, .aload_n 0, 1, 68), (68, .dup, 1, 69), (69, .getfield 19, 3, 72), (72, .iconst 1, 1, 73), (73, .iadd, 1, 74), (74, .putfield 19, 3, 77), (77, .iinc 4 1, 3, 80), (80, .goto (-42), 3, 83), (83, .return_, 1, 84)]
theorem kd_m2_reckon : kDec m2_reckon kl_m2_reckon := kDec_of (by decide +kernel)
def kl_m2_lookBy : List (Nat × Instr × Nat × Nat) := [(0, .aload_n 0, 1, 1), (1, .getfield 9, 3, 4), (4, .iconst 0, 1, 5), (5, .invokestatic 30, 3, 8), (8, .iload_n 1, 1, 9), (9, .istore 4, 2, 11), (11, .iconst 0, 1, 12), (12, .istore 5, 2, 14), (14, .iload 5, 2, 16), (16, .iload_n 3, 1, 17), (17, .if_icmp .ge 32, 3, 20), (20, .iload_n 2, 1, 21), (21, .ifCond .le 28, 3, 24), (24, .aload_n 0, 1, 25), (25, .getfield 9, 3, 28), (28, .iload 4, 2, 30), (30, .iload_n 2, 1, 31), (31, .irem, 1, 32), (32, .dup2, 1, 33), (33, .iaload, 1, 34), (34, .iconst 1, 1, 35), (35, .iadd, 1, 36), (36, .iastore, 1, 37), (37, .iload 4, 2, 39), (39, .iload_n 2, 1, 40), (40, .idiv, 1, 41), (41, .istore 4, 2, 43), (43, .iinc 5 1, 3, 46), (46, .goto (-32), 3, 49), (49, .return_, 1, 50)]
theorem kd_m2_lookBy : kDec m2_lookBy kl_m2_lookBy := kDec_of (by decide +kernel)
def kl_m2_look : List (Nat × Instr × Nat × Nat) := [(0, .aload_n 0, 1, 1), (1, .getfield 9, 3, 4), (4, .iconst 0, 1, 5), (5, .invokestatic 30, 3, 8), (8, .iload_n 2, 1, 9), (9, .istore 4, 2, 11), (11, .iconst 0, 1, 12), (12, .istore 5, 2, 14), (14, .iload 5, 2, 16), (16, .iload_n 3, 1, 17), (17, .if_icmp .ge 33, 3, 20), (20, .iload_n 1, 1, 21), (21, .ifCond .le 29, 3, 24), (24, .iload 4, 2, 26), (26, .invokestatic 36, 3, 29), (29, .istore 4, 2, 31), (31, .aload_n 0, 1, 32), (32, .getfield 9, 3, 35), (35, .iload 4, 2, 37), (37, .iload_n 1, 1, 38), (38, .irem, 1, 39), (39, .dup2, 1, 40), (40, .iaload, 1, 41), (41, .iconst 1, 1, 42), (42, .iadd, 1, 43), (43, .iastore, 1, 44), (44, .iinc 5 1, 3, 47), (47, .goto (-33), 3, 50), (50, .return_, 1, 51)]
theorem kd_m2_look : kDec m2_look kl_m2_look := kDec_of (by decide +kernel)
def kl_m3_forget : List (Nat × Instr × Nat × Nat) := [(0, .aload_n 0, 1, 1), (1, .iconst 0, 1, 2), (2, .putfield 18, 3, 5), (5, .return_, 1, 6)]
theorem kd_m3_forget : kDec m3_forget kl_m3_forget := kDec_of (by decide +kernel)
def kl_m3_keep : List (Nat × Instr × Nat × Nat) := [(0, .aload_n 1, 1, 1), (1, .aload_n 0, 1, 2), (2, .getfield 13, 3, 5), (5, .aload_n 0, 1, 6), (6, .getfield 22, 3, 9), (9, .aaload, 1, 10), (10, .invokevirtual 25, 3, 13), (13, .aload_n 0, 1, 14), (14, .aload_n 0, 1, 15), (15, .getfield 22, 3, 18), (18, .iconst 1, 1, 19), (19, .iadd, 1, 20), (20, .bipush 16, 2, 22), (22, .irem, 1, 23), (23, .putfield 22, 3, 26), (26, .aload_n 0, 1, 27), (27, .aload_n 0, 1, 28), (28, .getfield 18, 3, 31), (31, .iconst 1, 1, 32), (32, .iadd, 1, 33), (33, .bipush 16, 2, 35), (35, .invokestatic 29, 3, 38), (38, .putfield 18, 3, 41), (41, .return_, 1, 42)]
theorem kd_m3_keep : kDec m3_keep kl_m3_keep := kDec_of (by decide +kernel)
def kl_m3_takeBack : List (Nat × Instr × Nat × Nat) := [(0, .aload_n 0, 1, 1), (1, .getfield 18, 3, 4), (4, .ifCond .le 42, 3, 7), (7, .aload_n 0, 1, 8), (8, .aload_n 0, 1, 9), (9, .getfield 22, 3, 12), (12, .bipush 16, 2, 14), (14, .iadd, 1, 15), (15, .iconst 1, 1, 16), (16, .isub, 1, 17), (17, .bipush 16, 2, 19), (19, .irem, 1, 20), (20, .putfield 22, 3, 23), (23, .aload_n 0, 1, 24), (24, .dup, 1, 25), (25, .getfield 18, 3, 28), (28, .iconst 1, 1, 29), (29, .isub, 1, 30), (30, .putfield 18, 3, 33), (33, .aload_n 1, 1, 34), (34, .aload_n 0, 1, 35), (35, .getfield 13, 3, 38), (38, .aload_n 0, 1, 39), (39, .getfield 22, 3, 42), (42, .aaload, 1, 43), (43, .invokevirtual 35, 3, 46), (46, .return_, 1, 47)]
theorem kd_m3_takeBack : kDec m3_takeBack kl_m3_takeBack := kDec_of (by decide +kernel)
def kl_m4_begin : List (Nat × Instr × Nat × Nat) := [(0, .aload_n 0, 1, 1), (1, .iconst 0, 1, 2), (2, .putfield 21, 3, 5), (5, .aload_n 1, 1, 6), (6, .getfield 25, 3, 9), (9, .iconst 0, 1, 10), (10, .aload_n 0, 1, 11), (11, .getfield 11, 3, 14), (14, .iconst 0, 1, 15), (15, .iconst 5, 1, 16), (16, .invokestatic 28, 3, 19), (19, .aload_n 1, 1, 20), (20, .getfield 34, 3, 23), (23, .iconst 0, 1, 24), (24, .aload_n 0, 1, 25), (25, .getfield 15, 3, 28), (28, .iconst 0, 1, 29), (29, .iconst 5, 1, 30), (30, .invokestatic 28, 3, 33), (33, .aload_n 1, 1, 34), (34, .getfield 35, 3, 37), (37, .iconst 0, 1, 38), (38, .aload_n 0, 1, 39), (39, .getfield 18, 3, 42), (42, .iconst 0, 1, 43), (43, .bipush 25, 2, 45), (45, .invokestatic 28, 3, 48), (48, .return_, 1, 49)]
theorem kd_m4_begin : kDec m4_begin kl_m4_begin := kDec_of (by decide +kernel)
def kl_m4_save : List (Nat × Instr × Nat × Nat) := [(0, .aload_n 1, 1, 1), (1, .arraylength, 1, 2), (2, .bipush 36, 2, 4), (4, .if_icmp .ge 4, 3, 7), (7, .return_, 1, 8), (8, .aload_n 1, 1, 9), (9, .iconst 0, 1, 10), (10, .aload_n 0, 1, 11), (11, .getfield 21, 3, 14), (14, .iastore, 1, 15), (15, .aload_n 0, 1, 16), (16, .getfield 11, 3, 19), (19, .iconst 0, 1, 20), (20, .aload_n 1, 1, 21), (21, .iconst 1, 1, 22), (22, .iconst 5, 1, 23), (23, .invokestatic 28, 3, 26), (26, .aload_n 0, 1, 27), (27, .getfield 15, 3, 30), (30, .iconst 0, 1, 31), (31, .aload_n 1, 1, 32), (32, .bipush 6, 2, 34), (34, .iconst 5, 1, 35), (35, .invokestatic 28, 3, 38), (38, .aload_n 0, 1, 39), (39, .getfield 18, 3, 42), (42, .iconst 0, 1, 43), (43, .aload_n 1, 1, 44), (44, .bipush 11, 2, 46), (46, .bipush 25, 2, 48), (48, .invokestatic 28, 3, 51), (51, .return_, 1, 52)]
theorem kd_m4_save : kDec m4_save kl_m4_save := kDec_of (by decide +kernel)
def kl_m4_load : List (Nat × Instr × Nat × Nat) := [(0, .aload_n 1, 1, 1), (1, .arraylength, 1, 2), (2, .bipush 36, 2, 4), (4, .if_icmp .ge 4, 3, 7), (7, .return_, 1, 8), (8, .aload_n 0, 1, 9), (9, .aload_n 1, 1, 10), (10, .iconst 0, 1, 11), (11, .iaload, 1, 12), (12, .putfield 21, 3, 15), (15, .aload_n 1, 1, 16), (16, .iconst 1, 1, 17), (17, .aload_n 0, 1, 18), (18, .getfield 11, 3, 21), (21, .iconst 0, 1, 22), (22, .iconst 5, 1, 23), (23, .invokestatic 28, 3, 26), (26, .aload_n 1, 1, 27), (27, .bipush 6, 2, 29), (29, .aload_n 0, 1, 30), (30, .getfield 15, 3, 33), (33, .iconst 0, 1, 34), (34, .iconst 5, 1, 35), (35, .invokestatic 28, 3, 38), (38, .aload_n 1, 1, 39), (39, .bipush 11, 2, 41), (41, .aload_n 0, 1, 42), (42, .getfield 18, 3, 45), (45, .iconst 0, 1, 46), (46, .bipush 25, 2, 48), (48, .invokestatic 28, 3, 51), (51, .return_, 1, 52)]
theorem kd_m4_load : kDec m4_load kl_m4_load := kDec_of (by decide +kernel)
def kl_m5_clear : List (Nat × Instr × Nat × Nat) := [(0, .aload_n 0, 1, 1), (1, .iconst 0, 1, 2), (2, .putfield 42, 3, 5), (5, .aload_n 0, 1, 6), (6, .iconst 0, 1, 7), (7, .putfield 46, 3, 10), (10, .aload_n 0, 1, 11), (11, .iconst 0, 1, 12), (12, .putfield 49, 3, 15), (15, .aload_n 0, 1, 16), (16, .iconst 0, 1, 17), (17, .putfield 52, 3, 20), (20, .aload_n 0, 1, 21), (21, .iconst 0, 1, 22), (22, .putfield 55, 3, 25), (25, .aload_n 0, 1, 26), (26, .iconst 0, 1, 27), (27, .putfield 58, 3, 30), (30, .aload_n 0, 1, 31), (31, .iconst 0, 1, 32), (32, .putfield 61, 3, 35), (35, .aload_n 0, 1, 36), (36, .getfield 15, 3, 39), (39, .iconst 0, 1, 40), (40, .invokestatic 64, 3, 43), (43, .aload_n 0, 1, 44), (44, .getfield 18, 3, 47), (47, .iconst 0, 1, 48), (48, .invokestatic 64, 3, 51), (51, .aload_n 0, 1, 52), (52, .getfield 21, 3, 55), (55, .iconst 0, 1, 56), (56, .invokestatic 64, 3, 59), (59, .aload_n 0, 1, 60), (60, .getfield 24, 3, 63), (63, .iconst 0, 1, 64), (64, .invokestatic 64, 3, 67), (67, .return_, 1, 68)]
theorem kd_m5_clear : kDec m5_clear kl_m5_clear := kDec_of (by decide +kernel)
def kl_m5_count : List (Nat × Instr × Nat × Nat) := [(0, .iload_n 1, 1, 1), (1, .tableswitch 78 0 6 #[43, 48, 53, 58, 63, 68, 73], 43, 44), (44, .aload_n 0, 1, 45), (45, .getfield 42, 3, 48), (48, .ireturn, 1, 49), (49, .aload_n 0, 1, 50), (50, .getfield 46, 3, 53), (53, .ireturn, 1, 54), (54, .aload_n 0, 1, 55), (55, .getfield 49, 3, 58), (58, .ireturn, 1, 59), (59, .aload_n 0, 1, 60), (60, .getfield 52, 3, 63), (63, .ireturn, 1, 64), (64, .aload_n 0, 1, 65), (65, .getfield 55, 3, 68), (68, .ireturn, 1, 69), (69, .aload_n 0, 1, 70), (70, .getfield 58, 3, 73), (73, .ireturn, 1, 74), (74, .aload_n 0, 1, 75), (75, .getfield 61, 3, 78), (78, .ireturn, 1, 79), (79, .iconst (-1), 1, 80), (80, .ireturn, 1, 81)]
theorem kd_m5_count : kDec m5_count kl_m5_count := kDec_of (by decide +kernel)
def kl_m5_isUnsure : List (Nat × Instr × Nat × Nat) := [(0, .iconst 0, 1, 1), (1, .istore_n 2, 1, 2), (2, .iload_n 2, 1, 3), (3, .aload_n 0, 1, 4), (4, .getfield 58, 3, 7), (7, .if_icmp .ge 21, 3, 10), (10, .aload_n 0, 1, 11), (11, .getfield 27, 3, 14), (14, .iload_n 2, 1, 15), (15, .iaload, 1, 16), (16, .iload_n 1, 1, 17), (17, .if_icmp .ne 5, 3, 20), (20, .iconst 1, 1, 21), (21, .ireturn, 1, 22), (22, .iinc 2 1, 3, 25), (25, .goto (-23), 3, 28), (28, .iconst 0, 1, 29), (29, .ireturn, 1, 30)]
theorem kd_m5_isUnsure : kDec m5_isUnsure kl_m5_isUnsure := kDec_of (by decide +kernel)
def kl_m5_isHeard : List (Nat × Instr × Nat × Nat) := [(0, .iconst 0, 1, 1), (1, .istore_n 3, 1, 2), (2, .iload_n 3, 1, 3), (3, .aload_n 0, 1, 4), (4, .getfield 61, 3, 7), (7, .if_icmp .ge 31, 3, 10), (10, .aload_n 0, 1, 11), (11, .getfield 33, 3, 14), (14, .iload_n 3, 1, 15), (15, .iaload, 1, 16), (16, .iload_n 1, 1, 17), (17, .if_icmp .ne 15, 3, 20), (20, .aload_n 0, 1, 21), (21, .getfield 36, 3, 24), (24, .iload_n 3, 1, 25), (25, .iaload, 1, 26), (26, .iload_n 2, 1, 27), (27, .if_icmp .ne 5, 3, 30), (30, .iconst 1, 1, 31), (31, .ireturn, 1, 32), (32, .iinc 3 1, 3, 35), (35, .goto (-33), 3, 38), (38, .iconst 0, 1, 39), (39, .ireturn, 1, 40)]
theorem kd_m5_isHeard : kDec m5_isHeard kl_m5_isHeard := kDec_of (by decide +kernel)
def kl_m6_reduce : List (Nat × Instr × Nat × Nat) := [(0, .lload_n 3, 1, 1), (1, .lstore 5, 2, 3), (3, .lload_n 1, 1, 4), (4, .lstore 7, 2, 6), (6, .iconst 0, 1, 7), (7, .istore 9, 2, 9), (9, .iload 9, 2, 11), (11, .bipush 100, 2, 13), (13, .if_icmp .ge 31, 3, 16), (16, .lload 7, 2, 18), (18, .lconst 0, 1, 19), (19, .lcmp, 1, 20), (20, .ifCond .eq 24, 3, 23), (23, .lload 5, 2, 25), (25, .lload 7, 2, 27), (27, .lrem, 1, 28), (28, .lstore 10, 2, 30), (30, .lload 7, 2, 32), (32, .lstore 5, 2, 34), (34, .lload 10, 2, 36), (36, .lstore 7, 2, 38), (38, .iinc 9 1, 3, 41), (41, .goto (-32), 3, 44), (44, .aload_n 0, 1, 45), (45, .lload 5, 2, 47), (47, .lconst 0, 1, 48), (48, .lcmp, 1, 49), (49, .ifCond .ne 7, 3, 52), (52, .lload_n 1, 1, 53), (53, .goto 7, 3, 56), (56, .lload_n 1, 1, 57), (57, .lload 5, 2, 59), (59, .ldiv, 1, 60), (60, .putfield 7, 3, 63), (63, .aload_n 0, 1, 64), (64, .lload 5, 2, 66), (66, .lconst 0, 1, 67), (67, .lcmp, 1, 68), (68, .ifCond .ne 7, 3, 71), (71, .lload_n 3, 1, 72), (72, .goto 7, 3, 75), (75, .lload_n 3, 1, 76), (76, .lload 5, 2, 78), (78, .ldiv, 1, 79), (79, .putfield 13, 3, 82), (82, .return_, 1, 83)]
theorem kd_m6_reduce : kDec m6_reduce kl_m6_reduce := kDec_of (by decide +kernel)
def kl_m6_part : List (Nat × Instr × Nat × Nat) := [(0, .iload_n 1, 1, 1), (1, .ifCond .eq 10, 3, 4), (4, .aload_n 0, 1, 5), (5, .getfield 13, 3, 8), (8, .goto 7, 3, 11), (11, .aload_n 0, 1, 12), (12, .getfield 7, 3, 15), (15, .lreturn, 1, 16)]
theorem kd_m6_part : kDec m6_part kl_m6_part := kDec_of (by decide +kernel)
def kl_m7_read : List (Nat × Instr × Nat × Nat) := [(0, .aload_n 0, 1, 1), (1, .aload_n 2, 1, 2), (2, .putfield 22, 3, 5), (5, .aload_n 0, 1, 6), (6, .getfield 22, 3, 9), (9, .invokevirtual 26, 3, 12), (12, .aload_n 0, 1, 13), (13, .iload_n 1, 1, 14), (14, .aload_n 0, 1, 15), (15, .getfield 18, 3, 18), (18, .arraylength, 1, 19), (19, .invokestatic 31, 3, 22), (22, .putfield 37, 3, 25), (25, .aload_n 0, 1, 26), (26, .iconst 0, 1, 27), (27, .putfield 41, 3, 30), (30, .aload_n 0, 1, 31), (31, .iconst 0, 1, 32), (32, .putfield 44, 3, 35), (35, .aload_n 0, 1, 36), (36, .iconst 0, 1, 37), (37, .putfield 47, 3, 40), (40, .aload_n 0, 1, 41), (41, .invokevirtual 50, 3, 44), (44, .aload_n 0, 1, 45), (45, .invokevirtual 53, 3, 48), (48, .ifCond .ne 5, 3, 51), (51, .iconst 0, 1, 52), (52, .ireturn, 1, 53), (53, .iconst 1, 1, 54), (54, .istore_n 3, 1, 55), (55, .iload_n 3, 1, 56), (56, .sipush 900, 3, 59), (59, .if_icmp .ge 30, 3, 62), (62, .aload_n 0, 1, 63), (63, .getfield 57, 3, 66), (66, .iconst 3, 1, 67), (67, .if_icmp .ne 22, 3, 70), (70, .aload_n 0, 1, 71), (71, .invokevirtual 50, 3, 74), (74, .aload_n 0, 1, 75), (75, .invokevirtual 60, 3, 78), (78, .ifCond .ne 5, 3, 81), (81, .iconst 0, 1, 82), (82, .ireturn, 1, 83), (83, .iinc 3 1, 3, 86), (86, .goto (-31), 3, 89), (89, .aload_n 0, 1, 90), (90, .getfield 57, 3, 93), (93, .ifCond .eq 9, 3, 96), (96, .aload_n 0, 1, 97), (97, .iconst 1, 1, 98), (98, .invokevirtual 63, 3, 101), (101, .ireturn, 1, 102), (102, .aload_n 0, 1, 103), (103, .getfield 22, 3, 106), (106, .getfield 67, 3, 109), (109, .ifCond .gt 12, 3, 112), (112, .aload_n 0, 1, 113), (113, .bipush 6, 2, 115), (115, .invokevirtual 63, 3, 118), (118, .ifCond .eq 7, 3, 121), (121, .iconst 1, 1, 122), (122, .goto 4, 3, 125), (125, .iconst 0, 1, 126), (126, .ireturn, 1, 127)]
theorem kd_m7_read : kDec m7_read kl_m7_read := kDec_of (by decide +kernel)
def kl_m7_found : List (Nat × Instr × Nat × Nat) := [(0, .aload_n 0, 1, 1), (1, .iload_n 1, 1, 2), (2, .putfield 44, 3, 5), (5, .aload_n 0, 1, 6), (6, .aload_n 0, 1, 7), (7, .getfield 70, 3, 10), (10, .putfield 47, 3, 13), (13, .iconst 0, 1, 14), (14, .ireturn, 1, 15)]
theorem kd_m7_found : kDec m7_found kl_m7_found := kDec_of (by decide +kernel)
def kl_m7_next : List (Nat × Instr × Nat × Nat) := [(0, .aload_n 0, 1, 1), (1, .getfield 41, 3, 4), (4, .aload_n 0, 1, 5), (5, .getfield 37, 3, 8), (8, .if_icmp .ge 30, 3, 11), (11, .aload_n 0, 1, 12), (12, .getfield 18, 3, 15), (15, .aload_n 0, 1, 16), (16, .getfield 41, 3, 19), (19, .baload, 1, 20), (20, .bipush 32, 2, 22), (22, .if_icmp .ne 16, 3, 25), (25, .aload_n 0, 1, 26), (26, .dup, 1, 27), (27, .getfield 41, 3, 30), (30, .iconst 1, 1, 31), (31, .iadd, 1, 32), (32, .putfield 41, 3, 35), (35, .goto (-35), 3, 38), (38, .aload_n 0, 1, 39), (39, .aload_n 0, 1, 40), (40, .getfield 41, 3, 43), (43, .putfield 70, 3, 46), (46, .aload_n 0, 1, 47), (47, .getfield 41, 3, 50), (50, .aload_n 0, 1, 51), (51, .getfield 37, 3, 54), (54, .if_icmp .lt 11, 3, 57), (57, .aload_n 0, 1, 58), (58, .iconst 0, 1, 59), (59, .putfield 57, 3, 62), (62, .goto 80, 3, 65), (65, .aload_n 0, 1, 66), (66, .getfield 18, 3, 69), (69, .aload_n 0, 1, 70), (70, .getfield 41, 3, 73), (73, .baload, 1, 74), (74, .invokestatic 73, 3, 77), (77, .ifCond .eq 10, 3, 80), (80, .aload_n 0, 1, 81), (81, .invokevirtual 76, 3, 84), (84, .goto 58, 3, 87), (87, .aload_n 0, 1, 88), (88, .getfield 18, 3, 91), (91, .aload_n 0, 1, 92), (92, .getfield 41, 3, 95), (95, .baload, 1, 96), (96, .invokestatic 79, 3, 99), (99, .ifCond .eq 10, 3, 102), (102, .aload_n 0, 1, 103), (103, .invokevirtual 82, 3, 106), (106, .goto 36, 3, 109), (109, .aload_n 0, 1, 110), (110, .aload_n 0, 1, 111), (111, .getfield 18, 3, 114), (114, .aload_n 0, 1, 115), (115, .getfield 41, 3, 118), (118, .baload, 1, 119), (119, .bipush 59, 2, 121), (121, .if_icmp .ne 7, 3, 124), (124, .iconst 3, 1, 125), (125, .goto 4, 3, 128), (128, .iconst 4, 1, 129), (129, .putfield 57, 3, 132), (132, .aload_n 0, 1, 133), (133, .dup, 1, 134), (134, .getfield 41, 3, 137), (137, .iconst 1, 1, 138), (138, .iadd, 1, 139), (139, .putfield 41, 3, 142), (142, .return_, 1, 143)]
theorem kd_m7_next : kDec m7_next kl_m7_next := kDec_of (by decide +kernel)
def kl_m7_isLetter : List (Nat × Instr × Nat × Nat) := [(0, .iload_n 0, 1, 1), (1, .bipush 97, 2, 3), (3, .if_icmp .lt 13, 3, 6), (6, .iload_n 0, 1, 7), (7, .bipush 122, 2, 9), (9, .if_icmp .gt 7, 3, 12), (12, .iconst 1, 1, 13), (13, .goto 4, 3, 16), (16, .iconst 0, 1, 17), (17, .ireturn, 1, 18)]
theorem kd_m7_isLetter : kDec m7_isLetter kl_m7_isLetter := kDec_of (by decide +kernel)
def kl_m7_isDigit : List (Nat × Instr × Nat × Nat) := [(0, .iload_n 0, 1, 1), (1, .bipush 48, 2, 3), (3, .if_icmp .lt 13, 3, 6), (6, .iload_n 0, 1, 7), (7, .bipush 57, 2, 9), (9, .if_icmp .gt 7, 3, 12), (12, .iconst 1, 1, 13), (13, .goto 4, 3, 16), (16, .iconst 0, 1, 17), (17, .ireturn, 1, 18)]
theorem kd_m7_isDigit : kDec m7_isDigit kl_m7_isDigit := kDec_of (by decide +kernel)
def kl_m7_takeLetters : List (Nat × Instr × Nat × Nat) := [(0, .aload_n 0, 1, 1), (1, .getfield 41, 3, 4), (4, .aload_n 0, 1, 5), (5, .getfield 37, 3, 8), (8, .if_icmp .ge 31, 3, 11), (11, .aload_n 0, 1, 12), (12, .getfield 18, 3, 15), (15, .aload_n 0, 1, 16), (16, .getfield 41, 3, 19), (19, .baload, 1, 20), (20, .invokestatic 73, 3, 23), (23, .ifCond .eq 16, 3, 26), (26, .aload_n 0, 1, 27), (27, .dup, 1, 28), (28, .getfield 41, 3, 31), (31, .iconst 1, 1, 32), (32, .iadd, 1, 33), (33, .putfield 41, 3, 36), (36, .goto (-36), 3, 39), (39, .aload_n 0, 1, 40), (40, .aload_n 0, 1, 41), (41, .getfield 41, 3, 44), (44, .aload_n 0, 1, 45), (45, .getfield 70, 3, 48), (48, .isub, 1, 49), (49, .bipush 8, 2, 51), (51, .if_icmp .gt 7, 3, 54), (54, .iconst 1, 1, 55), (55, .goto 4, 3, 58), (58, .iconst 4, 1, 59), (59, .putfield 57, 3, 62), (62, .return_, 1, 63)]
theorem kd_m7_takeLetters : kDec m7_takeLetters kl_m7_takeLetters := kDec_of (by decide +kernel)
def kl_m7_takeDigits : List (Nat × Instr × Nat × Nat) := [(0, .aload_n 0, 1, 1), (1, .iconst 0, 1, 2), (2, .putfield 85, 3, 5), (5, .aload_n 0, 1, 6), (6, .getfield 41, 3, 9), (9, .aload_n 0, 1, 10), (10, .getfield 37, 3, 13), (13, .if_icmp .ge 55, 3, 16), (16, .aload_n 0, 1, 17), (17, .getfield 18, 3, 20), (20, .aload_n 0, 1, 21), (21, .getfield 41, 3, 24), (24, .baload, 1, 25), (25, .invokestatic 79, 3, 28), (28, .ifCond .eq 40, 3, 31), (31, .aload_n 0, 1, 32), (32, .aload_n 0, 1, 33), (33, .getfield 85, 3, 36), (36, .bipush 10, 2, 38), (38, .imul, 1, 39), (39, .aload_n 0, 1, 40), (40, .getfield 18, 3, 43), (43, .aload_n 0, 1, 44), (44, .getfield 41, 3, 47), (47, .baload, 1, 48), (48, .iadd, 1, 49), (49, .bipush 48, 2, 51), (51, .isub, 1, 52), (52, .putfield 85, 3, 55), (55, .aload_n 0, 1, 56), (56, .dup, 1, 57), (57, .getfield 41, 3, 60), (60, .iconst 1, 1, 61), (61, .iadd, 1, 62), (62, .putfield 41, 3, 65), (65, .goto (-60), 3, 68), (68, .aload_n 0, 1, 69), (69, .aload_n 0, 1, 70), (70, .getfield 41, 3, 73), (73, .aload_n 0, 1, 74), (74, .getfield 70, 3, 77), (77, .isub, 1, 78), (78, .iconst 3, 1, 79), (79, .if_icmp .gt 7, 3, 82), (82, .iconst 2, 1, 83), (83, .goto 4, 3, 86), (86, .iconst 4, 1, 87), (87, .putfield 57, 3, 90), (90, .return_, 1, 91)]
theorem kd_m7_takeDigits : kDec m7_takeDigits kl_m7_takeDigits := kDec_of (by decide +kernel)
def kl_m7_isWord : List (Nat × Instr × Nat × Nat) := [(0, .aload_n 0, 1, 1), (1, .getfield 57, 3, 4), (4, .iconst 1, 1, 5), (5, .if_icmp .ne 19, 3, 8), (8, .aload_n 0, 1, 9), (9, .getfield 41, 3, 12), (12, .aload_n 0, 1, 13), (13, .getfield 70, 3, 16), (16, .isub, 1, 17), (17, .aload_n 1, 1, 18), (18, .invokevirtual 88, 3, 21), (21, .if_icmp .eq 5, 3, 24), (24, .iconst 0, 1, 25), (25, .ireturn, 1, 26), (26, .iconst 0, 1, 27), (27, .istore_n 2, 1, 28), (28, .iload_n 2, 1, 29), (29, .aload_n 1, 1, 30), (30, .invokevirtual 88, 3, 33), (33, .if_icmp .ge 30, 3, 36), (36, .aload_n 0, 1, 37), (37, .getfield 18, 3, 40), (40, .aload_n 0, 1, 41), (41, .getfield 70, 3, 44), (44, .iload_n 2, 1, 45), (45, .iadd, 1, 46), (46, .baload, 1, 47), (47, .aload_n 1, 1, 48), (48, .iload_n 2, 1, 49), (49, .invokevirtual 94, 3, 52), (52, .if_icmp .eq 5, 3, 55), (55, .iconst 0, 1, 56), (56, .ireturn, 1, 57), (57, .iinc 2 1, 3, 60), (60, .goto (-32), 3, 63), (63, .iconst 1, 1, 64), (64, .ireturn, 1, 65)]
theorem kd_m7_isWord : kDec m7_isWord kl_m7_isWord := kDec_of (by decide +kernel)
def kl_m7_isHeadOfLine : List (Nat × Instr × Nat × Nat) := [(0, .aload_n 0, 1, 1), (1, .ldc 98, 2, 3), (3, .invokevirtual 99, 3, 6), (6, .ifCond .ne 48, 3, 9), (9, .aload_n 0, 1, 10), (10, .ldc 103, 2, 12), (12, .invokevirtual 99, 3, 15), (15, .ifCond .ne 39, 3, 18), (18, .aload_n 0, 1, 19), (19, .ldc 105, 2, 21), (21, .invokevirtual 99, 3, 24), (24, .ifCond .ne 30, 3, 27), (27, .aload_n 0, 1, 28), (28, .ldc 107, 2, 30), (30, .invokevirtual 99, 3, 33), (33, .ifCond .ne 21, 3, 36), (36, .aload_n 0, 1, 37), (37, .ldc 109, 2, 39), (39, .invokevirtual 99, 3, 42), (42, .ifCond .ne 12, 3, 45), (45, .aload_n 0, 1, 46), (46, .ldc 111, 2, 48), (48, .invokevirtual 99, 3, 51), (51, .ifCond .eq 7, 3, 54), (54, .iconst 1, 1, 55), (55, .goto 4, 3, 58), (58, .iconst 0, 1, 59), (59, .ireturn, 1, 60)]
theorem kd_m7_isHeadOfLine : kDec m7_isHeadOfLine kl_m7_isHeadOfLine := kDec_of (by decide +kernel)
def kl_m7_lawOfWord : List (Nat × Instr × Nat × Nat) := [(0, .aload_n 0, 1, 1), (1, .ldc 113, 2, 3), (3, .invokevirtual 99, 3, 6), (6, .ifCond .eq 5, 3, 9), (9, .iconst 0, 1, 10), (10, .ireturn, 1, 11), (11, .aload_n 0, 1, 12), (12, .ldc 117, 2, 14), (14, .invokevirtual 99, 3, 17), (17, .ifCond .eq 5, 3, 20), (20, .iconst 1, 1, 21), (21, .ireturn, 1, 22), (22, .aload_n 0, 1, 23), (23, .ldc 119, 2, 25), (25, .invokevirtual 99, 3, 28), (28, .ifCond .eq 5, 3, 31), (31, .iconst 2, 1, 32), (32, .ireturn, 1, 33), (33, .aload_n 0, 1, 34), (34, .ldc 121, 2, 36), (36, .invokevirtual 99, 3, 39), (39, .ifCond .eq 7, 3, 42), (42, .iconst 3, 1, 43), (43, .goto 4, 3, 46), (46, .iconst (-1), 1, 47), (47, .ireturn, 1, 48)]
theorem kd_m7_lawOfWord : kDec m7_lawOfWord kl_m7_lawOfWord := kDec_of (by decide +kernel)
def kl_m7_pairOfName : List (Nat × Instr × Nat × Nat) := [(0, .iconst 0, 1, 1), (1, .istore_n 1, 1, 2), (2, .iload_n 1, 1, 3), (3, .aload_n 0, 1, 4), (4, .getfield 22, 3, 7), (7, .getfield 67, 3, 10), (10, .if_icmp .ge 48, 3, 13), (13, .aload_n 0, 1, 14), (14, .getfield 15, 3, 17), (17, .iload_n 1, 1, 18), (18, .iaload, 1, 19), (19, .aload_n 0, 1, 20), (20, .getfield 41, 3, 23), (23, .aload_n 0, 1, 24), (24, .getfield 70, 3, 27), (27, .isub, 1, 28), (28, .if_icmp .ne 24, 3, 31), (31, .aload_n 0, 1, 32), (32, .aload_n 0, 1, 33), (33, .getfield 9, 3, 36), (36, .iload_n 1, 1, 37), (37, .iaload, 1, 38), (38, .aload_n 0, 1, 39), (39, .getfield 15, 3, 42), (42, .iload_n 1, 1, 43), (43, .iaload, 1, 44), (44, .invokevirtual 123, 3, 47), (47, .ifCond .eq 5, 3, 50), (50, .iload_n 1, 1, 51), (51, .ireturn, 1, 52), (52, .iinc 1 1, 3, 55), (55, .goto (-53), 3, 58), (58, .iconst (-1), 1, 59), (59, .ireturn, 1, 60)]
theorem kd_m7_pairOfName : kDec m7_pairOfName kl_m7_pairOfName := kDec_of (by decide +kernel)
def kl_m7_isSame : List (Nat × Instr × Nat × Nat) := [(0, .iconst 0, 1, 1), (1, .istore_n 3, 1, 2), (2, .iload_n 3, 1, 3), (3, .iload_n 2, 1, 4), (4, .if_icmp .ge 33, 3, 7), (7, .aload_n 0, 1, 8), (8, .getfield 18, 3, 11), (11, .iload_n 1, 1, 12), (12, .iload_n 3, 1, 13), (13, .iadd, 1, 14), (14, .baload, 1, 15), (15, .aload_n 0, 1, 16), (16, .getfield 18, 3, 19), (19, .aload_n 0, 1, 20), (20, .getfield 70, 3, 23), (23, .iload_n 3, 1, 24), (24, .iadd, 1, 25), (25, .baload, 1, 26), (26, .if_icmp .eq 5, 3, 29), (29, .iconst 0, 1, 30), (30, .ireturn, 1, 31), (31, .iinc 3 1, 3, 34), (34, .goto (-32), 3, 37), (37, .iconst 1, 1, 38), (38, .ireturn, 1, 39)]
theorem kd_m7_isSame : kDec m7_isSame kl_m7_isSame := kDec_of (by decide +kernel)
def kl_m7_takeWord : List (Nat × Instr × Nat × Nat) := [(0, .aload_n 0, 1, 1), (1, .aload_n 1, 1, 2), (2, .invokevirtual 99, 3, 5), (5, .ifCond .ne 9, 3, 8), (8, .aload_n 0, 1, 9), (9, .iconst 1, 1, 10), (10, .invokevirtual 63, 3, 13), (13, .ireturn, 1, 14), (14, .aload_n 0, 1, 15), (15, .invokevirtual 50, 3, 18), (18, .iconst 1, 1, 19), (19, .ireturn, 1, 20)]
theorem kd_m7_takeWord : kDec m7_takeWord kl_m7_takeWord := kDec_of (by decide +kernel)
def kl_m7_seesWhole : List (Nat × Instr × Nat × Nat) := [(0, .aload_n 0, 1, 1), (1, .getfield 57, 3, 4), (4, .iconst 2, 1, 5), (5, .if_icmp .eq 9, 3, 8), (8, .aload_n 0, 1, 9), (9, .iconst 1, 1, 10), (10, .invokevirtual 63, 3, 13), (13, .ireturn, 1, 14), (14, .aload_n 0, 1, 15), (15, .getfield 85, 3, 18), (18, .iload_n 1, 1, 19), (19, .if_icmp .lt 11, 3, 22), (22, .aload_n 0, 1, 23), (23, .getfield 85, 3, 26), (26, .iload_n 2, 1, 27), (27, .if_icmp .le 11, 3, 30), (30, .aload_n 0, 1, 31), (31, .iconst 4, 1, 32), (32, .invokevirtual 63, 3, 35), (35, .ifCond .eq 7, 3, 38), (38, .iconst 1, 1, 39), (39, .goto 4, 3, 42), (42, .iconst 0, 1, 43), (43, .ireturn, 1, 44)]
theorem kd_m7_seesWhole : kDec m7_seesWhole kl_m7_seesWhole := kDec_of (by decide +kernel)
def kl_m7_seenPair : List (Nat × Instr × Nat × Nat) := [(0, .aload_n 0, 1, 1), (1, .getfield 57, 3, 4), (4, .iconst 1, 1, 5), (5, .if_icmp .ne 10, 3, 8), (8, .aload_n 0, 1, 9), (9, .invokevirtual 127, 3, 12), (12, .ifCond .eq 11, 3, 15), (15, .aload_n 0, 1, 16), (16, .iconst 1, 1, 17), (17, .invokevirtual 63, 3, 20), (20, .pop, 1, 21), (21, .iconst (-1), 1, 22), (22, .ireturn, 1, 23), (23, .aload_n 0, 1, 24), (24, .invokevirtual 130, 3, 27), (27, .istore_n 1, 1, 28), (28, .iload_n 1, 1, 29), (29, .ifCond .ge 9, 3, 32), (32, .aload_n 0, 1, 33), (33, .iconst 2, 1, 34), (34, .invokevirtual 63, 3, 37), (37, .pop, 1, 38), (38, .iload_n 1, 1, 39), (39, .ireturn, 1, 40)]
theorem kd_m7_seenPair : kDec m7_seenPair kl_m7_seenPair := kDec_of (by decide +kernel)
def kl_m7_readHead : List (Nat × Instr × Nat × Nat) := [(0, .aload_n 0, 1, 1), (1, .ldc 98, 2, 3), (3, .invokevirtual 99, 3, 6), (6, .ifCond .ne 21, 3, 9), (9, .aload_n 0, 1, 10), (10, .aload_n 0, 1, 11), (11, .invokevirtual 127, 3, 14), (14, .ifCond .eq 8, 3, 17), (17, .bipush 6, 2, 19), (19, .goto 4, 3, 22), (22, .iconst 1, 1, 23), (23, .invokevirtual 63, 3, 26), (26, .ireturn, 1, 27), (27, .aload_n 0, 1, 28), (28, .invokevirtual 50, 3, 31), (31, .aload_n 0, 1, 32), (32, .ldc 133, 2, 34), (34, .invokevirtual 135, 3, 37), (37, .ifCond .eq 13, 3, 40), (40, .aload_n 0, 1, 41), (41, .iconst 2, 1, 42), (42, .bipush 99, 2, 44), (44, .invokevirtual 138, 3, 47), (47, .ifCond .ne 5, 3, 50), (50, .iconst 0, 1, 51), (51, .ireturn, 1, 52), (52, .aload_n 0, 1, 53), (53, .getfield 22, 3, 56), (56, .aload_n 0, 1, 57), (57, .getfield 85, 3, 60), (60, .putfield 141, 3, 63), (63, .aload_n 0, 1, 64), (64, .invokevirtual 50, 3, 67), (67, .aload_n 0, 1, 68), (68, .ldc 143, 2, 70), (70, .invokevirtual 135, 3, 73), (73, .ifCond .eq 13, 3, 76), (76, .aload_n 0, 1, 77), (77, .iconst 0, 1, 78), (78, .bipush 100, 2, 80), (80, .invokevirtual 138, 3, 83), (83, .ifCond .ne 5, 3, 86), (86, .iconst 0, 1, 87), (87, .ireturn, 1, 88), (88, .aload_n 0, 1, 89), (89, .getfield 22, 3, 92), (92, .aload_n 0, 1, 93), (93, .getfield 85, 3, 96), (96, .putfield 145, 3, 99), (99, .aload_n 0, 1, 100), (100, .invokevirtual 50, 3, 103), (103, .iconst 1, 1, 104), (104, .ireturn, 1, 105)]
theorem kd_m7_readHead : kDec m7_readHead kl_m7_readHead := kDec_of (by decide +kernel)
def kl_m7_readLine : List (Nat × Instr × Nat × Nat) := [(0, .aload_n 0, 1, 1), (1, .ldc 103, 2, 3), (3, .invokevirtual 99, 3, 6), (6, .ifCond .eq 8, 3, 9), (9, .aload_n 0, 1, 10), (10, .invokevirtual 147, 3, 13), (13, .ireturn, 1, 14), (14, .aload_n 0, 1, 15), (15, .ldc 105, 2, 17), (17, .invokevirtual 99, 3, 20), (20, .ifCond .eq 8, 3, 23), (23, .aload_n 0, 1, 24), (24, .invokevirtual 150, 3, 27), (27, .ireturn, 1, 28), (28, .aload_n 0, 1, 29), (29, .ldc 107, 2, 31), (31, .invokevirtual 99, 3, 34), (34, .ifCond .eq 8, 3, 37), (37, .aload_n 0, 1, 38), (38, .invokevirtual 153, 3, 41), (41, .ireturn, 1, 42), (42, .aload_n 0, 1, 43), (43, .ldc 109, 2, 45), (45, .invokevirtual 99, 3, 48), (48, .ifCond .eq 8, 3, 51), (51, .aload_n 0, 1, 52), (52, .invokevirtual 156, 3, 55), (55, .ireturn, 1, 56), (56, .aload_n 0, 1, 57), (57, .ldc 111, 2, 59), (59, .invokevirtual 99, 3, 62), (62, .ifCond .eq 8, 3, 65), (65, .aload_n 0, 1, 66), (66, .invokevirtual 159, 3, 69), (69, .ireturn, 1, 70), (70, .aload_n 0, 1, 71), (71, .aload_n 0, 1, 72), (72, .ldc 98, 2, 74), (74, .invokevirtual 99, 3, 77), (77, .ifCond .eq 7, 3, 80), (80, .iconst 3, 1, 81), (81, .goto 4, 3, 84), (84, .iconst 1, 1, 85), (85, .invokevirtual 63, 3, 88), (88, .ireturn, 1, 89)]
theorem kd_m7_readLine : kDec m7_readLine kl_m7_readLine := kDec_of (by decide +kernel)
def kl_m7_readPair : List (Nat × Instr × Nat × Nat) := [(0, .aload_n 0, 1, 1), (1, .getfield 22, 3, 4), (4, .getfield 67, 3, 7), (7, .istore_n 1, 1, 8), (8, .iload_n 1, 1, 9), (9, .iconst 5, 1, 10), (10, .if_icmp .lt 9, 3, 13), (13, .aload_n 0, 1, 14), (14, .iconst 5, 1, 15), (15, .invokevirtual 63, 3, 18), (18, .ireturn, 1, 19), (19, .aload_n 0, 1, 20), (20, .invokevirtual 50, 3, 23), (23, .aload_n 0, 1, 24), (24, .getfield 57, 3, 27), (27, .iconst 1, 1, 28), (28, .if_icmp .ne 10, 3, 31), (31, .aload_n 0, 1, 32), (32, .invokevirtual 127, 3, 35), (35, .ifCond .eq 9, 3, 38), (38, .aload_n 0, 1, 39), (39, .iconst 1, 1, 40), (40, .invokevirtual 63, 3, 43), (43, .ireturn, 1, 44), (44, .aload_n 0, 1, 45), (45, .invokevirtual 130, 3, 48), (48, .ifCond .lt 9, 3, 51), (51, .aload_n 0, 1, 52), (52, .iconst 3, 1, 53), (53, .invokevirtual 63, 3, 56), (56, .ireturn, 1, 57), (57, .aload_n 0, 1, 58), (58, .getfield 9, 3, 61), (61, .iload_n 1, 1, 62), (62, .aload_n 0, 1, 63), (63, .getfield 70, 3, 66), (66, .iastore, 1, 67), (67, .aload_n 0, 1, 68), (68, .getfield 15, 3, 71), (71, .iload_n 1, 1, 72), (72, .aload_n 0, 1, 73), (73, .getfield 41, 3, 76), (76, .aload_n 0, 1, 77), (77, .getfield 70, 3, 80), (80, .isub, 1, 81), (81, .iastore, 1, 82), (82, .aload_n 0, 1, 83), (83, .invokevirtual 50, 3, 86), (86, .aload_n 0, 1, 87), (87, .getfield 22, 3, 90), (90, .getfield 162, 3, 93), (93, .iload_n 1, 1, 94), (94, .aload_n 0, 1, 95), (95, .invokevirtual 165, 3, 98), (98, .iastore, 1, 99), (99, .aload_n 0, 1, 100), (100, .getfield 22, 3, 103), (103, .getfield 162, 3, 106), (106, .iload_n 1, 1, 107), (107, .iaload, 1, 108), (108, .ifCond .ge 9, 3, 111), (111, .aload_n 0, 1, 112), (112, .iconst 1, 1, 113), (113, .invokevirtual 63, 3, 116), (116, .ireturn, 1, 117), (117, .aload_n 0, 1, 118), (118, .invokevirtual 50, 3, 121), (121, .aload_n 0, 1, 122), (122, .ldc 168, 2, 124), (124, .invokevirtual 135, 3, 127), (127, .ifCond .eq 18, 3, 130), (130, .aload_n 0, 1, 131), (131, .iconst 0, 1, 132), (132, .aload_n 0, 1, 133), (133, .getfield 22, 3, 136), (136, .getfield 141, 3, 139), (139, .invokevirtual 138, 3, 142), (142, .ifCond .ne 5, 3, 145), (145, .iconst 0, 1, 146), (146, .ireturn, 1, 147), (147, .aload_n 0, 1, 148), (148, .getfield 22, 3, 151), (151, .getfield 170, 3, 154), (154, .iload_n 1, 1, 155), (155, .aload_n 0, 1, 156), (156, .getfield 85, 3, 159), (159, .iastore, 1, 160), (160, .aload_n 0, 1, 161), (161, .invokevirtual 50, 3, 164), (164, .aload_n 0, 1, 165), (165, .ldc 173, 2, 167), (167, .invokevirtual 135, 3, 170), (170, .ifCond .eq 13, 3, 173), (173, .aload_n 0, 1, 174), (174, .iconst 0, 1, 175), (175, .bipush 20, 2, 177), (177, .invokevirtual 138, 3, 180), (180, .ifCond .ne 5, 3, 183), (183, .iconst 0, 1, 184), (184, .ireturn, 1, 185), (185, .aload_n 0, 1, 186), (186, .getfield 22, 3, 189), (189, .getfield 175, 3, 192), (192, .iload_n 1, 1, 193), (193, .aload_n 0, 1, 194), (194, .getfield 85, 3, 197), (197, .iastore, 1, 198), (198, .aload_n 0, 1, 199), (199, .getfield 22, 3, 202), (202, .dup, 1, 203), (203, .getfield 67, 3, 206), (206, .iconst 1, 1, 207), (207, .iadd, 1, 208), (208, .putfield 67, 3, 211), (211, .aload_n 0, 1, 212), (212, .invokevirtual 50, 3, 215), (215, .iconst 1, 1, 216), (216, .ireturn, 1, 217)]
theorem kd_m7_readPair : kDec m7_readPair kl_m7_readPair := kDec_of (by decide +kernel)
def kl_m7_readContract : List (Nat × Instr × Nat × Nat) := [(0, .aload_n 0, 1, 1), (1, .invokevirtual 50, 3, 4), (4, .aload_n 0, 1, 5), (5, .invokevirtual 178, 3, 8), (8, .istore_n 1, 1, 9), (9, .iload_n 1, 1, 10), (10, .ifCond .ge 5, 3, 13), (13, .iconst 0, 1, 14), (14, .ireturn, 1, 15), (15, .aload_n 0, 1, 16), (16, .getfield 22, 3, 19), (19, .getfield 181, 3, 22), (22, .iload_n 1, 1, 23), (23, .iaload, 1, 24), (24, .ifCond .eq 9, 3, 27), (27, .aload_n 0, 1, 28), (28, .iconst 3, 1, 29), (29, .invokevirtual 63, 3, 32), (32, .ireturn, 1, 33), (33, .aload_n 0, 1, 34), (34, .invokevirtual 50, 3, 37), (37, .aload_n 0, 1, 38), (38, .ldc 184, 2, 40), (40, .invokevirtual 135, 3, 43), (43, .ifCond .eq 13, 3, 46), (46, .aload_n 0, 1, 47), (47, .iconst 1, 1, 48), (48, .bipush 9, 2, 50), (50, .invokevirtual 138, 3, 53), (53, .ifCond .ne 5, 3, 56), (56, .iconst 0, 1, 57), (57, .ireturn, 1, 58), (58, .aload_n 0, 1, 59), (59, .getfield 22, 3, 62), (62, .getfield 181, 3, 65), (65, .iload_n 1, 1, 66), (66, .aload_n 0, 1, 67), (67, .getfield 85, 3, 70), (70, .iastore, 1, 71), (71, .aload_n 0, 1, 72), (72, .getfield 22, 3, 75), (75, .dup, 1, 76), (76, .getfield 186, 3, 79), (79, .iconst 1, 1, 80), (80, .iadd, 1, 81), (81, .putfield 186, 3, 84), (84, .aload_n 0, 1, 85), (85, .invokevirtual 50, 3, 88), (88, .iconst 1, 1, 89), (89, .ireturn, 1, 90)]
theorem kd_m7_readContract : kDec m7_readContract kl_m7_readContract := kDec_of (by decide +kernel)
def kl_m7_readDebt : List (Nat × Instr × Nat × Nat) := [(0, .aload_n 0, 1, 1), (1, .getfield 22, 3, 4), (4, .getfield 189, 3, 7), (7, .bipush 10, 2, 9), (9, .if_icmp .lt 9, 3, 12), (12, .aload_n 0, 1, 13), (13, .iconst 5, 1, 14), (14, .invokevirtual 63, 3, 17), (17, .ireturn, 1, 18), (18, .aload_n 0, 1, 19), (19, .invokevirtual 50, 3, 22), (22, .aload_n 0, 1, 23), (23, .invokevirtual 178, 3, 26), (26, .istore_n 1, 1, 27), (27, .iload_n 1, 1, 28), (28, .ifCond .ge 5, 3, 31), (31, .iconst 0, 1, 32), (32, .ireturn, 1, 33), (33, .aload_n 0, 1, 34), (34, .invokevirtual 50, 3, 37), (37, .aload_n 0, 1, 38), (38, .invokevirtual 178, 3, 41), (41, .istore_n 2, 1, 42), (42, .iload_n 2, 1, 43), (43, .ifCond .ge 5, 3, 46), (46, .iconst 0, 1, 47), (47, .ireturn, 1, 48), (48, .iload_n 2, 1, 49), (49, .iload_n 1, 1, 50), (50, .if_icmp .eq 19, 3, 53), (53, .aload_n 0, 1, 54), (54, .getfield 22, 3, 57), (57, .getfield 192, 3, 60), (60, .iload_n 1, 1, 61), (61, .iconst 5, 1, 62), (62, .imul, 1, 63), (63, .iload_n 2, 1, 64), (64, .iadd, 1, 65), (65, .iaload, 1, 66), (66, .ifCond .eq 9, 3, 69), (69, .aload_n 0, 1, 70), (70, .iconst 3, 1, 71), (71, .invokevirtual 63, 3, 74), (74, .ireturn, 1, 75), (75, .aload_n 0, 1, 76), (76, .invokevirtual 50, 3, 79), (79, .aload_n 0, 1, 80), (80, .iconst 1, 1, 81), (81, .bipush 99, 2, 83), (83, .invokevirtual 138, 3, 86), (86, .ifCond .ne 5, 3, 89), (89, .iconst 0, 1, 90), (90, .ireturn, 1, 91), (91, .aload_n 0, 1, 92), (92, .getfield 22, 3, 95), (95, .getfield 192, 3, 98), (98, .iload_n 1, 1, 99), (99, .iconst 5, 1, 100), (100, .imul, 1, 101), (101, .iload_n 2, 1, 102), (102, .iadd, 1, 103), (103, .aload_n 0, 1, 104), (104, .getfield 85, 3, 107), (107, .iastore, 1, 108), (108, .aload_n 0, 1, 109), (109, .getfield 22, 3, 112), (112, .dup, 1, 113), (113, .getfield 189, 3, 116), (116, .iconst 1, 1, 117), (117, .iadd, 1, 118), (118, .putfield 189, 3, 121), (121, .aload_n 0, 1, 122), (122, .invokevirtual 50, 3, 125), (125, .iconst 1, 1, 126), (126, .ireturn, 1, 127)]
theorem kd_m7_readDebt : kDec m7_readDebt kl_m7_readDebt := kDec_of (by decide +kernel)
def kl_m7_readUnsure : List (Nat × Instr × Nat × Nat) := [(0, .aload_n 0, 1, 1), (1, .getfield 22, 3, 4), (4, .getfield 195, 3, 7), (7, .istore_n 1, 1, 8), (8, .iload_n 1, 1, 9), (9, .iconst 4, 1, 10), (10, .if_icmp .lt 9, 3, 13), (13, .aload_n 0, 1, 14), (14, .iconst 5, 1, 15), (15, .invokevirtual 63, 3, 18), (18, .ireturn, 1, 19), (19, .aload_n 0, 1, 20), (20, .invokevirtual 50, 3, 23), (23, .aload_n 0, 1, 24), (24, .invokevirtual 178, 3, 27), (27, .istore_n 2, 1, 28), (28, .iload_n 2, 1, 29), (29, .ifCond .ge 5, 3, 32), (32, .iconst 0, 1, 33), (33, .ireturn, 1, 34), (34, .aload_n 0, 1, 35), (35, .getfield 22, 3, 38), (38, .iload_n 2, 1, 39), (39, .invokevirtual 198, 3, 42), (42, .ifCond .eq 9, 3, 45), (45, .aload_n 0, 1, 46), (46, .iconst 3, 1, 47), (47, .invokevirtual 63, 3, 50), (50, .ireturn, 1, 51), (51, .aload_n 0, 1, 52), (52, .invokevirtual 50, 3, 55), (55, .aload_n 0, 1, 56), (56, .iconst 0, 1, 57), (57, .bipush 20, 2, 59), (59, .invokevirtual 138, 3, 62), (62, .ifCond .ne 5, 3, 65), (65, .iconst 0, 1, 66), (66, .ireturn, 1, 67), (67, .aload_n 0, 1, 68), (68, .getfield 22, 3, 71), (71, .getfield 201, 3, 74), (74, .iload_n 1, 1, 75), (75, .iload_n 2, 1, 76), (76, .iastore, 1, 77), (77, .aload_n 0, 1, 78), (78, .getfield 22, 3, 81), (81, .getfield 204, 3, 84), (84, .iload_n 1, 1, 85), (85, .aload_n 0, 1, 86), (86, .getfield 85, 3, 89), (89, .iastore, 1, 90), (90, .aload_n 0, 1, 91), (91, .getfield 22, 3, 94), (94, .dup, 1, 95), (95, .getfield 195, 3, 98), (98, .iconst 1, 1, 99), (99, .iadd, 1, 100), (100, .putfield 195, 3, 103), (103, .aload_n 0, 1, 104), (104, .invokevirtual 50, 3, 107), (107, .iconst 1, 1, 108), (108, .ireturn, 1, 109)]
theorem kd_m7_readUnsure : kDec m7_readUnsure kl_m7_readUnsure := kDec_of (by decide +kernel)
def kl_m7_readHeard : List (Nat × Instr × Nat × Nat) := [(0, .aload_n 0, 1, 1), (1, .getfield 22, 3, 4), (4, .getfield 207, 3, 7), (7, .istore_n 1, 1, 8), (8, .iload_n 1, 1, 9), (9, .bipush 8, 2, 11), (11, .if_icmp .lt 9, 3, 14), (14, .aload_n 0, 1, 15), (15, .iconst 5, 1, 16), (16, .invokevirtual 63, 3, 19), (19, .ireturn, 1, 20), (20, .aload_n 0, 1, 21), (21, .invokevirtual 50, 3, 24), (24, .aload_n 0, 1, 25), (25, .invokevirtual 178, 3, 28), (28, .istore_n 2, 1, 29), (29, .iload_n 2, 1, 30), (30, .ifCond .ge 5, 3, 33), (33, .iconst 0, 1, 34), (34, .ireturn, 1, 35), (35, .aload_n 0, 1, 36), (36, .invokevirtual 50, 3, 39), (39, .aload_n 0, 1, 40), (40, .ldc 210, 2, 42), (42, .invokevirtual 135, 3, 45), (45, .ifCond .eq 13, 3, 48), (48, .aload_n 0, 1, 49), (49, .iconst 1, 1, 50), (50, .bipush 30, 2, 52), (52, .invokevirtual 138, 3, 55), (55, .ifCond .ne 5, 3, 58), (58, .iconst 0, 1, 59), (59, .ireturn, 1, 60), (60, .aload_n 0, 1, 61), (61, .getfield 22, 3, 64), (64, .iload_n 2, 1, 65), (65, .aload_n 0, 1, 66), (66, .getfield 85, 3, 69), (69, .invokevirtual 212, 3, 72), (72, .ifCond .eq 9, 3, 75), (75, .aload_n 0, 1, 76), (76, .iconst 3, 1, 77), (77, .invokevirtual 63, 3, 80), (80, .ireturn, 1, 81), (81, .aload_n 0, 1, 82), (82, .getfield 22, 3, 85), (85, .getfield 215, 3, 88), (88, .iload_n 1, 1, 89), (89, .iload_n 2, 1, 90), (90, .iastore, 1, 91), (91, .aload_n 0, 1, 92), (92, .getfield 22, 3, 95), (95, .getfield 218, 3, 98), (98, .iload_n 1, 1, 99), (99, .aload_n 0, 1, 100), (100, .getfield 85, 3, 103), (103, .iastore, 1, 104), (104, .aload_n 0, 1, 105), (105, .invokevirtual 50, 3, 108), (108, .aload_n 0, 1, 109), (109, .ldc 168, 2, 111), (111, .invokevirtual 135, 3, 114), (114, .ifCond .eq 18, 3, 117), (117, .aload_n 0, 1, 118), (118, .iconst 0, 1, 119), (119, .aload_n 0, 1, 120), (120, .getfield 22, 3, 123), (123, .getfield 141, 3, 126), (126, .invokevirtual 138, 3, 129), (129, .ifCond .ne 5, 3, 132), (132, .iconst 0, 1, 133), (133, .ireturn, 1, 134), (134, .aload_n 0, 1, 135), (135, .getfield 22, 3, 138), (138, .getfield 221, 3, 141), (141, .iload_n 1, 1, 142), (142, .aload_n 0, 1, 143), (143, .getfield 85, 3, 146), (146, .iastore, 1, 147), (147, .aload_n 0, 1, 148), (148, .getfield 22, 3, 151), (151, .dup, 1, 152), (152, .getfield 207, 3, 155), (155, .iconst 1, 1, 156), (156, .iadd, 1, 157), (157, .putfield 207, 3, 160), (160, .aload_n 0, 1, 161), (161, .invokevirtual 50, 3, 164), (164, .iconst 1, 1, 165), (165, .ireturn, 1, 166)]
theorem kd_m7_readHeard : kDec m7_readHeard kl_m7_readHeard := kDec_of (by decide +kernel)
def kl_m8_follow : List (Nat × Instr × Nat × Nat) := [(0, .aload_n 0, 1, 1), (1, .getfield 11, 3, 4), (4, .iconst (-1), 1, 5), (5, .invokestatic 18, 3, 8), (8, .iconst 0, 1, 9), (9, .istore_n 2, 1, 10), (10, .aload_n 1, 1, 11), (11, .invokestatic 24, 3, 14), (14, .istore_n 3, 1, 15), (15, .iload_n 2, 1, 16), (16, .sipush 900, 3, 19), (19, .if_icmp .ge 44, 3, 22), (22, .aload_n 0, 1, 23), (23, .getfield 11, 3, 26), (26, .iload_n 3, 1, 27), (27, .iaload, 1, 28), (28, .ifCond .ge 35, 3, 31), (31, .aload_n 0, 1, 32), (32, .getfield 11, 3, 35), (35, .iload_n 3, 1, 36), (36, .iload_n 2, 1, 37), (37, .iastore, 1, 38), (38, .aload_n 0, 1, 39), (39, .getfield 15, 3, 42), (42, .iload_n 2, 1, 43), (43, .aload_n 1, 1, 44), (44, .getfield 28, 3, 47), (47, .iastore, 1, 48), (48, .iinc 2 1, 3, 51), (51, .aload_n 1, 1, 52), (52, .invokevirtual 34, 3, 55), (55, .aload_n 1, 1, 56), (56, .invokestatic 24, 3, 59), (59, .istore_n 3, 1, 60), (60, .goto (-45), 3, 63), (63, .aload_n 0, 1, 64), (64, .iconst 0, 1, 65), (65, .aload_n 0, 1, 66), (66, .getfield 11, 3, 69), (69, .iload_n 3, 1, 70), (70, .iaload, 1, 71), (71, .invokestatic 37, 3, 74), (74, .putfield 43, 3, 77), (77, .aload_n 0, 1, 78), (78, .iconst 1, 1, 79), (79, .iload_n 2, 1, 80), (80, .aload_n 0, 1, 81), (81, .getfield 43, 3, 84), (84, .isub, 1, 85), (85, .invokestatic 37, 3, 88), (88, .putfield 46, 3, 91), (91, .aload_n 0, 1, 92), (92, .invokevirtual 49, 3, 95), (95, .aload_n 0, 1, 96), (96, .getfield 43, 3, 99), (99, .ifCond .le 46, 3, 102), (102, .aload_n 0, 1, 103), (103, .getfield 15, 3, 106), (106, .aload_n 0, 1, 107), (107, .getfield 43, 3, 110), (110, .iconst 1, 1, 111), (111, .isub, 1, 112), (112, .iaload, 1, 113), (113, .aload_n 0, 1, 114), (114, .getfield 15, 3, 117), (117, .aload_n 0, 1, 118), (118, .getfield 43, 3, 121), (121, .iconst 1, 1, 122), (122, .isub, 1, 123), (123, .aload_n 0, 1, 124), (124, .getfield 46, 3, 127), (127, .iadd, 1, 128), (128, .iaload, 1, 129), (129, .if_icmp .ne 16, 3, 132), (132, .aload_n 0, 1, 133), (133, .dup, 1, 134), (134, .getfield 43, 3, 137), (137, .iconst 1, 1, 138), (138, .isub, 1, 139), (139, .putfield 43, 3, 142), (142, .goto (-47), 3, 145), (145, .return_, 1, 146)]
theorem kd_m8_follow : kDec m8_follow kl_m8_follow := kDec_of (by decide +kernel)
def kl_m8_stateOf : List (Nat × Instr × Nat × Nat) := [(0, .iconst 1, 1, 1), (1, .aload_n 0, 1, 2), (2, .getfield 52, 3, 5), (5, .invokestatic 37, 3, 8), (8, .istore_n 1, 1, 9), (9, .aload_n 0, 1, 10), (10, .getfield 28, 3, 13), (13, .iload_n 1, 1, 14), (14, .imul, 1, 15), (15, .aload_n 0, 1, 16), (16, .getfield 55, 3, 19), (19, .iload_n 1, 1, 20), (20, .irem, 1, 21), (21, .iadd, 1, 22), (22, .istore_n 2, 1, 23), (23, .iconst 0, 1, 24), (24, .sipush 899, 3, 27), (27, .iload_n 2, 1, 28), (28, .invokestatic 58, 3, 31), (31, .invokestatic 37, 3, 34), (34, .ireturn, 1, 35)]
theorem kd_m8_stateOf : kDec m8_stateOf kl_m8_stateOf := kDec_of (by decide +kernel)
def kl_m8_shortenRound : List (Nat × Instr × Nat × Nat) := [(0, .iconst 1, 1, 1), (1, .istore_n 1, 1, 2), (2, .iload_n 1, 1, 3), (3, .aload_n 0, 1, 4), (4, .getfield 46, 3, 7), (7, .if_icmp .ge 31, 3, 10), (10, .aload_n 0, 1, 11), (11, .getfield 46, 3, 14), (14, .iload_n 1, 1, 15), (15, .irem, 1, 16), (16, .ifCond .ne 16, 3, 19), (19, .aload_n 0, 1, 20), (20, .iload_n 1, 1, 21), (21, .invokevirtual 61, 3, 24), (24, .ifCond .eq 8, 3, 27), (27, .aload_n 0, 1, 28), (28, .iload_n 1, 1, 29), (29, .putfield 46, 3, 32), (32, .iinc 1 1, 3, 35), (35, .goto (-33), 3, 38), (38, .return_, 1, 39)]
theorem kd_m8_shortenRound : kDec m8_shortenRound kl_m8_shortenRound := kDec_of (by decide +kernel)
def kl_m8_comesAgainBehind : List (Nat × Instr × Nat × Nat) := [(0, .aload_n 0, 1, 1), (1, .getfield 43, 3, 4), (4, .istore_n 2, 1, 5), (5, .iload_n 2, 1, 6), (6, .iload_n 1, 1, 7), (7, .iadd, 1, 8), (8, .aload_n 0, 1, 9), (9, .getfield 43, 3, 12), (12, .aload_n 0, 1, 13), (13, .getfield 46, 3, 16), (16, .iadd, 1, 17), (17, .if_icmp .ge 28, 3, 20), (20, .aload_n 0, 1, 21), (21, .getfield 15, 3, 24), (24, .iload_n 2, 1, 25), (25, .iaload, 1, 26), (26, .aload_n 0, 1, 27), (27, .getfield 15, 3, 30), (30, .iload_n 2, 1, 31), (31, .iload_n 1, 1, 32), (32, .iadd, 1, 33), (33, .iaload, 1, 34), (34, .if_icmp .eq 5, 3, 37), (37, .iconst 0, 1, 38), (38, .ireturn, 1, 39), (39, .iinc 2 1, 3, 42), (42, .goto (-37), 3, 45), (45, .iconst 1, 1, 46), (46, .ireturn, 1, 47)]
theorem kd_m8_comesAgainBehind : kDec m8_comesAgainBehind kl_m8_comesAgainBehind := kDec_of (by decide +kernel)
def kl_m8_saying : List (Nat × Instr × Nat × Nat) := [(0, .iload_n 1, 1, 1), (1, .aload_n 0, 1, 2), (2, .getfield 43, 3, 5), (5, .if_icmp .ge 10, 3, 8), (8, .aload_n 0, 1, 9), (9, .getfield 15, 3, 12), (12, .iload_n 1, 1, 13), (13, .iaload, 1, 14), (14, .ireturn, 1, 15), (15, .aload_n 0, 1, 16), (16, .getfield 15, 3, 19), (19, .aload_n 0, 1, 20), (20, .getfield 43, 3, 23), (23, .iload_n 1, 1, 24), (24, .aload_n 0, 1, 25), (25, .getfield 43, 3, 28), (28, .isub, 1, 29), (29, .aload_n 0, 1, 30), (30, .getfield 46, 3, 33), (33, .irem, 1, 34), (34, .iadd, 1, 35), (35, .iaload, 1, 36), (36, .ireturn, 1, 37)]
theorem kd_m8_saying : kDec m8_saying kl_m8_saying := kDec_of (by decide +kernel)
def kl_m8_most : List (Nat × Instr × Nat × Nat) := [(0, .aload_n 0, 1, 1), (1, .getfield 15, 3, 4), (4, .aload_n 0, 1, 5), (5, .getfield 43, 3, 8), (8, .iaload, 1, 9), (9, .istore_n 1, 1, 10), (10, .aload_n 0, 1, 11), (11, .getfield 43, 3, 14), (14, .istore_n 2, 1, 15), (15, .iload_n 2, 1, 16), (16, .aload_n 0, 1, 17), (17, .getfield 43, 3, 20), (20, .aload_n 0, 1, 21), (21, .getfield 46, 3, 24), (24, .iadd, 1, 25), (25, .if_icmp .ge 20, 3, 28), (28, .iload_n 1, 1, 29), (29, .aload_n 0, 1, 30), (30, .getfield 15, 3, 33), (33, .iload_n 2, 1, 34), (34, .iaload, 1, 35), (35, .invokestatic 37, 3, 38), (38, .istore_n 1, 1, 39), (39, .iinc 2 1, 3, 42), (42, .goto (-27), 3, 45), (45, .iload_n 1, 1, 46), (46, .ireturn, 1, 47)]
theorem kd_m8_most : kDec m8_most kl_m8_most := kDec_of (by decide +kernel)
def kl_m8_least : List (Nat × Instr × Nat × Nat) := [(0, .aload_n 0, 1, 1), (1, .getfield 15, 3, 4), (4, .aload_n 0, 1, 5), (5, .getfield 43, 3, 8), (8, .iaload, 1, 9), (9, .istore_n 1, 1, 10), (10, .aload_n 0, 1, 11), (11, .getfield 43, 3, 14), (14, .istore_n 2, 1, 15), (15, .iload_n 2, 1, 16), (16, .aload_n 0, 1, 17), (17, .getfield 43, 3, 20), (20, .aload_n 0, 1, 21), (21, .getfield 46, 3, 24), (24, .iadd, 1, 25), (25, .if_icmp .ge 20, 3, 28), (28, .iload_n 1, 1, 29), (29, .aload_n 0, 1, 30), (30, .getfield 15, 3, 33), (33, .iload_n 2, 1, 34), (34, .iaload, 1, 35), (35, .invokestatic 58, 3, 38), (38, .istore_n 1, 1, 39), (39, .iinc 2 1, 3, 42), (42, .goto (-27), 3, 45), (45, .iload_n 1, 1, 46), (46, .ireturn, 1, 47)]
theorem kd_m8_least : kDec m8_least kl_m8_least := kDec_of (by decide +kernel)
def kl_m9_begin : List (Nat × Instr × Nat × Nat) := [(0, .aload_n 0, 1, 1), (1, .aload_n 1, 1, 2), (2, .iload_n 3, 1, 3), (3, .invokevirtual 7, 3, 6), (6, .aload_n 0, 1, 7), (7, .aload_n 2, 1, 8), (8, .getfield 13, 3, 11), (11, .iload_n 3, 1, 12), (12, .iaload, 1, 13), (13, .putfield 19, 3, 16), (16, .aload_n 0, 1, 17), (17, .aload_n 2, 1, 18), (18, .getfield 23, 3, 21), (21, .iload_n 3, 1, 22), (22, .iaload, 1, 23), (23, .putfield 26, 3, 26), (26, .aload_n 0, 1, 27), (27, .aload_n 2, 1, 28), (28, .getfield 29, 3, 31), (31, .putfield 32, 3, 34), (34, .return_, 1, 35)]
theorem kd_m9_begin : kDec m9_begin kl_m9_begin := kDec_of (by decide +kernel)
def kl_m9_beginAsTold : List (Nat × Instr × Nat × Nat) := [(0, .aload_n 0, 1, 1), (1, .aload_n 1, 1, 2), (2, .getfield 33, 3, 5), (5, .putfield 38, 3, 8), (8, .aload_n 0, 1, 9), (9, .aload_n 1, 1, 10), (10, .getfield 39, 3, 13), (13, .iload_n 2, 1, 14), (14, .iaload, 1, 15), (15, .putfield 42, 3, 18), (18, .aload_n 0, 1, 19), (19, .aload_n 1, 1, 20), (20, .getfield 45, 3, 23), (23, .iload_n 2, 1, 24), (24, .iaload, 1, 25), (25, .putfield 19, 3, 28), (28, .aload_n 0, 1, 29), (29, .aload_n 1, 1, 30), (30, .getfield 46, 3, 33), (33, .iload_n 2, 1, 34), (34, .iaload, 1, 35), (35, .putfield 49, 3, 38), (38, .aload_n 0, 1, 39), (39, .aload_n 1, 1, 40), (40, .getfield 52, 3, 43), (43, .iload_n 2, 1, 44), (44, .iaload, 1, 45), (45, .putfield 26, 3, 48), (48, .aload_n 0, 1, 49), (49, .iconst 0, 1, 50), (50, .putfield 32, 3, 53), (53, .return_, 1, 54)]
theorem kd_m9_beginAsTold : kDec m9_beginAsTold kl_m9_beginAsTold := kDec_of (by decide +kernel)
def kl_m9_go : List (Nat × Instr × Nat × Nat) := [(0, .aload_n 0, 1, 1), (1, .iconst 0, 1, 2), (2, .aload_n 0, 1, 3), (3, .getfield 38, 3, 6), (6, .aload_n 0, 1, 7), (7, .invokevirtual 53, 3, 10), (10, .invokestatic 57, 3, 13), (13, .invokestatic 63, 3, 16), (16, .putfield 26, 3, 19), (19, .aload_n 0, 1, 20), (20, .invokevirtual 66, 3, 23), (23, .return_, 1, 24)]
theorem kd_m9_go : kDec m9_go kl_m9_go := kDec_of (by decide +kernel)
def kl_m9_byLaw : List (Nat × Instr × Nat × Nat) := [(0, .aload_n 0, 1, 1), (1, .getfield 42, 3, 4), (4, .tableswitch 60 0 2 #[28, 38, 50], 28, 32), (32, .aload_n 0, 1, 33), (33, .getfield 26, 3, 36), (36, .aload_n 0, 1, 37), (37, .getfield 19, 3, 40), (40, .iadd, 1, 41), (41, .ireturn, 1, 42), (42, .iconst 2, 1, 43), (43, .aload_n 0, 1, 44), (44, .getfield 26, 3, 47), (47, .imul, 1, 48), (48, .aload_n 0, 1, 49), (49, .getfield 19, 3, 52), (52, .iadd, 1, 53), (53, .ireturn, 1, 54), (54, .aload_n 0, 1, 55), (55, .getfield 26, 3, 58), (58, .aload_n 0, 1, 59), (59, .getfield 19, 3, 62), (62, .isub, 1, 63), (63, .ireturn, 1, 64), (64, .aload_n 0, 1, 65), (65, .getfield 38, 3, 68), (68, .aload_n 0, 1, 69), (69, .getfield 26, 3, 72), (72, .isub, 1, 73), (73, .aload_n 0, 1, 74), (74, .getfield 19, 3, 77), (77, .iadd, 1, 78), (78, .ireturn, 1, 79)]
theorem kd_m9_byLaw : kDec m9_byLaw kl_m9_byLaw := kDec_of (by decide +kernel)
def kl_m9_goDumb : List (Nat × Instr × Nat × Nat) := [(0, .aload_n 0, 1, 1), (1, .dup, 1, 2), (2, .getfield 32, 3, 5), (5, .iconst 1, 1, 6), (6, .iadd, 1, 7), (7, .putfield 32, 3, 10), (10, .aload_n 0, 1, 11), (11, .getfield 49, 3, 14), (14, .ifCond .le 28, 3, 17), (17, .aload_n 0, 1, 18), (18, .getfield 32, 3, 21), (21, .aload_n 0, 1, 22), (22, .getfield 49, 3, 25), (25, .irem, 1, 26), (26, .ifCond .ne 16, 3, 29), (29, .aload_n 0, 1, 30), (30, .aload_n 0, 1, 31), (31, .getfield 38, 3, 34), (34, .aload_n 0, 1, 35), (35, .getfield 26, 3, 38), (38, .isub, 1, 39), (39, .putfield 26, 3, 42), (42, .return_, 1, 43)]
theorem kd_m9_goDumb : kDec m9_goDumb kl_m9_goDumb := kDec_of (by decide +kernel)
def kl_m9_goOn : List (Nat × Instr × Nat × Nat) := [(0, .iconst 0, 1, 1), (1, .istore_n 2, 1, 2), (2, .iload_n 2, 1, 3), (3, .iload_n 1, 1, 4), (4, .if_icmp .ge 13, 3, 7), (7, .aload_n 0, 1, 8), (8, .invokevirtual 69, 3, 11), (11, .iinc 2 1, 3, 14), (14, .goto (-12), 3, 17), (17, .return_, 1, 18)]
theorem kd_m9_goOn : kDec m9_goOn kl_m9_goOn := kDec_of (by decide +kernel)
def kl_m9_isMore : List (Nat × Instr × Nat × Nat) := [(0, .aload_n 0, 1, 1), (1, .getfield 26, 3, 4), (4, .aload_n 0, 1, 5), (5, .getfield 38, 3, 8), (8, .aload_n 0, 1, 9), (9, .getfield 26, 3, 12), (12, .isub, 1, 13), (13, .if_icmp .le 7, 3, 16), (16, .iconst 1, 1, 17), (17, .goto 4, 3, 20), (20, .iconst 0, 1, 21), (21, .ireturn, 1, 22)]
theorem kd_m9_isMore : kDec m9_isMore kl_m9_isMore := kDec_of (by decide +kernel)
def kl_m9_countMore : List (Nat × Instr × Nat × Nat) := [(0, .iconst 0, 1, 1), (1, .istore_n 2, 1, 2), (2, .iconst 0, 1, 3), (3, .istore_n 3, 1, 4), (4, .iload_n 3, 1, 5), (5, .iload_n 1, 1, 6), (6, .if_icmp .ge 23, 3, 9), (9, .aload_n 0, 1, 10), (10, .invokevirtual 69, 3, 13), (13, .aload_n 0, 1, 14), (14, .invokevirtual 72, 3, 17), (17, .ifCond .eq 6, 3, 20), (20, .iinc 2 1, 3, 23), (23, .iinc 3 1, 3, 26), (26, .goto (-22), 3, 29), (29, .iload_n 2, 1, 30), (30, .ireturn, 1, 31)]
theorem kd_m9_countMore : kDec m9_countMore kl_m9_countMore := kDec_of (by decide +kernel)
def kl_m10_may : List (Nat × Instr × Nat × Nat) := [(0, .aload_n 0, 1, 1), (1, .iload_n 1, 1, 2), (2, .ifCond .ne 7, 3, 5), (5, .iconst 1, 1, 6), (6, .goto 12, 3, 9), (9, .iload_n 2, 1, 10), (10, .ifCond .ne 7, 3, 13), (13, .iconst 2, 1, 14), (14, .goto 4, 3, 17), (17, .iconst 0, 1, 18), (18, .putfield 100, 3, 21), (21, .aload_n 0, 1, 22), (22, .getfield 100, 3, 25), (25, .ifCond .ne 7, 3, 28), (28, .iconst 1, 1, 29), (29, .goto 4, 3, 32), (32, .iconst 0, 1, 33), (33, .ireturn, 1, 34)]
theorem kd_m10_may : kDec m10_may kl_m10_may := kDec_of (by decide +kernel)
def kl_m10_may_ : List (Nat × Instr × Nat × Nat) := [(0, .aload_n 0, 1, 1), (1, .iload_n 1, 1, 2), (2, .iconst 1, 1, 3), (3, .invokevirtual 104, 3, 6), (6, .ireturn, 1, 7)]
theorem kd_m10_may_ : kDec m10_may_ kl_m10_may_ := kDec_of (by decide +kernel)
def kl_m10_refuse : List (Nat × Instr × Nat × Nat) := [(0, .aload_n 0, 1, 1), (1, .iload_n 1, 1, 2), (2, .putfield 100, 3, 5), (5, .iconst (-1), 1, 6), (6, .ireturn, 1, 7)]
theorem kd_m10_refuse : kDec m10_refuse kl_m10_refuse := kDec_of (by decide +kernel)
def kl_m10_deny : List (Nat × Instr × Nat × Nat) := [(0, .aload_n 0, 1, 1), (1, .iload_n 1, 1, 2), (2, .putfield 100, 3, 5), (5, .iconst 0, 1, 6), (6, .ireturn, 1, 7)]
theorem kd_m10_deny : kDec m10_deny kl_m10_deny := kDec_of (by decide +kernel)
def kl_m10_isPair : List (Nat × Instr × Nat × Nat) := [(0, .aload_n 0, 1, 1), (1, .getfield 108, 3, 4), (4, .ifCond .eq 22, 3, 7), (7, .iload_n 1, 1, 8), (8, .ifCond .lt 18, 3, 11), (11, .iload_n 1, 1, 12), (12, .aload_n 0, 1, 13), (13, .getfield 16, 3, 16), (16, .getfield 112, 3, 19), (19, .if_icmp .ge 7, 3, 22), (22, .iconst 1, 1, 23), (23, .goto 4, 3, 26), (26, .iconst 0, 1, 27), (27, .ireturn, 1, 28)]
theorem kd_m10_isPair : kDec m10_isPair kl_m10_isPair := kDec_of (by decide +kernel)
def kl_m10_areUnlike : List (Nat × Instr × Nat × Nat) := [(0, .aload_n 0, 1, 1), (1, .iload_n 1, 1, 2), (2, .invokevirtual 115, 3, 5), (5, .ifCond .eq 20, 3, 8), (8, .aload_n 0, 1, 9), (9, .iload_n 2, 1, 10), (10, .invokevirtual 115, 3, 13), (13, .ifCond .eq 12, 3, 16), (16, .iload_n 1, 1, 17), (17, .iload_n 2, 1, 18), (18, .if_icmp .eq 7, 3, 21), (21, .iconst 1, 1, 22), (22, .goto 4, 3, 25), (25, .iconst 0, 1, 26), (26, .ireturn, 1, 27)]
theorem kd_m10_areUnlike : kDec m10_areUnlike kl_m10_areUnlike := kDec_of (by decide +kernel)
def kl_m10_upTo : List (Nat × Instr × Nat × Nat) := [(0, .iload_n 0, 1, 1), (1, .ifCond .lt 12, 3, 4), (4, .iload_n 0, 1, 5), (5, .iload_n 1, 1, 6), (6, .if_icmp .gt 7, 3, 9), (9, .iconst 1, 1, 10), (10, .goto 4, 3, 13), (13, .iconst 0, 1, 14), (14, .ireturn, 1, 15)]
theorem kd_m10_upTo : kDec m10_upTo kl_m10_upTo := kDec_of (by decide +kernel)
def kl_m10_feed : List (Nat × Instr × Nat × Nat) := [(0, .aload_n 0, 1, 1), (1, .getfield 119, 3, 4), (4, .sipush 880, 3, 7), (7, .if_icmp .le 5, 3, 10), (10, .iconst (-1), 1, 11), (11, .ireturn, 1, 12), (12, .aload_n 0, 1, 13), (13, .iload_n 1, 1, 14), (14, .invokevirtual 122, 3, 17), (17, .aload_n 0, 1, 18), (18, .iload_n 2, 1, 19), (19, .invokevirtual 122, 3, 22), (22, .aload_n 0, 1, 23), (23, .iload_n 3, 1, 24), (24, .invokevirtual 122, 3, 27), (27, .aload_n 0, 1, 28), (28, .iload 4, 2, 30), (30, .invokevirtual 122, 3, 33), (33, .aload_n 0, 1, 34), (34, .iload 5, 2, 36), (36, .invokevirtual 122, 3, 39), (39, .aload_n 0, 1, 40), (40, .getfield 119, 3, 43), (43, .ireturn, 1, 44)]
theorem kd_m10_feed : kDec m10_feed kl_m10_feed := kDec_of (by decide +kernel)
def kl_m10_putBytes : List (Nat × Instr × Nat × Nat) := [(0, .bipush 24, 2, 2), (2, .istore_n 2, 1, 3), (3, .iload_n 2, 1, 4), (4, .ifCond .lt 42, 3, 7), (7, .aload_n 0, 1, 8), (8, .getfield 119, 3, 11), (11, .sipush 900, 3, 14), (14, .if_icmp .ge 32, 3, 17), (17, .aload_n 0, 1, 18), (18, .getfield 9, 3, 21), (21, .aload_n 0, 1, 22), (22, .getfield 119, 3, 25), (25, .iload_n 1, 1, 26), (26, .iload_n 2, 1, 27), (27, .iushr, 1, 28), (28, .i2b, 1, 29), (29, .bastore, 1, 30), (30, .aload_n 0, 1, 31), (31, .dup, 1, 32), (32, .getfield 119, 3, 35), (35, .iconst 1, 1, 36), (36, .iadd, 1, 37), (37, .putfield 119, 3, 40), (40, .iinc 2 (-8), 3, 43), (43, .goto (-40), 3, 46), (46, .return_, 1, 47)]
theorem kd_m10_putBytes : kDec m10_putBytes kl_m10_putBytes := kDec_of (by decide +kernel)
def kl_m10_pier : List (Nat × Instr × Nat × Nat) := [(0, .iload_n 1, 1, 1), (1, .aload_n 0, 1, 2), (2, .getfield 119, 3, 5), (5, .invokestatic 126, 3, 8), (8, .ifCond .ne 9, 3, 11), (11, .aload_n 0, 1, 12), (12, .iconst 2, 1, 13), (13, .invokevirtual 130, 3, 16), (16, .ireturn, 1, 17), (17, .aload_n 0, 1, 18), (18, .iconst 0, 1, 19), (19, .putfield 119, 3, 22), (22, .aload_n 0, 1, 23), (23, .getfield 28, 3, 26), (26, .iload_n 1, 1, 27), (27, .aload_n 0, 1, 28), (28, .getfield 20, 3, 31), (31, .invokevirtual 134, 3, 34), (34, .ifCond .ne 9, 3, 37), (37, .aload_n 0, 1, 38), (38, .iconst 4, 1, 39), (39, .invokevirtual 130, 3, 42), (42, .ireturn, 1, 43), (43, .aload_n 0, 1, 44), (44, .getfield 16, 3, 47), (47, .astore_n 2, 1, 48), (48, .aload_n 0, 1, 49), (49, .aload_n 0, 1, 50), (50, .getfield 20, 3, 53), (53, .putfield 16, 3, 56), (56, .aload_n 0, 1, 57), (57, .aload_n 2, 1, 58), (58, .putfield 20, 3, 61), (61, .aload_n 0, 1, 62), (62, .iconst 1, 1, 63), (63, .putfield 108, 3, 66), (66, .aload_n 0, 1, 67), (67, .getfield 35, 3, 70), (70, .aload_n 0, 1, 71), (71, .getfield 16, 3, 74), (74, .invokevirtual 138, 3, 77), (77, .aload_n 0, 1, 78), (78, .getfield 42, 3, 81), (81, .invokevirtual 142, 3, 84), (84, .aload_n 0, 1, 85), (85, .iconst 0, 1, 86), (86, .putfield 145, 3, 89), (89, .aload_n 0, 1, 90), (90, .iconst 0, 1, 91), (91, .putfield 100, 3, 94), (94, .aload_n 0, 1, 95), (95, .getfield 16, 3, 98), (98, .getfield 112, 3, 101), (101, .ireturn, 1, 102)]
theorem kd_m10_pier : kDec m10_pier kl_m10_pier := kDec_of (by decide +kernel)
def kl_m10_fault : List (Nat × Instr × Nat × Nat) := [(0, .aload_n 0, 1, 1), (1, .getfield 28, 3, 4), (4, .getfield 148, 3, 7), (7, .ireturn, 1, 8)]
theorem kd_m10_fault : kDec m10_fault kl_m10_fault := kDec_of (by decide +kernel)
def kl_m10_where : List (Nat × Instr × Nat × Nat) := [(0, .aload_n 0, 1, 1), (1, .getfield 100, 3, 4), (4, .iconst 4, 1, 5), (5, .if_icmp .ne 13, 3, 8), (8, .aload_n 0, 1, 9), (9, .getfield 28, 3, 12), (12, .getfield 151, 3, 15), (15, .goto 4, 3, 18), (18, .iconst (-1), 1, 19), (19, .ireturn, 1, 20)]
theorem kd_m10_where : kDec m10_where kl_m10_where := kDec_of (by decide +kernel)
def kl_m10_pair : List (Nat × Instr × Nat × Nat) := [(0, .aload_n 0, 1, 1), (1, .aload_n 0, 1, 2), (2, .iload_n 1, 1, 3), (3, .invokevirtual 115, 3, 6), (6, .ifCond .eq 15, 3, 9), (9, .iload_n 2, 1, 10), (10, .iconst 5, 1, 11), (11, .invokestatic 126, 3, 14), (14, .ifCond .eq 7, 3, 17), (17, .iconst 1, 1, 18), (18, .goto 4, 3, 21), (21, .iconst 0, 1, 22), (22, .invokevirtual 154, 3, 25), (25, .ifCond .ne 5, 3, 28), (28, .iconst (-1), 1, 29), (29, .ireturn, 1, 30), (30, .aload_n 0, 1, 31), (31, .getfield 35, 3, 34), (34, .getfield 157, 3, 37), (37, .iload_n 1, 1, 38), (38, .iaload, 1, 39), (39, .istore_n 3, 1, 40), (40, .iload_n 2, 1, 41), (41, .tableswitch 77 0 4 #[35, 45, 47, 57, 67], 35, 76), (76, .aload_n 0, 1, 77), (77, .getfield 16, 3, 80), (80, .getfield 160, 3, 83), (83, .iload_n 1, 1, 84), (84, .iaload, 1, 85), (85, .ireturn, 1, 86), (86, .iload_n 3, 1, 87), (87, .ireturn, 1, 88), (88, .aload_n 0, 1, 89), (89, .getfield 16, 3, 92), (92, .getfield 163, 3, 95), (95, .iload_n 3, 1, 96), (96, .isub, 1, 97), (97, .ireturn, 1, 98), (98, .aload_n 0, 1, 99), (99, .getfield 35, 3, 102), (102, .getfield 166, 3, 105), (105, .iload_n 1, 1, 106), (106, .iaload, 1, 107), (107, .ireturn, 1, 108), (108, .aload_n 0, 1, 109), (109, .getfield 16, 3, 112), (112, .getfield 169, 3, 115), (115, .iload_n 1, 1, 116), (116, .iaload, 1, 117), (117, .ireturn, 1, 118), (118, .aload_n 0, 1, 119), (119, .iload_n 3, 1, 120), (120, .invokevirtual 172, 3, 123), (123, .ifCond .eq 7, 3, 126), (126, .iconst 1, 1, 127), (127, .goto 4, 3, 130), (130, .iconst 0, 1, 131), (131, .ireturn, 1, 132)]
theorem kd_m10_pair : kDec m10_pair kl_m10_pair := kDec_of (by decide +kernel)
def kl_m10_isMore : List (Nat × Instr × Nat × Nat) := [(0, .iload_n 1, 1, 1), (1, .aload_n 0, 1, 2), (2, .getfield 16, 3, 5), (5, .getfield 163, 3, 8), (8, .iload_n 1, 1, 9), (9, .isub, 1, 10), (10, .if_icmp .le 7, 3, 13), (13, .iconst 1, 1, 14), (14, .goto 4, 3, 17), (17, .iconst 0, 1, 18), (18, .ireturn, 1, 19)]
theorem kd_m10_isMore : kDec m10_isMore kl_m10_isMore := kDec_of (by decide +kernel)
def kl_m10_sayingBehind : List (Nat × Instr × Nat × Nat) := [(0, .aload_n 0, 1, 1), (1, .getfield 54, 3, 4), (4, .aload_n 0, 1, 5), (5, .getfield 16, 3, 8), (8, .aload_n 0, 1, 9), (9, .getfield 35, 3, 12), (12, .iload_n 1, 1, 13), (13, .invokevirtual 175, 3, 16), (16, .aload_n 0, 1, 17), (17, .getfield 54, 3, 20), (20, .iload_n 2, 1, 21), (21, .invokevirtual 178, 3, 24), (24, .aload_n 0, 1, 25), (25, .getfield 54, 3, 28), (28, .getfield 181, 3, 31), (31, .ireturn, 1, 32)]
theorem kd_m10_sayingBehind : kDec m10_sayingBehind kl_m10_sayingBehind := kDec_of (by decide +kernel)
def kl_m10_sayAllBehind : List (Nat × Instr × Nat × Nat) := [(0, .iconst 0, 1, 1), (1, .istore_n 2, 1, 2), (2, .iload_n 2, 1, 3), (3, .aload_n 0, 1, 4), (4, .getfield 16, 3, 7), (7, .getfield 112, 3, 10), (10, .if_icmp .ge 21, 3, 13), (13, .aload_n 0, 1, 14), (14, .getfield 61, 3, 17), (17, .iload_n 2, 1, 18), (18, .aload_n 0, 1, 19), (19, .iload_n 2, 1, 20), (20, .iload_n 1, 1, 21), (21, .invokevirtual 184, 3, 24), (24, .iastore, 1, 25), (25, .iinc 2 1, 3, 28), (28, .goto (-26), 3, 31), (31, .return_, 1, 32)]
theorem kd_m10_sayAllBehind : kDec m10_sayAllBehind kl_m10_sayAllBehind := kDec_of (by decide +kernel)
def kl_m10_says : List (Nat × Instr × Nat × Nat) := [(0, .aload_n 0, 1, 1), (1, .aload_n 0, 1, 2), (2, .iload_n 1, 1, 3), (3, .invokevirtual 115, 3, 6), (6, .iload_n 2, 1, 7), (7, .bipush 60, 2, 9), (9, .invokestatic 126, 3, 12), (12, .invokevirtual 104, 3, 15), (15, .ifCond .eq 12, 3, 18), (18, .aload_n 0, 1, 19), (19, .iload_n 1, 1, 20), (20, .iload_n 2, 1, 21), (21, .invokevirtual 184, 3, 24), (24, .goto 4, 3, 27), (27, .iconst (-1), 1, 28), (28, .ireturn, 1, 29)]
theorem kd_m10_says : kDec m10_says kl_m10_says := kDec_of (by decide +kernel)
def kl_m10_saysAll : List (Nat × Instr × Nat × Nat) := [(0, .aload_n 0, 1, 1), (1, .aload_n 0, 1, 2), (2, .iload_n 1, 1, 3), (3, .invokevirtual 115, 3, 6), (6, .iload_n 2, 1, 7), (7, .bipush 60, 2, 9), (9, .invokestatic 126, 3, 12), (12, .invokevirtual 104, 3, 15), (15, .ifCond .ne 5, 3, 18), (18, .iconst (-1), 1, 19), (19, .ireturn, 1, 20), (20, .iconst 0, 1, 21), (21, .istore_n 3, 1, 22), (22, .aload_n 0, 1, 23), (23, .getfield 54, 3, 26), (26, .aload_n 0, 1, 27), (27, .getfield 16, 3, 30), (30, .aload_n 0, 1, 31), (31, .getfield 35, 3, 34), (34, .iload_n 1, 1, 35), (35, .invokevirtual 175, 3, 38), (38, .iconst 1, 1, 39), (39, .istore 4, 2, 41), (41, .iload 4, 2, 43), (43, .iload_n 2, 1, 44), (44, .if_icmp .gt 26, 3, 47), (47, .aload_n 0, 1, 48), (48, .getfield 54, 3, 51), (51, .invokevirtual 188, 3, 54), (54, .iload_n 3, 1, 55), (55, .aload_n 0, 1, 56), (56, .getfield 54, 3, 59), (59, .getfield 181, 3, 62), (62, .iadd, 1, 63), (63, .istore_n 3, 1, 64), (64, .iinc 4 1, 3, 67), (67, .goto (-26), 3, 70), (70, .iload_n 3, 1, 71), (71, .ireturn, 1, 72)]
theorem kd_m10_saysAll : kDec m10_saysAll kl_m10_saysAll := kDec_of (by decide +kernel)
def kl_m10_moreIn : List (Nat × Instr × Nat × Nat) := [(0, .aload_n 0, 1, 1), (1, .aload_n 0, 1, 2), (2, .iload_n 1, 1, 3), (3, .invokevirtual 115, 3, 6), (6, .invokevirtual 154, 3, 9), (9, .ifCond .ne 5, 3, 12), (12, .iconst (-1), 1, 13), (13, .ireturn, 1, 14), (14, .aload_n 0, 1, 15), (15, .getfield 54, 3, 18), (18, .aload_n 0, 1, 19), (19, .getfield 16, 3, 22), (22, .aload_n 0, 1, 23), (23, .getfield 35, 3, 26), (26, .iload_n 1, 1, 27), (27, .invokevirtual 175, 3, 30), (30, .iconst 0, 1, 31), (31, .istore_n 2, 1, 32), (32, .iload_n 2, 1, 33), (33, .bipush 60, 2, 35), (35, .if_icmp .gt 28, 3, 38), (38, .aload_n 0, 1, 39), (39, .getfield 54, 3, 42), (42, .invokevirtual 191, 3, 45), (45, .ifCond .eq 5, 3, 48), (48, .iload_n 2, 1, 49), (49, .ireturn, 1, 50), (50, .aload_n 0, 1, 51), (51, .getfield 54, 3, 54), (54, .invokevirtual 188, 3, 57), (57, .iinc 2 1, 3, 60), (60, .goto (-28), 3, 63), (63, .bipush (-2), 2, 65), (65, .ireturn, 1, 66)]
theorem kd_m10_moreIn : kDec m10_moreIn kl_m10_moreIn := kDec_of (by decide +kernel)
def kl_m10_moreTimes : List (Nat × Instr × Nat × Nat) := [(0, .aload_n 0, 1, 1), (1, .aload_n 0, 1, 2), (2, .iload_n 1, 1, 3), (3, .invokevirtual 115, 3, 6), (6, .iload_n 2, 1, 7), (7, .bipush 60, 2, 9), (9, .invokestatic 126, 3, 12), (12, .invokevirtual 104, 3, 15), (15, .ifCond .ne 5, 3, 18), (18, .iconst (-1), 1, 19), (19, .ireturn, 1, 20), (20, .aload_n 0, 1, 21), (21, .getfield 54, 3, 24), (24, .aload_n 0, 1, 25), (25, .getfield 16, 3, 28), (28, .aload_n 0, 1, 29), (29, .getfield 35, 3, 32), (32, .iload_n 1, 1, 33), (33, .invokevirtual 175, 3, 36), (36, .aload_n 0, 1, 37), (37, .getfield 54, 3, 40), (40, .iload_n 2, 1, 41), (41, .invokevirtual 194, 3, 44), (44, .ireturn, 1, 45)]
theorem kd_m10_moreTimes : kDec m10_moreTimes kl_m10_moreTimes := kDec_of (by decide +kernel)
def kl_m10_goRound : List (Nat × Instr × Nat × Nat) := [(0, .aload_n 0, 1, 1), (1, .getfield 54, 3, 4), (4, .aload_n 0, 1, 5), (5, .getfield 16, 3, 8), (8, .aload_n 0, 1, 9), (9, .getfield 35, 3, 12), (12, .iload_n 1, 1, 13), (13, .invokevirtual 175, 3, 16), (16, .aload_n 0, 1, 17), (17, .getfield 68, 3, 20), (20, .aload_n 0, 1, 21), (21, .getfield 54, 3, 24), (24, .invokevirtual 197, 3, 27), (27, .return_, 1, 28)]
theorem kd_m10_goRound : kDec m10_goRound kl_m10_goRound := kDec_of (by decide +kernel)
def kl_m10_settles : List (Nat × Instr × Nat × Nat) := [(0, .aload_n 0, 1, 1), (1, .aload_n 0, 1, 2), (2, .iload_n 1, 1, 3), (3, .invokevirtual 115, 3, 6), (6, .invokevirtual 154, 3, 9), (9, .ifCond .ne 5, 3, 12), (12, .iconst (-1), 1, 13), (13, .ireturn, 1, 14), (14, .aload_n 0, 1, 15), (15, .iload_n 1, 1, 16), (16, .invokevirtual 201, 3, 19), (19, .aload_n 0, 1, 20), (20, .getfield 68, 3, 23), (23, .getfield 204, 3, 26), (26, .ireturn, 1, 27)]
theorem kd_m10_settles : kDec m10_settles kl_m10_settles := kDec_of (by decide +kernel)
def kl_m10_round : List (Nat × Instr × Nat × Nat) := [(0, .aload_n 0, 1, 1), (1, .aload_n 0, 1, 2), (2, .iload_n 1, 1, 3), (3, .invokevirtual 115, 3, 6), (6, .invokevirtual 154, 3, 9), (9, .ifCond .ne 5, 3, 12), (12, .iconst (-1), 1, 13), (13, .ireturn, 1, 14), (14, .aload_n 0, 1, 15), (15, .iload_n 1, 1, 16), (16, .invokevirtual 201, 3, 19), (19, .aload_n 0, 1, 20), (20, .getfield 68, 3, 23), (23, .getfield 207, 3, 26), (26, .ireturn, 1, 27)]
theorem kd_m10_round : kDec m10_round kl_m10_round := kDec_of (by decide +kernel)
def kl_m10_saysLate : List (Nat × Instr × Nat × Nat) := [(0, .aload_n 0, 1, 1), (1, .aload_n 0, 1, 2), (2, .iload_n 1, 1, 3), (3, .invokevirtual 115, 3, 6), (6, .iload_n 2, 1, 7), (7, .ldc 210, 2, 9), (9, .invokestatic 126, 3, 12), (12, .invokevirtual 104, 3, 15), (15, .ifCond .ne 5, 3, 18), (18, .iconst (-1), 1, 19), (19, .ireturn, 1, 20), (20, .aload_n 0, 1, 21), (21, .iload_n 1, 1, 22), (22, .invokevirtual 201, 3, 25), (25, .aload_n 0, 1, 26), (26, .getfield 68, 3, 29), (29, .iload_n 2, 1, 30), (30, .invokevirtual 211, 3, 33), (33, .ireturn, 1, 34)]
theorem kd_m10_saysLate : kDec m10_saysLate kl_m10_saysLate := kDec_of (by decide +kernel)
def kl_m10_roundMost : List (Nat × Instr × Nat × Nat) := [(0, .aload_n 0, 1, 1), (1, .aload_n 0, 1, 2), (2, .iload_n 1, 1, 3), (3, .invokevirtual 115, 3, 6), (6, .invokevirtual 154, 3, 9), (9, .ifCond .ne 5, 3, 12), (12, .iconst (-1), 1, 13), (13, .ireturn, 1, 14), (14, .aload_n 0, 1, 15), (15, .iload_n 1, 1, 16), (16, .invokevirtual 201, 3, 19), (19, .aload_n 0, 1, 20), (20, .getfield 68, 3, 23), (23, .invokevirtual 214, 3, 26), (26, .ireturn, 1, 27)]
theorem kd_m10_roundMost : kDec m10_roundMost kl_m10_roundMost := kDec_of (by decide +kernel)
def kl_m10_roundLeast : List (Nat × Instr × Nat × Nat) := [(0, .aload_n 0, 1, 1), (1, .aload_n 0, 1, 2), (2, .iload_n 1, 1, 3), (3, .invokevirtual 115, 3, 6), (6, .invokevirtual 154, 3, 9), (9, .ifCond .ne 5, 3, 12), (12, .iconst (-1), 1, 13), (13, .ireturn, 1, 14), (14, .aload_n 0, 1, 15), (15, .iload_n 1, 1, 16), (16, .invokevirtual 201, 3, 19), (19, .aload_n 0, 1, 20), (20, .getfield 68, 3, 23), (23, .invokevirtual 218, 3, 26), (26, .ireturn, 1, 27)]
theorem kd_m10_roundLeast : kDec m10_roundLeast kl_m10_roundLeast := kDec_of (by decide +kernel)
def kl_m10_turnsAbout : List (Nat × Instr × Nat × Nat) := [(0, .aload_n 0, 1, 1), (1, .aload_n 0, 1, 2), (2, .iload_n 1, 1, 3), (3, .invokevirtual 115, 3, 6), (6, .invokevirtual 154, 3, 9), (9, .ifCond .ne 5, 3, 12), (12, .iconst (-1), 1, 13), (13, .ireturn, 1, 14), (14, .iconst 0, 1, 15), (15, .istore_n 2, 1, 16), (16, .aload_n 0, 1, 17), (17, .getfield 54, 3, 20), (20, .aload_n 0, 1, 21), (21, .getfield 16, 3, 24), (24, .aload_n 0, 1, 25), (25, .getfield 35, 3, 28), (28, .iload_n 1, 1, 29), (29, .invokevirtual 175, 3, 32), (32, .aload_n 0, 1, 33), (33, .getfield 54, 3, 36), (36, .invokevirtual 191, 3, 39), (39, .istore_n 3, 1, 40), (40, .iconst 1, 1, 41), (41, .istore 4, 2, 43), (43, .iload 4, 2, 45), (45, .bipush 60, 2, 47), (47, .if_icmp .gt 37, 3, 50), (50, .aload_n 0, 1, 51), (51, .getfield 54, 3, 54), (54, .invokevirtual 188, 3, 57), (57, .aload_n 0, 1, 58), (58, .getfield 54, 3, 61), (61, .invokevirtual 191, 3, 64), (64, .istore 5, 2, 66), (66, .iload 5, 2, 68), (68, .iload_n 3, 1, 69), (69, .if_icmp .eq 6, 3, 72), (72, .iinc 2 1, 3, 75), (75, .iload 5, 2, 77), (77, .istore_n 3, 1, 78), (78, .iinc 4 1, 3, 81), (81, .goto (-38), 3, 84), (84, .iload_n 2, 1, 85), (85, .ireturn, 1, 86)]
theorem kd_m10_turnsAbout : kDec m10_turnsAbout kl_m10_turnsAbout := kDec_of (by decide +kernel)
def kl_m10_alikeIn : List (Nat × Instr × Nat × Nat) := [(0, .aload_n 0, 1, 1), (1, .aload_n 0, 1, 2), (2, .iload_n 1, 1, 3), (3, .iload_n 2, 1, 4), (4, .invokevirtual 221, 3, 7), (7, .invokevirtual 154, 3, 10), (10, .ifCond .ne 5, 3, 13), (13, .iconst (-1), 1, 14), (14, .ireturn, 1, 15), (15, .aload_n 0, 1, 16), (16, .getfield 54, 3, 19), (19, .aload_n 0, 1, 20), (20, .getfield 16, 3, 23), (23, .aload_n 0, 1, 24), (24, .getfield 35, 3, 27), (27, .iload_n 1, 1, 28), (28, .invokevirtual 175, 3, 31), (31, .aload_n 0, 1, 32), (32, .getfield 58, 3, 35), (35, .aload_n 0, 1, 36), (36, .getfield 16, 3, 39), (39, .aload_n 0, 1, 40), (40, .getfield 35, 3, 43), (43, .iload_n 2, 1, 44), (44, .invokevirtual 175, 3, 47), (47, .iconst 0, 1, 48), (48, .istore_n 3, 1, 49), (49, .iload_n 3, 1, 50), (50, .bipush 60, 2, 52), (52, .if_icmp .gt 42, 3, 55), (55, .aload_n 0, 1, 56), (56, .getfield 54, 3, 59), (59, .getfield 181, 3, 62), (62, .aload_n 0, 1, 63), (63, .getfield 58, 3, 66), (66, .getfield 181, 3, 69), (69, .if_icmp .ne 5, 3, 72), (72, .iload_n 3, 1, 73), (73, .ireturn, 1, 74), (74, .aload_n 0, 1, 75), (75, .getfield 54, 3, 78), (78, .invokevirtual 188, 3, 81), (81, .aload_n 0, 1, 82), (82, .getfield 58, 3, 85), (85, .invokevirtual 188, 3, 88), (88, .iinc 3 1, 3, 91), (91, .goto (-42), 3, 94), (94, .bipush (-2), 2, 96), (96, .ireturn, 1, 97)]
theorem kd_m10_alikeIn : kDec m10_alikeIn kl_m10_alikeIn := kDec_of (by decide +kernel)
def kl_m10_loudest : List (Nat × Instr × Nat × Nat) := [(0, .aload_n 0, 1, 1), (1, .aload_n 0, 1, 2), (2, .getfield 108, 3, 5), (5, .iload_n 1, 1, 6), (6, .bipush 60, 2, 8), (8, .invokestatic 126, 3, 11), (11, .invokevirtual 104, 3, 14), (14, .ifCond .ne 5, 3, 17), (17, .iconst (-1), 1, 18), (18, .ireturn, 1, 19), (19, .aload_n 0, 1, 20), (20, .iload_n 1, 1, 21), (21, .invokevirtual 224, 3, 24), (24, .aload_n 0, 1, 25), (25, .getfield 61, 3, 28), (28, .aload_n 0, 1, 29), (29, .getfield 16, 3, 32), (32, .getfield 112, 3, 35), (35, .invokestatic 227, 3, 38), (38, .ireturn, 1, 39)]
theorem kd_m10_loudest : kDec m10_loudest kl_m10_loudest := kDec_of (by decide +kernel)
def kl_m10_firstMost : List (Nat × Instr × Nat × Nat) := [(0, .iconst 0, 1, 1), (1, .istore_n 2, 1, 2), (2, .iconst 1, 1, 3), (3, .istore_n 3, 1, 4), (4, .iload_n 3, 1, 5), (5, .iload_n 1, 1, 6), (6, .if_icmp .ge 26, 3, 9), (9, .iload_n 3, 1, 10), (10, .aload_n 0, 1, 11), (11, .arraylength, 1, 12), (12, .if_icmp .ge 20, 3, 15), (15, .aload_n 0, 1, 16), (16, .iload_n 3, 1, 17), (17, .iaload, 1, 18), (18, .aload_n 0, 1, 19), (19, .iload_n 2, 1, 20), (20, .iaload, 1, 21), (21, .if_icmp .le 5, 3, 24), (24, .iload_n 3, 1, 25), (25, .istore_n 2, 1, 26), (26, .iinc 3 1, 3, 29), (29, .goto (-25), 3, 32), (32, .iload_n 2, 1, 33), (33, .ireturn, 1, 34)]
theorem kd_m10_firstMost : kDec m10_firstMost kl_m10_firstMost := kDec_of (by decide +kernel)
def kl_m10_overtakes : List (Nat × Instr × Nat × Nat) := [(0, .aload_n 0, 1, 1), (1, .aload_n 0, 1, 2), (2, .iload_n 1, 1, 3), (3, .iload_n 2, 1, 4), (4, .invokevirtual 221, 3, 7), (7, .invokevirtual 154, 3, 10), (10, .ifCond .ne 5, 3, 13), (13, .iconst (-1), 1, 14), (14, .ireturn, 1, 15), (15, .aload_n 0, 1, 16), (16, .getfield 54, 3, 19), (19, .aload_n 0, 1, 20), (20, .getfield 16, 3, 23), (23, .aload_n 0, 1, 24), (24, .getfield 35, 3, 27), (27, .iload_n 1, 1, 28), (28, .invokevirtual 175, 3, 31), (31, .aload_n 0, 1, 32), (32, .getfield 58, 3, 35), (35, .aload_n 0, 1, 36), (36, .getfield 16, 3, 39), (39, .aload_n 0, 1, 40), (40, .getfield 35, 3, 43), (43, .iload_n 2, 1, 44), (44, .invokevirtual 175, 3, 47), (47, .iconst 0, 1, 48), (48, .istore_n 3, 1, 49), (49, .iload_n 3, 1, 50), (50, .bipush 60, 2, 52), (52, .if_icmp .gt 42, 3, 55), (55, .aload_n 0, 1, 56), (56, .getfield 54, 3, 59), (59, .getfield 181, 3, 62), (62, .aload_n 0, 1, 63), (63, .getfield 58, 3, 66), (66, .getfield 181, 3, 69), (69, .if_icmp .le 5, 3, 72), (72, .iload_n 3, 1, 73), (73, .ireturn, 1, 74), (74, .aload_n 0, 1, 75), (75, .getfield 54, 3, 78), (78, .invokevirtual 188, 3, 81), (81, .aload_n 0, 1, 82), (82, .getfield 58, 3, 85), (85, .invokevirtual 188, 3, 88), (88, .iinc 3 1, 3, 91), (91, .goto (-42), 3, 94), (94, .bipush (-2), 2, 96), (96, .ireturn, 1, 97)]
theorem kd_m10_overtakes : kDec m10_overtakes kl_m10_overtakes := kDec_of (by decide +kernel)
def kl_m10_widest : List (Nat × Instr × Nat × Nat) := [(0, .aload_n 0, 1, 1), (1, .aload_n 0, 1, 2), (2, .getfield 108, 3, 5), (5, .iload_n 1, 1, 6), (6, .bipush 60, 2, 8), (8, .invokestatic 126, 3, 11), (11, .invokevirtual 104, 3, 14), (14, .ifCond .ne 5, 3, 17), (17, .iconst (-1), 1, 18), (18, .ireturn, 1, 19), (19, .aload_n 0, 1, 20), (20, .iload_n 1, 1, 21), (21, .invokevirtual 224, 3, 24), (24, .bipush (-2), 2, 26), (26, .istore_n 2, 1, 27), (27, .iconst (-1), 1, 28), (28, .istore_n 3, 1, 29), (29, .iconst 0, 1, 30), (30, .istore 4, 2, 32), (32, .iload 4, 2, 34), (34, .aload_n 0, 1, 35), (35, .getfield 16, 3, 38), (38, .getfield 112, 3, 41), (41, .if_icmp .ge 71, 3, 44), (44, .iload 4, 2, 46), (46, .iconst 1, 1, 47), (47, .iadd, 1, 48), (48, .istore 5, 2, 50), (50, .iload 5, 2, 52), (52, .aload_n 0, 1, 53), (53, .getfield 16, 3, 56), (56, .getfield 112, 3, 59), (59, .if_icmp .ge 47, 3, 62), (62, .aload_n 0, 1, 63), (63, .getfield 61, 3, 66), (66, .iload 4, 2, 68), (68, .iaload, 1, 69), (69, .aload_n 0, 1, 70), (70, .getfield 61, 3, 73), (73, .iload 5, 2, 75), (75, .iaload, 1, 76), (76, .isub, 1, 77), (77, .invokestatic 231, 3, 80), (80, .istore 6, 2, 82), (82, .iload 6, 2, 84), (84, .iload_n 3, 1, 85), (85, .if_icmp .le 15, 3, 88), (88, .iload 6, 2, 90), (90, .istore_n 3, 1, 91), (91, .bipush 10, 2, 93), (93, .iload 4, 2, 95), (95, .imul, 1, 96), (96, .iload 5, 2, 98), (98, .iadd, 1, 99), (99, .istore_n 2, 1, 100), (100, .iinc 5 1, 3, 103), (103, .goto (-53), 3, 106), (106, .iinc 4 1, 3, 109), (109, .goto (-77), 3, 112), (112, .iload_n 2, 1, 113), (113, .ireturn, 1, 114)]
theorem kd_m10_widest : kDec m10_widest kl_m10_widest := kDec_of (by decide +kernel)
def kl_m10_sumAll : List (Nat × Instr × Nat × Nat) := [(0, .aload_n 0, 1, 1), (1, .aload_n 0, 1, 2), (2, .getfield 108, 3, 5), (5, .iload_n 1, 1, 6), (6, .bipush 60, 2, 8), (8, .invokestatic 126, 3, 11), (11, .invokevirtual 104, 3, 14), (14, .ifCond .ne 5, 3, 17), (17, .iconst (-1), 1, 18), (18, .ireturn, 1, 19), (19, .aload_n 0, 1, 20), (20, .iload_n 1, 1, 21), (21, .invokevirtual 224, 3, 24), (24, .iconst 0, 1, 25), (25, .istore_n 2, 1, 26), (26, .iconst 0, 1, 27), (27, .istore_n 3, 1, 28), (28, .iload_n 3, 1, 29), (29, .aload_n 0, 1, 30), (30, .getfield 16, 3, 33), (33, .getfield 112, 3, 36), (36, .if_icmp .ge 18, 3, 39), (39, .iload_n 2, 1, 40), (40, .aload_n 0, 1, 41), (41, .getfield 61, 3, 44), (44, .iload_n 3, 1, 45), (45, .iaload, 1, 46), (46, .iadd, 1, 47), (47, .istore_n 2, 1, 48), (48, .iinc 3 1, 3, 51), (51, .goto (-23), 3, 54), (54, .iload_n 2, 1, 55), (55, .ireturn, 1, 56)]
theorem kd_m10_sumAll : kDec m10_sumAll kl_m10_sumAll := kDec_of (by decide +kernel)
def kl_m10_masters : List (Nat × Instr × Nat × Nat) := [(0, .aload_n 0, 1, 1), (1, .aload_n 0, 1, 2), (2, .getfield 108, 3, 5), (5, .iload_n 1, 1, 6), (6, .bipush 60, 2, 8), (8, .invokestatic 126, 3, 11), (11, .invokevirtual 104, 3, 14), (14, .ifCond .ne 5, 3, 17), (17, .iconst (-1), 1, 18), (18, .ireturn, 1, 19), (19, .aload_n 0, 1, 20), (20, .iload_n 1, 1, 21), (21, .invokevirtual 224, 3, 24), (24, .aload_n 0, 1, 25), (25, .aload_n 0, 1, 26), (26, .getfield 61, 3, 29), (29, .invokevirtual 236, 3, 32), (32, .ireturn, 1, 33)]
theorem kd_m10_masters : kDec m10_masters kl_m10_masters := kDec_of (by decide +kernel)
def kl_m10_bitsOfMore : List (Nat × Instr × Nat × Nat) := [(0, .iconst 0, 1, 1), (1, .istore_n 2, 1, 2), (2, .iconst 0, 1, 3), (3, .istore_n 3, 1, 4), (4, .iload_n 3, 1, 5), (5, .aload_n 0, 1, 6), (6, .getfield 16, 3, 9), (9, .getfield 112, 3, 12), (12, .if_icmp .ge 31, 3, 15), (15, .iload_n 3, 1, 16), (16, .aload_n 1, 1, 17), (17, .arraylength, 1, 18), (18, .if_icmp .ge 25, 3, 21), (21, .aload_n 0, 1, 22), (22, .aload_n 1, 1, 23), (23, .iload_n 3, 1, 24), (24, .iaload, 1, 25), (25, .invokevirtual 172, 3, 28), (28, .ifCond .eq 9, 3, 31), (31, .iload_n 2, 1, 32), (32, .iconst 1, 1, 33), (33, .iload_n 3, 1, 34), (34, .ishl, 1, 35), (35, .ior, 1, 36), (36, .istore_n 2, 1, 37), (37, .iinc 3 1, 3, 40), (40, .goto (-36), 3, 43), (43, .iload_n 2, 1, 44), (44, .ireturn, 1, 45)]
theorem kd_m10_bitsOfMore : kDec m10_bitsOfMore kl_m10_bitsOfMore := kDec_of (by decide +kernel)
def kl_m10_sayingByEvery : List (Nat × Instr × Nat × Nat) := [(0, .aload_n 0, 1, 1), (1, .getfield 54, 3, 4), (4, .aload_n 0, 1, 5), (5, .getfield 16, 3, 8), (8, .aload_n 0, 1, 9), (9, .getfield 35, 3, 12), (12, .iload_n 1, 1, 13), (13, .invokevirtual 175, 3, 16), (16, .aload_n 0, 1, 17), (17, .getfield 54, 3, 20), (20, .iload_n 2, 1, 21), (21, .putfield 240, 3, 24), (24, .aload_n 0, 1, 25), (25, .getfield 54, 3, 28), (28, .iload_n 3, 1, 29), (29, .invokevirtual 178, 3, 32), (32, .aload_n 0, 1, 33), (33, .getfield 54, 3, 36), (36, .getfield 181, 3, 39), (39, .ireturn, 1, 40)]
theorem kd_m10_sayingByEvery : kDec m10_sayingByEvery kl_m10_sayingByEvery := kDec_of (by decide +kernel)
def kl_m10_bestEvery : List (Nat × Instr × Nat × Nat) := [(0, .iconst 0, 1, 1), (1, .istore_n 3, 1, 2), (2, .iconst (-1), 1, 3), (3, .istore 4, 2, 5), (5, .iconst 0, 1, 6), (6, .istore 5, 2, 8), (8, .iload 5, 2, 10), (10, .bipush 9, 2, 12), (12, .if_icmp .gt 33, 3, 15), (15, .aload_n 0, 1, 16), (16, .iload_n 1, 1, 17), (17, .iload 5, 2, 19), (19, .iload_n 2, 1, 20), (20, .invokevirtual 243, 3, 23), (23, .istore 6, 2, 25), (25, .iload 6, 2, 27), (27, .iload 4, 2, 29), (29, .if_icmp .le 10, 3, 32), (32, .iload 6, 2, 34), (34, .istore 4, 2, 36), (36, .iload 5, 2, 38), (38, .istore_n 3, 1, 39), (39, .iinc 5 1, 3, 42), (42, .goto (-34), 3, 45), (45, .iload_n 3, 1, 46), (46, .ireturn, 1, 47)]
theorem kd_m10_bestEvery : kDec m10_bestEvery kl_m10_bestEvery := kDec_of (by decide +kernel)
def kl_m10_everyFor : List (Nat × Instr × Nat × Nat) := [(0, .aload_n 0, 1, 1), (1, .aload_n 0, 1, 2), (2, .iload_n 1, 1, 3), (3, .invokevirtual 115, 3, 6), (6, .iload_n 2, 1, 7), (7, .bipush 60, 2, 9), (9, .invokestatic 126, 3, 12), (12, .invokevirtual 104, 3, 15), (15, .ifCond .eq 12, 3, 18), (18, .aload_n 0, 1, 19), (19, .iload_n 1, 1, 20), (20, .iload_n 2, 1, 21), (21, .invokevirtual 247, 3, 24), (24, .goto 4, 3, 27), (27, .iconst (-1), 1, 28), (28, .ireturn, 1, 29)]
theorem kd_m10_everyFor : kDec m10_everyFor kl_m10_everyFor := kDec_of (by decide +kernel)
def kl_m10_everySays : List (Nat × Instr × Nat × Nat) := [(0, .aload_n 0, 1, 1), (1, .aload_n 0, 1, 2), (2, .iload_n 1, 1, 3), (3, .invokevirtual 115, 3, 6), (6, .iload_n 2, 1, 7), (7, .bipush 60, 2, 9), (9, .invokestatic 126, 3, 12), (12, .invokevirtual 104, 3, 15), (15, .ifCond .eq 18, 3, 18), (18, .aload_n 0, 1, 19), (19, .iload_n 1, 1, 20), (20, .aload_n 0, 1, 21), (21, .iload_n 1, 1, 22), (22, .iload_n 2, 1, 23), (23, .invokevirtual 247, 3, 26), (26, .iload_n 2, 1, 27), (27, .invokevirtual 243, 3, 30), (30, .goto 4, 3, 33), (33, .iconst (-1), 1, 34), (34, .ireturn, 1, 35)]
theorem kd_m10_everySays : kDec m10_everySays kl_m10_everySays := kDec_of (by decide +kernel)
def kl_m10_everyNever : List (Nat × Instr × Nat × Nat) := [(0, .aload_n 0, 1, 1), (1, .aload_n 0, 1, 2), (2, .iload_n 1, 1, 3), (3, .invokevirtual 115, 3, 6), (6, .invokevirtual 154, 3, 9), (9, .ifCond .ne 5, 3, 12), (12, .iconst (-1), 1, 13), (13, .ireturn, 1, 14), (14, .iconst 0, 1, 15), (15, .istore_n 2, 1, 16), (16, .iload_n 2, 1, 17), (17, .bipush 9, 2, 19), (19, .if_icmp .gt 47, 3, 22), (22, .aload_n 0, 1, 23), (23, .getfield 54, 3, 26), (26, .aload_n 0, 1, 27), (27, .getfield 16, 3, 30), (30, .aload_n 0, 1, 31), (31, .getfield 35, 3, 34), (34, .iload_n 1, 1, 35), (35, .invokevirtual 175, 3, 38), (38, .aload_n 0, 1, 39), (39, .getfield 54, 3, 42), (42, .iload_n 2, 1, 43), (43, .putfield 240, 3, 46), (46, .aload_n 0, 1, 47), (47, .getfield 54, 3, 50), (50, .bipush 60, 2, 52), (52, .invokevirtual 194, 3, 55), (55, .ifCond .ne 5, 3, 58), (58, .iload_n 2, 1, 59), (59, .ireturn, 1, 60), (60, .iinc 2 1, 3, 63), (63, .goto (-47), 3, 66), (66, .bipush (-2), 2, 68), (68, .ireturn, 1, 69)]
theorem kd_m10_everyNever : kDec m10_everyNever kl_m10_everyNever := kDec_of (by decide +kernel)
def kl_m10_stepFor : List (Nat × Instr × Nat × Nat) := [(0, .aload_n 0, 1, 1), (1, .aload_n 0, 1, 2), (2, .iload_n 1, 1, 3), (3, .invokevirtual 115, 3, 6), (6, .iload_n 2, 1, 7), (7, .bipush 60, 2, 9), (9, .invokestatic 126, 3, 12), (12, .invokevirtual 104, 3, 15), (15, .ifCond .ne 5, 3, 18), (18, .iconst (-1), 1, 19), (19, .ireturn, 1, 20), (20, .iconst 0, 1, 21), (21, .istore_n 3, 1, 22), (22, .iload_n 3, 1, 23), (23, .bipush 20, 2, 25), (25, .if_icmp .gt 53, 3, 28), (28, .aload_n 0, 1, 29), (29, .getfield 54, 3, 32), (32, .aload_n 0, 1, 33), (33, .getfield 16, 3, 36), (36, .aload_n 0, 1, 37), (37, .getfield 35, 3, 40), (40, .iload_n 1, 1, 41), (41, .invokevirtual 175, 3, 44), (44, .aload_n 0, 1, 45), (45, .getfield 54, 3, 48), (48, .iload_n 3, 1, 49), (49, .putfield 250, 3, 52), (52, .aload_n 0, 1, 53), (53, .getfield 54, 3, 56), (56, .iload_n 2, 1, 57), (57, .invokevirtual 178, 3, 60), (60, .aload_n 0, 1, 61), (61, .getfield 54, 3, 64), (64, .invokevirtual 191, 3, 67), (67, .ifCond .eq 5, 3, 70), (70, .iload_n 3, 1, 71), (71, .ireturn, 1, 72), (72, .iinc 3 1, 3, 75), (75, .goto (-53), 3, 78), (78, .bipush (-2), 2, 80), (80, .ireturn, 1, 81)]
theorem kd_m10_stepFor : kDec m10_stepFor kl_m10_stepFor := kDec_of (by decide +kernel)
def kl_m10_mayFit : List (Nat × Instr × Nat × Nat) := [(0, .aload_n 0, 1, 1), (1, .aload_n 0, 1, 2), (2, .getfield 108, 3, 5), (5, .invokevirtual 154, 3, 8), (8, .ifCond .ne 5, 3, 11), (11, .iconst 0, 1, 12), (12, .ireturn, 1, 13), (13, .aload_n 0, 1, 14), (14, .getfield 75, 3, 17), (17, .aload_n 0, 1, 18), (18, .getfield 16, 3, 21), (21, .invokevirtual 253, 3, 24), (24, .iconst 1, 1, 25), (25, .ireturn, 1, 26)]
theorem kd_m10_mayFit : kDec m10_mayFit kl_m10_mayFit := kDec_of (by decide +kernel)
def kl_m10_fits : List (Nat × Instr × Nat × Nat) := [(0, .aload_n 0, 1, 1), (1, .invokevirtual 256, 3, 4), (4, .ifCond .eq 13, 3, 7), (7, .aload_n 0, 1, 8), (8, .getfield 75, 3, 11), (11, .getfield 259, 3, 14), (14, .goto 4, 3, 17), (17, .iconst (-1), 1, 18), (18, .ireturn, 1, 19)]
theorem kd_m10_fits : kDec m10_fits kl_m10_fits := kDec_of (by decide +kernel)
def kl_m10_fitAt : List (Nat × Instr × Nat × Nat) := [(0, .aload_n 0, 1, 1), (1, .invokevirtual 256, 3, 4), (4, .ifCond .ne 5, 3, 7), (7, .iconst (-1), 1, 8), (8, .ireturn, 1, 9), (9, .iload_n 1, 1, 10), (10, .ifCond .lt 26, 3, 13), (13, .iload_n 1, 1, 14), (14, .aload_n 0, 1, 15), (15, .getfield 75, 3, 18), (18, .getfield 259, 3, 21), (21, .if_icmp .ge 15, 3, 24), (24, .aload_n 0, 1, 25), (25, .getfield 75, 3, 28), (28, .getfield 262, 3, 31), (31, .iload_n 1, 1, 32), (32, .iaload, 1, 33), (33, .goto 8, 3, 36), (36, .aload_n 0, 1, 37), (37, .iconst 1, 1, 38), (38, .invokevirtual 130, 3, 41), (41, .ireturn, 1, 42)]
theorem kd_m10_fitAt : kDec m10_fitAt kl_m10_fitAt := kDec_of (by decide +kernel)
def kl_m10_could : List (Nat × Instr × Nat × Nat) := [(0, .aload_n 0, 1, 1), (1, .invokevirtual 256, 3, 4), (4, .ifCond .eq 13, 3, 7), (7, .aload_n 0, 1, 8), (8, .getfield 75, 3, 11), (11, .invokevirtual 265, 3, 14), (14, .goto 4, 3, 17), (17, .iconst (-1), 1, 18), (18, .ireturn, 1, 19)]
theorem kd_m10_could : kDec m10_could kl_m10_could := kDec_of (by decide +kernel)
def kl_m10_surely : List (Nat × Instr × Nat × Nat) := [(0, .aload_n 0, 1, 1), (1, .invokevirtual 256, 3, 4), (4, .ifCond .eq 13, 3, 7), (7, .aload_n 0, 1, 8), (8, .getfield 75, 3, 11), (11, .invokevirtual 268, 3, 14), (14, .goto 4, 3, 17), (17, .iconst (-1), 1, 18), (18, .ireturn, 1, 19)]
theorem kd_m10_surely : kDec m10_surely kl_m10_surely := kDec_of (by decide +kernel)
def kl_m10_ask : List (Nat × Instr × Nat × Nat) := [(0, .aload_n 0, 1, 1), (1, .invokevirtual 256, 3, 4), (4, .ifCond .eq 20, 3, 7), (7, .aload_n 0, 1, 8), (8, .getfield 75, 3, 11), (11, .aload_n 0, 1, 12), (12, .getfield 16, 3, 15), (15, .getfield 271, 3, 18), (18, .invokevirtual 274, 3, 21), (21, .goto 4, 3, 24), (24, .iconst (-1), 1, 25), (25, .ireturn, 1, 26)]
theorem kd_m10_ask : kDec m10_ask kl_m10_ask := kDec_of (by decide +kernel)
def kl_m10_askLeaves : List (Nat × Instr × Nat × Nat) := [(0, .aload_n 0, 1, 1), (1, .invokevirtual 256, 3, 4), (4, .ifCond .ne 5, 3, 7), (7, .iconst (-1), 1, 8), (8, .ireturn, 1, 9), (9, .aload_n 0, 1, 10), (10, .getfield 75, 3, 13), (13, .aload_n 0, 1, 14), (14, .getfield 16, 3, 17), (17, .getfield 271, 3, 20), (20, .invokevirtual 274, 3, 23), (23, .istore_n 1, 1, 24), (24, .iload_n 1, 1, 25), (25, .ifCond .ge 8, 3, 28), (28, .bipush (-2), 2, 30), (30, .goto 11, 3, 33), (33, .aload_n 0, 1, 34), (34, .getfield 75, 3, 37), (37, .iload_n 1, 1, 38), (38, .invokevirtual 277, 3, 41), (41, .ireturn, 1, 42)]
theorem kd_m10_askLeaves : kDec m10_askLeaves kl_m10_askLeaves := kDec_of (by decide +kernel)
def kl_m10_judge : List (Nat × Instr × Nat × Nat) := [(0, .aload_n 0, 1, 1), (1, .aload_n 0, 1, 2), (2, .getfield 108, 3, 5), (5, .invokevirtual 154, 3, 8), (8, .ifCond .ne 5, 3, 11), (11, .iconst (-1), 1, 12), (12, .ireturn, 1, 13), (13, .iconst 0, 1, 14), (14, .istore_n 1, 1, 15), (15, .iload_n 1, 1, 16), (16, .aload_n 0, 1, 17), (17, .getfield 16, 3, 20), (20, .getfield 280, 3, 23), (23, .if_icmp .ge 19, 3, 26), (26, .aload_n 0, 1, 27), (27, .iload_n 1, 1, 28), (28, .invokevirtual 283, 3, 31), (31, .ifCond .eq 5, 3, 34), (34, .iload_n 1, 1, 35), (35, .ireturn, 1, 36), (36, .iinc 1 1, 3, 39), (39, .goto (-24), 3, 42), (42, .bipush (-2), 2, 44), (44, .ireturn, 1, 45)]
theorem kd_m10_judge : kDec m10_judge kl_m10_judge := kDec_of (by decide +kernel)
def kl_m10_apartByTold : List (Nat × Instr × Nat × Nat) := [(0, .aload_n 0, 1, 1), (1, .getfield 54, 3, 4), (4, .aload_n 0, 1, 5), (5, .getfield 16, 3, 8), (8, .aload_n 0, 1, 9), (9, .getfield 16, 3, 12), (12, .getfield 286, 3, 15), (15, .iload_n 1, 1, 16), (16, .iaload, 1, 17), (17, .invokevirtual 289, 3, 20), (20, .aload_n 0, 1, 21), (21, .getfield 54, 3, 24), (24, .aload_n 0, 1, 25), (25, .getfield 16, 3, 28), (28, .getfield 293, 3, 31), (31, .iload_n 1, 1, 32), (32, .iaload, 1, 33), (33, .invokevirtual 178, 3, 36), (36, .aload_n 0, 1, 37), (37, .getfield 54, 3, 40), (40, .getfield 181, 3, 43), (43, .aload_n 0, 1, 44), (44, .getfield 16, 3, 47), (47, .getfield 296, 3, 50), (50, .iload_n 1, 1, 51), (51, .iaload, 1, 52), (52, .isub, 1, 53), (53, .invokestatic 231, 3, 56), (56, .ireturn, 1, 57)]
theorem kd_m10_apartByTold : kDec m10_apartByTold kl_m10_apartByTold := kDec_of (by decide +kernel)
def kl_m10_third : List (Nat × Instr × Nat × Nat) := [(0, .aload_n 0, 1, 1), (1, .aload_n 0, 1, 2), (2, .iload_n 1, 1, 3), (3, .invokevirtual 115, 3, 6), (6, .invokevirtual 154, 3, 9), (9, .ifCond .ne 5, 3, 12), (12, .iconst (-1), 1, 13), (13, .ireturn, 1, 14), (14, .iconst 0, 1, 15), (15, .istore_n 2, 1, 16), (16, .iconst 0, 1, 17), (17, .istore_n 3, 1, 18), (18, .iload_n 3, 1, 19), (19, .aload_n 0, 1, 20), (20, .getfield 16, 3, 23), (23, .getfield 280, 3, 26), (26, .if_icmp .ge 30, 3, 29), (29, .aload_n 0, 1, 30), (30, .getfield 16, 3, 33), (33, .getfield 286, 3, 36), (36, .iload_n 3, 1, 37), (37, .iaload, 1, 38), (38, .iload_n 1, 1, 39), (39, .if_icmp .ne 11, 3, 42), (42, .iload_n 2, 1, 43), (43, .aload_n 0, 1, 44), (44, .iload_n 3, 1, 45), (45, .invokevirtual 283, 3, 48), (48, .iadd, 1, 49), (49, .istore_n 2, 1, 50), (50, .iinc 3 1, 3, 53), (53, .goto (-35), 3, 56), (56, .iload_n 2, 1, 57), (57, .ireturn, 1, 58)]
theorem kd_m10_third : kDec m10_third kl_m10_third := kDec_of (by decide +kernel)
def kl_m10_owes : List (Nat × Instr × Nat × Nat) := [(0, .aload_n 0, 1, 1), (1, .aload_n 0, 1, 2), (2, .iload_n 1, 1, 3), (3, .iload_n 2, 1, 4), (4, .invokevirtual 221, 3, 7), (7, .invokevirtual 154, 3, 10), (10, .ifCond .eq 19, 3, 13), (13, .aload_n 0, 1, 14), (14, .getfield 35, 3, 17), (17, .getfield 299, 3, 20), (20, .iload_n 1, 1, 21), (21, .iconst 5, 1, 22), (22, .imul, 1, 23), (23, .iload_n 2, 1, 24), (24, .iadd, 1, 25), (25, .iaload, 1, 26), (26, .goto 4, 3, 29), (29, .iconst (-1), 1, 30), (30, .ireturn, 1, 31)]
theorem kd_m10_owes : kDec m10_owes kl_m10_owes := kDec_of (by decide +kernel)
def kl_m10_net : List (Nat × Instr × Nat × Nat) := [(0, .aload_n 0, 1, 1), (1, .aload_n 0, 1, 2), (2, .iload_n 1, 1, 3), (3, .invokevirtual 115, 3, 6), (6, .invokevirtual 154, 3, 9), (9, .ifCond .ne 7, 3, 12), (12, .ldc_w 302, 3, 15), (15, .ireturn, 1, 16), (16, .aload_n 0, 1, 17), (17, .getfield 82, 3, 20), (20, .aload_n 0, 1, 21), (21, .getfield 35, 3, 24), (24, .aload_n 0, 1, 25), (25, .getfield 16, 3, 28), (28, .getfield 112, 3, 31), (31, .invokevirtual 303, 3, 34), (34, .aload_n 0, 1, 35), (35, .getfield 82, 3, 38), (38, .getfield 307, 3, 41), (41, .iload_n 1, 1, 42), (42, .iaload, 1, 43), (43, .ireturn, 1, 44)]
theorem kd_m10_net : kDec m10_net kl_m10_net := kDec_of (by decide +kernel)
def kl_m10_due : List (Nat × Instr × Nat × Nat) := [(0, .aload_n 0, 1, 1), (1, .aload_n 0, 1, 2), (2, .getfield 108, 3, 5), (5, .invokevirtual 154, 3, 8), (8, .ifCond .ne 5, 3, 11), (11, .iconst (-1), 1, 12), (12, .ireturn, 1, 13), (13, .aload_n 0, 1, 14), (14, .getfield 82, 3, 17), (17, .aload_n 0, 1, 18), (18, .getfield 35, 3, 21), (21, .aload_n 0, 1, 22), (22, .getfield 16, 3, 25), (25, .getfield 112, 3, 28), (28, .invokevirtual 303, 3, 31), (31, .aload_n 0, 1, 32), (32, .getfield 82, 3, 35), (35, .invokevirtual 310, 3, 38), (38, .ireturn, 1, 39)]
theorem kd_m10_due : kDec m10_due kl_m10_due := kDec_of (by decide +kernel)
def kl_m10_creditor : List (Nat × Instr × Nat × Nat) := [(0, .aload_n 0, 1, 1), (1, .aload_n 0, 1, 2), (2, .getfield 108, 3, 5), (5, .invokevirtual 154, 3, 8), (8, .ifCond .ne 5, 3, 11), (11, .iconst (-1), 1, 12), (12, .ireturn, 1, 13), (13, .aload_n 0, 1, 14), (14, .getfield 82, 3, 17), (17, .aload_n 0, 1, 18), (18, .getfield 35, 3, 21), (21, .aload_n 0, 1, 22), (22, .getfield 16, 3, 25), (25, .getfield 112, 3, 28), (28, .invokevirtual 303, 3, 31), (31, .aload_n 0, 1, 32), (32, .getfield 82, 3, 35), (35, .getfield 307, 3, 38), (38, .aload_n 0, 1, 39), (39, .getfield 16, 3, 42), (42, .getfield 112, 3, 45), (45, .invokestatic 227, 3, 48), (48, .ireturn, 1, 49)]
theorem kd_m10_creditor : kDec m10_creditor kl_m10_creditor := kDec_of (by decide +kernel)
def kl_m10_payments : List (Nat × Instr × Nat × Nat) := [(0, .aload_n 0, 1, 1), (1, .aload_n 0, 1, 2), (2, .getfield 108, 3, 5), (5, .invokevirtual 154, 3, 8), (8, .ifCond .ne 5, 3, 11), (11, .iconst (-1), 1, 12), (12, .ireturn, 1, 13), (13, .aload_n 0, 1, 14), (14, .getfield 82, 3, 17), (17, .aload_n 0, 1, 18), (18, .getfield 35, 3, 21), (21, .aload_n 0, 1, 22), (22, .getfield 16, 3, 25), (25, .getfield 112, 3, 28), (28, .invokevirtual 303, 3, 31), (31, .aload_n 0, 1, 32), (32, .getfield 82, 3, 35), (35, .invokevirtual 313, 3, 38), (38, .ireturn, 1, 39)]
theorem kd_m10_payments : kDec m10_payments kl_m10_payments := kDec_of (by decide +kernel)
def kl_m10_ring : List (Nat × Instr × Nat × Nat) := [(0, .aload_n 0, 1, 1), (1, .aload_n 0, 1, 2), (2, .iload_n 1, 1, 3), (3, .invokevirtual 115, 3, 6), (6, .invokevirtual 154, 3, 9), (9, .ifCond .ne 5, 3, 12), (12, .iconst (-1), 1, 13), (13, .ireturn, 1, 14), (14, .aload_n 0, 1, 15), (15, .getfield 82, 3, 18), (18, .aload_n 0, 1, 19), (19, .getfield 35, 3, 22), (22, .aload_n 0, 1, 23), (23, .getfield 16, 3, 26), (26, .getfield 112, 3, 29), (29, .iload_n 1, 1, 30), (30, .invokevirtual 316, 3, 33), (33, .aload_n 0, 1, 34), (34, .getfield 82, 3, 37), (37, .getfield 320, 3, 40), (40, .ifCond .ne 8, 3, 43), (43, .bipush (-2), 2, 45), (45, .goto 10, 3, 48), (48, .aload_n 0, 1, 49), (49, .getfield 82, 3, 52), (52, .getfield 320, 3, 55), (55, .ireturn, 1, 56)]
theorem kd_m10_ring : kDec m10_ring kl_m10_ring := kDec_of (by decide +kernel)
def kl_m10_ringAt : List (Nat × Instr × Nat × Nat) := [(0, .aload_n 0, 1, 1), (1, .aload_n 0, 1, 2), (2, .iload_n 1, 1, 3), (3, .invokevirtual 115, 3, 6), (6, .invokevirtual 154, 3, 9), (9, .ifCond .ne 5, 3, 12), (12, .iconst (-1), 1, 13), (13, .ireturn, 1, 14), (14, .aload_n 0, 1, 15), (15, .getfield 82, 3, 18), (18, .aload_n 0, 1, 19), (19, .getfield 35, 3, 22), (22, .aload_n 0, 1, 23), (23, .getfield 16, 3, 26), (26, .getfield 112, 3, 29), (29, .iload_n 1, 1, 30), (30, .invokevirtual 316, 3, 33), (33, .iload_n 2, 1, 34), (34, .ifCond .lt 26, 3, 37), (37, .iload_n 2, 1, 38), (38, .aload_n 0, 1, 39), (39, .getfield 82, 3, 42), (42, .getfield 320, 3, 45), (45, .if_icmp .ge 15, 3, 48), (48, .aload_n 0, 1, 49), (49, .getfield 82, 3, 52), (52, .getfield 323, 3, 55), (55, .iload_n 2, 1, 56), (56, .iaload, 1, 57), (57, .goto 8, 3, 60), (60, .aload_n 0, 1, 61), (61, .iconst 1, 1, 62), (62, .invokevirtual 130, 3, 65), (65, .ireturn, 1, 66)]
theorem kd_m10_ringAt : kDec m10_ringAt kl_m10_ringAt := kDec_of (by decide +kernel)
def kl_m10_share : List (Nat × Instr × Nat × Nat) := [(0, .iload_n 1, 1, 1), (1, .ifCond .eq 15, 3, 4), (4, .iload_n 2, 1, 5), (5, .ifCond .eq 9, 3, 8), (8, .iconst 1, 1, 9), (9, .iload_n 0, 1, 10), (10, .isub, 1, 11), (11, .goto 4, 3, 14), (14, .iconst 4, 1, 15), (15, .ireturn, 1, 16), (16, .iload_n 2, 1, 17), (17, .ifCond .eq 7, 3, 20), (20, .iconst (-1), 1, 21), (21, .goto 4, 3, 24), (24, .iconst 0, 1, 25), (25, .ireturn, 1, 26)]
theorem kd_m10_share : kDec m10_share kl_m10_share := kDec_of (by decide +kernel)
def kl_m10_isRest : List (Nat × Instr × Nat × Nat) := [(0, .iload_n 0, 1, 1), (1, .iload_n 1, 1, 2), (2, .iload_n 2, 1, 3), (3, .invokestatic 326, 3, 6), (6, .iload_n 0, 1, 7), (7, .iload_n 1, 1, 8), (8, .ifCond .ne 7, 3, 11), (11, .iconst 1, 1, 12), (12, .goto 4, 3, 15), (15, .iconst 0, 1, 16), (16, .iload_n 2, 1, 17), (17, .invokestatic 326, 3, 20), (20, .if_icmp .lt 30, 3, 23), (23, .iload_n 0, 1, 24), (24, .iload_n 2, 1, 25), (25, .iload_n 1, 1, 26), (26, .invokestatic 326, 3, 29), (29, .iload_n 0, 1, 30), (30, .iload_n 2, 1, 31), (31, .ifCond .ne 7, 3, 34), (34, .iconst 1, 1, 35), (35, .goto 4, 3, 38), (38, .iconst 0, 1, 39), (39, .iload_n 1, 1, 40), (40, .invokestatic 326, 3, 43), (43, .if_icmp .lt 7, 3, 46), (46, .iconst 1, 1, 47), (47, .goto 4, 3, 50), (50, .iconst 0, 1, 51), (51, .ireturn, 1, 52)]
theorem kd_m10_isRest : kDec m10_isRest kl_m10_isRest := kDec_of (by decide +kernel)
def kl_m10_isRestAt : List (Nat × Instr × Nat × Nat) := [(0, .iload_n 0, 1, 1), (1, .iload_n 1, 1, 2), (2, .iconst 2, 1, 3), (3, .if_icmp .lt 7, 3, 6), (6, .iconst 1, 1, 7), (7, .goto 4, 3, 10), (10, .iconst 0, 1, 11), (11, .iload_n 1, 1, 12), (12, .iconst 2, 1, 13), (13, .irem, 1, 14), (14, .iconst 1, 1, 15), (15, .if_icmp .ne 7, 3, 18), (18, .iconst 1, 1, 19), (19, .goto 4, 3, 22), (22, .iconst 0, 1, 23), (23, .invokestatic 330, 3, 26), (26, .ireturn, 1, 27)]
theorem kd_m10_isRestAt : kDec m10_isRestAt kl_m10_isRestAt := kDec_of (by decide +kernel)
def kl_m10_talks : List (Nat × Instr × Nat × Nat) := [(0, .aload_n 0, 1, 1), (1, .aload_n 0, 1, 2), (2, .getfield 108, 3, 5), (5, .iload_n 1, 1, 6), (6, .bipush 9, 2, 8), (8, .invokestatic 126, 3, 11), (11, .invokevirtual 104, 3, 14), (14, .ifCond .ne 6, 3, 17), (17, .bipush (-100), 2, 19), (19, .ireturn, 1, 20), (20, .iload 4, 2, 22), (22, .ifCond .eq 12, 3, 25), (25, .iload_n 1, 1, 26), (26, .iload_n 3, 1, 27), (27, .iload_n 2, 1, 28), (28, .invokestatic 326, 3, 31), (31, .goto 9, 3, 34), (34, .iload_n 1, 1, 35), (35, .iload_n 2, 1, 36), (36, .iload_n 3, 1, 37), (37, .invokestatic 326, 3, 40), (40, .ireturn, 1, 41)]
theorem kd_m10_talks : kDec m10_talks kl_m10_talks := kDec_of (by decide +kernel)
def kl_m10_rests : List (Nat × Instr × Nat × Nat) := [(0, .aload_n 0, 1, 1), (1, .aload_n 0, 1, 2), (2, .getfield 108, 3, 5), (5, .iload_n 1, 1, 6), (6, .bipush 9, 2, 8), (8, .invokestatic 126, 3, 11), (11, .invokevirtual 104, 3, 14), (14, .ifCond .ne 5, 3, 17), (17, .iconst (-1), 1, 18), (18, .ireturn, 1, 19), (19, .iconst 0, 1, 20), (20, .istore_n 2, 1, 21), (21, .iconst 0, 1, 22), (22, .istore_n 3, 1, 23), (23, .iload_n 3, 1, 24), (24, .iconst 4, 1, 25), (25, .if_icmp .ge 20, 3, 28), (28, .iload_n 1, 1, 29), (29, .iload_n 3, 1, 30), (30, .invokestatic 334, 3, 33), (33, .ifCond .eq 6, 3, 36), (36, .iinc 2 1, 3, 39), (39, .iinc 3 1, 3, 42), (42, .goto (-19), 3, 45), (45, .iload_n 2, 1, 46), (46, .ireturn, 1, 47)]
theorem kd_m10_rests : kDec m10_rests kl_m10_rests := kDec_of (by decide +kernel)
def kl_m10_rest : List (Nat × Instr × Nat × Nat) := [(0, .aload_n 0, 1, 1), (1, .aload_n 0, 1, 2), (2, .getfield 108, 3, 5), (5, .iload_n 1, 1, 6), (6, .bipush 9, 2, 8), (8, .invokestatic 126, 3, 11), (11, .invokevirtual 104, 3, 14), (14, .ifCond .ne 5, 3, 17), (17, .iconst (-1), 1, 18), (18, .ireturn, 1, 19), (19, .iconst 0, 1, 20), (20, .istore_n 2, 1, 21), (21, .iload_n 2, 1, 22), (22, .iconst 4, 1, 23), (23, .if_icmp .ge 28, 3, 26), (26, .iload_n 1, 1, 27), (27, .iload_n 2, 1, 28), (28, .invokestatic 334, 3, 31), (31, .ifCond .eq 14, 3, 34), (34, .iload_n 2, 1, 35), (35, .iconst 2, 1, 36), (36, .idiv, 1, 37), (37, .bipush 10, 2, 39), (39, .imul, 1, 40), (40, .iload_n 2, 1, 41), (41, .iconst 2, 1, 42), (42, .irem, 1, 43), (43, .iadd, 1, 44), (44, .ireturn, 1, 45), (45, .iinc 2 1, 3, 48), (48, .goto (-27), 3, 51), (51, .bipush (-2), 2, 53), (53, .ireturn, 1, 54)]
theorem kd_m10_rest : kDec m10_rest kl_m10_rest := kDec_of (by decide +kernel)
def kl_m10_verdictOdds : List (Nat × Instr × Nat × Nat) := [(0, .aload_n 0, 1, 1), (1, .aload_n 0, 1, 2), (2, .iload_n 1, 1, 3), (3, .invokevirtual 115, 3, 6), (6, .iload_n 2, 1, 7), (7, .iconst 4, 1, 8), (8, .invokestatic 126, 3, 11), (11, .invokevirtual 104, 3, 14), (14, .ifCond .ne 7, 3, 17), (17, .ldc2_w 337, 3, 20), (20, .lreturn, 1, 21), (21, .aload_n 0, 1, 22), (22, .getfield 89, 3, 25), (25, .aload_n 0, 1, 26), (26, .getfield 16, 3, 29), (29, .getfield 112, 3, 32), (32, .iload_n 1, 1, 33), (33, .iload_n 2, 1, 34), (34, .invokevirtual 339, 3, 37), (37, .aload_n 0, 1, 38), (38, .getfield 96, 3, 41), (41, .aload_n 0, 1, 42), (42, .getfield 89, 3, 45), (45, .getfield 342, 3, 48), (48, .i2l, 1, 49), (49, .aload_n 0, 1, 50), (50, .getfield 89, 3, 53), (53, .getfield 345, 3, 56), (56, .i2l, 1, 57), (57, .invokevirtual 348, 3, 60), (60, .aload_n 0, 1, 61), (61, .getfield 96, 3, 64), (64, .iload_n 3, 1, 65), (65, .invokevirtual 352, 3, 68), (68, .lreturn, 1, 69)]
theorem kd_m10_verdictOdds : kDec m10_verdictOdds kl_m10_verdictOdds := kDec_of (by decide +kernel)
def kl_m10_looks : List (Nat × Instr × Nat × Nat) := [(0, .aload_n 0, 1, 1), (1, .aload_n 0, 1, 2), (2, .iload_n 1, 1, 3), (3, .invokevirtual 115, 3, 6), (6, .iload_n 2, 1, 7), (7, .ldc_w 356, 3, 10), (10, .invokestatic 126, 3, 13), (13, .ifCond .eq 17, 3, 16), (16, .iload_n 3, 1, 17), (17, .sipush 200, 3, 20), (20, .invokestatic 126, 3, 23), (23, .ifCond .eq 7, 3, 26), (26, .iconst 1, 1, 27), (27, .goto 4, 3, 30), (30, .iconst 0, 1, 31), (31, .invokevirtual 104, 3, 34), (34, .ifCond .ne 5, 3, 37), (37, .iconst (-1), 1, 38), (38, .ireturn, 1, 39), (39, .aload_n 0, 1, 40), (40, .getfield 89, 3, 43), (43, .aload_n 0, 1, 44), (44, .getfield 16, 3, 47), (47, .getfield 112, 3, 50), (50, .iload_n 2, 1, 51), (51, .iload_n 3, 1, 52), (52, .invokevirtual 357, 3, 55), (55, .aload_n 0, 1, 56), (56, .getfield 89, 3, 59), (59, .getfield 360, 3, 62), (62, .iload_n 1, 1, 63), (63, .iaload, 1, 64), (64, .ireturn, 1, 65)]
theorem kd_m10_looks : kDec m10_looks kl_m10_looks := kDec_of (by decide +kernel)
def kl_m10_verdict : List (Nat × Instr × Nat × Nat) := [(0, .aload_n 0, 1, 1), (1, .aload_n 0, 1, 2), (2, .getfield 108, 3, 5), (5, .iload_n 1, 1, 6), (6, .ldc_w 356, 3, 9), (9, .invokestatic 126, 3, 12), (12, .ifCond .eq 17, 3, 15), (15, .iload_n 2, 1, 16), (16, .sipush 200, 3, 19), (19, .invokestatic 126, 3, 22), (22, .ifCond .eq 7, 3, 25), (25, .iconst 1, 1, 26), (26, .goto 4, 3, 29), (29, .iconst 0, 1, 30), (30, .invokevirtual 104, 3, 33), (33, .ifCond .ne 5, 3, 36), (36, .iconst (-1), 1, 37), (37, .ireturn, 1, 38), (38, .aload_n 0, 1, 39), (39, .getfield 89, 3, 42), (42, .aload_n 0, 1, 43), (43, .getfield 16, 3, 46), (46, .getfield 112, 3, 49), (49, .iload_n 1, 1, 50), (50, .iload_n 2, 1, 51), (51, .invokevirtual 357, 3, 54), (54, .aload_n 0, 1, 55), (55, .getfield 89, 3, 58), (58, .getfield 360, 3, 61), (61, .aload_n 0, 1, 62), (62, .getfield 16, 3, 65), (65, .getfield 112, 3, 68), (68, .invokestatic 227, 3, 71), (71, .ireturn, 1, 72)]
theorem kd_m10_verdict : kDec m10_verdict kl_m10_verdict := kDec_of (by decide +kernel)
def kl_m10_drawFrom : List (Nat × Instr × Nat × Nat) := [(0, .bipush 75, 2, 2), (2, .iload_n 0, 1, 3), (3, .imul, 1, 4), (4, .bipush 74, 2, 6), (6, .iadd, 1, 7), (7, .ldc_w 363, 3, 10), (10, .irem, 1, 11), (11, .ireturn, 1, 12)]
theorem kd_m10_drawFrom : kDec m10_drawFrom kl_m10_drawFrom := kDec_of (by decide +kernel)
def kl_m10_odds : List (Nat × Instr × Nat × Nat) := [(0, .aload_n 0, 1, 1), (1, .aload_n 0, 1, 2), (2, .iload_n 1, 1, 3), (3, .invokevirtual 115, 3, 6), (6, .iload_n 2, 1, 7), (7, .iconst 5, 1, 8), (8, .invokestatic 126, 3, 11), (11, .ifCond .eq 16, 3, 14), (14, .iload_n 3, 1, 15), (15, .bipush 99, 2, 17), (17, .invokestatic 126, 3, 20), (20, .ifCond .eq 7, 3, 23), (23, .iconst 1, 1, 24), (24, .goto 4, 3, 27), (27, .iconst 0, 1, 28), (28, .invokevirtual 104, 3, 31), (31, .ifCond .ne 7, 3, 34), (34, .ldc2_w 337, 3, 37), (37, .lreturn, 1, 38), (38, .lconst 0, 1, 39), (39, .lstore 5, 2, 41), (41, .iconst 0, 1, 42), (42, .istore 7, 2, 44), (44, .iload 7, 2, 46), (46, .iconst 1, 1, 47), (47, .iload_n 2, 1, 48), (48, .ishl, 1, 49), (49, .if_icmp .ge 37, 3, 52), (52, .aload_n 0, 1, 53), (53, .iload_n 1, 1, 54), (54, .iload_n 2, 1, 55), (55, .iload 7, 2, 57), (57, .invokevirtual 364, 3, 60), (60, .lstore 8, 2, 62), (62, .aload_n 0, 1, 63), (63, .getfield 54, 3, 66), (66, .getfield 181, 3, 69), (69, .iload_n 3, 1, 70), (70, .if_icmp .lt 10, 3, 73), (73, .lload 5, 2, 75), (75, .lload 8, 2, 77), (77, .ladd, 1, 78), (78, .lstore 5, 2, 80), (80, .iinc 7 1, 3, 83), (83, .goto (-39), 3, 86), (86, .aload_n 0, 1, 87), (87, .getfield 96, 3, 90), (90, .lload 5, 2, 92), (92, .iload_n 2, 1, 93), (93, .invokestatic 368, 3, 96), (96, .invokevirtual 348, 3, 99), (99, .aload_n 0, 1, 100), (100, .getfield 96, 3, 103), (103, .iload 4, 2, 105), (105, .invokevirtual 352, 3, 108), (108, .lreturn, 1, 109)]
theorem kd_m10_odds : kDec m10_odds kl_m10_odds := kDec_of (by decide +kernel)
def kl_m10_mean : List (Nat × Instr × Nat × Nat) := [(0, .aload_n 0, 1, 1), (1, .aload_n 0, 1, 2), (2, .iload_n 1, 1, 3), (3, .invokevirtual 115, 3, 6), (6, .iload_n 2, 1, 7), (7, .iconst 5, 1, 8), (8, .invokestatic 126, 3, 11), (11, .invokevirtual 104, 3, 14), (14, .ifCond .ne 7, 3, 17), (17, .ldc2_w 337, 3, 20), (20, .lreturn, 1, 21), (21, .lconst 0, 1, 22), (22, .lstore 4, 2, 24), (24, .iconst 0, 1, 25), (25, .istore 6, 2, 27), (27, .iload 6, 2, 29), (29, .iconst 1, 1, 30), (30, .iload_n 2, 1, 31), (31, .ishl, 1, 32), (32, .if_icmp .ge 35, 3, 35), (35, .aload_n 0, 1, 36), (36, .iload_n 1, 1, 37), (37, .iload_n 2, 1, 38), (38, .iload 6, 2, 40), (40, .invokevirtual 364, 3, 43), (43, .lstore 7, 2, 45), (45, .lload 4, 2, 47), (47, .lload 7, 2, 49), (49, .aload_n 0, 1, 50), (50, .getfield 54, 3, 53), (53, .getfield 181, 3, 56), (56, .i2l, 1, 57), (57, .lmul, 1, 58), (58, .ladd, 1, 59), (59, .lstore 4, 2, 61), (61, .iinc 6 1, 3, 64), (64, .goto (-37), 3, 67), (67, .aload_n 0, 1, 68), (68, .getfield 96, 3, 71), (71, .lload 4, 2, 73), (73, .iload_n 2, 1, 74), (74, .invokestatic 368, 3, 77), (77, .invokevirtual 348, 3, 80), (80, .aload_n 0, 1, 81), (81, .getfield 96, 3, 84), (84, .iload_n 3, 1, 85), (85, .invokevirtual 352, 3, 88), (88, .lreturn, 1, 89)]
theorem kd_m10_mean : kDec m10_mean kl_m10_mean := kDec_of (by decide +kernel)
def kl_m10_goWithDumb : List (Nat × Instr × Nat × Nat) := [(0, .lconst 1, 1, 1), (1, .lstore 4, 2, 3), (3, .aload_n 0, 1, 4), (4, .getfield 54, 3, 7), (7, .aload_n 0, 1, 8), (8, .getfield 16, 3, 11), (11, .aload_n 0, 1, 12), (12, .getfield 35, 3, 15), (15, .iload_n 1, 1, 16), (16, .invokevirtual 175, 3, 19), (19, .iconst 0, 1, 20), (20, .istore 6, 2, 22), (22, .iload 6, 2, 24), (24, .iload_n 2, 1, 25), (25, .if_icmp .ge 64, 3, 28), (28, .iload_n 3, 1, 29), (29, .iload 6, 2, 31), (31, .ishr, 1, 32), (32, .iconst 1, 1, 33), (33, .iand, 1, 34), (34, .ifCond .eq 26, 3, 37), (37, .lload 4, 2, 39), (39, .aload_n 0, 1, 40), (40, .getfield 16, 3, 43), (43, .getfield 372, 3, 46), (46, .i2l, 1, 47), (47, .lmul, 1, 48), (48, .lstore 4, 2, 50), (50, .aload_n 0, 1, 51), (51, .getfield 54, 3, 54), (54, .invokevirtual 375, 3, 57), (57, .goto 26, 3, 60), (60, .lload 4, 2, 62), (62, .bipush 100, 2, 64), (64, .aload_n 0, 1, 65), (65, .getfield 16, 3, 68), (68, .getfield 372, 3, 71), (71, .isub, 1, 72), (72, .i2l, 1, 73), (73, .lmul, 1, 74), (74, .lstore 4, 2, 76), (76, .aload_n 0, 1, 77), (77, .getfield 54, 3, 80), (80, .invokevirtual 188, 3, 83), (83, .iinc 6 1, 3, 86), (86, .goto (-64), 3, 89), (89, .lload 4, 2, 91), (91, .lreturn, 1, 92)]
theorem kd_m10_goWithDumb : kDec m10_goWithDumb kl_m10_goWithDumb := kDec_of (by decide +kernel)
def kl_m10_allChances : List (Nat × Instr × Nat × Nat) := [(0, .lconst 1, 1, 1), (1, .lstore_n 1, 1, 2), (2, .iconst 0, 1, 3), (3, .istore_n 3, 1, 4), (4, .iload_n 3, 1, 5), (5, .iload_n 0, 1, 6), (6, .if_icmp .ge 15, 3, 9), (9, .lload_n 1, 1, 10), (10, .ldc2_w 378, 3, 13), (13, .lmul, 1, 14), (14, .lstore_n 1, 1, 15), (15, .iinc 3 1, 3, 18), (18, .goto (-14), 3, 21), (21, .lload_n 1, 1, 22), (22, .lreturn, 1, 23)]
theorem kd_m10_allChances : kDec m10_allChances kl_m10_allChances := kDec_of (by decide +kernel)
def kl_m10_drawn : List (Nat × Instr × Nat × Nat) := [(0, .aload_n 0, 1, 1), (1, .aload_n 0, 1, 2), (2, .iload_n 1, 1, 3), (3, .invokevirtual 115, 3, 6), (6, .iload_n 2, 1, 7), (7, .ldc_w 356, 3, 10), (10, .invokestatic 126, 3, 13), (13, .ifCond .eq 16, 3, 16), (16, .iload_n 3, 1, 17), (17, .bipush 60, 2, 19), (19, .invokestatic 126, 3, 22), (22, .ifCond .eq 7, 3, 25), (25, .iconst 1, 1, 26), (26, .goto 4, 3, 29), (29, .iconst 0, 1, 30), (30, .invokevirtual 104, 3, 33), (33, .ifCond .ne 5, 3, 36), (36, .iconst (-1), 1, 37), (37, .ireturn, 1, 38), (38, .iload_n 2, 1, 39), (39, .istore 4, 2, 41), (41, .aload_n 0, 1, 42), (42, .getfield 54, 3, 45), (45, .aload_n 0, 1, 46), (46, .getfield 16, 3, 49), (49, .aload_n 0, 1, 50), (50, .getfield 35, 3, 53), (53, .iload_n 1, 1, 54), (54, .invokevirtual 175, 3, 57), (57, .iconst 0, 1, 58), (58, .istore 5, 2, 60), (60, .iload 5, 2, 62), (62, .iload_n 3, 1, 63), (63, .if_icmp .ge 48, 3, 66), (66, .iload 4, 2, 68), (68, .invokestatic 380, 3, 71), (71, .istore 4, 2, 73), (73, .iload 4, 2, 75), (75, .bipush 100, 2, 77), (77, .irem, 1, 78), (78, .aload_n 0, 1, 79), (79, .getfield 16, 3, 82), (82, .getfield 372, 3, 85), (85, .if_icmp .ge 13, 3, 88), (88, .aload_n 0, 1, 89), (89, .getfield 54, 3, 92), (92, .invokevirtual 375, 3, 95), (95, .goto 10, 3, 98), (98, .aload_n 0, 1, 99), (99, .getfield 54, 3, 102), (102, .invokevirtual 188, 3, 105), (105, .iinc 5 1, 3, 108), (108, .goto (-48), 3, 111), (111, .aload_n 0, 1, 112), (112, .getfield 54, 3, 115), (115, .getfield 181, 3, 118), (118, .ireturn, 1, 119)]
theorem kd_m10_drawn : kDec m10_drawn kl_m10_drawn := kDec_of (by decide +kernel)
def kl_m10_season : List (Nat × Instr × Nat × Nat) := [(0, .aload_n 0, 1, 1), (1, .aload_n 0, 1, 2), (2, .getfield 108, 3, 5), (5, .invokevirtual 154, 3, 8), (8, .ifCond .ne 5, 3, 11), (11, .iconst (-1), 1, 12), (12, .ireturn, 1, 13), (13, .aload_n 0, 1, 14), (14, .getfield 35, 3, 17), (17, .getfield 383, 3, 20), (20, .sipush 999, 3, 23), (23, .if_icmp .lt 9, 3, 26), (26, .aload_n 0, 1, 27), (27, .iconst 3, 1, 28), (28, .invokevirtual 130, 3, 31), (31, .ireturn, 1, 32), (32, .aload_n 0, 1, 33), (33, .getfield 42, 3, 36), (36, .aload_n 0, 1, 37), (37, .getfield 35, 3, 40), (40, .invokevirtual 386, 3, 43), (43, .aload_n 0, 1, 44), (44, .iconst 1, 1, 45), (45, .invokevirtual 224, 3, 48), (48, .aload_n 0, 1, 49), (49, .getfield 61, 3, 52), (52, .iconst 0, 1, 53), (53, .aload_n 0, 1, 54), (54, .getfield 35, 3, 57), (57, .getfield 157, 3, 60), (60, .iconst 0, 1, 61), (61, .aload_n 0, 1, 62), (62, .getfield 16, 3, 65), (65, .getfield 112, 3, 68), (68, .invokestatic 390, 3, 71), (71, .aload_n 0, 1, 72), (72, .getfield 35, 3, 75), (75, .dup, 1, 76), (76, .getfield 383, 3, 79), (79, .iconst 1, 1, 80), (80, .iadd, 1, 81), (81, .putfield 383, 3, 84), (84, .aload_n 0, 1, 85), (85, .aload_n 0, 1, 86), (86, .getfield 35, 3, 89), (89, .getfield 157, 3, 92), (92, .invokevirtual 236, 3, 95), (95, .ireturn, 1, 96)]
theorem kd_m10_season : kDec m10_season kl_m10_season := kDec_of (by decide +kernel)
def kl_m10_change : List (Nat × Instr × Nat × Nat) := [(0, .aload_n 0, 1, 1), (1, .aload_n 0, 1, 2), (2, .iload_n 1, 1, 3), (3, .invokevirtual 115, 3, 6), (6, .invokevirtual 154, 3, 9), (9, .ifCond .ne 5, 3, 12), (12, .iconst (-1), 1, 13), (13, .ireturn, 1, 14), (14, .aload_n 0, 1, 15), (15, .getfield 16, 3, 18), (18, .getfield 163, 3, 21), (21, .aload_n 0, 1, 22), (22, .getfield 35, 3, 25), (25, .getfield 157, 3, 28), (28, .iload_n 1, 1, 29), (29, .iaload, 1, 30), (30, .isub, 1, 31), (31, .istore_n 2, 1, 32), (32, .iload_n 2, 1, 33), (33, .aload_n 0, 1, 34), (34, .getfield 35, 3, 37), (37, .getfield 157, 3, 40), (40, .iload_n 1, 1, 41), (41, .iaload, 1, 42), (42, .if_icmp .ne 9, 3, 45), (45, .aload_n 0, 1, 46), (46, .iconst 5, 1, 47), (47, .invokevirtual 130, 3, 50), (50, .ireturn, 1, 51), (51, .aload_n 0, 1, 52), (52, .getfield 42, 3, 55), (55, .aload_n 0, 1, 56), (56, .getfield 35, 3, 59), (59, .invokevirtual 386, 3, 62), (62, .aload_n 0, 1, 63), (63, .getfield 35, 3, 66), (66, .getfield 157, 3, 69), (69, .iload_n 1, 1, 70), (70, .iload_n 2, 1, 71), (71, .iastore, 1, 72), (72, .iload_n 2, 1, 73), (73, .ireturn, 1, 74)]
theorem kd_m10_change : kDec m10_change kl_m10_change := kDec_of (by decide +kernel)
def kl_m10_step : List (Nat × Instr × Nat × Nat) := [(0, .aload_n 0, 1, 1), (1, .aload_n 0, 1, 2), (2, .iload_n 1, 1, 3), (3, .invokevirtual 115, 3, 6), (6, .iload_n 2, 1, 7), (7, .bipush 20, 2, 9), (9, .invokestatic 126, 3, 12), (12, .invokevirtual 104, 3, 15), (15, .ifCond .ne 5, 3, 18), (18, .iconst 0, 1, 19), (19, .ireturn, 1, 20), (20, .aload_n 0, 1, 21), (21, .getfield 35, 3, 24), (24, .getfield 166, 3, 27), (27, .iload_n 1, 1, 28), (28, .iaload, 1, 29), (29, .iload_n 2, 1, 30), (30, .if_icmp .ne 9, 3, 33), (33, .aload_n 0, 1, 34), (34, .iconst 5, 1, 35), (35, .invokevirtual 396, 3, 38), (38, .ireturn, 1, 39), (39, .aload_n 0, 1, 40), (40, .getfield 42, 3, 43), (43, .aload_n 0, 1, 44), (44, .getfield 35, 3, 47), (47, .invokevirtual 386, 3, 50), (50, .aload_n 0, 1, 51), (51, .getfield 35, 3, 54), (54, .getfield 166, 3, 57), (57, .iload_n 1, 1, 58), (58, .iload_n 2, 1, 59), (59, .iastore, 1, 60), (60, .iconst 1, 1, 61), (61, .ireturn, 1, 62)]
theorem kd_m10_step : kDec m10_step kl_m10_step := kDec_of (by decide +kernel)
def kl_m10_pay : List (Nat × Instr × Nat × Nat) := [(0, .aload_n 0, 1, 1), (1, .aload_n 0, 1, 2), (2, .iload_n 1, 1, 3), (3, .iload_n 2, 1, 4), (4, .invokevirtual 221, 3, 7), (7, .iload_n 3, 1, 8), (8, .iconst 1, 1, 9), (9, .if_icmp .lt 13, 3, 12), (12, .iload_n 3, 1, 13), (13, .bipush 99, 2, 15), (15, .if_icmp .gt 7, 3, 18), (18, .iconst 1, 1, 19), (19, .goto 4, 3, 22), (22, .iconst 0, 1, 23), (23, .invokevirtual 104, 3, 26), (26, .ifCond .ne 5, 3, 29), (29, .iconst (-1), 1, 30), (30, .ireturn, 1, 31), (31, .iload_n 1, 1, 32), (32, .iconst 5, 1, 33), (33, .imul, 1, 34), (34, .iload_n 2, 1, 35), (35, .iadd, 1, 36), (36, .istore 4, 2, 38), (38, .iload_n 3, 1, 39), (39, .aload_n 0, 1, 40), (40, .getfield 35, 3, 43), (43, .getfield 299, 3, 46), (46, .iload 4, 2, 48), (48, .iaload, 1, 49), (49, .if_icmp .le 9, 3, 52), (52, .aload_n 0, 1, 53), (53, .iconst 5, 1, 54), (54, .invokevirtual 130, 3, 57), (57, .ireturn, 1, 58), (58, .aload_n 0, 1, 59), (59, .getfield 42, 3, 62), (62, .aload_n 0, 1, 63), (63, .getfield 35, 3, 66), (66, .invokevirtual 386, 3, 69), (69, .aload_n 0, 1, 70), (70, .getfield 35, 3, 73), (73, .getfield 299, 3, 76), (76, .iload 4, 2, 78), (78, .dup2, 1, 79), (79, .iaload, 1, 80), (80, .iload_n 3, 1, 81), (81, .isub, 1, 82), (82, .iastore, 1, 83), (83, .aload_n 0, 1, 84), (84, .getfield 35, 3, 87), (87, .getfield 299, 3, 90), (90, .iload 4, 2, 92), (92, .iaload, 1, 93), (93, .ireturn, 1, 94)]
theorem kd_m10_pay : kDec m10_pay kl_m10_pay := kDec_of (by decide +kernel)
def kl_m10_undo : List (Nat × Instr × Nat × Nat) := [(0, .aload_n 0, 1, 1), (1, .getfield 42, 3, 4), (4, .getfield 399, 3, 7), (7, .ifCond .ne 10, 3, 10), (10, .aload_n 0, 1, 11), (11, .bipush 6, 2, 13), (13, .invokevirtual 396, 3, 16), (16, .ireturn, 1, 17), (17, .aload_n 0, 1, 18), (18, .getfield 42, 3, 21), (21, .aload_n 0, 1, 22), (22, .getfield 35, 3, 25), (25, .invokevirtual 400, 3, 28), (28, .aload_n 0, 1, 29), (29, .iconst 0, 1, 30), (30, .putfield 100, 3, 33), (33, .iconst 1, 1, 34), (34, .ireturn, 1, 35)]
theorem kd_m10_undo : kDec m10_undo kl_m10_undo := kDec_of (by decide +kernel)
def kl_m10_image : List (Nat × Instr × Nat × Nat) := [(0, .aload_n 0, 1, 1), (1, .aload_n 0, 1, 2), (2, .getfield 108, 3, 5), (5, .invokevirtual 154, 3, 8), (8, .ifCond .ne 5, 3, 11), (11, .iconst (-1), 1, 12), (12, .ireturn, 1, 13), (13, .aload_n 0, 1, 14), (14, .getfield 145, 3, 17), (17, .iconst 3, 1, 18), (18, .if_icmp .lt 9, 3, 21), (21, .aload_n 0, 1, 22), (22, .iconst 3, 1, 23), (23, .invokevirtual 130, 3, 26), (26, .ireturn, 1, 27), (27, .aload_n 0, 1, 28), (28, .getfield 35, 3, 31), (31, .aload_n 0, 1, 32), (32, .getfield 48, 3, 35), (35, .aload_n 0, 1, 36), (36, .getfield 145, 3, 39), (39, .aaload, 1, 40), (40, .invokevirtual 403, 3, 43), (43, .aload_n 0, 1, 44), (44, .dup, 1, 45), (45, .getfield 145, 3, 48), (48, .iconst 1, 1, 49), (49, .iadd, 1, 50), (50, .putfield 145, 3, 53), (53, .aload_n 0, 1, 54), (54, .getfield 145, 3, 57), (57, .iconst 1, 1, 58), (58, .isub, 1, 59), (59, .ireturn, 1, 60)]
theorem kd_m10_image : kDec m10_image kl_m10_image := kDec_of (by decide +kernel)
def kl_m10_back : List (Nat × Instr × Nat × Nat) := [(0, .aload_n 0, 1, 1), (1, .iload_n 1, 1, 2), (2, .ifCond .lt 15, 3, 5), (5, .iload_n 1, 1, 6), (6, .aload_n 0, 1, 7), (7, .getfield 145, 3, 10), (10, .if_icmp .ge 7, 3, 13), (13, .iconst 1, 1, 14), (14, .goto 4, 3, 17), (17, .iconst 0, 1, 18), (18, .invokevirtual 154, 3, 21), (21, .ifCond .ne 5, 3, 24), (24, .iconst 0, 1, 25), (25, .ireturn, 1, 26), (26, .aload_n 0, 1, 27), (27, .getfield 35, 3, 30), (30, .aload_n 0, 1, 31), (31, .getfield 48, 3, 34), (34, .iload_n 1, 1, 35), (35, .aaload, 1, 36), (36, .invokevirtual 407, 3, 39), (39, .aload_n 0, 1, 40), (40, .getfield 42, 3, 43), (43, .invokevirtual 142, 3, 46), (46, .iconst 1, 1, 47), (47, .ireturn, 1, 48)]
theorem kd_m10_back : kDec m10_back kl_m10_back := kDec_of (by decide +kernel)
def kl_m10_led : List (Nat × Instr × Nat × Nat) := [(0, .iload_n 1, 1, 1), (1, .istore_n 2, 1, 2), (2, .iconst 0, 1, 3), (3, .istore_n 3, 1, 4), (4, .aload_n 0, 1, 5), (5, .getfield 108, 3, 8), (8, .ifCond .eq 45, 3, 11), (11, .iload_n 3, 1, 12), (12, .aload_n 0, 1, 13), (13, .getfield 16, 3, 16), (16, .getfield 112, 3, 19), (19, .if_icmp .ge 34, 3, 22), (22, .aload_n 0, 1, 23), (23, .aload_n 0, 1, 24), (24, .getfield 35, 3, 27), (27, .getfield 157, 3, 30), (30, .iload_n 3, 1, 31), (31, .iaload, 1, 32), (32, .invokevirtual 172, 3, 35), (35, .ifCond .eq 12, 3, 38), (38, .iload_n 2, 1, 39), (39, .ifCond .ne 5, 3, 42), (42, .iload_n 3, 1, 43), (43, .ireturn, 1, 44), (44, .iinc 2 (-1), 3, 47), (47, .iinc 3 1, 3, 50), (50, .goto (-46), 3, 53), (53, .new 410, 3, 56), (56, .dup, 1, 57), (57, .invokespecial 412, 3, 60), (60, .athrow, 1, 61)]
theorem kd_m10_led : kDec m10_led kl_m10_led := kDec_of (by decide +kernel)
def kl_m10_size : List (Nat × Instr × Nat × Nat) := [(0, .iload_n 1, 1, 1), (1, .tableswitch 57 7 10 #[31, 39, 47, 52], 31, 32), (32, .aload_n 0, 1, 33), (33, .getfield 35, 3, 36), (36, .getfield 383, 3, 39), (39, .ireturn, 1, 40), (40, .aload_n 0, 1, 41), (41, .getfield 42, 3, 44), (44, .getfield 399, 3, 47), (47, .ireturn, 1, 48), (48, .aload_n 0, 1, 49), (49, .getfield 145, 3, 52), (52, .ireturn, 1, 53), (53, .aload_n 0, 1, 54), (54, .getfield 119, 3, 57), (57, .ireturn, 1, 58), (58, .aload_n 0, 1, 59), (59, .getfield 16, 3, 62), (62, .iload_n 1, 1, 63), (63, .invokevirtual 413, 3, 66), (66, .ireturn, 1, 67)]
theorem kd_m10_size : kDec m10_size kl_m10_size := kDec_of (by decide +kernel)
def kl_m10_trouble : List (Nat × Instr × Nat × Nat) := [(0, .aload_n 0, 1, 1), (1, .getfield 100, 3, 4), (4, .ireturn, 1, 5)]
theorem kd_m10_trouble : kDec m10_trouble kl_m10_trouble := kDec_of (by decide +kernel)
def kl_m11_thrown : List (Nat × Instr × Nat × Nat) := [(0, .aload_n 0, 1, 1), (1, .getfield 59, 3, 4), (4, .ireturn, 1, 5)]
theorem kd_m11_thrown : kDec m11_thrown kl_m11_thrown := kDec_of (by decide +kernel)
def kl_m11_good : List (Nat × Instr × Nat × Nat) := [(0, .aload_n 0, 1, 1), (1, .iconst 0, 1, 2), (2, .putfield 59, 3, 5), (5, .aload_n 0, 1, 6), (6, .iconst 0, 1, 7), (7, .putfield 62, 3, 10), (10, .return_, 1, 11)]
theorem kd_m11_good : kDec m11_good kl_m11_good := kDec_of (by decide +kernel)
def kl_m11_no : List (Nat × Instr × Nat × Nat) := [(0, .aload_n 0, 1, 1), (1, .iload_n 1, 1, 2), (2, .putfield 62, 3, 5), (5, .iconst (-1), 1, 6), (6, .ireturn, 1, 7)]
theorem kd_m11_no : kDec m11_no kl_m11_no := kDec_of (by decide +kernel)
def kl_m11_isNot : List (Nat × Instr × Nat × Nat) := [(0, .aload_n 0, 1, 1), (1, .iload_n 1, 1, 2), (2, .putfield 62, 3, 5), (5, .iconst 0, 1, 6), (6, .ireturn, 1, 7)]
theorem kd_m11_isNot : kDec m11_isNot kl_m11_isNot := kDec_of (by decide +kernel)
def kl_m11_in : List (Nat × Instr × Nat × Nat) := [(0, .iload_n 0, 1, 1), (1, .iload_n 1, 1, 2), (2, .if_icmp .lt 12, 3, 5), (5, .iload_n 0, 1, 6), (6, .iload_n 2, 1, 7), (7, .if_icmp .gt 7, 3, 10), (10, .iconst 1, 1, 11), (11, .goto 4, 3, 14), (14, .iconst 0, 1, 15), (15, .ireturn, 1, 16)]
theorem kd_m11_in : kDec m11_in kl_m11_in := kDec_of (by decide +kernel)
def kl_m11_hasBit : List (Nat × Instr × Nat × Nat) := [(0, .iload_n 0, 1, 1), (1, .iload_n 1, 1, 2), (2, .ishr, 1, 3), (3, .iconst 1, 1, 4), (4, .iand, 1, 5), (5, .iconst 1, 1, 6), (6, .if_icmp .ne 7, 3, 9), (9, .iconst 1, 1, 10), (10, .goto 4, 3, 13), (13, .iconst 0, 1, 14), (14, .ireturn, 1, 15)]
theorem kd_m11_hasBit : kDec m11_hasBit kl_m11_hasBit := kDec_of (by decide +kernel)
def kl_m11_ones : List (Nat × Instr × Nat × Nat) := [(0, .iconst 0, 1, 1), (1, .istore_n 1, 1, 2), (2, .iconst 0, 1, 3), (3, .istore_n 2, 1, 4), (4, .iload_n 2, 1, 5), (5, .bipush 8, 2, 7), (7, .if_icmp .ge 17, 3, 10), (10, .iload_n 1, 1, 11), (11, .iload_n 0, 1, 12), (12, .iload_n 2, 1, 13), (13, .ishr, 1, 14), (14, .iconst 1, 1, 15), (15, .iand, 1, 16), (16, .iadd, 1, 17), (17, .istore_n 1, 1, 18), (18, .iinc 2 1, 3, 21), (21, .goto (-17), 3, 24), (24, .iload_n 1, 1, 25), (25, .ireturn, 1, 26)]
theorem kd_m11_ones : kDec m11_ones kl_m11_ones := kDec_of (by decide +kernel)
def kl_m11_copy : List (Nat × Instr × Nat × Nat) := [(0, .iconst 0, 1, 1), (1, .istore 5, 2, 3), (3, .iload 5, 2, 5), (5, .iload 4, 2, 7), (7, .if_icmp .ge 21, 3, 10), (10, .aload_n 2, 1, 11), (11, .iload_n 3, 1, 12), (12, .iload 5, 2, 14), (14, .iadd, 1, 15), (15, .aload_n 0, 1, 16), (16, .iload_n 1, 1, 17), (17, .iload 5, 2, 19), (19, .iadd, 1, 20), (20, .iaload, 1, 21), (21, .iastore, 1, 22), (22, .iinc 5 1, 3, 25), (25, .goto (-22), 3, 28), (28, .return_, 1, 29)]
theorem kd_m11_copy : kDec m11_copy kl_m11_copy := kDec_of (by decide +kernel)
def kl_m11_lowest : List (Nat × Instr × Nat × Nat) := [(0, .lload_n 2, 1, 1), (1, .lstore 5, 2, 3), (3, .lload_n 0, 1, 4), (4, .lstore 7, 2, 6), (6, .lload 7, 2, 8), (8, .lconst 0, 1, 9), (9, .lcmp, 1, 10), (10, .ifCond .eq 21, 3, 13), (13, .lload 5, 2, 15), (15, .lload 7, 2, 17), (17, .lrem, 1, 18), (18, .lstore 9, 2, 20), (20, .lload 7, 2, 22), (22, .lstore 5, 2, 24), (24, .lload 9, 2, 26), (26, .lstore 7, 2, 28), (28, .goto (-22), 3, 31), (31, .iload 4, 2, 33), (33, .ifCond .eq 7, 3, 36), (36, .lload_n 2, 1, 37), (37, .goto 4, 3, 40), (40, .lload_n 0, 1, 41), (41, .lload 5, 2, 43), (43, .ldiv, 1, 44), (44, .lreturn, 1, 45)]
theorem kd_m11_lowest : kDec m11_lowest kl_m11_lowest := kDec_of (by decide +kernel)
def kl_m11_feed : List (Nat × Instr × Nat × Nat) := [(0, .aload_n 0, 1, 1), (1, .iconst 0, 1, 2), (2, .putfield 59, 3, 5), (5, .aload_n 0, 1, 6), (6, .getfield 65, 3, 9), (9, .bipush 20, 2, 11), (11, .iadd, 1, 12), (12, .sipush 900, 3, 15), (15, .if_icmp .le 5, 3, 18), (18, .iconst (-1), 1, 19), (19, .ireturn, 1, 20), (20, .iconst 0, 1, 21), (21, .istore 6, 2, 23), (23, .iload 6, 2, 25), (25, .bipush 20, 2, 27), (27, .if_icmp .ge 93, 3, 30), (30, .iload 6, 2, 32), (32, .iconst 4, 1, 33), (33, .if_icmp .ge 7, 3, 36), (36, .iload_n 1, 1, 37), (37, .goto 39, 3, 40), (40, .iload 6, 2, 42), (42, .bipush 8, 2, 44), (44, .if_icmp .ge 7, 3, 47), (47, .iload_n 2, 1, 48), (48, .goto 28, 3, 51), (51, .iload 6, 2, 53), (53, .bipush 12, 2, 55), (55, .if_icmp .ge 7, 3, 58), (58, .iload_n 3, 1, 59), (59, .goto 17, 3, 62), (62, .iload 6, 2, 64), (64, .bipush 16, 2, 66), (66, .if_icmp .ge 8, 3, 69), (69, .iload 4, 2, 71), (71, .goto 5, 3, 74), (74, .iload 5, 2, 76), (76, .istore 7, 2, 78), (78, .aload_n 0, 1, 79), (79, .getfield 7, 3, 82), (82, .aload_n 0, 1, 83), (83, .getfield 65, 3, 86), (86, .iload 7, 2, 88), (88, .bipush 24, 2, 90), (90, .bipush 8, 2, 92), (92, .iload 6, 2, 94), (94, .iconst 4, 1, 95), (95, .irem, 1, 96), (96, .imul, 1, 97), (97, .isub, 1, 98), (98, .ishr, 1, 99), (99, .sipush 255, 3, 102), (102, .iand, 1, 103), (103, .iastore, 1, 104), (104, .aload_n 0, 1, 105), (105, .dup, 1, 106), (106, .getfield 65, 3, 109), (109, .iconst 1, 1, 110), (110, .iadd, 1, 111), (111, .putfield 65, 3, 114), (114, .iinc 6 1, 3, 117), (117, .goto (-94), 3, 120), (120, .aload_n 0, 1, 121), (121, .getfield 65, 3, 124), (124, .ireturn, 1, 125)]
theorem kd_m11_feed : kDec m11_feed kl_m11_feed := kDec_of (by decide +kernel)
def kl_m11_see : List (Nat × Instr × Nat × Nat) := [(0, .iload_n 1, 1, 1), (1, .aload_n 0, 1, 2), (2, .getfield 68, 3, 5), (5, .if_icmp .ge 12, 3, 8), (8, .aload_n 0, 1, 9), (9, .getfield 7, 3, 12), (12, .iload_n 1, 1, 13), (13, .iaload, 1, 14), (14, .goto 4, 3, 17), (17, .iconst (-1), 1, 18), (18, .ireturn, 1, 19)]
theorem kd_m11_see : kDec m11_see kl_m11_see := kDec_of (by decide +kernel)
def kl_m11_isSmall : List (Nat × Instr × Nat × Nat) := [(0, .iload_n 0, 1, 1), (1, .bipush 97, 2, 3), (3, .if_icmp .lt 13, 3, 6), (6, .iload_n 0, 1, 7), (7, .bipush 122, 2, 9), (9, .if_icmp .gt 7, 3, 12), (12, .iconst 1, 1, 13), (13, .goto 4, 3, 16), (16, .iconst 0, 1, 17), (17, .ireturn, 1, 18)]
theorem kd_m11_isSmall : kDec m11_isSmall kl_m11_isSmall := kDec_of (by decide +kernel)
def kl_m11_isDigit : List (Nat × Instr × Nat × Nat) := [(0, .iload_n 0, 1, 1), (1, .bipush 48, 2, 3), (3, .if_icmp .lt 13, 3, 6), (6, .iload_n 0, 1, 7), (7, .bipush 57, 2, 9), (9, .if_icmp .gt 7, 3, 12), (12, .iconst 1, 1, 13), (13, .goto 4, 3, 16), (16, .iconst 0, 1, 17), (17, .ireturn, 1, 18)]
theorem kd_m11_isDigit : kDec m11_isDigit kl_m11_isDigit := kDec_of (by decide +kernel)
def kl_m11_next : List (Nat × Instr × Nat × Nat) := [(0, .aload_n 0, 1, 1), (1, .getfield 71, 3, 4), (4, .istore_n 1, 1, 5), (5, .aload_n 0, 1, 6), (6, .iload_n 1, 1, 7), (7, .invokevirtual 74, 3, 10), (10, .bipush 32, 2, 12), (12, .if_icmp .ne 9, 3, 15), (15, .iinc 1 1, 3, 18), (18, .goto (-13), 3, 21), (21, .aload_n 0, 1, 22), (22, .iload_n 1, 1, 23), (23, .putfield 78, 3, 26), (26, .aload_n 0, 1, 27), (27, .iload_n 1, 1, 28), (28, .invokevirtual 74, 3, 31), (31, .istore_n 2, 1, 32), (32, .aload_n 0, 1, 33), (33, .iconst 0, 1, 34), (34, .putfield 81, 3, 37), (37, .aload_n 0, 1, 38), (38, .iconst 0, 1, 39), (39, .putfield 84, 3, 42), (42, .iload_n 2, 1, 43), (43, .iconst (-1), 1, 44), (44, .if_icmp .ne 16, 3, 47), (47, .aload_n 0, 1, 48), (48, .iconst 0, 1, 49), (49, .putfield 87, 3, 52), (52, .aload_n 0, 1, 53), (53, .iload_n 1, 1, 54), (54, .putfield 71, 3, 57), (57, .goto 184, 3, 60), (60, .iload_n 2, 1, 61), (61, .invokestatic 90, 3, 64), (64, .ifCond .eq 79, 3, 67), (67, .aload_n 0, 1, 68), (68, .iload_n 1, 1, 69), (69, .invokevirtual 74, 3, 72), (72, .invokestatic 90, 3, 75), (75, .ifCond .eq 42, 3, 78), (78, .aload_n 0, 1, 79), (79, .getfield 81, 3, 82), (82, .bipush 8, 2, 84), (84, .if_icmp .ge 17, 3, 87), (87, .aload_n 0, 1, 88), (88, .getfield 17, 3, 91), (91, .aload_n 0, 1, 92), (92, .getfield 81, 3, 95), (95, .aload_n 0, 1, 96), (96, .iload_n 1, 1, 97), (97, .invokevirtual 74, 3, 100), (100, .iastore, 1, 101), (101, .aload_n 0, 1, 102), (102, .dup, 1, 103), (103, .getfield 81, 3, 106), (106, .iconst 1, 1, 107), (107, .iadd, 1, 108), (108, .putfield 81, 3, 111), (111, .iinc 1 1, 3, 114), (114, .goto (-47), 3, 117), (117, .aload_n 0, 1, 118), (118, .iload_n 1, 1, 119), (119, .putfield 71, 3, 122), (122, .aload_n 0, 1, 123), (123, .aload_n 0, 1, 124), (124, .getfield 81, 3, 127), (127, .bipush 8, 2, 129), (129, .if_icmp .le 7, 3, 132), (132, .iconst 1, 1, 133), (133, .goto 4, 3, 136), (136, .iconst 2, 1, 137), (137, .putfield 87, 3, 140), (140, .goto 101, 3, 143), (143, .iload_n 2, 1, 144), (144, .invokestatic 94, 3, 147), (147, .ifCond .eq 72, 3, 150), (150, .iconst 0, 1, 151), (151, .istore_n 3, 1, 152), (152, .aload_n 0, 1, 153), (153, .iload_n 1, 1, 154), (154, .invokevirtual 74, 3, 157), (157, .invokestatic 94, 3, 160), (160, .ifCond .eq 37, 3, 163), (163, .iload_n 3, 1, 164), (164, .iconst 3, 1, 165), (165, .if_icmp .ge 23, 3, 168), (168, .aload_n 0, 1, 169), (169, .bipush 10, 2, 171), (171, .aload_n 0, 1, 172), (172, .getfield 84, 3, 175), (175, .imul, 1, 176), (176, .aload_n 0, 1, 177), (177, .iload_n 1, 1, 178), (178, .invokevirtual 74, 3, 181), (181, .iadd, 1, 182), (182, .bipush 48, 2, 184), (184, .isub, 1, 185), (185, .putfield 84, 3, 188), (188, .iinc 3 1, 3, 191), (191, .iinc 1 1, 3, 194), (194, .goto (-42), 3, 197), (197, .aload_n 0, 1, 198), (198, .iload_n 1, 1, 199), (199, .putfield 71, 3, 202), (202, .aload_n 0, 1, 203), (203, .iload_n 3, 1, 204), (204, .iconst 3, 1, 205), (205, .if_icmp .le 7, 3, 208), (208, .iconst 1, 1, 209), (209, .goto 4, 3, 212), (212, .iconst 3, 1, 213), (213, .putfield 87, 3, 216), (216, .goto 25, 3, 219), (219, .aload_n 0, 1, 220), (220, .iload_n 1, 1, 221), (221, .iconst 1, 1, 222), (222, .iadd, 1, 223), (223, .putfield 71, 3, 226), (226, .aload_n 0, 1, 227), (227, .iload_n 2, 1, 228), (228, .bipush 59, 2, 230), (230, .if_icmp .ne 7, 3, 233), (233, .iload_n 2, 1, 234), (234, .goto 4, 3, 237), (237, .iconst 1, 1, 238), (238, .putfield 87, 3, 241), (241, .return_, 1, 242)]
theorem kd_m11_next : kDec m11_next kl_m11_next := kDec_of (by decide +kernel)
def kl_m11_wrong : List (Nat × Instr × Nat × Nat) := [(0, .aload_n 0, 1, 1), (1, .getfield 97, 3, 4), (4, .ifCond .eq 4, 3, 7), (7, .return_, 1, 8), (8, .aload_n 0, 1, 9), (9, .iconst 1, 1, 10), (10, .putfield 97, 3, 13), (13, .aload_n 0, 1, 14), (14, .iload_n 1, 1, 15), (15, .putfield 101, 3, 18), (18, .aload_n 0, 1, 19), (19, .iload_n 2, 1, 20), (20, .putfield 13, 3, 23), (23, .return_, 1, 24)]
theorem kd_m11_wrong : kDec m11_wrong kl_m11_wrong := kDec_of (by decide +kernel)
def kl_m11_isWord : List (Nat × Instr × Nat × Nat) := [(0, .aload_n 0, 1, 1), (1, .getfield 97, 3, 4), (4, .ifCond .ne 22, 3, 7), (7, .aload_n 0, 1, 8), (8, .getfield 87, 3, 11), (11, .iconst 2, 1, 12), (12, .if_icmp .ne 14, 3, 15), (15, .aload_n 0, 1, 16), (16, .getfield 81, 3, 19), (19, .aload_n 1, 1, 20), (20, .invokevirtual 104, 3, 23), (23, .if_icmp .eq 5, 3, 26), (26, .iconst 0, 1, 27), (27, .ireturn, 1, 28), (28, .iconst 1, 1, 29), (29, .istore_n 2, 1, 30), (30, .iconst 0, 1, 31), (31, .istore_n 3, 1, 32), (32, .iload_n 3, 1, 33), (33, .aload_n 0, 1, 34), (34, .getfield 81, 3, 37), (37, .if_icmp .ge 33, 3, 40), (40, .iload_n 2, 1, 41), (41, .ifCond .eq 21, 3, 44), (44, .aload_n 0, 1, 45), (45, .getfield 17, 3, 48), (48, .iload_n 3, 1, 49), (49, .iaload, 1, 50), (50, .aload_n 1, 1, 51), (51, .iload_n 3, 1, 52), (52, .invokevirtual 110, 3, 55), (55, .if_icmp .ne 7, 3, 58), (58, .iconst 1, 1, 59), (59, .goto 4, 3, 62), (62, .iconst 0, 1, 63), (63, .istore_n 2, 1, 64), (64, .iinc 3 1, 3, 67), (67, .goto (-35), 3, 70), (70, .iload_n 2, 1, 71), (71, .ireturn, 1, 72)]
theorem kd_m11_isWord : kDec m11_isWord kl_m11_isWord := kDec_of (by decide +kernel)
def kl_m11_takesWord : List (Nat × Instr × Nat × Nat) := [(0, .aload_n 0, 1, 1), (1, .aload_n 1, 1, 2), (2, .invokevirtual 114, 3, 5), (5, .ifCond .ne 5, 3, 8), (8, .iconst 0, 1, 9), (9, .ireturn, 1, 10), (10, .aload_n 0, 1, 11), (11, .invokevirtual 118, 3, 14), (14, .iconst 1, 1, 15), (15, .ireturn, 1, 16)]
theorem kd_m11_takesWord : kDec m11_takesWord kl_m11_takesWord := kDec_of (by decide +kernel)
def kl_m11_must : List (Nat × Instr × Nat × Nat) := [(0, .aload_n 0, 1, 1), (1, .getfield 97, 3, 4), (4, .ifCond .ne 20, 3, 7), (7, .aload_n 0, 1, 8), (8, .aload_n 1, 1, 9), (9, .invokevirtual 121, 3, 12), (12, .ifCond .ne 12, 3, 15), (15, .aload_n 0, 1, 16), (16, .iconst 1, 1, 17), (17, .aload_n 0, 1, 18), (18, .getfield 78, 3, 21), (21, .invokevirtual 124, 3, 24), (24, .return_, 1, 25)]
theorem kd_m11_must : kDec m11_must kl_m11_must := kDec_of (by decide +kernel)
def kl_m11_mustName : List (Nat × Instr × Nat × Nat) := [(0, .aload_n 0, 1, 1), (1, .getfield 87, 3, 4), (4, .iconst 2, 1, 5), (5, .if_icmp .ne 57, 3, 8), (8, .aload_n 0, 1, 9), (9, .ldc 128, 2, 11), (11, .invokevirtual 114, 3, 14), (14, .ifCond .ne 48, 3, 17), (17, .aload_n 0, 1, 18), (18, .ldc 130, 2, 20), (20, .invokevirtual 114, 3, 23), (23, .ifCond .ne 39, 3, 26), (26, .aload_n 0, 1, 27), (27, .ldc 132, 2, 29), (29, .invokevirtual 114, 3, 32), (32, .ifCond .ne 30, 3, 35), (35, .aload_n 0, 1, 36), (36, .ldc 134, 2, 38), (38, .invokevirtual 114, 3, 41), (41, .ifCond .ne 21, 3, 44), (44, .aload_n 0, 1, 45), (45, .ldc 136, 2, 47), (47, .invokevirtual 114, 3, 50), (50, .ifCond .ne 12, 3, 53), (53, .aload_n 0, 1, 54), (54, .ldc 138, 2, 56), (56, .invokevirtual 114, 3, 59), (59, .ifCond .eq 12, 3, 62), (62, .aload_n 0, 1, 63), (63, .iconst 1, 1, 64), (64, .aload_n 0, 1, 65), (65, .getfield 78, 3, 68), (68, .invokevirtual 124, 3, 71), (71, .return_, 1, 72)]
theorem kd_m11_mustName : kDec m11_mustName kl_m11_mustName := kDec_of (by decide +kernel)
def kl_m11_find : List (Nat × Instr × Nat × Nat) := [(0, .iconst 0, 1, 1), (1, .istore_n 1, 1, 2), (2, .iload_n 1, 1, 3), (3, .iconst 5, 1, 4), (4, .if_icmp .ge 98, 3, 7), (7, .aload_n 0, 1, 8), (8, .getfield 23, 3, 11), (11, .bipush 50, 2, 13), (13, .iload_n 1, 1, 14), (14, .iadd, 1, 15), (15, .iaload, 1, 16), (16, .ifCond .le 23, 3, 19), (19, .aload_n 0, 1, 20), (20, .getfield 23, 3, 23), (23, .bipush 50, 2, 25), (25, .iload_n 1, 1, 26), (26, .iadd, 1, 27), (27, .iaload, 1, 28), (28, .aload_n 0, 1, 29), (29, .getfield 81, 3, 32), (32, .if_icmp .ne 7, 3, 35), (35, .iconst 1, 1, 36), (36, .goto 4, 3, 39), (39, .iconst 0, 1, 40), (40, .istore_n 2, 1, 41), (41, .iconst 0, 1, 42), (42, .istore_n 3, 1, 43), (43, .iload_n 3, 1, 44), (44, .aload_n 0, 1, 45), (45, .getfield 81, 3, 48), (48, .if_icmp .ge 42, 3, 51), (51, .iload_n 2, 1, 52), (52, .ifCond .eq 38, 3, 55), (55, .aload_n 0, 1, 56), (56, .getfield 23, 3, 59), (59, .bipush 55, 2, 61), (61, .bipush 8, 2, 63), (63, .iload_n 1, 1, 64), (64, .imul, 1, 65), (65, .iadd, 1, 66), (66, .iload_n 3, 1, 67), (67, .iadd, 1, 68), (68, .iaload, 1, 69), (69, .aload_n 0, 1, 70), (70, .getfield 17, 3, 73), (73, .iload_n 3, 1, 74), (74, .iaload, 1, 75), (75, .if_icmp .ne 7, 3, 78), (78, .iconst 1, 1, 79), (79, .goto 4, 3, 82), (82, .iconst 0, 1, 83), (83, .istore_n 2, 1, 84), (84, .iinc 3 1, 3, 87), (87, .goto (-44), 3, 90), (90, .iload_n 2, 1, 91), (91, .ifCond .eq 5, 3, 94), (94, .iload_n 1, 1, 95), (95, .ireturn, 1, 96), (96, .iinc 1 1, 3, 99), (99, .goto (-97), 3, 102), (102, .iconst (-1), 1, 103), (103, .ireturn, 1, 104)]
theorem kd_m11_find : kDec m11_find kl_m11_find := kDec_of (by decide +kernel)
def kl_m11_newName : List (Nat × Instr × Nat × Nat) := [(0, .aload_n 0, 1, 1), (1, .getfield 97, 3, 4), (4, .ifCond .eq 4, 3, 7), (7, .return_, 1, 8), (8, .aload_n 0, 1, 9), (9, .invokevirtual 140, 3, 12), (12, .aload_n 0, 1, 13), (13, .getfield 97, 3, 16), (16, .ifCond .ne 19, 3, 19), (19, .aload_n 0, 1, 20), (20, .invokevirtual 143, 3, 23), (23, .ifCond .lt 12, 3, 26), (26, .aload_n 0, 1, 27), (27, .iconst 3, 1, 28), (28, .aload_n 0, 1, 29), (29, .getfield 78, 3, 32), (32, .invokevirtual 124, 3, 35), (35, .aload_n 0, 1, 36), (36, .getfield 97, 3, 39), (39, .ifCond .eq 4, 3, 42), (42, .return_, 1, 43), (43, .iconst 0, 1, 44), (44, .istore_n 2, 1, 45), (45, .iload_n 2, 1, 46), (46, .aload_n 0, 1, 47), (47, .getfield 81, 3, 50), (50, .if_icmp .ge 29, 3, 53), (53, .aload_n 0, 1, 54), (54, .getfield 23, 3, 57), (57, .bipush 55, 2, 59), (59, .bipush 8, 2, 61), (61, .iload_n 1, 1, 62), (62, .imul, 1, 63), (63, .iadd, 1, 64), (64, .iload_n 2, 1, 65), (65, .iadd, 1, 66), (66, .aload_n 0, 1, 67), (67, .getfield 17, 3, 70), (70, .iload_n 2, 1, 71), (71, .iaload, 1, 72), (72, .iastore, 1, 73), (73, .iinc 2 1, 3, 76), (76, .goto (-31), 3, 79), (79, .aload_n 0, 1, 80), (80, .getfield 23, 3, 83), (83, .bipush 50, 2, 85), (85, .iload_n 1, 1, 86), (86, .iadd, 1, 87), (87, .aload_n 0, 1, 88), (88, .getfield 81, 3, 91), (91, .iastore, 1, 92), (92, .aload_n 0, 1, 93), (93, .invokevirtual 118, 3, 96), (96, .return_, 1, 97)]
theorem kd_m11_newName : kDec m11_newName kl_m11_newName := kDec_of (by decide +kernel)
def kl_m11_pairHere : List (Nat × Instr × Nat × Nat) := [(0, .aload_n 0, 1, 1), (1, .getfield 97, 3, 4), (4, .ifCond .eq 5, 3, 7), (7, .iconst 0, 1, 8), (8, .ireturn, 1, 9), (9, .aload_n 0, 1, 10), (10, .invokevirtual 140, 3, 13), (13, .aload_n 0, 1, 14), (14, .getfield 97, 3, 17), (17, .ifCond .eq 5, 3, 20), (20, .iconst 0, 1, 21), (21, .ireturn, 1, 22), (22, .aload_n 0, 1, 23), (23, .invokevirtual 143, 3, 26), (26, .istore_n 1, 1, 27), (27, .iload_n 1, 1, 28), (28, .ifCond .ge 12, 3, 31), (31, .aload_n 0, 1, 32), (32, .iconst 2, 1, 33), (33, .aload_n 0, 1, 34), (34, .getfield 78, 3, 37), (37, .invokevirtual 124, 3, 40), (40, .aload_n 0, 1, 41), (41, .getfield 97, 3, 44), (44, .ifCond .eq 7, 3, 47), (47, .iconst 0, 1, 48), (48, .goto 4, 3, 51), (51, .iload_n 1, 1, 52), (52, .ireturn, 1, 53)]
theorem kd_m11_pairHere : kDec m11_pairHere kl_m11_pairHere := kDec_of (by decide +kernel)
def kl_m11_pass : List (Nat × Instr × Nat × Nat) := [(0, .aload_n 0, 1, 1), (1, .getfield 97, 3, 4), (4, .ifCond .ne 7, 3, 7), (7, .aload_n 0, 1, 8), (8, .invokevirtual 118, 3, 11), (11, .return_, 1, 12)]
theorem kd_m11_pass : kDec m11_pass kl_m11_pass := kDec_of (by decide +kernel)
def kl_m11_numberHere : List (Nat × Instr × Nat × Nat) := [(0, .aload_n 0, 1, 1), (1, .getfield 97, 3, 4), (4, .ifCond .eq 5, 3, 7), (7, .iload_n 1, 1, 8), (8, .ireturn, 1, 9), (9, .aload_n 0, 1, 10), (10, .getfield 87, 3, 13), (13, .iconst 3, 1, 14), (14, .if_icmp .eq 15, 3, 17), (17, .aload_n 0, 1, 18), (18, .iconst 1, 1, 19), (19, .aload_n 0, 1, 20), (20, .getfield 78, 3, 23), (23, .invokevirtual 124, 3, 26), (26, .goto 24, 3, 29), (29, .aload_n 0, 1, 30), (30, .getfield 84, 3, 33), (33, .iload_n 1, 1, 34), (34, .iload_n 2, 1, 35), (35, .invokestatic 146, 3, 38), (38, .ifCond .ne 12, 3, 41), (41, .aload_n 0, 1, 42), (42, .iconst 4, 1, 43), (43, .aload_n 0, 1, 44), (44, .getfield 78, 3, 47), (47, .invokevirtual 124, 3, 50), (50, .aload_n 0, 1, 51), (51, .getfield 97, 3, 54), (54, .ifCond .eq 7, 3, 57), (57, .iload_n 1, 1, 58), (58, .goto 7, 3, 61), (61, .aload_n 0, 1, 62), (62, .getfield 84, 3, 65), (65, .ireturn, 1, 66)]
theorem kd_m11_numberHere : kDec m11_numberHere kl_m11_numberHere := kDec_of (by decide +kernel)
def kl_m11_number : List (Nat × Instr × Nat × Nat) := [(0, .aload_n 0, 1, 1), (1, .iload_n 1, 1, 2), (2, .iload_n 2, 1, 3), (3, .invokevirtual 150, 3, 6), (6, .istore_n 3, 1, 7), (7, .aload_n 0, 1, 8), (8, .invokevirtual 154, 3, 11), (11, .iload_n 3, 1, 12), (12, .ireturn, 1, 13)]
theorem kd_m11_number : kDec m11_number kl_m11_number := kDec_of (by decide +kernel)
def kl_m11_after : List (Nat × Instr × Nat × Nat) := [(0, .aload_n 0, 1, 1), (1, .aload_n 1, 1, 2), (2, .invokevirtual 157, 3, 5), (5, .aload_n 0, 1, 6), (6, .iload_n 2, 1, 7), (7, .iload_n 3, 1, 8), (8, .invokevirtual 161, 3, 11), (11, .ireturn, 1, 12)]
theorem kd_m11_after : kDec m11_after kl_m11_after := kDec_of (by decide +kernel)
def kl_m11_pier : List (Nat × Instr × Nat × Nat) := [(0, .aload_n 0, 1, 1), (1, .invokevirtual 164, 3, 4), (4, .iload_n 1, 1, 5), (5, .iconst 0, 1, 6), (6, .aload_n 0, 1, 7), (7, .getfield 65, 3, 10), (10, .invokestatic 146, 3, 13), (13, .ifCond .ne 9, 3, 16), (16, .aload_n 0, 1, 17), (17, .iconst 2, 1, 18), (18, .invokevirtual 167, 3, 21), (21, .ireturn, 1, 22), (22, .aload_n 0, 1, 23), (23, .iconst 0, 1, 24), (24, .putfield 65, 3, 27), (27, .aload_n 0, 1, 28), (28, .iconst 0, 1, 29), (29, .putfield 101, 3, 32), (32, .aload_n 0, 1, 33), (33, .iconst 0, 1, 34), (34, .putfield 97, 3, 37), (37, .iconst 0, 1, 38), (38, .istore_n 2, 1, 39), (39, .iload_n 2, 1, 40), (40, .bipush 95, 2, 42), (42, .if_icmp .ge 16, 3, 45), (45, .aload_n 0, 1, 46), (46, .getfield 23, 3, 49), (49, .iload_n 2, 1, 50), (50, .iconst 0, 1, 51), (51, .iastore, 1, 52), (52, .iinc 2 1, 3, 55), (55, .goto (-16), 3, 58), (58, .iconst 0, 1, 59), (59, .istore_n 2, 1, 60), (60, .iload_n 2, 1, 61), (61, .bipush 36, 2, 63), (63, .if_icmp .ge 16, 3, 66), (66, .aload_n 0, 1, 67), (67, .getfield 29, 3, 70), (70, .iload_n 2, 1, 71), (71, .iconst 0, 1, 72), (72, .iastore, 1, 73), (73, .iinc 2 1, 3, 76), (76, .goto (-16), 3, 79), (79, .aload_n 0, 1, 80), (80, .iload_n 1, 1, 81), (81, .putfield 68, 3, 84), (84, .aload_n 0, 1, 85), (85, .iconst 0, 1, 86), (86, .putfield 71, 3, 89), (89, .aload_n 0, 1, 90), (90, .invokevirtual 118, 3, 93), (93, .aload_n 0, 1, 94), (94, .invokevirtual 170, 3, 97), (97, .aload_n 0, 1, 98), (98, .getfield 97, 3, 101), (101, .ifCond .ne 23, 3, 104), (104, .aload_n 0, 1, 105), (105, .getfield 87, 3, 108), (108, .bipush 59, 2, 110), (110, .if_icmp .ne 14, 3, 113), (113, .aload_n 0, 1, 114), (114, .invokevirtual 118, 3, 117), (117, .aload_n 0, 1, 118), (118, .invokevirtual 170, 3, 121), (121, .goto (-24), 3, 124), (124, .aload_n 0, 1, 125), (125, .getfield 97, 3, 128), (128, .ifCond .ne 19, 3, 131), (131, .aload_n 0, 1, 132), (132, .getfield 87, 3, 135), (135, .ifCond .eq 12, 3, 138), (138, .aload_n 0, 1, 139), (139, .iconst 1, 1, 140), (140, .aload_n 0, 1, 141), (141, .getfield 78, 3, 144), (144, .invokevirtual 124, 3, 147), (147, .aload_n 0, 1, 148), (148, .getfield 97, 3, 151), (151, .ifCond .ne 32, 3, 154), (154, .aload_n 0, 1, 155), (155, .getfield 23, 3, 158), (158, .bipush 7, 2, 160), (160, .iaload, 1, 161), (161, .ifCond .eq 12, 3, 164), (164, .aload_n 0, 1, 165), (165, .getfield 23, 3, 168), (168, .iconst 2, 1, 169), (169, .iaload, 1, 170), (170, .ifCond .ne 13, 3, 173), (173, .aload_n 0, 1, 174), (174, .bipush 6, 2, 176), (176, .aload_n 0, 1, 177), (177, .getfield 78, 3, 180), (180, .invokevirtual 124, 3, 183), (183, .aload_n 0, 1, 184), (184, .getfield 97, 3, 187), (187, .ifCond .eq 9, 3, 190), (190, .aload_n 0, 1, 191), (191, .iconst 4, 1, 192), (192, .invokevirtual 167, 3, 195), (195, .ireturn, 1, 196), (196, .aload_n 0, 1, 197), (197, .getfield 23, 3, 200), (200, .iconst 0, 1, 201), (201, .aload_n 0, 1, 202), (202, .getfield 20, 3, 205), (205, .iconst 0, 1, 206), (206, .bipush 95, 2, 208), (208, .invokestatic 173, 3, 211), (211, .aload_n 0, 1, 212), (212, .getfield 29, 3, 215), (215, .iconst 0, 1, 216), (216, .aload_n 0, 1, 217), (217, .getfield 26, 3, 220), (220, .iconst 0, 1, 221), (221, .bipush 36, 2, 223), (223, .invokestatic 173, 3, 226), (226, .aload_n 0, 1, 227), (227, .getfield 29, 3, 230), (230, .iconst 0, 1, 231), (231, .aload_n 0, 1, 232), (232, .getfield 32, 3, 235), (235, .iconst 0, 1, 236), (236, .bipush 36, 2, 238), (238, .invokestatic 173, 3, 241), (241, .aload_n 0, 1, 242), (242, .iconst 1, 1, 243), (243, .putfield 177, 3, 246), (246, .aload_n 0, 1, 247), (247, .iconst 0, 1, 248), (248, .putfield 180, 3, 251), (251, .aload_n 0, 1, 252), (252, .iconst 0, 1, 253), (253, .putfield 183, 3, 256), (256, .aload_n 0, 1, 257), (257, .getfield 20, 3, 260), (260, .iconst 2, 1, 261), (261, .iaload, 1, 262), (262, .ireturn, 1, 263)]
theorem kd_m11_pier : kDec m11_pier kl_m11_pier := kDec_of (by decide +kernel)
def kl_m11_begins : List (Nat × Instr × Nat × Nat) := [(0, .aload_n 0, 1, 1), (1, .aload_n 1, 1, 2), (2, .invokevirtual 114, 3, 5), (5, .ifCond .ne 5, 3, 8), (8, .iconst 0, 1, 9), (9, .ireturn, 1, 10), (10, .iload_n 2, 1, 11), (11, .ifCond .ne 12, 3, 14), (14, .aload_n 0, 1, 15), (15, .iconst 5, 1, 16), (16, .aload_n 0, 1, 17), (17, .getfield 78, 3, 20), (20, .invokevirtual 124, 3, 23), (23, .aload_n 0, 1, 24), (24, .getfield 23, 3, 27), (27, .bipush 7, 2, 29), (29, .iaload, 1, 30), (30, .ifCond .ne 13, 3, 33), (33, .aload_n 0, 1, 34), (34, .bipush 6, 2, 36), (36, .aload_n 0, 1, 37), (37, .getfield 78, 3, 40), (40, .invokevirtual 124, 3, 43), (43, .aload_n 0, 1, 44), (44, .invokevirtual 154, 3, 47), (47, .iconst 1, 1, 48), (48, .ireturn, 1, 49)]
theorem kd_m11_begins : kDec m11_begins kl_m11_begins := kDec_of (by decide +kernel)
def kl_m11_readLine : List (Nat × Instr × Nat × Nat) := [(0, .aload_n 0, 1, 1), (1, .ldc 128, 2, 3), (3, .invokevirtual 114, 3, 6), (6, .ifCond .eq 10, 3, 9), (9, .aload_n 0, 1, 10), (10, .invokevirtual 186, 3, 13), (13, .goto 156, 3, 16), (16, .aload_n 0, 1, 17), (17, .ldc 130, 2, 19), (19, .aload_n 0, 1, 20), (20, .getfield 23, 3, 23), (23, .iconst 2, 1, 24), (24, .iaload, 1, 25), (25, .iconst 5, 1, 26), (26, .if_icmp .ge 7, 3, 29), (29, .iconst 1, 1, 30), (30, .goto 4, 3, 33), (33, .iconst 0, 1, 34), (34, .invokevirtual 189, 3, 37), (37, .ifCond .eq 10, 3, 40), (40, .aload_n 0, 1, 41), (41, .invokevirtual 193, 3, 44), (44, .goto 125, 3, 47), (47, .aload_n 0, 1, 48), (48, .ldc 132, 2, 50), (50, .iconst 1, 1, 51), (51, .invokevirtual 189, 3, 54), (54, .ifCond .eq 10, 3, 57), (57, .aload_n 0, 1, 58), (58, .invokevirtual 196, 3, 61), (61, .goto 108, 3, 64), (64, .aload_n 0, 1, 65), (65, .ldc 134, 2, 67), (67, .aload_n 0, 1, 68), (68, .getfield 23, 3, 71), (71, .iconst 4, 1, 72), (72, .iaload, 1, 73), (73, .bipush 10, 2, 75), (75, .if_icmp .ge 7, 3, 78), (78, .iconst 1, 1, 79), (79, .goto 4, 3, 82), (82, .iconst 0, 1, 83), (83, .invokevirtual 189, 3, 86), (86, .ifCond .eq 10, 3, 89), (89, .aload_n 0, 1, 90), (90, .invokevirtual 199, 3, 93), (93, .goto 76, 3, 96), (96, .aload_n 0, 1, 97), (97, .ldc 136, 2, 99), (99, .aload_n 0, 1, 100), (100, .getfield 23, 3, 103), (103, .iconst 5, 1, 104), (104, .iaload, 1, 105), (105, .iconst 4, 1, 106), (106, .if_icmp .ge 7, 3, 109), (109, .iconst 1, 1, 110), (110, .goto 4, 3, 113), (113, .iconst 0, 1, 114), (114, .invokevirtual 189, 3, 117), (117, .ifCond .eq 10, 3, 120), (120, .aload_n 0, 1, 121), (121, .invokevirtual 202, 3, 124), (124, .goto 45, 3, 127), (127, .aload_n 0, 1, 128), (128, .ldc 138, 2, 130), (130, .aload_n 0, 1, 131), (131, .getfield 23, 3, 134), (134, .bipush 6, 2, 136), (136, .iaload, 1, 137), (137, .bipush 8, 2, 139), (139, .if_icmp .ge 7, 3, 142), (142, .iconst 1, 1, 143), (143, .goto 4, 3, 146), (146, .iconst 0, 1, 147), (147, .invokevirtual 189, 3, 150), (150, .ifCond .eq 10, 3, 153), (153, .aload_n 0, 1, 154), (154, .invokevirtual 205, 3, 157), (157, .goto 12, 3, 160), (160, .aload_n 0, 1, 161), (161, .iconst 1, 1, 162), (162, .aload_n 0, 1, 163), (163, .getfield 78, 3, 166), (166, .invokevirtual 124, 3, 169), (169, .return_, 1, 170)]
theorem kd_m11_readLine : kDec m11_readLine kl_m11_readLine := kDec_of (by decide +kernel)
def kl_m11_pierLine : List (Nat × Instr × Nat × Nat) := [(0, .aload_n 0, 1, 1), (1, .getfield 23, 3, 4), (4, .bipush 7, 2, 6), (6, .iaload, 1, 7), (7, .ifCond .le 12, 3, 10), (10, .aload_n 0, 1, 11), (11, .iconst 3, 1, 12), (12, .aload_n 0, 1, 13), (13, .getfield 78, 3, 16), (16, .invokevirtual 124, 3, 19), (19, .aload_n 0, 1, 20), (20, .getfield 97, 3, 23), (23, .ifCond .eq 4, 3, 26), (26, .return_, 1, 27), (27, .aload_n 0, 1, 28), (28, .invokevirtual 118, 3, 31), (31, .aload_n 0, 1, 32), (32, .getfield 23, 3, 35), (35, .iconst 0, 1, 36), (36, .aload_n 0, 1, 37), (37, .ldc 208, 2, 39), (39, .iconst 2, 1, 40), (40, .bipush 99, 2, 42), (42, .invokevirtual 210, 3, 45), (45, .iastore, 1, 46), (46, .aload_n 0, 1, 47), (47, .getfield 23, 3, 50), (50, .iconst 1, 1, 51), (51, .aload_n 0, 1, 52), (52, .ldc 214, 2, 54), (54, .iconst 0, 1, 55), (55, .bipush 100, 2, 57), (57, .invokevirtual 210, 3, 60), (60, .iastore, 1, 61), (61, .aload_n 0, 1, 62), (62, .getfield 97, 3, 65), (65, .ifCond .ne 11, 3, 68), (68, .aload_n 0, 1, 69), (69, .getfield 23, 3, 72), (72, .bipush 7, 2, 74), (74, .iconst 1, 1, 75), (75, .iastore, 1, 76), (76, .return_, 1, 77)]
theorem kd_m11_pierLine : kDec m11_pierLine kl_m11_pierLine := kDec_of (by decide +kernel)
def kl_m11_pairLine : List (Nat × Instr × Nat × Nat) := [(0, .aload_n 0, 1, 1), (1, .getfield 97, 3, 4), (4, .ifCond .eq 4, 3, 7), (7, .return_, 1, 8), (8, .aload_n 0, 1, 9), (9, .getfield 23, 3, 12), (12, .iconst 2, 1, 13), (13, .iaload, 1, 14), (14, .istore_n 1, 1, 15), (15, .aload_n 0, 1, 16), (16, .iload_n 1, 1, 17), (17, .invokevirtual 216, 3, 20), (20, .aload_n 0, 1, 21), (21, .ldc 220, 2, 23), (23, .invokevirtual 114, 3, 26), (26, .ifCond .eq 7, 3, 29), (29, .iconst 0, 1, 30), (30, .goto 43, 3, 33), (33, .aload_n 0, 1, 34), (34, .ldc 222, 2, 36), (36, .invokevirtual 114, 3, 39), (39, .ifCond .eq 7, 3, 42), (42, .iconst 1, 1, 43), (43, .goto 30, 3, 46), (46, .aload_n 0, 1, 47), (47, .ldc 224, 2, 49), (49, .invokevirtual 114, 3, 52), (52, .ifCond .eq 7, 3, 55), (55, .iconst 2, 1, 56), (56, .goto 17, 3, 59), (59, .aload_n 0, 1, 60), (60, .ldc 226, 2, 62), (62, .invokevirtual 114, 3, 65), (65, .ifCond .eq 7, 3, 68), (68, .iconst 3, 1, 69), (69, .goto 4, 3, 72), (72, .iconst (-1), 1, 73), (73, .istore_n 2, 1, 74), (74, .iload_n 2, 1, 75), (75, .ifCond .ge 12, 3, 78), (78, .aload_n 0, 1, 79), (79, .iconst 1, 1, 80), (80, .aload_n 0, 1, 81), (81, .getfield 78, 3, 84), (84, .invokevirtual 124, 3, 87), (87, .aload_n 0, 1, 88), (88, .invokevirtual 154, 3, 91), (91, .aload_n 0, 1, 92), (92, .ldc 228, 2, 94), (94, .iconst 0, 1, 95), (95, .aload_n 0, 1, 96), (96, .getfield 23, 3, 99), (99, .iconst 0, 1, 100), (100, .iaload, 1, 101), (101, .invokevirtual 210, 3, 104), (104, .istore_n 3, 1, 105), (105, .aload_n 0, 1, 106), (106, .ldc 230, 2, 108), (108, .iconst 0, 1, 109), (109, .bipush 20, 2, 111), (111, .invokevirtual 210, 3, 114), (114, .istore 4, 2, 116), (116, .aload_n 0, 1, 117), (117, .getfield 97, 3, 120), (120, .ifCond .eq 4, 3, 123), (123, .return_, 1, 124), (124, .aload_n 0, 1, 125), (125, .getfield 23, 3, 128), (128, .bipush 8, 2, 130), (130, .iload_n 1, 1, 131), (131, .iadd, 1, 132), (132, .iload_n 2, 1, 133), (133, .iastore, 1, 134), (134, .aload_n 0, 1, 135), (135, .getfield 29, 3, 138), (138, .iload_n 1, 1, 139), (139, .iload_n 3, 1, 140), (140, .iastore, 1, 141), (141, .aload_n 0, 1, 142), (142, .getfield 29, 3, 145), (145, .iconst 5, 1, 146), (146, .iload_n 1, 1, 147), (147, .iadd, 1, 148), (148, .iload 4, 2, 150), (150, .iastore, 1, 151), (151, .aload_n 0, 1, 152), (152, .getfield 23, 3, 155), (155, .iconst 2, 1, 156), (156, .dup2, 1, 157), (157, .iaload, 1, 158), (158, .iconst 1, 1, 159), (159, .iadd, 1, 160), (160, .iastore, 1, 161), (161, .return_, 1, 162)]
theorem kd_m11_pairLine : kDec m11_pairLine kl_m11_pairLine := kDec_of (by decide +kernel)
def kl_m11_contractLine : List (Nat × Instr × Nat × Nat) := [(0, .aload_n 0, 1, 1), (1, .invokevirtual 232, 3, 4), (4, .istore_n 1, 1, 5), (5, .aload_n 0, 1, 6), (6, .getfield 97, 3, 9), (9, .ifCond .ne 24, 3, 12), (12, .aload_n 0, 1, 13), (13, .getfield 23, 3, 16), (16, .bipush 13, 2, 18), (18, .iload_n 1, 1, 19), (19, .iadd, 1, 20), (20, .iaload, 1, 21), (21, .ifCond .le 12, 3, 24), (24, .aload_n 0, 1, 25), (25, .iconst 3, 1, 26), (26, .aload_n 0, 1, 27), (27, .getfield 78, 3, 30), (30, .invokevirtual 124, 3, 33), (33, .aload_n 0, 1, 34), (34, .invokevirtual 154, 3, 37), (37, .aload_n 0, 1, 38), (38, .ldc 235, 2, 40), (40, .iconst 1, 1, 41), (41, .bipush 9, 2, 43), (43, .invokevirtual 210, 3, 46), (46, .istore_n 2, 1, 47), (47, .aload_n 0, 1, 48), (48, .getfield 97, 3, 51), (51, .ifCond .eq 4, 3, 54), (54, .return_, 1, 55), (55, .aload_n 0, 1, 56), (56, .getfield 23, 3, 59), (59, .bipush 13, 2, 61), (61, .iload_n 1, 1, 62), (62, .iadd, 1, 63), (63, .iload_n 2, 1, 64), (64, .iastore, 1, 65), (65, .aload_n 0, 1, 66), (66, .getfield 23, 3, 69), (69, .iconst 3, 1, 70), (70, .dup2, 1, 71), (71, .iaload, 1, 72), (72, .iconst 1, 1, 73), (73, .iadd, 1, 74), (74, .iastore, 1, 75), (75, .return_, 1, 76)]
theorem kd_m11_contractLine : kDec m11_contractLine kl_m11_contractLine := kDec_of (by decide +kernel)
def kl_m11_debtLine : List (Nat × Instr × Nat × Nat) := [(0, .aload_n 0, 1, 1), (1, .invokevirtual 232, 3, 4), (4, .istore_n 1, 1, 5), (5, .aload_n 0, 1, 6), (6, .invokevirtual 154, 3, 9), (9, .aload_n 0, 1, 10), (10, .invokevirtual 232, 3, 13), (13, .istore_n 2, 1, 14), (14, .aload_n 0, 1, 15), (15, .getfield 97, 3, 18), (18, .ifCond .ne 33, 3, 21), (21, .iload_n 1, 1, 22), (22, .iload_n 2, 1, 23), (23, .if_icmp .eq 19, 3, 26), (26, .aload_n 0, 1, 27), (27, .getfield 29, 3, 30), (30, .bipush 10, 2, 32), (32, .iconst 5, 1, 33), (33, .iload_n 1, 1, 34), (34, .imul, 1, 35), (35, .iadd, 1, 36), (36, .iload_n 2, 1, 37), (37, .iadd, 1, 38), (38, .iaload, 1, 39), (39, .ifCond .le 12, 3, 42), (42, .aload_n 0, 1, 43), (43, .iconst 3, 1, 44), (44, .aload_n 0, 1, 45), (45, .getfield 78, 3, 48), (48, .invokevirtual 124, 3, 51), (51, .aload_n 0, 1, 52), (52, .invokevirtual 154, 3, 55), (55, .aload_n 0, 1, 56), (56, .iconst 1, 1, 57), (57, .bipush 99, 2, 59), (59, .invokevirtual 161, 3, 62), (62, .istore_n 3, 1, 63), (63, .aload_n 0, 1, 64), (64, .getfield 97, 3, 67), (67, .ifCond .eq 4, 3, 70), (70, .return_, 1, 71), (71, .aload_n 0, 1, 72), (72, .getfield 29, 3, 75), (75, .bipush 10, 2, 77), (77, .iconst 5, 1, 78), (78, .iload_n 1, 1, 79), (79, .imul, 1, 80), (80, .iadd, 1, 81), (81, .iload_n 2, 1, 82), (82, .iadd, 1, 83), (83, .iload_n 3, 1, 84), (84, .iastore, 1, 85), (85, .aload_n 0, 1, 86), (86, .getfield 23, 3, 89), (89, .iconst 4, 1, 90), (90, .dup2, 1, 91), (91, .iaload, 1, 92), (92, .iconst 1, 1, 93), (93, .iadd, 1, 94), (94, .iastore, 1, 95), (95, .return_, 1, 96)]
theorem kd_m11_debtLine : kDec m11_debtLine kl_m11_debtLine := kDec_of (by decide +kernel)
def kl_m11_unsureLine : List (Nat × Instr × Nat × Nat) := [(0, .aload_n 0, 1, 1), (1, .getfield 97, 3, 4), (4, .ifCond .eq 4, 3, 7), (7, .return_, 1, 8), (8, .bipush 18, 2, 10), (10, .iconst 2, 1, 11), (11, .aload_n 0, 1, 12), (12, .getfield 23, 3, 15), (15, .iconst 5, 1, 16), (16, .iaload, 1, 17), (17, .imul, 1, 18), (18, .iadd, 1, 19), (19, .istore_n 1, 1, 20), (20, .aload_n 0, 1, 21), (21, .invokevirtual 232, 3, 24), (24, .istore_n 2, 1, 25), (25, .iconst 0, 1, 26), (26, .istore_n 3, 1, 27), (27, .iload_n 3, 1, 28), (28, .aload_n 0, 1, 29), (29, .getfield 23, 3, 32), (32, .iconst 5, 1, 33), (33, .iaload, 1, 34), (34, .if_icmp .ge 40, 3, 37), (37, .aload_n 0, 1, 38), (38, .getfield 97, 3, 41), (41, .ifCond .ne 27, 3, 44), (44, .aload_n 0, 1, 45), (45, .getfield 23, 3, 48), (48, .bipush 18, 2, 50), (50, .iconst 2, 1, 51), (51, .iload_n 3, 1, 52), (52, .imul, 1, 53), (53, .iadd, 1, 54), (54, .iaload, 1, 55), (55, .iload_n 2, 1, 56), (56, .if_icmp .ne 12, 3, 59), (59, .aload_n 0, 1, 60), (60, .iconst 3, 1, 61), (61, .aload_n 0, 1, 62), (62, .getfield 78, 3, 65), (65, .invokevirtual 124, 3, 68), (68, .iinc 3 1, 3, 71), (71, .goto (-44), 3, 74), (74, .aload_n 0, 1, 75), (75, .invokevirtual 154, 3, 78), (78, .aload_n 0, 1, 79), (79, .iconst 0, 1, 80), (80, .bipush 20, 2, 82), (82, .invokevirtual 161, 3, 85), (85, .istore_n 3, 1, 86), (86, .aload_n 0, 1, 87), (87, .getfield 97, 3, 90), (90, .ifCond .eq 4, 3, 93), (93, .return_, 1, 94), (94, .aload_n 0, 1, 95), (95, .getfield 23, 3, 98), (98, .iload_n 1, 1, 99), (99, .iload_n 2, 1, 100), (100, .iastore, 1, 101), (101, .aload_n 0, 1, 102), (102, .getfield 23, 3, 105), (105, .iload_n 1, 1, 106), (106, .iconst 1, 1, 107), (107, .iadd, 1, 108), (108, .iload_n 3, 1, 109), (109, .iastore, 1, 110), (110, .aload_n 0, 1, 111), (111, .getfield 23, 3, 114), (114, .iconst 5, 1, 115), (115, .dup2, 1, 116), (116, .iaload, 1, 117), (117, .iconst 1, 1, 118), (118, .iadd, 1, 119), (119, .iastore, 1, 120), (120, .return_, 1, 121)]
theorem kd_m11_unsureLine : kDec m11_unsureLine kl_m11_unsureLine := kDec_of (by decide +kernel)
def kl_m11_heardLine : List (Nat × Instr × Nat × Nat) := [(0, .aload_n 0, 1, 1), (1, .getfield 97, 3, 4), (4, .ifCond .eq 4, 3, 7), (7, .return_, 1, 8), (8, .bipush 26, 2, 10), (10, .iconst 3, 1, 11), (11, .aload_n 0, 1, 12), (12, .getfield 23, 3, 15), (15, .bipush 6, 2, 17), (17, .iaload, 1, 18), (18, .imul, 1, 19), (19, .iadd, 1, 20), (20, .istore_n 1, 1, 21), (21, .aload_n 0, 1, 22), (22, .invokevirtual 232, 3, 25), (25, .istore_n 2, 1, 26), (26, .aload_n 0, 1, 27), (27, .invokevirtual 154, 3, 30), (30, .aload_n 0, 1, 31), (31, .ldc 237, 2, 33), (33, .invokevirtual 157, 3, 36), (36, .aload_n 0, 1, 37), (37, .iconst 1, 1, 38), (38, .bipush 30, 2, 40), (40, .invokevirtual 150, 3, 43), (43, .istore_n 3, 1, 44), (44, .iconst 0, 1, 45), (45, .istore 4, 2, 47), (47, .iload 4, 2, 49), (49, .aload_n 0, 1, 50), (50, .getfield 23, 3, 53), (53, .bipush 6, 2, 55), (55, .iaload, 1, 56), (56, .if_icmp .ge 59, 3, 59), (59, .aload_n 0, 1, 60), (60, .getfield 97, 3, 63), (63, .ifCond .ne 46, 3, 66), (66, .aload_n 0, 1, 67), (67, .getfield 23, 3, 70), (70, .bipush 26, 2, 72), (72, .iconst 3, 1, 73), (73, .iload 4, 2, 75), (75, .imul, 1, 76), (76, .iadd, 1, 77), (77, .iaload, 1, 78), (78, .iload_n 2, 1, 79), (79, .if_icmp .ne 30, 3, 82), (82, .aload_n 0, 1, 83), (83, .getfield 23, 3, 86), (86, .bipush 26, 2, 88), (88, .iconst 3, 1, 89), (89, .iload 4, 2, 91), (91, .imul, 1, 92), (92, .iadd, 1, 93), (93, .iconst 1, 1, 94), (94, .iadd, 1, 95), (95, .iaload, 1, 96), (96, .iload_n 3, 1, 97), (97, .if_icmp .ne 12, 3, 100), (100, .aload_n 0, 1, 101), (101, .iconst 3, 1, 102), (102, .aload_n 0, 1, 103), (103, .getfield 78, 3, 106), (106, .invokevirtual 124, 3, 109), (109, .iinc 4 1, 3, 112), (112, .goto (-65), 3, 115), (115, .aload_n 0, 1, 116), (116, .invokevirtual 154, 3, 119), (119, .aload_n 0, 1, 120), (120, .ldc 228, 2, 122), (122, .iconst 0, 1, 123), (123, .aload_n 0, 1, 124), (124, .getfield 23, 3, 127), (127, .iconst 0, 1, 128), (128, .iaload, 1, 129), (129, .invokevirtual 210, 3, 132), (132, .istore 4, 2, 134), (134, .aload_n 0, 1, 135), (135, .getfield 97, 3, 138), (138, .ifCond .eq 4, 3, 141), (141, .return_, 1, 142), (142, .aload_n 0, 1, 143), (143, .getfield 23, 3, 146), (146, .iload_n 1, 1, 147), (147, .iload_n 2, 1, 148), (148, .iastore, 1, 149), (149, .aload_n 0, 1, 150), (150, .getfield 23, 3, 153), (153, .iload_n 1, 1, 154), (154, .iconst 1, 1, 155), (155, .iadd, 1, 156), (156, .iload_n 3, 1, 157), (157, .iastore, 1, 158), (158, .aload_n 0, 1, 159), (159, .getfield 23, 3, 162), (162, .iload_n 1, 1, 163), (163, .iconst 2, 1, 164), (164, .iadd, 1, 165), (165, .iload 4, 2, 167), (167, .iastore, 1, 168), (168, .aload_n 0, 1, 169), (169, .getfield 23, 3, 172), (172, .bipush 6, 2, 174), (174, .dup2, 1, 175), (175, .iaload, 1, 176), (176, .iconst 1, 1, 177), (177, .iadd, 1, 178), (178, .iastore, 1, 179), (179, .return_, 1, 180)]
theorem kd_m11_heardLine : kDec m11_heardLine kl_m11_heardLine := kDec_of (by decide +kernel)
def kl_m11_fault : List (Nat × Instr × Nat × Nat) := [(0, .aload_n 0, 1, 1), (1, .iconst 0, 1, 2), (2, .putfield 59, 3, 5), (5, .aload_n 0, 1, 6), (6, .getfield 101, 3, 9), (9, .ireturn, 1, 10)]
theorem kd_m11_fault : kDec m11_fault kl_m11_fault := kDec_of (by decide +kernel)
def kl_m11_where : List (Nat × Instr × Nat × Nat) := [(0, .aload_n 0, 1, 1), (1, .iconst 0, 1, 2), (2, .putfield 59, 3, 5), (5, .aload_n 0, 1, 6), (6, .getfield 62, 3, 9), (9, .iconst 4, 1, 10), (10, .if_icmp .ne 10, 3, 13), (13, .aload_n 0, 1, 14), (14, .getfield 13, 3, 17), (17, .goto 4, 3, 20), (20, .iconst (-1), 1, 21), (21, .ireturn, 1, 22)]
theorem kd_m11_where : kDec m11_where kl_m11_where := kDec_of (by decide +kernel)
def kl_m11_isPair : List (Nat × Instr × Nat × Nat) := [(0, .aload_n 0, 1, 1), (1, .getfield 177, 3, 4), (4, .ifCond .eq 23, 3, 7), (7, .iload_n 1, 1, 8), (8, .iconst 0, 1, 9), (9, .aload_n 0, 1, 10), (10, .getfield 20, 3, 13), (13, .iconst 2, 1, 14), (14, .iaload, 1, 15), (15, .iconst 1, 1, 16), (16, .isub, 1, 17), (17, .invokestatic 146, 3, 20), (20, .ifCond .eq 7, 3, 23), (23, .iconst 1, 1, 24), (24, .goto 4, 3, 27), (27, .iconst 0, 1, 28), (28, .ireturn, 1, 29)]
theorem kd_m11_isPair : kDec m11_isPair kl_m11_isPair := kDec_of (by decide +kernel)
def kl_m11_areTwo : List (Nat × Instr × Nat × Nat) := [(0, .aload_n 0, 1, 1), (1, .iload_n 1, 1, 2), (2, .invokevirtual 239, 3, 5), (5, .ifCond .eq 20, 3, 8), (8, .aload_n 0, 1, 9), (9, .iload_n 2, 1, 10), (10, .invokevirtual 239, 3, 13), (13, .ifCond .eq 12, 3, 16), (16, .iload_n 1, 1, 17), (17, .iload_n 2, 1, 18), (18, .if_icmp .eq 7, 3, 21), (21, .iconst 1, 1, 22), (22, .goto 4, 3, 25), (25, .iconst 0, 1, 26), (26, .ireturn, 1, 27)]
theorem kd_m11_areTwo : kDec m11_areTwo kl_m11_areTwo := kDec_of (by decide +kernel)
def kl_m11_why : List (Nat × Instr × Nat × Nat) := [(0, .iload_n 1, 1, 1), (1, .ifCond .ne 7, 3, 4), (4, .iconst 1, 1, 5), (5, .goto 12, 3, 8), (8, .iload_n 2, 1, 9), (9, .ifCond .eq 7, 3, 12), (12, .iconst 0, 1, 13), (13, .goto 4, 3, 16), (16, .iconst 2, 1, 17), (17, .ireturn, 1, 18)]
theorem kd_m11_why : kDec m11_why kl_m11_why := kDec_of (by decide +kernel)
def kl_m11_within : List (Nat × Instr × Nat × Nat) := [(0, .iload_n 1, 1, 1), (1, .ifCond .ge 7, 3, 4), (4, .iconst 0, 1, 5), (5, .goto 23, 3, 8), (8, .iload_n 1, 1, 9), (9, .aload_n 0, 1, 10), (10, .getfield 20, 3, 13), (13, .iconst 0, 1, 14), (14, .iaload, 1, 15), (15, .if_icmp .le 12, 3, 18), (18, .aload_n 0, 1, 19), (19, .getfield 20, 3, 22), (22, .iconst 0, 1, 23), (23, .iaload, 1, 24), (24, .goto 4, 3, 27), (27, .iload_n 1, 1, 28), (28, .ireturn, 1, 29)]
theorem kd_m11_within : kDec m11_within kl_m11_within := kDec_of (by decide +kernel)
def kl_m11_byLaw : List (Nat × Instr × Nat × Nat) := [(0, .aload_n 0, 1, 1), (1, .getfield 20, 3, 4), (4, .bipush 8, 2, 6), (6, .iload_n 1, 1, 7), (7, .iadd, 1, 8), (8, .iaload, 1, 9), (9, .istore 4, 2, 11), (11, .aload_n 0, 1, 12), (12, .iload 4, 2, 14), (14, .ifCond .ne 9, 3, 17), (17, .iload_n 2, 1, 18), (18, .iload_n 3, 1, 19), (19, .iadd, 1, 20), (20, .goto 39, 3, 23), (23, .iload 4, 2, 25), (25, .iconst 1, 1, 26), (26, .if_icmp .ne 11, 3, 29), (29, .iconst 2, 1, 30), (30, .iload_n 2, 1, 31), (31, .imul, 1, 32), (32, .iload_n 3, 1, 33), (33, .iadd, 1, 34), (34, .goto 25, 3, 37), (37, .iload 4, 2, 39), (39, .iconst 2, 1, 40), (40, .if_icmp .ne 9, 3, 43), (43, .iload_n 2, 1, 44), (44, .iload_n 3, 1, 45), (45, .isub, 1, 46), (46, .goto 13, 3, 49), (49, .aload_n 0, 1, 50), (50, .getfield 20, 3, 53), (53, .iconst 0, 1, 54), (54, .iaload, 1, 55), (55, .iload_n 2, 1, 56), (56, .isub, 1, 57), (57, .iload_n 3, 1, 58), (58, .iadd, 1, 59), (59, .invokevirtual 242, 3, 62), (62, .ireturn, 1, 63)]
theorem kd_m11_byLaw : kDec m11_byLaw kl_m11_byLaw := kDec_of (by decide +kernel)
def kl_m11_behind : List (Nat × Instr × Nat × Nat) := [(0, .iload 6, 2, 2), (2, .ifCond .eq 7, 3, 5), (5, .iload_n 2, 1, 6), (6, .goto 10, 3, 9), (9, .aload_n 0, 1, 10), (10, .iload_n 1, 1, 11), (11, .iload_n 2, 1, 12), (12, .iload_n 3, 1, 13), (13, .invokevirtual 245, 3, 16), (16, .istore 7, 2, 18), (18, .iload 4, 2, 20), (20, .ifCond .le 23, 3, 23), (23, .iload 5, 2, 25), (25, .iload 4, 2, 27), (27, .irem, 1, 28), (28, .ifCond .ne 15, 3, 31), (31, .aload_n 0, 1, 32), (32, .getfield 20, 3, 35), (35, .iconst 0, 1, 36), (36, .iaload, 1, 37), (37, .iload 7, 2, 39), (39, .isub, 1, 40), (40, .goto 5, 3, 43), (43, .iload 7, 2, 45), (45, .ireturn, 1, 46)]
theorem kd_m11_behind : kDec m11_behind kl_m11_behind := kDec_of (by decide +kernel)
def kl_m11_isMore : List (Nat × Instr × Nat × Nat) := [(0, .iconst 2, 1, 1), (1, .iload_n 1, 1, 2), (2, .imul, 1, 3), (3, .aload_n 0, 1, 4), (4, .getfield 20, 3, 7), (7, .iconst 0, 1, 8), (8, .iaload, 1, 9), (9, .if_icmp .le 7, 3, 12), (12, .iconst 1, 1, 13), (13, .goto 4, 3, 16), (16, .iconst 0, 1, 17), (17, .ireturn, 1, 18)]
theorem kd_m11_isMore : kDec m11_isMore kl_m11_isMore := kDec_of (by decide +kernel)
def kl_m11_saysBy : List (Nat × Instr × Nat × Nat) := [(0, .aload_n 0, 1, 1), (1, .getfield 32, 3, 4), (4, .iload_n 1, 1, 5), (5, .iaload, 1, 6), (6, .istore 5, 2, 8), (8, .iconst 1, 1, 9), (9, .istore 6, 2, 11), (11, .iload 6, 2, 13), (13, .iload_n 2, 1, 14), (14, .if_icmp .gt 32, 3, 17), (17, .aload_n 0, 1, 18), (18, .iload_n 1, 1, 19), (19, .iload 5, 2, 21), (21, .iload_n 3, 1, 22), (22, .iload 4, 2, 24), (24, .aload_n 0, 1, 25), (25, .getfield 32, 3, 28), (28, .bipush 35, 2, 30), (30, .iaload, 1, 31), (31, .iload 6, 2, 33), (33, .iadd, 1, 34), (34, .iconst 0, 1, 35), (35, .invokevirtual 249, 3, 38), (38, .istore 5, 2, 40), (40, .iinc 6 1, 3, 43), (43, .goto (-32), 3, 46), (46, .iload 5, 2, 48), (48, .ireturn, 1, 49)]
theorem kd_m11_saysBy : kDec m11_saysBy kl_m11_saysBy := kDec_of (by decide +kernel)
def kl_m11_saysIn : List (Nat × Instr × Nat × Nat) := [(0, .aload_n 0, 1, 1), (1, .iload_n 1, 1, 2), (2, .iload_n 2, 1, 3), (3, .aload_n 0, 1, 4), (4, .getfield 32, 3, 7), (7, .iconst 5, 1, 8), (8, .iload_n 1, 1, 9), (9, .iadd, 1, 10), (10, .iaload, 1, 11), (11, .aload_n 0, 1, 12), (12, .getfield 20, 3, 15), (15, .bipush 13, 2, 17), (17, .iload_n 1, 1, 18), (18, .iadd, 1, 19), (19, .iaload, 1, 20), (20, .invokevirtual 253, 3, 23), (23, .ireturn, 1, 24)]
theorem kd_m11_saysIn : kDec m11_saysIn kl_m11_saysIn := kDec_of (by decide +kernel)
def kl_m11_goRound : List (Nat × Instr × Nat × Nat) := [(0, .aload_n 0, 1, 1), (1, .getfield 20, 3, 4), (4, .bipush 13, 2, 6), (6, .iload_n 1, 1, 7), (7, .iadd, 1, 8), (8, .iaload, 1, 9), (9, .ifCond .ne 7, 3, 12), (12, .iconst 1, 1, 13), (13, .goto 12, 3, 16), (16, .aload_n 0, 1, 17), (17, .getfield 20, 3, 20), (20, .bipush 13, 2, 22), (22, .iload_n 1, 1, 23), (23, .iadd, 1, 24), (24, .iaload, 1, 25), (25, .istore_n 2, 1, 26), (26, .iconst 0, 1, 27), (27, .istore_n 3, 1, 28), (28, .iload_n 3, 1, 29), (29, .sipush 900, 3, 32), (32, .if_icmp .ge 16, 3, 35), (35, .aload_n 0, 1, 36), (36, .getfield 44, 3, 39), (39, .iload_n 3, 1, 40), (40, .iconst (-1), 1, 41), (41, .iastore, 1, 42), (42, .iinc 3 1, 3, 45), (45, .goto (-17), 3, 48), (48, .aload_n 0, 1, 49), (49, .getfield 32, 3, 52), (52, .iload_n 1, 1, 53), (53, .iaload, 1, 54), (54, .istore_n 3, 1, 55), (55, .iconst 0, 1, 56), (56, .istore 4, 2, 58), (58, .iload_n 3, 1, 59), (59, .bipush 9, 2, 61), (61, .imul, 1, 62), (62, .aload_n 0, 1, 63), (63, .getfield 32, 3, 66), (66, .bipush 35, 2, 68), (68, .iaload, 1, 69), (69, .iload_n 2, 1, 70), (70, .irem, 1, 71), (71, .iadd, 1, 72), (72, .istore 5, 2, 74), (74, .aload_n 0, 1, 75), (75, .getfield 44, 3, 78), (78, .iload 5, 2, 80), (80, .iaload, 1, 81), (81, .ifCond .ge 80, 3, 84), (84, .aload_n 0, 1, 85), (85, .getfield 44, 3, 88), (88, .iload 5, 2, 90), (90, .iload 4, 2, 92), (92, .iastore, 1, 93), (93, .aload_n 0, 1, 94), (94, .getfield 41, 3, 97), (97, .iload 4, 2, 99), (99, .iload_n 3, 1, 100), (100, .iastore, 1, 101), (101, .iinc 4 1, 3, 104), (104, .aload_n 0, 1, 105), (105, .iload_n 1, 1, 106), (106, .iload_n 3, 1, 107), (107, .aload_n 0, 1, 108), (108, .getfield 32, 3, 111), (111, .iconst 5, 1, 112), (112, .iload_n 1, 1, 113), (113, .iadd, 1, 114), (114, .iaload, 1, 115), (115, .aload_n 0, 1, 116), (116, .getfield 20, 3, 119), (119, .bipush 13, 2, 121), (121, .iload_n 1, 1, 122), (122, .iadd, 1, 123), (123, .iaload, 1, 124), (124, .aload_n 0, 1, 125), (125, .getfield 32, 3, 128), (128, .bipush 35, 2, 130), (130, .iaload, 1, 131), (131, .iload 4, 2, 133), (133, .iadd, 1, 134), (134, .iconst 0, 1, 135), (135, .invokevirtual 249, 3, 138), (138, .istore_n 3, 1, 139), (139, .iload_n 3, 1, 140), (140, .bipush 9, 2, 142), (142, .imul, 1, 143), (143, .aload_n 0, 1, 144), (144, .getfield 32, 3, 147), (147, .bipush 35, 2, 149), (149, .iaload, 1, 150), (150, .iload 4, 2, 152), (152, .iadd, 1, 153), (153, .iload_n 2, 1, 154), (154, .irem, 1, 155), (155, .iadd, 1, 156), (156, .istore 5, 2, 158), (158, .goto (-84), 3, 161), (161, .aload_n 0, 1, 162), (162, .aload_n 0, 1, 163), (163, .getfield 44, 3, 166), (166, .iload 5, 2, 168), (168, .iaload, 1, 169), (169, .putfield 257, 3, 172), (172, .aload_n 0, 1, 173), (173, .iload 4, 2, 175), (175, .aload_n 0, 1, 176), (176, .getfield 257, 3, 179), (179, .isub, 1, 180), (180, .putfield 260, 3, 183), (183, .iload 4, 2, 185), (185, .istore 6, 2, 187), (187, .iload 6, 2, 189), (189, .aload_n 0, 1, 190), (190, .getfield 257, 3, 193), (193, .iconst 2, 1, 194), (194, .aload_n 0, 1, 195), (195, .getfield 260, 3, 198), (198, .imul, 1, 199), (199, .iadd, 1, 200), (200, .if_icmp .ge 28, 3, 203), (203, .aload_n 0, 1, 204), (204, .getfield 41, 3, 207), (207, .iload 6, 2, 209), (209, .aload_n 0, 1, 210), (210, .getfield 41, 3, 213), (213, .iload 6, 2, 215), (215, .aload_n 0, 1, 216), (216, .getfield 260, 3, 219), (219, .isub, 1, 220), (220, .iaload, 1, 221), (221, .iastore, 1, 222), (222, .iinc 6 1, 3, 225), (225, .goto (-38), 3, 228), (228, .aload_n 0, 1, 229), (229, .iconst 1, 1, 230), (230, .putfield 263, 3, 233), (233, .aload_n 0, 1, 234), (234, .aload_n 0, 1, 235), (235, .getfield 263, 3, 238), (238, .invokevirtual 266, 3, 241), (241, .ifCond .ne 16, 3, 244), (244, .aload_n 0, 1, 245), (245, .dup, 1, 246), (246, .getfield 263, 3, 249), (249, .iconst 1, 1, 250), (250, .iadd, 1, 251), (251, .putfield 263, 3, 254), (254, .goto (-21), 3, 257), (257, .aload_n 0, 1, 258), (258, .aload_n 0, 1, 259), (259, .getfield 257, 3, 262), (262, .putfield 269, 3, 265), (265, .aload_n 0, 1, 266), (266, .getfield 269, 3, 269), (269, .ifCond .le 46, 3, 272), (272, .aload_n 0, 1, 273), (273, .getfield 41, 3, 276), (276, .aload_n 0, 1, 277), (277, .getfield 269, 3, 280), (280, .iconst 1, 1, 281), (281, .isub, 1, 282), (282, .iaload, 1, 283), (283, .aload_n 0, 1, 284), (284, .getfield 41, 3, 287), (287, .aload_n 0, 1, 288), (288, .getfield 269, 3, 291), (291, .iconst 1, 1, 292), (292, .isub, 1, 293), (293, .aload_n 0, 1, 294), (294, .getfield 263, 3, 297), (297, .iadd, 1, 298), (298, .iaload, 1, 299), (299, .if_icmp .ne 16, 3, 302), (302, .aload_n 0, 1, 303), (303, .dup, 1, 304), (304, .getfield 269, 3, 307), (307, .iconst 1, 1, 308), (308, .isub, 1, 309), (309, .putfield 269, 3, 312), (312, .goto (-47), 3, 315), (315, .return_, 1, 316)]
theorem kd_m11_goRound : kDec m11_goRound kl_m11_goRound := kDec_of (by decide +kernel)
def kl_m11_isRoundOf : List (Nat × Instr × Nat × Nat) := [(0, .aload_n 0, 1, 1), (1, .getfield 260, 3, 4), (4, .iload_n 1, 1, 5), (5, .irem, 1, 6), (6, .ifCond .eq 5, 3, 9), (9, .iconst 0, 1, 10), (10, .ireturn, 1, 11), (11, .iconst 0, 1, 12), (12, .istore_n 2, 1, 13), (13, .iload_n 2, 1, 14), (14, .aload_n 0, 1, 15), (15, .getfield 260, 3, 18), (18, .if_icmp .ge 38, 3, 21), (21, .aload_n 0, 1, 22), (22, .getfield 41, 3, 25), (25, .aload_n 0, 1, 26), (26, .getfield 257, 3, 29), (29, .iload_n 2, 1, 30), (30, .iadd, 1, 31), (31, .iaload, 1, 32), (32, .aload_n 0, 1, 33), (33, .getfield 41, 3, 36), (36, .aload_n 0, 1, 37), (37, .getfield 257, 3, 40), (40, .iload_n 2, 1, 41), (41, .iadd, 1, 42), (42, .iload_n 1, 1, 43), (43, .iadd, 1, 44), (44, .iaload, 1, 45), (45, .if_icmp .eq 5, 3, 48), (48, .iconst 0, 1, 49), (49, .ireturn, 1, 50), (50, .iinc 2 1, 3, 53), (53, .goto (-40), 3, 56), (56, .iconst 1, 1, 57), (57, .ireturn, 1, 58)]
theorem kd_m11_isRoundOf : kDec m11_isRoundOf kl_m11_isRoundOf := kDec_of (by decide +kernel)
def kl_m11_pair : List (Nat × Instr × Nat × Nat) := [(0, .aload_n 0, 1, 1), (1, .invokevirtual 164, 3, 4), (4, .aload_n 0, 1, 5), (5, .iload_n 1, 1, 6), (6, .invokevirtual 239, 3, 9), (9, .ifCond .eq 12, 3, 12), (12, .iload_n 2, 1, 13), (13, .iconst 0, 1, 14), (14, .iconst 5, 1, 15), (15, .invokestatic 146, 3, 18), (18, .ifCond .ne 9, 3, 21), (21, .aload_n 0, 1, 22), (22, .iconst 1, 1, 23), (23, .invokevirtual 167, 3, 26), (26, .ireturn, 1, 27), (27, .iload_n 2, 1, 28), (28, .tableswitch 86 0 4 #[36, 46, 53, 67, 76], 36, 64), (64, .aload_n 0, 1, 65), (65, .getfield 20, 3, 68), (68, .bipush 8, 2, 70), (70, .iload_n 1, 1, 71), (71, .iadd, 1, 72), (72, .iaload, 1, 73), (73, .ireturn, 1, 74), (74, .aload_n 0, 1, 75), (75, .getfield 32, 3, 78), (78, .iload_n 1, 1, 79), (79, .iaload, 1, 80), (80, .ireturn, 1, 81), (81, .aload_n 0, 1, 82), (82, .getfield 20, 3, 85), (85, .iconst 0, 1, 86), (86, .iaload, 1, 87), (87, .aload_n 0, 1, 88), (88, .getfield 32, 3, 91), (91, .iload_n 1, 1, 92), (92, .iaload, 1, 93), (93, .isub, 1, 94), (94, .ireturn, 1, 95), (95, .aload_n 0, 1, 96), (96, .getfield 32, 3, 99), (99, .iconst 5, 1, 100), (100, .iload_n 1, 1, 101), (101, .iadd, 1, 102), (102, .iaload, 1, 103), (103, .ireturn, 1, 104), (104, .aload_n 0, 1, 105), (105, .getfield 20, 3, 108), (108, .bipush 13, 2, 110), (110, .iload_n 1, 1, 111), (111, .iadd, 1, 112), (112, .iaload, 1, 113), (113, .ireturn, 1, 114), (114, .aload_n 0, 1, 115), (115, .aload_n 0, 1, 116), (116, .getfield 32, 3, 119), (119, .iload_n 1, 1, 120), (120, .iaload, 1, 121), (121, .invokevirtual 272, 3, 124), (124, .ifCond .eq 7, 3, 127), (127, .iconst 1, 1, 128), (128, .goto 4, 3, 131), (131, .iconst 0, 1, 132), (132, .ireturn, 1, 133)]
theorem kd_m11_pair : kDec m11_pair kl_m11_pair := kDec_of (by decide +kernel)
def kl_m11_aheadWhy : List (Nat × Instr × Nat × Nat) := [(0, .aload_n 0, 1, 1), (1, .iload_n 1, 1, 2), (2, .iload_n 2, 1, 3), (3, .iconst 0, 1, 4), (4, .bipush 60, 2, 6), (6, .invokestatic 146, 3, 9), (9, .invokevirtual 275, 3, 12), (12, .ireturn, 1, 13)]
theorem kd_m11_aheadWhy : kDec m11_aheadWhy kl_m11_aheadWhy := kDec_of (by decide +kernel)
def kl_m11_says : List (Nat × Instr × Nat × Nat) := [(0, .aload_n 0, 1, 1), (1, .invokevirtual 164, 3, 4), (4, .aload_n 0, 1, 5), (5, .aload_n 0, 1, 6), (6, .iload_n 1, 1, 7), (7, .invokevirtual 239, 3, 10), (10, .iload_n 2, 1, 11), (11, .invokevirtual 279, 3, 14), (14, .istore_n 3, 1, 15), (15, .iload_n 3, 1, 16), (16, .ifCond .eq 11, 3, 19), (19, .aload_n 0, 1, 20), (20, .iload_n 3, 1, 21), (21, .invokevirtual 167, 3, 24), (24, .goto 9, 3, 27), (27, .aload_n 0, 1, 28), (28, .iload_n 1, 1, 29), (29, .iload_n 2, 1, 30), (30, .invokevirtual 283, 3, 33), (33, .ireturn, 1, 34)]
theorem kd_m11_says : kDec m11_says kl_m11_says := kDec_of (by decide +kernel)
def kl_m11_saysAll : List (Nat × Instr × Nat × Nat) := [(0, .aload_n 0, 1, 1), (1, .invokevirtual 164, 3, 4), (4, .aload_n 0, 1, 5), (5, .aload_n 0, 1, 6), (6, .iload_n 1, 1, 7), (7, .invokevirtual 239, 3, 10), (10, .iload_n 2, 1, 11), (11, .invokevirtual 279, 3, 14), (14, .istore_n 3, 1, 15), (15, .iload_n 3, 1, 16), (16, .ifCond .eq 9, 3, 19), (19, .aload_n 0, 1, 20), (20, .iload_n 3, 1, 21), (21, .invokevirtual 167, 3, 24), (24, .ireturn, 1, 25), (25, .iconst 0, 1, 26), (26, .istore 4, 2, 28), (28, .iconst 1, 1, 29), (29, .istore 5, 2, 31), (31, .iload 5, 2, 33), (33, .iload_n 2, 1, 34), (34, .if_icmp .gt 21, 3, 37), (37, .iload 4, 2, 39), (39, .aload_n 0, 1, 40), (40, .iload_n 1, 1, 41), (41, .iload 5, 2, 43), (43, .invokevirtual 283, 3, 46), (46, .iadd, 1, 47), (47, .istore 4, 2, 49), (49, .iinc 5 1, 3, 52), (52, .goto (-21), 3, 55), (55, .iload 4, 2, 57), (57, .ireturn, 1, 58)]
theorem kd_m11_saysAll : kDec m11_saysAll kl_m11_saysAll := kDec_of (by decide +kernel)
def kl_m11_moreIn : List (Nat × Instr × Nat × Nat) := [(0, .aload_n 0, 1, 1), (1, .invokevirtual 164, 3, 4), (4, .aload_n 0, 1, 5), (5, .iload_n 1, 1, 6), (6, .invokevirtual 239, 3, 9), (9, .ifCond .ne 9, 3, 12), (12, .aload_n 0, 1, 13), (13, .iconst 1, 1, 14), (14, .invokevirtual 167, 3, 17), (17, .ireturn, 1, 18), (18, .iconst 0, 1, 19), (19, .istore_n 2, 1, 20), (20, .iload_n 2, 1, 21), (21, .bipush 60, 2, 23), (23, .if_icmp .gt 24, 3, 26), (26, .aload_n 0, 1, 27), (27, .aload_n 0, 1, 28), (28, .iload_n 1, 1, 29), (29, .iload_n 2, 1, 30), (30, .invokevirtual 283, 3, 33), (33, .invokevirtual 272, 3, 36), (36, .ifCond .eq 5, 3, 39), (39, .iload_n 2, 1, 40), (40, .ireturn, 1, 41), (41, .iinc 2 1, 3, 44), (44, .goto (-24), 3, 47), (47, .bipush (-2), 2, 49), (49, .ireturn, 1, 50)]
theorem kd_m11_moreIn : kDec m11_moreIn kl_m11_moreIn := kDec_of (by decide +kernel)
def kl_m11_moreTimes : List (Nat × Instr × Nat × Nat) := [(0, .aload_n 0, 1, 1), (1, .invokevirtual 164, 3, 4), (4, .aload_n 0, 1, 5), (5, .aload_n 0, 1, 6), (6, .iload_n 1, 1, 7), (7, .invokevirtual 239, 3, 10), (10, .iload_n 2, 1, 11), (11, .invokevirtual 279, 3, 14), (14, .istore_n 3, 1, 15), (15, .iload_n 3, 1, 16), (16, .ifCond .eq 9, 3, 19), (19, .aload_n 0, 1, 20), (20, .iload_n 3, 1, 21), (21, .invokevirtual 167, 3, 24), (24, .ireturn, 1, 25), (25, .iconst 0, 1, 26), (26, .istore 4, 2, 28), (28, .iconst 1, 1, 29), (29, .istore 5, 2, 31), (31, .iload 5, 2, 33), (33, .iload_n 2, 1, 34), (34, .if_icmp .gt 33, 3, 37), (37, .iload 4, 2, 39), (39, .aload_n 0, 1, 40), (40, .aload_n 0, 1, 41), (41, .iload_n 1, 1, 42), (42, .iload 5, 2, 44), (44, .invokevirtual 283, 3, 47), (47, .invokevirtual 272, 3, 50), (50, .ifCond .eq 7, 3, 53), (53, .iconst 1, 1, 54), (54, .goto 4, 3, 57), (57, .iconst 0, 1, 58), (58, .iadd, 1, 59), (59, .istore 4, 2, 61), (61, .iinc 5 1, 3, 64), (64, .goto (-33), 3, 67), (67, .iload 4, 2, 69), (69, .ireturn, 1, 70)]
theorem kd_m11_moreTimes : kDec m11_moreTimes kl_m11_moreTimes := kDec_of (by decide +kernel)
def kl_m11_settles : List (Nat × Instr × Nat × Nat) := [(0, .aload_n 0, 1, 1), (1, .invokevirtual 164, 3, 4), (4, .aload_n 0, 1, 5), (5, .iload_n 1, 1, 6), (6, .invokevirtual 239, 3, 9), (9, .ifCond .ne 9, 3, 12), (12, .aload_n 0, 1, 13), (13, .iconst 1, 1, 14), (14, .invokevirtual 167, 3, 17), (17, .ireturn, 1, 18), (18, .aload_n 0, 1, 19), (19, .iload_n 1, 1, 20), (20, .invokevirtual 286, 3, 23), (23, .aload_n 0, 1, 24), (24, .getfield 269, 3, 27), (27, .ireturn, 1, 28)]
theorem kd_m11_settles : kDec m11_settles kl_m11_settles := kDec_of (by decide +kernel)
def kl_m11_round : List (Nat × Instr × Nat × Nat) := [(0, .aload_n 0, 1, 1), (1, .invokevirtual 164, 3, 4), (4, .aload_n 0, 1, 5), (5, .iload_n 1, 1, 6), (6, .invokevirtual 239, 3, 9), (9, .ifCond .ne 9, 3, 12), (12, .aload_n 0, 1, 13), (13, .iconst 1, 1, 14), (14, .invokevirtual 167, 3, 17), (17, .ireturn, 1, 18), (18, .aload_n 0, 1, 19), (19, .iload_n 1, 1, 20), (20, .invokevirtual 286, 3, 23), (23, .aload_n 0, 1, 24), (24, .getfield 263, 3, 27), (27, .ireturn, 1, 28)]
theorem kd_m11_round : kDec m11_round kl_m11_round := kDec_of (by decide +kernel)
def kl_m11_saysLate : List (Nat × Instr × Nat × Nat) := [(0, .aload_n 0, 1, 1), (1, .invokevirtual 164, 3, 4), (4, .aload_n 0, 1, 5), (5, .aload_n 0, 1, 6), (6, .iload_n 1, 1, 7), (7, .invokevirtual 239, 3, 10), (10, .iload_n 2, 1, 11), (11, .iconst 0, 1, 12), (12, .ldc_w 289, 3, 15), (15, .invokestatic 146, 3, 18), (18, .invokevirtual 275, 3, 21), (21, .istore_n 3, 1, 22), (22, .iload_n 3, 1, 23), (23, .ifCond .eq 9, 3, 26), (26, .aload_n 0, 1, 27), (27, .iload_n 3, 1, 28), (28, .invokevirtual 167, 3, 31), (31, .ireturn, 1, 32), (32, .aload_n 0, 1, 33), (33, .iload_n 1, 1, 34), (34, .invokevirtual 286, 3, 37), (37, .iload_n 2, 1, 38), (38, .aload_n 0, 1, 39), (39, .getfield 257, 3, 42), (42, .if_icmp .ge 12, 3, 45), (45, .aload_n 0, 1, 46), (46, .getfield 41, 3, 49), (49, .iload_n 2, 1, 50), (50, .iaload, 1, 51), (51, .goto 24, 3, 54), (54, .aload_n 0, 1, 55), (55, .getfield 41, 3, 58), (58, .aload_n 0, 1, 59), (59, .getfield 257, 3, 62), (62, .iload_n 2, 1, 63), (63, .aload_n 0, 1, 64), (64, .getfield 257, 3, 67), (67, .isub, 1, 68), (68, .aload_n 0, 1, 69), (69, .getfield 260, 3, 72), (72, .irem, 1, 73), (73, .iadd, 1, 74), (74, .iaload, 1, 75), (75, .ireturn, 1, 76)]
theorem kd_m11_saysLate : kDec m11_saysLate kl_m11_saysLate := kDec_of (by decide +kernel)
def kl_m11_extremeOf : List (Nat × Instr × Nat × Nat) := [(0, .aload_n 0, 1, 1), (1, .iload_n 1, 1, 2), (2, .invokevirtual 286, 3, 5), (5, .aload_n 0, 1, 6), (6, .getfield 41, 3, 9), (9, .aload_n 0, 1, 10), (10, .getfield 269, 3, 13), (13, .iaload, 1, 14), (14, .istore_n 3, 1, 15), (15, .iconst 0, 1, 16), (16, .istore 4, 2, 18), (18, .iload 4, 2, 20), (20, .aload_n 0, 1, 21), (21, .getfield 263, 3, 24), (24, .if_icmp .ge 46, 3, 27), (27, .iload_n 2, 1, 28), (28, .aload_n 0, 1, 29), (29, .getfield 41, 3, 32), (32, .aload_n 0, 1, 33), (33, .getfield 269, 3, 36), (36, .iload 4, 2, 38), (38, .iadd, 1, 39), (39, .iaload, 1, 40), (40, .imul, 1, 41), (41, .iload_n 2, 1, 42), (42, .iload_n 3, 1, 43), (43, .imul, 1, 44), (44, .if_icmp .le 18, 3, 47), (47, .aload_n 0, 1, 48), (48, .getfield 41, 3, 51), (51, .aload_n 0, 1, 52), (52, .getfield 269, 3, 55), (55, .iload 4, 2, 57), (57, .iadd, 1, 58), (58, .iaload, 1, 59), (59, .goto 4, 3, 62), (62, .iload_n 3, 1, 63), (63, .istore_n 3, 1, 64), (64, .iinc 4 1, 3, 67), (67, .goto (-49), 3, 70), (70, .iload_n 3, 1, 71), (71, .ireturn, 1, 72)]
theorem kd_m11_extremeOf : kDec m11_extremeOf kl_m11_extremeOf := kDec_of (by decide +kernel)
def kl_m11_roundMost : List (Nat × Instr × Nat × Nat) := [(0, .aload_n 0, 1, 1), (1, .invokevirtual 164, 3, 4), (4, .aload_n 0, 1, 5), (5, .iload_n 1, 1, 6), (6, .invokevirtual 239, 3, 9), (9, .ifCond .eq 12, 3, 12), (12, .aload_n 0, 1, 13), (13, .iload_n 1, 1, 14), (14, .iconst 1, 1, 15), (15, .invokevirtual 290, 3, 18), (18, .goto 8, 3, 21), (21, .aload_n 0, 1, 22), (22, .iconst 1, 1, 23), (23, .invokevirtual 167, 3, 26), (26, .ireturn, 1, 27)]
theorem kd_m11_roundMost : kDec m11_roundMost kl_m11_roundMost := kDec_of (by decide +kernel)
def kl_m11_roundLeast : List (Nat × Instr × Nat × Nat) := [(0, .aload_n 0, 1, 1), (1, .invokevirtual 164, 3, 4), (4, .aload_n 0, 1, 5), (5, .iload_n 1, 1, 6), (6, .invokevirtual 239, 3, 9), (9, .ifCond .eq 12, 3, 12), (12, .aload_n 0, 1, 13), (13, .iload_n 1, 1, 14), (14, .iconst (-1), 1, 15), (15, .invokevirtual 290, 3, 18), (18, .goto 8, 3, 21), (21, .aload_n 0, 1, 22), (22, .iconst 1, 1, 23), (23, .invokevirtual 167, 3, 26), (26, .ireturn, 1, 27)]
theorem kd_m11_roundLeast : kDec m11_roundLeast kl_m11_roundLeast := kDec_of (by decide +kernel)
def kl_m11_turnsAbout : List (Nat × Instr × Nat × Nat) := [(0, .aload_n 0, 1, 1), (1, .invokevirtual 164, 3, 4), (4, .aload_n 0, 1, 5), (5, .iload_n 1, 1, 6), (6, .invokevirtual 239, 3, 9), (9, .ifCond .ne 9, 3, 12), (12, .aload_n 0, 1, 13), (13, .iconst 1, 1, 14), (14, .invokevirtual 167, 3, 17), (17, .ireturn, 1, 18), (18, .iconst 0, 1, 19), (19, .istore_n 2, 1, 20), (20, .iconst 0, 1, 21), (21, .istore_n 3, 1, 22), (22, .iload_n 3, 1, 23), (23, .bipush 60, 2, 25), (25, .if_icmp .ge 42, 3, 28), (28, .iload_n 2, 1, 29), (29, .aload_n 0, 1, 30), (30, .aload_n 0, 1, 31), (31, .iload_n 1, 1, 32), (32, .iload_n 3, 1, 33), (33, .invokevirtual 283, 3, 36), (36, .invokevirtual 272, 3, 39), (39, .aload_n 0, 1, 40), (40, .aload_n 0, 1, 41), (41, .iload_n 1, 1, 42), (42, .iload_n 3, 1, 43), (43, .iconst 1, 1, 44), (44, .iadd, 1, 45), (45, .invokevirtual 283, 3, 48), (48, .invokevirtual 272, 3, 51), (51, .if_icmp .ne 7, 3, 54), (54, .iconst 0, 1, 55), (55, .goto 4, 3, 58), (58, .iconst 1, 1, 59), (59, .iadd, 1, 60), (60, .istore_n 2, 1, 61), (61, .iinc 3 1, 3, 64), (64, .goto (-42), 3, 67), (67, .iload_n 2, 1, 68), (68, .ireturn, 1, 69)]
theorem kd_m11_turnsAbout : kDec m11_turnsAbout kl_m11_turnsAbout := kDec_of (by decide +kernel)
def kl_m11_alikeIn : List (Nat × Instr × Nat × Nat) := [(0, .aload_n 0, 1, 1), (1, .invokevirtual 164, 3, 4), (4, .aload_n 0, 1, 5), (5, .iload_n 1, 1, 6), (6, .iload_n 2, 1, 7), (7, .invokevirtual 293, 3, 10), (10, .ifCond .ne 9, 3, 13), (13, .aload_n 0, 1, 14), (14, .iconst 1, 1, 15), (15, .invokevirtual 167, 3, 18), (18, .ireturn, 1, 19), (19, .iconst 0, 1, 20), (20, .istore_n 3, 1, 21), (21, .iload_n 3, 1, 22), (22, .bipush 60, 2, 24), (24, .if_icmp .gt 26, 3, 27), (27, .aload_n 0, 1, 28), (28, .iload_n 1, 1, 29), (29, .iload_n 3, 1, 30), (30, .invokevirtual 283, 3, 33), (33, .aload_n 0, 1, 34), (34, .iload_n 2, 1, 35), (35, .iload_n 3, 1, 36), (36, .invokevirtual 283, 3, 39), (39, .if_icmp .ne 5, 3, 42), (42, .iload_n 3, 1, 43), (43, .ireturn, 1, 44), (44, .iinc 3 1, 3, 47), (47, .goto (-26), 3, 50), (50, .bipush (-2), 2, 52), (52, .ireturn, 1, 53)]
theorem kd_m11_alikeIn : kDec m11_alikeIn kl_m11_alikeIn := kDec_of (by decide +kernel)
def kl_m11_loudest : List (Nat × Instr × Nat × Nat) := [(0, .aload_n 0, 1, 1), (1, .invokevirtual 164, 3, 4), (4, .aload_n 0, 1, 5), (5, .aload_n 0, 1, 6), (6, .getfield 177, 3, 9), (9, .iload_n 1, 1, 10), (10, .invokevirtual 279, 3, 13), (13, .istore_n 2, 1, 14), (14, .iload_n 2, 1, 15), (15, .ifCond .eq 9, 3, 18), (18, .aload_n 0, 1, 19), (19, .iload_n 2, 1, 20), (20, .invokevirtual 167, 3, 23), (23, .ireturn, 1, 24), (24, .iconst 0, 1, 25), (25, .istore_n 3, 1, 26), (26, .iconst 1, 1, 27), (27, .istore 4, 2, 29), (29, .iload 4, 2, 31), (31, .aload_n 0, 1, 32), (32, .getfield 20, 3, 35), (35, .iconst 2, 1, 36), (36, .iaload, 1, 37), (37, .if_icmp .ge 28, 3, 40), (40, .aload_n 0, 1, 41), (41, .iload 4, 2, 43), (43, .iload_n 1, 1, 44), (44, .invokevirtual 283, 3, 47), (47, .aload_n 0, 1, 48), (48, .iload_n 3, 1, 49), (49, .iload_n 1, 1, 50), (50, .invokevirtual 283, 3, 53), (53, .if_icmp .le 6, 3, 56), (56, .iload 4, 2, 58), (58, .istore_n 3, 1, 59), (59, .iinc 4 1, 3, 62), (62, .goto (-33), 3, 65), (65, .iload_n 3, 1, 66), (66, .ireturn, 1, 67)]
theorem kd_m11_loudest : kDec m11_loudest kl_m11_loudest := kDec_of (by decide +kernel)
def kl_m11_mastersIn : List (Nat × Instr × Nat × Nat) := [(0, .iconst 0, 1, 1), (1, .istore_n 2, 1, 2), (2, .iconst 0, 1, 3), (3, .istore_n 3, 1, 4), (4, .iload_n 3, 1, 5), (5, .aload_n 0, 1, 6), (6, .getfield 20, 3, 9), (9, .iconst 2, 1, 10), (10, .iaload, 1, 11), (11, .if_icmp .ge 32, 3, 14), (14, .iload_n 2, 1, 15), (15, .aload_n 0, 1, 16), (16, .aload_n 0, 1, 17), (17, .iload_n 3, 1, 18), (18, .iload_n 1, 1, 19), (19, .invokevirtual 283, 3, 22), (22, .invokevirtual 272, 3, 25), (25, .ifCond .eq 9, 3, 28), (28, .iconst 1, 1, 29), (29, .iload_n 3, 1, 30), (30, .ishl, 1, 31), (31, .goto 4, 3, 34), (34, .iconst 0, 1, 35), (35, .ior, 1, 36), (36, .istore_n 2, 1, 37), (37, .iinc 3 1, 3, 40), (40, .goto (-36), 3, 43), (43, .iload_n 2, 1, 44), (44, .ireturn, 1, 45)]
theorem kd_m11_mastersIn : kDec m11_mastersIn kl_m11_mastersIn := kDec_of (by decide +kernel)
def kl_m11_masters : List (Nat × Instr × Nat × Nat) := [(0, .aload_n 0, 1, 1), (1, .invokevirtual 164, 3, 4), (4, .aload_n 0, 1, 5), (5, .aload_n 0, 1, 6), (6, .getfield 177, 3, 9), (9, .iload_n 1, 1, 10), (10, .invokevirtual 279, 3, 13), (13, .istore_n 2, 1, 14), (14, .iload_n 2, 1, 15), (15, .ifCond .eq 11, 3, 18), (18, .aload_n 0, 1, 19), (19, .iload_n 2, 1, 20), (20, .invokevirtual 167, 3, 23), (23, .goto 8, 3, 26), (26, .aload_n 0, 1, 27), (27, .iload_n 1, 1, 28), (28, .invokevirtual 297, 3, 31), (31, .ireturn, 1, 32)]
theorem kd_m11_masters : kDec m11_masters kl_m11_masters := kDec_of (by decide +kernel)
def kl_m11_overtakes : List (Nat × Instr × Nat × Nat) := [(0, .aload_n 0, 1, 1), (1, .invokevirtual 164, 3, 4), (4, .aload_n 0, 1, 5), (5, .iload_n 1, 1, 6), (6, .iload_n 2, 1, 7), (7, .invokevirtual 293, 3, 10), (10, .ifCond .ne 9, 3, 13), (13, .aload_n 0, 1, 14), (14, .iconst 1, 1, 15), (15, .invokevirtual 167, 3, 18), (18, .ireturn, 1, 19), (19, .iconst 0, 1, 20), (20, .istore_n 3, 1, 21), (21, .iload_n 3, 1, 22), (22, .bipush 60, 2, 24), (24, .if_icmp .gt 26, 3, 27), (27, .aload_n 0, 1, 28), (28, .iload_n 1, 1, 29), (29, .iload_n 3, 1, 30), (30, .invokevirtual 283, 3, 33), (33, .aload_n 0, 1, 34), (34, .iload_n 2, 1, 35), (35, .iload_n 3, 1, 36), (36, .invokevirtual 283, 3, 39), (39, .if_icmp .le 5, 3, 42), (42, .iload_n 3, 1, 43), (43, .ireturn, 1, 44), (44, .iinc 3 1, 3, 47), (47, .goto (-26), 3, 50), (50, .bipush (-2), 2, 52), (52, .ireturn, 1, 53)]
theorem kd_m11_overtakes : kDec m11_overtakes kl_m11_overtakes := kDec_of (by decide +kernel)
def kl_m11_widest : List (Nat × Instr × Nat × Nat) := [(0, .aload_n 0, 1, 1), (1, .invokevirtual 164, 3, 4), (4, .aload_n 0, 1, 5), (5, .aload_n 0, 1, 6), (6, .getfield 177, 3, 9), (9, .iload_n 1, 1, 10), (10, .invokevirtual 279, 3, 13), (13, .istore_n 2, 1, 14), (14, .iload_n 2, 1, 15), (15, .ifCond .eq 9, 3, 18), (18, .aload_n 0, 1, 19), (19, .iload_n 2, 1, 20), (20, .invokevirtual 167, 3, 23), (23, .ireturn, 1, 24), (24, .bipush (-2), 2, 26), (26, .istore_n 3, 1, 27), (27, .iconst (-1), 1, 28), (28, .istore 4, 2, 30), (30, .iconst 0, 1, 31), (31, .istore 5, 2, 33), (33, .iload 5, 2, 35), (35, .aload_n 0, 1, 36), (36, .getfield 20, 3, 39), (39, .iconst 2, 1, 40), (40, .iaload, 1, 41), (41, .if_icmp .ge 82, 3, 44), (44, .iload 5, 2, 46), (46, .iconst 1, 1, 47), (47, .iadd, 1, 48), (48, .istore 6, 2, 50), (50, .iload 6, 2, 52), (52, .aload_n 0, 1, 53), (53, .getfield 20, 3, 56), (56, .iconst 2, 1, 57), (57, .iaload, 1, 58), (58, .if_icmp .ge 59, 3, 61), (61, .aload_n 0, 1, 62), (62, .iload 5, 2, 64), (64, .iload_n 1, 1, 65), (65, .invokevirtual 283, 3, 68), (68, .aload_n 0, 1, 69), (69, .iload 6, 2, 71), (71, .iload_n 1, 1, 72), (72, .invokevirtual 283, 3, 75), (75, .isub, 1, 76), (76, .istore 7, 2, 78), (78, .iload 7, 2, 80), (80, .ifCond .ge 8, 3, 83), (83, .iload 7, 2, 85), (85, .ineg, 1, 86), (86, .istore 7, 2, 88), (88, .iload 7, 2, 90), (90, .iload 4, 2, 92), (92, .if_icmp .gt 6, 3, 95), (95, .goto 16, 3, 98), (98, .bipush 10, 2, 100), (100, .iload 5, 2, 102), (102, .imul, 1, 103), (103, .iload 6, 2, 105), (105, .iadd, 1, 106), (106, .istore_n 3, 1, 107), (107, .iload 7, 2, 109), (109, .istore 4, 2, 111), (111, .iinc 6 1, 3, 114), (114, .goto (-64), 3, 117), (117, .iinc 5 1, 3, 120), (120, .goto (-87), 3, 123), (123, .iload_n 3, 1, 124), (124, .ireturn, 1, 125)]
theorem kd_m11_widest : kDec m11_widest kl_m11_widest := kDec_of (by decide +kernel)
def kl_m11_sumAll : List (Nat × Instr × Nat × Nat) := [(0, .aload_n 0, 1, 1), (1, .invokevirtual 164, 3, 4), (4, .aload_n 0, 1, 5), (5, .aload_n 0, 1, 6), (6, .getfield 177, 3, 9), (9, .iload_n 1, 1, 10), (10, .invokevirtual 279, 3, 13), (13, .istore_n 2, 1, 14), (14, .iload_n 2, 1, 15), (15, .ifCond .eq 9, 3, 18), (18, .aload_n 0, 1, 19), (19, .iload_n 2, 1, 20), (20, .invokevirtual 167, 3, 23), (23, .ireturn, 1, 24), (24, .iconst 0, 1, 25), (25, .istore_n 3, 1, 26), (26, .iconst 0, 1, 27), (27, .istore 4, 2, 29), (29, .iload 4, 2, 31), (31, .aload_n 0, 1, 32), (32, .getfield 20, 3, 35), (35, .iconst 2, 1, 36), (36, .iaload, 1, 37), (37, .if_icmp .ge 19, 3, 40), (40, .iload_n 3, 1, 41), (41, .aload_n 0, 1, 42), (42, .iload 4, 2, 44), (44, .iload_n 1, 1, 45), (45, .invokevirtual 283, 3, 48), (48, .iadd, 1, 49), (49, .istore_n 3, 1, 50), (50, .iinc 4 1, 3, 53), (53, .goto (-24), 3, 56), (56, .iload_n 3, 1, 57), (57, .ireturn, 1, 58)]
theorem kd_m11_sumAll : kDec m11_sumAll kl_m11_sumAll := kDec_of (by decide +kernel)
def kl_m11_bestEvery : List (Nat × Instr × Nat × Nat) := [(0, .iconst 0, 1, 1), (1, .istore_n 3, 1, 2), (2, .iconst 1, 1, 3), (3, .istore 4, 2, 5), (5, .iload 4, 2, 7), (7, .bipush 9, 2, 9), (9, .if_icmp .gt 46, 3, 12), (12, .aload_n 0, 1, 13), (13, .iload_n 1, 1, 14), (14, .iload_n 2, 1, 15), (15, .aload_n 0, 1, 16), (16, .getfield 32, 3, 19), (19, .iconst 5, 1, 20), (20, .iload_n 1, 1, 21), (21, .iadd, 1, 22), (22, .iaload, 1, 23), (23, .iload 4, 2, 25), (25, .invokevirtual 253, 3, 28), (28, .aload_n 0, 1, 29), (29, .iload_n 1, 1, 30), (30, .iload_n 2, 1, 31), (31, .aload_n 0, 1, 32), (32, .getfield 32, 3, 35), (35, .iconst 5, 1, 36), (36, .iload_n 1, 1, 37), (37, .iadd, 1, 38), (38, .iaload, 1, 39), (39, .iload_n 3, 1, 40), (40, .invokevirtual 253, 3, 43), (43, .if_icmp .le 6, 3, 46), (46, .iload 4, 2, 48), (48, .istore_n 3, 1, 49), (49, .iinc 4 1, 3, 52), (52, .goto (-47), 3, 55), (55, .iload_n 3, 1, 56), (56, .ireturn, 1, 57)]
theorem kd_m11_bestEvery : kDec m11_bestEvery kl_m11_bestEvery := kDec_of (by decide +kernel)
def kl_m11_everyFor : List (Nat × Instr × Nat × Nat) := [(0, .aload_n 0, 1, 1), (1, .invokevirtual 164, 3, 4), (4, .aload_n 0, 1, 5), (5, .aload_n 0, 1, 6), (6, .iload_n 1, 1, 7), (7, .invokevirtual 239, 3, 10), (10, .iload_n 2, 1, 11), (11, .invokevirtual 279, 3, 14), (14, .istore_n 3, 1, 15), (15, .iload_n 3, 1, 16), (16, .ifCond .eq 11, 3, 19), (19, .aload_n 0, 1, 20), (20, .iload_n 3, 1, 21), (21, .invokevirtual 167, 3, 24), (24, .goto 9, 3, 27), (27, .aload_n 0, 1, 28), (28, .iload_n 1, 1, 29), (29, .iload_n 2, 1, 30), (30, .invokevirtual 300, 3, 33), (33, .ireturn, 1, 34)]
theorem kd_m11_everyFor : kDec m11_everyFor kl_m11_everyFor := kDec_of (by decide +kernel)
def kl_m11_everySays : List (Nat × Instr × Nat × Nat) := [(0, .aload_n 0, 1, 1), (1, .invokevirtual 164, 3, 4), (4, .aload_n 0, 1, 5), (5, .aload_n 0, 1, 6), (6, .iload_n 1, 1, 7), (7, .invokevirtual 239, 3, 10), (10, .iload_n 2, 1, 11), (11, .invokevirtual 279, 3, 14), (14, .istore_n 3, 1, 15), (15, .iload_n 3, 1, 16), (16, .ifCond .eq 11, 3, 19), (19, .aload_n 0, 1, 20), (20, .iload_n 3, 1, 21), (21, .invokevirtual 167, 3, 24), (24, .goto 23, 3, 27), (27, .aload_n 0, 1, 28), (28, .iload_n 1, 1, 29), (29, .iload_n 2, 1, 30), (30, .aload_n 0, 1, 31), (31, .getfield 32, 3, 34), (34, .iconst 5, 1, 35), (35, .iload_n 1, 1, 36), (36, .iadd, 1, 37), (37, .iaload, 1, 38), (38, .aload_n 0, 1, 39), (39, .iload_n 1, 1, 40), (40, .iload_n 2, 1, 41), (41, .invokevirtual 300, 3, 44), (44, .invokevirtual 253, 3, 47), (47, .ireturn, 1, 48)]
theorem kd_m11_everySays : kDec m11_everySays kl_m11_everySays := kDec_of (by decide +kernel)
def kl_m11_isNeverMore : List (Nat × Instr × Nat × Nat) := [(0, .iconst 1, 1, 1), (1, .istore_n 3, 1, 2), (2, .iload_n 3, 1, 3), (3, .bipush 60, 2, 5), (5, .if_icmp .gt 33, 3, 8), (8, .aload_n 0, 1, 9), (9, .aload_n 0, 1, 10), (10, .iload_n 1, 1, 11), (11, .iload_n 3, 1, 12), (12, .aload_n 0, 1, 13), (13, .getfield 32, 3, 16), (16, .iconst 5, 1, 17), (17, .iload_n 1, 1, 18), (18, .iadd, 1, 19), (19, .iaload, 1, 20), (20, .iload_n 2, 1, 21), (21, .invokevirtual 253, 3, 24), (24, .invokevirtual 272, 3, 27), (27, .ifCond .eq 5, 3, 30), (30, .iconst 0, 1, 31), (31, .ireturn, 1, 32), (32, .iinc 3 1, 3, 35), (35, .goto (-33), 3, 38), (38, .iconst 1, 1, 39), (39, .ireturn, 1, 40)]
theorem kd_m11_isNeverMore : kDec m11_isNeverMore kl_m11_isNeverMore := kDec_of (by decide +kernel)
def kl_m11_everyNever : List (Nat × Instr × Nat × Nat) := [(0, .aload_n 0, 1, 1), (1, .invokevirtual 164, 3, 4), (4, .aload_n 0, 1, 5), (5, .iload_n 1, 1, 6), (6, .invokevirtual 239, 3, 9), (9, .ifCond .ne 9, 3, 12), (12, .aload_n 0, 1, 13), (13, .iconst 1, 1, 14), (14, .invokevirtual 167, 3, 17), (17, .ireturn, 1, 18), (18, .iconst 0, 1, 19), (19, .istore_n 2, 1, 20), (20, .iload_n 2, 1, 21), (21, .bipush 9, 2, 23), (23, .if_icmp .gt 20, 3, 26), (26, .aload_n 0, 1, 27), (27, .iload_n 1, 1, 28), (28, .iload_n 2, 1, 29), (29, .invokevirtual 303, 3, 32), (32, .ifCond .eq 5, 3, 35), (35, .iload_n 2, 1, 36), (36, .ireturn, 1, 37), (37, .iinc 2 1, 3, 40), (40, .goto (-20), 3, 43), (43, .bipush (-2), 2, 45), (45, .ireturn, 1, 46)]
theorem kd_m11_everyNever : kDec m11_everyNever kl_m11_everyNever := kDec_of (by decide +kernel)
def kl_m11_stepFor : List (Nat × Instr × Nat × Nat) := [(0, .aload_n 0, 1, 1), (1, .invokevirtual 164, 3, 4), (4, .aload_n 0, 1, 5), (5, .aload_n 0, 1, 6), (6, .iload_n 1, 1, 7), (7, .invokevirtual 239, 3, 10), (10, .iload_n 2, 1, 11), (11, .invokevirtual 279, 3, 14), (14, .istore_n 3, 1, 15), (15, .iload_n 3, 1, 16), (16, .ifCond .eq 9, 3, 19), (19, .aload_n 0, 1, 20), (20, .iload_n 3, 1, 21), (21, .invokevirtual 167, 3, 24), (24, .ireturn, 1, 25), (25, .iconst 0, 1, 26), (26, .istore 4, 2, 28), (28, .iload 4, 2, 30), (30, .bipush 20, 2, 32), (32, .if_icmp .gt 36, 3, 35), (35, .aload_n 0, 1, 36), (36, .aload_n 0, 1, 37), (37, .iload_n 1, 1, 38), (38, .iload_n 2, 1, 39), (39, .iload 4, 2, 41), (41, .aload_n 0, 1, 42), (42, .getfield 20, 3, 45), (45, .bipush 13, 2, 47), (47, .iload_n 1, 1, 48), (48, .iadd, 1, 49), (49, .iaload, 1, 50), (50, .invokevirtual 253, 3, 53), (53, .invokevirtual 272, 3, 56), (56, .ifCond .eq 6, 3, 59), (59, .iload 4, 2, 61), (61, .ireturn, 1, 62), (62, .iinc 4 1, 3, 65), (65, .goto (-37), 3, 68), (68, .bipush (-2), 2, 70), (70, .ireturn, 1, 71)]
theorem kd_m11_stepFor : kDec m11_stepFor kl_m11_stepFor := kDec_of (by decide +kernel)
def kl_m11_stepBy : List (Nat × Instr × Nat × Nat) := [(0, .aload_n 0, 1, 1), (1, .getfield 26, 3, 4), (4, .iconst 5, 1, 5), (5, .iload_n 1, 1, 6), (6, .iadd, 1, 7), (7, .iaload, 1, 8), (8, .istore_n 3, 1, 9), (9, .iconst 0, 1, 10), (10, .istore 4, 2, 12), (12, .iload 4, 2, 14), (14, .aload_n 0, 1, 15), (15, .getfield 20, 3, 18), (18, .iconst 5, 1, 19), (19, .iaload, 1, 20), (20, .if_icmp .ge 49, 3, 23), (23, .aload_n 0, 1, 24), (24, .getfield 20, 3, 27), (27, .bipush 18, 2, 29), (29, .iconst 2, 1, 30), (30, .iload 4, 2, 32), (32, .imul, 1, 33), (33, .iadd, 1, 34), (34, .iaload, 1, 35), (35, .iload_n 1, 1, 36), (36, .if_icmp .ne 27, 3, 39), (39, .iload_n 2, 1, 40), (40, .iload 4, 2, 42), (42, .invokestatic 306, 3, 45), (45, .ifCond .eq 18, 3, 48), (48, .aload_n 0, 1, 49), (49, .getfield 20, 3, 52), (52, .bipush 18, 2, 54), (54, .iconst 2, 1, 55), (55, .iload 4, 2, 57), (57, .imul, 1, 58), (58, .iadd, 1, 59), (59, .iconst 1, 1, 60), (60, .iadd, 1, 61), (61, .iaload, 1, 62), (62, .istore_n 3, 1, 63), (63, .iinc 4 1, 3, 66), (66, .goto (-54), 3, 69), (69, .iload_n 3, 1, 70), (70, .ireturn, 1, 71)]
theorem kd_m11_stepBy : kDec m11_stepBy kl_m11_stepBy := kDec_of (by decide +kernel)
def kl_m11_saidThen : List (Nat × Instr × Nat × Nat) := [(0, .aload_n 0, 1, 1), (1, .getfield 26, 3, 4), (4, .iload_n 1, 1, 5), (5, .iaload, 1, 6), (6, .istore 4, 2, 8), (8, .iconst 1, 1, 9), (9, .istore 5, 2, 11), (11, .iload 5, 2, 13), (13, .iload_n 2, 1, 14), (14, .if_icmp .gt 36, 3, 17), (17, .aload_n 0, 1, 18), (18, .iload_n 1, 1, 19), (19, .iload 4, 2, 21), (21, .aload_n 0, 1, 22), (22, .iload_n 1, 1, 23), (23, .iload_n 3, 1, 24), (24, .invokevirtual 309, 3, 27), (27, .aload_n 0, 1, 28), (28, .getfield 20, 3, 31), (31, .bipush 13, 2, 33), (33, .iload_n 1, 1, 34), (34, .iadd, 1, 35), (35, .iaload, 1, 36), (36, .iload 5, 2, 38), (38, .iconst 0, 1, 39), (39, .invokevirtual 249, 3, 42), (42, .istore 4, 2, 44), (44, .iinc 5 1, 3, 47), (47, .goto (-36), 3, 50), (50, .iload 4, 2, 52), (52, .ireturn, 1, 53)]
theorem kd_m11_saidThen : kDec m11_saidThen kl_m11_saidThen := kDec_of (by decide +kernel)
def kl_m11_wrongBy : List (Nat × Instr × Nat × Nat) := [(0, .iconst 0, 1, 1), (1, .istore_n 2, 1, 2), (2, .iload_n 2, 1, 3), (3, .aload_n 0, 1, 4), (4, .getfield 20, 3, 7), (7, .bipush 6, 2, 9), (9, .iaload, 1, 10), (10, .if_icmp .ge 56, 3, 13), (13, .aload_n 0, 1, 14), (14, .aload_n 0, 1, 15), (15, .getfield 20, 3, 18), (18, .bipush 26, 2, 20), (20, .iconst 3, 1, 21), (21, .iload_n 2, 1, 22), (22, .imul, 1, 23), (23, .iadd, 1, 24), (24, .iaload, 1, 25), (25, .aload_n 0, 1, 26), (26, .getfield 20, 3, 29), (29, .bipush 26, 2, 31), (31, .iconst 3, 1, 32), (32, .iload_n 2, 1, 33), (33, .imul, 1, 34), (34, .iadd, 1, 35), (35, .iconst 1, 1, 36), (36, .iadd, 1, 37), (37, .iaload, 1, 38), (38, .iload_n 1, 1, 39), (39, .invokevirtual 312, 3, 42), (42, .aload_n 0, 1, 43), (43, .getfield 20, 3, 46), (46, .bipush 26, 2, 48), (48, .iconst 3, 1, 49), (49, .iload_n 2, 1, 50), (50, .imul, 1, 51), (51, .iadd, 1, 52), (52, .iconst 2, 1, 53), (53, .iadd, 1, 54), (54, .iaload, 1, 55), (55, .if_icmp .eq 5, 3, 58), (58, .iload_n 2, 1, 59), (59, .ireturn, 1, 60), (60, .iinc 2 1, 3, 63), (63, .goto (-61), 3, 66), (66, .bipush (-2), 2, 68), (68, .ireturn, 1, 69)]
theorem kd_m11_wrongBy : kDec m11_wrongBy kl_m11_wrongBy := kDec_of (by decide +kernel)
def kl_m11_seekSets : List (Nat × Instr × Nat × Nat) := [(0, .iconst (-1), 1, 1), (1, .istore_n 2, 1, 2), (2, .aload_n 0, 1, 3), (3, .iconst 0, 1, 4), (4, .putfield 315, 3, 7), (7, .aload_n 0, 1, 8), (8, .iconst 0, 1, 9), (9, .putfield 318, 3, 12), (12, .aload_n 0, 1, 13), (13, .iconst 1, 1, 14), (14, .aload_n 0, 1, 15), (15, .getfield 20, 3, 18), (18, .iconst 5, 1, 19), (19, .iaload, 1, 20), (20, .ishl, 1, 21), (21, .iconst 1, 1, 22), (22, .isub, 1, 23), (23, .putfield 321, 3, 26), (26, .iconst 0, 1, 27), (27, .istore_n 3, 1, 28), (28, .iload_n 3, 1, 29), (29, .iconst 4, 1, 30), (30, .if_icmp .ge 16, 3, 33), (33, .aload_n 0, 1, 34), (34, .getfield 47, 3, 37), (37, .iload_n 3, 1, 38), (38, .iconst 0, 1, 39), (39, .iastore, 1, 40), (40, .iinc 3 1, 3, 43), (43, .goto (-15), 3, 46), (46, .iconst 0, 1, 47), (47, .istore_n 3, 1, 48), (48, .iload_n 3, 1, 49), (49, .iconst 1, 1, 50), (50, .aload_n 0, 1, 51), (51, .getfield 20, 3, 54), (54, .iconst 5, 1, 55), (55, .iaload, 1, 56), (56, .ishl, 1, 57), (57, .if_icmp .ge 98, 3, 60), (60, .aload_n 0, 1, 61), (61, .iload_n 3, 1, 62), (62, .invokevirtual 324, 3, 65), (65, .bipush (-2), 2, 67), (67, .if_icmp .eq 6, 3, 70), (70, .goto 79, 3, 73), (73, .aload_n 0, 1, 74), (74, .getfield 315, 3, 77), (77, .iload_n 1, 1, 78), (78, .if_icmp .ne 5, 3, 81), (81, .iload_n 3, 1, 82), (82, .istore_n 2, 1, 83), (83, .aload_n 0, 1, 84), (84, .dup, 1, 85), (85, .getfield 315, 3, 88), (88, .iconst 1, 1, 89), (89, .iadd, 1, 90), (90, .putfield 315, 3, 93), (93, .aload_n 0, 1, 94), (94, .dup, 1, 95), (95, .getfield 318, 3, 98), (98, .iload_n 3, 1, 99), (99, .ior, 1, 100), (100, .putfield 318, 3, 103), (103, .aload_n 0, 1, 104), (104, .dup, 1, 105), (105, .getfield 321, 3, 108), (108, .iload_n 3, 1, 109), (109, .iand, 1, 110), (110, .putfield 321, 3, 113), (113, .iconst 0, 1, 114), (114, .istore 4, 2, 116), (116, .iload 4, 2, 118), (118, .aload_n 0, 1, 119), (119, .getfield 20, 3, 122), (122, .iconst 5, 1, 123), (123, .iaload, 1, 124), (124, .if_icmp .ge 25, 3, 127), (127, .aload_n 0, 1, 128), (128, .getfield 47, 3, 131), (131, .iload 4, 2, 133), (133, .dup2, 1, 134), (134, .iaload, 1, 135), (135, .iload_n 3, 1, 136), (136, .iload 4, 2, 138), (138, .ishr, 1, 139), (139, .iconst 1, 1, 140), (140, .iand, 1, 141), (141, .iadd, 1, 142), (142, .iastore, 1, 143), (143, .iinc 4 1, 3, 146), (146, .goto (-30), 3, 149), (149, .iinc 3 1, 3, 152), (152, .goto (-104), 3, 155), (155, .aload_n 0, 1, 156), (156, .getfield 315, 3, 159), (159, .ifCond .ne 8, 3, 162), (162, .aload_n 0, 1, 163), (163, .iconst 0, 1, 164), (164, .putfield 321, 3, 167), (167, .iload_n 2, 1, 168), (168, .ireturn, 1, 169)]
theorem kd_m11_seekSets : kDec m11_seekSets kl_m11_seekSets := kDec_of (by decide +kernel)
def kl_m11_fits : List (Nat × Instr × Nat × Nat) := [(0, .aload_n 0, 1, 1), (1, .invokevirtual 164, 3, 4), (4, .aload_n 0, 1, 5), (5, .getfield 177, 3, 8), (8, .ifCond .ne 9, 3, 11), (11, .aload_n 0, 1, 12), (12, .iconst 1, 1, 13), (13, .invokevirtual 167, 3, 16), (16, .ireturn, 1, 17), (17, .aload_n 0, 1, 18), (18, .iconst (-1), 1, 19), (19, .invokevirtual 327, 3, 22), (22, .pop, 1, 23), (23, .aload_n 0, 1, 24), (24, .getfield 315, 3, 27), (27, .ireturn, 1, 28)]
theorem kd_m11_fits : kDec m11_fits kl_m11_fits := kDec_of (by decide +kernel)
def kl_m11_fitAt : List (Nat × Instr × Nat × Nat) := [(0, .aload_n 0, 1, 1), (1, .invokevirtual 164, 3, 4), (4, .aload_n 0, 1, 5), (5, .getfield 177, 3, 8), (8, .ifCond .eq 7, 3, 11), (11, .iload_n 1, 1, 12), (12, .ifCond .ge 9, 3, 15), (15, .aload_n 0, 1, 16), (16, .iconst 1, 1, 17), (17, .invokevirtual 167, 3, 20), (20, .ireturn, 1, 21), (21, .aload_n 0, 1, 22), (22, .iload_n 1, 1, 23), (23, .invokevirtual 327, 3, 26), (26, .istore_n 2, 1, 27), (27, .iload_n 2, 1, 28), (28, .ifCond .ge 11, 3, 31), (31, .aload_n 0, 1, 32), (32, .iconst 1, 1, 33), (33, .invokevirtual 167, 3, 36), (36, .goto 4, 3, 39), (39, .iload_n 2, 1, 40), (40, .ireturn, 1, 41)]
theorem kd_m11_fitAt : kDec m11_fitAt kl_m11_fitAt := kDec_of (by decide +kernel)
def kl_m11_could : List (Nat × Instr × Nat × Nat) := [(0, .aload_n 0, 1, 1), (1, .invokevirtual 164, 3, 4), (4, .aload_n 0, 1, 5), (5, .getfield 177, 3, 8), (8, .ifCond .ne 9, 3, 11), (11, .aload_n 0, 1, 12), (12, .iconst 1, 1, 13), (13, .invokevirtual 167, 3, 16), (16, .ireturn, 1, 17), (17, .aload_n 0, 1, 18), (18, .iconst (-1), 1, 19), (19, .invokevirtual 327, 3, 22), (22, .pop, 1, 23), (23, .aload_n 0, 1, 24), (24, .getfield 318, 3, 27), (27, .ireturn, 1, 28)]
theorem kd_m11_could : kDec m11_could kl_m11_could := kDec_of (by decide +kernel)
def kl_m11_surely : List (Nat × Instr × Nat × Nat) := [(0, .aload_n 0, 1, 1), (1, .invokevirtual 164, 3, 4), (4, .aload_n 0, 1, 5), (5, .getfield 177, 3, 8), (8, .ifCond .ne 9, 3, 11), (11, .aload_n 0, 1, 12), (12, .iconst 1, 1, 13), (13, .invokevirtual 167, 3, 16), (16, .ireturn, 1, 17), (17, .aload_n 0, 1, 18), (18, .iconst (-1), 1, 19), (19, .invokevirtual 327, 3, 22), (22, .pop, 1, 23), (23, .aload_n 0, 1, 24), (24, .getfield 321, 3, 27), (27, .ireturn, 1, 28)]
theorem kd_m11_surely : kDec m11_surely kl_m11_surely := kDec_of (by decide +kernel)
def kl_m11_leavesOf : List (Nat × Instr × Nat × Nat) := [(0, .aload_n 0, 1, 1), (1, .getfield 47, 3, 4), (4, .iload_n 1, 1, 5), (5, .iaload, 1, 6), (6, .aload_n 0, 1, 7), (7, .getfield 315, 3, 10), (10, .aload_n 0, 1, 11), (11, .getfield 47, 3, 14), (14, .iload_n 1, 1, 15), (15, .iaload, 1, 16), (16, .isub, 1, 17), (17, .if_icmp .le 12, 3, 20), (20, .aload_n 0, 1, 21), (21, .getfield 47, 3, 24), (24, .iload_n 1, 1, 25), (25, .iaload, 1, 26), (26, .goto 14, 3, 29), (29, .aload_n 0, 1, 30), (30, .getfield 315, 3, 33), (33, .aload_n 0, 1, 34), (34, .getfield 47, 3, 37), (37, .iload_n 1, 1, 38), (38, .iaload, 1, 39), (39, .isub, 1, 40), (40, .ireturn, 1, 41)]
theorem kd_m11_leavesOf : kDec m11_leavesOf kl_m11_leavesOf := kDec_of (by decide +kernel)
def kl_m11_askOf : List (Nat × Instr × Nat × Nat) := [(0, .aload_n 0, 1, 1), (1, .iconst (-1), 1, 2), (2, .invokevirtual 327, 3, 5), (5, .pop, 1, 6), (6, .bipush (-2), 2, 8), (8, .istore_n 1, 1, 9), (9, .iconst 0, 1, 10), (10, .istore_n 2, 1, 11), (11, .iload_n 2, 1, 12), (12, .aload_n 0, 1, 13), (13, .getfield 20, 3, 16), (16, .iconst 5, 1, 17), (17, .iaload, 1, 18), (18, .if_icmp .ge 35, 3, 21), (21, .aload_n 0, 1, 22), (22, .getfield 315, 3, 25), (25, .ifCond .le 28, 3, 28), (28, .iload_n 1, 1, 29), (29, .ifCond .lt 16, 3, 32), (32, .aload_n 0, 1, 33), (33, .iload_n 2, 1, 34), (34, .invokevirtual 330, 3, 37), (37, .aload_n 0, 1, 38), (38, .iload_n 1, 1, 39), (39, .invokevirtual 330, 3, 42), (42, .if_icmp .ge 5, 3, 45), (45, .iload_n 2, 1, 46), (46, .istore_n 1, 1, 47), (47, .iinc 2 1, 3, 50), (50, .goto (-39), 3, 53), (53, .iload_n 1, 1, 54), (54, .ireturn, 1, 55)]
theorem kd_m11_askOf : kDec m11_askOf kl_m11_askOf := kDec_of (by decide +kernel)
def kl_m11_ask : List (Nat × Instr × Nat × Nat) := [(0, .aload_n 0, 1, 1), (1, .invokevirtual 164, 3, 4), (4, .aload_n 0, 1, 5), (5, .getfield 177, 3, 8), (8, .ifCond .eq 10, 3, 11), (11, .aload_n 0, 1, 12), (12, .invokevirtual 333, 3, 15), (15, .goto 8, 3, 18), (18, .aload_n 0, 1, 19), (19, .iconst 1, 1, 20), (20, .invokevirtual 167, 3, 23), (23, .ireturn, 1, 24)]
theorem kd_m11_ask : kDec m11_ask kl_m11_ask := kDec_of (by decide +kernel)
def kl_m11_askLeaves : List (Nat × Instr × Nat × Nat) := [(0, .aload_n 0, 1, 1), (1, .invokevirtual 164, 3, 4), (4, .aload_n 0, 1, 5), (5, .getfield 177, 3, 8), (8, .ifCond .ne 9, 3, 11), (11, .aload_n 0, 1, 12), (12, .iconst 1, 1, 13), (13, .invokevirtual 167, 3, 16), (16, .ireturn, 1, 17), (17, .aload_n 0, 1, 18), (18, .invokevirtual 333, 3, 21), (21, .istore_n 1, 1, 22), (22, .iload_n 1, 1, 23), (23, .ifCond .ge 8, 3, 26), (26, .bipush (-2), 2, 28), (28, .goto 8, 3, 31), (31, .aload_n 0, 1, 32), (32, .iload_n 1, 1, 33), (33, .invokevirtual 330, 3, 36), (36, .ireturn, 1, 37)]
theorem kd_m11_askLeaves : kDec m11_askLeaves kl_m11_askLeaves := kDec_of (by decide +kernel)
def kl_m11_judge : List (Nat × Instr × Nat × Nat) := [(0, .aload_n 0, 1, 1), (1, .invokevirtual 164, 3, 4), (4, .aload_n 0, 1, 5), (5, .getfield 177, 3, 8), (8, .ifCond .eq 11, 3, 11), (11, .aload_n 0, 1, 12), (12, .iconst 0, 1, 13), (13, .invokevirtual 324, 3, 16), (16, .goto 8, 3, 19), (19, .aload_n 0, 1, 20), (20, .iconst 1, 1, 21), (21, .invokevirtual 167, 3, 24), (24, .ireturn, 1, 25)]
theorem kd_m11_judge : kDec m11_judge kl_m11_judge := kDec_of (by decide +kernel)
def kl_m11_third : List (Nat × Instr × Nat × Nat) := [(0, .aload_n 0, 1, 1), (1, .invokevirtual 164, 3, 4), (4, .aload_n 0, 1, 5), (5, .iload_n 1, 1, 6), (6, .invokevirtual 239, 3, 9), (9, .ifCond .ne 9, 3, 12), (12, .aload_n 0, 1, 13), (13, .iconst 1, 1, 14), (14, .invokevirtual 167, 3, 17), (17, .ireturn, 1, 18), (18, .iconst 0, 1, 19), (19, .istore_n 2, 1, 20), (20, .iconst 0, 1, 21), (21, .istore_n 3, 1, 22), (22, .iload_n 3, 1, 23), (23, .aload_n 0, 1, 24), (24, .getfield 20, 3, 27), (27, .bipush 6, 2, 29), (29, .iaload, 1, 30), (30, .if_icmp .ge 78, 3, 33), (33, .aload_n 0, 1, 34), (34, .getfield 20, 3, 37), (37, .bipush 26, 2, 39), (39, .iconst 3, 1, 40), (40, .iload_n 3, 1, 41), (41, .imul, 1, 42), (42, .iadd, 1, 43), (43, .iaload, 1, 44), (44, .iload_n 1, 1, 45), (45, .if_icmp .eq 6, 3, 48), (48, .goto 54, 3, 51), (51, .aload_n 0, 1, 52), (52, .getfield 20, 3, 55), (55, .bipush 26, 2, 57), (57, .iconst 3, 1, 58), (58, .iload_n 3, 1, 59), (59, .imul, 1, 60), (60, .iadd, 1, 61), (61, .iconst 2, 1, 62), (62, .iadd, 1, 63), (63, .iaload, 1, 64), (64, .aload_n 0, 1, 65), (65, .iload_n 1, 1, 66), (66, .aload_n 0, 1, 67), (67, .getfield 20, 3, 70), (70, .bipush 26, 2, 72), (72, .iconst 3, 1, 73), (73, .iload_n 3, 1, 74), (74, .imul, 1, 75), (75, .iadd, 1, 76), (76, .iconst 1, 1, 77), (77, .iadd, 1, 78), (78, .iaload, 1, 79), (79, .iconst 0, 1, 80), (80, .invokevirtual 312, 3, 83), (83, .isub, 1, 84), (84, .istore 4, 2, 86), (86, .iload_n 2, 1, 87), (87, .iload 4, 2, 89), (89, .ifCond .ge 9, 3, 92), (92, .iload 4, 2, 94), (94, .ineg, 1, 95), (95, .goto 5, 3, 98), (98, .iload 4, 2, 100), (100, .iadd, 1, 101), (101, .istore_n 2, 1, 102), (102, .iinc 3 1, 3, 105), (105, .goto (-83), 3, 108), (108, .iload_n 2, 1, 109), (109, .ireturn, 1, 110)]
theorem kd_m11_third : kDec m11_third kl_m11_third := kDec_of (by decide +kernel)
def kl_m11_debtOf : List (Nat × Instr × Nat × Nat) := [(0, .aload_n 0, 1, 1), (1, .getfield 32, 3, 4), (4, .bipush 10, 2, 6), (6, .iconst 5, 1, 7), (7, .iload_n 1, 1, 8), (8, .imul, 1, 9), (9, .iadd, 1, 10), (10, .iload_n 2, 1, 11), (11, .iadd, 1, 12), (12, .iaload, 1, 13), (13, .ireturn, 1, 14)]
theorem kd_m11_debtOf : kDec m11_debtOf kl_m11_debtOf := kDec_of (by decide +kernel)
def kl_m11_netOf : List (Nat × Instr × Nat × Nat) := [(0, .iconst 0, 1, 1), (1, .istore_n 2, 1, 2), (2, .iconst 0, 1, 3), (3, .istore_n 3, 1, 4), (4, .iload_n 3, 1, 5), (5, .aload_n 0, 1, 6), (6, .getfield 20, 3, 9), (9, .iconst 2, 1, 10), (10, .iaload, 1, 11), (11, .if_icmp .ge 25, 3, 14), (14, .iload_n 2, 1, 15), (15, .aload_n 0, 1, 16), (16, .iload_n 3, 1, 17), (17, .iload_n 1, 1, 18), (18, .invokevirtual 336, 3, 21), (21, .aload_n 0, 1, 22), (22, .iload_n 1, 1, 23), (23, .iload_n 3, 1, 24), (24, .invokevirtual 336, 3, 27), (27, .isub, 1, 28), (28, .iadd, 1, 29), (29, .istore_n 2, 1, 30), (30, .iinc 3 1, 3, 33), (33, .goto (-29), 3, 36), (36, .iload_n 2, 1, 37), (37, .ireturn, 1, 38)]
theorem kd_m11_netOf : kDec m11_netOf kl_m11_netOf := kDec_of (by decide +kernel)
def kl_m11_owes : List (Nat × Instr × Nat × Nat) := [(0, .aload_n 0, 1, 1), (1, .invokevirtual 164, 3, 4), (4, .aload_n 0, 1, 5), (5, .iload_n 1, 1, 6), (6, .iload_n 2, 1, 7), (7, .invokevirtual 293, 3, 10), (10, .ifCond .eq 12, 3, 13), (13, .aload_n 0, 1, 14), (14, .iload_n 1, 1, 15), (15, .iload_n 2, 1, 16), (16, .invokevirtual 336, 3, 19), (19, .goto 8, 3, 22), (22, .aload_n 0, 1, 23), (23, .iconst 1, 1, 24), (24, .invokevirtual 167, 3, 27), (27, .ireturn, 1, 28)]
theorem kd_m11_owes : kDec m11_owes kl_m11_owes := kDec_of (by decide +kernel)
def kl_m11_net : List (Nat × Instr × Nat × Nat) := [(0, .aload_n 0, 1, 1), (1, .invokevirtual 164, 3, 4), (4, .aload_n 0, 1, 5), (5, .iload_n 1, 1, 6), (6, .invokevirtual 239, 3, 9), (9, .ifCond .eq 9, 3, 12), (12, .aload_n 0, 1, 13), (13, .iload_n 1, 1, 14), (14, .invokevirtual 339, 3, 17), (17, .ireturn, 1, 18), (18, .aload_n 0, 1, 19), (19, .iconst 1, 1, 20), (20, .putfield 62, 3, 23), (23, .ldc_w 342, 3, 26), (26, .ireturn, 1, 27)]
theorem kd_m11_net : kDec m11_net kl_m11_net := kDec_of (by decide +kernel)
def kl_m11_due : List (Nat × Instr × Nat × Nat) := [(0, .aload_n 0, 1, 1), (1, .invokevirtual 164, 3, 4), (4, .aload_n 0, 1, 5), (5, .getfield 177, 3, 8), (8, .ifCond .ne 9, 3, 11), (11, .aload_n 0, 1, 12), (12, .iconst 1, 1, 13), (13, .invokevirtual 167, 3, 16), (16, .ireturn, 1, 17), (17, .iconst 0, 1, 18), (18, .istore_n 1, 1, 19), (19, .iconst 0, 1, 20), (20, .istore_n 2, 1, 21), (21, .iload_n 2, 1, 22), (22, .aload_n 0, 1, 23), (23, .getfield 20, 3, 26), (26, .iconst 2, 1, 27), (27, .iaload, 1, 28), (28, .if_icmp .ge 29, 3, 31), (31, .iload_n 1, 1, 32), (32, .aload_n 0, 1, 33), (33, .iload_n 2, 1, 34), (34, .invokevirtual 339, 3, 37), (37, .ifCond .le 11, 3, 40), (40, .aload_n 0, 1, 41), (41, .iload_n 2, 1, 42), (42, .invokevirtual 339, 3, 45), (45, .goto 4, 3, 48), (48, .iconst 0, 1, 49), (49, .iadd, 1, 50), (50, .istore_n 1, 1, 51), (51, .iinc 2 1, 3, 54), (54, .goto (-33), 3, 57), (57, .iload_n 1, 1, 58), (58, .ireturn, 1, 59)]
theorem kd_m11_due : kDec m11_due kl_m11_due := kDec_of (by decide +kernel)
def kl_m11_creditor : List (Nat × Instr × Nat × Nat) := [(0, .aload_n 0, 1, 1), (1, .invokevirtual 164, 3, 4), (4, .aload_n 0, 1, 5), (5, .getfield 177, 3, 8), (8, .ifCond .ne 9, 3, 11), (11, .aload_n 0, 1, 12), (12, .iconst 1, 1, 13), (13, .invokevirtual 167, 3, 16), (16, .ireturn, 1, 17), (17, .iconst 0, 1, 18), (18, .istore_n 1, 1, 19), (19, .iconst 1, 1, 20), (20, .istore_n 2, 1, 21), (21, .iload_n 2, 1, 22), (22, .aload_n 0, 1, 23), (23, .getfield 20, 3, 26), (26, .iconst 2, 1, 27), (27, .iaload, 1, 28), (28, .if_icmp .ge 24, 3, 31), (31, .aload_n 0, 1, 32), (32, .iload_n 2, 1, 33), (33, .invokevirtual 339, 3, 36), (36, .aload_n 0, 1, 37), (37, .iload_n 1, 1, 38), (38, .invokevirtual 339, 3, 41), (41, .if_icmp .le 5, 3, 44), (44, .iload_n 2, 1, 45), (45, .istore_n 1, 1, 46), (46, .iinc 2 1, 3, 49), (49, .goto (-28), 3, 52), (52, .iload_n 1, 1, 53), (53, .ireturn, 1, 54)]
theorem kd_m11_creditor : kDec m11_creditor kl_m11_creditor := kDec_of (by decide +kernel)
def kl_m11_netsOf : List (Nat × Instr × Nat × Nat) := [(0, .iconst 0, 1, 1), (1, .istore_n 2, 1, 2), (2, .iconst 0, 1, 3), (3, .istore_n 3, 1, 4), (4, .iload_n 3, 1, 5), (5, .aload_n 0, 1, 6), (6, .getfield 20, 3, 9), (9, .iconst 2, 1, 10), (10, .iaload, 1, 11), (11, .if_icmp .ge 29, 3, 14), (14, .iload_n 2, 1, 15), (15, .iload_n 1, 1, 16), (16, .iload_n 3, 1, 17), (17, .invokestatic 306, 3, 20), (20, .ifCond .eq 11, 3, 23), (23, .aload_n 0, 1, 24), (24, .iload_n 3, 1, 25), (25, .invokevirtual 339, 3, 28), (28, .goto 4, 3, 31), (31, .iconst 0, 1, 32), (32, .iadd, 1, 33), (33, .istore_n 2, 1, 34), (34, .iinc 3 1, 3, 37), (37, .goto (-33), 3, 40), (40, .iload_n 2, 1, 41), (41, .ireturn, 1, 42)]
theorem kd_m11_netsOf : kDec m11_netsOf kl_m11_netsOf := kDec_of (by decide +kernel)
def kl_m11_groupsOf : List (Nat × Instr × Nat × Nat) := [(0, .iload_n 1, 1, 1), (1, .ifCond .ne 5, 3, 4), (4, .iconst 0, 1, 5), (5, .ireturn, 1, 6), (6, .iconst 1, 1, 7), (7, .istore_n 2, 1, 8), (8, .iconst 1, 1, 9), (9, .istore_n 3, 1, 10), (10, .iload_n 3, 1, 11), (11, .iload_n 1, 1, 12), (12, .if_icmp .ge 54, 3, 15), (15, .iload_n 3, 1, 16), (16, .iload_n 1, 1, 17), (17, .iconst (-1), 1, 18), (18, .ixor, 1, 19), (19, .iand, 1, 20), (20, .ifCond .ne 40, 3, 23), (23, .aload_n 0, 1, 24), (24, .iload_n 3, 1, 25), (25, .invokevirtual 343, 3, 28), (28, .ifCond .eq 6, 3, 31), (31, .goto 29, 3, 34), (34, .iconst 1, 1, 35), (35, .aload_n 0, 1, 36), (36, .iload_n 1, 1, 37), (37, .iload_n 3, 1, 38), (38, .iconst (-1), 1, 39), (39, .ixor, 1, 40), (40, .iand, 1, 41), (41, .invokevirtual 346, 3, 44), (44, .iadd, 1, 45), (45, .istore 4, 2, 47), (47, .iload 4, 2, 49), (49, .iload_n 2, 1, 50), (50, .if_icmp .le 8, 3, 53), (53, .iload 4, 2, 55), (55, .goto 4, 3, 58), (58, .iload_n 2, 1, 59), (59, .istore_n 2, 1, 60), (60, .iinc 3 1, 3, 63), (63, .goto (-53), 3, 66), (66, .iload_n 2, 1, 67), (67, .ireturn, 1, 68)]
theorem kd_m11_groupsOf : kDec m11_groupsOf kl_m11_groupsOf := kDec_of (by decide +kernel)
def kl_m11_payments : List (Nat × Instr × Nat × Nat) := [(0, .aload_n 0, 1, 1), (1, .invokevirtual 164, 3, 4), (4, .aload_n 0, 1, 5), (5, .getfield 177, 3, 8), (8, .ifCond .ne 9, 3, 11), (11, .aload_n 0, 1, 12), (12, .iconst 1, 1, 13), (13, .invokevirtual 167, 3, 16), (16, .ireturn, 1, 17), (17, .iconst 0, 1, 18), (18, .istore_n 1, 1, 19), (19, .iconst 0, 1, 20), (20, .istore_n 2, 1, 21), (21, .iload_n 2, 1, 22), (22, .aload_n 0, 1, 23), (23, .getfield 20, 3, 26), (26, .iconst 2, 1, 27), (27, .iaload, 1, 28), (28, .if_icmp .ge 27, 3, 31), (31, .iload_n 1, 1, 32), (32, .aload_n 0, 1, 33), (33, .iload_n 2, 1, 34), (34, .invokevirtual 339, 3, 37), (37, .ifCond .ne 7, 3, 40), (40, .iconst 0, 1, 41), (41, .goto 6, 3, 44), (44, .iconst 1, 1, 45), (45, .iload_n 2, 1, 46), (46, .ishl, 1, 47), (47, .ior, 1, 48), (48, .istore_n 1, 1, 49), (49, .iinc 2 1, 3, 52), (52, .goto (-31), 3, 55), (55, .iload_n 1, 1, 56), (56, .invokestatic 349, 3, 59), (59, .aload_n 0, 1, 60), (60, .iload_n 1, 1, 61), (61, .invokevirtual 346, 3, 64), (64, .isub, 1, 65), (65, .ireturn, 1, 66)]
theorem kd_m11_payments : kDec m11_payments kl_m11_payments := kDec_of (by decide +kernel)
def kl_m11_tryRing : List (Nat × Instr × Nat × Nat) := [(0, .iload_n 1, 1, 1), (1, .aload_n 0, 1, 2), (2, .getfield 352, 3, 5), (5, .if_icmp .lt 4, 3, 8), (8, .return_, 1, 9), (9, .iload_n 1, 1, 10), (10, .iconst 1, 1, 11), (11, .if_icmp .le 44, 3, 14), (14, .aload_n 0, 1, 15), (15, .aload_n 0, 1, 16), (16, .getfield 50, 3, 19), (19, .iload_n 1, 1, 20), (20, .iconst 1, 1, 21), (21, .isub, 1, 22), (22, .iaload, 1, 23), (23, .aload_n 0, 1, 24), (24, .getfield 50, 3, 27), (27, .iconst 0, 1, 28), (28, .iaload, 1, 29), (29, .invokevirtual 336, 3, 32), (32, .ifCond .le 23, 3, 35), (35, .aload_n 0, 1, 36), (36, .iload_n 1, 1, 37), (37, .putfield 352, 3, 40), (40, .aload_n 0, 1, 41), (41, .getfield 50, 3, 44), (44, .iconst 0, 1, 45), (45, .aload_n 0, 1, 46), (46, .getfield 53, 3, 49), (49, .iconst 0, 1, 50), (50, .iconst 5, 1, 51), (51, .invokestatic 173, 3, 54), (54, .return_, 1, 55), (55, .iconst 0, 1, 56), (56, .istore_n 3, 1, 57), (57, .iload_n 3, 1, 58), (58, .aload_n 0, 1, 59), (59, .getfield 20, 3, 62), (62, .iconst 2, 1, 63), (63, .iaload, 1, 64), (64, .if_icmp .ge 55, 3, 67), (67, .iload_n 2, 1, 68), (68, .iload_n 3, 1, 69), (69, .invokestatic 306, 3, 72), (72, .ifCond .ne 41, 3, 75), (75, .aload_n 0, 1, 76), (76, .aload_n 0, 1, 77), (77, .getfield 50, 3, 80), (80, .iload_n 1, 1, 81), (81, .iconst 1, 1, 82), (82, .isub, 1, 83), (83, .iaload, 1, 84), (84, .iload_n 3, 1, 85), (85, .invokevirtual 336, 3, 88), (88, .ifCond .ne 6, 3, 91), (91, .goto 22, 3, 94), (94, .aload_n 0, 1, 95), (95, .getfield 50, 3, 98), (98, .iload_n 1, 1, 99), (99, .iload_n 3, 1, 100), (100, .iastore, 1, 101), (101, .aload_n 0, 1, 102), (102, .iload_n 1, 1, 103), (103, .iconst 1, 1, 104), (104, .iadd, 1, 105), (105, .iload_n 2, 1, 106), (106, .iconst 1, 1, 107), (107, .iload_n 3, 1, 108), (108, .ishl, 1, 109), (109, .ior, 1, 110), (110, .invokevirtual 355, 3, 113), (113, .iinc 3 1, 3, 116), (116, .goto (-59), 3, 119), (119, .return_, 1, 120)]
theorem kd_m11_tryRing : kDec m11_tryRing kl_m11_tryRing := kDec_of (by decide +kernel)
def kl_m11_seekRing : List (Nat × Instr × Nat × Nat) := [(0, .aload_n 0, 1, 1), (1, .ldc_w 358, 3, 4), (4, .putfield 352, 3, 7), (7, .aload_n 0, 1, 8), (8, .getfield 50, 3, 11), (11, .iconst 0, 1, 12), (12, .iload_n 1, 1, 13), (13, .iastore, 1, 14), (14, .aload_n 0, 1, 15), (15, .iconst 1, 1, 16), (16, .iconst 1, 1, 17), (17, .iload_n 1, 1, 18), (18, .ishl, 1, 19), (19, .invokevirtual 355, 3, 22), (22, .aload_n 0, 1, 23), (23, .getfield 352, 3, 26), (26, .ldc_w 358, 3, 29), (29, .if_icmp .ge 7, 3, 32), (32, .iconst 1, 1, 33), (33, .goto 4, 3, 36), (36, .iconst 0, 1, 37), (37, .ireturn, 1, 38)]
theorem kd_m11_seekRing : kDec m11_seekRing kl_m11_seekRing := kDec_of (by decide +kernel)
def kl_m11_ring : List (Nat × Instr × Nat × Nat) := [(0, .aload_n 0, 1, 1), (1, .invokevirtual 164, 3, 4), (4, .aload_n 0, 1, 5), (5, .iload_n 1, 1, 6), (6, .invokevirtual 239, 3, 9), (9, .ifCond .ne 9, 3, 12), (12, .aload_n 0, 1, 13), (13, .iconst 1, 1, 14), (14, .invokevirtual 167, 3, 17), (17, .ireturn, 1, 18), (18, .aload_n 0, 1, 19), (19, .iload_n 1, 1, 20), (20, .invokevirtual 359, 3, 23), (23, .ifCond .eq 10, 3, 26), (26, .aload_n 0, 1, 27), (27, .getfield 352, 3, 30), (30, .goto 5, 3, 33), (33, .bipush (-2), 2, 35), (35, .ireturn, 1, 36)]
theorem kd_m11_ring : kDec m11_ring kl_m11_ring := kDec_of (by decide +kernel)
def kl_m11_ringAt : List (Nat × Instr × Nat × Nat) := [(0, .aload_n 0, 1, 1), (1, .invokevirtual 164, 3, 4), (4, .aload_n 0, 1, 5), (5, .iload_n 1, 1, 6), (6, .invokevirtual 239, 3, 9), (9, .ifCond .eq 25, 3, 12), (12, .aload_n 0, 1, 13), (13, .iload_n 1, 1, 14), (14, .invokevirtual 359, 3, 17), (17, .ifCond .eq 17, 3, 20), (20, .iload_n 2, 1, 21), (21, .iconst 0, 1, 22), (22, .aload_n 0, 1, 23), (23, .getfield 352, 3, 26), (26, .iconst 1, 1, 27), (27, .isub, 1, 28), (28, .invokestatic 146, 3, 31), (31, .ifCond .ne 9, 3, 34), (34, .aload_n 0, 1, 35), (35, .iconst 1, 1, 36), (36, .invokevirtual 167, 3, 39), (39, .ireturn, 1, 40), (40, .aload_n 0, 1, 41), (41, .getfield 53, 3, 44), (44, .iload_n 2, 1, 45), (45, .iaload, 1, 46), (46, .ireturn, 1, 47)]
theorem kd_m11_ringAt : kDec m11_ringAt kl_m11_ringAt := kDec_of (by decide +kernel)
def kl_m11_talksOf : List (Nat × Instr × Nat × Nat) := [(0, .iload_n 1, 1, 1), (1, .ifCond .eq 17, 3, 4), (4, .iload_n 2, 1, 5), (5, .ifCond .eq 9, 3, 8), (8, .iconst 1, 1, 9), (9, .iload_n 0, 1, 10), (10, .isub, 1, 11), (11, .goto 16, 3, 14), (14, .iconst 4, 1, 15), (15, .goto 12, 3, 18), (18, .iload_n 2, 1, 19), (19, .ifCond .eq 7, 3, 22), (22, .iconst (-1), 1, 23), (23, .goto 4, 3, 26), (26, .iconst 0, 1, 27), (27, .ireturn, 1, 28)]
theorem kd_m11_talksOf : kDec m11_talksOf kl_m11_talksOf := kDec_of (by decide +kernel)
def kl_m11_talks : List (Nat × Instr × Nat × Nat) := [(0, .aload_n 0, 1, 1), (1, .invokevirtual 164, 3, 4), (4, .aload_n 0, 1, 5), (5, .aload_n 0, 1, 6), (6, .getfield 177, 3, 9), (9, .iload_n 1, 1, 10), (10, .iconst 0, 1, 11), (11, .bipush 9, 2, 13), (13, .invokestatic 146, 3, 16), (16, .invokevirtual 275, 3, 19), (19, .istore 5, 2, 21), (21, .iload 5, 2, 23), (23, .ifCond .ne 24, 3, 26), (26, .iload 4, 2, 28), (28, .ifCond .eq 12, 3, 31), (31, .iload_n 1, 1, 32), (32, .iload_n 3, 1, 33), (33, .iload_n 2, 1, 34), (34, .invokestatic 362, 3, 37), (37, .goto 9, 3, 40), (40, .iload_n 1, 1, 41), (41, .iload_n 2, 1, 42), (42, .iload_n 3, 1, 43), (43, .invokestatic 362, 3, 46), (46, .ireturn, 1, 47), (47, .aload_n 0, 1, 48), (48, .iload 5, 2, 50), (50, .putfield 62, 3, 53), (53, .bipush (-100), 2, 55), (55, .ireturn, 1, 56)]
theorem kd_m11_talks : kDec m11_talks kl_m11_talks := kDec_of (by decide +kernel)
def kl_m11_seekRests : List (Nat × Instr × Nat × Nat) := [(0, .iconst 0, 1, 1), (1, .istore_n 2, 1, 2), (2, .aload_n 0, 1, 3), (3, .bipush (-2), 2, 5), (5, .putfield 366, 3, 8), (8, .iconst 0, 1, 9), (9, .istore_n 3, 1, 10), (10, .iload_n 3, 1, 11), (11, .iconst 4, 1, 12), (12, .if_icmp .ge 113, 3, 15), (15, .iload_n 3, 1, 16), (16, .iconst 1, 1, 17), (17, .if_icmp .le 7, 3, 20), (20, .iconst 1, 1, 21), (21, .goto 4, 3, 24), (24, .iconst 0, 1, 25), (25, .istore 4, 2, 27), (27, .iload_n 3, 1, 28), (28, .iconst 2, 1, 29), (29, .irem, 1, 30), (30, .iconst 1, 1, 31), (31, .if_icmp .ne 7, 3, 34), (34, .iconst 1, 1, 35), (35, .goto 4, 3, 38), (38, .iconst 0, 1, 39), (39, .istore 5, 2, 41), (41, .iload_n 1, 1, 42), (42, .iload 4, 2, 44), (44, .ifCond .ne 7, 3, 47), (47, .iconst 1, 1, 48), (48, .goto 4, 3, 51), (51, .iconst 0, 1, 52), (52, .iload 5, 2, 54), (54, .invokestatic 362, 3, 57), (57, .iload_n 1, 1, 58), (58, .iload 4, 2, 60), (60, .iload 5, 2, 62), (62, .invokestatic 362, 3, 65), (65, .if_icmp .gt 54, 3, 68), (68, .iload_n 1, 1, 69), (69, .iload 5, 2, 71), (71, .ifCond .ne 7, 3, 74), (74, .iconst 1, 1, 75), (75, .goto 4, 3, 78), (78, .iconst 0, 1, 79), (79, .iload 4, 2, 81), (81, .invokestatic 362, 3, 84), (84, .iload_n 1, 1, 85), (85, .iload 5, 2, 87), (87, .iload 4, 2, 89), (89, .invokestatic 362, 3, 92), (92, .if_icmp .le 6, 3, 95), (95, .goto 24, 3, 98), (98, .iload_n 2, 1, 99), (99, .ifCond .ne 17, 3, 102), (102, .aload_n 0, 1, 103), (103, .bipush 10, 2, 105), (105, .iload_n 3, 1, 106), (106, .iconst 2, 1, 107), (107, .idiv, 1, 108), (108, .imul, 1, 109), (109, .iload_n 3, 1, 110), (110, .iconst 2, 1, 111), (111, .irem, 1, 112), (112, .iadd, 1, 113), (113, .putfield 366, 3, 116), (116, .iinc 2 1, 3, 119), (119, .iinc 3 1, 3, 122), (122, .goto (-112), 3, 125), (125, .iload_n 2, 1, 126), (126, .ireturn, 1, 127)]
theorem kd_m11_seekRests : kDec m11_seekRests kl_m11_seekRests := kDec_of (by decide +kernel)
def kl_m11_rests : List (Nat × Instr × Nat × Nat) := [(0, .aload_n 0, 1, 1), (1, .invokevirtual 164, 3, 4), (4, .aload_n 0, 1, 5), (5, .aload_n 0, 1, 6), (6, .getfield 177, 3, 9), (9, .iload_n 1, 1, 10), (10, .iconst 0, 1, 11), (11, .bipush 9, 2, 13), (13, .invokestatic 146, 3, 16), (16, .invokevirtual 275, 3, 19), (19, .istore_n 2, 1, 20), (20, .iload_n 2, 1, 21), (21, .ifCond .eq 11, 3, 24), (24, .aload_n 0, 1, 25), (25, .iload_n 2, 1, 26), (26, .invokevirtual 167, 3, 29), (29, .goto 8, 3, 32), (32, .aload_n 0, 1, 33), (33, .iload_n 1, 1, 34), (34, .invokevirtual 369, 3, 37), (37, .ireturn, 1, 38)]
theorem kd_m11_rests : kDec m11_rests kl_m11_rests := kDec_of (by decide +kernel)
def kl_m11_rest : List (Nat × Instr × Nat × Nat) := [(0, .aload_n 0, 1, 1), (1, .invokevirtual 164, 3, 4), (4, .aload_n 0, 1, 5), (5, .aload_n 0, 1, 6), (6, .getfield 177, 3, 9), (9, .iload_n 1, 1, 10), (10, .iconst 0, 1, 11), (11, .bipush 9, 2, 13), (13, .invokestatic 146, 3, 16), (16, .invokevirtual 275, 3, 19), (19, .istore_n 2, 1, 20), (20, .iload_n 2, 1, 21), (21, .ifCond .eq 9, 3, 24), (24, .aload_n 0, 1, 25), (25, .iload_n 2, 1, 26), (26, .invokevirtual 167, 3, 29), (29, .ireturn, 1, 30), (30, .aload_n 0, 1, 31), (31, .iload_n 1, 1, 32), (32, .invokevirtual 369, 3, 35), (35, .pop, 1, 36), (36, .aload_n 0, 1, 37), (37, .getfield 366, 3, 40), (40, .ireturn, 1, 41)]
theorem kd_m11_rest : kDec m11_rest kl_m11_rest := kDec_of (by decide +kernel)
def kl_m11_verdictOf : List (Nat × Instr × Nat × Nat) := [(0, .iconst 0, 1, 1), (1, .istore_n 1, 1, 2), (2, .iconst 1, 1, 3), (3, .istore_n 2, 1, 4), (4, .iload_n 2, 1, 5), (5, .aload_n 0, 1, 6), (6, .getfield 20, 3, 9), (9, .iconst 2, 1, 10), (10, .iaload, 1, 11), (11, .if_icmp .ge 26, 3, 14), (14, .aload_n 0, 1, 15), (15, .getfield 56, 3, 18), (18, .iload_n 2, 1, 19), (19, .iaload, 1, 20), (20, .aload_n 0, 1, 21), (21, .getfield 56, 3, 24), (24, .iload_n 1, 1, 25), (25, .iaload, 1, 26), (26, .if_icmp .le 5, 3, 29), (29, .iload_n 2, 1, 30), (30, .istore_n 1, 1, 31), (31, .iinc 2 1, 3, 34), (34, .goto (-30), 3, 37), (37, .iload_n 1, 1, 38), (38, .ireturn, 1, 39)]
theorem kd_m11_verdictOf : kDec m11_verdictOf kl_m11_verdictOf := kDec_of (by decide +kernel)
def kl_m11_verdictOdds : List (Nat × Instr × Nat × Nat) := [(0, .aload_n 0, 1, 1), (1, .invokevirtual 164, 3, 4), (4, .aload_n 0, 1, 5), (5, .aload_n 0, 1, 6), (6, .iload_n 1, 1, 7), (7, .invokevirtual 239, 3, 10), (10, .iload_n 2, 1, 11), (11, .iconst 0, 1, 12), (12, .iconst 4, 1, 13), (13, .invokestatic 146, 3, 16), (16, .invokevirtual 275, 3, 19), (19, .istore 4, 2, 21), (21, .iload 4, 2, 23), (23, .ifCond .eq 11, 3, 26), (26, .aload_n 0, 1, 27), (27, .iload 4, 2, 29), (29, .invokevirtual 167, 3, 32), (32, .i2l, 1, 33), (33, .lreturn, 1, 34), (34, .iconst 1, 1, 35), (35, .istore 5, 2, 37), (37, .iconst 0, 1, 38), (38, .istore 6, 2, 40), (40, .iload 6, 2, 42), (42, .iload_n 2, 1, 43), (43, .if_icmp .ge 20, 3, 46), (46, .iload 5, 2, 48), (48, .aload_n 0, 1, 49), (49, .getfield 20, 3, 52), (52, .iconst 2, 1, 53), (53, .iaload, 1, 54), (54, .imul, 1, 55), (55, .istore 5, 2, 57), (57, .iinc 6 1, 3, 60), (60, .goto (-20), 3, 63), (63, .iconst 0, 1, 64), (64, .istore 6, 2, 66), (66, .iconst 0, 1, 67), (67, .istore 7, 2, 69), (69, .iload 7, 2, 71), (71, .iload 5, 2, 73), (73, .if_icmp .ge 98, 3, 76), (76, .iconst 0, 1, 77), (77, .istore 8, 2, 79), (79, .iload 8, 2, 81), (81, .iconst 5, 1, 82), (82, .if_icmp .ge 17, 3, 85), (85, .aload_n 0, 1, 86), (86, .getfield 56, 3, 89), (89, .iload 8, 2, 91), (91, .iconst 0, 1, 92), (92, .iastore, 1, 93), (93, .iinc 8 1, 3, 96), (96, .goto (-17), 3, 99), (99, .iload 7, 2, 101), (101, .istore 8, 2, 103), (103, .iconst 0, 1, 104), (104, .istore 9, 2, 106), (106, .iload 9, 2, 108), (108, .iload_n 2, 1, 109), (109, .if_icmp .ge 38, 3, 112), (112, .aload_n 0, 1, 113), (113, .getfield 56, 3, 116), (116, .iload 8, 2, 118), (118, .aload_n 0, 1, 119), (119, .getfield 20, 3, 122), (122, .iconst 2, 1, 123), (123, .iaload, 1, 124), (124, .irem, 1, 125), (125, .dup2, 1, 126), (126, .iaload, 1, 127), (127, .iconst 1, 1, 128), (128, .iadd, 1, 129), (129, .iastore, 1, 130), (130, .iload 8, 2, 132), (132, .aload_n 0, 1, 133), (133, .getfield 20, 3, 136), (136, .iconst 2, 1, 137), (137, .iaload, 1, 138), (138, .idiv, 1, 139), (139, .istore 8, 2, 141), (141, .iinc 9 1, 3, 144), (144, .goto (-38), 3, 147), (147, .iload 6, 2, 149), (149, .aload_n 0, 1, 150), (150, .invokevirtual 372, 3, 153), (153, .iload_n 1, 1, 154), (154, .if_icmp .ne 7, 3, 157), (157, .iconst 1, 1, 158), (158, .goto 4, 3, 161), (161, .iconst 0, 1, 162), (162, .iadd, 1, 163), (163, .istore 6, 2, 165), (165, .iinc 7 1, 3, 168), (168, .goto (-99), 3, 171), (171, .iload 6, 2, 173), (173, .i2l, 1, 174), (174, .iload 5, 2, 176), (176, .i2l, 1, 177), (177, .iload_n 3, 1, 178), (178, .invokestatic 375, 3, 181), (181, .lreturn, 1, 182)]
theorem kd_m11_verdictOdds : kDec m11_verdictOdds kl_m11_verdictOdds := kDec_of (by decide +kernel)
def kl_m11_lookWhy : List (Nat × Instr × Nat × Nat) := [(0, .iload_n 1, 1, 1), (1, .ifCond .ne 5, 3, 4), (4, .iconst 1, 1, 5), (5, .ireturn, 1, 6), (6, .iload_n 2, 1, 7), (7, .iconst 0, 1, 8), (8, .ldc_w 379, 3, 11), (11, .invokestatic 146, 3, 14), (14, .ifCond .eq 14, 3, 17), (17, .iload_n 3, 1, 18), (18, .iconst 0, 1, 19), (19, .sipush 200, 3, 22), (22, .invokestatic 146, 3, 25), (25, .ifCond .ne 5, 3, 28), (28, .iconst 2, 1, 29), (29, .ireturn, 1, 30), (30, .iconst 0, 1, 31), (31, .istore 4, 2, 33), (33, .iload 4, 2, 35), (35, .iconst 5, 1, 36), (36, .if_icmp .ge 17, 3, 39), (39, .aload_n 0, 1, 40), (40, .getfield 56, 3, 43), (43, .iload 4, 2, 45), (45, .iconst 0, 1, 46), (46, .iastore, 1, 47), (47, .iinc 4 1, 3, 50), (50, .goto (-17), 3, 53), (53, .iload_n 2, 1, 54), (54, .istore 4, 2, 56), (56, .iconst 0, 1, 57), (57, .istore 5, 2, 59), (59, .iload 5, 2, 61), (61, .iload_n 3, 1, 62), (62, .if_icmp .ge 41, 3, 65), (65, .bipush 75, 2, 67), (67, .iload 4, 2, 69), (69, .imul, 1, 70), (70, .bipush 74, 2, 72), (72, .iadd, 1, 73), (73, .ldc_w 380, 3, 76), (76, .irem, 1, 77), (77, .istore 4, 2, 79), (79, .aload_n 0, 1, 80), (80, .getfield 56, 3, 83), (83, .iload 4, 2, 85), (85, .aload_n 0, 1, 86), (86, .getfield 20, 3, 89), (89, .iconst 2, 1, 90), (90, .iaload, 1, 91), (91, .irem, 1, 92), (92, .dup2, 1, 93), (93, .iaload, 1, 94), (94, .iconst 1, 1, 95), (95, .iadd, 1, 96), (96, .iastore, 1, 97), (97, .iinc 5 1, 3, 100), (100, .goto (-41), 3, 103), (103, .iconst 0, 1, 104), (104, .ireturn, 1, 105)]
theorem kd_m11_lookWhy : kDec m11_lookWhy kl_m11_lookWhy := kDec_of (by decide +kernel)
def kl_m11_looks : List (Nat × Instr × Nat × Nat) := [(0, .aload_n 0, 1, 1), (1, .invokevirtual 164, 3, 4), (4, .aload_n 0, 1, 5), (5, .aload_n 0, 1, 6), (6, .iload_n 1, 1, 7), (7, .invokevirtual 239, 3, 10), (10, .iload_n 2, 1, 11), (11, .iload_n 3, 1, 12), (12, .invokevirtual 381, 3, 15), (15, .istore 4, 2, 17), (17, .iload 4, 2, 19), (19, .ifCond .eq 12, 3, 22), (22, .aload_n 0, 1, 23), (23, .iload 4, 2, 25), (25, .invokevirtual 167, 3, 28), (28, .goto 9, 3, 31), (31, .aload_n 0, 1, 32), (32, .getfield 56, 3, 35), (35, .iload_n 1, 1, 36), (36, .iaload, 1, 37), (37, .ireturn, 1, 38)]
theorem kd_m11_looks : kDec m11_looks kl_m11_looks := kDec_of (by decide +kernel)
def kl_m11_verdict : List (Nat × Instr × Nat × Nat) := [(0, .aload_n 0, 1, 1), (1, .invokevirtual 164, 3, 4), (4, .aload_n 0, 1, 5), (5, .aload_n 0, 1, 6), (6, .getfield 177, 3, 9), (9, .iload_n 1, 1, 10), (10, .iload_n 2, 1, 11), (11, .invokevirtual 381, 3, 14), (14, .istore_n 3, 1, 15), (15, .iload_n 3, 1, 16), (16, .ifCond .eq 11, 3, 19), (19, .aload_n 0, 1, 20), (20, .iload_n 3, 1, 21), (21, .invokevirtual 167, 3, 24), (24, .goto 7, 3, 27), (27, .aload_n 0, 1, 28), (28, .invokevirtual 372, 3, 31), (31, .ireturn, 1, 32)]
theorem kd_m11_verdict : kDec m11_verdict kl_m11_verdict := kDec_of (by decide +kernel)
def kl_m11_tryDumb : List (Nat × Instr × Nat × Nat) := [(0, .aload_n 0, 1, 1), (1, .lconst 0, 1, 2), (2, .putfield 385, 3, 5), (5, .aload_n 0, 1, 6), (6, .lconst 0, 1, 7), (7, .putfield 389, 3, 10), (10, .aload_n 0, 1, 11), (11, .lconst 0, 1, 12), (12, .putfield 392, 3, 15), (15, .iconst 0, 1, 16), (16, .istore 4, 2, 18), (18, .iload 4, 2, 20), (20, .iconst 1, 1, 21), (21, .iload_n 2, 1, 22), (22, .ishl, 1, 23), (23, .if_icmp .ge 162, 3, 26), (26, .lconst 1, 1, 27), (27, .lstore 5, 2, 29), (29, .aload_n 0, 1, 30), (30, .getfield 32, 3, 33), (33, .iload_n 1, 1, 34), (34, .iaload, 1, 35), (35, .istore 7, 2, 37), (37, .iconst 0, 1, 38), (38, .istore 8, 2, 40), (40, .iload 8, 2, 42), (42, .iload_n 2, 1, 43), (43, .if_icmp .ge 89, 3, 46), (46, .lload 5, 2, 48), (48, .iload 4, 2, 50), (50, .iload 8, 2, 52), (52, .invokestatic 306, 3, 55), (55, .ifCond .eq 13, 3, 58), (58, .aload_n 0, 1, 59), (59, .getfield 20, 3, 62), (62, .iconst 1, 1, 63), (63, .iaload, 1, 64), (64, .i2l, 1, 65), (65, .goto 13, 3, 68), (68, .bipush 100, 2, 70), (70, .aload_n 0, 1, 71), (71, .getfield 20, 3, 74), (74, .iconst 1, 1, 75), (75, .iaload, 1, 76), (76, .isub, 1, 77), (77, .i2l, 1, 78), (78, .lmul, 1, 79), (79, .lstore 5, 2, 81), (81, .aload_n 0, 1, 82), (82, .iload_n 1, 1, 83), (83, .iload 7, 2, 85), (85, .aload_n 0, 1, 86), (86, .getfield 32, 3, 89), (89, .iconst 5, 1, 90), (90, .iload_n 1, 1, 91), (91, .iadd, 1, 92), (92, .iaload, 1, 93), (93, .aload_n 0, 1, 94), (94, .getfield 20, 3, 97), (97, .bipush 13, 2, 99), (99, .iload_n 1, 1, 100), (100, .iadd, 1, 101), (101, .iaload, 1, 102), (102, .aload_n 0, 1, 103), (103, .getfield 32, 3, 106), (106, .bipush 35, 2, 108), (108, .iaload, 1, 109), (109, .iload 8, 2, 111), (111, .iadd, 1, 112), (112, .iconst 1, 1, 113), (113, .iadd, 1, 114), (114, .iload 4, 2, 116), (116, .iload 8, 2, 118), (118, .invokestatic 306, 3, 121), (121, .invokevirtual 249, 3, 124), (124, .istore 7, 2, 126), (126, .iinc 8 1, 3, 129), (129, .goto (-89), 3, 132), (132, .aload_n 0, 1, 133), (133, .dup, 1, 134), (134, .getfield 385, 3, 137), (137, .lload 5, 2, 139), (139, .ladd, 1, 140), (140, .putfield 385, 3, 143), (143, .aload_n 0, 1, 144), (144, .dup, 1, 145), (145, .getfield 389, 3, 148), (148, .iload 7, 2, 150), (150, .iload_n 3, 1, 151), (151, .if_icmp .lt 8, 3, 154), (154, .lload 5, 2, 156), (156, .goto 4, 3, 159), (159, .lconst 0, 1, 160), (160, .ladd, 1, 161), (161, .putfield 389, 3, 164), (164, .aload_n 0, 1, 165), (165, .dup, 1, 166), (166, .getfield 392, 3, 169), (169, .lload 5, 2, 171), (171, .iload 7, 2, 173), (173, .i2l, 1, 174), (174, .lmul, 1, 175), (175, .ladd, 1, 176), (176, .putfield 392, 3, 179), (179, .iinc 4 1, 3, 182), (182, .goto (-164), 3, 185), (185, .return_, 1, 186)]
theorem kd_m11_tryDumb : kDec m11_tryDumb kl_m11_tryDumb := kDec_of (by decide +kernel)
def kl_m11_odds : List (Nat × Instr × Nat × Nat) := [(0, .aload_n 0, 1, 1), (1, .invokevirtual 164, 3, 4), (4, .aload_n 0, 1, 5), (5, .aload_n 0, 1, 6), (6, .iload_n 1, 1, 7), (7, .invokevirtual 239, 3, 10), (10, .iload_n 2, 1, 11), (11, .iconst 0, 1, 12), (12, .iconst 5, 1, 13), (13, .invokestatic 146, 3, 16), (16, .ifCond .eq 17, 3, 19), (19, .iload_n 3, 1, 20), (20, .iconst 0, 1, 21), (21, .bipush 99, 2, 23), (23, .invokestatic 146, 3, 26), (26, .ifCond .eq 7, 3, 29), (29, .iconst 1, 1, 30), (30, .goto 4, 3, 33), (33, .iconst 0, 1, 34), (34, .invokevirtual 275, 3, 37), (37, .istore 5, 2, 39), (39, .iload 5, 2, 41), (41, .ifCond .eq 11, 3, 44), (44, .aload_n 0, 1, 45), (45, .iload 5, 2, 47), (47, .invokevirtual 167, 3, 50), (50, .i2l, 1, 51), (51, .lreturn, 1, 52), (52, .aload_n 0, 1, 53), (53, .iload_n 1, 1, 54), (54, .iload_n 2, 1, 55), (55, .iload_n 3, 1, 56), (56, .invokevirtual 395, 3, 59), (59, .aload_n 0, 1, 60), (60, .getfield 389, 3, 63), (63, .aload_n 0, 1, 64), (64, .getfield 385, 3, 67), (67, .iload 4, 2, 69), (69, .invokestatic 375, 3, 72), (72, .lreturn, 1, 73)]
theorem kd_m11_odds : kDec m11_odds kl_m11_odds := kDec_of (by decide +kernel)
def kl_m11_mean : List (Nat × Instr × Nat × Nat) := [(0, .aload_n 0, 1, 1), (1, .invokevirtual 164, 3, 4), (4, .aload_n 0, 1, 5), (5, .aload_n 0, 1, 6), (6, .iload_n 1, 1, 7), (7, .invokevirtual 239, 3, 10), (10, .iload_n 2, 1, 11), (11, .iconst 0, 1, 12), (12, .iconst 5, 1, 13), (13, .invokestatic 146, 3, 16), (16, .invokevirtual 275, 3, 19), (19, .istore 4, 2, 21), (21, .iload 4, 2, 23), (23, .ifCond .eq 11, 3, 26), (26, .aload_n 0, 1, 27), (27, .iload 4, 2, 29), (29, .invokevirtual 167, 3, 32), (32, .i2l, 1, 33), (33, .lreturn, 1, 34), (34, .aload_n 0, 1, 35), (35, .iload_n 1, 1, 36), (36, .iload_n 2, 1, 37), (37, .iconst 0, 1, 38), (38, .invokevirtual 395, 3, 41), (41, .aload_n 0, 1, 42), (42, .getfield 392, 3, 45), (45, .aload_n 0, 1, 46), (46, .getfield 385, 3, 49), (49, .iload_n 3, 1, 50), (50, .invokestatic 375, 3, 53), (53, .lreturn, 1, 54)]
theorem kd_m11_mean : kDec m11_mean kl_m11_mean := kDec_of (by decide +kernel)
def kl_m11_drawn : List (Nat × Instr × Nat × Nat) := [(0, .aload_n 0, 1, 1), (1, .invokevirtual 164, 3, 4), (4, .aload_n 0, 1, 5), (5, .aload_n 0, 1, 6), (6, .iload_n 1, 1, 7), (7, .invokevirtual 239, 3, 10), (10, .iload_n 2, 1, 11), (11, .iconst 0, 1, 12), (12, .ldc_w 379, 3, 15), (15, .invokestatic 146, 3, 18), (18, .ifCond .eq 17, 3, 21), (21, .iload_n 3, 1, 22), (22, .iconst 0, 1, 23), (23, .bipush 60, 2, 25), (25, .invokestatic 146, 3, 28), (28, .ifCond .eq 7, 3, 31), (31, .iconst 1, 1, 32), (32, .goto 4, 3, 35), (35, .iconst 0, 1, 36), (36, .invokevirtual 275, 3, 39), (39, .istore 4, 2, 41), (41, .iload 4, 2, 43), (43, .ifCond .eq 10, 3, 46), (46, .aload_n 0, 1, 47), (47, .iload 4, 2, 49), (49, .invokevirtual 167, 3, 52), (52, .ireturn, 1, 53), (53, .iload_n 2, 1, 54), (54, .istore 5, 2, 56), (56, .aload_n 0, 1, 57), (57, .getfield 32, 3, 60), (60, .iload_n 1, 1, 61), (61, .iaload, 1, 62), (62, .istore 6, 2, 64), (64, .iconst 1, 1, 65), (65, .istore 7, 2, 67), (67, .iload 7, 2, 69), (69, .iload_n 3, 1, 70), (70, .if_icmp .gt 78, 3, 73), (73, .bipush 75, 2, 75), (75, .iload 5, 2, 77), (77, .imul, 1, 78), (78, .bipush 74, 2, 80), (80, .iadd, 1, 81), (81, .ldc_w 380, 3, 84), (84, .irem, 1, 85), (85, .istore 5, 2, 87), (87, .aload_n 0, 1, 88), (88, .iload_n 1, 1, 89), (89, .iload 6, 2, 91), (91, .aload_n 0, 1, 92), (92, .getfield 32, 3, 95), (95, .iconst 5, 1, 96), (96, .iload_n 1, 1, 97), (97, .iadd, 1, 98), (98, .iaload, 1, 99), (99, .aload_n 0, 1, 100), (100, .getfield 20, 3, 103), (103, .bipush 13, 2, 105), (105, .iload_n 1, 1, 106), (106, .iadd, 1, 107), (107, .iaload, 1, 108), (108, .aload_n 0, 1, 109), (109, .getfield 32, 3, 112), (112, .bipush 35, 2, 114), (114, .iaload, 1, 115), (115, .iload 7, 2, 117), (117, .iadd, 1, 118), (118, .iload 5, 2, 120), (120, .bipush 100, 2, 122), (122, .irem, 1, 123), (123, .aload_n 0, 1, 124), (124, .getfield 20, 3, 127), (127, .iconst 1, 1, 128), (128, .iaload, 1, 129), (129, .if_icmp .ge 7, 3, 132), (132, .iconst 1, 1, 133), (133, .goto 4, 3, 136), (136, .iconst 0, 1, 137), (137, .invokevirtual 249, 3, 140), (140, .istore 6, 2, 142), (142, .iinc 7 1, 3, 145), (145, .goto (-78), 3, 148), (148, .iload 6, 2, 150), (150, .ireturn, 1, 151)]
theorem kd_m11_drawn : kDec m11_drawn kl_m11_drawn := kDec_of (by decide +kernel)
def kl_m11_note : List (Nat × Instr × Nat × Nat) := [(0, .aload_n 0, 1, 1), (1, .getfield 180, 3, 4), (4, .bipush 16, 2, 6), (6, .if_icmp .ne 43, 3, 9), (9, .iconst 0, 1, 10), (10, .istore_n 1, 1, 11), (11, .iload_n 1, 1, 12), (12, .sipush 540, 3, 15), (15, .if_icmp .ge 24, 3, 18), (18, .aload_n 0, 1, 19), (19, .getfield 35, 3, 22), (22, .iload_n 1, 1, 23), (23, .aload_n 0, 1, 24), (24, .getfield 35, 3, 27), (27, .iload_n 1, 1, 28), (28, .bipush 36, 2, 30), (30, .iadd, 1, 31), (31, .iaload, 1, 32), (32, .iastore, 1, 33), (33, .iinc 1 1, 3, 36), (36, .goto (-25), 3, 39), (39, .aload_n 0, 1, 40), (40, .dup, 1, 41), (41, .getfield 180, 3, 44), (44, .iconst 1, 1, 45), (45, .isub, 1, 46), (46, .putfield 180, 3, 49), (49, .aload_n 0, 1, 50), (50, .getfield 32, 3, 53), (53, .iconst 0, 1, 54), (54, .aload_n 0, 1, 55), (55, .getfield 35, 3, 58), (58, .bipush 36, 2, 60), (60, .aload_n 0, 1, 61), (61, .getfield 180, 3, 64), (64, .imul, 1, 65), (65, .bipush 36, 2, 67), (67, .invokestatic 173, 3, 70), (70, .aload_n 0, 1, 71), (71, .dup, 1, 72), (72, .getfield 180, 3, 75), (75, .iconst 1, 1, 76), (76, .iadd, 1, 77), (77, .putfield 180, 3, 80), (80, .return_, 1, 81)]
theorem kd_m11_note : kDec m11_note kl_m11_note := kDec_of (by decide +kernel)
def kl_m11_season : List (Nat × Instr × Nat × Nat) := [(0, .aload_n 0, 1, 1), (1, .invokevirtual 164, 3, 4), (4, .aload_n 0, 1, 5), (5, .getfield 177, 3, 8), (8, .ifCond .ne 9, 3, 11), (11, .aload_n 0, 1, 12), (12, .iconst 1, 1, 13), (13, .invokevirtual 167, 3, 16), (16, .ireturn, 1, 17), (17, .aload_n 0, 1, 18), (18, .getfield 32, 3, 21), (21, .bipush 35, 2, 23), (23, .iaload, 1, 24), (24, .sipush 999, 3, 27), (27, .if_icmp .ne 9, 3, 30), (30, .aload_n 0, 1, 31), (31, .iconst 3, 1, 32), (32, .invokevirtual 167, 3, 35), (35, .ireturn, 1, 36), (36, .aload_n 0, 1, 37), (37, .invokevirtual 399, 3, 40), (40, .aload_n 0, 1, 41), (41, .getfield 32, 3, 44), (44, .bipush 35, 2, 46), (46, .dup2, 1, 47), (47, .iaload, 1, 48), (48, .iconst 1, 1, 49), (49, .iadd, 1, 50), (50, .iastore, 1, 51), (51, .iconst 0, 1, 52), (52, .istore_n 1, 1, 53), (53, .iload_n 1, 1, 54), (54, .aload_n 0, 1, 55), (55, .getfield 20, 3, 58), (58, .iconst 2, 1, 59), (59, .iaload, 1, 60), (60, .if_icmp .ge 51, 3, 63), (63, .aload_n 0, 1, 64), (64, .getfield 32, 3, 67), (67, .iload_n 1, 1, 68), (68, .aload_n 0, 1, 69), (69, .iload_n 1, 1, 70), (70, .aload_n 0, 1, 71), (71, .getfield 32, 3, 74), (74, .iload_n 1, 1, 75), (75, .iaload, 1, 76), (76, .aload_n 0, 1, 77), (77, .getfield 32, 3, 80), (80, .iconst 5, 1, 81), (81, .iload_n 1, 1, 82), (82, .iadd, 1, 83), (83, .iaload, 1, 84), (84, .aload_n 0, 1, 85), (85, .getfield 20, 3, 88), (88, .bipush 13, 2, 90), (90, .iload_n 1, 1, 91), (91, .iadd, 1, 92), (92, .iaload, 1, 93), (93, .aload_n 0, 1, 94), (94, .getfield 32, 3, 97), (97, .bipush 35, 2, 99), (99, .iaload, 1, 100), (100, .iconst 0, 1, 101), (101, .invokevirtual 249, 3, 104), (104, .iastore, 1, 105), (105, .iinc 1 1, 3, 108), (108, .goto (-55), 3, 111), (111, .aload_n 0, 1, 112), (112, .iconst 0, 1, 113), (113, .invokevirtual 297, 3, 116), (116, .ireturn, 1, 117)]
theorem kd_m11_season : kDec m11_season kl_m11_season := kDec_of (by decide +kernel)
def kl_m11_change : List (Nat × Instr × Nat × Nat) := [(0, .aload_n 0, 1, 1), (1, .invokevirtual 164, 3, 4), (4, .aload_n 0, 1, 5), (5, .iload_n 1, 1, 6), (6, .invokevirtual 239, 3, 9), (9, .ifCond .ne 9, 3, 12), (12, .aload_n 0, 1, 13), (13, .iconst 1, 1, 14), (14, .invokevirtual 167, 3, 17), (17, .ireturn, 1, 18), (18, .iconst 2, 1, 19), (19, .aload_n 0, 1, 20), (20, .getfield 32, 3, 23), (23, .iload_n 1, 1, 24), (24, .iaload, 1, 25), (25, .imul, 1, 26), (26, .aload_n 0, 1, 27), (27, .getfield 20, 3, 30), (30, .iconst 0, 1, 31), (31, .iaload, 1, 32), (32, .if_icmp .ne 9, 3, 35), (35, .aload_n 0, 1, 36), (36, .iconst 5, 1, 37), (37, .invokevirtual 167, 3, 40), (40, .ireturn, 1, 41), (41, .aload_n 0, 1, 42), (42, .invokevirtual 399, 3, 45), (45, .aload_n 0, 1, 46), (46, .getfield 32, 3, 49), (49, .iload_n 1, 1, 50), (50, .aload_n 0, 1, 51), (51, .getfield 20, 3, 54), (54, .iconst 0, 1, 55), (55, .iaload, 1, 56), (56, .aload_n 0, 1, 57), (57, .getfield 32, 3, 60), (60, .iload_n 1, 1, 61), (61, .iaload, 1, 62), (62, .isub, 1, 63), (63, .iastore, 1, 64), (64, .aload_n 0, 1, 65), (65, .getfield 32, 3, 68), (68, .iload_n 1, 1, 69), (69, .iaload, 1, 70), (70, .ireturn, 1, 71)]
theorem kd_m11_change : kDec m11_change kl_m11_change := kDec_of (by decide +kernel)
def kl_m11_step : List (Nat × Instr × Nat × Nat) := [(0, .aload_n 0, 1, 1), (1, .invokevirtual 164, 3, 4), (4, .aload_n 0, 1, 5), (5, .iload_n 1, 1, 6), (6, .invokevirtual 239, 3, 9), (9, .ifCond .ne 9, 3, 12), (12, .aload_n 0, 1, 13), (13, .iconst 1, 1, 14), (14, .invokevirtual 402, 3, 17), (17, .ireturn, 1, 18), (18, .iload_n 2, 1, 19), (19, .iconst 0, 1, 20), (20, .bipush 20, 2, 22), (22, .invokestatic 146, 3, 25), (25, .ifCond .ne 9, 3, 28), (28, .aload_n 0, 1, 29), (29, .iconst 2, 1, 30), (30, .invokevirtual 402, 3, 33), (33, .ireturn, 1, 34), (34, .aload_n 0, 1, 35), (35, .getfield 32, 3, 38), (38, .iconst 5, 1, 39), (39, .iload_n 1, 1, 40), (40, .iadd, 1, 41), (41, .iaload, 1, 42), (42, .iload_n 2, 1, 43), (43, .if_icmp .ne 9, 3, 46), (46, .aload_n 0, 1, 47), (47, .iconst 5, 1, 48), (48, .invokevirtual 402, 3, 51), (51, .ireturn, 1, 52), (52, .aload_n 0, 1, 53), (53, .invokevirtual 399, 3, 56), (56, .aload_n 0, 1, 57), (57, .getfield 32, 3, 60), (60, .iconst 5, 1, 61), (61, .iload_n 1, 1, 62), (62, .iadd, 1, 63), (63, .iload_n 2, 1, 64), (64, .iastore, 1, 65), (65, .iconst 1, 1, 66), (66, .ireturn, 1, 67)]
theorem kd_m11_step : kDec m11_step kl_m11_step := kDec_of (by decide +kernel)
def kl_m11_pay : List (Nat × Instr × Nat × Nat) := [(0, .aload_n 0, 1, 1), (1, .invokevirtual 164, 3, 4), (4, .aload_n 0, 1, 5), (5, .aload_n 0, 1, 6), (6, .iload_n 1, 1, 7), (7, .iload_n 2, 1, 8), (8, .invokevirtual 293, 3, 11), (11, .iload_n 3, 1, 12), (12, .iconst 1, 1, 13), (13, .bipush 99, 2, 15), (15, .invokestatic 146, 3, 18), (18, .invokevirtual 275, 3, 21), (21, .istore 4, 2, 23), (23, .iload 4, 2, 25), (25, .ifCond .ne 16, 3, 28), (28, .iload_n 3, 1, 29), (29, .aload_n 0, 1, 30), (30, .iload_n 1, 1, 31), (31, .iload_n 2, 1, 32), (32, .invokevirtual 336, 3, 35), (35, .if_icmp .le 6, 3, 38), (38, .iconst 5, 1, 39), (39, .istore 4, 2, 41), (41, .iload 4, 2, 43), (43, .ifCond .eq 10, 3, 46), (46, .aload_n 0, 1, 47), (47, .iload 4, 2, 49), (49, .invokevirtual 167, 3, 52), (52, .ireturn, 1, 53), (53, .aload_n 0, 1, 54), (54, .invokevirtual 399, 3, 57), (57, .aload_n 0, 1, 58), (58, .getfield 32, 3, 61), (61, .bipush 10, 2, 63), (63, .iconst 5, 1, 64), (64, .iload_n 1, 1, 65), (65, .imul, 1, 66), (66, .iadd, 1, 67), (67, .iload_n 2, 1, 68), (68, .iadd, 1, 69), (69, .dup2, 1, 70), (70, .iaload, 1, 71), (71, .iload_n 3, 1, 72), (72, .isub, 1, 73), (73, .iastore, 1, 74), (74, .aload_n 0, 1, 75), (75, .iload_n 1, 1, 76), (76, .iload_n 2, 1, 77), (77, .invokevirtual 336, 3, 80), (80, .ireturn, 1, 81)]
theorem kd_m11_pay : kDec m11_pay kl_m11_pay := kDec_of (by decide +kernel)
def kl_m11_undo : List (Nat × Instr × Nat × Nat) := [(0, .aload_n 0, 1, 1), (1, .invokevirtual 164, 3, 4), (4, .aload_n 0, 1, 5), (5, .getfield 180, 3, 8), (8, .ifCond .ne 10, 3, 11), (11, .aload_n 0, 1, 12), (12, .bipush 6, 2, 14), (14, .invokevirtual 402, 3, 17), (17, .ireturn, 1, 18), (18, .aload_n 0, 1, 19), (19, .dup, 1, 20), (20, .getfield 180, 3, 23), (23, .iconst 1, 1, 24), (24, .isub, 1, 25), (25, .putfield 180, 3, 28), (28, .aload_n 0, 1, 29), (29, .getfield 35, 3, 32), (32, .bipush 36, 2, 34), (34, .aload_n 0, 1, 35), (35, .getfield 180, 3, 38), (38, .imul, 1, 39), (39, .aload_n 0, 1, 40), (40, .getfield 32, 3, 43), (43, .iconst 0, 1, 44), (44, .bipush 36, 2, 46), (46, .invokestatic 173, 3, 49), (49, .iconst 1, 1, 50), (50, .ireturn, 1, 51)]
theorem kd_m11_undo : kDec m11_undo kl_m11_undo := kDec_of (by decide +kernel)
def kl_m11_image : List (Nat × Instr × Nat × Nat) := [(0, .aload_n 0, 1, 1), (1, .invokevirtual 164, 3, 4), (4, .aload_n 0, 1, 5), (5, .getfield 177, 3, 8), (8, .ifCond .ne 9, 3, 11), (11, .aload_n 0, 1, 12), (12, .iconst 1, 1, 13), (13, .invokevirtual 167, 3, 16), (16, .ireturn, 1, 17), (17, .aload_n 0, 1, 18), (18, .getfield 183, 3, 21), (21, .iconst 3, 1, 22), (22, .if_icmp .ne 9, 3, 25), (25, .aload_n 0, 1, 26), (26, .iconst 3, 1, 27), (27, .invokevirtual 167, 3, 30), (30, .ireturn, 1, 31), (31, .aload_n 0, 1, 32), (32, .getfield 32, 3, 35), (35, .iconst 0, 1, 36), (36, .aload_n 0, 1, 37), (37, .getfield 38, 3, 40), (40, .bipush 36, 2, 42), (42, .aload_n 0, 1, 43), (43, .getfield 183, 3, 46), (46, .imul, 1, 47), (47, .bipush 36, 2, 49), (49, .invokestatic 173, 3, 52), (52, .aload_n 0, 1, 53), (53, .dup, 1, 54), (54, .getfield 183, 3, 57), (57, .iconst 1, 1, 58), (58, .iadd, 1, 59), (59, .putfield 183, 3, 62), (62, .aload_n 0, 1, 63), (63, .getfield 183, 3, 66), (66, .iconst 1, 1, 67), (67, .isub, 1, 68), (68, .ireturn, 1, 69)]
theorem kd_m11_image : kDec m11_image kl_m11_image := kDec_of (by decide +kernel)
def kl_m11_back : List (Nat × Instr × Nat × Nat) := [(0, .aload_n 0, 1, 1), (1, .invokevirtual 164, 3, 4), (4, .iload_n 1, 1, 5), (5, .iconst 0, 1, 6), (6, .aload_n 0, 1, 7), (7, .getfield 183, 3, 10), (10, .iconst 1, 1, 11), (11, .isub, 1, 12), (12, .invokestatic 146, 3, 15), (15, .ifCond .ne 9, 3, 18), (18, .aload_n 0, 1, 19), (19, .iconst 1, 1, 20), (20, .invokevirtual 402, 3, 23), (23, .ireturn, 1, 24), (24, .aload_n 0, 1, 25), (25, .getfield 38, 3, 28), (28, .bipush 36, 2, 30), (30, .iload_n 1, 1, 31), (31, .imul, 1, 32), (32, .aload_n 0, 1, 33), (33, .getfield 32, 3, 36), (36, .iconst 0, 1, 37), (37, .bipush 36, 2, 39), (39, .invokestatic 173, 3, 42), (42, .aload_n 0, 1, 43), (43, .iconst 0, 1, 44), (44, .putfield 180, 3, 47), (47, .iconst 1, 1, 48), (48, .ireturn, 1, 49)]
theorem kd_m11_back : kDec m11_back kl_m11_back := kDec_of (by decide +kernel)
def kl_m11_led : List (Nat × Instr × Nat × Nat) := [(0, .iconst 0, 1, 1), (1, .istore_n 2, 1, 2), (2, .iconst 0, 1, 3), (3, .istore_n 3, 1, 4), (4, .aload_n 0, 1, 5), (5, .getfield 177, 3, 8), (8, .ifCond .eq 50, 3, 11), (11, .iload_n 3, 1, 12), (12, .aload_n 0, 1, 13), (13, .getfield 20, 3, 16), (16, .iconst 2, 1, 17), (17, .iaload, 1, 18), (18, .if_icmp .ge 40, 3, 21), (21, .aload_n 0, 1, 22), (22, .aload_n 0, 1, 23), (23, .getfield 32, 3, 26), (26, .iload_n 3, 1, 27), (27, .iaload, 1, 28), (28, .invokevirtual 272, 3, 31), (31, .ifCond .ne 6, 3, 34), (34, .goto 18, 3, 37), (37, .iload_n 2, 1, 38), (38, .iload_n 1, 1, 39), (39, .if_icmp .ne 10, 3, 42), (42, .aload_n 0, 1, 43), (43, .iconst 0, 1, 44), (44, .putfield 59, 3, 47), (47, .iload_n 3, 1, 48), (48, .ireturn, 1, 49), (49, .iinc 2 1, 3, 52), (52, .iinc 3 1, 3, 55), (55, .goto (-51), 3, 58), (58, .aload_n 0, 1, 59), (59, .iconst 1, 1, 60), (60, .putfield 59, 3, 63), (63, .iconst 0, 1, 64), (64, .ireturn, 1, 65)]
theorem kd_m11_led : kDec m11_led kl_m11_led := kDec_of (by decide +kernel)
def kl_m11_size : List (Nat × Instr × Nat × Nat) := [(0, .aload_n 0, 1, 1), (1, .iconst 0, 1, 2), (2, .putfield 59, 3, 5), (5, .iload_n 1, 1, 6), (6, .bipush 10, 2, 8), (8, .if_icmp .ne 8, 3, 11), (11, .aload_n 0, 1, 12), (12, .getfield 65, 3, 15), (15, .ireturn, 1, 16), (16, .aload_n 0, 1, 17), (17, .getfield 177, 3, 20), (20, .ifCond .ne 19, 3, 23), (23, .iload_n 1, 1, 24), (24, .iconst 0, 1, 25), (25, .bipush 9, 2, 27), (27, .invokestatic 146, 3, 30), (30, .ifCond .eq 7, 3, 33), (33, .iconst 0, 1, 34), (34, .goto 4, 3, 37), (37, .iconst (-1), 1, 38), (38, .ireturn, 1, 39), (39, .iload_n 1, 1, 40), (40, .iconst 0, 1, 41), (41, .bipush 6, 2, 43), (43, .invokestatic 146, 3, 46), (46, .ifCond .eq 10, 3, 49), (49, .aload_n 0, 1, 50), (50, .getfield 20, 3, 53), (53, .iload_n 1, 1, 54), (54, .iaload, 1, 55), (55, .ireturn, 1, 56), (56, .iload_n 1, 1, 57), (57, .bipush 7, 2, 59), (59, .if_icmp .ne 13, 3, 62), (62, .aload_n 0, 1, 63), (63, .getfield 32, 3, 66), (66, .bipush 35, 2, 68), (68, .iaload, 1, 69), (69, .goto 30, 3, 72), (72, .iload_n 1, 1, 73), (73, .bipush 8, 2, 75), (75, .if_icmp .ne 10, 3, 78), (78, .aload_n 0, 1, 79), (79, .getfield 180, 3, 82), (82, .goto 17, 3, 85), (85, .iload_n 1, 1, 86), (86, .bipush 9, 2, 88), (88, .if_icmp .ne 10, 3, 91), (91, .aload_n 0, 1, 92), (92, .getfield 183, 3, 95), (95, .goto 4, 3, 98), (98, .iconst (-1), 1, 99), (99, .ireturn, 1, 100)]
theorem kd_m11_size : kDec m11_size kl_m11_size := kDec_of (by decide +kernel)
def kl_m11_trouble : List (Nat × Instr × Nat × Nat) := [(0, .aload_n 0, 1, 1), (1, .iconst 0, 1, 2), (2, .putfield 59, 3, 5), (5, .aload_n 0, 1, 6), (6, .getfield 62, 3, 9), (9, .ireturn, 1, 10)]
theorem kd_m11_trouble : kDec m11_trouble kl_m11_trouble := kDec_of (by decide +kernel)
def kl_mJ_max_J9 : List (Nat × Instr × Nat × Nat) := [(0, .iload_n 0, 1, 1), (1, .iload_n 1, 1, 2), (2, .if_icmp .lt 7, 3, 5), (5, .iload_n 0, 1, 6), (6, .goto 4, 3, 9), (9, .iload_n 1, 1, 10), (10, .ireturn, 1, 11)]
theorem kd_mJ_max_J9 : kDec mJ_max_J9 kl_mJ_max_J9 := kDec_of (by decide +kernel)
def kl_mJ_min_J9 : List (Nat × Instr × Nat × Nat) := [(0, .iload_n 0, 1, 1), (1, .iload_n 1, 1, 2), (2, .if_icmp .gt 7, 3, 5), (5, .iload_n 0, 1, 6), (6, .goto 4, 3, 9), (9, .iload_n 1, 1, 10), (10, .ireturn, 1, 11)]
theorem kd_mJ_min_J9 : kDec mJ_min_J9 kl_mJ_min_J9 := kDec_of (by decide +kernel)
def kl_mJ_abs_J9 : List (Nat × Instr × Nat × Nat) := [(0, .iload_n 0, 1, 1), (1, .ifCond .ge 8, 3, 4), (4, .iload_n 0, 1, 5), (5, .ineg, 1, 6), (6, .goto 4, 3, 9), (9, .iload_n 0, 1, 10), (10, .ireturn, 1, 11)]
theorem kd_mJ_abs_J9 : kDec mJ_abs_J9 kl_mJ_abs_J9 := kDec_of (by decide +kernel)
def kl_mJ_length_J0 : List (Nat × Instr × Nat × Nat) := [(0, .aload_n 0, 1, 1), (1, .getfield 9, 3, 4), (4, .arraylength, 1, 5), (5, .aload_n 0, 1, 6), (6, .invokevirtual 335, 3, 9), (9, .ishr, 1, 10), (10, .ireturn, 1, 11)]
theorem kd_mJ_length_J0 : kDec mJ_length_J0 kl_mJ_length_J0 := kDec_of (by decide +kernel)
def kl_mJ_charAt_J0 : List (Nat × Instr × Nat × Nat) := [(0, .aload_n 0, 1, 1), (1, .invokevirtual 492, 3, 4), (4, .ifCond .eq 12, 3, 7), (7, .aload_n 0, 1, 8), (8, .getfield 9, 3, 11), (11, .iload_n 1, 1, 12), (12, .invokestatic 495, 3, 15), (15, .ireturn, 1, 16), (16, .aload_n 0, 1, 17), (17, .getfield 9, 3, 20), (20, .iload_n 1, 1, 21), (21, .invokestatic 498, 3, 24), (24, .ireturn, 1, 25)]
theorem kd_mJ_charAt_J0 : kDec mJ_charAt_J0 kl_mJ_charAt_J0 := kDec_of (by decide +kernel)
def kl_mJ_coder_J0 : List (Nat × Instr × Nat × Nat) := [(0, .getstatic 38, 3, 3), (3, .ifCond .eq 10, 3, 6), (6, .aload_n 0, 1, 7), (7, .getfield 15, 3, 10), (10, .goto 4, 3, 13), (13, .iconst 1, 1, 14), (14, .ireturn, 1, 15)]
theorem kd_mJ_coder_J0 : kDec mJ_coder_J0 kl_mJ_coder_J0 := kDec_of (by decide +kernel)
def kl_mJ_isLatin1_J0 : List (Nat × Instr × Nat × Nat) := [(0, .getstatic 38, 3, 3), (3, .ifCond .eq 14, 3, 6), (6, .aload_n 0, 1, 7), (7, .getfield 15, 3, 10), (10, .ifCond .ne 7, 3, 13), (13, .iconst 1, 1, 14), (14, .goto 4, 3, 17), (17, .iconst 0, 1, 18), (18, .ireturn, 1, 19)]
theorem kd_mJ_isLatin1_J0 : kDec mJ_isLatin1_J0 kl_mJ_isLatin1_J0 := kDec_of (by decide +kernel)
def kl_mJ_checkIndex_J0 : List (Nat × Instr × Nat × Nat) := [(0, .iload_n 0, 1, 1), (1, .iload_n 1, 1, 2), (2, .getstatic 1053, 3, 5), (5, .invokestatic 1059, 3, 8), (8, .pop, 1, 9), (9, .return_, 1, 10)]
theorem kd_mJ_checkIndex_J0 : kDec mJ_checkIndex_J0 kl_mJ_checkIndex_J0 := kDec_of (by decide +kernel)
def kl_mJ_charAt_J1 : List (Nat × Instr × Nat × Nat) := [(0, .iload_n 1, 1, 1), (1, .aload_n 0, 1, 2), (2, .arraylength, 1, 3), (3, .invokestatic 9, 3, 6), (6, .aload_n 0, 1, 7), (7, .iload_n 1, 1, 8), (8, .baload, 1, 9), (9, .sipush 255, 3, 12), (12, .iand, 1, 13), (13, .i2c, 1, 14), (14, .ireturn, 1, 15)]
theorem kd_mJ_charAt_J1 : kDec mJ_charAt_J1 kl_mJ_charAt_J1 := kDec_of (by decide +kernel)
def kl_mJ_fill_J7 : List (Nat × Instr × Nat × Nat) := [(0, .iconst 0, 1, 1), (1, .istore_n 2, 1, 2), (2, .aload_n 0, 1, 3), (3, .arraylength, 1, 4), (4, .istore_n 3, 1, 5), (5, .iload_n 2, 1, 6), (6, .iload_n 3, 1, 7), (7, .if_icmp .ge 13, 3, 10), (10, .aload_n 0, 1, 11), (11, .iload_n 2, 1, 12), (12, .iload_n 1, 1, 13), (13, .iastore, 1, 14), (14, .iinc 2 1, 3, 17), (17, .goto (-12), 3, 20), (20, .return_, 1, 21)]
theorem kd_mJ_fill_J7 : kDec mJ_fill_J7 kl_mJ_fill_J7 := kDec_of (by decide +kernel)
def kl_mJ_checkIndex_J3 : List (Nat × Instr × Nat × Nat) := [(0, .iload_n 0, 1, 1), (1, .ifCond .lt 8, 3, 4), (4, .iload_n 0, 1, 5), (5, .iload_n 1, 1, 6), (6, .if_icmp .lt 10, 3, 9), (9, .aload_n 2, 1, 10), (10, .iload_n 0, 1, 11), (11, .iload_n 1, 1, 12), (12, .invokestatic 95, 3, 15), (15, .athrow, 1, 16), (16, .iload_n 0, 1, 17), (17, .ireturn, 1, 18)]
theorem kd_mJ_checkIndex_J3 : kDec mJ_checkIndex_J3 kl_mJ_checkIndex_J3 := kDec_of (by decide +kernel)
end
section
-- more rules: places that are written out, merged values
section MORE
variable {ρ : Type} {l : Launch} {G : kG} {E : kE} {Z : (Nat → Prop) → ρ → Array Value → State → Outcome → State → Prop} {M : kM} {d : Nat} {o : Option ρ} {pc pc' : Nat} {lv lv' : List (Nat × Value)} {st : List Value} {S : kSt}
theorem kgi_in {α : Type} {i : Int32} {n : Nat} {o : Option α} (h : vp_in i n) : kgi i n o = o := if_neg h
theorem ok_ialdK {k n j : Nat} {i : Int32} (hd : kD M pc .iaload 1 pc') (hs : kSH[k]? = some (1, 0, n)) (hi : ¬ (i < 0 ∨ n ≤ i.toNatClampNeg)) (hj : i.toNatClampNeg = j) (kk : kOk l G E Z M d o pc' lv (.int (S.1 k j) :: st) S) : kOk l G E Z M d o pc lv (.int i :: .ref k :: st) S := by
  subst hj
  have h := ok_iald (i := i) hd hs kk
  rw [kgi_in hi] at h
  exact h
theorem ok_iastK {k n j : Nat} {i x : Int32} (hd : kD M pc .iastore 1 pc') (hs : kSH[k]? = some (1, 0, n)) (hi : ¬ (i < 0 ∨ n ≤ i.toNatClampNeg)) (hj : i.toNatClampNeg = j) (kk : kOk l G E Z M d o pc' lv st (kuI S k j x)) : kOk l G E Z M d o pc lv (.int x :: .int i :: .ref k :: st) S := by
  subst hj
  have h := ok_iast (i := i) hd hs kk
  rw [kgi_in hi] at h
  exact h
theorem ok_ap {α : Type} {c : Prop} [Decidable c] {a b : α} {F : α → Option ρ} (k : kOk l G E Z M d (if c then knx a F else knx b F) pc lv st S) : kOk l G E Z M d (knx (if c then a else b) F) pc lv st S := by
  have h : knx (if c then a else b) F = if c then knx a F else knx b F := by
    split <;> rfl
  rw [h]
  exact k
end MORE
theorem sh_img : ∀ j, j < 3 → kSH[70 + j]? = some (1, 0, 36) := by decide +kernel
theorem sh_row : ∀ j, j < 16 → kSH[73 + j]? = some (1, 0, 36) := by decide +kernel
theorem kr_img : ∀ z j, j < 3 → kRf z 17 j = some (70 + j) := fun z j h => by simp [kRf, h]
theorem kr_row : ∀ z j, j < 16 → kRf z 43 j = some (73 + j) := fun z j h => by simp [kRf, h]
theorem sh_0 : kSH[0]? = some (0, 10, 19) := by decide +kernel
theorem sh_1 : kSH[1]? = some (0, 5, 17) := by decide +kernel
theorem sh_2 : kSH[2]? = some (0, 5, 17) := by decide +kernel
theorem sh_3 : kSH[3]? = some (0, 7, 11) := by decide +kernel
theorem sh_4 : kSH[4]? = some (0, 4, 4) := by decide +kernel
theorem sh_5 : kSH[5]? = some (0, 3, 3) := by decide +kernel
theorem sh_6 : kSH[6]? = some (0, 9, 6) := by decide +kernel
theorem sh_7 : kSH[7]? = some (0, 9, 6) := by decide +kernel
theorem sh_8 : kSH[8]? = some (0, 8, 4) := by decide +kernel
theorem sh_9 : kSH[9]? = some (0, 1, 5) := by decide +kernel
theorem sh_10 : kSH[10]? = some (0, 0, 7) := by decide +kernel
theorem sh_11 : kSH[11]? = some (0, 2, 3) := by decide +kernel
theorem sh_12 : kSH[12]? = some (0, 6, 2) := by decide +kernel
theorem sh_13 : kSH[13]? = some (0, 9, 6) := by decide +kernel
theorem sh_14 : kSH[14]? = some (0, 11, 42) := by decide +kernel
theorem sh_15 : kSH[15]? = some (1, 1, 900) := by decide +kernel
theorem sh_16 : kSH[16]? = some (1, 0, 5) := by decide +kernel
theorem sh_17 : kSH[17]? = some (1, 3, 3) := by decide +kernel
theorem sh_18 : kSH[18]? = some (1, 0, 5) := by decide +kernel
theorem sh_19 : kSH[19]? = some (1, 0, 5) := by decide +kernel
theorem sh_20 : kSH[20]? = some (1, 0, 5) := by decide +kernel
theorem sh_21 : kSH[21]? = some (1, 0, 5) := by decide +kernel
theorem sh_22 : kSH[22]? = some (1, 0, 25) := by decide +kernel
theorem sh_23 : kSH[23]? = some (1, 0, 4) := by decide +kernel
theorem sh_24 : kSH[24]? = some (1, 0, 4) := by decide +kernel
theorem sh_25 : kSH[25]? = some (1, 0, 8) := by decide +kernel
theorem sh_26 : kSH[26]? = some (1, 0, 8) := by decide +kernel
theorem sh_27 : kSH[27]? = some (1, 0, 8) := by decide +kernel
theorem sh_28 : kSH[28]? = some (1, 0, 5) := by decide +kernel
theorem sh_29 : kSH[29]? = some (1, 0, 5) := by decide +kernel
theorem sh_30 : kSH[30]? = some (1, 0, 5) := by decide +kernel
theorem sh_31 : kSH[31]? = some (1, 0, 5) := by decide +kernel
theorem sh_32 : kSH[32]? = some (1, 0, 25) := by decide +kernel
theorem sh_33 : kSH[33]? = some (1, 0, 4) := by decide +kernel
theorem sh_34 : kSH[34]? = some (1, 0, 4) := by decide +kernel
theorem sh_35 : kSH[35]? = some (1, 0, 8) := by decide +kernel
theorem sh_36 : kSH[36]? = some (1, 0, 8) := by decide +kernel
theorem sh_37 : kSH[37]? = some (1, 0, 8) := by decide +kernel
theorem sh_38 : kSH[38]? = some (1, 0, 5) := by decide +kernel
theorem sh_39 : kSH[39]? = some (1, 0, 5) := by decide +kernel
theorem sh_40 : kSH[40]? = some (1, 0, 5) := by decide +kernel
theorem sh_41 : kSH[41]? = some (1, 0, 5) := by decide +kernel
theorem sh_42 : kSH[42]? = some (1, 0, 25) := by decide +kernel
theorem sh_43 : kSH[43]? = some (1, 3, 16) := by decide +kernel
theorem sh_44 : kSH[44]? = some (1, 0, 900) := by decide +kernel
theorem sh_45 : kSH[45]? = some (1, 0, 900) := by decide +kernel
theorem sh_46 : kSH[46]? = some (1, 0, 4) := by decide +kernel
theorem sh_47 : kSH[47]? = some (1, 0, 4) := by decide +kernel
theorem sh_48 : kSH[48]? = some (1, 0, 16) := by decide +kernel
theorem sh_49 : kSH[49]? = some (1, 0, 5) := by decide +kernel
theorem sh_50 : kSH[50]? = some (1, 0, 32) := by decide +kernel
theorem sh_51 : kSH[51]? = some (1, 0, 32) := by decide +kernel
theorem sh_52 : kSH[52]? = some (1, 0, 5) := by decide +kernel
theorem sh_53 : kSH[53]? = some (1, 0, 5) := by decide +kernel
theorem sh_54 : kSH[54]? = some (1, 0, 5) := by decide +kernel
theorem sh_55 : kSH[55]? = some (1, 0, 900) := by decide +kernel
theorem sh_56 : kSH[56]? = some (1, 0, 8) := by decide +kernel
theorem sh_57 : kSH[57]? = some (1, 0, 95) := by decide +kernel
theorem sh_58 : kSH[58]? = some (1, 0, 95) := by decide +kernel
theorem sh_59 : kSH[59]? = some (1, 0, 36) := by decide +kernel
theorem sh_60 : kSH[60]? = some (1, 0, 36) := by decide +kernel
theorem sh_61 : kSH[61]? = some (1, 0, 36) := by decide +kernel
theorem sh_62 : kSH[62]? = some (1, 0, 576) := by decide +kernel
theorem sh_63 : kSH[63]? = some (1, 0, 108) := by decide +kernel
theorem sh_64 : kSH[64]? = some (1, 0, 2600) := by decide +kernel
theorem sh_65 : kSH[65]? = some (1, 0, 900) := by decide +kernel
theorem sh_66 : kSH[66]? = some (1, 0, 4) := by decide +kernel
theorem sh_67 : kSH[67]? = some (1, 0, 5) := by decide +kernel
theorem sh_68 : kSH[68]? = some (1, 0, 5) := by decide +kernel
theorem sh_69 : kSH[69]? = some (1, 0, 5) := by decide +kernel
theorem kr_0_0 : ∀ z, kRf z 0 0 = some 15 := fun _ => rfl
theorem kr_0_2 : ∀ z, kRf z 0 2 = some 1 := fun _ => rfl
theorem kr_0_3 : ∀ z, kRf z 0 3 = some 2 := fun _ => rfl
theorem kr_0_4 : ∀ z, kRf z 0 4 = some 3 := fun _ => rfl
theorem kr_0_6 : ∀ z, kRf z 0 6 = some 4 := fun _ => rfl
theorem kr_0_7 : ∀ z, kRf z 0 7 = some 5 := fun _ => rfl
theorem kr_0_8 : ∀ z, kRf z 0 8 = some 17 := fun _ => rfl
theorem kr_0_10 : ∀ z, kRf z 0 10 = some 6 := fun _ => rfl
theorem kr_0_11 : ∀ z, kRf z 0 11 = some 7 := fun _ => rfl
theorem kr_0_12 : ∀ z, kRf z 0 12 = some 16 := fun _ => rfl
theorem kr_0_13 : ∀ z, kRf z 0 13 = some 8 := fun _ => rfl
theorem kr_0_14 : ∀ z, kRf z 0 14 = some 9 := fun _ => rfl
theorem kr_0_15 : ∀ z, kRf z 0 15 = some 10 := fun _ => rfl
theorem kr_0_16 : ∀ z, kRf z 0 16 = some 11 := fun _ => rfl
theorem kr_0_17 : ∀ z, kRf z 0 17 = some 12 := fun _ => rfl
theorem kr_1_7 : ∀ z, kRf z 1 7 = some 18 := fun _ => rfl
theorem kr_1_8 : ∀ z, kRf z 1 8 = some 19 := fun _ => rfl
theorem kr_1_9 : ∀ z, kRf z 1 9 = some 20 := fun _ => rfl
theorem kr_1_10 : ∀ z, kRf z 1 10 = some 21 := fun _ => rfl
theorem kr_1_11 : ∀ z, kRf z 1 11 = some 22 := fun _ => rfl
theorem kr_1_12 : ∀ z, kRf z 1 12 = some 23 := fun _ => rfl
theorem kr_1_13 : ∀ z, kRf z 1 13 = some 24 := fun _ => rfl
theorem kr_1_14 : ∀ z, kRf z 1 14 = some 25 := fun _ => rfl
theorem kr_1_15 : ∀ z, kRf z 1 15 = some 26 := fun _ => rfl
theorem kr_1_16 : ∀ z, kRf z 1 16 = some 27 := fun _ => rfl
theorem kr_2_7 : ∀ z, kRf z 2 7 = some 28 := fun _ => rfl
theorem kr_2_8 : ∀ z, kRf z 2 8 = some 29 := fun _ => rfl
theorem kr_2_9 : ∀ z, kRf z 2 9 = some 30 := fun _ => rfl
theorem kr_2_10 : ∀ z, kRf z 2 10 = some 31 := fun _ => rfl
theorem kr_2_11 : ∀ z, kRf z 2 11 = some 32 := fun _ => rfl
theorem kr_2_12 : ∀ z, kRf z 2 12 = some 33 := fun _ => rfl
theorem kr_2_13 : ∀ z, kRf z 2 13 = some 34 := fun _ => rfl
theorem kr_2_14 : ∀ z, kRf z 2 14 = some 35 := fun _ => rfl
theorem kr_2_15 : ∀ z, kRf z 2 15 = some 36 := fun _ => rfl
theorem kr_2_16 : ∀ z, kRf z 2 16 = some 37 := fun _ => rfl
theorem kr_3_0 : ∀ z, kRf z 3 0 = some 15 := fun _ => rfl
theorem kr_3_7 : ∀ z, kRf z 3 7 = some 38 := fun _ => rfl
theorem kr_3_8 : ∀ z, kRf z 3 8 = some 39 := fun _ => rfl
theorem kr_4_1 : ∀ z, kRf z 4 1 = some 40 := fun _ => rfl
theorem kr_4_2 : ∀ z, kRf z 4 2 = some 41 := fun _ => rfl
theorem kr_4_3 : ∀ z, kRf z 4 3 = some 42 := fun _ => rfl
theorem kr_5_0 : ∀ z, kRf z 5 0 = some 43 := fun _ => rfl
theorem kr_8_0 : ∀ z, kRf z 8 0 = some 44 := fun _ => rfl
theorem kr_8_1 : ∀ z, kRf z 8 1 = some 45 := fun _ => rfl
theorem kr_9_0 : ∀ z, kRf z 9 0 = some 13 := fun _ => rfl
theorem kr_9_1 : ∀ z, kRf z 9 1 = some 46 := fun _ => rfl
theorem kr_9_2 : ∀ z, kRf z 9 2 = some 47 := fun _ => rfl
theorem kr_9_3 : ∀ z, kRf z 9 3 = some 48 := fun _ => rfl
theorem kr_10_1 : ∀ z, kRf z 10 1 = some 49 := fun _ => rfl
theorem kr_10_2 : ∀ z, kRf z 10 2 = some 50 := fun _ => rfl
theorem kr_10_3 : ∀ z, kRf z 10 3 = some 51 := fun _ => rfl
theorem kr_10_4 : ∀ z, kRf z 10 4 = some 52 := fun _ => rfl
theorem kr_10_5 : ∀ z, kRf z 10 5 = some 53 := fun _ => rfl
theorem kr_11_0 : ∀ z, kRf z 11 0 = some 54 := fun _ => rfl
theorem kr_14_1 : ∀ z, kRf z 14 1 = some 55 := fun _ => rfl
theorem kr_14_12 : ∀ z, kRf z 14 12 = some 56 := fun _ => rfl
theorem kr_14_15 : ∀ z, kRf z 14 15 = some 57 := fun _ => rfl
theorem kr_14_16 : ∀ z, kRf z 14 16 = some 58 := fun _ => rfl
theorem kr_14_17 : ∀ z, kRf z 14 17 = some 59 := fun _ => rfl
theorem kr_14_18 : ∀ z, kRf z 14 18 = some 60 := fun _ => rfl
theorem kr_14_19 : ∀ z, kRf z 14 19 = some 61 := fun _ => rfl
theorem kr_14_20 : ∀ z, kRf z 14 20 = some 62 := fun _ => rfl
theorem kr_14_21 : ∀ z, kRf z 14 21 = some 63 := fun _ => rfl
theorem kr_14_24 : ∀ z, kRf z 14 24 = some 64 := fun _ => rfl
theorem kr_14_25 : ∀ z, kRf z 14 25 = some 65 := fun _ => rfl
theorem kr_14_30 : ∀ z, kRf z 14 30 = some 66 := fun _ => rfl
theorem kr_14_34 : ∀ z, kRf z 14 34 = some 67 := fun _ => rfl
theorem kr_14_35 : ∀ z, kRf z 14 35 = some 68 := fun _ => rfl
theorem kr_14_38 : ∀ z, kRf z 14 38 = some 69 := fun _ => rfl
theorem kr_3_6 : ∀ z, kRf z 3 6 = some z := fun _ => rfl
def kFU : Nat := 1000000
theorem kac2 : Cond.native arraycopyName ∈ kT := kin3 139 (by decide +kernel) rfl
theorem kac3 : Cond.static arraycopyName ∈ kT := kin3 138 (by decide +kernel) rfl
theorem kac4 : Cond.initialized "java/lang/System" ∈ kT := kin1 19 (by decide +kernel) rfl
theorem kac_4_28 : Cond.methodLink kR4 28 arraycopyName ∈ kT := kin3 137 (by decide +kernel) rfl
theorem kac_10_390 : Cond.methodLink kR10 390 arraycopyName ∈ kT := kin5 106 (by decide +kernel) rfl
theorem kco_10_210 : Cond.constant kR10 210 (2000000000) ∈ kT := kin4 25 (by decide +kernel) rfl
theorem kco_10_302 : Cond.constant kR10 302 (-1000000) ∈ kT := kin4 198 (by decide +kernel) rfl
theorem kco_10_356 : Cond.constant kR10 356 (65536) ∈ kT := kin5 58 (by decide +kernel) rfl
theorem kco_10_363 : Cond.constant kR10 363 (65537) ∈ kT := kin5 66 (by decide +kernel) rfl
theorem kco_11_289 : Cond.constant kR11 289 (2000000000) ∈ kT := kin7 101 (by decide +kernel) rfl
theorem kco_11_342 : Cond.constant kR11 342 (-1000000) ∈ kT := kin8 9 (by decide +kernel) rfl
theorem kco_11_358 : Cond.constant kR11 358 (100000000) ∈ kT := kin8 41 (by decide +kernel) rfl
theorem kco_11_379 : Cond.constant kR11 379 (65536) ∈ kT := kin8 88 (by decide +kernel) rfl
theorem kco_11_380 : Cond.constant kR11 380 (65537) ∈ kT := kin8 89 (by decide +kernel) rfl
theorem kcl_10_337 : Cond.constantLong kR10 337 (-1) ∈ kT := kin5 35 (by decide +kernel) rfl
theorem kcl_10_378 : Cond.constantLong kR10 378 (100) ∈ kT := kin5 83 (by decide +kernel) rfl
theorem kst_7_98 : (kR7, 98, 0) ∈ kSi := by decide +kernel
theorem kst_7_103 : (kR7, 103, 1) ∈ kSi := by decide +kernel
theorem kst_7_105 : (kR7, 105, 2) ∈ kSi := by decide +kernel
theorem kst_7_107 : (kR7, 107, 3) ∈ kSi := by decide +kernel
theorem kst_7_109 : (kR7, 109, 4) ∈ kSi := by decide +kernel
theorem kst_7_111 : (kR7, 111, 5) ∈ kSi := by decide +kernel
theorem kst_7_133 : (kR7, 133, 6) ∈ kSi := by decide +kernel
theorem kst_7_143 : (kR7, 143, 7) ∈ kSi := by decide +kernel
theorem kst_7_113 : (kR7, 113, 8) ∈ kSi := by decide +kernel
theorem kst_7_117 : (kR7, 117, 9) ∈ kSi := by decide +kernel
theorem kst_7_119 : (kR7, 119, 10) ∈ kSi := by decide +kernel
theorem kst_7_121 : (kR7, 121, 11) ∈ kSi := by decide +kernel
theorem kst_7_168 : (kR7, 168, 12) ∈ kSi := by decide +kernel
theorem kst_7_173 : (kR7, 173, 13) ∈ kSi := by decide +kernel
theorem kst_7_184 : (kR7, 184, 14) ∈ kSi := by decide +kernel
theorem kst_7_210 : (kR7, 210, 15) ∈ kSi := by decide +kernel
theorem kst_11_128 : (kR11, 128, 0) ∈ kSi := by decide +kernel
theorem kst_11_208 : (kR11, 208, 6) ∈ kSi := by decide +kernel
theorem kst_11_214 : (kR11, 214, 7) ∈ kSi := by decide +kernel
theorem kst_11_130 : (kR11, 130, 1) ∈ kSi := by decide +kernel
theorem kst_11_132 : (kR11, 132, 2) ∈ kSi := by decide +kernel
theorem kst_11_134 : (kR11, 134, 3) ∈ kSi := by decide +kernel
theorem kst_11_136 : (kR11, 136, 4) ∈ kSi := by decide +kernel
theorem kst_11_138 : (kR11, 138, 5) ∈ kSi := by decide +kernel
theorem kst_11_220 : (kR11, 220, 8) ∈ kSi := by decide +kernel
theorem kst_11_222 : (kR11, 222, 9) ∈ kSi := by decide +kernel
theorem kst_11_224 : (kR11, 224, 10) ∈ kSi := by decide +kernel
theorem kst_11_226 : (kR11, 226, 11) ∈ kSi := by decide +kernel
theorem kst_11_228 : (kR11, 228, 12) ∈ kSi := by decide +kernel
theorem kst_11_230 : (kR11, 230, 13) ∈ kSi := by decide +kernel
theorem kst_11_235 : (kR11, 235, 14) ∈ kSi := by decide +kernel
theorem kst_11_237 : (kR11, 237, 15) ∈ kSi := by decide +kernel
end
section
-- rules that the generator uses
def krem (x y : Int32) : Int32 := x - x / y * y
def kremL (x y : Int64) : Int64 := x - x / y * y
def kcp (S : kSt) (k0 k1 sp dp n : Nat) : kSt := kuA S k1 (va_cpy (S.1 k0) (S.1 k1) sp dp n)
def kgb {α : Type} (x : Int32) (F : Bool → Option α) : Option α := if x = 0 then F false else if x = 1 then F true else none
def kmax (x y : Int32) : Int32 := if x < y then y else x
def kmin (x y : Int32) : Int32 := if y < x then y else x
def kabs (x : Int32) : Int32 := if 0 ≤ x then x else -x
section GR
variable {ρ : Type} {l : Launch} {G : kG} {E : kE} {Z : (Nat → Prop) → ρ → Array Value → State → Outcome → State → Prop} {M : kM} {d : Nat} {o : Option ρ} {pc pc' : Nat} {lv lv' : List (Nat × Value)} {st : List Value} {S : kSt}
theorem ok_sndi {x : Int32} {v : Value} {f : Int32 → Option ρ} (k : ∀ b, b = x → kOk l G E Z M d (f b) pc lv (v :: .int b :: st) S) : kOk l G E Z M d (knx x f) pc lv (v :: .int x :: st) S := k x rfl
theorem ok_fold {α : Type} {F : α → Option ρ} {a : α} {pcJ : Nat} {lvJ : List (Nat × Value)} {stJ : List Value} {mk : α → Value} (h : (∀ v, kOk l G E Z M d (F v) pcJ lvJ (mk v :: stJ) S) → kOk l G E Z M d (knx a F) pc lv st S) (K : ∀ v, kOk l G E Z M d (F v) pcJ lvJ (mk v :: stJ) S) : kOk l G E Z M d (knx a F) pc lv st S := h K
theorem ok_getZ {k c n j idx : Nat} {F : Bool → Option ρ} (hd : kD M pc (.getfield idx) 3 pc') (hf : kFl M.1.cls idx c j) (hs : kSH[k]? = some (0, c, n)) (ht : kIsI (kTyp c j) = true) (kk : ∀ b : Bool, kOk l G E Z M d (F b) pc' lv (.int (kb b) :: st) S) : kOk l G E Z M d (kgb (S.1 k j) F) pc lv (.ref k :: st) S := by
  unfold kgb
  split
  · rename_i h
    refine ok_getI hd hf hs ht ?_
    rw [h]
    exact kk false
  · split
    · rename_i h
      refine ok_getI hd hf hs ht ?_
      rw [h]
      exact kk true
    · exact ok_none
theorem ok_idivG {x y : Int32} (hd : kD M pc .idiv 1 pc') (k : kOk l G E Z M d o pc' lv (.int (x / y) :: st) S) : kOk l G E Z M d (kgz y o) pc lv (.int y :: .int x :: st) S := ok_idiv hd k
theorem ok_iremG {x y : Int32} (hd : kD M pc .irem 1 pc') (k : kOk l G E Z M d o pc' lv (.int (krem x y) :: st) S) : kOk l G E Z M d (kgz y o) pc lv (.int y :: .int x :: st) S := ok_irem hd k
theorem ok_ldivG {x y : Int64} (hd : kD M pc .ldiv 1 pc') (k : kOk l G E Z M d o pc' lv (.long (x / y) :: st) S) : kOk l G E Z M d (kgzL y o) pc lv (.long y :: .long x :: st) S := ok_ldiv hd k
theorem ok_lremG {x y : Int64} (hd : kD M pc .lrem 1 pc') (k : kOk l G E Z M d o pc' lv (.long (kremL x y) :: st) S) : kOk l G E Z M d (kgzL y o) pc lv (.long y :: .long x :: st) S := ok_lrem hd k
theorem ok_idivK {x y : Int32} (hd : kD M pc .idiv 1 pc') (hy : ¬ y = 0) (k : kOk l G E Z M d o pc' lv (.int (x / y) :: st) S) : kOk l G E Z M d o pc lv (.int y :: .int x :: st) S := by
  have h := ok_idiv (x := x) hd k
  rw [kgz, if_neg hy] at h
  exact h
theorem ok_iremK {x y : Int32} (hd : kD M pc .irem 1 pc') (hy : ¬ y = 0) (k : kOk l G E Z M d o pc' lv (.int (krem x y) :: st) S) : kOk l G E Z M d o pc lv (.int y :: .int x :: st) S := by
  have h := ok_irem (x := x) hd k
  rw [kgz, if_neg hy] at h
  exact h
theorem ok_acopyK {idx k0 k1 n0 n1 a b n' : Nat} {sp dp n : Int32} (hd : kD M pc (.invokestatic idx) 3 pc') (hw1 : Cond.methodLink M.1.cls idx arraycopyName ∈ kT) (hw2 : Cond.native arraycopyName ∈ kT) (hw3 : Cond.static arraycopyName ∈ kT) (hw4 : Cond.initialized "java/lang/System" ∈ kT) (hs0 : kSH[k0]? = some (1, 0, n0)) (hs1 : kSH[k1]? = some (1, 0, n1)) (hc : ¬ (sp < 0 ∨ dp < 0 ∨ n < 0 ∨ n0 < sp.toNatClampNeg + n.toNatClampNeg ∨ n1 < dp.toNatClampNeg + n.toNatClampNeg)) (ha : sp.toNatClampNeg = a) (hb : dp.toNatClampNeg = b) (hn : n.toNatClampNeg = n') (hd1 : 1 ≤ d) (hrest : (st.map fun v => v.category).sum ≤ 8) (k : kOk l G E Z M d o pc' lv st (kcp S k0 k1 a b n')) : kOk l G E Z M d o pc lv (.int n :: .int dp :: .ref k1 :: .int sp :: .ref k0 :: st) S := by
  subst ha
  subst hb
  subst hn
  have h := ok_acopy hd hw1 hw2 hw3 hw4 hs0 hs1 hd1 hrest k
  rw [kgc, if_neg hc] at h
  exact h
def kcase3 {α : Type} (q : Option Nat) (a0 a1 a2 d : α) : α := match q with
  | some 0 => a0
  | some 1 => a1
  | some 2 => a2
  | _ => d
theorem ok_table3 {dflt lo hi : Int} {offs : Array Int} {n : Nat} {x : Int32} {o0 o1 o2 o : Option ρ} (td t0 t1 t2 : Nat) (hd : kD M pc (.tableswitch dflt lo hi offs) n pc') (h0 : (pc : Int) + dflt = (td : Int)) (hN : hi - lo = 2) (g0 : offs[0]?.map (fun z => (pc : Int) + z) = some (t0 : Int)) (g1 : offs[1]?.map (fun z => (pc : Int) + z) = some (t1 : Int)) (g2 : offs[2]?.map (fun z => (pc : Int) + z) = some (t2 : Int)) (k : kOk l G E Z M d o td lv st S) (k0 : kOk l G E Z M d o0 t0 lv st S) (k1 : kOk l G E Z M d o1 t1 lv st S) (k2 : kOk l G E Z M d o2 t2 lv st S) : kOk l G E Z M d (kcase3 (ksw lo hi x) o0 o1 o2 o) pc lv (.int x :: st) S := by
  refine ok_table (F := fun q => kcase3 q o0 o1 o2 o) (fun j => match j with | 0 => t0 | 1 => t1 | _ => t2) td hd h0 (fun j hj => ?_) k (fun j hj => ?_)
  · have hj2 : j < 3 := by omega
    have key : ∀ (t : Nat) (i : Nat), offs[i]?.map (fun z => (pc : Int) + z) = some (t : Int) → ∃ off, offs[i]? = some off ∧ (pc : Int) + off = (t : Int) := by
      intro t i h
      cases ho : offs[i]? with
      | none => rw [ho] at h; cases h
      | some z => rw [ho] at h; exact ⟨z, rfl, Option.some.inj h⟩
    match j, hj2 with
    | 0, _ => exact key _ _ g0
    | 1, _ => exact key _ _ g1
    | 2, _ => exact key _ _ g2
  · have hj2 : j < 3 := by omega
    match j, hj2 with
    | 0, _ => exact k0
    | 1, _ => exact k1
    | 2, _ => exact k2
def kcase4 {α : Type} (q : Option Nat) (a0 a1 a2 a3 d : α) : α := match q with
  | some 0 => a0
  | some 1 => a1
  | some 2 => a2
  | some 3 => a3
  | _ => d
theorem ok_table4 {dflt lo hi : Int} {offs : Array Int} {n : Nat} {x : Int32} {o0 o1 o2 o3 o : Option ρ} (td t0 t1 t2 t3 : Nat) (hd : kD M pc (.tableswitch dflt lo hi offs) n pc') (h0 : (pc : Int) + dflt = (td : Int)) (hN : hi - lo = 3) (g0 : offs[0]?.map (fun z => (pc : Int) + z) = some (t0 : Int)) (g1 : offs[1]?.map (fun z => (pc : Int) + z) = some (t1 : Int)) (g2 : offs[2]?.map (fun z => (pc : Int) + z) = some (t2 : Int)) (g3 : offs[3]?.map (fun z => (pc : Int) + z) = some (t3 : Int)) (k : kOk l G E Z M d o td lv st S) (k0 : kOk l G E Z M d o0 t0 lv st S) (k1 : kOk l G E Z M d o1 t1 lv st S) (k2 : kOk l G E Z M d o2 t2 lv st S) (k3 : kOk l G E Z M d o3 t3 lv st S) : kOk l G E Z M d (kcase4 (ksw lo hi x) o0 o1 o2 o3 o) pc lv (.int x :: st) S := by
  refine ok_table (F := fun q => kcase4 q o0 o1 o2 o3 o) (fun j => match j with | 0 => t0 | 1 => t1 | 2 => t2 | _ => t3) td hd h0 (fun j hj => ?_) k (fun j hj => ?_)
  · have hj2 : j < 4 := by omega
    have key : ∀ (t : Nat) (i : Nat), offs[i]?.map (fun z => (pc : Int) + z) = some (t : Int) → ∃ off, offs[i]? = some off ∧ (pc : Int) + off = (t : Int) := by
      intro t i h
      cases ho : offs[i]? with
      | none => rw [ho] at h; cases h
      | some z => rw [ho] at h; exact ⟨z, rfl, Option.some.inj h⟩
    match j, hj2 with
    | 0, _ => exact key _ _ g0
    | 1, _ => exact key _ _ g1
    | 2, _ => exact key _ _ g2
    | 3, _ => exact key _ _ g3
  · have hj2 : j < 4 := by omega
    match j, hj2 with
    | 0, _ => exact k0
    | 1, _ => exact k1
    | 2, _ => exact k2
    | 3, _ => exact k3
def kcase5 {α : Type} (q : Option Nat) (a0 a1 a2 a3 a4 d : α) : α := match q with
  | some 0 => a0
  | some 1 => a1
  | some 2 => a2
  | some 3 => a3
  | some 4 => a4
  | _ => d
theorem ok_table5 {dflt lo hi : Int} {offs : Array Int} {n : Nat} {x : Int32} {o0 o1 o2 o3 o4 o : Option ρ} (td t0 t1 t2 t3 t4 : Nat) (hd : kD M pc (.tableswitch dflt lo hi offs) n pc') (h0 : (pc : Int) + dflt = (td : Int)) (hN : hi - lo = 4) (g0 : offs[0]?.map (fun z => (pc : Int) + z) = some (t0 : Int)) (g1 : offs[1]?.map (fun z => (pc : Int) + z) = some (t1 : Int)) (g2 : offs[2]?.map (fun z => (pc : Int) + z) = some (t2 : Int)) (g3 : offs[3]?.map (fun z => (pc : Int) + z) = some (t3 : Int)) (g4 : offs[4]?.map (fun z => (pc : Int) + z) = some (t4 : Int)) (k : kOk l G E Z M d o td lv st S) (k0 : kOk l G E Z M d o0 t0 lv st S) (k1 : kOk l G E Z M d o1 t1 lv st S) (k2 : kOk l G E Z M d o2 t2 lv st S) (k3 : kOk l G E Z M d o3 t3 lv st S) (k4 : kOk l G E Z M d o4 t4 lv st S) : kOk l G E Z M d (kcase5 (ksw lo hi x) o0 o1 o2 o3 o4 o) pc lv (.int x :: st) S := by
  refine ok_table (F := fun q => kcase5 q o0 o1 o2 o3 o4 o) (fun j => match j with | 0 => t0 | 1 => t1 | 2 => t2 | 3 => t3 | _ => t4) td hd h0 (fun j hj => ?_) k (fun j hj => ?_)
  · have hj2 : j < 5 := by omega
    have key : ∀ (t : Nat) (i : Nat), offs[i]?.map (fun z => (pc : Int) + z) = some (t : Int) → ∃ off, offs[i]? = some off ∧ (pc : Int) + off = (t : Int) := by
      intro t i h
      cases ho : offs[i]? with
      | none => rw [ho] at h; cases h
      | some z => rw [ho] at h; exact ⟨z, rfl, Option.some.inj h⟩
    match j, hj2 with
    | 0, _ => exact key _ _ g0
    | 1, _ => exact key _ _ g1
    | 2, _ => exact key _ _ g2
    | 3, _ => exact key _ _ g3
    | 4, _ => exact key _ _ g4
  · have hj2 : j < 5 := by omega
    match j, hj2 with
    | 0, _ => exact k0
    | 1, _ => exact k1
    | 2, _ => exact k2
    | 3, _ => exact k3
    | 4, _ => exact k4
def kcase7 {α : Type} (q : Option Nat) (a0 a1 a2 a3 a4 a5 a6 d : α) : α := match q with
  | some 0 => a0
  | some 1 => a1
  | some 2 => a2
  | some 3 => a3
  | some 4 => a4
  | some 5 => a5
  | some 6 => a6
  | _ => d
theorem ok_table7 {dflt lo hi : Int} {offs : Array Int} {n : Nat} {x : Int32} {o0 o1 o2 o3 o4 o5 o6 o : Option ρ} (td t0 t1 t2 t3 t4 t5 t6 : Nat) (hd : kD M pc (.tableswitch dflt lo hi offs) n pc') (h0 : (pc : Int) + dflt = (td : Int)) (hN : hi - lo = 6) (g0 : offs[0]?.map (fun z => (pc : Int) + z) = some (t0 : Int)) (g1 : offs[1]?.map (fun z => (pc : Int) + z) = some (t1 : Int)) (g2 : offs[2]?.map (fun z => (pc : Int) + z) = some (t2 : Int)) (g3 : offs[3]?.map (fun z => (pc : Int) + z) = some (t3 : Int)) (g4 : offs[4]?.map (fun z => (pc : Int) + z) = some (t4 : Int)) (g5 : offs[5]?.map (fun z => (pc : Int) + z) = some (t5 : Int)) (g6 : offs[6]?.map (fun z => (pc : Int) + z) = some (t6 : Int)) (k : kOk l G E Z M d o td lv st S) (k0 : kOk l G E Z M d o0 t0 lv st S) (k1 : kOk l G E Z M d o1 t1 lv st S) (k2 : kOk l G E Z M d o2 t2 lv st S) (k3 : kOk l G E Z M d o3 t3 lv st S) (k4 : kOk l G E Z M d o4 t4 lv st S) (k5 : kOk l G E Z M d o5 t5 lv st S) (k6 : kOk l G E Z M d o6 t6 lv st S) : kOk l G E Z M d (kcase7 (ksw lo hi x) o0 o1 o2 o3 o4 o5 o6 o) pc lv (.int x :: st) S := by
  refine ok_table (F := fun q => kcase7 q o0 o1 o2 o3 o4 o5 o6 o) (fun j => match j with | 0 => t0 | 1 => t1 | 2 => t2 | 3 => t3 | 4 => t4 | 5 => t5 | _ => t6) td hd h0 (fun j hj => ?_) k (fun j hj => ?_)
  · have hj2 : j < 7 := by omega
    have key : ∀ (t : Nat) (i : Nat), offs[i]?.map (fun z => (pc : Int) + z) = some (t : Int) → ∃ off, offs[i]? = some off ∧ (pc : Int) + off = (t : Int) := by
      intro t i h
      cases ho : offs[i]? with
      | none => rw [ho] at h; cases h
      | some z => rw [ho] at h; exact ⟨z, rfl, Option.some.inj h⟩
    match j, hj2 with
    | 0, _ => exact key _ _ g0
    | 1, _ => exact key _ _ g1
    | 2, _ => exact key _ _ g2
    | 3, _ => exact key _ _ g3
    | 4, _ => exact key _ _ g4
    | 5, _ => exact key _ _ g5
    | 6, _ => exact key _ _ g6
  · have hj2 : j < 7 := by omega
    match j, hj2 with
    | 0, _ => exact k0
    | 1, _ => exact k1
    | 2, _ => exact k2
    | 3, _ => exact k3
    | 4, _ => exact k4
    | 5, _ => exact k5
    | 6, _ => exact k6
theorem ok_mmax {idx : Nat} {x y : Int32} (hd : kD M pc (.invokestatic idx) 3 pc') (hc : kCs M.1.cls idx mJ_max_J9 2) (hd1 : 1 ≤ d) (hrest : (st.map fun v => v.category).sum ≤ 8) (k : kOk l G E Z M d o pc' lv (.int (kmax x y) :: st) S) : kOk l G E Z M d o pc lv (.int y :: .int x :: st) S := by
  intro p e s m args below meth c A H locs ls q C hP hS hl ho
  obtain ⟨hdc, rfl⟩ := hd
  obtain ⟨w1, w2, w3, w4, -⟩ := hc
  have hr2 : ((st.map (kcv E.1)).map fun v => v.category).sum ≤ 8 := by
    rw [List.map_map]
    have : (List.map ((fun v => Value.category v) ∘ kcv E.1) st) = st.map (fun v => v.category) := List.map_congr_left (fun v _ => kcat E.1 v)
    rw [this]
    exact hrest
  exact va_mmax C.1.1 C.1.2.1 (by rw [C.1.2.2.1]; exact hl.1.symm) C.1.2.2.2.2.2.1 (C.1.2.2.2.2.2.2 _ w1) (C.1.2.2.2.2.2.2 _ w2) (C.1.2.2.2.2.2.2 _ w3) (C.1.2.2.2.2.2.2 _ w4) hd1 (by show _ ≤ 60 * d; omega) (Nat.zero_le _) (Nat.zero_le _) hdc (k p e s m args below meth c A H locs ls q C hP hS hl ho)
theorem ok_mmin {idx : Nat} {x y : Int32} (hd : kD M pc (.invokestatic idx) 3 pc') (hc : kCs M.1.cls idx mJ_min_J9 2) (hd1 : 1 ≤ d) (hrest : (st.map fun v => v.category).sum ≤ 8) (k : kOk l G E Z M d o pc' lv (.int (kmin x y) :: st) S) : kOk l G E Z M d o pc lv (.int y :: .int x :: st) S := by
  intro p e s m args below meth c A H locs ls q C hP hS hl ho
  obtain ⟨hdc, rfl⟩ := hd
  obtain ⟨w1, w2, w3, w4, -⟩ := hc
  have hr2 : ((st.map (kcv E.1)).map fun v => v.category).sum ≤ 8 := by
    rw [List.map_map]
    have : (List.map ((fun v => Value.category v) ∘ kcv E.1) st) = st.map (fun v => v.category) := List.map_congr_left (fun v _ => kcat E.1 v)
    rw [this]
    exact hrest
  exact va_mmin C.1.1 C.1.2.1 (by rw [C.1.2.2.1]; exact hl.1.symm) C.1.2.2.2.2.2.1 (C.1.2.2.2.2.2.2 _ w1) (C.1.2.2.2.2.2.2 _ w2) (C.1.2.2.2.2.2.2 _ w3) (C.1.2.2.2.2.2.2 _ w4) hd1 (by show _ ≤ 60 * d; omega) (Nat.zero_le _) (Nat.zero_le _) hdc (k p e s m args below meth c A H locs ls q C hP hS hl ho)
theorem ok_mabs {idx : Nat} {x y : Int32} (hd : kD M pc (.invokestatic idx) 3 pc') (hc : kCs M.1.cls idx mJ_abs_J9 1) (hd1 : 1 ≤ d) (hrest : (st.map fun v => v.category).sum ≤ 8) (k : kOk l G E Z M d o pc' lv (.int (kabs x) :: st) S) : kOk l G E Z M d o pc lv (.int x :: st) S := by
  intro p e s m args below meth c A H locs ls q C hP hS hl ho
  obtain ⟨hdc, rfl⟩ := hd
  obtain ⟨w1, w2, w3, w4, -⟩ := hc
  have hr2 : ((st.map (kcv E.1)).map fun v => v.category).sum ≤ 8 := by
    rw [List.map_map]
    have : (List.map ((fun v => Value.category v) ∘ kcv E.1) st) = st.map (fun v => v.category) := List.map_congr_left (fun v _ => kcat E.1 v)
    rw [this]
    exact hrest
  exact va_mabs C.1.1 C.1.2.1 (by rw [C.1.2.2.1]; exact hl.1.symm) C.1.2.2.2.2.2.1 (C.1.2.2.2.2.2.2 _ w1) (C.1.2.2.2.2.2.2 _ w2) (C.1.2.2.2.2.2.2 _ w3) (C.1.2.2.2.2.2.2 _ w4) hd1 (by show _ ≤ 60 * d; omega) (Nat.zero_le _) (Nat.zero_le _) hdc (k p e s m args below meth c A H locs ls q C hP hS hl ho)
end GR
end
section
def f_m0_reckon_L29   (k76 : kSt → Option kSt) (c3 : Int32) : Nat → Int32 → kSt → Option kSt
  | 0, _, _ => none
  | n + 1, v4, S =>
    if (S.1 10 0) ≤ v4 then
      k76  S
    else
      kgi c3 5 (
        knx ((v4 * 5) + c3) fun x5 =>
        kgi x5 25 (
          knx ((c3 * 5) + v4) fun x6 =>
          kgi x6 25 (
            kgi c3 5 (
              knx (kuI S 49 c3.toNatClampNeg ((S.1 49 c3.toNatClampNeg) + ((S.1 42 x5.toNatClampNeg) - (S.1 42 x6.toNatClampNeg)))) fun S7 =>
              knx (v4 + 1) fun x8 =>
              f_m0_reckon_L29 k76 c3 n x8 S7
            )
          )
        )
      )
theorem ok_m0_reckon_L29 {l : Launch} {G : kG} {E : kE}    (c3 : Int32) (k76 : kSt → Option kSt) (hk76 : ∀  (S : kSt), kOk l G E (kZ G E kjV) m0_reckon 1 (k76  S) 76 [(0, .ref 10), (1, .ref 4), (3, .int c3)] [] S) : ∀ (n : Nat) (v4 : Int32) (S : kSt), kOk l G E (kZ G E kjV) m0_reckon 1 (f_m0_reckon_L29 k76 c3 n v4 S) 29 [(0, .ref 10), (1, .ref 4), (3, .int c3), (4, .int v4)] [] S := by
  intro n
  induction n with
  | zero => intro v4 S; exact ok_none
  | succ n ih =>
    intro v4 S
    rw [f_m0_reckon_L29]
    refine ok_iload 3 (kd_m0_reckon.at 18 rfl) rfl ?_
    refine ok_aload_n 0 (kd_m0_reckon.at 19 rfl) rfl rfl ?_
    refine ok_getI (kd_m0_reckon.at 20 rfl) kf0_33 sh_10 rfl ?_
    refine ok_icmp_ge (tgt := 76) (kd_m0_reckon.at 21 rfl) (by decide) (fun h4 => ?_) (fun h4 => ?_)
    · refine ok_sub (lv' := [(0, .ref 10), (1, .ref 4), (3, .int c3)]) [0, 1, 2] rfl ?_
      exact hk76  S
    · refine ok_aload_n 0 (kd_m0_reckon.at 22 rfl) rfl rfl ?_
      refine ok_getR (kd_m0_reckon.at 23 rfl) kf0_9 sh_10 rfl (kr_10_1 _) ?_
      refine ok_iload_n 2 (kd_m0_reckon.at 24 rfl) rfl rfl ?_
      refine ok_dup2 (kd_m0_reckon.at 25 rfl) rfl rfl ?_
      refine ok_iald (kd_m0_reckon.at 26 rfl) sh_49 ?_
      refine ok_aload_n 1 (kd_m0_reckon.at 27 rfl) rfl rfl ?_
      refine ok_getR (kd_m0_reckon.at 28 rfl) kf0_37 sh_4 rfl (kr_4_3 _) ?_
      refine ok_iload 3 (kd_m0_reckon.at 29 rfl) rfl ?_
      refine ok_iconst (v := 5) (kd_m0_reckon.at 30 rfl) (by decide) ?_
      refine ok_imul (kd_m0_reckon.at 31 rfl) ?_
      refine ok_iload_n 2 (kd_m0_reckon.at 32 rfl) rfl rfl ?_
      refine ok_iadd (kd_m0_reckon.at 33 rfl) ?_
      refine ok_topi (fun x5 hx5 => ?_)
      refine ok_iald (kd_m0_reckon.at 34 rfl) sh_42 ?_
      refine ok_aload_n 1 (kd_m0_reckon.at 35 rfl) rfl rfl ?_
      refine ok_getR (kd_m0_reckon.at 36 rfl) kf0_37 sh_4 rfl (kr_4_3 _) ?_
      refine ok_iload_n 2 (kd_m0_reckon.at 37 rfl) rfl rfl ?_
      refine ok_iconst (v := 5) (kd_m0_reckon.at 38 rfl) (by decide) ?_
      refine ok_imul (kd_m0_reckon.at 39 rfl) ?_
      refine ok_iload 3 (kd_m0_reckon.at 40 rfl) rfl ?_
      refine ok_iadd (kd_m0_reckon.at 41 rfl) ?_
      refine ok_topi (fun x6 hx6 => ?_)
      refine ok_iald (kd_m0_reckon.at 42 rfl) sh_42 ?_
      refine ok_isub (kd_m0_reckon.at 43 rfl) ?_
      refine ok_iadd (kd_m0_reckon.at 44 rfl) ?_
      refine ok_iast (kd_m0_reckon.at 45 rfl) sh_49 ?_
      refine ok_nS (fun S7 hS7 => ?_)
      refine ok_nx (fun x8 hx8 => ?_)
      refine ok_iinc (v := x8) (lv' := [(4, .int x8), (0, .ref 10), (1, .ref 4), (3, .int c3)]) 3 (kd_m0_reckon.at 46 rfl) rfl hx8.symm (by decide) rfl ?_
      refine ok_goto (tgt := 29) (kd_m0_reckon.at 47 rfl) (by decide) ?_
      refine ok_sub (lv' := [(0, .ref 10), (1, .ref 4), (3, .int c3), (4, .int x8)]) [1, 2, 3, 0] rfl ?_
      exact ih x8 S7
def f_m0_reckon_L11   (k82 : kSt → Option kSt)  : Nat → Int32 → kSt → Option kSt
  | 0, _, _ => none
  | n + 1, v3, S =>
    if (S.1 10 0) ≤ v3 then
      k82  S
    else
      kgi v3 5 (
        knx (kuI S 49 v3.toNatClampNeg 0) fun S3 =>
        f_m0_reckon_L29 
          (fun  (S9 : kSt) =>
            knx (v3 + 1) fun x10 =>
            f_m0_reckon_L11 k82 n x10 S9
          )
          v3 kFU 0 S3
      )
theorem ok_m0_reckon_L11 {l : Launch} {G : kG} {E : kE}     (k82 : kSt → Option kSt) (hk82 : ∀  (S : kSt), kOk l G E (kZ G E kjV) m0_reckon 1 (k82  S) 82 [] [] S) : ∀ (n : Nat) (v3 : Int32) (S : kSt), kOk l G E (kZ G E kjV) m0_reckon 1 (f_m0_reckon_L11 k82 n v3 S) 11 [(0, .ref 10), (1, .ref 4), (3, .int v3)] [] S := by
  intro n
  induction n with
  | zero => intro v3 S; exact ok_none
  | succ n ih =>
    intro v3 S
    rw [f_m0_reckon_L11]
    refine ok_iload_n 2 (kd_m0_reckon.at 7 rfl) rfl rfl ?_
    refine ok_aload_n 0 (kd_m0_reckon.at 8 rfl) rfl rfl ?_
    refine ok_getI (kd_m0_reckon.at 9 rfl) kf0_33 sh_10 rfl ?_
    refine ok_icmp_ge (tgt := 82) (kd_m0_reckon.at 10 rfl) (by decide) (fun h2 => ?_) (fun h2 => ?_)
    · refine ok_sub (lv' := []) [] rfl ?_
      exact hk82  S
    · refine ok_aload_n 0 (kd_m0_reckon.at 11 rfl) rfl rfl ?_
      refine ok_getR (kd_m0_reckon.at 12 rfl) kf0_9 sh_10 rfl (kr_10_1 _) ?_
      refine ok_iload_n 2 (kd_m0_reckon.at 13 rfl) rfl rfl ?_
      refine ok_iconst (v := 0) (kd_m0_reckon.at 14 rfl) (by decide) ?_
      refine ok_iast (kd_m0_reckon.at 15 rfl) sh_49 ?_
      refine ok_nS (fun S3 hS3 => ?_)
      refine ok_iconst (v := 0) (kd_m0_reckon.at 16 rfl) (by decide) ?_
      refine ok_istore (lv' := [(4, .int 0), (0, .ref 10), (1, .ref 4), (3, .int v3)]) (kd_m0_reckon.at 17 rfl) (by decide) rfl ?_
      refine ok_sub (lv' := [(0, .ref 10), (1, .ref 4), (3, .int v3), (4, .int 0)]) [1, 2, 3, 0] rfl ?_
      refine ok_m0_reckon_L29 v3 _ (fun S9 => ?_) kFU 0 S3
      refine ok_nx (fun x10 hx10 => ?_)
      refine ok_iinc (v := x10) (lv' := [(3, .int x10), (0, .ref 10), (1, .ref 4)]) 2 (kd_m0_reckon.at 48 rfl) rfl hx10.symm (by decide) rfl ?_
      refine ok_goto (tgt := 11) (kd_m0_reckon.at 49 rfl) (by decide) ?_
      refine ok_sub (lv' := [(0, .ref 10), (1, .ref 4), (3, .int x10)]) [1, 2, 0] rfl ?_
      exact ih x10 S9
def f_m0_reckon (a2 : Int32) (S : kSt) : Option kSt :=
  knx (kuI S 10 0 (kmin a2 5)) fun S1 =>
  f_m0_reckon_L11 
    (fun  (S11 : kSt) =>
      some S11
    )
    kFU 0 S1
theorem ok_m0_reckon {l : Launch} {G : kG} {E : kE} (a2 : Int32)  (S : kSt) : kFn l G E E kjV m0_reckon 1 [.ref 10, .ref 4, .int a2] S (f_m0_reckon a2 S) := by
  unfold f_m0_reckon
  refine kFn_of (by decide +kernel) (Nat.le_of_ble_eq_true rfl) ?_
  show kOk _ _ _ _ _ _ _ _ [(0, .ref 10), (1, .ref 4), (2, .int a2)] _ _
  refine ok_aload_n 0 (kd_m0_reckon.at 0 rfl) rfl rfl ?_
  refine ok_iload_n 2 (kd_m0_reckon.at 1 rfl) rfl rfl ?_
  refine ok_iconst (v := 5) (kd_m0_reckon.at 2 rfl) (by decide) ?_
  refine ok_mmin (kd_m0_reckon.at 3 rfl) kc0_27 (by decide) (Nat.le_of_ble_eq_true rfl) ?_
  refine ok_putI (kd_m0_reckon.at 4 rfl) kf0_33 sh_10 rfl rfl ?_
  refine ok_nS (fun S1 hS1 => ?_)
  refine ok_iconst (v := 0) (kd_m0_reckon.at 5 rfl) (by decide) ?_
  refine ok_istore_n (lv' := [(3, .int 0), (0, .ref 10), (1, .ref 4), (2, .int a2)]) (kd_m0_reckon.at 6 rfl) rfl (by decide) rfl ?_
  refine ok_sub (lv' := [(0, .ref 10), (1, .ref 4), (3, .int 0)]) [1, 2, 0] rfl ?_
  refine ok_m0_reckon_L11 _ (fun S11 => ?_) kFU 0 S1
  exact ok_return (kd_m0_reckon.at 50 rfl) rfl
def f_m0_owedInAll_L4   (k31 : Int32 → kSt → Option (Int32 × kSt))  : Nat → Int32 → Int32 → kSt → Option (Int32 × kSt)
  | 0, _, _, _ => none
  | n + 1, v1, v2, S =>
    if (S.1 10 0) ≤ v2 then
      k31 v1 S
    else
      kgi v2 5 (
        knx (v1 + (kmax 0 (S.1 49 v2.toNatClampNeg))) fun x2 =>
        knx (v2 + 1) fun x3 =>
        f_m0_owedInAll_L4 k31 n x2 x3 S
      )
theorem ok_m0_owedInAll_L4 {l : Launch} {G : kG} {E : kE}     (k31 : Int32 → kSt → Option (Int32 × kSt)) (hk31 : ∀ (v1 : Int32) (S : kSt), kOk l G E (kZ G E kjI) m0_owedInAll 1 (k31 v1 S) 31 [(1, .int v1)] [] S) : ∀ (n : Nat) (v1 : Int32) (v2 : Int32) (S : kSt), kOk l G E (kZ G E kjI) m0_owedInAll 1 (f_m0_owedInAll_L4 k31 n v1 v2 S) 4 [(0, .ref 10), (1, .int v1), (2, .int v2)] [] S := by
  intro n
  induction n with
  | zero => intro v1 v2 S; exact ok_none
  | succ n ih =>
    intro v1 v2 S
    rw [f_m0_owedInAll_L4]
    refine ok_iload_n 2 (kd_m0_owedInAll.at 4 rfl) rfl rfl ?_
    refine ok_aload_n 0 (kd_m0_owedInAll.at 5 rfl) rfl rfl ?_
    refine ok_getI (kd_m0_owedInAll.at 6 rfl) kf0_33 sh_10 rfl ?_
    refine ok_icmp_ge (tgt := 31) (kd_m0_owedInAll.at 7 rfl) (by decide) (fun h1 => ?_) (fun h1 => ?_)
    · refine ok_sub (lv' := [(1, .int v1)]) [1] rfl ?_
      exact hk31 v1 S
    · refine ok_iload_n 1 (kd_m0_owedInAll.at 8 rfl) rfl rfl ?_
      refine ok_iconst (v := 0) (kd_m0_owedInAll.at 9 rfl) (by decide) ?_
      refine ok_aload_n 0 (kd_m0_owedInAll.at 10 rfl) rfl rfl ?_
      refine ok_getR (kd_m0_owedInAll.at 11 rfl) kf0_9 sh_10 rfl (kr_10_1 _) ?_
      refine ok_iload_n 2 (kd_m0_owedInAll.at 12 rfl) rfl rfl ?_
      refine ok_iald (kd_m0_owedInAll.at 13 rfl) sh_49 ?_
      refine ok_mmax (kd_m0_owedInAll.at 14 rfl) kc0_42 (by decide) (Nat.le_of_ble_eq_true rfl) ?_
      refine ok_iadd (kd_m0_owedInAll.at 15 rfl) ?_
      refine ok_topi (fun x2 hx2 => ?_)
      refine ok_istore_n (lv' := [(1, .int x2), (0, .ref 10), (2, .int v2)]) (kd_m0_owedInAll.at 16 rfl) rfl (by decide) rfl ?_
      refine ok_nx (fun x3 hx3 => ?_)
      refine ok_iinc (v := x3) (lv' := [(2, .int x3), (1, .int x2), (0, .ref 10)]) 2 (kd_m0_owedInAll.at 17 rfl) rfl hx3.symm (by decide) rfl ?_
      refine ok_goto (tgt := 4) (kd_m0_owedInAll.at 18 rfl) (by decide) ?_
      refine ok_sub (lv' := [(0, .ref 10), (1, .int x2), (2, .int x3)]) [2, 1, 0] rfl ?_
      exact ih x2 x3 S
def f_m0_owedInAll  (S : kSt) : Option (Int32 × kSt) :=
  f_m0_owedInAll_L4 
    (fun (x4 : Int32) (S5 : kSt) =>
      some (x4, S5)
    )
    kFU 0 0 S
theorem ok_m0_owedInAll {l : Launch} {G : kG} {E : kE}   (S : kSt) : kFn l G E E kjI m0_owedInAll 1 [.ref 10] S (f_m0_owedInAll  S) := by
  unfold f_m0_owedInAll
  refine kFn_of (by decide +kernel) (Nat.le_of_ble_eq_true rfl) ?_
  show kOk _ _ _ _ _ _ _ _ [(0, .ref 10)] _ _
  refine ok_iconst (v := 0) (kd_m0_owedInAll.at 0 rfl) (by decide) ?_
  refine ok_istore_n (lv' := [(1, .int 0), (0, .ref 10)]) (kd_m0_owedInAll.at 1 rfl) rfl (by decide) rfl ?_
  refine ok_iconst (v := 0) (kd_m0_owedInAll.at 2 rfl) (by decide) ?_
  refine ok_istore_n (lv' := [(2, .int 0), (1, .int 0), (0, .ref 10)]) (kd_m0_owedInAll.at 3 rfl) rfl (by decide) rfl ?_
  refine ok_sub (lv' := [(0, .ref 10), (1, .int 0), (2, .int 0)]) [2, 1, 0] rfl ?_
  refine ok_m0_owedInAll_L4 _ (fun x4 S5 => ?_) kFU 0 0 S
  refine ok_iload_n 0 (kd_m0_owedInAll.at 19 rfl) rfl rfl ?_
  exact ok_ireturn (kd_m0_owedInAll.at 20 rfl) rfl
def f_m0_fewestPayments_L35   (k100 : Int32 → kSt → Option (Int32 × kSt)) (c1 : Int32) (c2 : Int32) : Nat → Int32 → Int32 → kSt → Option (Int32 × kSt)
  | 0, _, _, _ => none
  | n + 1, v3, v4, S =>
    if (S.1 10 0) ≤ v4 then
      k100 v3 S
    else
      knx (fun (x6 : Int32) (S7 : kSt) =>
        knx (v4 + 1) fun x8 =>
        f_m0_fewestPayments_L35 k100 c1 c2 n x6 x8 S7
        ) fun j94 =>
      if ((c2 >>> (v4 &&& 31)) &&& 1) = 0 then
        j94 v3 S
      else
        knx (c2 ^^^ (1 <<< (v4 &&& 31))) fun x10 =>
        kgi x10 32 (
          kgi v4 5 (
            kgi c2 32 (
              knx (kuI S 50 c2.toNatClampNeg ((S.1 50 x10.toNatClampNeg) + (S.1 49 v4.toNatClampNeg))) fun S11 =>
              kgi x10 32 (
                knx (kmax v3 (S11.1 51 x10.toNatClampNeg)) fun x12 =>
                j94 x12 S11
              )
            )
          )
        )
theorem ok_m0_fewestPayments_L35 {l : Launch} {G : kG} {E : kE}    (c1 : Int32) (c2 : Int32) (k100 : Int32 → kSt → Option (Int32 × kSt)) (hk100 : ∀ (v3 : Int32) (S : kSt), kOk l G E (kZ G E kjI) m0_fewestPayments 1 (k100 v3 S) 100 [(0, .ref 10), (1, .int c1), (2, .int c2), (3, .int v3)] [] S) : ∀ (n : Nat) (v3 : Int32) (v4 : Int32) (S : kSt), kOk l G E (kZ G E kjI) m0_fewestPayments 1 (f_m0_fewestPayments_L35 k100 c1 c2 n v3 v4 S) 35 [(0, .ref 10), (1, .int c1), (2, .int c2), (3, .int v3), (4, .int v4)] [] S := by
  intro n
  induction n with
  | zero => intro v3 v4 S; exact ok_none
  | succ n ih =>
    intro v3 v4 S
    rw [f_m0_fewestPayments_L35]
    refine ok_iload 4 (kd_m0_fewestPayments.at 26 rfl) rfl ?_
    refine ok_aload_n 0 (kd_m0_fewestPayments.at 27 rfl) rfl rfl ?_
    refine ok_getI (kd_m0_fewestPayments.at 28 rfl) kf0_33 sh_10 rfl ?_
    refine ok_icmp_ge (tgt := 100) (kd_m0_fewestPayments.at 29 rfl) (by decide) (fun h5 => ?_) (fun h5 => ?_)
    · refine ok_sub (lv' := [(0, .ref 10), (1, .int c1), (2, .int c2), (3, .int v3)]) [0, 1, 2, 3] rfl ?_
      exact hk100 v3 S
    · refine ok_iload_n 2 (kd_m0_fewestPayments.at 30 rfl) rfl rfl ?_
      refine ok_iload 4 (kd_m0_fewestPayments.at 31 rfl) rfl ?_
      refine ok_ishr (kd_m0_fewestPayments.at 32 rfl) ?_
      refine ok_iconst (v := 1) (kd_m0_fewestPayments.at 33 rfl) (by decide) ?_
      refine ok_iand (kd_m0_fewestPayments.at 34 rfl) ?_
      refine ok_nx (fun j94 hj94 => ?_)
      have K94 : ∀ (x6 : Int32) (S7 : kSt), kOk l G E (kZ G E kjI) m0_fewestPayments 1 (j94 x6 S7) 94 [(0, .ref 10), (1, .int c1), (2, .int c2), (3, .int x6), (4, .int v4)] [] S7 := by
        subst hj94
        intro x6 S7
        refine ok_nx (fun x8 hx8 => ?_)
        refine ok_iinc (v := x8) (lv' := [(4, .int x8), (0, .ref 10), (1, .int c1), (2, .int c2), (3, .int x6)]) 4 (kd_m0_fewestPayments.at 62 rfl) rfl hx8.symm (by decide) rfl ?_
        refine ok_goto (tgt := 35) (kd_m0_fewestPayments.at 63 rfl) (by decide) ?_
        refine ok_sub (lv' := [(0, .ref 10), (1, .int c1), (2, .int c2), (3, .int x6), (4, .int x8)]) [1, 2, 3, 4, 0] rfl ?_
        exact ih x6 x8 S7
      clear hj94
      refine ok_if_eq (tgt := 94) (kd_m0_fewestPayments.at 35 rfl) (by decide) (fun h9 => ?_) (fun h9 => ?_)
      · exact K94 v3 S
      · refine ok_iload_n 2 (kd_m0_fewestPayments.at 36 rfl) rfl rfl ?_
        refine ok_iconst (v := 1) (kd_m0_fewestPayments.at 37 rfl) (by decide) ?_
        refine ok_iload 4 (kd_m0_fewestPayments.at 38 rfl) rfl ?_
        refine ok_ishl (kd_m0_fewestPayments.at 39 rfl) ?_
        refine ok_ixor (kd_m0_fewestPayments.at 40 rfl) ?_
        refine ok_topi (fun x10 hx10 => ?_)
        refine ok_istore (lv' := [(5, .int x10), (0, .ref 10), (1, .int c1), (2, .int c2), (3, .int v3), (4, .int v4)]) (kd_m0_fewestPayments.at 41 rfl) (by decide) rfl ?_
        refine ok_aload_n 1 (kd_m0_fewestPayments.at 42 rfl) rfl rfl ?_
        refine ok_getR (kd_m0_fewestPayments.at 43 rfl) kf0_15 sh_10 rfl (kr_10_2 _) ?_
        refine ok_iload_n 3 (kd_m0_fewestPayments.at 44 rfl) rfl rfl ?_
        refine ok_aload_n 1 (kd_m0_fewestPayments.at 45 rfl) rfl rfl ?_
        refine ok_getR (kd_m0_fewestPayments.at 46 rfl) kf0_15 sh_10 rfl (kr_10_2 _) ?_
        refine ok_iload 0 (kd_m0_fewestPayments.at 47 rfl) rfl ?_
        refine ok_iald (kd_m0_fewestPayments.at 48 rfl) sh_50 ?_
        refine ok_aload_n 1 (kd_m0_fewestPayments.at 49 rfl) rfl rfl ?_
        refine ok_getR (kd_m0_fewestPayments.at 50 rfl) kf0_9 sh_10 rfl (kr_10_1 _) ?_
        refine ok_iload 5 (kd_m0_fewestPayments.at 51 rfl) rfl ?_
        refine ok_iald (kd_m0_fewestPayments.at 52 rfl) sh_49 ?_
        refine ok_iadd (kd_m0_fewestPayments.at 53 rfl) ?_
        refine ok_iast (kd_m0_fewestPayments.at 54 rfl) sh_50 ?_
        refine ok_nS (fun S11 hS11 => ?_)
        refine ok_iload_n 4 (kd_m0_fewestPayments.at 55 rfl) rfl rfl ?_
        refine ok_aload_n 1 (kd_m0_fewestPayments.at 56 rfl) rfl rfl ?_
        refine ok_getR (kd_m0_fewestPayments.at 57 rfl) kf0_18 sh_10 rfl (kr_10_3 _) ?_
        refine ok_iload 0 (kd_m0_fewestPayments.at 58 rfl) rfl ?_
        refine ok_iald (kd_m0_fewestPayments.at 59 rfl) sh_51 ?_
        refine ok_mmax (kd_m0_fewestPayments.at 60 rfl) kc0_42 (by decide) (Nat.le_of_ble_eq_true rfl) ?_
        refine ok_topi (fun x12 hx12 => ?_)
        refine ok_istore_n (lv' := [(3, .int x12), (5, .int x10), (0, .ref 10), (1, .int c1), (2, .int c2), (4, .int v4)]) (kd_m0_fewestPayments.at 61 rfl) rfl (by decide) rfl ?_
        refine ok_sub (lv' := [(0, .ref 10), (1, .int c1), (2, .int c2), (3, .int x12), (4, .int v4)]) [2, 3, 4, 0, 5] rfl ?_
        exact K94 x12 S11
def f_m0_fewestPayments_L25   (k128 : kSt → Option (Int32 × kSt)) (c1 : Int32) : Nat → Int32 → kSt → Option (Int32 × kSt)
  | 0, _, _ => none
  | n + 1, v2, S =>
    if c1 < v2 then
      k128  S
    else
      f_m0_fewestPayments_L35 
        (fun (x13 : Int32) (S14 : kSt) =>
          kgi v2 32 (
            knx (if (S14.1 50 v2.toNatClampNeg) = 0 then x13 + 1 else x13) fun x16 =>
            kgi v2 32 (
              knx (kuI S14 51 v2.toNatClampNeg x16) fun S17 =>
              knx (v2 + 1) fun x18 =>
              f_m0_fewestPayments_L25 k128 c1 n x18 S17
            )
          )
        )
        c1 v2 kFU 0 0 S
theorem ok_m0_fewestPayments_L25 {l : Launch} {G : kG} {E : kE}    (c1 : Int32) (k128 : kSt → Option (Int32 × kSt)) (hk128 : ∀  (S : kSt), kOk l G E (kZ G E kjI) m0_fewestPayments 1 (k128  S) 128 [(0, .ref 10), (1, .int c1)] [] S) : ∀ (n : Nat) (v2 : Int32) (S : kSt), kOk l G E (kZ G E kjI) m0_fewestPayments 1 (f_m0_fewestPayments_L25 k128 c1 n v2 S) 25 [(0, .ref 10), (1, .int c1), (2, .int v2)] [] S := by
  intro n
  induction n with
  | zero => intro v2 S; exact ok_none
  | succ n ih =>
    intro v2 S
    rw [f_m0_fewestPayments_L25]
    refine ok_iload_n 2 (kd_m0_fewestPayments.at 19 rfl) rfl rfl ?_
    refine ok_iload_n 1 (kd_m0_fewestPayments.at 20 rfl) rfl rfl ?_
    refine ok_icmp_gt (tgt := 128) (kd_m0_fewestPayments.at 21 rfl) (by decide) (fun h4 => ?_) (fun h4 => ?_)
    · refine ok_sub (lv' := [(0, .ref 10), (1, .int c1)]) [0, 1] rfl ?_
      exact hk128  S
    · refine ok_iconst (v := 0) (kd_m0_fewestPayments.at 22 rfl) (by decide) ?_
      refine ok_istore_n (lv' := [(3, .int 0), (0, .ref 10), (1, .int c1), (2, .int v2)]) (kd_m0_fewestPayments.at 23 rfl) rfl (by decide) rfl ?_
      refine ok_iconst (v := 0) (kd_m0_fewestPayments.at 24 rfl) (by decide) ?_
      refine ok_istore (lv' := [(4, .int 0), (3, .int 0), (0, .ref 10), (1, .int c1), (2, .int v2)]) (kd_m0_fewestPayments.at 25 rfl) (by decide) rfl ?_
      refine ok_sub (lv' := [(0, .ref 10), (1, .int c1), (2, .int v2), (3, .int 0), (4, .int 0)]) [2, 3, 4, 1, 0] rfl ?_
      refine ok_m0_fewestPayments_L35 c1 v2 _ (fun x13 S14 => ?_) kFU 0 0 S
      refine ok_aload_n 0 (kd_m0_fewestPayments.at 64 rfl) rfl rfl ?_
      refine ok_getR (kd_m0_fewestPayments.at 65 rfl) kf0_18 sh_10 rfl (kr_10_3 _) ?_
      refine ok_iload_n 2 (kd_m0_fewestPayments.at 66 rfl) rfl rfl ?_
      refine ok_aload_n 0 (kd_m0_fewestPayments.at 67 rfl) rfl rfl ?_
      refine ok_getR (kd_m0_fewestPayments.at 68 rfl) kf0_15 sh_10 rfl (kr_10_2 _) ?_
      refine ok_iload_n 2 (kd_m0_fewestPayments.at 69 rfl) rfl rfl ?_
      refine ok_iald (kd_m0_fewestPayments.at 70 rfl) sh_50 ?_
      refine ok_fold (α := Int32) (pcJ := 121) (lvJ := [(0, .ref 10), (1, .int c1), (2, .int v2), (3, .int x13)]) (stJ := [.int v2, .ref 51]) (mk := fun v => .int v) (fun K => ?_) (fun x16 => ?_)
      · refine ok_ap ?_
        refine ok_if_ne (tgt := 120) (kd_m0_fewestPayments.at 71 rfl) (by decide) (fun h15 => ?_) (fun h15 => ?_)
        · refine ok_iload_n 3 (kd_m0_fewestPayments.at 76 rfl) rfl rfl ?_
          exact K x13
        · refine ok_iload_n 3 (kd_m0_fewestPayments.at 72 rfl) rfl rfl ?_
          refine ok_iconst (v := 1) (kd_m0_fewestPayments.at 73 rfl) (by decide) ?_
          refine ok_iadd (kd_m0_fewestPayments.at 74 rfl) ?_
          refine ok_goto (tgt := 121) (kd_m0_fewestPayments.at 75 rfl) (by decide) ?_
          exact K (x13 + 1)
      · refine ok_iast (kd_m0_fewestPayments.at 77 rfl) sh_51 ?_
        refine ok_nS (fun S17 hS17 => ?_)
        refine ok_nx (fun x18 hx18 => ?_)
        refine ok_iinc (v := x18) (lv' := [(2, .int x18), (0, .ref 10), (1, .int c1), (3, .int x13)]) 2 (kd_m0_fewestPayments.at 78 rfl) rfl hx18.symm (by decide) rfl ?_
        refine ok_goto (tgt := 25) (kd_m0_fewestPayments.at 79 rfl) (by decide) ?_
        refine ok_sub (lv' := [(0, .ref 10), (1, .int c1), (2, .int x18)]) [1, 2, 0] rfl ?_
        exact ih x18 S17
def f_m0_fewestPayments  (S : kSt) : Option (Int32 × kSt) :=
  knx ((1 <<< ((S.1 10 0) &&& 31)) - 1) fun x1 =>
  knx (kuI S 50 0 0) fun S2 =>
  knx (kuI S2 51 0 0) fun S3 =>
  f_m0_fewestPayments_L25 
    (fun  (S19 : kSt) =>
      kgi x1 32 (
        some ((S19.1 10 0) - (S19.1 51 x1.toNatClampNeg), S19)
      )
    )
    x1 kFU 1 S3
theorem ok_m0_fewestPayments {l : Launch} {G : kG} {E : kE}   (S : kSt) : kFn l G E E kjI m0_fewestPayments 1 [.ref 10] S (f_m0_fewestPayments  S) := by
  unfold f_m0_fewestPayments
  refine kFn_of (by decide +kernel) (Nat.le_of_ble_eq_true rfl) ?_
  show kOk _ _ _ _ _ _ _ _ [(0, .ref 10)] _ _
  refine ok_iconst (v := 1) (kd_m0_fewestPayments.at 0 rfl) (by decide) ?_
  refine ok_aload_n 0 (kd_m0_fewestPayments.at 1 rfl) rfl rfl ?_
  refine ok_getI (kd_m0_fewestPayments.at 2 rfl) kf0_33 sh_10 rfl ?_
  refine ok_ishl (kd_m0_fewestPayments.at 3 rfl) ?_
  refine ok_iconst (v := 1) (kd_m0_fewestPayments.at 4 rfl) (by decide) ?_
  refine ok_isub (kd_m0_fewestPayments.at 5 rfl) ?_
  refine ok_topi (fun x1 hx1 => ?_)
  refine ok_istore_n (lv' := [(1, .int x1), (0, .ref 10)]) (kd_m0_fewestPayments.at 6 rfl) rfl (by decide) rfl ?_
  refine ok_aload_n 1 (kd_m0_fewestPayments.at 7 rfl) rfl rfl ?_
  refine ok_getR (kd_m0_fewestPayments.at 8 rfl) kf0_15 sh_10 rfl (kr_10_2 _) ?_
  refine ok_iconst (v := 0) (kd_m0_fewestPayments.at 9 rfl) (by decide) ?_
  refine ok_iconst (v := 0) (kd_m0_fewestPayments.at 10 rfl) (by decide) ?_
  refine ok_iastK (j := 0) (kd_m0_fewestPayments.at 11 rfl) sh_50 (by decide) (by decide) ?_
  refine ok_nS (fun S2 hS2 => ?_)
  refine ok_aload_n 1 (kd_m0_fewestPayments.at 12 rfl) rfl rfl ?_
  refine ok_getR (kd_m0_fewestPayments.at 13 rfl) kf0_18 sh_10 rfl (kr_10_3 _) ?_
  refine ok_iconst (v := 0) (kd_m0_fewestPayments.at 14 rfl) (by decide) ?_
  refine ok_iconst (v := 0) (kd_m0_fewestPayments.at 15 rfl) (by decide) ?_
  refine ok_iastK (j := 0) (kd_m0_fewestPayments.at 16 rfl) sh_51 (by decide) (by decide) ?_
  refine ok_nS (fun S3 hS3 => ?_)
  refine ok_iconst (v := 1) (kd_m0_fewestPayments.at 17 rfl) (by decide) ?_
  refine ok_istore_n (lv' := [(2, .int 1), (1, .int x1), (0, .ref 10)]) (kd_m0_fewestPayments.at 18 rfl) rfl (by decide) rfl ?_
  refine ok_sub (lv' := [(0, .ref 10), (1, .int x1), (2, .int 1)]) [2, 1, 0] rfl ?_
  refine ok_m0_fewestPayments_L25 x1 _ (fun S19 => ?_) kFU 1 S3
  refine ok_aload_n 0 (kd_m0_fewestPayments.at 80 rfl) rfl rfl ?_
  refine ok_getI (kd_m0_fewestPayments.at 81 rfl) kf0_33 sh_10 rfl ?_
  refine ok_aload_n 0 (kd_m0_fewestPayments.at 82 rfl) rfl rfl ?_
  refine ok_getR (kd_m0_fewestPayments.at 83 rfl) kf0_18 sh_10 rfl (kr_10_3 _) ?_
  refine ok_iload_n 1 (kd_m0_fewestPayments.at 84 rfl) rfl rfl ?_
  refine ok_iald (kd_m0_fewestPayments.at 85 rfl) sh_51 ?_
  refine ok_isub (kd_m0_fewestPayments.at 86 rfl) ?_
  exact ok_ireturn (kd_m0_fewestPayments.at 87 rfl) rfl
def f_mJ_fill_J7_L5 (w0 n0 : Nat)  (k20 : kSt → Option kSt) (c1 : Int32) (c3 : Int32) : Nat → Int32 → kSt → Option kSt
  | 0, _, _ => none
  | n + 1, v2, S =>
    if c3 ≤ v2 then
      k20  S
    else
      kgi v2 n0 (
        knx (kuI S w0 v2.toNatClampNeg c1) fun S3 =>
        knx (v2 + 1) fun x4 =>
        f_mJ_fill_J7_L5 w0 n0 k20 c1 c3 n x4 S3
      )
theorem ok_mJ_fill_J7_L5 {l : Launch} {G : kG} {E : kE} (w0 n0 : Nat) (hw0 : kSH[w0]? = some (1, 0, n0))  (c1 : Int32) (c3 : Int32) (k20 : kSt → Option kSt) (hk20 : ∀  (S : kSt), kOk l G E (kZ G E kjV) mJ_fill_J7 1 (k20  S) 20 [] [] S) : ∀ (n : Nat) (v2 : Int32) (S : kSt), kOk l G E (kZ G E kjV) mJ_fill_J7 1 (f_mJ_fill_J7_L5 w0 n0 k20 c1 c3 n v2 S) 5 [(0, .ref w0), (1, .int c1), (2, .int v2), (3, .int c3)] [] S := by
  intro n
  induction n with
  | zero => intro v2 S; exact ok_none
  | succ n ih =>
    intro v2 S
    rw [f_mJ_fill_J7_L5]
    refine ok_iload_n 2 (kd_mJ_fill_J7.at 5 rfl) rfl rfl ?_
    refine ok_iload_n 3 (kd_mJ_fill_J7.at 6 rfl) rfl rfl ?_
    refine ok_icmp_ge (tgt := 20) (kd_mJ_fill_J7.at 7 rfl) (by decide) (fun h2 => ?_) (fun h2 => ?_)
    · refine ok_sub (lv' := []) [] rfl ?_
      exact hk20  S
    · refine ok_aload_n 0 (kd_mJ_fill_J7.at 8 rfl) rfl rfl ?_
      refine ok_iload_n 2 (kd_mJ_fill_J7.at 9 rfl) rfl rfl ?_
      refine ok_iload_n 1 (kd_mJ_fill_J7.at 10 rfl) rfl rfl ?_
      refine ok_iast (kd_mJ_fill_J7.at 11 rfl) hw0 ?_
      refine ok_nS (fun S3 hS3 => ?_)
      refine ok_nx (fun x4 hx4 => ?_)
      refine ok_iinc (v := x4) (lv' := [(2, .int x4), (0, .ref w0), (1, .int c1), (3, .int c3)]) 2 (kd_mJ_fill_J7.at 12 rfl) rfl hx4.symm (by decide) rfl ?_
      refine ok_goto (tgt := 5) (kd_mJ_fill_J7.at 13 rfl) (by decide) ?_
      refine ok_sub (lv' := [(0, .ref w0), (1, .int c1), (2, .int x4), (3, .int c3)]) [1, 2, 0, 3] rfl ?_
      exact ih x4 S3
def f_mJ_fill_J7 (w0 n0 : Nat) (a1 : Int32) (S : kSt) : Option kSt :=
  knx (Int32.ofNat n0) fun x1 =>
  f_mJ_fill_J7_L5 w0 n0
    (fun  (S5 : kSt) =>
      some S5
    )
    a1 x1 kFU 0 S
theorem ok_mJ_fill_J7 {l : Launch} {G : kG} {E : kE} (w0 n0 : Nat) (a1 : Int32) (hw0 : kSH[w0]? = some (1, 0, n0)) (S : kSt) : kFn l G E E kjV mJ_fill_J7 1 [.ref w0, .int a1] S (f_mJ_fill_J7 w0 n0 a1 S) := by
  unfold f_mJ_fill_J7
  refine kFn_of (by decide +kernel) (Nat.le_of_ble_eq_true rfl) ?_
  show kOk _ _ _ _ _ _ _ _ [(0, .ref w0), (1, .int a1)] _ _
  refine ok_iconst (v := 0) (kd_mJ_fill_J7.at 0 rfl) (by decide) ?_
  refine ok_istore_n (lv' := [(2, .int 0), (0, .ref w0), (1, .int a1)]) (kd_mJ_fill_J7.at 1 rfl) rfl (by decide) rfl ?_
  refine ok_aload_n 1 (kd_mJ_fill_J7.at 2 rfl) rfl rfl ?_
  refine ok_alen (kd_mJ_fill_J7.at 3 rfl) hw0 ?_
  refine ok_topi (fun x1 hx1 => ?_)
  refine ok_istore_n (lv' := [(3, .int x1), (2, .int 0), (0, .ref w0), (1, .int a1)]) (kd_mJ_fill_J7.at 4 rfl) rfl (by decide) rfl ?_
  refine ok_sub (lv' := [(0, .ref w0), (1, .int a1), (2, .int 0), (3, .int x1)]) [2, 3, 1, 0] rfl ?_
  refine ok_mJ_fill_J7_L5 w0 n0 hw0 a1 x1 _ (fun S5 => ?_) kFU 0 S
  exact ok_return (kd_mJ_fill_J7.at 14 rfl) rfl
def f_m0_fewestDebtsBehind_L6   (k47 : Int32 → kSt → Option (Int32 × kSt)) (c2 : Int32) : Nat → Int32 → Int32 → kSt → Option (Int32 × kSt)
  | 0, _, _, _ => none
  | n + 1, v3, v4, S =>
    if (S.1 10 0) ≤ v4 then
      k47 v3 S
    else
      knx ((c2 * 5) + v4) fun x2 =>
      kgi x2 25 (
        knx (fun (x3 : Int32) (S4 : kSt) =>
          knx (v4 + 1) fun x5 =>
          f_m0_fewestDebtsBehind_L6 k47 c2 n x3 x5 S4
          ) fun j41 =>
        if (S.1 42 x2.toNatClampNeg) ≤ 0 then
          j41 v3 S
        else
          kgi v4 5 (
            knx (kmin v3 (S.1 52 v4.toNatClampNeg)) fun x7 =>
            j41 x7 S
          )
      )
theorem ok_m0_fewestDebtsBehind_L6 {l : Launch} {G : kG} {E : kE}    (c2 : Int32) (k47 : Int32 → kSt → Option (Int32 × kSt)) (hk47 : ∀ (v3 : Int32) (S : kSt), kOk l G E (kZ G E kjI) m0_fewestDebtsBehind 1 (k47 v3 S) 47 [(3, .int v3)] [] S) : ∀ (n : Nat) (v3 : Int32) (v4 : Int32) (S : kSt), kOk l G E (kZ G E kjI) m0_fewestDebtsBehind 1 (f_m0_fewestDebtsBehind_L6 k47 c2 n v3 v4 S) 6 [(0, .ref 10), (1, .ref 4), (2, .int c2), (3, .int v3), (4, .int v4)] [] S := by
  intro n
  induction n with
  | zero => intro v3 v4 S; exact ok_none
  | succ n ih =>
    intro v3 v4 S
    rw [f_m0_fewestDebtsBehind_L6]
    refine ok_iload 4 (kd_m0_fewestDebtsBehind.at 4 rfl) rfl ?_
    refine ok_aload_n 0 (kd_m0_fewestDebtsBehind.at 5 rfl) rfl rfl ?_
    refine ok_getI (kd_m0_fewestDebtsBehind.at 6 rfl) kf0_33 sh_10 rfl ?_
    refine ok_icmp_ge (tgt := 47) (kd_m0_fewestDebtsBehind.at 7 rfl) (by decide) (fun h1 => ?_) (fun h1 => ?_)
    · refine ok_sub (lv' := [(3, .int v3)]) [3] rfl ?_
      exact hk47 v3 S
    · refine ok_aload_n 1 (kd_m0_fewestDebtsBehind.at 8 rfl) rfl rfl ?_
      refine ok_getR (kd_m0_fewestDebtsBehind.at 9 rfl) kf0_37 sh_4 rfl (kr_4_3 _) ?_
      refine ok_iload_n 2 (kd_m0_fewestDebtsBehind.at 10 rfl) rfl rfl ?_
      refine ok_iconst (v := 5) (kd_m0_fewestDebtsBehind.at 11 rfl) (by decide) ?_
      refine ok_imul (kd_m0_fewestDebtsBehind.at 12 rfl) ?_
      refine ok_iload 4 (kd_m0_fewestDebtsBehind.at 13 rfl) rfl ?_
      refine ok_iadd (kd_m0_fewestDebtsBehind.at 14 rfl) ?_
      refine ok_topi (fun x2 hx2 => ?_)
      refine ok_iald (kd_m0_fewestDebtsBehind.at 15 rfl) sh_42 ?_
      refine ok_nx (fun j41 hj41 => ?_)
      have K41 : ∀ (x3 : Int32) (S4 : kSt), kOk l G E (kZ G E kjI) m0_fewestDebtsBehind 1 (j41 x3 S4) 41 [(0, .ref 10), (1, .ref 4), (2, .int c2), (3, .int x3), (4, .int v4)] [] S4 := by
        subst hj41
        intro x3 S4
        refine ok_nx (fun x5 hx5 => ?_)
        refine ok_iinc (v := x5) (lv' := [(4, .int x5), (0, .ref 10), (1, .ref 4), (2, .int c2), (3, .int x3)]) 4 (kd_m0_fewestDebtsBehind.at 24 rfl) rfl hx5.symm (by decide) rfl ?_
        refine ok_goto (tgt := 6) (kd_m0_fewestDebtsBehind.at 25 rfl) (by decide) ?_
        refine ok_sub (lv' := [(0, .ref 10), (1, .ref 4), (2, .int c2), (3, .int x3), (4, .int x5)]) [1, 2, 3, 4, 0] rfl ?_
        exact ih x3 x5 S4
      clear hj41
      refine ok_if_le (tgt := 41) (kd_m0_fewestDebtsBehind.at 16 rfl) (by decide) (fun h6 => ?_) (fun h6 => ?_)
      · exact K41 v3 S
      · refine ok_iload_n 3 (kd_m0_fewestDebtsBehind.at 17 rfl) rfl rfl ?_
        refine ok_aload_n 0 (kd_m0_fewestDebtsBehind.at 18 rfl) rfl rfl ?_
        refine ok_getR (kd_m0_fewestDebtsBehind.at 19 rfl) kf0_21 sh_10 rfl (kr_10_4 _) ?_
        refine ok_iload 4 (kd_m0_fewestDebtsBehind.at 20 rfl) rfl ?_
        refine ok_iald (kd_m0_fewestDebtsBehind.at 21 rfl) sh_52 ?_
        refine ok_mmin (kd_m0_fewestDebtsBehind.at 22 rfl) kc0_27 (by decide) (Nat.le_of_ble_eq_true rfl) ?_
        refine ok_topi (fun x7 hx7 => ?_)
        refine ok_istore_n (lv' := [(3, .int x7), (0, .ref 10), (1, .ref 4), (2, .int c2), (4, .int v4)]) (kd_m0_fewestDebtsBehind.at 23 rfl) rfl (by decide) rfl ?_
        refine ok_sub (lv' := [(0, .ref 10), (1, .ref 4), (2, .int c2), (3, .int x7), (4, .int v4)]) [1, 2, 3, 0, 4] rfl ?_
        exact K41 x7 S
def f_m0_fewestDebtsBehind (a2 : Int32) (S : kSt) : Option (Int32 × kSt) :=
  f_m0_fewestDebtsBehind_L6 
    (fun (x8 : Int32) (S9 : kSt) =>
      some (x8, S9)
    )
    a2 kFU 6 0 S
theorem ok_m0_fewestDebtsBehind {l : Launch} {G : kG} {E : kE} (a2 : Int32)  (S : kSt) : kFn l G E E kjI m0_fewestDebtsBehind 1 [.ref 10, .ref 4, .int a2] S (f_m0_fewestDebtsBehind a2 S) := by
  unfold f_m0_fewestDebtsBehind
  refine kFn_of (by decide +kernel) (Nat.le_of_ble_eq_true rfl) ?_
  show kOk _ _ _ _ _ _ _ _ [(0, .ref 10), (1, .ref 4), (2, .int a2)] _ _
  refine ok_bipush (v := 6) (kd_m0_fewestDebtsBehind.at 0 rfl) (by decide) ?_
  refine ok_istore_n (lv' := [(3, .int 6), (0, .ref 10), (1, .ref 4), (2, .int a2)]) (kd_m0_fewestDebtsBehind.at 1 rfl) rfl (by decide) rfl ?_
  refine ok_iconst (v := 0) (kd_m0_fewestDebtsBehind.at 2 rfl) (by decide) ?_
  refine ok_istore (lv' := [(4, .int 0), (3, .int 6), (0, .ref 10), (1, .ref 4), (2, .int a2)]) (kd_m0_fewestDebtsBehind.at 3 rfl) (by decide) rfl ?_
  refine ok_sub (lv' := [(0, .ref 10), (1, .ref 4), (2, .int a2), (3, .int 6), (4, .int 0)]) [2, 3, 4, 1, 0] rfl ?_
  refine ok_m0_fewestDebtsBehind_L6 a2 _ (fun x8 S9 => ?_) kFU 6 0 S
  refine ok_iload_n 0 (kd_m0_fewestDebtsBehind.at 26 rfl) rfl rfl ?_
  exact ok_ireturn (kd_m0_fewestDebtsBehind.at 27 rfl) rfl
def f_m0_countDebtsHome_L29   (k76 : kSt → Option kSt) (c2 : Int32) (c3 : Int32) : Nat → Int32 → kSt → Option kSt
  | 0, _, _ => none
  | n + 1, v4, S =>
    if (S.1 10 0) ≤ v4 then
      k76  S
    else
      knx (fun  (S5 : kSt) =>
        knx (v4 + 1) fun x6 =>
        f_m0_countDebtsHome_L29 k76 c2 c3 n x6 S5
        ) fun j70 =>
      if v4 = c2 then
        j70  S
      else
        kgi v4 5 (
          (f_m0_fewestDebtsBehind v4 S).bind fun q8 =>
          kgi v4 5 (
            knx (kuI q8.2 52 v4.toNatClampNeg (kmin (S.1 52 v4.toNatClampNeg) (q8.1 + 1))) fun S9 =>
            j70  S9
          )
        )
theorem ok_m0_countDebtsHome_L29 {l : Launch} {G : kG} {E : kE}    (c2 : Int32) (c3 : Int32) (k76 : kSt → Option kSt) (hk76 : ∀  (S : kSt), kOk l G E (kZ G E kjV) m0_countDebtsHome 2 (k76  S) 76 [(0, .ref 10), (1, .ref 4), (2, .int c2), (3, .int c3)] [] S) : ∀ (n : Nat) (v4 : Int32) (S : kSt), kOk l G E (kZ G E kjV) m0_countDebtsHome 2 (f_m0_countDebtsHome_L29 k76 c2 c3 n v4 S) 29 [(0, .ref 10), (1, .ref 4), (2, .int c2), (3, .int c3), (4, .int v4)] [] S := by
  intro n
  induction n with
  | zero => intro v4 S; exact ok_none
  | succ n ih =>
    intro v4 S
    rw [f_m0_countDebtsHome_L29]
    refine ok_iload 4 (kd_m0_countDebtsHome.at 17 rfl) rfl ?_
    refine ok_aload_n 0 (kd_m0_countDebtsHome.at 18 rfl) rfl rfl ?_
    refine ok_getI (kd_m0_countDebtsHome.at 19 rfl) kf0_33 sh_10 rfl ?_
    refine ok_icmp_ge (tgt := 76) (kd_m0_countDebtsHome.at 20 rfl) (by decide) (fun h4 => ?_) (fun h4 => ?_)
    · refine ok_sub (lv' := [(0, .ref 10), (1, .ref 4), (2, .int c2), (3, .int c3)]) [0, 1, 2, 3] rfl ?_
      exact hk76  S
    · refine ok_iload 4 (kd_m0_countDebtsHome.at 21 rfl) rfl ?_
      refine ok_iload_n 2 (kd_m0_countDebtsHome.at 22 rfl) rfl rfl ?_
      refine ok_nx (fun j70 hj70 => ?_)
      have K70 : ∀  (S5 : kSt), kOk l G E (kZ G E kjV) m0_countDebtsHome 2 (j70  S5) 70 [(0, .ref 10), (1, .ref 4), (2, .int c2), (3, .int c3), (4, .int v4)] [] S5 := by
        subst hj70
        intro  S5
        refine ok_nx (fun x6 hx6 => ?_)
        refine ok_iinc (v := x6) (lv' := [(4, .int x6), (0, .ref 10), (1, .ref 4), (2, .int c2), (3, .int c3)]) 4 (kd_m0_countDebtsHome.at 39 rfl) rfl hx6.symm (by decide) rfl ?_
        refine ok_goto (tgt := 29) (kd_m0_countDebtsHome.at 40 rfl) (by decide) ?_
        refine ok_sub (lv' := [(0, .ref 10), (1, .ref 4), (2, .int c2), (3, .int c3), (4, .int x6)]) [1, 2, 3, 4, 0] rfl ?_
        exact ih x6 S5
      clear hj70
      refine ok_icmp_eq (tgt := 70) (kd_m0_countDebtsHome.at 23 rfl) (by decide) (fun h7 => ?_) (fun h7 => ?_)
      · exact K70  S
      · refine ok_aload_n 0 (kd_m0_countDebtsHome.at 24 rfl) rfl rfl ?_
        refine ok_getR (kd_m0_countDebtsHome.at 25 rfl) kf0_21 sh_10 rfl (kr_10_4 _) ?_
        refine ok_iload 4 (kd_m0_countDebtsHome.at 26 rfl) rfl ?_
        refine ok_aload_n 0 (kd_m0_countDebtsHome.at 27 rfl) rfl rfl ?_
        refine ok_getR (kd_m0_countDebtsHome.at 28 rfl) kf0_21 sh_10 rfl (kr_10_4 _) ?_
        refine ok_iload 4 (kd_m0_countDebtsHome.at 29 rfl) rfl ?_
        refine ok_iald (kd_m0_countDebtsHome.at 30 rfl) sh_52 ?_
        refine ok_aload_n 0 (kd_m0_countDebtsHome.at 31 rfl) rfl rfl ?_
        refine ok_aload_n 1 (kd_m0_countDebtsHome.at 32 rfl) rfl rfl ?_
        refine ok_iload 4 (kd_m0_countDebtsHome.at 33 rfl) rfl ?_
        refine ok_callVI (M' := m0_fewestDebtsBehind) (as := [.ref 4, .int v4]) (st := [.int (S.1 52 v4.toNatClampNeg), .int v4, .ref 52]) (kd_m0_countDebtsHome.at 34 rfl) kc0_52 sh_10 rfl rfl (by decide) (ok_m0_fewestDebtsBehind v4 S) (by decide) rfl (Nat.le_of_ble_eq_true rfl) (fun q8 hq8 => ?_)
        refine ok_iconst (v := 1) (kd_m0_countDebtsHome.at 35 rfl) (by decide) ?_
        refine ok_iadd (kd_m0_countDebtsHome.at 36 rfl) ?_
        refine ok_mmin (kd_m0_countDebtsHome.at 37 rfl) kc0_27 (by decide) (Nat.le_of_ble_eq_true rfl) ?_
        refine ok_iast (kd_m0_countDebtsHome.at 38 rfl) sh_52 ?_
        refine ok_nS (fun S9 hS9 => ?_)
        exact K70  S9
def f_m0_countDebtsHome_L18   (k82 : kSt → Option kSt) (c2 : Int32) : Nat → Int32 → kSt → Option kSt
  | 0, _, _ => none
  | n + 1, v3, S =>
    if (S.1 10 0) ≤ v3 then
      k82  S
    else
      f_m0_countDebtsHome_L29 
        (fun  (S10 : kSt) =>
          knx (v3 + 1) fun x11 =>
          f_m0_countDebtsHome_L18 k82 c2 n x11 S10
        )
        c2 v3 kFU 0 S
theorem ok_m0_countDebtsHome_L18 {l : Launch} {G : kG} {E : kE}    (c2 : Int32) (k82 : kSt → Option kSt) (hk82 : ∀  (S : kSt), kOk l G E (kZ G E kjV) m0_countDebtsHome 2 (k82  S) 82 [] [] S) : ∀ (n : Nat) (v3 : Int32) (S : kSt), kOk l G E (kZ G E kjV) m0_countDebtsHome 2 (f_m0_countDebtsHome_L18 k82 c2 n v3 S) 18 [(0, .ref 10), (1, .ref 4), (2, .int c2), (3, .int v3)] [] S := by
  intro n
  induction n with
  | zero => intro v3 S; exact ok_none
  | succ n ih =>
    intro v3 S
    rw [f_m0_countDebtsHome_L18]
    refine ok_iload_n 3 (kd_m0_countDebtsHome.at 11 rfl) rfl rfl ?_
    refine ok_aload_n 0 (kd_m0_countDebtsHome.at 12 rfl) rfl rfl ?_
    refine ok_getI (kd_m0_countDebtsHome.at 13 rfl) kf0_33 sh_10 rfl ?_
    refine ok_icmp_ge (tgt := 82) (kd_m0_countDebtsHome.at 14 rfl) (by decide) (fun h3 => ?_) (fun h3 => ?_)
    · refine ok_sub (lv' := []) [] rfl ?_
      exact hk82  S
    · refine ok_iconst (v := 0) (kd_m0_countDebtsHome.at 15 rfl) (by decide) ?_
      refine ok_istore (lv' := [(4, .int 0), (0, .ref 10), (1, .ref 4), (2, .int c2), (3, .int v3)]) (kd_m0_countDebtsHome.at 16 rfl) (by decide) rfl ?_
      refine ok_sub (lv' := [(0, .ref 10), (1, .ref 4), (2, .int c2), (3, .int v3), (4, .int 0)]) [1, 2, 3, 4, 0] rfl ?_
      refine ok_m0_countDebtsHome_L29 c2 v3 _ (fun S10 => ?_) kFU 0 S
      refine ok_nx (fun x11 hx11 => ?_)
      refine ok_iinc (v := x11) (lv' := [(3, .int x11), (0, .ref 10), (1, .ref 4), (2, .int c2)]) 3 (kd_m0_countDebtsHome.at 41 rfl) rfl hx11.symm (by decide) rfl ?_
      refine ok_goto (tgt := 18) (kd_m0_countDebtsHome.at 42 rfl) (by decide) ?_
      refine ok_sub (lv' := [(0, .ref 10), (1, .ref 4), (2, .int c2), (3, .int x11)]) [1, 2, 3, 0] rfl ?_
      exact ih x11 S10
def f_m0_countDebtsHome (a2 : Int32) (S : kSt) : Option kSt :=
  (f_mJ_fill_J7 52 5 6 S).bind fun q1 =>
  kgi a2 5 (
    knx (kuI q1 52 a2.toNatClampNeg 0) fun S2 =>
    f_m0_countDebtsHome_L18 
      (fun  (S12 : kSt) =>
        some S12
      )
      a2 kFU 0 S2
  )
theorem ok_m0_countDebtsHome {l : Launch} {G : kG} {E : kE} (a2 : Int32)  (S : kSt) : kFn l G E E kjV m0_countDebtsHome 2 [.ref 10, .ref 4, .int a2] S (f_m0_countDebtsHome a2 S) := by
  unfold f_m0_countDebtsHome
  refine kFn_of (by decide +kernel) (Nat.le_of_ble_eq_true rfl) ?_
  show kOk _ _ _ _ _ _ _ _ [(0, .ref 10), (1, .ref 4), (2, .int a2)] _ _
  refine ok_aload_n 0 (kd_m0_countDebtsHome.at 0 rfl) rfl rfl ?_
  refine ok_getR (kd_m0_countDebtsHome.at 1 rfl) kf0_21 sh_10 rfl (kr_10_4 _) ?_
  refine ok_bipush (v := 6) (kd_m0_countDebtsHome.at 2 rfl) (by decide) ?_
  refine ok_callSV (M' := mJ_fill_J7) (as := [.ref 52, .int 6]) (st := []) (kd_m0_countDebtsHome.at 3 rfl) kc0_60  rfl (by decide) (ok_mJ_fill_J7 52 5 6 sh_52 S) (by decide) rfl (Nat.le_of_ble_eq_true rfl) (fun q1 hq1 => ?_)
  refine ok_aload_n 0 (kd_m0_countDebtsHome.at 4 rfl) rfl rfl ?_
  refine ok_getR (kd_m0_countDebtsHome.at 5 rfl) kf0_21 sh_10 rfl (kr_10_4 _) ?_
  refine ok_iload_n 2 (kd_m0_countDebtsHome.at 6 rfl) rfl rfl ?_
  refine ok_iconst (v := 0) (kd_m0_countDebtsHome.at 7 rfl) (by decide) ?_
  refine ok_iast (kd_m0_countDebtsHome.at 8 rfl) sh_52 ?_
  refine ok_nS (fun S2 hS2 => ?_)
  refine ok_iconst (v := 0) (kd_m0_countDebtsHome.at 9 rfl) (by decide) ?_
  refine ok_istore_n (lv' := [(3, .int 0), (0, .ref 10), (1, .ref 4), (2, .int a2)]) (kd_m0_countDebtsHome.at 10 rfl) rfl (by decide) rfl ?_
  refine ok_sub (lv' := [(0, .ref 10), (1, .ref 4), (2, .int a2), (3, .int 0)]) [1, 2, 3, 0] rfl ?_
  refine ok_m0_countDebtsHome_L18 a2 _ (fun S12 => ?_) kFU 0 S2
  exact ok_return (kd_m0_countDebtsHome.at 43 rfl) rfl
def f_m0_firstNext_L3   (k37 : Int32 → kSt → Option (Int32 × kSt)) (k46 : kSt → Option (Int32 × kSt)) (c2 : Int32) (c3 : Int32) : Nat → Int32 → kSt → Option (Int32 × kSt)
  | 0, _, _ => none
  | n + 1, v4, S =>
    if (S.1 10 0) ≤ v4 then
      k46  S
    else
      knx ((c2 * 5) + v4) fun x2 =>
      kgi x2 25 (
        knx (fun  (S3 : kSt) =>
          knx (v4 + 1) fun x4 =>
          f_m0_firstNext_L3 k37 k46 c2 c3 n x4 S3
          ) fun j40 =>
        if (S.1 42 x2.toNatClampNeg) ≤ 0 then
          j40  S
        else
          kgi v4 5 (
            if (S.1 52 v4.toNatClampNeg) = c3 then
              k37 v4 S
            else
              j40  S
          )
      )
theorem ok_m0_firstNext_L3 {l : Launch} {G : kG} {E : kE}    (c2 : Int32) (c3 : Int32) (k37 : Int32 → kSt → Option (Int32 × kSt)) (k46 : kSt → Option (Int32 × kSt)) (hk37 : ∀ (v4 : Int32) (S : kSt), kOk l G E (kZ G E kjI) m0_firstNext 1 (k37 v4 S) 37 [(4, .int v4)] [] S) (hk46 : ∀  (S : kSt), kOk l G E (kZ G E kjI) m0_firstNext 1 (k46  S) 46 [(2, .int c2)] [] S) : ∀ (n : Nat) (v4 : Int32) (S : kSt), kOk l G E (kZ G E kjI) m0_firstNext 1 (f_m0_firstNext_L3 k37 k46 c2 c3 n v4 S) 3 [(0, .ref 10), (1, .ref 4), (2, .int c2), (3, .int c3), (4, .int v4)] [] S := by
  intro n
  induction n with
  | zero => intro v4 S; exact ok_none
  | succ n ih =>
    intro v4 S
    rw [f_m0_firstNext_L3]
    refine ok_iload 4 (kd_m0_firstNext.at 2 rfl) rfl ?_
    refine ok_aload_n 0 (kd_m0_firstNext.at 3 rfl) rfl rfl ?_
    refine ok_getI (kd_m0_firstNext.at 4 rfl) kf0_33 sh_10 rfl ?_
    refine ok_icmp_ge (tgt := 46) (kd_m0_firstNext.at 5 rfl) (by decide) (fun h1 => ?_) (fun h1 => ?_)
    · refine ok_sub (lv' := [(2, .int c2)]) [2] rfl ?_
      exact hk46  S
    · refine ok_aload_n 1 (kd_m0_firstNext.at 6 rfl) rfl rfl ?_
      refine ok_getR (kd_m0_firstNext.at 7 rfl) kf0_37 sh_4 rfl (kr_4_3 _) ?_
      refine ok_iload_n 2 (kd_m0_firstNext.at 8 rfl) rfl rfl ?_
      refine ok_iconst (v := 5) (kd_m0_firstNext.at 9 rfl) (by decide) ?_
      refine ok_imul (kd_m0_firstNext.at 10 rfl) ?_
      refine ok_iload 4 (kd_m0_firstNext.at 11 rfl) rfl ?_
      refine ok_iadd (kd_m0_firstNext.at 12 rfl) ?_
      refine ok_topi (fun x2 hx2 => ?_)
      refine ok_iald (kd_m0_firstNext.at 13 rfl) sh_42 ?_
      refine ok_nx (fun j40 hj40 => ?_)
      have K40 : ∀  (S3 : kSt), kOk l G E (kZ G E kjI) m0_firstNext 1 (j40  S3) 40 [(0, .ref 10), (1, .ref 4), (2, .int c2), (3, .int c3), (4, .int v4)] [] S3 := by
        subst hj40
        intro  S3
        refine ok_nx (fun x4 hx4 => ?_)
        refine ok_iinc (v := x4) (lv' := [(4, .int x4), (0, .ref 10), (1, .ref 4), (2, .int c2), (3, .int c3)]) 4 (kd_m0_firstNext.at 23 rfl) rfl hx4.symm (by decide) rfl ?_
        refine ok_goto (tgt := 3) (kd_m0_firstNext.at 24 rfl) (by decide) ?_
        refine ok_sub (lv' := [(0, .ref 10), (1, .ref 4), (2, .int c2), (3, .int c3), (4, .int x4)]) [1, 2, 3, 4, 0] rfl ?_
        exact ih x4 S3
      clear hj40
      refine ok_if_le (tgt := 40) (kd_m0_firstNext.at 14 rfl) (by decide) (fun h5 => ?_) (fun h5 => ?_)
      · exact K40  S
      · refine ok_aload_n 0 (kd_m0_firstNext.at 15 rfl) rfl rfl ?_
        refine ok_getR (kd_m0_firstNext.at 16 rfl) kf0_21 sh_10 rfl (kr_10_4 _) ?_
        refine ok_iload 4 (kd_m0_firstNext.at 17 rfl) rfl ?_
        refine ok_iald (kd_m0_firstNext.at 18 rfl) sh_52 ?_
        refine ok_iload_n 3 (kd_m0_firstNext.at 19 rfl) rfl rfl ?_
        refine ok_icmp_ne (tgt := 40) (kd_m0_firstNext.at 20 rfl) (by decide) (fun h6 => ?_) (fun h6 => ?_)
        · exact K40  S
        · refine ok_sub (lv' := [(4, .int v4)]) [4] rfl ?_
          exact hk37 v4 S
def f_m0_firstNext (a2 : Int32) (a3 : Int32) (S : kSt) : Option (Int32 × kSt) :=
  f_m0_firstNext_L3 
    (fun (x7 : Int32) (S8 : kSt) =>
      some (x7, S8)
    )
    (fun  (S9 : kSt) =>
      some (a2, S9)
    )
    a2 a3 kFU 0 S
theorem ok_m0_firstNext {l : Launch} {G : kG} {E : kE} (a2 : Int32) (a3 : Int32)  (S : kSt) : kFn l G E E kjI m0_firstNext 1 [.ref 10, .ref 4, .int a2, .int a3] S (f_m0_firstNext a2 a3 S) := by
  unfold f_m0_firstNext
  refine kFn_of (by decide +kernel) (Nat.le_of_ble_eq_true rfl) ?_
  show kOk _ _ _ _ _ _ _ _ [(0, .ref 10), (1, .ref 4), (2, .int a2), (3, .int a3)] _ _
  refine ok_iconst (v := 0) (kd_m0_firstNext.at 0 rfl) (by decide) ?_
  refine ok_istore (lv' := [(4, .int 0), (0, .ref 10), (1, .ref 4), (2, .int a2), (3, .int a3)]) (kd_m0_firstNext.at 1 rfl) (by decide) rfl ?_
  refine ok_sub (lv' := [(0, .ref 10), (1, .ref 4), (2, .int a2), (3, .int a3), (4, .int 0)]) [1, 2, 3, 4, 0] rfl ?_
  refine ok_m0_firstNext_L3 a2 a3 _ _ (fun x7 S8 => ?_) (fun S9 => ?_) kFU 0 S
  · refine ok_iload 0 (kd_m0_firstNext.at 21 rfl) rfl ?_
    exact ok_ireturn (kd_m0_firstNext.at 22 rfl) rfl
  · refine ok_iload_n 0 (kd_m0_firstNext.at 25 rfl) rfl rfl ?_
    exact ok_ireturn (kd_m0_firstNext.at 26 rfl) rfl
def f_m0_findRing_L53   (k104 : kSt → Option kSt)  : Nat → Int32 → Int32 → kSt → Option kSt
  | 0, _, _, _ => none
  | n + 1, v4, v5, S =>
    if v4 ≤ 0 then
      k104  S
    else
      if 5 ≤ (S.1 10 6) then
        k104  S
      else
        (f_m0_firstNext v5 v4 S).bind fun q10 =>
        knx (q10.2.1 10 6) fun x12 =>
        kgi x12 5 (
          knx (kuI q10.2 53 x12.toNatClampNeg q10.1) fun S11 =>
          knx (kuI S11 10 6 ((S11.1 10 6) + 1)) fun S13 =>
          knx (v4 + (-1)) fun x14 =>
          f_m0_findRing_L53 k104 n x14 q10.1 S13
        )
theorem ok_m0_findRing_L53 {l : Launch} {G : kG} {E : kE}     (k104 : kSt → Option kSt) (hk104 : ∀  (S : kSt), kOk l G E (kZ G E kjV) m0_findRing 3 (k104  S) 104 [] [] S) : ∀ (n : Nat) (v4 : Int32) (v5 : Int32) (S : kSt), kOk l G E (kZ G E kjV) m0_findRing 3 (f_m0_findRing_L53 k104 n v4 v5 S) 53 [(0, .ref 10), (1, .ref 4), (4, .int v4), (5, .int v5)] [] S := by
  intro n
  induction n with
  | zero => intro v4 v5 S; exact ok_none
  | succ n ih =>
    intro v4 v5 S
    rw [f_m0_findRing_L53]
    refine ok_iload 2 (kd_m0_findRing.at 32 rfl) rfl ?_
    refine ok_if_le (tgt := 104) (kd_m0_findRing.at 33 rfl) (by decide) (fun h8 => ?_) (fun h8 => ?_)
    · refine ok_sub (lv' := []) [] rfl ?_
      exact hk104  S
    · refine ok_aload_n 0 (kd_m0_findRing.at 34 rfl) rfl rfl ?_
      refine ok_getI (kd_m0_findRing.at 35 rfl) kf0_45 sh_10 rfl ?_
      refine ok_iconst (v := 5) (kd_m0_findRing.at 36 rfl) (by decide) ?_
      refine ok_icmp_ge (tgt := 104) (kd_m0_findRing.at 37 rfl) (by decide) (fun h9 => ?_) (fun h9 => ?_)
      · refine ok_sub (lv' := []) [] rfl ?_
        exact hk104  S
      · refine ok_aload_n 0 (kd_m0_findRing.at 38 rfl) rfl rfl ?_
        refine ok_aload_n 1 (kd_m0_findRing.at 39 rfl) rfl rfl ?_
        refine ok_iload 3 (kd_m0_findRing.at 40 rfl) rfl ?_
        refine ok_iload 2 (kd_m0_findRing.at 41 rfl) rfl ?_
        refine ok_callVI (M' := m0_firstNext) (as := [.ref 4, .int v5, .int v4]) (st := []) (kd_m0_findRing.at 42 rfl) kc0_56 sh_10 rfl rfl (by decide) (ok_m0_firstNext v5 v4 S) (by decide) rfl (Nat.le_of_ble_eq_true rfl) (fun q10 hq10 => ?_)
        refine ok_istore (lv' := [(5, .int q10.1), (0, .ref 10), (1, .ref 4), (4, .int v4)]) (kd_m0_findRing.at 43 rfl) (by decide) rfl ?_
        refine ok_aload_n 1 (kd_m0_findRing.at 44 rfl) rfl rfl ?_
        refine ok_getR (kd_m0_findRing.at 45 rfl) kf0_24 sh_10 rfl (kr_10_5 _) ?_
        refine ok_aload_n 1 (kd_m0_findRing.at 46 rfl) rfl rfl ?_
        refine ok_getI (kd_m0_findRing.at 47 rfl) kf0_45 sh_10 rfl ?_
        refine ok_iload 0 (kd_m0_findRing.at 48 rfl) rfl ?_
        refine ok_sndi (fun x12 hx12 => ?_)
        refine ok_iast (kd_m0_findRing.at 49 rfl) sh_53 ?_
        refine ok_nS (fun S11 hS11 => ?_)
        refine ok_aload_n 1 (kd_m0_findRing.at 50 rfl) rfl rfl ?_
        refine ok_dup (kd_m0_findRing.at 51 rfl) rfl ?_
        refine ok_getI (kd_m0_findRing.at 52 rfl) kf0_45 sh_10 rfl ?_
        refine ok_iconst (v := 1) (kd_m0_findRing.at 53 rfl) (by decide) ?_
        refine ok_iadd (kd_m0_findRing.at 54 rfl) ?_
        refine ok_putI (kd_m0_findRing.at 55 rfl) kf0_45 sh_10 rfl rfl ?_
        refine ok_nS (fun S13 hS13 => ?_)
        refine ok_nx (fun x14 hx14 => ?_)
        refine ok_iinc (v := x14) (lv' := [(4, .int x14), (5, .int q10.1), (0, .ref 10), (1, .ref 4)]) 3 (kd_m0_findRing.at 56 rfl) rfl hx14.symm (by decide) rfl ?_
        refine ok_goto (tgt := 53) (kd_m0_findRing.at 57 rfl) (by decide) ?_
        refine ok_sub (lv' := [(0, .ref 10), (1, .ref 4), (4, .int x14), (5, .int q10.1)]) [2, 3, 0, 1] rfl ?_
        exact ih x14 q10.1 S13
def f_m0_findRing (a2 : Int32) (a3 : Int32) (S : kSt) : Option kSt :=
  knx (kuI S 10 0 (kmin a2 5)) fun S1 =>
  knx (kuI S1 10 6 0) fun S2 =>
  (f_m0_countDebtsHome a3 S2).bind fun q3 =>
  (f_m0_fewestDebtsBehind a3 q3).bind fun q4 =>
  if q4.1 ≤ (q4.2.1 10 0) then
    knx (kuI q4.2 53 0 a3) fun S6 =>
    knx (kuI S6 10 6 1) fun S7 =>
    f_m0_findRing_L53 
      (fun  (S15 : kSt) =>
        some S15
      )
      kFU q4.1 a3 S7
  else
    some q4.2
theorem ok_m0_findRing {l : Launch} {G : kG} {E : kE} (a2 : Int32) (a3 : Int32)  (S : kSt) : kFn l G E E kjV m0_findRing 3 [.ref 10, .ref 4, .int a2, .int a3] S (f_m0_findRing a2 a3 S) := by
  unfold f_m0_findRing
  refine kFn_of (by decide +kernel) (Nat.le_of_ble_eq_true rfl) ?_
  show kOk _ _ _ _ _ _ _ _ [(0, .ref 10), (1, .ref 4), (2, .int a2), (3, .int a3)] _ _
  refine ok_aload_n 0 (kd_m0_findRing.at 0 rfl) rfl rfl ?_
  refine ok_iload_n 2 (kd_m0_findRing.at 1 rfl) rfl rfl ?_
  refine ok_iconst (v := 5) (kd_m0_findRing.at 2 rfl) (by decide) ?_
  refine ok_mmin (kd_m0_findRing.at 3 rfl) kc0_27 (by decide) (Nat.le_of_ble_eq_true rfl) ?_
  refine ok_putI (kd_m0_findRing.at 4 rfl) kf0_33 sh_10 rfl rfl ?_
  refine ok_nS (fun S1 hS1 => ?_)
  refine ok_aload_n 0 (kd_m0_findRing.at 5 rfl) rfl rfl ?_
  refine ok_iconst (v := 0) (kd_m0_findRing.at 6 rfl) (by decide) ?_
  refine ok_putI (kd_m0_findRing.at 7 rfl) kf0_45 sh_10 rfl rfl ?_
  refine ok_nS (fun S2 hS2 => ?_)
  refine ok_aload_n 0 (kd_m0_findRing.at 8 rfl) rfl rfl ?_
  refine ok_aload_n 1 (kd_m0_findRing.at 9 rfl) rfl rfl ?_
  refine ok_iload_n 3 (kd_m0_findRing.at 10 rfl) rfl rfl ?_
  refine ok_callVV (M' := m0_countDebtsHome) (as := [.ref 4, .int a3]) (st := []) (kd_m0_findRing.at 11 rfl) kc0_48 sh_10 rfl rfl (by decide) (ok_m0_countDebtsHome a3 S2) (by decide) rfl (Nat.le_of_ble_eq_true rfl) (fun q3 hq3 => ?_)
  refine ok_aload_n 0 (kd_m0_findRing.at 12 rfl) rfl rfl ?_
  refine ok_aload_n 1 (kd_m0_findRing.at 13 rfl) rfl rfl ?_
  refine ok_iload_n 3 (kd_m0_findRing.at 14 rfl) rfl rfl ?_
  refine ok_callVI (M' := m0_fewestDebtsBehind) (as := [.ref 4, .int a3]) (st := []) (kd_m0_findRing.at 15 rfl) kc0_52 sh_10 rfl rfl (by decide) (ok_m0_fewestDebtsBehind a3 q3) (by decide) rfl (Nat.le_of_ble_eq_true rfl) (fun q4 hq4 => ?_)
  refine ok_istore (lv' := [(4, .int q4.1), (0, .ref 10), (1, .ref 4), (2, .int a2), (3, .int a3)]) (kd_m0_findRing.at 16 rfl) (by decide) rfl ?_
  refine ok_iload 0 (kd_m0_findRing.at 17 rfl) rfl ?_
  refine ok_aload_n 1 (kd_m0_findRing.at 18 rfl) rfl rfl ?_
  refine ok_getI (kd_m0_findRing.at 19 rfl) kf0_33 sh_10 rfl ?_
  refine ok_icmp_le (tgt := 38) (kd_m0_findRing.at 20 rfl) (by decide) (fun h5 => ?_) (fun h5 => ?_)
  · refine ok_iload_n 4 (kd_m0_findRing.at 22 rfl) rfl rfl ?_
    refine ok_istore (lv' := [(5, .int a3), (4, .int q4.1), (0, .ref 10), (1, .ref 4), (2, .int a2), (3, .int a3)]) (kd_m0_findRing.at 23 rfl) (by decide) rfl ?_
    refine ok_aload_n 2 (kd_m0_findRing.at 24 rfl) rfl rfl ?_
    refine ok_getR (kd_m0_findRing.at 25 rfl) kf0_24 sh_10 rfl (kr_10_5 _) ?_
    refine ok_iconst (v := 0) (kd_m0_findRing.at 26 rfl) (by decide) ?_
    refine ok_iload_n 5 (kd_m0_findRing.at 27 rfl) rfl rfl ?_
    refine ok_iastK (j := 0) (kd_m0_findRing.at 28 rfl) sh_53 (by decide) (by decide) ?_
    refine ok_nS (fun S6 hS6 => ?_)
    refine ok_aload_n 2 (kd_m0_findRing.at 29 rfl) rfl rfl ?_
    refine ok_iconst (v := 1) (kd_m0_findRing.at 30 rfl) (by decide) ?_
    refine ok_putI (kd_m0_findRing.at 31 rfl) kf0_45 sh_10 rfl rfl ?_
    refine ok_nS (fun S7 hS7 => ?_)
    refine ok_sub (lv' := [(0, .ref 10), (1, .ref 4), (4, .int q4.1), (5, .int a3)]) [2, 3, 1, 0] rfl ?_
    refine ok_m0_findRing_L53 _ (fun S15 => ?_) kFU q4.1 a3 S7
    exact ok_return (kd_m0_findRing.at 58 rfl) rfl
  · exact ok_return (kd_m0_findRing.at 21 rfl) rfl
def f_m5_isUnsure_t_L2   (k20 : kSt → Option (Bool × kSt)) (k28 : kSt → Option (Bool × kSt)) (c1 : Int32) : Nat → Int32 → kSt → Option (Bool × kSt)
  | 0, _, _ => none
  | n + 1, v2, S =>
    if (S.1 1 5) ≤ v2 then
      k28  S
    else
      kgi v2 4 (
        if (S.1 23 v2.toNatClampNeg) = c1 then
          k20  S
        else
          knx (v2 + 1) fun x3 =>
          f_m5_isUnsure_t_L2 k20 k28 c1 n x3 S
      )
theorem ok_m5_isUnsure_t_L2 {l : Launch} {G : kG} {E : kE}    (c1 : Int32) (k20 : kSt → Option (Bool × kSt)) (k28 : kSt → Option (Bool × kSt)) (hk20 : ∀  (S : kSt), kOk l G E (kZ G E kjB) m5_isUnsure 1 (k20  S) 20 [] [] S) (hk28 : ∀  (S : kSt), kOk l G E (kZ G E kjB) m5_isUnsure 1 (k28  S) 28 [] [] S) : ∀ (n : Nat) (v2 : Int32) (S : kSt), kOk l G E (kZ G E kjB) m5_isUnsure 1 (f_m5_isUnsure_t_L2 k20 k28 c1 n v2 S) 2 [(0, .ref 1), (1, .int c1), (2, .int v2)] [] S := by
  intro n
  induction n with
  | zero => intro v2 S; exact ok_none
  | succ n ih =>
    intro v2 S
    rw [f_m5_isUnsure_t_L2]
    refine ok_iload_n 2 (kd_m5_isUnsure.at 2 rfl) rfl rfl ?_
    refine ok_aload_n 0 (kd_m5_isUnsure.at 3 rfl) rfl rfl ?_
    refine ok_getI (kd_m5_isUnsure.at 4 rfl) kf5_58 sh_1 rfl ?_
    refine ok_icmp_ge (tgt := 28) (kd_m5_isUnsure.at 5 rfl) (by decide) (fun h1 => ?_) (fun h1 => ?_)
    · refine ok_sub (lv' := []) [] rfl ?_
      exact hk28  S
    · refine ok_aload_n 0 (kd_m5_isUnsure.at 6 rfl) rfl rfl ?_
      refine ok_getR (kd_m5_isUnsure.at 7 rfl) kf5_27 sh_1 rfl (kr_1_12 _) ?_
      refine ok_iload_n 2 (kd_m5_isUnsure.at 8 rfl) rfl rfl ?_
      refine ok_iald (kd_m5_isUnsure.at 9 rfl) sh_23 ?_
      refine ok_iload_n 1 (kd_m5_isUnsure.at 10 rfl) rfl rfl ?_
      refine ok_icmp_ne (tgt := 22) (kd_m5_isUnsure.at 11 rfl) (by decide) (fun h2 => ?_) (fun h2 => ?_)
      · refine ok_nx (fun x3 hx3 => ?_)
        refine ok_iinc (v := x3) (lv' := [(2, .int x3), (0, .ref 1), (1, .int c1)]) 2 (kd_m5_isUnsure.at 14 rfl) rfl hx3.symm (by decide) rfl ?_
        refine ok_goto (tgt := 2) (kd_m5_isUnsure.at 15 rfl) (by decide) ?_
        refine ok_sub (lv' := [(0, .ref 1), (1, .int c1), (2, .int x3)]) [1, 2, 0] rfl ?_
        exact ih x3 S
      · refine ok_sub (lv' := []) [] rfl ?_
        exact hk20  S
def f_m5_isUnsure_t (a1 : Int32) (S : kSt) : Option (Bool × kSt) :=
  f_m5_isUnsure_t_L2 
    (fun  (S4 : kSt) =>
      some (true, S4)
    )
    (fun  (S5 : kSt) =>
      some (false, S5)
    )
    a1 kFU 0 S
theorem ok_m5_isUnsure_t {l : Launch} {G : kG} {E : kE} (a1 : Int32)  (S : kSt) : kFn l G E E kjB m5_isUnsure 1 [.ref 1, .int a1] S (f_m5_isUnsure_t a1 S) := by
  unfold f_m5_isUnsure_t
  refine kFn_of (by decide +kernel) (Nat.le_of_ble_eq_true rfl) ?_
  show kOk _ _ _ _ _ _ _ _ [(0, .ref 1), (1, .int a1)] _ _
  refine ok_iconst (v := 0) (kd_m5_isUnsure.at 0 rfl) (by decide) ?_
  refine ok_istore_n (lv' := [(2, .int 0), (0, .ref 1), (1, .int a1)]) (kd_m5_isUnsure.at 1 rfl) rfl (by decide) rfl ?_
  refine ok_sub (lv' := [(0, .ref 1), (1, .int a1), (2, .int 0)]) [1, 2, 0] rfl ?_
  refine ok_m5_isUnsure_t_L2 a1 _ _ (fun S4 => ?_) (fun S5 => ?_) kFU 0 S
  · refine ok_iconst (v := 1) (kd_m5_isUnsure.at 12 rfl) (by decide) ?_
    exact ok_zreturn (x := true) (kd_m5_isUnsure.at 13 rfl) rfl
  · refine ok_iconst (v := 0) (kd_m5_isUnsure.at 16 rfl) (by decide) ?_
    exact ok_zreturn (x := false) (kd_m5_isUnsure.at 17 rfl) rfl
def f_m9_beginAsTold (w0 : Nat) (a2 : Int32) (S : kSt) : Option kSt :=
  knx (kuI S w0 0 (S.1 1 0)) fun S1 =>
  kgi a2 5 (
    knx (kuI S1 w0 1 (S1.1 18 a2.toNatClampNeg)) fun S2 =>
    kgi a2 5 (
      knx (kuI S2 w0 2 (S2.1 20 a2.toNatClampNeg)) fun S3 =>
      kgi a2 5 (
        knx (kuI S3 w0 3 (S3.1 21 a2.toNatClampNeg)) fun S4 =>
        kgi a2 5 (
          knx (kuI S4 w0 4 (S4.1 19 a2.toNatClampNeg)) fun S5 =>
          knx (kuI S5 w0 5 0) fun S6 =>
          some S6
        )
      )
    )
  )
theorem ok_m9_beginAsTold {l : Launch} {G : kG} {E : kE} (w0 : Nat) (a2 : Int32) (hw0 : kSH[w0]? = some (0, 9, 6)) (S : kSt) : kFn l G E E kjV m9_beginAsTold 1 [.ref w0, .ref 1, .int a2] S (f_m9_beginAsTold w0 a2 S) := by
  unfold f_m9_beginAsTold
  refine kFn_of (by decide +kernel) (Nat.le_of_ble_eq_true rfl) ?_
  show kOk _ _ _ _ _ _ _ _ [(0, .ref w0), (1, .ref 1), (2, .int a2)] _ _
  refine ok_aload_n 0 (kd_m9_beginAsTold.at 0 rfl) rfl rfl ?_
  refine ok_aload_n 1 (kd_m9_beginAsTold.at 1 rfl) rfl rfl ?_
  refine ok_getI (kd_m9_beginAsTold.at 2 rfl) kf9_33 sh_1 rfl ?_
  refine ok_putI (kd_m9_beginAsTold.at 3 rfl) kf9_38 hw0 rfl rfl ?_
  refine ok_nS (fun S1 hS1 => ?_)
  refine ok_aload_n 0 (kd_m9_beginAsTold.at 4 rfl) rfl rfl ?_
  refine ok_aload_n 1 (kd_m9_beginAsTold.at 5 rfl) rfl rfl ?_
  refine ok_getR (kd_m9_beginAsTold.at 6 rfl) kf9_39 sh_1 rfl (kr_1_7 _) ?_
  refine ok_iload_n 2 (kd_m9_beginAsTold.at 7 rfl) rfl rfl ?_
  refine ok_iald (kd_m9_beginAsTold.at 8 rfl) sh_18 ?_
  refine ok_putI (kd_m9_beginAsTold.at 9 rfl) kf9_42 hw0 rfl rfl ?_
  refine ok_nS (fun S2 hS2 => ?_)
  refine ok_aload_n 0 (kd_m9_beginAsTold.at 10 rfl) rfl rfl ?_
  refine ok_aload_n 1 (kd_m9_beginAsTold.at 11 rfl) rfl rfl ?_
  refine ok_getR (kd_m9_beginAsTold.at 12 rfl) kf9_45 sh_1 rfl (kr_1_9 _) ?_
  refine ok_iload_n 2 (kd_m9_beginAsTold.at 13 rfl) rfl rfl ?_
  refine ok_iald (kd_m9_beginAsTold.at 14 rfl) sh_20 ?_
  refine ok_putI (kd_m9_beginAsTold.at 15 rfl) kf9_19 hw0 rfl rfl ?_
  refine ok_nS (fun S3 hS3 => ?_)
  refine ok_aload_n 0 (kd_m9_beginAsTold.at 16 rfl) rfl rfl ?_
  refine ok_aload_n 1 (kd_m9_beginAsTold.at 17 rfl) rfl rfl ?_
  refine ok_getR (kd_m9_beginAsTold.at 18 rfl) kf9_46 sh_1 rfl (kr_1_10 _) ?_
  refine ok_iload_n 2 (kd_m9_beginAsTold.at 19 rfl) rfl rfl ?_
  refine ok_iald (kd_m9_beginAsTold.at 20 rfl) sh_21 ?_
  refine ok_putI (kd_m9_beginAsTold.at 21 rfl) kf9_49 hw0 rfl rfl ?_
  refine ok_nS (fun S4 hS4 => ?_)
  refine ok_aload_n 0 (kd_m9_beginAsTold.at 22 rfl) rfl rfl ?_
  refine ok_aload_n 1 (kd_m9_beginAsTold.at 23 rfl) rfl rfl ?_
  refine ok_getR (kd_m9_beginAsTold.at 24 rfl) kf9_52 sh_1 rfl (kr_1_8 _) ?_
  refine ok_iload_n 2 (kd_m9_beginAsTold.at 25 rfl) rfl rfl ?_
  refine ok_iald (kd_m9_beginAsTold.at 26 rfl) sh_19 ?_
  refine ok_putI (kd_m9_beginAsTold.at 27 rfl) kf9_26 hw0 rfl rfl ?_
  refine ok_nS (fun S5 hS5 => ?_)
  refine ok_aload_n 0 (kd_m9_beginAsTold.at 28 rfl) rfl rfl ?_
  refine ok_iconst (v := 0) (kd_m9_beginAsTold.at 29 rfl) (by decide) ?_
  refine ok_putI (kd_m9_beginAsTold.at 30 rfl) kf9_32 hw0 rfl rfl ?_
  refine ok_nS (fun S6 hS6 => ?_)
  exact ok_return (kd_m9_beginAsTold.at 31 rfl) rfl
def f_m9_byLaw (w0 : Nat) (S : kSt) : Option (Int32 × kSt) :=
  kcase3 (ksw 0 2 (S.1 w0 1))
    (
      some ((S.1 w0 4) + (S.1 w0 2), S)
    )
    (
      some ((2 * (S.1 w0 4)) + (S.1 w0 2), S)
    )
    (
      some ((S.1 w0 4) - (S.1 w0 2), S)
    )
    (
      some (((S.1 w0 0) - (S.1 w0 4)) + (S.1 w0 2), S)
    )
theorem ok_m9_byLaw {l : Launch} {G : kG} {E : kE} (w0 : Nat) (hw0 : kSH[w0]? = some (0, 9, 6)) (S : kSt) : kFn l G E E kjI m9_byLaw 1 [.ref w0] S (f_m9_byLaw w0 S) := by
  unfold f_m9_byLaw
  refine kFn_of (by decide +kernel) (Nat.le_of_ble_eq_true rfl) ?_
  show kOk _ _ _ _ _ _ _ _ [(0, .ref w0)] _ _
  refine ok_aload_n 0 (kd_m9_byLaw.at 0 rfl) rfl rfl ?_
  refine ok_getI (kd_m9_byLaw.at 1 rfl) kf9_42 hw0 rfl ?_
  refine ok_table3 64 32 42 54 (kd_m9_byLaw.at 2 rfl) (by decide) (by decide) (by decide) (by decide) (by decide) ?_ ?_ ?_ ?_
  · refine ok_aload_n 0 (kd_m9_byLaw.at 23 rfl) rfl rfl ?_
    refine ok_getI (kd_m9_byLaw.at 24 rfl) kf9_38 hw0 rfl ?_
    refine ok_aload_n 0 (kd_m9_byLaw.at 25 rfl) rfl rfl ?_
    refine ok_getI (kd_m9_byLaw.at 26 rfl) kf9_26 hw0 rfl ?_
    refine ok_isub (kd_m9_byLaw.at 27 rfl) ?_
    refine ok_aload_n 0 (kd_m9_byLaw.at 28 rfl) rfl rfl ?_
    refine ok_getI (kd_m9_byLaw.at 29 rfl) kf9_19 hw0 rfl ?_
    refine ok_iadd (kd_m9_byLaw.at 30 rfl) ?_
    exact ok_ireturn (kd_m9_byLaw.at 31 rfl) rfl
  · refine ok_aload_n 0 (kd_m9_byLaw.at 3 rfl) rfl rfl ?_
    refine ok_getI (kd_m9_byLaw.at 4 rfl) kf9_26 hw0 rfl ?_
    refine ok_aload_n 0 (kd_m9_byLaw.at 5 rfl) rfl rfl ?_
    refine ok_getI (kd_m9_byLaw.at 6 rfl) kf9_19 hw0 rfl ?_
    refine ok_iadd (kd_m9_byLaw.at 7 rfl) ?_
    exact ok_ireturn (kd_m9_byLaw.at 8 rfl) rfl
  · refine ok_iconst (v := 2) (kd_m9_byLaw.at 9 rfl) (by decide) ?_
    refine ok_aload_n 0 (kd_m9_byLaw.at 10 rfl) rfl rfl ?_
    refine ok_getI (kd_m9_byLaw.at 11 rfl) kf9_26 hw0 rfl ?_
    refine ok_imul (kd_m9_byLaw.at 12 rfl) ?_
    refine ok_aload_n 0 (kd_m9_byLaw.at 13 rfl) rfl rfl ?_
    refine ok_getI (kd_m9_byLaw.at 14 rfl) kf9_19 hw0 rfl ?_
    refine ok_iadd (kd_m9_byLaw.at 15 rfl) ?_
    exact ok_ireturn (kd_m9_byLaw.at 16 rfl) rfl
  · refine ok_aload_n 0 (kd_m9_byLaw.at 17 rfl) rfl rfl ?_
    refine ok_getI (kd_m9_byLaw.at 18 rfl) kf9_26 hw0 rfl ?_
    refine ok_aload_n 0 (kd_m9_byLaw.at 19 rfl) rfl rfl ?_
    refine ok_getI (kd_m9_byLaw.at 20 rfl) kf9_19 hw0 rfl ?_
    refine ok_isub (kd_m9_byLaw.at 21 rfl) ?_
    exact ok_ireturn (kd_m9_byLaw.at 22 rfl) rfl
def f_m9_goDumb (w0 : Nat) (S : kSt) : Option kSt :=
  knx (kuI S w0 5 ((S.1 w0 5) + 1)) fun S1 =>
  if (S1.1 w0 3) ≤ 0 then
    some S1
  else
    knx (S1.1 w0 3) fun x3 =>
    kgz x3 (
      if (krem (S1.1 w0 5) x3) = 0 then
        knx (kuI S1 w0 4 ((S1.1 w0 0) - (S1.1 w0 4))) fun S5 =>
        some S5
      else
        some S1
    )
theorem ok_m9_goDumb {l : Launch} {G : kG} {E : kE} (w0 : Nat) (hw0 : kSH[w0]? = some (0, 9, 6)) (S : kSt) : kFn l G E E kjV m9_goDumb 1 [.ref w0] S (f_m9_goDumb w0 S) := by
  unfold f_m9_goDumb
  refine kFn_of (by decide +kernel) (Nat.le_of_ble_eq_true rfl) ?_
  show kOk _ _ _ _ _ _ _ _ [(0, .ref w0)] _ _
  refine ok_aload_n 0 (kd_m9_goDumb.at 0 rfl) rfl rfl ?_
  refine ok_dup (kd_m9_goDumb.at 1 rfl) rfl ?_
  refine ok_getI (kd_m9_goDumb.at 2 rfl) kf9_32 hw0 rfl ?_
  refine ok_iconst (v := 1) (kd_m9_goDumb.at 3 rfl) (by decide) ?_
  refine ok_iadd (kd_m9_goDumb.at 4 rfl) ?_
  refine ok_putI (kd_m9_goDumb.at 5 rfl) kf9_32 hw0 rfl rfl ?_
  refine ok_nS (fun S1 hS1 => ?_)
  refine ok_aload_n 0 (kd_m9_goDumb.at 6 rfl) rfl rfl ?_
  refine ok_getI (kd_m9_goDumb.at 7 rfl) kf9_49 hw0 rfl ?_
  refine ok_if_le (tgt := 42) (kd_m9_goDumb.at 8 rfl) (by decide) (fun h2 => ?_) (fun h2 => ?_)
  · exact ok_return (kd_m9_goDumb.at 22 rfl) rfl
  · refine ok_aload_n 0 (kd_m9_goDumb.at 9 rfl) rfl rfl ?_
    refine ok_getI (kd_m9_goDumb.at 10 rfl) kf9_32 hw0 rfl ?_
    refine ok_aload_n 0 (kd_m9_goDumb.at 11 rfl) rfl rfl ?_
    refine ok_getI (kd_m9_goDumb.at 12 rfl) kf9_49 hw0 rfl ?_
    refine ok_topi (fun x3 hx3 => ?_)
    refine ok_iremG (kd_m9_goDumb.at 13 rfl) ?_
    refine ok_if_ne (tgt := 42) (kd_m9_goDumb.at 14 rfl) (by decide) (fun h4 => ?_) (fun h4 => ?_)
    · exact ok_return (kd_m9_goDumb.at 22 rfl) rfl
    · refine ok_aload_n 0 (kd_m9_goDumb.at 15 rfl) rfl rfl ?_
      refine ok_aload_n 0 (kd_m9_goDumb.at 16 rfl) rfl rfl ?_
      refine ok_getI (kd_m9_goDumb.at 17 rfl) kf9_38 hw0 rfl ?_
      refine ok_aload_n 0 (kd_m9_goDumb.at 18 rfl) rfl rfl ?_
      refine ok_getI (kd_m9_goDumb.at 19 rfl) kf9_26 hw0 rfl ?_
      refine ok_isub (kd_m9_goDumb.at 20 rfl) ?_
      refine ok_putI (kd_m9_goDumb.at 21 rfl) kf9_26 hw0 rfl rfl ?_
      refine ok_nS (fun S5 hS5 => ?_)
      exact ok_return (kd_m9_goDumb.at 22 rfl) rfl
def f_m9_go (w0 : Nat) (S : kSt) : Option kSt :=
  (f_m9_byLaw w0 S).bind fun q1 =>
  knx (kuI q1.2 w0 4 (kmax 0 (kmin (S.1 w0 0) q1.1))) fun S2 =>
  (f_m9_goDumb w0 S2).bind fun q3 =>
  some q3
theorem ok_m9_go {l : Launch} {G : kG} {E : kE} (w0 : Nat) (hw0 : kSH[w0]? = some (0, 9, 6)) (S : kSt) : kFn l G E E kjV m9_go 2 [.ref w0] S (f_m9_go w0 S) := by
  unfold f_m9_go
  refine kFn_of (by decide +kernel) (Nat.le_of_ble_eq_true rfl) ?_
  show kOk _ _ _ _ _ _ _ _ [(0, .ref w0)] _ _
  refine ok_aload_n 0 (kd_m9_go.at 0 rfl) rfl rfl ?_
  refine ok_iconst (v := 0) (kd_m9_go.at 1 rfl) (by decide) ?_
  refine ok_aload_n 0 (kd_m9_go.at 2 rfl) rfl rfl ?_
  refine ok_getI (kd_m9_go.at 3 rfl) kf9_38 hw0 rfl ?_
  refine ok_aload_n 0 (kd_m9_go.at 4 rfl) rfl rfl ?_
  refine ok_callVI (M' := m9_byLaw) (as := []) (st := [.int (S.1 w0 0), .int 0, .ref w0]) (kd_m9_go.at 5 rfl) kc9_53 hw0 rfl rfl (by decide) (ok_m9_byLaw w0 hw0 S) (by decide) rfl (Nat.le_of_ble_eq_true rfl) (fun q1 hq1 => ?_)
  refine ok_mmin (kd_m9_go.at 6 rfl) kc9_57 (by decide) (Nat.le_of_ble_eq_true rfl) ?_
  refine ok_mmax (kd_m9_go.at 7 rfl) kc9_63 (by decide) (Nat.le_of_ble_eq_true rfl) ?_
  refine ok_putI (kd_m9_go.at 8 rfl) kf9_26 hw0 rfl rfl ?_
  refine ok_nS (fun S2 hS2 => ?_)
  refine ok_aload_n 0 (kd_m9_go.at 9 rfl) rfl rfl ?_
  refine ok_callVV (M' := m9_goDumb) (as := []) (st := []) (kd_m9_go.at 10 rfl) kc9_66 hw0 rfl rfl (by decide) (ok_m9_goDumb w0 hw0 S2) (by decide) rfl (Nat.le_of_ble_eq_true rfl) (fun q3 hq3 => ?_)
  exact ok_return (kd_m9_go.at 11 rfl) rfl
def f_m9_goOn_L2 (w0 : Nat)  (k17 : kSt → Option kSt) (c1 : Int32) : Nat → Int32 → kSt → Option kSt
  | 0, _, _ => none
  | n + 1, v2, S =>
    if c1 ≤ v2 then
      k17  S
    else
      (f_m9_go w0 S).bind fun q2 =>
      knx (v2 + 1) fun x3 =>
      f_m9_goOn_L2 w0 k17 c1 n x3 q2
theorem ok_m9_goOn_L2 {l : Launch} {G : kG} {E : kE} (w0 : Nat) (hw0 : kSH[w0]? = some (0, 9, 6))  (c1 : Int32) (k17 : kSt → Option kSt) (hk17 : ∀  (S : kSt), kOk l G E (kZ G E kjV) m9_goOn 3 (k17  S) 17 [] [] S) : ∀ (n : Nat) (v2 : Int32) (S : kSt), kOk l G E (kZ G E kjV) m9_goOn 3 (f_m9_goOn_L2 w0 k17 c1 n v2 S) 2 [(0, .ref w0), (1, .int c1), (2, .int v2)] [] S := by
  intro n
  induction n with
  | zero => intro v2 S; exact ok_none
  | succ n ih =>
    intro v2 S
    rw [f_m9_goOn_L2]
    refine ok_iload_n 2 (kd_m9_goOn.at 2 rfl) rfl rfl ?_
    refine ok_iload_n 1 (kd_m9_goOn.at 3 rfl) rfl rfl ?_
    refine ok_icmp_ge (tgt := 17) (kd_m9_goOn.at 4 rfl) (by decide) (fun h1 => ?_) (fun h1 => ?_)
    · refine ok_sub (lv' := []) [] rfl ?_
      exact hk17  S
    · refine ok_aload_n 0 (kd_m9_goOn.at 5 rfl) rfl rfl ?_
      refine ok_callVV (M' := m9_go) (as := []) (st := []) (kd_m9_goOn.at 6 rfl) kc9_69 hw0 rfl rfl (by decide) (ok_m9_go w0 hw0 S) (by decide) rfl (Nat.le_of_ble_eq_true rfl) (fun q2 hq2 => ?_)
      refine ok_nx (fun x3 hx3 => ?_)
      refine ok_iinc (v := x3) (lv' := [(2, .int x3), (0, .ref w0), (1, .int c1)]) 2 (kd_m9_goOn.at 7 rfl) rfl hx3.symm (by decide) rfl ?_
      refine ok_goto (tgt := 2) (kd_m9_goOn.at 8 rfl) (by decide) ?_
      refine ok_sub (lv' := [(0, .ref w0), (1, .int c1), (2, .int x3)]) [1, 2, 0] rfl ?_
      exact ih x3 q2
def f_m9_goOn (w0 : Nat) (a1 : Int32) (S : kSt) : Option kSt :=
  f_m9_goOn_L2 w0
    (fun  (S4 : kSt) =>
      some S4
    )
    a1 kFU 0 S
theorem ok_m9_goOn {l : Launch} {G : kG} {E : kE} (w0 : Nat) (a1 : Int32) (hw0 : kSH[w0]? = some (0, 9, 6)) (S : kSt) : kFn l G E E kjV m9_goOn 3 [.ref w0, .int a1] S (f_m9_goOn w0 a1 S) := by
  unfold f_m9_goOn
  refine kFn_of (by decide +kernel) (Nat.le_of_ble_eq_true rfl) ?_
  show kOk _ _ _ _ _ _ _ _ [(0, .ref w0), (1, .int a1)] _ _
  refine ok_iconst (v := 0) (kd_m9_goOn.at 0 rfl) (by decide) ?_
  refine ok_istore_n (lv' := [(2, .int 0), (0, .ref w0), (1, .int a1)]) (kd_m9_goOn.at 1 rfl) rfl (by decide) rfl ?_
  refine ok_sub (lv' := [(0, .ref w0), (1, .int a1), (2, .int 0)]) [1, 2, 0] rfl ?_
  refine ok_m9_goOn_L2 w0 hw0 a1 _ (fun S4 => ?_) kFU 0 S
  exact ok_return (kd_m9_goOn.at 9 rfl) rfl
def f_m1_fitsHeard_L3   (k71 : kSt → Option (Bool × kSt)) (k79 : kSt → Option (Bool × kSt)) (c2 : Int32) (c3 : Int32) : Nat → Int32 → kSt → Option (Bool × kSt)
  | 0, _, _ => none
  | n + 1, v4, S =>
    if (S.1 1 6) ≤ v4 then
      k79  S
    else
      kgi v4 8 (
        knx (fun  (S2 : kSt) =>
          knx (v4 + 1) fun x3 =>
          f_m1_fitsHeard_L3 k71 k79 c2 c3 n x3 S2
          ) fun j73 =>
        if (S.1 25 v4.toNatClampNeg) = c2 then
          (f_m9_beginAsTold 13 c2 S).bind fun q5 =>
          knx (kuI q5 13 2 c3) fun S6 =>
          kgi v4 8 (
            (f_m9_goOn 13 (S6.1 26 v4.toNatClampNeg) S6).bind fun q7 =>
            kgi v4 8 (
              if (q7.1 13 4) = (q7.1 27 v4.toNatClampNeg) then
                j73  q7
              else
                k71  q7
            )
          )
        else
          j73  S
      )
theorem ok_m1_fitsHeard_L3 {l : Launch} {G : kG} {E : kE}    (c2 : Int32) (c3 : Int32) (k71 : kSt → Option (Bool × kSt)) (k79 : kSt → Option (Bool × kSt)) (hk71 : ∀  (S : kSt), kOk l G E (kZ G E kjB) m1_fitsHeard 4 (k71  S) 71 [] [] S) (hk79 : ∀  (S : kSt), kOk l G E (kZ G E kjB) m1_fitsHeard 4 (k79  S) 79 [] [] S) : ∀ (n : Nat) (v4 : Int32) (S : kSt), kOk l G E (kZ G E kjB) m1_fitsHeard 4 (f_m1_fitsHeard_L3 k71 k79 c2 c3 n v4 S) 3 [(0, .ref 9), (1, .ref 1), (2, .int c2), (3, .int c3), (4, .int v4)] [] S := by
  intro n
  induction n with
  | zero => intro v4 S; exact ok_none
  | succ n ih =>
    intro v4 S
    rw [f_m1_fitsHeard_L3]
    refine ok_iload 4 (kd_m1_fitsHeard.at 2 rfl) rfl ?_
    refine ok_aload_n 1 (kd_m1_fitsHeard.at 3 rfl) rfl rfl ?_
    refine ok_getI (kd_m1_fitsHeard.at 4 rfl) kf1_61 sh_1 rfl ?_
    refine ok_icmp_ge (tgt := 79) (kd_m1_fitsHeard.at 5 rfl) (by decide) (fun h1 => ?_) (fun h1 => ?_)
    · refine ok_sub (lv' := []) [] rfl ?_
      exact hk79  S
    · refine ok_aload_n 1 (kd_m1_fitsHeard.at 6 rfl) rfl rfl ?_
      refine ok_getR (kd_m1_fitsHeard.at 7 rfl) kf1_64 sh_1 rfl (kr_1_14 _) ?_
      refine ok_iload 4 (kd_m1_fitsHeard.at 8 rfl) rfl ?_
      refine ok_iald (kd_m1_fitsHeard.at 9 rfl) sh_25 ?_
      refine ok_iload_n 2 (kd_m1_fitsHeard.at 10 rfl) rfl rfl ?_
      refine ok_nx (fun j73 hj73 => ?_)
      have K73 : ∀  (S2 : kSt), kOk l G E (kZ G E kjB) m1_fitsHeard 4 (j73  S2) 73 [(0, .ref 9), (1, .ref 1), (2, .int c2), (3, .int c3), (4, .int v4)] [] S2 := by
        subst hj73
        intro  S2
        refine ok_nx (fun x3 hx3 => ?_)
        refine ok_iinc (v := x3) (lv' := [(4, .int x3), (0, .ref 9), (1, .ref 1), (2, .int c2), (3, .int c3)]) 4 (kd_m1_fitsHeard.at 38 rfl) rfl hx3.symm (by decide) rfl ?_
        refine ok_goto (tgt := 3) (kd_m1_fitsHeard.at 39 rfl) (by decide) ?_
        refine ok_sub (lv' := [(0, .ref 9), (1, .ref 1), (2, .int c2), (3, .int c3), (4, .int x3)]) [1, 2, 3, 4, 0] rfl ?_
        exact ih x3 S2
      clear hj73
      refine ok_icmp_ne (tgt := 73) (kd_m1_fitsHeard.at 11 rfl) (by decide) (fun h4 => ?_) (fun h4 => ?_)
      · exact K73  S
      · refine ok_aload_n 0 (kd_m1_fitsHeard.at 12 rfl) rfl rfl ?_
        refine ok_getR (kd_m1_fitsHeard.at 13 rfl) kf1_12 sh_9 rfl (kr_9_0 _) ?_
        refine ok_aload_n 1 (kd_m1_fitsHeard.at 14 rfl) rfl rfl ?_
        refine ok_iload_n 2 (kd_m1_fitsHeard.at 15 rfl) rfl rfl ?_
        refine ok_callVV (M' := m9_beginAsTold) (as := [.ref 1, .int c2]) (st := []) (kd_m1_fitsHeard.at 16 rfl) kc1_67 sh_13 rfl rfl (by decide) (ok_m9_beginAsTold 13 c2 sh_13 S) (by decide) rfl (Nat.le_of_ble_eq_true rfl) (fun q5 hq5 => ?_)
        refine ok_aload_n 0 (kd_m1_fitsHeard.at 17 rfl) rfl rfl ?_
        refine ok_getR (kd_m1_fitsHeard.at 18 rfl) kf1_12 sh_9 rfl (kr_9_0 _) ?_
        refine ok_iload_n 3 (kd_m1_fitsHeard.at 19 rfl) rfl rfl ?_
        refine ok_putI (kd_m1_fitsHeard.at 20 rfl) kf1_71 sh_13 rfl rfl ?_
        refine ok_nS (fun S6 hS6 => ?_)
        refine ok_aload_n 0 (kd_m1_fitsHeard.at 21 rfl) rfl rfl ?_
        refine ok_getR (kd_m1_fitsHeard.at 22 rfl) kf1_12 sh_9 rfl (kr_9_0 _) ?_
        refine ok_aload_n 1 (kd_m1_fitsHeard.at 23 rfl) rfl rfl ?_
        refine ok_getR (kd_m1_fitsHeard.at 24 rfl) kf1_74 sh_1 rfl (kr_1_15 _) ?_
        refine ok_iload 4 (kd_m1_fitsHeard.at 25 rfl) rfl ?_
        refine ok_iald (kd_m1_fitsHeard.at 26 rfl) sh_26 ?_
        refine ok_callVV (M' := m9_goOn) (as := [.int (S6.1 26 v4.toNatClampNeg)]) (st := []) (kd_m1_fitsHeard.at 27 rfl) kc1_77 sh_13 rfl rfl (by decide) (ok_m9_goOn 13 (S6.1 26 v4.toNatClampNeg) sh_13 S6) (by decide) rfl (Nat.le_of_ble_eq_true rfl) (fun q7 hq7 => ?_)
        refine ok_aload_n 0 (kd_m1_fitsHeard.at 28 rfl) rfl rfl ?_
        refine ok_getR (kd_m1_fitsHeard.at 29 rfl) kf1_12 sh_9 rfl (kr_9_0 _) ?_
        refine ok_getI (kd_m1_fitsHeard.at 30 rfl) kf1_81 sh_13 rfl ?_
        refine ok_aload_n 1 (kd_m1_fitsHeard.at 31 rfl) rfl rfl ?_
        refine ok_getR (kd_m1_fitsHeard.at 32 rfl) kf1_84 sh_1 rfl (kr_1_16 _) ?_
        refine ok_iload 4 (kd_m1_fitsHeard.at 33 rfl) rfl ?_
        refine ok_iald (kd_m1_fitsHeard.at 34 rfl) sh_27 ?_
        refine ok_icmp_eq (tgt := 73) (kd_m1_fitsHeard.at 35 rfl) (by decide) (fun h8 => ?_) (fun h8 => ?_)
        · exact K73  q7
        · refine ok_sub (lv' := []) [] rfl ?_
          exact hk71  q7
def f_m1_fitsHeard (a2 : Int32) (a3 : Int32) (S : kSt) : Option (Bool × kSt) :=
  f_m1_fitsHeard_L3 
    (fun  (S9 : kSt) =>
      some (false, S9)
    )
    (fun  (S10 : kSt) =>
      some (true, S10)
    )
    a2 a3 kFU 0 S
theorem ok_m1_fitsHeard {l : Launch} {G : kG} {E : kE} (a2 : Int32) (a3 : Int32)  (S : kSt) : kFn l G E E kjB m1_fitsHeard 4 [.ref 9, .ref 1, .int a2, .int a3] S (f_m1_fitsHeard a2 a3 S) := by
  unfold f_m1_fitsHeard
  refine kFn_of (by decide +kernel) (Nat.le_of_ble_eq_true rfl) ?_
  show kOk _ _ _ _ _ _ _ _ [(0, .ref 9), (1, .ref 1), (2, .int a2), (3, .int a3)] _ _
  refine ok_iconst (v := 0) (kd_m1_fitsHeard.at 0 rfl) (by decide) ?_
  refine ok_istore (lv' := [(4, .int 0), (0, .ref 9), (1, .ref 1), (2, .int a2), (3, .int a3)]) (kd_m1_fitsHeard.at 1 rfl) (by decide) rfl ?_
  refine ok_sub (lv' := [(0, .ref 9), (1, .ref 1), (2, .int a2), (3, .int a3), (4, .int 0)]) [1, 2, 3, 4, 0] rfl ?_
  refine ok_m1_fitsHeard_L3 a2 a3 _ _ (fun S9 => ?_) (fun S10 => ?_) kFU 0 S
  · refine ok_iconst (v := 0) (kd_m1_fitsHeard.at 36 rfl) (by decide) ?_
    exact ok_zreturn (x := false) (kd_m1_fitsHeard.at 37 rfl) rfl
  · refine ok_iconst (v := 1) (kd_m1_fitsHeard.at 40 rfl) (by decide) ?_
    exact ok_zreturn (x := true) (kd_m1_fitsHeard.at 41 rfl) rfl
def f_m1_isFit_L2   (k37 : kSt → Option (Bool × kSt)) (k45 : kSt → Option (Bool × kSt)) (c1 : Int32) (c2 : Int32) : Nat → Int32 → kSt → Option (Bool × kSt)
  | 0, _, _ => none
  | n + 1, v3, S =>
    if c2 ≤ v3 then
      k45  S
    else
      knx (fun (x2 : Int32) (S3 : kSt) =>
        if x2 = 0 then
          k37  S3
        else
          knx (v3 + 1) fun x5 =>
          f_m1_isFit_L2 k37 k45 c1 c2 n x5 S3
        ) fun j30 =>
      if ((c1 >>> (v3 &&& 31)) &&& 1) = 0 then
        kgi v3 4 (
          j30 (S.1 46 v3.toNatClampNeg) S
        )
      else
        kgi v3 4 (
          j30 (S.1 47 v3.toNatClampNeg) S
        )
theorem ok_m1_isFit_L2 {l : Launch} {G : kG} {E : kE}    (c1 : Int32) (c2 : Int32) (k37 : kSt → Option (Bool × kSt)) (k45 : kSt → Option (Bool × kSt)) (hk37 : ∀  (S : kSt), kOk l G E (kZ G E kjB) m1_isFit 1 (k37  S) 37 [] [] S) (hk45 : ∀  (S : kSt), kOk l G E (kZ G E kjB) m1_isFit 1 (k45  S) 45 [] [] S) : ∀ (n : Nat) (v3 : Int32) (S : kSt), kOk l G E (kZ G E kjB) m1_isFit 1 (f_m1_isFit_L2 k37 k45 c1 c2 n v3 S) 2 [(0, .ref 9), (1, .int c1), (2, .int c2), (3, .int v3)] [] S := by
  intro n
  induction n with
  | zero => intro v3 S; exact ok_none
  | succ n ih =>
    intro v3 S
    rw [f_m1_isFit_L2]
    refine ok_iload_n 3 (kd_m1_isFit.at 2 rfl) rfl rfl ?_
    refine ok_iload_n 2 (kd_m1_isFit.at 3 rfl) rfl rfl ?_
    refine ok_icmp_ge (tgt := 45) (kd_m1_isFit.at 4 rfl) (by decide) (fun h1 => ?_) (fun h1 => ?_)
    · refine ok_sub (lv' := []) [] rfl ?_
      exact hk45  S
    · refine ok_iload_n 1 (kd_m1_isFit.at 5 rfl) rfl rfl ?_
      refine ok_iload_n 3 (kd_m1_isFit.at 6 rfl) rfl rfl ?_
      refine ok_ishr (kd_m1_isFit.at 7 rfl) ?_
      refine ok_iconst (v := 1) (kd_m1_isFit.at 8 rfl) (by decide) ?_
      refine ok_iand (kd_m1_isFit.at 9 rfl) ?_
      refine ok_nx (fun j30 hj30 => ?_)
      have K30 : ∀ (x2 : Int32) (S3 : kSt), kOk l G E (kZ G E kjB) m1_isFit 1 (j30 x2 S3) 30 [(0, .ref 9), (1, .int c1), (2, .int c2), (3, .int v3)] [.int x2] S3 := by
        subst hj30
        intro x2 S3
        refine ok_istore (lv' := [(4, .int x2), (0, .ref 9), (1, .int c1), (2, .int c2), (3, .int v3)]) (kd_m1_isFit.at 20 rfl) (by decide) rfl ?_
        refine ok_iload 0 (kd_m1_isFit.at 21 rfl) rfl ?_
        refine ok_if_ne (tgt := 39) (kd_m1_isFit.at 22 rfl) (by decide) (fun h4 => ?_) (fun h4 => ?_)
        · refine ok_nx (fun x5 hx5 => ?_)
          refine ok_iinc (v := x5) (lv' := [(3, .int x5), (4, .int x2), (0, .ref 9), (1, .int c1), (2, .int c2)]) 4 (kd_m1_isFit.at 25 rfl) rfl hx5.symm (by decide) rfl ?_
          refine ok_goto (tgt := 2) (kd_m1_isFit.at 26 rfl) (by decide) ?_
          refine ok_sub (lv' := [(0, .ref 9), (1, .int c1), (2, .int c2), (3, .int x5)]) [2, 3, 4, 0] rfl ?_
          exact ih x5 S3
        · refine ok_sub (lv' := []) [] rfl ?_
          exact hk37  S3
      clear hj30
      refine ok_if_eq (tgt := 24) (kd_m1_isFit.at 10 rfl) (by decide) (fun h6 => ?_) (fun h6 => ?_)
      · refine ok_aload_n 0 (kd_m1_isFit.at 16 rfl) rfl rfl ?_
        refine ok_getR (kd_m1_isFit.at 17 rfl) kf1_18 sh_9 rfl (kr_9_1 _) ?_
        refine ok_iload_n 3 (kd_m1_isFit.at 18 rfl) rfl rfl ?_
        refine ok_iald (kd_m1_isFit.at 19 rfl) sh_46 ?_
        exact K30 (S.1 46 v3.toNatClampNeg) S
      · refine ok_aload_n 0 (kd_m1_isFit.at 11 rfl) rfl rfl ?_
        refine ok_getR (kd_m1_isFit.at 12 rfl) kf1_22 sh_9 rfl (kr_9_2 _) ?_
        refine ok_iload_n 3 (kd_m1_isFit.at 13 rfl) rfl rfl ?_
        refine ok_iald (kd_m1_isFit.at 14 rfl) sh_47 ?_
        refine ok_goto (tgt := 30) (kd_m1_isFit.at 15 rfl) (by decide) ?_
        exact K30 (S.1 47 v3.toNatClampNeg) S
def f_m1_isFit (a1 : Int32) (a2 : Int32) (S : kSt) : Option (Bool × kSt) :=
  f_m1_isFit_L2 
    (fun  (S7 : kSt) =>
      some (false, S7)
    )
    (fun  (S8 : kSt) =>
      some (true, S8)
    )
    a1 a2 kFU 0 S
theorem ok_m1_isFit {l : Launch} {G : kG} {E : kE} (a1 : Int32) (a2 : Int32)  (S : kSt) : kFn l G E E kjB m1_isFit 1 [.ref 9, .int a1, .int a2] S (f_m1_isFit a1 a2 S) := by
  unfold f_m1_isFit
  refine kFn_of (by decide +kernel) (Nat.le_of_ble_eq_true rfl) ?_
  show kOk _ _ _ _ _ _ _ _ [(0, .ref 9), (1, .int a1), (2, .int a2)] _ _
  refine ok_iconst (v := 0) (kd_m1_isFit.at 0 rfl) (by decide) ?_
  refine ok_istore_n (lv' := [(3, .int 0), (0, .ref 9), (1, .int a1), (2, .int a2)]) (kd_m1_isFit.at 1 rfl) rfl (by decide) rfl ?_
  refine ok_sub (lv' := [(0, .ref 9), (1, .int a1), (2, .int a2), (3, .int 0)]) [1, 2, 3, 0] rfl ?_
  refine ok_m1_isFit_L2 a1 a2 _ _ (fun S7 => ?_) (fun S8 => ?_) kFU 0 S
  · refine ok_iconst (v := 0) (kd_m1_isFit.at 23 rfl) (by decide) ?_
    exact ok_zreturn (x := false) (kd_m1_isFit.at 24 rfl) rfl
  · refine ok_iconst (v := 1) (kd_m1_isFit.at 27 rfl) (by decide) ?_
    exact ok_zreturn (x := true) (kd_m1_isFit.at 28 rfl) rfl
def f_m1_find_L7   (k38 : kSt → Option kSt) (k45 : kSt → Option kSt)  : Nat → Int32 → kSt → Option kSt
  | 0, _, _ => none
  | n + 1, v2, S =>
    if (S.1 1 2) ≤ v2 then
      k45  S
    else
      (f_m5_isUnsure_t v2 S).bind fun q3 =>
      knx (fun  (S4 : kSt) =>
        knx (v2 + 1) fun x5 =>
        f_m1_find_L7 k38 k45 n x5 S4
        ) fun j39 =>
      if q3.1 then
        j39  q3.2
      else
        kgi v2 5 (
          (f_m1_fitsHeard v2 (q3.2.1 20 v2.toNatClampNeg) q3.2).bind fun q7 =>
          if q7.1 then
            j39  q7.2
          else
            k38  q7.2
        )
theorem ok_m1_find_L7 {l : Launch} {G : kG} {E : kE}     (k38 : kSt → Option kSt) (k45 : kSt → Option kSt) (hk38 : ∀  (S : kSt), kOk l G E (kZ G E kjV) m1_find 5 (k38  S) 38 [] [] S) (hk45 : ∀  (S : kSt), kOk l G E (kZ G E kjV) m1_find 5 (k45  S) 45 [(0, .ref 9), (1, .ref 1)] [] S) : ∀ (n : Nat) (v2 : Int32) (S : kSt), kOk l G E (kZ G E kjV) m1_find 5 (f_m1_find_L7 k38 k45 n v2 S) 7 [(0, .ref 9), (1, .ref 1), (2, .int v2)] [] S := by
  intro n
  induction n with
  | zero => intro v2 S; exact ok_none
  | succ n ih =>
    intro v2 S
    rw [f_m1_find_L7]
    refine ok_iload_n 2 (kd_m1_find.at 5 rfl) rfl rfl ?_
    refine ok_aload_n 1 (kd_m1_find.at 6 rfl) rfl rfl ?_
    refine ok_getI (kd_m1_find.at 7 rfl) kf1_32 sh_1 rfl ?_
    refine ok_icmp_ge (tgt := 45) (kd_m1_find.at 8 rfl) (by decide) (fun h2 => ?_) (fun h2 => ?_)
    · refine ok_sub (lv' := [(0, .ref 9), (1, .ref 1)]) [0, 1] rfl ?_
      exact hk45  S
    · refine ok_aload_n 1 (kd_m1_find.at 9 rfl) rfl rfl ?_
      refine ok_iload_n 2 (kd_m1_find.at 10 rfl) rfl rfl ?_
      refine ok_callVB (M' := m5_isUnsure) (as := [.int v2]) (st := []) (kd_m1_find.at 11 rfl) kc1_37 sh_1 rfl rfl (by decide) (ok_m5_isUnsure_t v2 S) (by decide) rfl (Nat.le_of_ble_eq_true rfl) (fun q3 hq3 => ?_)
      refine ok_nx (fun j39 hj39 => ?_)
      have K39 : ∀  (S4 : kSt), kOk l G E (kZ G E kjV) m1_find 5 (j39  S4) 39 [(0, .ref 9), (1, .ref 1), (2, .int v2)] [] S4 := by
        subst hj39
        intro  S4
        refine ok_nx (fun x5 hx5 => ?_)
        refine ok_iinc (v := x5) (lv' := [(2, .int x5), (0, .ref 9), (1, .ref 1)]) 2 (kd_m1_find.at 23 rfl) rfl hx5.symm (by decide) rfl ?_
        refine ok_goto (tgt := 7) (kd_m1_find.at 24 rfl) (by decide) ?_
        refine ok_sub (lv' := [(0, .ref 9), (1, .ref 1), (2, .int x5)]) [1, 2, 0] rfl ?_
        exact ih x5 S4
      clear hj39
      refine ok_ifb_ne (tgt := 39) (kd_m1_find.at 12 rfl) (by decide) (fun h6 => ?_) (fun h6 => ?_)
      · exact K39  q3.2
      · refine ok_aload_n 0 (kd_m1_find.at 13 rfl) rfl rfl ?_
        refine ok_aload_n 1 (kd_m1_find.at 14 rfl) rfl rfl ?_
        refine ok_iload_n 2 (kd_m1_find.at 15 rfl) rfl rfl ?_
        refine ok_aload_n 1 (kd_m1_find.at 16 rfl) rfl rfl ?_
        refine ok_getR (kd_m1_find.at 17 rfl) kf1_41 sh_1 rfl (kr_1_9 _) ?_
        refine ok_iload_n 2 (kd_m1_find.at 18 rfl) rfl rfl ?_
        refine ok_iald (kd_m1_find.at 19 rfl) sh_20 ?_
        refine ok_callVB (M' := m1_fitsHeard) (as := [.ref 1, .int v2, .int (q3.2.1 20 v2.toNatClampNeg)]) (st := []) (kd_m1_find.at 20 rfl) kc1_44 sh_9 rfl rfl (by decide) (ok_m1_fitsHeard v2 (q3.2.1 20 v2.toNatClampNeg) q3.2) (by decide) rfl (Nat.le_of_ble_eq_true rfl) (fun q7 hq7 => ?_)
        refine ok_ifb_ne (tgt := 39) (kd_m1_find.at 21 rfl) (by decide) (fun h8 => ?_) (fun h8 => ?_)
        · exact K39  q7.2
        · refine ok_sub (lv' := []) [] rfl ?_
          exact hk38  q7.2
def f_m1_find_L47   (k120 : kSt → Option kSt)  : Nat → Int32 → kSt → Option kSt
  | 0, _, _ => none
  | n + 1, v2, S =>
    if (S.1 1 5) ≤ v2 then
      k120  S
    else
      kgi v2 4 (
        knx (S.1 23 v2.toNatClampNeg) fun x12 =>
        kgi x12 5 (
          (f_m1_fitsHeard x12 (S.1 20 x12.toNatClampNeg) S).bind fun q13 =>
          knx (if q13.1 then true else false) fun x15 =>
          kgi v2 4 (
            knx (kuI q13.2 46 v2.toNatClampNeg (kb x15)) fun S16 =>
            kgi v2 4 (
              (f_m1_fitsHeard x12 (S16.1 24 v2.toNatClampNeg) S16).bind fun q17 =>
              knx (if q17.1 then true else false) fun x19 =>
              kgi v2 4 (
                knx (kuI q17.2 47 v2.toNatClampNeg (kb x19)) fun S20 =>
                knx (v2 + 1) fun x21 =>
                f_m1_find_L47 k120 n x21 S20
              )
            )
          )
        )
      )
theorem ok_m1_find_L47 {l : Launch} {G : kG} {E : kE}     (k120 : kSt → Option kSt) (hk120 : ∀  (S : kSt), kOk l G E (kZ G E kjV) m1_find 5 (k120  S) 120 [(0, .ref 9), (1, .ref 1)] [] S) : ∀ (n : Nat) (v2 : Int32) (S : kSt), kOk l G E (kZ G E kjV) m1_find 5 (f_m1_find_L47 k120 n v2 S) 47 [(0, .ref 9), (1, .ref 1), (2, .int v2)] [] S := by
  intro n
  induction n with
  | zero => intro v2 S; exact ok_none
  | succ n ih =>
    intro v2 S
    rw [f_m1_find_L47]
    refine ok_iload_n 2 (kd_m1_find.at 27 rfl) rfl rfl ?_
    refine ok_aload_n 1 (kd_m1_find.at 28 rfl) rfl rfl ?_
    refine ok_getI (kd_m1_find.at 29 rfl) kf1_48 sh_1 rfl ?_
    refine ok_icmp_ge (tgt := 120) (kd_m1_find.at 30 rfl) (by decide) (fun h11 => ?_) (fun h11 => ?_)
    · refine ok_sub (lv' := [(0, .ref 9), (1, .ref 1)]) [0, 1] rfl ?_
      exact hk120  S
    · refine ok_aload_n 1 (kd_m1_find.at 31 rfl) rfl rfl ?_
      refine ok_getR (kd_m1_find.at 32 rfl) kf1_51 sh_1 rfl (kr_1_12 _) ?_
      refine ok_iload_n 2 (kd_m1_find.at 33 rfl) rfl rfl ?_
      refine ok_iald (kd_m1_find.at 34 rfl) sh_23 ?_
      refine ok_topi (fun x12 hx12 => ?_)
      refine ok_istore_n (lv' := [(3, .int x12), (0, .ref 9), (1, .ref 1), (2, .int v2)]) (kd_m1_find.at 35 rfl) rfl (by decide) rfl ?_
      refine ok_aload_n 1 (kd_m1_find.at 36 rfl) rfl rfl ?_
      refine ok_getR (kd_m1_find.at 37 rfl) kf1_18 sh_9 rfl (kr_9_1 _) ?_
      refine ok_iload_n 3 (kd_m1_find.at 38 rfl) rfl rfl ?_
      refine ok_aload_n 1 (kd_m1_find.at 39 rfl) rfl rfl ?_
      refine ok_aload_n 2 (kd_m1_find.at 40 rfl) rfl rfl ?_
      refine ok_iload_n 0 (kd_m1_find.at 41 rfl) rfl rfl ?_
      refine ok_aload_n 2 (kd_m1_find.at 42 rfl) rfl rfl ?_
      refine ok_getR (kd_m1_find.at 43 rfl) kf1_41 sh_1 rfl (kr_1_9 _) ?_
      refine ok_iload_n 0 (kd_m1_find.at 44 rfl) rfl rfl ?_
      refine ok_iald (kd_m1_find.at 45 rfl) sh_20 ?_
      refine ok_callVB (M' := m1_fitsHeard) (as := [.ref 1, .int x12, .int (S.1 20 x12.toNatClampNeg)]) (st := [.int v2, .ref 46]) (kd_m1_find.at 46 rfl) kc1_44 sh_9 rfl rfl (by decide) (ok_m1_fitsHeard x12 (S.1 20 x12.toNatClampNeg) S) (by decide) rfl (Nat.le_of_ble_eq_true rfl) (fun q13 hq13 => ?_)
      refine ok_fold (α := Bool) (pcJ := 87) (lvJ := [(3, .int x12), (0, .ref 9), (1, .ref 1), (2, .int v2)]) (stJ := [.int v2, .ref 46]) (mk := fun v => .int (kb v)) (fun K => ?_) (fun x15 => ?_)
      · refine ok_ap ?_
        refine ok_ifb_eq (tgt := 86) (kd_m1_find.at 47 rfl) (by decide) (fun h14 => ?_) (fun h14 => ?_)
        · refine ok_iconst (v := 0) (kd_m1_find.at 50 rfl) (by decide) ?_
          exact K false
        · refine ok_iconst (v := 1) (kd_m1_find.at 48 rfl) (by decide) ?_
          refine ok_goto (tgt := 87) (kd_m1_find.at 49 rfl) (by decide) ?_
          exact K true
      · refine ok_iast (kd_m1_find.at 51 rfl) sh_46 ?_
        refine ok_nS (fun S16 hS16 => ?_)
        refine ok_aload_n 1 (kd_m1_find.at 52 rfl) rfl rfl ?_
        refine ok_getR (kd_m1_find.at 53 rfl) kf1_22 sh_9 rfl (kr_9_2 _) ?_
        refine ok_iload_n 3 (kd_m1_find.at 54 rfl) rfl rfl ?_
        refine ok_aload_n 1 (kd_m1_find.at 55 rfl) rfl rfl ?_
        refine ok_aload_n 2 (kd_m1_find.at 56 rfl) rfl rfl ?_
        refine ok_iload_n 0 (kd_m1_find.at 57 rfl) rfl rfl ?_
        refine ok_aload_n 2 (kd_m1_find.at 58 rfl) rfl rfl ?_
        refine ok_getR (kd_m1_find.at 59 rfl) kf1_54 sh_1 rfl (kr_1_13 _) ?_
        refine ok_iload_n 3 (kd_m1_find.at 60 rfl) rfl rfl ?_
        refine ok_iald (kd_m1_find.at 61 rfl) sh_24 ?_
        refine ok_callVB (M' := m1_fitsHeard) (as := [.ref 1, .int x12, .int (S16.1 24 v2.toNatClampNeg)]) (st := [.int v2, .ref 47]) (kd_m1_find.at 62 rfl) kc1_44 sh_9 rfl rfl (by decide) (ok_m1_fitsHeard x12 (S16.1 24 v2.toNatClampNeg) S16) (by decide) rfl (Nat.le_of_ble_eq_true rfl) (fun q17 hq17 => ?_)
        refine ok_fold (α := Bool) (pcJ := 113) (lvJ := [(3, .int x12), (0, .ref 9), (1, .ref 1), (2, .int v2)]) (stJ := [.int v2, .ref 47]) (mk := fun v => .int (kb v)) (fun K => ?_) (fun x19 => ?_)
        · refine ok_ap ?_
          refine ok_ifb_eq (tgt := 112) (kd_m1_find.at 63 rfl) (by decide) (fun h18 => ?_) (fun h18 => ?_)
          · refine ok_iconst (v := 0) (kd_m1_find.at 66 rfl) (by decide) ?_
            exact K false
          · refine ok_iconst (v := 1) (kd_m1_find.at 64 rfl) (by decide) ?_
            refine ok_goto (tgt := 113) (kd_m1_find.at 65 rfl) (by decide) ?_
            exact K true
        · refine ok_iast (kd_m1_find.at 67 rfl) sh_47 ?_
          refine ok_nS (fun S20 hS20 => ?_)
          refine ok_nx (fun x21 hx21 => ?_)
          refine ok_iinc (v := x21) (lv' := [(2, .int x21), (3, .int x12), (0, .ref 9), (1, .ref 1)]) 3 (kd_m1_find.at 68 rfl) rfl hx21.symm (by decide) rfl ?_
          refine ok_goto (tgt := 47) (kd_m1_find.at 69 rfl) (by decide) ?_
          refine ok_sub (lv' := [(0, .ref 9), (1, .ref 1), (2, .int x21)]) [2, 3, 0] rfl ?_
          exact ih x21 S20
def f_m1_find_L122   (k170 : kSt → Option kSt)  : Nat → Int32 → kSt → Option kSt
  | 0, _, _ => none
  | n + 1, v2, S =>
    if (1 <<< ((S.1 1 5) &&& 31)) ≤ v2 then
      k170  S
    else
      (f_m1_isFit v2 (S.1 1 5) S).bind fun q24 =>
      knx (fun  (S25 : kSt) =>
        knx (v2 + 1) fun x26 =>
        f_m1_find_L122 k170 n x26 S25
        ) fun j164 =>
      if q24.1 then
        knx (q24.2.1 9 4) fun x29 =>
        kgi x29 16 (
          knx (kuI q24.2 48 x29.toNatClampNeg v2) fun S28 =>
          knx (kuI S28 9 4 ((S28.1 9 4) + 1)) fun S30 =>
          j164  S30
        )
      else
        j164  q24.2
theorem ok_m1_find_L122 {l : Launch} {G : kG} {E : kE}     (k170 : kSt → Option kSt) (hk170 : ∀  (S : kSt), kOk l G E (kZ G E kjV) m1_find 5 (k170  S) 170 [] [] S) : ∀ (n : Nat) (v2 : Int32) (S : kSt), kOk l G E (kZ G E kjV) m1_find 5 (f_m1_find_L122 k170 n v2 S) 122 [(0, .ref 9), (1, .ref 1), (2, .int v2)] [] S := by
  intro n
  induction n with
  | zero => intro v2 S; exact ok_none
  | succ n ih =>
    intro v2 S
    rw [f_m1_find_L122]
    refine ok_iload_n 2 (kd_m1_find.at 72 rfl) rfl rfl ?_
    refine ok_iconst (v := 1) (kd_m1_find.at 73 rfl) (by decide) ?_
    refine ok_aload_n 1 (kd_m1_find.at 74 rfl) rfl rfl ?_
    refine ok_getI (kd_m1_find.at 75 rfl) kf1_48 sh_1 rfl ?_
    refine ok_ishl (kd_m1_find.at 76 rfl) ?_
    refine ok_icmp_ge (tgt := 170) (kd_m1_find.at 77 rfl) (by decide) (fun h23 => ?_) (fun h23 => ?_)
    · refine ok_sub (lv' := []) [] rfl ?_
      exact hk170  S
    · refine ok_aload_n 0 (kd_m1_find.at 78 rfl) rfl rfl ?_
      refine ok_iload_n 2 (kd_m1_find.at 79 rfl) rfl rfl ?_
      refine ok_aload_n 1 (kd_m1_find.at 80 rfl) rfl rfl ?_
      refine ok_getI (kd_m1_find.at 81 rfl) kf1_48 sh_1 rfl ?_
      refine ok_callVB (M' := m1_isFit) (as := [.int v2, .int (S.1 1 5)]) (st := []) (kd_m1_find.at 82 rfl) kc1_57 sh_9 rfl rfl (by decide) (ok_m1_isFit v2 (S.1 1 5) S) (by decide) rfl (Nat.le_of_ble_eq_true rfl) (fun q24 hq24 => ?_)
      refine ok_nx (fun j164 hj164 => ?_)
      have K164 : ∀  (S25 : kSt), kOk l G E (kZ G E kjV) m1_find 5 (j164  S25) 164 [(0, .ref 9), (1, .ref 1), (2, .int v2)] [] S25 := by
        subst hj164
        intro  S25
        refine ok_nx (fun x26 hx26 => ?_)
        refine ok_iinc (v := x26) (lv' := [(2, .int x26), (0, .ref 9), (1, .ref 1)]) 2 (kd_m1_find.at 96 rfl) rfl hx26.symm (by decide) rfl ?_
        refine ok_goto (tgt := 122) (kd_m1_find.at 97 rfl) (by decide) ?_
        refine ok_sub (lv' := [(0, .ref 9), (1, .ref 1), (2, .int x26)]) [1, 2, 0] rfl ?_
        exact ih x26 S25
      clear hj164
      refine ok_ifb_eq (tgt := 164) (kd_m1_find.at 83 rfl) (by decide) (fun h27 => ?_) (fun h27 => ?_)
      · exact K164  q24.2
      · refine ok_aload_n 0 (kd_m1_find.at 84 rfl) rfl rfl ?_
        refine ok_getR (kd_m1_find.at 85 rfl) kf1_25 sh_9 rfl (kr_9_3 _) ?_
        refine ok_aload_n 0 (kd_m1_find.at 86 rfl) rfl rfl ?_
        refine ok_getI (kd_m1_find.at 87 rfl) kf1_28 sh_9 rfl ?_
        refine ok_iload_n 2 (kd_m1_find.at 88 rfl) rfl rfl ?_
        refine ok_sndi (fun x29 hx29 => ?_)
        refine ok_iast (kd_m1_find.at 89 rfl) sh_48 ?_
        refine ok_nS (fun S28 hS28 => ?_)
        refine ok_aload_n 0 (kd_m1_find.at 90 rfl) rfl rfl ?_
        refine ok_dup (kd_m1_find.at 91 rfl) rfl ?_
        refine ok_getI (kd_m1_find.at 92 rfl) kf1_28 sh_9 rfl ?_
        refine ok_iconst (v := 1) (kd_m1_find.at 93 rfl) (by decide) ?_
        refine ok_iadd (kd_m1_find.at 94 rfl) ?_
        refine ok_putI (kd_m1_find.at 95 rfl) kf1_28 sh_9 rfl rfl ?_
        refine ok_nS (fun S30 hS30 => ?_)
        exact K164  S30
def f_m1_find  (S : kSt) : Option kSt :=
  knx (kuI S 9 4 0) fun S1 =>
  f_m1_find_L7 
    (fun  (S9 : kSt) =>
      some S9
    )
    (fun  (S10 : kSt) =>
      f_m1_find_L47 
        (fun  (S22 : kSt) =>
          f_m1_find_L122 
            (fun  (S31 : kSt) =>
              some S31
            )
            kFU 0 S22
        )
        kFU 0 S10
    )
    kFU 0 S1
theorem ok_m1_find {l : Launch} {G : kG} {E : kE}   (S : kSt) : kFn l G E E kjV m1_find 5 [.ref 9, .ref 1] S (f_m1_find  S) := by
  unfold f_m1_find
  refine kFn_of (by decide +kernel) (Nat.le_of_ble_eq_true rfl) ?_
  show kOk _ _ _ _ _ _ _ _ [(0, .ref 9), (1, .ref 1)] _ _
  refine ok_aload_n 0 (kd_m1_find.at 0 rfl) rfl rfl ?_
  refine ok_iconst (v := 0) (kd_m1_find.at 1 rfl) (by decide) ?_
  refine ok_putI (kd_m1_find.at 2 rfl) kf1_28 sh_9 rfl rfl ?_
  refine ok_nS (fun S1 hS1 => ?_)
  refine ok_iconst (v := 0) (kd_m1_find.at 3 rfl) (by decide) ?_
  refine ok_istore_n (lv' := [(2, .int 0), (0, .ref 9), (1, .ref 1)]) (kd_m1_find.at 4 rfl) rfl (by decide) rfl ?_
  refine ok_sub (lv' := [(0, .ref 9), (1, .ref 1), (2, .int 0)]) [1, 2, 0] rfl ?_
  refine ok_m1_find_L7 _ _ (fun S9 => ?_) (fun S10 => ?_) kFU 0 S1
  · exact ok_return (kd_m1_find.at 22 rfl) rfl
  · refine ok_iconst (v := 0) (kd_m1_find.at 25 rfl) (by decide) ?_
    refine ok_istore_n (lv' := [(2, .int 0), (0, .ref 9), (1, .ref 1)]) (kd_m1_find.at 26 rfl) rfl (by decide) rfl ?_
    refine ok_sub (lv' := [(0, .ref 9), (1, .ref 1), (2, .int 0)]) [1, 2, 0] rfl ?_
    refine ok_m1_find_L47 _ (fun S22 => ?_) kFU 0 S10
    refine ok_iconst (v := 0) (kd_m1_find.at 70 rfl) (by decide) ?_
    refine ok_istore_n (lv' := [(2, .int 0), (0, .ref 9), (1, .ref 1)]) (kd_m1_find.at 71 rfl) rfl (by decide) rfl ?_
    refine ok_sub (lv' := [(0, .ref 9), (1, .ref 1), (2, .int 0)]) [1, 2, 0] rfl ?_
    refine ok_m1_find_L122 _ (fun S31 => ?_) kFU 0 S22
    exact ok_return (kd_m1_find.at 98 rfl) rfl
def f_m1_inSome_L4   (k27 : Int32 → kSt → Option (Int32 × kSt))  : Nat → Int32 → Int32 → kSt → Option (Int32 × kSt)
  | 0, _, _, _ => none
  | n + 1, v1, v2, S =>
    if (S.1 9 4) ≤ v2 then
      k27 v1 S
    else
      kgi v2 16 (
        knx (v1 ||| (S.1 48 v2.toNatClampNeg)) fun x2 =>
        knx (v2 + 1) fun x3 =>
        f_m1_inSome_L4 k27 n x2 x3 S
      )
theorem ok_m1_inSome_L4 {l : Launch} {G : kG} {E : kE}     (k27 : Int32 → kSt → Option (Int32 × kSt)) (hk27 : ∀ (v1 : Int32) (S : kSt), kOk l G E (kZ G E kjI) m1_inSome 1 (k27 v1 S) 27 [(1, .int v1)] [] S) : ∀ (n : Nat) (v1 : Int32) (v2 : Int32) (S : kSt), kOk l G E (kZ G E kjI) m1_inSome 1 (f_m1_inSome_L4 k27 n v1 v2 S) 4 [(0, .ref 9), (1, .int v1), (2, .int v2)] [] S := by
  intro n
  induction n with
  | zero => intro v1 v2 S; exact ok_none
  | succ n ih =>
    intro v1 v2 S
    rw [f_m1_inSome_L4]
    refine ok_iload_n 2 (kd_m1_inSome.at 4 rfl) rfl rfl ?_
    refine ok_aload_n 0 (kd_m1_inSome.at 5 rfl) rfl rfl ?_
    refine ok_getI (kd_m1_inSome.at 6 rfl) kf1_28 sh_9 rfl ?_
    refine ok_icmp_ge (tgt := 27) (kd_m1_inSome.at 7 rfl) (by decide) (fun h1 => ?_) (fun h1 => ?_)
    · refine ok_sub (lv' := [(1, .int v1)]) [1] rfl ?_
      exact hk27 v1 S
    · refine ok_iload_n 1 (kd_m1_inSome.at 8 rfl) rfl rfl ?_
      refine ok_aload_n 0 (kd_m1_inSome.at 9 rfl) rfl rfl ?_
      refine ok_getR (kd_m1_inSome.at 10 rfl) kf1_25 sh_9 rfl (kr_9_3 _) ?_
      refine ok_iload_n 2 (kd_m1_inSome.at 11 rfl) rfl rfl ?_
      refine ok_iald (kd_m1_inSome.at 12 rfl) sh_48 ?_
      refine ok_ior (kd_m1_inSome.at 13 rfl) ?_
      refine ok_topi (fun x2 hx2 => ?_)
      refine ok_istore_n (lv' := [(1, .int x2), (0, .ref 9), (2, .int v2)]) (kd_m1_inSome.at 14 rfl) rfl (by decide) rfl ?_
      refine ok_nx (fun x3 hx3 => ?_)
      refine ok_iinc (v := x3) (lv' := [(2, .int x3), (1, .int x2), (0, .ref 9)]) 2 (kd_m1_inSome.at 15 rfl) rfl hx3.symm (by decide) rfl ?_
      refine ok_goto (tgt := 4) (kd_m1_inSome.at 16 rfl) (by decide) ?_
      refine ok_sub (lv' := [(0, .ref 9), (1, .int x2), (2, .int x3)]) [2, 1, 0] rfl ?_
      exact ih x2 x3 S
def f_m1_inSome  (S : kSt) : Option (Int32 × kSt) :=
  f_m1_inSome_L4 
    (fun (x4 : Int32) (S5 : kSt) =>
      some (x4, S5)
    )
    kFU 0 0 S
theorem ok_m1_inSome {l : Launch} {G : kG} {E : kE}   (S : kSt) : kFn l G E E kjI m1_inSome 1 [.ref 9] S (f_m1_inSome  S) := by
  unfold f_m1_inSome
  refine kFn_of (by decide +kernel) (Nat.le_of_ble_eq_true rfl) ?_
  show kOk _ _ _ _ _ _ _ _ [(0, .ref 9)] _ _
  refine ok_iconst (v := 0) (kd_m1_inSome.at 0 rfl) (by decide) ?_
  refine ok_istore_n (lv' := [(1, .int 0), (0, .ref 9)]) (kd_m1_inSome.at 1 rfl) rfl (by decide) rfl ?_
  refine ok_iconst (v := 0) (kd_m1_inSome.at 2 rfl) (by decide) ?_
  refine ok_istore_n (lv' := [(2, .int 0), (1, .int 0), (0, .ref 9)]) (kd_m1_inSome.at 3 rfl) rfl (by decide) rfl ?_
  refine ok_sub (lv' := [(0, .ref 9), (1, .int 0), (2, .int 0)]) [2, 1, 0] rfl ?_
  refine ok_m1_inSome_L4 _ (fun x4 S5 => ?_) kFU 0 0 S
  refine ok_iload_n 0 (kd_m1_inSome.at 17 rfl) rfl rfl ?_
  exact ok_ireturn (kd_m1_inSome.at 18 rfl) rfl
def f_m1_inAll_L20   (k43 : Int32 → kSt → Option (Int32 × kSt))  : Nat → Int32 → Int32 → kSt → Option (Int32 × kSt)
  | 0, _, _, _ => none
  | n + 1, v1, v2, S =>
    if (S.1 9 4) ≤ v2 then
      k43 v1 S
    else
      kgi v2 16 (
        knx (v1 &&& (S.1 48 v2.toNatClampNeg)) fun x4 =>
        knx (v2 + 1) fun x5 =>
        f_m1_inAll_L20 k43 n x4 x5 S
      )
theorem ok_m1_inAll_L20 {l : Launch} {G : kG} {E : kE}     (k43 : Int32 → kSt → Option (Int32 × kSt)) (hk43 : ∀ (v1 : Int32) (S : kSt), kOk l G E (kZ G E kjI) m1_inAll 1 (k43 v1 S) 43 [(1, .int v1)] [] S) : ∀ (n : Nat) (v1 : Int32) (v2 : Int32) (S : kSt), kOk l G E (kZ G E kjI) m1_inAll 1 (f_m1_inAll_L20 k43 n v1 v2 S) 20 [(0, .ref 9), (1, .int v1), (2, .int v2)] [] S := by
  intro n
  induction n with
  | zero => intro v1 v2 S; exact ok_none
  | succ n ih =>
    intro v1 v2 S
    rw [f_m1_inAll_L20]
    refine ok_iload_n 2 (kd_m1_inAll.at 12 rfl) rfl rfl ?_
    refine ok_aload_n 0 (kd_m1_inAll.at 13 rfl) rfl rfl ?_
    refine ok_getI (kd_m1_inAll.at 14 rfl) kf1_28 sh_9 rfl ?_
    refine ok_icmp_ge (tgt := 43) (kd_m1_inAll.at 15 rfl) (by decide) (fun h3 => ?_) (fun h3 => ?_)
    · refine ok_sub (lv' := [(1, .int v1)]) [1] rfl ?_
      exact hk43 v1 S
    · refine ok_iload_n 1 (kd_m1_inAll.at 16 rfl) rfl rfl ?_
      refine ok_aload_n 0 (kd_m1_inAll.at 17 rfl) rfl rfl ?_
      refine ok_getR (kd_m1_inAll.at 18 rfl) kf1_25 sh_9 rfl (kr_9_3 _) ?_
      refine ok_iload_n 2 (kd_m1_inAll.at 19 rfl) rfl rfl ?_
      refine ok_iald (kd_m1_inAll.at 20 rfl) sh_48 ?_
      refine ok_iand (kd_m1_inAll.at 21 rfl) ?_
      refine ok_topi (fun x4 hx4 => ?_)
      refine ok_istore_n (lv' := [(1, .int x4), (0, .ref 9), (2, .int v2)]) (kd_m1_inAll.at 22 rfl) rfl (by decide) rfl ?_
      refine ok_nx (fun x5 hx5 => ?_)
      refine ok_iinc (v := x5) (lv' := [(2, .int x5), (1, .int x4), (0, .ref 9)]) 2 (kd_m1_inAll.at 23 rfl) rfl hx5.symm (by decide) rfl ?_
      refine ok_goto (tgt := 20) (kd_m1_inAll.at 24 rfl) (by decide) ?_
      refine ok_sub (lv' := [(0, .ref 9), (1, .int x4), (2, .int x5)]) [2, 1, 0] rfl ?_
      exact ih x4 x5 S
def f_m1_inAll  (S : kSt) : Option (Int32 × kSt) :=
  knx (if (S.1 9 4) = 0 then 0 else S.1 48 0) fun x2 =>
  f_m1_inAll_L20 
    (fun (x6 : Int32) (S7 : kSt) =>
      some (x6, S7)
    )
    kFU x2 1 S
theorem ok_m1_inAll {l : Launch} {G : kG} {E : kE}   (S : kSt) : kFn l G E E kjI m1_inAll 1 [.ref 9] S (f_m1_inAll  S) := by
  unfold f_m1_inAll
  refine kFn_of (by decide +kernel) (Nat.le_of_ble_eq_true rfl) ?_
  show kOk _ _ _ _ _ _ _ _ [(0, .ref 9)] _ _
  refine ok_aload_n 0 (kd_m1_inAll.at 0 rfl) rfl rfl ?_
  refine ok_getI (kd_m1_inAll.at 1 rfl) kf1_28 sh_9 rfl ?_
  refine ok_fold (α := Int32) (pcJ := 17) (lvJ := [(0, .ref 9)]) (stJ := []) (mk := fun v => .int v) (fun K => ?_) (fun x2 => ?_)
  · refine ok_ap ?_
    refine ok_if_ne (tgt := 11) (kd_m1_inAll.at 2 rfl) (by decide) (fun h1 => ?_) (fun h1 => ?_)
    · refine ok_aload_n 0 (kd_m1_inAll.at 5 rfl) rfl rfl ?_
      refine ok_getR (kd_m1_inAll.at 6 rfl) kf1_25 sh_9 rfl (kr_9_3 _) ?_
      refine ok_iconst (v := 0) (kd_m1_inAll.at 7 rfl) (by decide) ?_
      refine ok_ialdK (j := 0) (kd_m1_inAll.at 8 rfl) sh_48 (by decide) (by decide) ?_
      exact K (S.1 48 0)
    · refine ok_iconst (v := 0) (kd_m1_inAll.at 3 rfl) (by decide) ?_
      refine ok_goto (tgt := 17) (kd_m1_inAll.at 4 rfl) (by decide) ?_
      exact K 0
  · refine ok_istore_n (lv' := [(1, .int x2), (0, .ref 9)]) (kd_m1_inAll.at 9 rfl) rfl (by decide) rfl ?_
    refine ok_iconst (v := 1) (kd_m1_inAll.at 10 rfl) (by decide) ?_
    refine ok_istore_n (lv' := [(2, .int 1), (1, .int x2), (0, .ref 9)]) (kd_m1_inAll.at 11 rfl) rfl (by decide) rfl ?_
    refine ok_sub (lv' := [(0, .ref 9), (1, .int x2), (2, .int 1)]) [2, 1, 0] rfl ?_
    refine ok_m1_inAll_L20 _ (fun x6 S7 => ?_) kFU x2 1 S
    refine ok_iload_n 0 (kd_m1_inAll.at 25 rfl) rfl rfl ?_
    exact ok_ireturn (kd_m1_inAll.at 26 rfl) rfl
def f_m1_leftAtMost_L4   (k31 : Int32 → kSt → Option (Int32 × kSt)) (c1 : Int32) : Nat → Int32 → Int32 → kSt → Option (Int32 × kSt)
  | 0, _, _, _ => none
  | n + 1, v2, v3, S =>
    if (S.1 9 4) ≤ v3 then
      k31 v2 S
    else
      kgi v3 16 (
        knx (v2 + (((S.1 48 v3.toNatClampNeg) >>> (c1 &&& 31)) &&& 1)) fun x2 =>
        knx (v3 + 1) fun x3 =>
        f_m1_leftAtMost_L4 k31 c1 n x2 x3 S
      )
theorem ok_m1_leftAtMost_L4 {l : Launch} {G : kG} {E : kE}    (c1 : Int32) (k31 : Int32 → kSt → Option (Int32 × kSt)) (hk31 : ∀ (v2 : Int32) (S : kSt), kOk l G E (kZ G E kjI) m1_leftAtMost 1 (k31 v2 S) 31 [(0, .ref 9), (2, .int v2)] [] S) : ∀ (n : Nat) (v2 : Int32) (v3 : Int32) (S : kSt), kOk l G E (kZ G E kjI) m1_leftAtMost 1 (f_m1_leftAtMost_L4 k31 c1 n v2 v3 S) 4 [(0, .ref 9), (1, .int c1), (2, .int v2), (3, .int v3)] [] S := by
  intro n
  induction n with
  | zero => intro v2 v3 S; exact ok_none
  | succ n ih =>
    intro v2 v3 S
    rw [f_m1_leftAtMost_L4]
    refine ok_iload_n 3 (kd_m1_leftAtMost.at 4 rfl) rfl rfl ?_
    refine ok_aload_n 0 (kd_m1_leftAtMost.at 5 rfl) rfl rfl ?_
    refine ok_getI (kd_m1_leftAtMost.at 6 rfl) kf1_28 sh_9 rfl ?_
    refine ok_icmp_ge (tgt := 31) (kd_m1_leftAtMost.at 7 rfl) (by decide) (fun h1 => ?_) (fun h1 => ?_)
    · refine ok_sub (lv' := [(0, .ref 9), (2, .int v2)]) [0, 2] rfl ?_
      exact hk31 v2 S
    · refine ok_iload_n 2 (kd_m1_leftAtMost.at 8 rfl) rfl rfl ?_
      refine ok_aload_n 0 (kd_m1_leftAtMost.at 9 rfl) rfl rfl ?_
      refine ok_getR (kd_m1_leftAtMost.at 10 rfl) kf1_25 sh_9 rfl (kr_9_3 _) ?_
      refine ok_iload_n 3 (kd_m1_leftAtMost.at 11 rfl) rfl rfl ?_
      refine ok_iald (kd_m1_leftAtMost.at 12 rfl) sh_48 ?_
      refine ok_iload_n 1 (kd_m1_leftAtMost.at 13 rfl) rfl rfl ?_
      refine ok_ishr (kd_m1_leftAtMost.at 14 rfl) ?_
      refine ok_iconst (v := 1) (kd_m1_leftAtMost.at 15 rfl) (by decide) ?_
      refine ok_iand (kd_m1_leftAtMost.at 16 rfl) ?_
      refine ok_iadd (kd_m1_leftAtMost.at 17 rfl) ?_
      refine ok_topi (fun x2 hx2 => ?_)
      refine ok_istore_n (lv' := [(2, .int x2), (0, .ref 9), (1, .int c1), (3, .int v3)]) (kd_m1_leftAtMost.at 18 rfl) rfl (by decide) rfl ?_
      refine ok_nx (fun x3 hx3 => ?_)
      refine ok_iinc (v := x3) (lv' := [(3, .int x3), (2, .int x2), (0, .ref 9), (1, .int c1)]) 3 (kd_m1_leftAtMost.at 19 rfl) rfl hx3.symm (by decide) rfl ?_
      refine ok_goto (tgt := 4) (kd_m1_leftAtMost.at 20 rfl) (by decide) ?_
      refine ok_sub (lv' := [(0, .ref 9), (1, .int c1), (2, .int x2), (3, .int x3)]) [2, 3, 1, 0] rfl ?_
      exact ih x2 x3 S
def f_m1_leftAtMost (a1 : Int32) (S : kSt) : Option (Int32 × kSt) :=
  f_m1_leftAtMost_L4 
    (fun (x4 : Int32) (S5 : kSt) =>
      some (kmax x4 ((S5.1 9 4) - x4), S5)
    )
    a1 kFU 0 0 S
theorem ok_m1_leftAtMost {l : Launch} {G : kG} {E : kE} (a1 : Int32)  (S : kSt) : kFn l G E E kjI m1_leftAtMost 1 [.ref 9, .int a1] S (f_m1_leftAtMost a1 S) := by
  unfold f_m1_leftAtMost
  refine kFn_of (by decide +kernel) (Nat.le_of_ble_eq_true rfl) ?_
  show kOk _ _ _ _ _ _ _ _ [(0, .ref 9), (1, .int a1)] _ _
  refine ok_iconst (v := 0) (kd_m1_leftAtMost.at 0 rfl) (by decide) ?_
  refine ok_istore_n (lv' := [(2, .int 0), (0, .ref 9), (1, .int a1)]) (kd_m1_leftAtMost.at 1 rfl) rfl (by decide) rfl ?_
  refine ok_iconst (v := 0) (kd_m1_leftAtMost.at 2 rfl) (by decide) ?_
  refine ok_istore_n (lv' := [(3, .int 0), (2, .int 0), (0, .ref 9), (1, .int a1)]) (kd_m1_leftAtMost.at 3 rfl) rfl (by decide) rfl ?_
  refine ok_sub (lv' := [(0, .ref 9), (1, .int a1), (2, .int 0), (3, .int 0)]) [2, 3, 1, 0] rfl ?_
  refine ok_m1_leftAtMost_L4 a1 _ (fun x4 S5 => ?_) kFU 0 0 S
  refine ok_iload_n 1 (kd_m1_leftAtMost.at 21 rfl) rfl rfl ?_
  refine ok_aload_n 0 (kd_m1_leftAtMost.at 22 rfl) rfl rfl ?_
  refine ok_getI (kd_m1_leftAtMost.at 23 rfl) kf1_28 sh_9 rfl ?_
  refine ok_iload_n 1 (kd_m1_leftAtMost.at 24 rfl) rfl rfl ?_
  refine ok_isub (kd_m1_leftAtMost.at 25 rfl) ?_
  refine ok_mmax (kd_m1_leftAtMost.at 26 rfl) kc1_87 (by decide) (Nat.le_of_ble_eq_true rfl) ?_
  exact ok_ireturn (kd_m1_leftAtMost.at 27 rfl) rfl
def f_m1_bestQuestion_L11   (k54 : Int32 → kSt → Option (Int32 × kSt)) (c1 : Int32) : Nat → Int32 → Int32 → Int32 → kSt → Option (Int32 × kSt)
  | 0, _, _, _, _ => none
  | n + 1, v2, v3, v4, S =>
    if (S.1 9 4) ≤ 0 then
      k54 v2 S
    else
      if c1 ≤ v4 then
        k54 v2 S
      else
        (f_m1_leftAtMost v4 S).bind fun q4 =>
        knx (fun (x5 : Int32) (x6 : Int32) (S7 : kSt) =>
          knx (v4 + 1) fun x8 =>
          f_m1_bestQuestion_L11 k54 c1 n x5 x6 x8 S7
          ) fun j48 =>
        knx (fun  (S9 : kSt) =>
          j48 v4 q4.1 S9
          ) fun j42 =>
        if v2 < 0 then
          j42  q4.2
        else
          if v3 ≤ q4.1 then
            j48 v2 v3 q4.2
          else
            j42  q4.2
theorem ok_m1_bestQuestion_L11 {l : Launch} {G : kG} {E : kE}    (c1 : Int32) (k54 : Int32 → kSt → Option (Int32 × kSt)) (hk54 : ∀ (v2 : Int32) (S : kSt), kOk l G E (kZ G E kjI) m1_bestQuestion 2 (k54 v2 S) 54 [(2, .int v2)] [] S) : ∀ (n : Nat) (v2 : Int32) (v3 : Int32) (v4 : Int32) (S : kSt), kOk l G E (kZ G E kjI) m1_bestQuestion 2 (f_m1_bestQuestion_L11 k54 c1 n v2 v3 v4 S) 11 [(0, .ref 9), (1, .int c1), (2, .int v2), (3, .int v3), (4, .int v4)] [] S := by
  intro n
  induction n with
  | zero => intro v2 v3 v4 S; exact ok_none
  | succ n ih =>
    intro v2 v3 v4 S
    rw [f_m1_bestQuestion_L11]
    refine ok_aload_n 0 (kd_m1_bestQuestion.at 7 rfl) rfl rfl ?_
    refine ok_getI (kd_m1_bestQuestion.at 8 rfl) kf1_28 sh_9 rfl ?_
    refine ok_if_le (tgt := 54) (kd_m1_bestQuestion.at 9 rfl) (by decide) (fun h2 => ?_) (fun h2 => ?_)
    · refine ok_sub (lv' := [(2, .int v2)]) [2] rfl ?_
      exact hk54 v2 S
    · refine ok_iload 4 (kd_m1_bestQuestion.at 10 rfl) rfl ?_
      refine ok_iload_n 1 (kd_m1_bestQuestion.at 11 rfl) rfl rfl ?_
      refine ok_icmp_ge (tgt := 54) (kd_m1_bestQuestion.at 12 rfl) (by decide) (fun h3 => ?_) (fun h3 => ?_)
      · refine ok_sub (lv' := [(2, .int v2)]) [2] rfl ?_
        exact hk54 v2 S
      · refine ok_aload_n 0 (kd_m1_bestQuestion.at 13 rfl) rfl rfl ?_
        refine ok_iload 4 (kd_m1_bestQuestion.at 14 rfl) rfl ?_
        refine ok_callVI (M' := m1_leftAtMost) (as := [.int v4]) (st := []) (kd_m1_bestQuestion.at 15 rfl) kc1_93 sh_9 rfl rfl (by decide) (ok_m1_leftAtMost v4 S) (by decide) rfl (Nat.le_of_ble_eq_true rfl) (fun q4 hq4 => ?_)
        refine ok_istore (lv' := [(5, .int q4.1), (0, .ref 9), (1, .int c1), (2, .int v2), (3, .int v3), (4, .int v4)]) (kd_m1_bestQuestion.at 16 rfl) (by decide) rfl ?_
        refine ok_iload_n 3 (kd_m1_bestQuestion.at 17 rfl) rfl rfl ?_
        refine ok_nx (fun j48 hj48 => ?_)
        have K48 : ∀ (x5 : Int32) (x6 : Int32) (S7 : kSt), kOk l G E (kZ G E kjI) m1_bestQuestion 2 (j48 x5 x6 S7) 48 [(0, .ref 9), (1, .int c1), (2, .int x5), (3, .int x6), (4, .int v4)] [] S7 := by
          subst hj48
          intro x5 x6 S7
          refine ok_nx (fun x8 hx8 => ?_)
          refine ok_iinc (v := x8) (lv' := [(4, .int x8), (0, .ref 9), (1, .int c1), (2, .int x5), (3, .int x6)]) 4 (kd_m1_bestQuestion.at 26 rfl) rfl hx8.symm (by decide) rfl ?_
          refine ok_goto (tgt := 11) (kd_m1_bestQuestion.at 27 rfl) (by decide) ?_
          refine ok_sub (lv' := [(0, .ref 9), (1, .int c1), (2, .int x5), (3, .int x6), (4, .int x8)]) [1, 2, 3, 4, 0] rfl ?_
          exact ih x5 x6 x8 S7
        clear hj48
        refine ok_nx (fun j42 hj42 => ?_)
        have K42 : ∀  (S9 : kSt), kOk l G E (kZ G E kjI) m1_bestQuestion 2 (j42  S9) 42 [(0, .ref 9), (1, .int c1), (4, .int v4), (5, .int q4.1)] [] S9 := by
          subst hj42
          intro  S9
          refine ok_iload 3 (kd_m1_bestQuestion.at 22 rfl) rfl ?_
          refine ok_istore_n (lv' := [(3, .int q4.1), (0, .ref 9), (1, .int c1), (4, .int v4), (5, .int q4.1)]) (kd_m1_bestQuestion.at 23 rfl) rfl (by decide) rfl ?_
          refine ok_iload 3 (kd_m1_bestQuestion.at 24 rfl) rfl ?_
          refine ok_istore_n (lv' := [(2, .int v4), (3, .int q4.1), (0, .ref 9), (1, .int c1), (4, .int v4), (5, .int q4.1)]) (kd_m1_bestQuestion.at 25 rfl) rfl (by decide) rfl ?_
          refine ok_sub (lv' := [(0, .ref 9), (1, .int c1), (2, .int v4), (3, .int q4.1), (4, .int v4)]) [2, 3, 0, 1, 4] rfl ?_
          exact K48 v4 q4.1 S9
        clear hj42
        refine ok_if_lt (tgt := 42) (kd_m1_bestQuestion.at 18 rfl) (by decide) (fun h10 => ?_) (fun h10 => ?_)
        · refine ok_sub (lv' := [(0, .ref 9), (1, .int c1), (4, .int v4), (5, .int q4.1)]) [1, 2, 5, 0] rfl ?_
          exact K42  q4.2
        · refine ok_iload 0 (kd_m1_bestQuestion.at 19 rfl) rfl ?_
          refine ok_iload_n 4 (kd_m1_bestQuestion.at 20 rfl) rfl rfl ?_
          refine ok_icmp_ge (tgt := 48) (kd_m1_bestQuestion.at 21 rfl) (by decide) (fun h11 => ?_) (fun h11 => ?_)
          · refine ok_sub (lv' := [(0, .ref 9), (1, .int c1), (2, .int v2), (3, .int v3), (4, .int v4)]) [1, 2, 3, 4, 5] rfl ?_
            exact K48 v2 v3 q4.2
          · refine ok_sub (lv' := [(0, .ref 9), (1, .int c1), (4, .int v4), (5, .int q4.1)]) [1, 2, 5, 0] rfl ?_
            exact K42  q4.2
def f_m1_bestQuestion (a1 : Int32) (S : kSt) : Option (Int32 × kSt) :=
  knx (S.1 9 4) fun x1 =>
  f_m1_bestQuestion_L11 
    (fun (x12 : Int32) (S13 : kSt) =>
      some (x12, S13)
    )
    a1 kFU (-2) x1 0 S
theorem ok_m1_bestQuestion {l : Launch} {G : kG} {E : kE} (a1 : Int32)  (S : kSt) : kFn l G E E kjI m1_bestQuestion 2 [.ref 9, .int a1] S (f_m1_bestQuestion a1 S) := by
  unfold f_m1_bestQuestion
  refine kFn_of (by decide +kernel) (Nat.le_of_ble_eq_true rfl) ?_
  show kOk _ _ _ _ _ _ _ _ [(0, .ref 9), (1, .int a1)] _ _
  refine ok_bipush (v := (-2)) (kd_m1_bestQuestion.at 0 rfl) (by decide) ?_
  refine ok_istore_n (lv' := [(2, .int (-2)), (0, .ref 9), (1, .int a1)]) (kd_m1_bestQuestion.at 1 rfl) rfl (by decide) rfl ?_
  refine ok_aload_n 1 (kd_m1_bestQuestion.at 2 rfl) rfl rfl ?_
  refine ok_getI (kd_m1_bestQuestion.at 3 rfl) kf1_28 sh_9 rfl ?_
  refine ok_topi (fun x1 hx1 => ?_)
  refine ok_istore_n (lv' := [(3, .int x1), (2, .int (-2)), (0, .ref 9), (1, .int a1)]) (kd_m1_bestQuestion.at 4 rfl) rfl (by decide) rfl ?_
  refine ok_iconst (v := 0) (kd_m1_bestQuestion.at 5 rfl) (by decide) ?_
  refine ok_istore (lv' := [(4, .int 0), (3, .int x1), (2, .int (-2)), (0, .ref 9), (1, .int a1)]) (kd_m1_bestQuestion.at 6 rfl) (by decide) rfl ?_
  refine ok_sub (lv' := [(0, .ref 9), (1, .int a1), (2, .int (-2)), (3, .int x1), (4, .int 0)]) [3, 4, 2, 1, 0] rfl ?_
  refine ok_m1_bestQuestion_L11 a1 _ (fun x12 S13 => ?_) kFU (-2) x1 0 S
  refine ok_iload_n 0 (kd_m1_bestQuestion.at 28 rfl) rfl rfl ?_
  exact ok_ireturn (kd_m1_bestQuestion.at 29 rfl) rfl
def f_m2_lookBy_L14   (k49 : kSt → Option kSt) (c2 : Int32) (c3 : Int32) : Nat → Int32 → Int32 → kSt → Option kSt
  | 0, _, _, _ => none
  | n + 1, v4, v5, S =>
    if c3 ≤ v5 then
      k49  S
    else
      if c2 ≤ 0 then
        k49  S
      else
        kgz c2 (
          knx (krem v4 c2) fun x4 =>
          kgi x4 5 (
            kgi x4 5 (
              knx (kuI S 54 x4.toNatClampNeg ((S.1 54 x4.toNatClampNeg) + 1)) fun S5 =>
              kgz c2 (
                knx (v4 / c2) fun x6 =>
                knx (v5 + 1) fun x7 =>
                f_m2_lookBy_L14 k49 c2 c3 n x6 x7 S5
              )
            )
          )
        )
theorem ok_m2_lookBy_L14 {l : Launch} {G : kG} {E : kE}    (c2 : Int32) (c3 : Int32) (k49 : kSt → Option kSt) (hk49 : ∀  (S : kSt), kOk l G E (kZ G E kjV) m2_lookBy 2 (k49  S) 49 [] [] S) : ∀ (n : Nat) (v4 : Int32) (v5 : Int32) (S : kSt), kOk l G E (kZ G E kjV) m2_lookBy 2 (f_m2_lookBy_L14 k49 c2 c3 n v4 v5 S) 14 [(0, .ref 11), (2, .int c2), (3, .int c3), (4, .int v4), (5, .int v5)] [] S := by
  intro n
  induction n with
  | zero => intro v4 v5 S; exact ok_none
  | succ n ih =>
    intro v4 v5 S
    rw [f_m2_lookBy_L14]
    refine ok_iload 4 (kd_m2_lookBy.at 8 rfl) rfl ?_
    refine ok_iload_n 2 (kd_m2_lookBy.at 9 rfl) rfl rfl ?_
    refine ok_icmp_ge (tgt := 49) (kd_m2_lookBy.at 10 rfl) (by decide) (fun h2 => ?_) (fun h2 => ?_)
    · refine ok_sub (lv' := []) [] rfl ?_
      exact hk49  S
    · refine ok_iload_n 1 (kd_m2_lookBy.at 11 rfl) rfl rfl ?_
      refine ok_if_le (tgt := 49) (kd_m2_lookBy.at 12 rfl) (by decide) (fun h3 => ?_) (fun h3 => ?_)
      · refine ok_sub (lv' := []) [] rfl ?_
        exact hk49  S
      · refine ok_aload_n 0 (kd_m2_lookBy.at 13 rfl) rfl rfl ?_
        refine ok_getR (kd_m2_lookBy.at 14 rfl) kf2_9 sh_11 rfl (kr_11_0 _) ?_
        refine ok_iload 3 (kd_m2_lookBy.at 15 rfl) rfl ?_
        refine ok_iload_n 1 (kd_m2_lookBy.at 16 rfl) rfl rfl ?_
        refine ok_iremG (kd_m2_lookBy.at 17 rfl) ?_
        refine ok_topi (fun x4 hx4 => ?_)
        refine ok_dup2 (kd_m2_lookBy.at 18 rfl) rfl rfl ?_
        refine ok_iald (kd_m2_lookBy.at 19 rfl) sh_54 ?_
        refine ok_iconst (v := 1) (kd_m2_lookBy.at 20 rfl) (by decide) ?_
        refine ok_iadd (kd_m2_lookBy.at 21 rfl) ?_
        refine ok_iast (kd_m2_lookBy.at 22 rfl) sh_54 ?_
        refine ok_nS (fun S5 hS5 => ?_)
        refine ok_iload 3 (kd_m2_lookBy.at 23 rfl) rfl ?_
        refine ok_iload_n 1 (kd_m2_lookBy.at 24 rfl) rfl rfl ?_
        refine ok_idivG (kd_m2_lookBy.at 25 rfl) ?_
        refine ok_topi (fun x6 hx6 => ?_)
        refine ok_istore (lv' := [(4, .int x6), (0, .ref 11), (2, .int c2), (3, .int c3), (5, .int v5)]) (kd_m2_lookBy.at 26 rfl) (by decide) rfl ?_
        refine ok_nx (fun x7 hx7 => ?_)
        refine ok_iinc (v := x7) (lv' := [(5, .int x7), (4, .int x6), (0, .ref 11), (2, .int c2), (3, .int c3)]) 4 (kd_m2_lookBy.at 27 rfl) rfl hx7.symm (by decide) rfl ?_
        refine ok_goto (tgt := 14) (kd_m2_lookBy.at 28 rfl) (by decide) ?_
        refine ok_sub (lv' := [(0, .ref 11), (2, .int c2), (3, .int c3), (4, .int x6), (5, .int x7)]) [2, 3, 4, 1, 0] rfl ?_
        exact ih x6 x7 S5
def f_m2_lookBy (a1 : Int32) (a2 : Int32) (a3 : Int32) (S : kSt) : Option kSt :=
  (f_mJ_fill_J7 54 5 0 S).bind fun q1 =>
  f_m2_lookBy_L14 
    (fun  (S8 : kSt) =>
      some S8
    )
    a2 a3 kFU a1 0 q1
theorem ok_m2_lookBy {l : Launch} {G : kG} {E : kE} (a1 : Int32) (a2 : Int32) (a3 : Int32)  (S : kSt) : kFn l G E E kjV m2_lookBy 2 [.ref 11, .int a1, .int a2, .int a3] S (f_m2_lookBy a1 a2 a3 S) := by
  unfold f_m2_lookBy
  refine kFn_of (by decide +kernel) (Nat.le_of_ble_eq_true rfl) ?_
  show kOk _ _ _ _ _ _ _ _ [(0, .ref 11), (1, .int a1), (2, .int a2), (3, .int a3)] _ _
  refine ok_aload_n 0 (kd_m2_lookBy.at 0 rfl) rfl rfl ?_
  refine ok_getR (kd_m2_lookBy.at 1 rfl) kf2_9 sh_11 rfl (kr_11_0 _) ?_
  refine ok_iconst (v := 0) (kd_m2_lookBy.at 2 rfl) (by decide) ?_
  refine ok_callSV (M' := mJ_fill_J7) (as := [.ref 54, .int 0]) (st := []) (kd_m2_lookBy.at 3 rfl) kc2_30  rfl (by decide) (ok_mJ_fill_J7 54 5 0 sh_54 S) (by decide) rfl (Nat.le_of_ble_eq_true rfl) (fun q1 hq1 => ?_)
  refine ok_iload_n 1 (kd_m2_lookBy.at 4 rfl) rfl rfl ?_
  refine ok_istore (lv' := [(4, .int a1), (0, .ref 11), (1, .int a1), (2, .int a2), (3, .int a3)]) (kd_m2_lookBy.at 5 rfl) (by decide) rfl ?_
  refine ok_iconst (v := 0) (kd_m2_lookBy.at 6 rfl) (by decide) ?_
  refine ok_istore (lv' := [(5, .int 0), (4, .int a1), (0, .ref 11), (1, .int a1), (2, .int a2), (3, .int a3)]) (kd_m2_lookBy.at 7 rfl) (by decide) rfl ?_
  refine ok_sub (lv' := [(0, .ref 11), (2, .int a2), (3, .int a3), (4, .int a1), (5, .int 0)]) [2, 4, 5, 1, 0] rfl ?_
  refine ok_m2_lookBy_L14 a2 a3 _ (fun S8 => ?_) kFU a1 0 q1
  exact ok_return (kd_m2_lookBy.at 29 rfl) rfl
def f_m10_firstMost_L4 (w0 : Nat)  (k32 : Int32 → kSt → Option (Int32 × kSt)) (c1 : Int32) : Nat → Int32 → Int32 → kSt → Option (Int32 × kSt)
  | 0, _, _, _ => none
  | n + 1, v2, v3, S =>
    if c1 ≤ v3 then
      k32 v2 S
    else
      if (Int32.ofNat 5) ≤ v3 then
        k32 v2 S
      else
        kgi v3 5 (
          kgi v2 5 (
            knx (fun (x3 : Int32) (S4 : kSt) =>
              knx (v3 + 1) fun x5 =>
              f_m10_firstMost_L4 w0 k32 c1 n x3 x5 S4
              ) fun j26 =>
            if (S.1 w0 v3.toNatClampNeg) ≤ (S.1 w0 v2.toNatClampNeg) then
              j26 v2 S
            else
              j26 v3 S
          )
        )
theorem ok_m10_firstMost_L4 {l : Launch} {G : kG} {E : kE} (w0 : Nat) (hw0 : kSH[w0]? = some (1, 0, 5))  (c1 : Int32) (k32 : Int32 → kSt → Option (Int32 × kSt)) (hk32 : ∀ (v2 : Int32) (S : kSt), kOk l G E (kZ G E kjI) m10_firstMost 1 (k32 v2 S) 32 [(2, .int v2)] [] S) : ∀ (n : Nat) (v2 : Int32) (v3 : Int32) (S : kSt), kOk l G E (kZ G E kjI) m10_firstMost 1 (f_m10_firstMost_L4 w0 k32 c1 n v2 v3 S) 4 [(0, .ref w0), (1, .int c1), (2, .int v2), (3, .int v3)] [] S := by
  intro n
  induction n with
  | zero => intro v2 v3 S; exact ok_none
  | succ n ih =>
    intro v2 v3 S
    rw [f_m10_firstMost_L4]
    refine ok_iload_n 3 (kd_m10_firstMost.at 4 rfl) rfl rfl ?_
    refine ok_iload_n 1 (kd_m10_firstMost.at 5 rfl) rfl rfl ?_
    refine ok_icmp_ge (tgt := 32) (kd_m10_firstMost.at 6 rfl) (by decide) (fun h1 => ?_) (fun h1 => ?_)
    · refine ok_sub (lv' := [(2, .int v2)]) [2] rfl ?_
      exact hk32 v2 S
    · refine ok_iload_n 3 (kd_m10_firstMost.at 7 rfl) rfl rfl ?_
      refine ok_aload_n 0 (kd_m10_firstMost.at 8 rfl) rfl rfl ?_
      refine ok_alen (kd_m10_firstMost.at 9 rfl) hw0 ?_
      refine ok_icmp_ge (tgt := 32) (kd_m10_firstMost.at 10 rfl) (by decide) (fun h2 => ?_) (fun h2 => ?_)
      · refine ok_sub (lv' := [(2, .int v2)]) [2] rfl ?_
        exact hk32 v2 S
      · refine ok_aload_n 0 (kd_m10_firstMost.at 11 rfl) rfl rfl ?_
        refine ok_iload_n 3 (kd_m10_firstMost.at 12 rfl) rfl rfl ?_
        refine ok_iald (kd_m10_firstMost.at 13 rfl) hw0 ?_
        refine ok_aload_n 0 (kd_m10_firstMost.at 14 rfl) rfl rfl ?_
        refine ok_iload_n 2 (kd_m10_firstMost.at 15 rfl) rfl rfl ?_
        refine ok_iald (kd_m10_firstMost.at 16 rfl) hw0 ?_
        refine ok_nx (fun j26 hj26 => ?_)
        have K26 : ∀ (x3 : Int32) (S4 : kSt), kOk l G E (kZ G E kjI) m10_firstMost 1 (j26 x3 S4) 26 [(0, .ref w0), (1, .int c1), (2, .int x3), (3, .int v3)] [] S4 := by
          subst hj26
          intro x3 S4
          refine ok_nx (fun x5 hx5 => ?_)
          refine ok_iinc (v := x5) (lv' := [(3, .int x5), (0, .ref w0), (1, .int c1), (2, .int x3)]) 3 (kd_m10_firstMost.at 20 rfl) rfl hx5.symm (by decide) rfl ?_
          refine ok_goto (tgt := 4) (kd_m10_firstMost.at 21 rfl) (by decide) ?_
          refine ok_sub (lv' := [(0, .ref w0), (1, .int c1), (2, .int x3), (3, .int x5)]) [1, 2, 3, 0] rfl ?_
          exact ih x3 x5 S4
        clear hj26
        refine ok_icmp_le (tgt := 26) (kd_m10_firstMost.at 17 rfl) (by decide) (fun h6 => ?_) (fun h6 => ?_)
        · exact K26 v2 S
        · refine ok_iload_n 3 (kd_m10_firstMost.at 18 rfl) rfl rfl ?_
          refine ok_istore_n (lv' := [(2, .int v3), (0, .ref w0), (1, .int c1), (3, .int v3)]) (kd_m10_firstMost.at 19 rfl) rfl (by decide) rfl ?_
          refine ok_sub (lv' := [(0, .ref w0), (1, .int c1), (2, .int v3), (3, .int v3)]) [1, 2, 0, 3] rfl ?_
          exact K26 v3 S
def f_m10_firstMost (w0 : Nat) (a1 : Int32) (S : kSt) : Option (Int32 × kSt) :=
  f_m10_firstMost_L4 w0
    (fun (x7 : Int32) (S8 : kSt) =>
      some (x7, S8)
    )
    a1 kFU 0 1 S
theorem ok_m10_firstMost {l : Launch} {G : kG} {E : kE} (w0 : Nat) (a1 : Int32) (hw0 : kSH[w0]? = some (1, 0, 5)) (S : kSt) : kFn l G E E kjI m10_firstMost 1 [.ref w0, .int a1] S (f_m10_firstMost w0 a1 S) := by
  unfold f_m10_firstMost
  refine kFn_of (by decide +kernel) (Nat.le_of_ble_eq_true rfl) ?_
  show kOk _ _ _ _ _ _ _ _ [(0, .ref w0), (1, .int a1)] _ _
  refine ok_iconst (v := 0) (kd_m10_firstMost.at 0 rfl) (by decide) ?_
  refine ok_istore_n (lv' := [(2, .int 0), (0, .ref w0), (1, .int a1)]) (kd_m10_firstMost.at 1 rfl) rfl (by decide) rfl ?_
  refine ok_iconst (v := 1) (kd_m10_firstMost.at 2 rfl) (by decide) ?_
  refine ok_istore_n (lv' := [(3, .int 1), (2, .int 0), (0, .ref w0), (1, .int a1)]) (kd_m10_firstMost.at 3 rfl) rfl (by decide) rfl ?_
  refine ok_sub (lv' := [(0, .ref w0), (1, .int a1), (2, .int 0), (3, .int 1)]) [2, 3, 1, 0] rfl ?_
  refine ok_m10_firstMost_L4 w0 hw0 a1 _ (fun x7 S8 => ?_) kFU 0 1 S
  refine ok_iload_n 0 (kd_m10_firstMost.at 22 rfl) rfl rfl ?_
  exact ok_ireturn (kd_m10_firstMost.at 23 rfl) rfl
def f_m2_reckon_L8   (k30 : kSt → Option kSt) (c1 : Int32) (c2 : Int32) (c3 : Int32) : Nat → Int32 → kSt → Option kSt
  | 0, _, _ => none
  | n + 1, v4, S =>
    if c3 ≤ v4 then
      k30  S
    else
      knx (kuI S 11 2 ((S.1 11 2) * c1)) fun S3 =>
      knx (v4 + 1) fun x4 =>
      f_m2_reckon_L8 k30 c1 c2 c3 n x4 S3
theorem ok_m2_reckon_L8 {l : Launch} {G : kG} {E : kE}    (c1 : Int32) (c2 : Int32) (c3 : Int32) (k30 : kSt → Option kSt) (hk30 : ∀  (S : kSt), kOk l G E (kZ G E kjV) m2_reckon 3 (k30  S) 30 [(0, .ref 11), (1, .int c1), (2, .int c2), (3, .int c3)] [] S) : ∀ (n : Nat) (v4 : Int32) (S : kSt), kOk l G E (kZ G E kjV) m2_reckon 3 (f_m2_reckon_L8 k30 c1 c2 c3 n v4 S) 8 [(0, .ref 11), (1, .int c1), (2, .int c2), (3, .int c3), (4, .int v4)] [] S := by
  intro n
  induction n with
  | zero => intro v4 S; exact ok_none
  | succ n ih =>
    intro v4 S
    rw [f_m2_reckon_L8]
    refine ok_iload 4 (kd_m2_reckon.at 5 rfl) rfl ?_
    refine ok_iload_n 3 (kd_m2_reckon.at 6 rfl) rfl rfl ?_
    refine ok_icmp_ge (tgt := 30) (kd_m2_reckon.at 7 rfl) (by decide) (fun h2 => ?_) (fun h2 => ?_)
    · refine ok_sub (lv' := [(0, .ref 11), (1, .int c1), (2, .int c2), (3, .int c3)]) [0, 1, 2, 3] rfl ?_
      exact hk30  S
    · refine ok_aload_n 0 (kd_m2_reckon.at 8 rfl) rfl rfl ?_
      refine ok_dup (kd_m2_reckon.at 9 rfl) rfl ?_
      refine ok_getI (kd_m2_reckon.at 10 rfl) kf2_15 sh_11 rfl ?_
      refine ok_iload_n 1 (kd_m2_reckon.at 11 rfl) rfl rfl ?_
      refine ok_imul (kd_m2_reckon.at 12 rfl) ?_
      refine ok_putI (kd_m2_reckon.at 13 rfl) kf2_15 sh_11 rfl rfl ?_
      refine ok_nS (fun S3 hS3 => ?_)
      refine ok_nx (fun x4 hx4 => ?_)
      refine ok_iinc (v := x4) (lv' := [(4, .int x4), (0, .ref 11), (1, .int c1), (2, .int c2), (3, .int c3)]) 4 (kd_m2_reckon.at 14 rfl) rfl hx4.symm (by decide) rfl ?_
      refine ok_goto (tgt := 8) (kd_m2_reckon.at 15 rfl) (by decide) ?_
      refine ok_sub (lv' := [(0, .ref 11), (1, .int c1), (2, .int c2), (3, .int c3), (4, .int x4)]) [1, 2, 3, 4, 0] rfl ?_
      exact ih x4 S3
def f_m2_reckon_L38   (k83 : kSt → Option kSt) (c1 : Int32) (c2 : Int32) (c3 : Int32) : Nat → Int32 → kSt → Option kSt
  | 0, _, _ => none
  | n + 1, v4, S =>
    if (S.1 11 2) ≤ v4 then
      k83  S
    else
      (f_m2_lookBy v4 c1 c3 S).bind fun q8 =>
      (f_m10_firstMost 54 c1 q8).bind fun q9 =>
      knx (fun  (S10 : kSt) =>
        knx (v4 + 1) fun x11 =>
        f_m2_reckon_L38 k83 c1 c2 c3 n x11 S10
        ) fun j77 =>
      if q9.1 = c2 then
        knx (kuI q9.2 11 1 ((q9.2.1 11 1) + 1)) fun S13 =>
        j77  S13
      else
        j77  q9.2
theorem ok_m2_reckon_L38 {l : Launch} {G : kG} {E : kE}    (c1 : Int32) (c2 : Int32) (c3 : Int32) (k83 : kSt → Option kSt) (hk83 : ∀  (S : kSt), kOk l G E (kZ G E kjV) m2_reckon 3 (k83  S) 83 [] [] S) : ∀ (n : Nat) (v4 : Int32) (S : kSt), kOk l G E (kZ G E kjV) m2_reckon 3 (f_m2_reckon_L38 k83 c1 c2 c3 n v4 S) 38 [(0, .ref 11), (1, .int c1), (2, .int c2), (3, .int c3), (4, .int v4)] [] S := by
  intro n
  induction n with
  | zero => intro v4 S; exact ok_none
  | succ n ih =>
    intro v4 S
    rw [f_m2_reckon_L38]
    refine ok_iload 4 (kd_m2_reckon.at 21 rfl) rfl ?_
    refine ok_aload_n 0 (kd_m2_reckon.at 22 rfl) rfl rfl ?_
    refine ok_getI (kd_m2_reckon.at 23 rfl) kf2_15 sh_11 rfl ?_
    refine ok_icmp_ge (tgt := 83) (kd_m2_reckon.at 24 rfl) (by decide) (fun h7 => ?_) (fun h7 => ?_)
    · refine ok_sub (lv' := []) [] rfl ?_
      exact hk83  S
    · refine ok_aload_n 0 (kd_m2_reckon.at 25 rfl) rfl rfl ?_
      refine ok_iload 4 (kd_m2_reckon.at 26 rfl) rfl ?_
      refine ok_iload_n 1 (kd_m2_reckon.at 27 rfl) rfl rfl ?_
      refine ok_iload_n 3 (kd_m2_reckon.at 28 rfl) rfl rfl ?_
      refine ok_callVV (M' := m2_lookBy) (as := [.int v4, .int c1, .int c3]) (st := []) (kd_m2_reckon.at 29 rfl) kc2_22 sh_11 rfl rfl (by decide) (ok_m2_lookBy v4 c1 c3 S) (by decide) rfl (Nat.le_of_ble_eq_true rfl) (fun q8 hq8 => ?_)
      refine ok_aload_n 0 (kd_m2_reckon.at 30 rfl) rfl rfl ?_
      refine ok_getR (kd_m2_reckon.at 31 rfl) kf2_9 sh_11 rfl (kr_11_0 _) ?_
      refine ok_iload_n 1 (kd_m2_reckon.at 32 rfl) rfl rfl ?_
      refine ok_callNI (M' := m10_firstMost) (as := [.ref 54, .int c1]) (st := []) (kd_m2_reckon.at 33 rfl) kc2_26  rfl (by decide) (ok_m10_firstMost 54 c1 sh_54 q8) (by decide) rfl (Nat.le_of_ble_eq_true rfl) (fun q9 hq9 => ?_)
      refine ok_iload_n 2 (kd_m2_reckon.at 34 rfl) rfl rfl ?_
      refine ok_nx (fun j77 hj77 => ?_)
      have K77 : ∀  (S10 : kSt), kOk l G E (kZ G E kjV) m2_reckon 3 (j77  S10) 77 [(0, .ref 11), (1, .int c1), (2, .int c2), (3, .int c3), (4, .int v4)] [] S10 := by
        subst hj77
        intro  S10
        refine ok_nx (fun x11 hx11 => ?_)
        refine ok_iinc (v := x11) (lv' := [(4, .int x11), (0, .ref 11), (1, .int c1), (2, .int c2), (3, .int c3)]) 4 (kd_m2_reckon.at 42 rfl) rfl hx11.symm (by decide) rfl ?_
        refine ok_goto (tgt := 38) (kd_m2_reckon.at 43 rfl) (by decide) ?_
        refine ok_sub (lv' := [(0, .ref 11), (1, .int c1), (2, .int c2), (3, .int c3), (4, .int x11)]) [1, 2, 3, 4, 0] rfl ?_
        exact ih x11 S10
      clear hj77
      refine ok_icmp_ne (tgt := 77) (kd_m2_reckon.at 35 rfl) (by decide) (fun h12 => ?_) (fun h12 => ?_)
      · exact K77  q9.2
      · refine ok_aload_n 0 (kd_m2_reckon.at 36 rfl) rfl rfl ?_
        refine ok_dup (kd_m2_reckon.at 37 rfl) rfl ?_
        refine ok_getI (kd_m2_reckon.at 38 rfl) kf2_19 sh_11 rfl ?_
        refine ok_iconst (v := 1) (kd_m2_reckon.at 39 rfl) (by decide) ?_
        refine ok_iadd (kd_m2_reckon.at 40 rfl) ?_
        refine ok_putI (kd_m2_reckon.at 41 rfl) kf2_19 sh_11 rfl rfl ?_
        refine ok_nS (fun S13 hS13 => ?_)
        exact K77  S13
def f_m2_reckon (a1 : Int32) (a2 : Int32) (a3 : Int32) (S : kSt) : Option kSt :=
  knx (kuI S 11 2 1) fun S1 =>
  f_m2_reckon_L8 
    (fun  (S5 : kSt) =>
      knx (kuI S5 11 1 0) fun S6 =>
      f_m2_reckon_L38 
        (fun  (S14 : kSt) =>
          some S14
        )
        a1 a2 a3 kFU 0 S6
    )
    a1 a2 a3 kFU 0 S1
theorem ok_m2_reckon {l : Launch} {G : kG} {E : kE} (a1 : Int32) (a2 : Int32) (a3 : Int32)  (S : kSt) : kFn l G E E kjV m2_reckon 3 [.ref 11, .int a1, .int a2, .int a3] S (f_m2_reckon a1 a2 a3 S) := by
  unfold f_m2_reckon
  refine kFn_of (by decide +kernel) (Nat.le_of_ble_eq_true rfl) ?_
  show kOk _ _ _ _ _ _ _ _ [(0, .ref 11), (1, .int a1), (2, .int a2), (3, .int a3)] _ _
  refine ok_aload_n 0 (kd_m2_reckon.at 0 rfl) rfl rfl ?_
  refine ok_iconst (v := 1) (kd_m2_reckon.at 1 rfl) (by decide) ?_
  refine ok_putI (kd_m2_reckon.at 2 rfl) kf2_15 sh_11 rfl rfl ?_
  refine ok_nS (fun S1 hS1 => ?_)
  refine ok_iconst (v := 0) (kd_m2_reckon.at 3 rfl) (by decide) ?_
  refine ok_istore (lv' := [(4, .int 0), (0, .ref 11), (1, .int a1), (2, .int a2), (3, .int a3)]) (kd_m2_reckon.at 4 rfl) (by decide) rfl ?_
  refine ok_sub (lv' := [(0, .ref 11), (1, .int a1), (2, .int a2), (3, .int a3), (4, .int 0)]) [1, 2, 3, 4, 0] rfl ?_
  refine ok_m2_reckon_L8 a1 a2 a3 _ (fun S5 => ?_) kFU 0 S1
  refine ok_aload_n 0 (kd_m2_reckon.at 16 rfl) rfl rfl ?_
  refine ok_iconst (v := 0) (kd_m2_reckon.at 17 rfl) (by decide) ?_
  refine ok_putI (kd_m2_reckon.at 18 rfl) kf2_19 sh_11 rfl rfl ?_
  refine ok_nS (fun S6 hS6 => ?_)
  refine ok_iconst (v := 0) (kd_m2_reckon.at 19 rfl) (by decide) ?_
  refine ok_istore (lv' := [(4, .int 0), (0, .ref 11), (1, .int a1), (2, .int a2), (3, .int a3)]) (kd_m2_reckon.at 20 rfl) (by decide) rfl ?_
  refine ok_sub (lv' := [(0, .ref 11), (1, .int a1), (2, .int a2), (3, .int a3), (4, .int 0)]) [1, 2, 3, 4, 0] rfl ?_
  refine ok_m2_reckon_L38 a1 a2 a3 _ (fun S14 => ?_) kFU 0 S6
  exact ok_return (kd_m2_reckon.at 44 rfl) rfl
def f_m10_drawFrom (a0 : Int32) (S : kSt) : Option (Int32 × kSt) :=
  some (krem ((75 * a0) + 74) 65537, S)
theorem ok_m10_drawFrom {l : Launch} {G : kG} {E : kE} (a0 : Int32)  (S : kSt) : kFn l G E E kjI m10_drawFrom 1 [.int a0] S (f_m10_drawFrom a0 S) := by
  unfold f_m10_drawFrom
  refine kFn_of (by decide +kernel) (Nat.le_of_ble_eq_true rfl) ?_
  show kOk _ _ _ _ _ _ _ _ [(0, .int a0)] _ _
  refine ok_bipush (v := 75) (kd_m10_drawFrom.at 0 rfl) (by decide) ?_
  refine ok_iload_n 0 (kd_m10_drawFrom.at 1 rfl) rfl rfl ?_
  refine ok_imul (kd_m10_drawFrom.at 2 rfl) ?_
  refine ok_bipush (v := 74) (kd_m10_drawFrom.at 3 rfl) (by decide) ?_
  refine ok_iadd (kd_m10_drawFrom.at 4 rfl) ?_
  refine ok_ldcw (kd_m10_drawFrom.at 5 rfl) kco_10_363 ?_
  refine ok_iremK (kd_m10_drawFrom.at 6 rfl) (by decide) ?_
  exact ok_ireturn (kd_m10_drawFrom.at 7 rfl) rfl
def f_m2_look_L14   (k50 : kSt → Option kSt) (c1 : Int32) (c3 : Int32) : Nat → Int32 → Int32 → kSt → Option kSt
  | 0, _, _, _ => none
  | n + 1, v4, v5, S =>
    if c3 ≤ v5 then
      k50  S
    else
      if c1 ≤ 0 then
        k50  S
      else
        (f_m10_drawFrom v4 S).bind fun q4 =>
        kgz c1 (
          knx (krem q4.1 c1) fun x5 =>
          kgi x5 5 (
            kgi x5 5 (
              knx (kuI q4.2 54 x5.toNatClampNeg ((q4.2.1 54 x5.toNatClampNeg) + 1)) fun S6 =>
              knx (v5 + 1) fun x7 =>
              f_m2_look_L14 k50 c1 c3 n q4.1 x7 S6
            )
          )
        )
theorem ok_m2_look_L14 {l : Launch} {G : kG} {E : kE}    (c1 : Int32) (c3 : Int32) (k50 : kSt → Option kSt) (hk50 : ∀  (S : kSt), kOk l G E (kZ G E kjV) m2_look 2 (k50  S) 50 [] [] S) : ∀ (n : Nat) (v4 : Int32) (v5 : Int32) (S : kSt), kOk l G E (kZ G E kjV) m2_look 2 (f_m2_look_L14 k50 c1 c3 n v4 v5 S) 14 [(0, .ref 11), (1, .int c1), (3, .int c3), (4, .int v4), (5, .int v5)] [] S := by
  intro n
  induction n with
  | zero => intro v4 v5 S; exact ok_none
  | succ n ih =>
    intro v4 v5 S
    rw [f_m2_look_L14]
    refine ok_iload 4 (kd_m2_look.at 8 rfl) rfl ?_
    refine ok_iload_n 2 (kd_m2_look.at 9 rfl) rfl rfl ?_
    refine ok_icmp_ge (tgt := 50) (kd_m2_look.at 10 rfl) (by decide) (fun h2 => ?_) (fun h2 => ?_)
    · refine ok_sub (lv' := []) [] rfl ?_
      exact hk50  S
    · refine ok_iload_n 1 (kd_m2_look.at 11 rfl) rfl rfl ?_
      refine ok_if_le (tgt := 50) (kd_m2_look.at 12 rfl) (by decide) (fun h3 => ?_) (fun h3 => ?_)
      · refine ok_sub (lv' := []) [] rfl ?_
        exact hk50  S
      · refine ok_iload 3 (kd_m2_look.at 13 rfl) rfl ?_
        refine ok_callNI (M' := m10_drawFrom) (as := [.int v4]) (st := []) (kd_m2_look.at 14 rfl) kc2_36  rfl (by decide) (ok_m10_drawFrom v4 S) (by decide) rfl (Nat.le_of_ble_eq_true rfl) (fun q4 hq4 => ?_)
        refine ok_istore (lv' := [(4, .int q4.1), (0, .ref 11), (1, .int c1), (3, .int c3), (5, .int v5)]) (kd_m2_look.at 15 rfl) (by decide) rfl ?_
        refine ok_aload_n 1 (kd_m2_look.at 16 rfl) rfl rfl ?_
        refine ok_getR (kd_m2_look.at 17 rfl) kf2_9 sh_11 rfl (kr_11_0 _) ?_
        refine ok_iload 0 (kd_m2_look.at 18 rfl) rfl ?_
        refine ok_iload_n 2 (kd_m2_look.at 19 rfl) rfl rfl ?_
        refine ok_iremG (kd_m2_look.at 20 rfl) ?_
        refine ok_topi (fun x5 hx5 => ?_)
        refine ok_dup2 (kd_m2_look.at 21 rfl) rfl rfl ?_
        refine ok_iald (kd_m2_look.at 22 rfl) sh_54 ?_
        refine ok_iconst (v := 1) (kd_m2_look.at 23 rfl) (by decide) ?_
        refine ok_iadd (kd_m2_look.at 24 rfl) ?_
        refine ok_iast (kd_m2_look.at 25 rfl) sh_54 ?_
        refine ok_nS (fun S6 hS6 => ?_)
        refine ok_nx (fun x7 hx7 => ?_)
        refine ok_iinc (v := x7) (lv' := [(5, .int x7), (4, .int q4.1), (0, .ref 11), (1, .int c1), (3, .int c3)]) 4 (kd_m2_look.at 26 rfl) rfl hx7.symm (by decide) rfl ?_
        refine ok_goto (tgt := 14) (kd_m2_look.at 27 rfl) (by decide) ?_
        refine ok_sub (lv' := [(0, .ref 11), (1, .int c1), (3, .int c3), (4, .int q4.1), (5, .int x7)]) [2, 3, 4, 1, 0] rfl ?_
        exact ih q4.1 x7 S6
def f_m2_look (a1 : Int32) (a2 : Int32) (a3 : Int32) (S : kSt) : Option kSt :=
  (f_mJ_fill_J7 54 5 0 S).bind fun q1 =>
  f_m2_look_L14 
    (fun  (S8 : kSt) =>
      some S8
    )
    a1 a3 kFU a2 0 q1
theorem ok_m2_look {l : Launch} {G : kG} {E : kE} (a1 : Int32) (a2 : Int32) (a3 : Int32)  (S : kSt) : kFn l G E E kjV m2_look 2 [.ref 11, .int a1, .int a2, .int a3] S (f_m2_look a1 a2 a3 S) := by
  unfold f_m2_look
  refine kFn_of (by decide +kernel) (Nat.le_of_ble_eq_true rfl) ?_
  show kOk _ _ _ _ _ _ _ _ [(0, .ref 11), (1, .int a1), (2, .int a2), (3, .int a3)] _ _
  refine ok_aload_n 0 (kd_m2_look.at 0 rfl) rfl rfl ?_
  refine ok_getR (kd_m2_look.at 1 rfl) kf2_9 sh_11 rfl (kr_11_0 _) ?_
  refine ok_iconst (v := 0) (kd_m2_look.at 2 rfl) (by decide) ?_
  refine ok_callSV (M' := mJ_fill_J7) (as := [.ref 54, .int 0]) (st := []) (kd_m2_look.at 3 rfl) kc2_30  rfl (by decide) (ok_mJ_fill_J7 54 5 0 sh_54 S) (by decide) rfl (Nat.le_of_ble_eq_true rfl) (fun q1 hq1 => ?_)
  refine ok_iload_n 2 (kd_m2_look.at 4 rfl) rfl rfl ?_
  refine ok_istore (lv' := [(4, .int a2), (0, .ref 11), (1, .int a1), (2, .int a2), (3, .int a3)]) (kd_m2_look.at 5 rfl) (by decide) rfl ?_
  refine ok_iconst (v := 0) (kd_m2_look.at 6 rfl) (by decide) ?_
  refine ok_istore (lv' := [(5, .int 0), (4, .int a2), (0, .ref 11), (1, .int a1), (2, .int a2), (3, .int a3)]) (kd_m2_look.at 7 rfl) (by decide) rfl ?_
  refine ok_sub (lv' := [(0, .ref 11), (1, .int a1), (3, .int a3), (4, .int a2), (5, .int 0)]) [2, 3, 5, 1, 0] rfl ?_
  refine ok_m2_look_L14 a1 a3 _ (fun S8 => ?_) kFU a2 0 q1
  exact ok_return (kd_m2_look.at 28 rfl) rfl
end
section
def f_m3_forget  (S : kSt) : Option kSt :=
  knx (kuI S 5 2 0) fun S1 =>
  some S1
theorem ok_m3_forget {l : Launch} {G : kG} {E : kE}   (S : kSt) : kFn l G E E kjV m3_forget 1 [.ref 5] S (f_m3_forget  S) := by
  unfold f_m3_forget
  refine kFn_of (by decide +kernel) (Nat.le_of_ble_eq_true rfl) ?_
  show kOk _ _ _ _ _ _ _ _ [(0, .ref 5)] _ _
  refine ok_aload_n 0 (kd_m3_forget.at 0 rfl) rfl rfl ?_
  refine ok_iconst (v := 0) (kd_m3_forget.at 1 rfl) (by decide) ?_
  refine ok_putI (kd_m3_forget.at 2 rfl) kf3_18 sh_5 rfl rfl ?_
  refine ok_nS (fun S1 hS1 => ?_)
  exact ok_return (kd_m3_forget.at 3 rfl) rfl
def f_m4_save (w1 : Nat) (S : kSt) : Option kSt :=
  if 36 ≤ (Int32.ofNat 36) then
    kgi 0 36 (
      knx (kuI S w1 (0 : Int32).toNatClampNeg (S.1 4 0)) fun S2 =>
      knx (kcp S2 40 w1 0 1 5) fun S3 =>
      knx (kcp S3 41 w1 0 6 5) fun S4 =>
      knx (kcp S4 42 w1 0 11 25) fun S5 =>
      some S5
    )
  else
    some S
theorem ok_m4_save {l : Launch} {G : kG} {E : kE} (w1 : Nat) (hw1 : kSH[w1]? = some (1, 0, 36)) (S : kSt) : kFn l G E E kjV m4_save 1 [.ref 4, .ref w1] S (f_m4_save w1 S) := by
  unfold f_m4_save
  refine kFn_of (by decide +kernel) (Nat.le_of_ble_eq_true rfl) ?_
  show kOk _ _ _ _ _ _ _ _ [(0, .ref 4), (1, .ref w1)] _ _
  refine ok_aload_n 1 (kd_m4_save.at 0 rfl) rfl rfl ?_
  refine ok_alen (kd_m4_save.at 1 rfl) hw1 ?_
  refine ok_bipush (v := 36) (kd_m4_save.at 2 rfl) (by decide) ?_
  refine ok_icmp_ge (tgt := 8) (kd_m4_save.at 3 rfl) (by decide) (fun h1 => ?_) (fun h1 => ?_)
  · refine ok_aload_n 1 (kd_m4_save.at 5 rfl) rfl rfl ?_
    refine ok_iconst (v := 0) (kd_m4_save.at 6 rfl) (by decide) ?_
    refine ok_aload_n 0 (kd_m4_save.at 7 rfl) rfl rfl ?_
    refine ok_getI (kd_m4_save.at 8 rfl) kf4_21 sh_4 rfl ?_
    refine ok_iast (kd_m4_save.at 9 rfl) hw1 ?_
    refine ok_nS (fun S2 hS2 => ?_)
    refine ok_aload_n 0 (kd_m4_save.at 10 rfl) rfl rfl ?_
    refine ok_getR (kd_m4_save.at 11 rfl) kf4_11 sh_4 rfl (kr_4_1 _) ?_
    refine ok_iconst (v := 0) (kd_m4_save.at 12 rfl) (by decide) ?_
    refine ok_aload_n 1 (kd_m4_save.at 13 rfl) rfl rfl ?_
    refine ok_iconst (v := 1) (kd_m4_save.at 14 rfl) (by decide) ?_
    refine ok_iconst (v := 5) (kd_m4_save.at 15 rfl) (by decide) ?_
    refine ok_acopyK (a := 0) (b := 1) (n' := 5) (kd_m4_save.at 16 rfl) kac_4_28 kac2 kac3 kac4 sh_40 hw1 (by decide) (by decide) (by decide) (by decide) (by decide) (Nat.le_of_ble_eq_true rfl) ?_
    refine ok_nS (fun S3 hS3 => ?_)
    refine ok_aload_n 0 (kd_m4_save.at 17 rfl) rfl rfl ?_
    refine ok_getR (kd_m4_save.at 18 rfl) kf4_15 sh_4 rfl (kr_4_2 _) ?_
    refine ok_iconst (v := 0) (kd_m4_save.at 19 rfl) (by decide) ?_
    refine ok_aload_n 1 (kd_m4_save.at 20 rfl) rfl rfl ?_
    refine ok_bipush (v := 6) (kd_m4_save.at 21 rfl) (by decide) ?_
    refine ok_iconst (v := 5) (kd_m4_save.at 22 rfl) (by decide) ?_
    refine ok_acopyK (a := 0) (b := 6) (n' := 5) (kd_m4_save.at 23 rfl) kac_4_28 kac2 kac3 kac4 sh_41 hw1 (by decide) (by decide) (by decide) (by decide) (by decide) (Nat.le_of_ble_eq_true rfl) ?_
    refine ok_nS (fun S4 hS4 => ?_)
    refine ok_aload_n 0 (kd_m4_save.at 24 rfl) rfl rfl ?_
    refine ok_getR (kd_m4_save.at 25 rfl) kf4_18 sh_4 rfl (kr_4_3 _) ?_
    refine ok_iconst (v := 0) (kd_m4_save.at 26 rfl) (by decide) ?_
    refine ok_aload_n 1 (kd_m4_save.at 27 rfl) rfl rfl ?_
    refine ok_bipush (v := 11) (kd_m4_save.at 28 rfl) (by decide) ?_
    refine ok_bipush (v := 25) (kd_m4_save.at 29 rfl) (by decide) ?_
    refine ok_acopyK (a := 0) (b := 11) (n' := 25) (kd_m4_save.at 30 rfl) kac_4_28 kac2 kac3 kac4 sh_42 hw1 (by decide) (by decide) (by decide) (by decide) (by decide) (Nat.le_of_ble_eq_true rfl) ?_
    refine ok_nS (fun S5 hS5 => ?_)
    exact ok_return (kd_m4_save.at 31 rfl) rfl
  · exact ok_return (kd_m4_save.at 4 rfl) rfl
def f_m3_keep  (S : kSt) : Option kSt :=
  knx (S.1 5 1) fun x1 =>
  kgi x1 16 (
    (f_m4_save (73 + x1.toNatClampNeg) S).bind fun q3 =>
    knx (kuI q3 5 1 (krem ((q3.1 5 1) + 1) 16)) fun S4 =>
    knx (kuI S4 5 2 (kmin ((S4.1 5 2) + 1) 16)) fun S5 =>
    some S5
  )
theorem ok_m3_keep {l : Launch} {G : kG} {E : kE}   (S : kSt) : kFn l G E E kjV m3_keep 2 [.ref 5, .ref 4] S (f_m3_keep  S) := by
  unfold f_m3_keep
  refine kFn_of (by decide +kernel) (Nat.le_of_ble_eq_true rfl) ?_
  show kOk _ _ _ _ _ _ _ _ [(0, .ref 5), (1, .ref 4)] _ _
  refine ok_aload_n 1 (kd_m3_keep.at 0 rfl) rfl rfl ?_
  refine ok_aload_n 0 (kd_m3_keep.at 1 rfl) rfl rfl ?_
  refine ok_getR (kd_m3_keep.at 2 rfl) kf3_13 sh_5 rfl (kr_5_0 _) ?_
  refine ok_aload_n 0 (kd_m3_keep.at 3 rfl) rfl rfl ?_
  refine ok_getI (kd_m3_keep.at 4 rfl) kf3_22 sh_5 rfl ?_
  refine ok_topi (fun x1 hx1 => ?_)
  refine ok_aald (b := 73) (kd_m3_keep.at 5 rfl) sh_43 (kr_row _) (fun hx2 => ?_)
  refine ok_callVV (M' := m4_save) (as := [.ref (73 + x1.toNatClampNeg)]) (st := []) (kd_m3_keep.at 6 rfl) kc3_25 sh_4 rfl rfl (by decide) (ok_m4_save (73 + x1.toNatClampNeg) (sh_row _ hx2) S) (by decide) rfl (Nat.le_of_ble_eq_true rfl) (fun q3 hq3 => ?_)
  refine ok_aload_n 0 (kd_m3_keep.at 7 rfl) rfl rfl ?_
  refine ok_aload_n 0 (kd_m3_keep.at 8 rfl) rfl rfl ?_
  refine ok_getI (kd_m3_keep.at 9 rfl) kf3_22 sh_5 rfl ?_
  refine ok_iconst (v := 1) (kd_m3_keep.at 10 rfl) (by decide) ?_
  refine ok_iadd (kd_m3_keep.at 11 rfl) ?_
  refine ok_bipush (v := 16) (kd_m3_keep.at 12 rfl) (by decide) ?_
  refine ok_iremK (kd_m3_keep.at 13 rfl) (by decide) ?_
  refine ok_putI (kd_m3_keep.at 14 rfl) kf3_22 sh_5 rfl rfl ?_
  refine ok_nS (fun S4 hS4 => ?_)
  refine ok_aload_n 0 (kd_m3_keep.at 15 rfl) rfl rfl ?_
  refine ok_aload_n 0 (kd_m3_keep.at 16 rfl) rfl rfl ?_
  refine ok_getI (kd_m3_keep.at 17 rfl) kf3_18 sh_5 rfl ?_
  refine ok_iconst (v := 1) (kd_m3_keep.at 18 rfl) (by decide) ?_
  refine ok_iadd (kd_m3_keep.at 19 rfl) ?_
  refine ok_bipush (v := 16) (kd_m3_keep.at 20 rfl) (by decide) ?_
  refine ok_mmin (kd_m3_keep.at 21 rfl) kc3_29 (by decide) (Nat.le_of_ble_eq_true rfl) ?_
  refine ok_putI (kd_m3_keep.at 22 rfl) kf3_18 sh_5 rfl rfl ?_
  refine ok_nS (fun S5 hS5 => ?_)
  exact ok_return (kd_m3_keep.at 23 rfl) rfl
def f_m4_load (w1 : Nat) (S : kSt) : Option kSt :=
  if 36 ≤ (Int32.ofNat 36) then
    kgi 0 36 (
      knx (kuI S 4 0 (S.1 w1 (0 : Int32).toNatClampNeg)) fun S2 =>
      knx (kcp S2 w1 40 1 0 5) fun S3 =>
      knx (kcp S3 w1 41 6 0 5) fun S4 =>
      knx (kcp S4 w1 42 11 0 25) fun S5 =>
      some S5
    )
  else
    some S
theorem ok_m4_load {l : Launch} {G : kG} {E : kE} (w1 : Nat) (hw1 : kSH[w1]? = some (1, 0, 36)) (S : kSt) : kFn l G E E kjV m4_load 1 [.ref 4, .ref w1] S (f_m4_load w1 S) := by
  unfold f_m4_load
  refine kFn_of (by decide +kernel) (Nat.le_of_ble_eq_true rfl) ?_
  show kOk _ _ _ _ _ _ _ _ [(0, .ref 4), (1, .ref w1)] _ _
  refine ok_aload_n 1 (kd_m4_load.at 0 rfl) rfl rfl ?_
  refine ok_alen (kd_m4_load.at 1 rfl) hw1 ?_
  refine ok_bipush (v := 36) (kd_m4_load.at 2 rfl) (by decide) ?_
  refine ok_icmp_ge (tgt := 8) (kd_m4_load.at 3 rfl) (by decide) (fun h1 => ?_) (fun h1 => ?_)
  · refine ok_aload_n 0 (kd_m4_load.at 5 rfl) rfl rfl ?_
    refine ok_aload_n 1 (kd_m4_load.at 6 rfl) rfl rfl ?_
    refine ok_iconst (v := 0) (kd_m4_load.at 7 rfl) (by decide) ?_
    refine ok_iald (kd_m4_load.at 8 rfl) hw1 ?_
    refine ok_putI (kd_m4_load.at 9 rfl) kf4_21 sh_4 rfl rfl ?_
    refine ok_nS (fun S2 hS2 => ?_)
    refine ok_aload_n 1 (kd_m4_load.at 10 rfl) rfl rfl ?_
    refine ok_iconst (v := 1) (kd_m4_load.at 11 rfl) (by decide) ?_
    refine ok_aload_n 0 (kd_m4_load.at 12 rfl) rfl rfl ?_
    refine ok_getR (kd_m4_load.at 13 rfl) kf4_11 sh_4 rfl (kr_4_1 _) ?_
    refine ok_iconst (v := 0) (kd_m4_load.at 14 rfl) (by decide) ?_
    refine ok_iconst (v := 5) (kd_m4_load.at 15 rfl) (by decide) ?_
    refine ok_acopyK (a := 1) (b := 0) (n' := 5) (kd_m4_load.at 16 rfl) kac_4_28 kac2 kac3 kac4 hw1 sh_40 (by decide) (by decide) (by decide) (by decide) (by decide) (Nat.le_of_ble_eq_true rfl) ?_
    refine ok_nS (fun S3 hS3 => ?_)
    refine ok_aload_n 1 (kd_m4_load.at 17 rfl) rfl rfl ?_
    refine ok_bipush (v := 6) (kd_m4_load.at 18 rfl) (by decide) ?_
    refine ok_aload_n 0 (kd_m4_load.at 19 rfl) rfl rfl ?_
    refine ok_getR (kd_m4_load.at 20 rfl) kf4_15 sh_4 rfl (kr_4_2 _) ?_
    refine ok_iconst (v := 0) (kd_m4_load.at 21 rfl) (by decide) ?_
    refine ok_iconst (v := 5) (kd_m4_load.at 22 rfl) (by decide) ?_
    refine ok_acopyK (a := 6) (b := 0) (n' := 5) (kd_m4_load.at 23 rfl) kac_4_28 kac2 kac3 kac4 hw1 sh_41 (by decide) (by decide) (by decide) (by decide) (by decide) (Nat.le_of_ble_eq_true rfl) ?_
    refine ok_nS (fun S4 hS4 => ?_)
    refine ok_aload_n 1 (kd_m4_load.at 24 rfl) rfl rfl ?_
    refine ok_bipush (v := 11) (kd_m4_load.at 25 rfl) (by decide) ?_
    refine ok_aload_n 0 (kd_m4_load.at 26 rfl) rfl rfl ?_
    refine ok_getR (kd_m4_load.at 27 rfl) kf4_18 sh_4 rfl (kr_4_3 _) ?_
    refine ok_iconst (v := 0) (kd_m4_load.at 28 rfl) (by decide) ?_
    refine ok_bipush (v := 25) (kd_m4_load.at 29 rfl) (by decide) ?_
    refine ok_acopyK (a := 11) (b := 0) (n' := 25) (kd_m4_load.at 30 rfl) kac_4_28 kac2 kac3 kac4 hw1 sh_42 (by decide) (by decide) (by decide) (by decide) (by decide) (Nat.le_of_ble_eq_true rfl) ?_
    refine ok_nS (fun S5 hS5 => ?_)
    exact ok_return (kd_m4_load.at 31 rfl) rfl
  · exact ok_return (kd_m4_load.at 4 rfl) rfl
def f_m3_takeBack  (S : kSt) : Option kSt :=
  if (S.1 5 2) ≤ 0 then
    some S
  else
    knx (kuI S 5 1 (krem (((S.1 5 1) + 16) - 1) 16)) fun S2 =>
    knx (kuI S2 5 2 ((S2.1 5 2) - 1)) fun S3 =>
    knx (S3.1 5 1) fun x4 =>
    kgi x4 16 (
      (f_m4_load (73 + x4.toNatClampNeg) S3).bind fun q6 =>
      some q6
    )
theorem ok_m3_takeBack {l : Launch} {G : kG} {E : kE}   (S : kSt) : kFn l G E E kjV m3_takeBack 2 [.ref 5, .ref 4] S (f_m3_takeBack  S) := by
  unfold f_m3_takeBack
  refine kFn_of (by decide +kernel) (Nat.le_of_ble_eq_true rfl) ?_
  show kOk _ _ _ _ _ _ _ _ [(0, .ref 5), (1, .ref 4)] _ _
  refine ok_aload_n 0 (kd_m3_takeBack.at 0 rfl) rfl rfl ?_
  refine ok_getI (kd_m3_takeBack.at 1 rfl) kf3_18 sh_5 rfl ?_
  refine ok_if_le (tgt := 46) (kd_m3_takeBack.at 2 rfl) (by decide) (fun h1 => ?_) (fun h1 => ?_)
  · exact ok_return (kd_m3_takeBack.at 26 rfl) rfl
  · refine ok_aload_n 0 (kd_m3_takeBack.at 3 rfl) rfl rfl ?_
    refine ok_aload_n 0 (kd_m3_takeBack.at 4 rfl) rfl rfl ?_
    refine ok_getI (kd_m3_takeBack.at 5 rfl) kf3_22 sh_5 rfl ?_
    refine ok_bipush (v := 16) (kd_m3_takeBack.at 6 rfl) (by decide) ?_
    refine ok_iadd (kd_m3_takeBack.at 7 rfl) ?_
    refine ok_iconst (v := 1) (kd_m3_takeBack.at 8 rfl) (by decide) ?_
    refine ok_isub (kd_m3_takeBack.at 9 rfl) ?_
    refine ok_bipush (v := 16) (kd_m3_takeBack.at 10 rfl) (by decide) ?_
    refine ok_iremK (kd_m3_takeBack.at 11 rfl) (by decide) ?_
    refine ok_putI (kd_m3_takeBack.at 12 rfl) kf3_22 sh_5 rfl rfl ?_
    refine ok_nS (fun S2 hS2 => ?_)
    refine ok_aload_n 0 (kd_m3_takeBack.at 13 rfl) rfl rfl ?_
    refine ok_dup (kd_m3_takeBack.at 14 rfl) rfl ?_
    refine ok_getI (kd_m3_takeBack.at 15 rfl) kf3_18 sh_5 rfl ?_
    refine ok_iconst (v := 1) (kd_m3_takeBack.at 16 rfl) (by decide) ?_
    refine ok_isub (kd_m3_takeBack.at 17 rfl) ?_
    refine ok_putI (kd_m3_takeBack.at 18 rfl) kf3_18 sh_5 rfl rfl ?_
    refine ok_nS (fun S3 hS3 => ?_)
    refine ok_aload_n 1 (kd_m3_takeBack.at 19 rfl) rfl rfl ?_
    refine ok_aload_n 0 (kd_m3_takeBack.at 20 rfl) rfl rfl ?_
    refine ok_getR (kd_m3_takeBack.at 21 rfl) kf3_13 sh_5 rfl (kr_5_0 _) ?_
    refine ok_aload_n 0 (kd_m3_takeBack.at 22 rfl) rfl rfl ?_
    refine ok_getI (kd_m3_takeBack.at 23 rfl) kf3_22 sh_5 rfl ?_
    refine ok_topi (fun x4 hx4 => ?_)
    refine ok_aald (b := 73) (kd_m3_takeBack.at 24 rfl) sh_43 (kr_row _) (fun hx5 => ?_)
    refine ok_callVV (M' := m4_load) (as := [.ref (73 + x4.toNatClampNeg)]) (st := []) (kd_m3_takeBack.at 25 rfl) kc3_35 sh_4 rfl rfl (by decide) (ok_m4_load (73 + x4.toNatClampNeg) (sh_row _ hx5) S3) (by decide) rfl (Nat.le_of_ble_eq_true rfl) (fun q6 hq6 => ?_)
    exact ok_return (kd_m3_takeBack.at 26 rfl) rfl
def f_m4_begin  (S : kSt) : Option kSt :=
  knx (kuI S 4 0 0) fun S1 =>
  knx (kcp S1 19 40 0 0 5) fun S2 =>
  knx (kcp S2 20 41 0 0 5) fun S3 =>
  knx (kcp S3 22 42 0 0 25) fun S4 =>
  some S4
theorem ok_m4_begin {l : Launch} {G : kG} {E : kE}   (S : kSt) : kFn l G E E kjV m4_begin 1 [.ref 4, .ref 1] S (f_m4_begin  S) := by
  unfold f_m4_begin
  refine kFn_of (by decide +kernel) (Nat.le_of_ble_eq_true rfl) ?_
  show kOk _ _ _ _ _ _ _ _ [(0, .ref 4), (1, .ref 1)] _ _
  refine ok_aload_n 0 (kd_m4_begin.at 0 rfl) rfl rfl ?_
  refine ok_iconst (v := 0) (kd_m4_begin.at 1 rfl) (by decide) ?_
  refine ok_putI (kd_m4_begin.at 2 rfl) kf4_21 sh_4 rfl rfl ?_
  refine ok_nS (fun S1 hS1 => ?_)
  refine ok_aload_n 1 (kd_m4_begin.at 3 rfl) rfl rfl ?_
  refine ok_getR (kd_m4_begin.at 4 rfl) kf4_25 sh_1 rfl (kr_1_8 _) ?_
  refine ok_iconst (v := 0) (kd_m4_begin.at 5 rfl) (by decide) ?_
  refine ok_aload_n 0 (kd_m4_begin.at 6 rfl) rfl rfl ?_
  refine ok_getR (kd_m4_begin.at 7 rfl) kf4_11 sh_4 rfl (kr_4_1 _) ?_
  refine ok_iconst (v := 0) (kd_m4_begin.at 8 rfl) (by decide) ?_
  refine ok_iconst (v := 5) (kd_m4_begin.at 9 rfl) (by decide) ?_
  refine ok_acopyK (a := 0) (b := 0) (n' := 5) (kd_m4_begin.at 10 rfl) kac_4_28 kac2 kac3 kac4 sh_19 sh_40 (by decide) (by decide) (by decide) (by decide) (by decide) (Nat.le_of_ble_eq_true rfl) ?_
  refine ok_nS (fun S2 hS2 => ?_)
  refine ok_aload_n 1 (kd_m4_begin.at 11 rfl) rfl rfl ?_
  refine ok_getR (kd_m4_begin.at 12 rfl) kf4_34 sh_1 rfl (kr_1_9 _) ?_
  refine ok_iconst (v := 0) (kd_m4_begin.at 13 rfl) (by decide) ?_
  refine ok_aload_n 0 (kd_m4_begin.at 14 rfl) rfl rfl ?_
  refine ok_getR (kd_m4_begin.at 15 rfl) kf4_15 sh_4 rfl (kr_4_2 _) ?_
  refine ok_iconst (v := 0) (kd_m4_begin.at 16 rfl) (by decide) ?_
  refine ok_iconst (v := 5) (kd_m4_begin.at 17 rfl) (by decide) ?_
  refine ok_acopyK (a := 0) (b := 0) (n' := 5) (kd_m4_begin.at 18 rfl) kac_4_28 kac2 kac3 kac4 sh_20 sh_41 (by decide) (by decide) (by decide) (by decide) (by decide) (Nat.le_of_ble_eq_true rfl) ?_
  refine ok_nS (fun S3 hS3 => ?_)
  refine ok_aload_n 1 (kd_m4_begin.at 19 rfl) rfl rfl ?_
  refine ok_getR (kd_m4_begin.at 20 rfl) kf4_35 sh_1 rfl (kr_1_11 _) ?_
  refine ok_iconst (v := 0) (kd_m4_begin.at 21 rfl) (by decide) ?_
  refine ok_aload_n 0 (kd_m4_begin.at 22 rfl) rfl rfl ?_
  refine ok_getR (kd_m4_begin.at 23 rfl) kf4_18 sh_4 rfl (kr_4_3 _) ?_
  refine ok_iconst (v := 0) (kd_m4_begin.at 24 rfl) (by decide) ?_
  refine ok_bipush (v := 25) (kd_m4_begin.at 25 rfl) (by decide) ?_
  refine ok_acopyK (a := 0) (b := 0) (n' := 25) (kd_m4_begin.at 26 rfl) kac_4_28 kac2 kac3 kac4 sh_22 sh_42 (by decide) (by decide) (by decide) (by decide) (by decide) (Nat.le_of_ble_eq_true rfl) ?_
  refine ok_nS (fun S4 hS4 => ?_)
  exact ok_return (kd_m4_begin.at 27 rfl) rfl
def f_m6_reduce_L9   (k44 : Int64 → kSt → Option kSt) (c1 : Int64) (c3 : Int64) : Nat → Int64 → Int64 → Int32 → kSt → Option kSt
  | 0, _, _, _, _ => none
  | n + 1, v5, v7, v9, S =>
    if 100 ≤ v9 then
      k44 v5 S
    else
      if (lg_cmp v7 0) = 0 then
        k44 v5 S
      else
        kgzL v7 (
          knx (kremL v5 v7) fun x3 =>
          knx (v9 + 1) fun x4 =>
          f_m6_reduce_L9 k44 c1 c3 n v7 x3 x4 S
        )
theorem ok_m6_reduce_L9 {l : Launch} {G : kG} {E : kE}    (c1 : Int64) (c3 : Int64) (k44 : Int64 → kSt → Option kSt) (hk44 : ∀ (v5 : Int64) (S : kSt), kOk l G E (kZ G E kjV) m6_reduce 1 (k44 v5 S) 44 [(0, .ref 12), (1, .long c1), (3, .long c3), (5, .long v5)] [] S) : ∀ (n : Nat) (v5 : Int64) (v7 : Int64) (v9 : Int32) (S : kSt), kOk l G E (kZ G E kjV) m6_reduce 1 (f_m6_reduce_L9 k44 c1 c3 n v5 v7 v9 S) 9 [(0, .ref 12), (1, .long c1), (3, .long c3), (5, .long v5), (7, .long v7), (9, .int v9)] [] S := by
  intro n
  induction n with
  | zero => intro v5 v7 v9 S; exact ok_none
  | succ n ih =>
    intro v5 v7 v9 S
    rw [f_m6_reduce_L9]
    refine ok_iload 5 (kd_m6_reduce.at 6 rfl) rfl ?_
    refine ok_bipush (v := 100) (kd_m6_reduce.at 7 rfl) (by decide) ?_
    refine ok_icmp_ge (tgt := 44) (kd_m6_reduce.at 8 rfl) (by decide) (fun h1 => ?_) (fun h1 => ?_)
    · refine ok_sub (lv' := [(0, .ref 12), (1, .long c1), (3, .long c3), (5, .long v5)]) [0, 1, 2, 3] rfl ?_
      exact hk44 v5 S
    · refine ok_lload 4 (kd_m6_reduce.at 9 rfl) rfl ?_
      refine ok_lconst (v := 0) (kd_m6_reduce.at 10 rfl) (by decide) ?_
      refine ok_lcmp (kd_m6_reduce.at 11 rfl) ?_
      refine ok_if_eq (tgt := 44) (kd_m6_reduce.at 12 rfl) (by decide) (fun h2 => ?_) (fun h2 => ?_)
      · refine ok_sub (lv' := [(0, .ref 12), (1, .long c1), (3, .long c3), (5, .long v5)]) [0, 1, 2, 3] rfl ?_
        exact hk44 v5 S
      · refine ok_lload 3 (kd_m6_reduce.at 13 rfl) rfl ?_
        refine ok_lload 4 (kd_m6_reduce.at 14 rfl) rfl ?_
        refine ok_lremG (kd_m6_reduce.at 15 rfl) ?_
        refine ok_topl (fun x3 hx3 => ?_)
        refine ok_lstore (lv' := [(10, .long x3), (0, .ref 12), (1, .long c1), (3, .long c3), (5, .long v5), (7, .long v7), (9, .int v9)]) (kd_m6_reduce.at 16 rfl) (by decide) rfl ?_
        refine ok_lload 5 (kd_m6_reduce.at 17 rfl) rfl ?_
        refine ok_lstore (lv' := [(5, .long v7), (10, .long x3), (0, .ref 12), (1, .long c1), (3, .long c3), (7, .long v7), (9, .int v9)]) (kd_m6_reduce.at 18 rfl) (by decide) rfl ?_
        refine ok_lload 1 (kd_m6_reduce.at 19 rfl) rfl ?_
        refine ok_lstore (lv' := [(7, .long x3), (5, .long v7), (10, .long x3), (0, .ref 12), (1, .long c1), (3, .long c3), (9, .int v9)]) (kd_m6_reduce.at 20 rfl) (by decide) rfl ?_
        refine ok_nx (fun x4 hx4 => ?_)
        refine ok_iinc (v := x4) (lv' := [(9, .int x4), (7, .long x3), (5, .long v7), (10, .long x3), (0, .ref 12), (1, .long c1), (3, .long c3)]) 6 (kd_m6_reduce.at 21 rfl) rfl hx4.symm (by decide) rfl ?_
        refine ok_goto (tgt := 9) (kd_m6_reduce.at 22 rfl) (by decide) ?_
        refine ok_sub (lv' := [(0, .ref 12), (1, .long c1), (3, .long c3), (5, .long v7), (7, .long x3), (9, .int x4)]) [4, 5, 6, 2, 1, 0] rfl ?_
        exact ih v7 x3 x4 S
def f_m6_reduce (a1 : Int64) (a3 : Int64) (S : kSt) : Option kSt :=
  f_m6_reduce_L9 
    (fun (x5 : Int64) (S6 : kSt) =>
      knx (fun (x7 : Int64) (S8 : kSt) =>
        knx (kuL S8 12 0 x7) fun S9 =>
        knx (fun (x10 : Int64) (S11 : kSt) =>
          knx (kuL S11 12 1 x10) fun S12 =>
          some S12
          ) fun j79 =>
        if (lg_cmp x5 0) = 0 then
          j79 a3 S9
        else
          kgzL x5 (
            j79 (a3 / x5) S9
          )
        ) fun j60 =>
      if (lg_cmp x5 0) = 0 then
        j60 a1 S6
      else
        kgzL x5 (
          j60 (a1 / x5) S6
        )
    )
    a1 a3 kFU a3 a1 0 S
theorem ok_m6_reduce {l : Launch} {G : kG} {E : kE} (a1 : Int64) (a3 : Int64)  (S : kSt) : kFn l G E E kjV m6_reduce 1 [.ref 12, .long a1, .long a3] S (f_m6_reduce a1 a3 S) := by
  unfold f_m6_reduce
  refine kFn_of (by decide +kernel) (Nat.le_of_ble_eq_true rfl) ?_
  show kOk _ _ _ _ _ _ _ _ [(0, .ref 12), (1, .long a1), (3, .long a3)] _ _
  refine ok_lload_n 2 (kd_m6_reduce.at 0 rfl) rfl rfl ?_
  refine ok_lstore (lv' := [(5, .long a3), (0, .ref 12), (1, .long a1), (3, .long a3)]) (kd_m6_reduce.at 1 rfl) (by decide) rfl ?_
  refine ok_lload_n 2 (kd_m6_reduce.at 2 rfl) rfl rfl ?_
  refine ok_lstore (lv' := [(7, .long a1), (5, .long a3), (0, .ref 12), (1, .long a1), (3, .long a3)]) (kd_m6_reduce.at 3 rfl) (by decide) rfl ?_
  refine ok_iconst (v := 0) (kd_m6_reduce.at 4 rfl) (by decide) ?_
  refine ok_istore (lv' := [(9, .int 0), (7, .long a1), (5, .long a3), (0, .ref 12), (1, .long a1), (3, .long a3)]) (kd_m6_reduce.at 5 rfl) (by decide) rfl ?_
  refine ok_sub (lv' := [(0, .ref 12), (1, .long a1), (3, .long a3), (5, .long a3), (7, .long a1), (9, .int 0)]) [3, 4, 5, 2, 1, 0] rfl ?_
  refine ok_m6_reduce_L9 a1 a3 _ (fun x5 S6 => ?_) kFU a3 a1 0 S
  refine ok_aload_n 0 (kd_m6_reduce.at 23 rfl) rfl rfl ?_
  refine ok_lload 3 (kd_m6_reduce.at 24 rfl) rfl ?_
  refine ok_lconst (v := 0) (kd_m6_reduce.at 25 rfl) (by decide) ?_
  refine ok_lcmp (kd_m6_reduce.at 26 rfl) ?_
  refine ok_nx (fun j60 hj60 => ?_)
  have K60 : ∀ (x7 : Int64) (S8 : kSt), kOk l G E (kZ G E kjV) m6_reduce 1 (j60 x7 S8) 60 [(0, .ref 12), (3, .long a3), (5, .long x5)] [.long x7, .ref 12] S8 := by
    subst hj60
    intro x7 S8
    refine ok_putL (kd_m6_reduce.at 33 rfl) kf6_7 sh_12 rfl rfl ?_
    refine ok_nS (fun S9 hS9 => ?_)
    refine ok_aload_n 0 (kd_m6_reduce.at 34 rfl) rfl rfl ?_
    refine ok_lload 2 (kd_m6_reduce.at 35 rfl) rfl ?_
    refine ok_lconst (v := 0) (kd_m6_reduce.at 36 rfl) (by decide) ?_
    refine ok_lcmp (kd_m6_reduce.at 37 rfl) ?_
    refine ok_nx (fun j79 hj79 => ?_)
    have K79 : ∀ (x10 : Int64) (S11 : kSt), kOk l G E (kZ G E kjV) m6_reduce 1 (j79 x10 S11) 79 [] [.long x10, .ref 12] S11 := by
      subst hj79
      intro x10 S11
      refine ok_putL (kd_m6_reduce.at 44 rfl) kf6_13 sh_12 rfl rfl ?_
      refine ok_nS (fun S12 hS12 => ?_)
      exact ok_return (kd_m6_reduce.at 45 rfl) rfl
    clear hj79
    refine ok_if_ne (tgt := 75) (kd_m6_reduce.at 38 rfl) (by decide) (fun h13 => ?_) (fun h13 => ?_)
    · refine ok_lload_n 1 (kd_m6_reduce.at 41 rfl) rfl rfl ?_
      refine ok_lload 2 (kd_m6_reduce.at 42 rfl) rfl ?_
      refine ok_ldivG (kd_m6_reduce.at 43 rfl) ?_
      refine ok_sub (lv' := []) [] rfl ?_
      exact K79 (a3 / x5) S9
    · refine ok_lload_n 1 (kd_m6_reduce.at 39 rfl) rfl rfl ?_
      refine ok_goto (tgt := 79) (kd_m6_reduce.at 40 rfl) (by decide) ?_
      refine ok_sub (lv' := []) [] rfl ?_
      exact K79 a3 S9
  clear hj60
  refine ok_if_ne (tgt := 56) (kd_m6_reduce.at 27 rfl) (by decide) (fun h14 => ?_) (fun h14 => ?_)
  · refine ok_lload_n 1 (kd_m6_reduce.at 30 rfl) rfl rfl ?_
    refine ok_lload 3 (kd_m6_reduce.at 31 rfl) rfl ?_
    refine ok_ldivG (kd_m6_reduce.at 32 rfl) ?_
    refine ok_sub (lv' := [(0, .ref 12), (3, .long a3), (5, .long x5)]) [0, 2, 3] rfl ?_
    exact K60 (a1 / x5) S6
  · refine ok_lload_n 1 (kd_m6_reduce.at 28 rfl) rfl rfl ?_
    refine ok_goto (tgt := 60) (kd_m6_reduce.at 29 rfl) (by decide) ?_
    refine ok_sub (lv' := [(0, .ref 12), (3, .long a3), (5, .long x5)]) [0, 2, 3] rfl ?_
    exact K60 a1 S6
def f_m6_part (a1 : Bool) (S : kSt) : Option (Int64 × kSt) :=
  if a1 then
    some (S.2 12 1, S)
  else
    some (S.2 12 0, S)
theorem ok_m6_part {l : Launch} {G : kG} {E : kE} (a1 : Bool)  (S : kSt) : kFn l G E E kjL m6_part 1 [.ref 12, .int (kb a1)] S (f_m6_part a1 S) := by
  unfold f_m6_part
  refine kFn_of (by decide +kernel) (Nat.le_of_ble_eq_true rfl) ?_
  show kOk _ _ _ _ _ _ _ _ [(0, .ref 12), (1, .int (kb a1))] _ _
  refine ok_iload_n 1 (kd_m6_part.at 0 rfl) rfl rfl ?_
  refine ok_ifb_eq (tgt := 11) (kd_m6_part.at 1 rfl) (by decide) (fun h1 => ?_) (fun h1 => ?_)
  · refine ok_aload_n 0 (kd_m6_part.at 5 rfl) rfl rfl ?_
    refine ok_getL (kd_m6_part.at 6 rfl) kf6_7 sh_12 rfl ?_
    exact ok_lreturn (kd_m6_part.at 7 rfl) rfl
  · refine ok_aload_n 0 (kd_m6_part.at 2 rfl) rfl rfl ?_
    refine ok_getL (kd_m6_part.at 3 rfl) kf6_13 sh_12 rfl ?_
    refine ok_goto (tgt := 15) (kd_m6_part.at 4 rfl) (by decide) ?_
    exact ok_lreturn (kd_m6_part.at 7 rfl) rfl
def f_m7_found (a1 : Int32) (S : kSt) : Option (Bool × kSt) :=
  knx (kuI S 3 9 a1) fun S1 =>
  knx (kuI S1 3 10 (S1.1 3 4)) fun S2 =>
  some (false, S2)
theorem ok_m7_found {l : Launch} {G : kG} {ad : Nat → Nat} (a1 : Int32)  (S : kSt) : kFn l G (ad, 2) (ad, 2) kjB m7_found 1 [.ref 3, .int a1] S (f_m7_found a1 S) := by
  unfold f_m7_found
  refine kFn_of (by decide +kernel) (Nat.le_of_ble_eq_true rfl) ?_
  show kOk _ _ _ _ _ _ _ _ [(0, .ref 3), (1, .int a1)] _ _
  refine ok_aload_n 0 (kd_m7_found.at 0 rfl) rfl rfl ?_
  refine ok_iload_n 1 (kd_m7_found.at 1 rfl) rfl rfl ?_
  refine ok_putI (kd_m7_found.at 2 rfl) kf7_44 sh_3 rfl rfl ?_
  refine ok_nS (fun S1 hS1 => ?_)
  refine ok_aload_n 0 (kd_m7_found.at 3 rfl) rfl rfl ?_
  refine ok_aload_n 0 (kd_m7_found.at 4 rfl) rfl rfl ?_
  refine ok_getI (kd_m7_found.at 5 rfl) kf7_70 sh_3 rfl ?_
  refine ok_putI (kd_m7_found.at 6 rfl) kf7_47 sh_3 rfl rfl ?_
  refine ok_nS (fun S2 hS2 => ?_)
  refine ok_iconst (v := 0) (kd_m7_found.at 7 rfl) (by decide) ?_
  exact ok_zreturn (x := false) (kd_m7_found.at 8 rfl) rfl
def f_m7_isLetter (a0 : Int32) (S : kSt) : Option (Bool × kSt) :=
  if a0 < 97 then
    some (false, S)
  else
    if 122 < a0 then
      some (false, S)
    else
      some (true, S)
theorem ok_m7_isLetter {l : Launch} {G : kG} {ad : Nat → Nat} (a0 : Int32)  (S : kSt) : kFn l G (ad, 2) (ad, 2) kjB m7_isLetter 1 [.int a0] S (f_m7_isLetter a0 S) := by
  unfold f_m7_isLetter
  refine kFn_of (by decide +kernel) (Nat.le_of_ble_eq_true rfl) ?_
  show kOk _ _ _ _ _ _ _ _ [(0, .int a0)] _ _
  refine ok_iload_n 0 (kd_m7_isLetter.at 0 rfl) rfl rfl ?_
  refine ok_bipush (v := 97) (kd_m7_isLetter.at 1 rfl) (by decide) ?_
  refine ok_icmp_lt (tgt := 16) (kd_m7_isLetter.at 2 rfl) (by decide) (fun h1 => ?_) (fun h1 => ?_)
  · refine ok_iconst (v := 0) (kd_m7_isLetter.at 8 rfl) (by decide) ?_
    exact ok_zreturn (x := false) (kd_m7_isLetter.at 9 rfl) rfl
  · refine ok_iload_n 0 (kd_m7_isLetter.at 3 rfl) rfl rfl ?_
    refine ok_bipush (v := 122) (kd_m7_isLetter.at 4 rfl) (by decide) ?_
    refine ok_icmp_gt (tgt := 16) (kd_m7_isLetter.at 5 rfl) (by decide) (fun h2 => ?_) (fun h2 => ?_)
    · refine ok_iconst (v := 0) (kd_m7_isLetter.at 8 rfl) (by decide) ?_
      exact ok_zreturn (x := false) (kd_m7_isLetter.at 9 rfl) rfl
    · refine ok_iconst (v := 1) (kd_m7_isLetter.at 6 rfl) (by decide) ?_
      refine ok_goto (tgt := 17) (kd_m7_isLetter.at 7 rfl) (by decide) ?_
      exact ok_zreturn (x := true) (kd_m7_isLetter.at 9 rfl) rfl
def f_m7_isDigit (a0 : Int32) (S : kSt) : Option (Bool × kSt) :=
  if a0 < 48 then
    some (false, S)
  else
    if 57 < a0 then
      some (false, S)
    else
      some (true, S)
theorem ok_m7_isDigit {l : Launch} {G : kG} {ad : Nat → Nat} (a0 : Int32)  (S : kSt) : kFn l G (ad, 2) (ad, 2) kjB m7_isDigit 1 [.int a0] S (f_m7_isDigit a0 S) := by
  unfold f_m7_isDigit
  refine kFn_of (by decide +kernel) (Nat.le_of_ble_eq_true rfl) ?_
  show kOk _ _ _ _ _ _ _ _ [(0, .int a0)] _ _
  refine ok_iload_n 0 (kd_m7_isDigit.at 0 rfl) rfl rfl ?_
  refine ok_bipush (v := 48) (kd_m7_isDigit.at 1 rfl) (by decide) ?_
  refine ok_icmp_lt (tgt := 16) (kd_m7_isDigit.at 2 rfl) (by decide) (fun h1 => ?_) (fun h1 => ?_)
  · refine ok_iconst (v := 0) (kd_m7_isDigit.at 8 rfl) (by decide) ?_
    exact ok_zreturn (x := false) (kd_m7_isDigit.at 9 rfl) rfl
  · refine ok_iload_n 0 (kd_m7_isDigit.at 3 rfl) rfl rfl ?_
    refine ok_bipush (v := 57) (kd_m7_isDigit.at 4 rfl) (by decide) ?_
    refine ok_icmp_gt (tgt := 16) (kd_m7_isDigit.at 5 rfl) (by decide) (fun h2 => ?_) (fun h2 => ?_)
    · refine ok_iconst (v := 0) (kd_m7_isDigit.at 8 rfl) (by decide) ?_
      exact ok_zreturn (x := false) (kd_m7_isDigit.at 9 rfl) rfl
    · refine ok_iconst (v := 1) (kd_m7_isDigit.at 6 rfl) (by decide) ?_
      refine ok_goto (tgt := 17) (kd_m7_isDigit.at 7 rfl) (by decide) ?_
      exact ok_zreturn (x := true) (kd_m7_isDigit.at 9 rfl) rfl
def f_m7_takeDigits_L5   (k68 : kSt → Option kSt)  : Nat → kSt → Option kSt
  | 0, _ => none
  | n + 1, S =>
    if (S.1 3 1) ≤ (S.1 3 2) then
      k68  S
    else
      knx (S.1 3 2) fun x3 =>
      kgi x3 900 (
        (f_m7_isDigit (S.1 15 x3.toNatClampNeg) S).bind fun q4 =>
        if q4.1 then
          knx (q4.2.1 3 2) fun x6 =>
          kgi x6 900 (
            knx (kuI q4.2 3 5 ((((q4.2.1 3 5) * 10) + (q4.2.1 15 x6.toNatClampNeg)) - 48)) fun S7 =>
            knx (kuI S7 3 2 ((S7.1 3 2) + 1)) fun S8 =>
            f_m7_takeDigits_L5 k68 n  S8
          )
        else
          k68  q4.2
      )
theorem ok_m7_takeDigits_L5 {l : Launch} {G : kG} {ad : Nat → Nat}     (k68 : kSt → Option kSt) (hk68 : ∀  (S : kSt), kOk l G (ad, 2) (kZ G (ad, 2) kjV) m7_takeDigits 2 (k68  S) 68 [(0, .ref 3)] [] S) : ∀ (n : Nat)  (S : kSt), kOk l G (ad, 2) (kZ G (ad, 2) kjV) m7_takeDigits 2 (f_m7_takeDigits_L5 k68 n  S) 5 [(0, .ref 3)] [] S := by
  intro n
  induction n with
  | zero => intro  S; exact ok_none
  | succ n ih =>
    intro  S
    rw [f_m7_takeDigits_L5]
    refine ok_aload_n 0 (kd_m7_takeDigits.at 3 rfl) rfl rfl ?_
    refine ok_getI (kd_m7_takeDigits.at 4 rfl) kf7_41 sh_3 rfl ?_
    refine ok_aload_n 0 (kd_m7_takeDigits.at 5 rfl) rfl rfl ?_
    refine ok_getI (kd_m7_takeDigits.at 6 rfl) kf7_37 sh_3 rfl ?_
    refine ok_icmp_ge (tgt := 68) (kd_m7_takeDigits.at 7 rfl) (by decide) (fun h2 => ?_) (fun h2 => ?_)
    · exact hk68  S
    · refine ok_aload_n 0 (kd_m7_takeDigits.at 8 rfl) rfl rfl ?_
      refine ok_getR (kd_m7_takeDigits.at 9 rfl) kf7_18 sh_3 rfl (kr_3_0 _) ?_
      refine ok_aload_n 0 (kd_m7_takeDigits.at 10 rfl) rfl rfl ?_
      refine ok_getI (kd_m7_takeDigits.at 11 rfl) kf7_41 sh_3 rfl ?_
      refine ok_topi (fun x3 hx3 => ?_)
      refine ok_bald (kd_m7_takeDigits.at 12 rfl) sh_15 ?_
      refine ok_callSB (M' := m7_isDigit) (as := [.int (S.1 15 x3.toNatClampNeg)]) (st := []) (kd_m7_takeDigits.at 13 rfl) kc7_79  rfl (by decide) (ok_m7_isDigit (S.1 15 x3.toNatClampNeg) S) (by decide) rfl (Nat.le_of_ble_eq_true rfl) (fun q4 hq4 => ?_)
      refine ok_ifb_eq (tgt := 68) (kd_m7_takeDigits.at 14 rfl) (by decide) (fun h5 => ?_) (fun h5 => ?_)
      · exact hk68  q4.2
      · refine ok_aload_n 0 (kd_m7_takeDigits.at 15 rfl) rfl rfl ?_
        refine ok_aload_n 0 (kd_m7_takeDigits.at 16 rfl) rfl rfl ?_
        refine ok_getI (kd_m7_takeDigits.at 17 rfl) kf7_85 sh_3 rfl ?_
        refine ok_bipush (v := 10) (kd_m7_takeDigits.at 18 rfl) (by decide) ?_
        refine ok_imul (kd_m7_takeDigits.at 19 rfl) ?_
        refine ok_aload_n 0 (kd_m7_takeDigits.at 20 rfl) rfl rfl ?_
        refine ok_getR (kd_m7_takeDigits.at 21 rfl) kf7_18 sh_3 rfl (kr_3_0 _) ?_
        refine ok_aload_n 0 (kd_m7_takeDigits.at 22 rfl) rfl rfl ?_
        refine ok_getI (kd_m7_takeDigits.at 23 rfl) kf7_41 sh_3 rfl ?_
        refine ok_topi (fun x6 hx6 => ?_)
        refine ok_bald (kd_m7_takeDigits.at 24 rfl) sh_15 ?_
        refine ok_iadd (kd_m7_takeDigits.at 25 rfl) ?_
        refine ok_bipush (v := 48) (kd_m7_takeDigits.at 26 rfl) (by decide) ?_
        refine ok_isub (kd_m7_takeDigits.at 27 rfl) ?_
        refine ok_putI (kd_m7_takeDigits.at 28 rfl) kf7_85 sh_3 rfl rfl ?_
        refine ok_nS (fun S7 hS7 => ?_)
        refine ok_aload_n 0 (kd_m7_takeDigits.at 29 rfl) rfl rfl ?_
        refine ok_dup (kd_m7_takeDigits.at 30 rfl) rfl ?_
        refine ok_getI (kd_m7_takeDigits.at 31 rfl) kf7_41 sh_3 rfl ?_
        refine ok_iconst (v := 1) (kd_m7_takeDigits.at 32 rfl) (by decide) ?_
        refine ok_iadd (kd_m7_takeDigits.at 33 rfl) ?_
        refine ok_putI (kd_m7_takeDigits.at 34 rfl) kf7_41 sh_3 rfl rfl ?_
        refine ok_nS (fun S8 hS8 => ?_)
        refine ok_goto (tgt := 5) (kd_m7_takeDigits.at 35 rfl) (by decide) ?_
        exact ih  S8
def f_m7_takeDigits  (S : kSt) : Option kSt :=
  knx (kuI S 3 5 0) fun S1 =>
  f_m7_takeDigits_L5 
    (fun  (S9 : kSt) =>
      knx (if 3 < ((S9.1 3 2) - (S9.1 3 4)) then 4 else 2) fun x11 =>
      knx (kuI S9 3 3 x11) fun S12 =>
      some S12
    )
    kFU S1
theorem ok_m7_takeDigits {l : Launch} {G : kG} {ad : Nat → Nat}   (S : kSt) : kFn l G (ad, 2) (ad, 2) kjV m7_takeDigits 2 [.ref 3] S (f_m7_takeDigits  S) := by
  unfold f_m7_takeDigits
  refine kFn_of (by decide +kernel) (Nat.le_of_ble_eq_true rfl) ?_
  show kOk _ _ _ _ _ _ _ _ [(0, .ref 3)] _ _
  refine ok_aload_n 0 (kd_m7_takeDigits.at 0 rfl) rfl rfl ?_
  refine ok_iconst (v := 0) (kd_m7_takeDigits.at 1 rfl) (by decide) ?_
  refine ok_putI (kd_m7_takeDigits.at 2 rfl) kf7_85 sh_3 rfl rfl ?_
  refine ok_nS (fun S1 hS1 => ?_)
  refine ok_m7_takeDigits_L5 _ (fun S9 => ?_) kFU S1
  refine ok_aload_n 0 (kd_m7_takeDigits.at 36 rfl) rfl rfl ?_
  refine ok_aload_n 0 (kd_m7_takeDigits.at 37 rfl) rfl rfl ?_
  refine ok_getI (kd_m7_takeDigits.at 38 rfl) kf7_41 sh_3 rfl ?_
  refine ok_aload_n 0 (kd_m7_takeDigits.at 39 rfl) rfl rfl ?_
  refine ok_getI (kd_m7_takeDigits.at 40 rfl) kf7_70 sh_3 rfl ?_
  refine ok_isub (kd_m7_takeDigits.at 41 rfl) ?_
  refine ok_iconst (v := 3) (kd_m7_takeDigits.at 42 rfl) (by decide) ?_
  refine ok_fold (α := Int32) (pcJ := 87) (lvJ := [(0, .ref 3)]) (stJ := [.ref 3]) (mk := fun v => .int v) (fun K => ?_) (fun x11 => ?_)
  · refine ok_ap ?_
    refine ok_icmp_gt (tgt := 86) (kd_m7_takeDigits.at 43 rfl) (by decide) (fun h10 => ?_) (fun h10 => ?_)
    · refine ok_iconst (v := 4) (kd_m7_takeDigits.at 46 rfl) (by decide) ?_
      exact K 4
    · refine ok_iconst (v := 2) (kd_m7_takeDigits.at 44 rfl) (by decide) ?_
      refine ok_goto (tgt := 87) (kd_m7_takeDigits.at 45 rfl) (by decide) ?_
      exact K 2
  · refine ok_putI (kd_m7_takeDigits.at 47 rfl) kf7_57 sh_3 rfl rfl ?_
    refine ok_nS (fun S12 hS12 => ?_)
    exact ok_return (kd_m7_takeDigits.at 48 rfl) rfl
def f_m7_takeLetters_L0   (k39 : kSt → Option kSt)  : Nat → kSt → Option kSt
  | 0, _ => none
  | n + 1, S =>
    if (S.1 3 1) ≤ (S.1 3 2) then
      k39  S
    else
      knx (S.1 3 2) fun x2 =>
      kgi x2 900 (
        (f_m7_isLetter (S.1 15 x2.toNatClampNeg) S).bind fun q3 =>
        if q3.1 then
          knx (kuI q3.2 3 2 ((q3.2.1 3 2) + 1)) fun S5 =>
          f_m7_takeLetters_L0 k39 n  S5
        else
          k39  q3.2
      )
theorem ok_m7_takeLetters_L0 {l : Launch} {G : kG} {ad : Nat → Nat}     (k39 : kSt → Option kSt) (hk39 : ∀  (S : kSt), kOk l G (ad, 2) (kZ G (ad, 2) kjV) m7_takeLetters 2 (k39  S) 39 [(0, .ref 3)] [] S) : ∀ (n : Nat)  (S : kSt), kOk l G (ad, 2) (kZ G (ad, 2) kjV) m7_takeLetters 2 (f_m7_takeLetters_L0 k39 n  S) 0 [(0, .ref 3)] [] S := by
  intro n
  induction n with
  | zero => intro  S; exact ok_none
  | succ n ih =>
    intro  S
    rw [f_m7_takeLetters_L0]
    refine ok_aload_n 0 (kd_m7_takeLetters.at 0 rfl) rfl rfl ?_
    refine ok_getI (kd_m7_takeLetters.at 1 rfl) kf7_41 sh_3 rfl ?_
    refine ok_aload_n 0 (kd_m7_takeLetters.at 2 rfl) rfl rfl ?_
    refine ok_getI (kd_m7_takeLetters.at 3 rfl) kf7_37 sh_3 rfl ?_
    refine ok_icmp_ge (tgt := 39) (kd_m7_takeLetters.at 4 rfl) (by decide) (fun h1 => ?_) (fun h1 => ?_)
    · exact hk39  S
    · refine ok_aload_n 0 (kd_m7_takeLetters.at 5 rfl) rfl rfl ?_
      refine ok_getR (kd_m7_takeLetters.at 6 rfl) kf7_18 sh_3 rfl (kr_3_0 _) ?_
      refine ok_aload_n 0 (kd_m7_takeLetters.at 7 rfl) rfl rfl ?_
      refine ok_getI (kd_m7_takeLetters.at 8 rfl) kf7_41 sh_3 rfl ?_
      refine ok_topi (fun x2 hx2 => ?_)
      refine ok_bald (kd_m7_takeLetters.at 9 rfl) sh_15 ?_
      refine ok_callSB (M' := m7_isLetter) (as := [.int (S.1 15 x2.toNatClampNeg)]) (st := []) (kd_m7_takeLetters.at 10 rfl) kc7_73  rfl (by decide) (ok_m7_isLetter (S.1 15 x2.toNatClampNeg) S) (by decide) rfl (Nat.le_of_ble_eq_true rfl) (fun q3 hq3 => ?_)
      refine ok_ifb_eq (tgt := 39) (kd_m7_takeLetters.at 11 rfl) (by decide) (fun h4 => ?_) (fun h4 => ?_)
      · exact hk39  q3.2
      · refine ok_aload_n 0 (kd_m7_takeLetters.at 12 rfl) rfl rfl ?_
        refine ok_dup (kd_m7_takeLetters.at 13 rfl) rfl ?_
        refine ok_getI (kd_m7_takeLetters.at 14 rfl) kf7_41 sh_3 rfl ?_
        refine ok_iconst (v := 1) (kd_m7_takeLetters.at 15 rfl) (by decide) ?_
        refine ok_iadd (kd_m7_takeLetters.at 16 rfl) ?_
        refine ok_putI (kd_m7_takeLetters.at 17 rfl) kf7_41 sh_3 rfl rfl ?_
        refine ok_nS (fun S5 hS5 => ?_)
        refine ok_goto (tgt := 0) (kd_m7_takeLetters.at 18 rfl) (by decide) ?_
        exact ih  S5
def f_m7_takeLetters  (S : kSt) : Option kSt :=
  f_m7_takeLetters_L0 
    (fun  (S6 : kSt) =>
      knx (if 8 < ((S6.1 3 2) - (S6.1 3 4)) then 4 else 1) fun x8 =>
      knx (kuI S6 3 3 x8) fun S9 =>
      some S9
    )
    kFU S
theorem ok_m7_takeLetters {l : Launch} {G : kG} {ad : Nat → Nat}   (S : kSt) : kFn l G (ad, 2) (ad, 2) kjV m7_takeLetters 2 [.ref 3] S (f_m7_takeLetters  S) := by
  unfold f_m7_takeLetters
  refine kFn_of (by decide +kernel) (Nat.le_of_ble_eq_true rfl) ?_
  show kOk _ _ _ _ _ _ _ _ [(0, .ref 3)] _ _
  refine ok_m7_takeLetters_L0 _ (fun S6 => ?_) kFU S
  refine ok_aload_n 0 (kd_m7_takeLetters.at 19 rfl) rfl rfl ?_
  refine ok_aload_n 0 (kd_m7_takeLetters.at 20 rfl) rfl rfl ?_
  refine ok_getI (kd_m7_takeLetters.at 21 rfl) kf7_41 sh_3 rfl ?_
  refine ok_aload_n 0 (kd_m7_takeLetters.at 22 rfl) rfl rfl ?_
  refine ok_getI (kd_m7_takeLetters.at 23 rfl) kf7_70 sh_3 rfl ?_
  refine ok_isub (kd_m7_takeLetters.at 24 rfl) ?_
  refine ok_bipush (v := 8) (kd_m7_takeLetters.at 25 rfl) (by decide) ?_
  refine ok_fold (α := Int32) (pcJ := 59) (lvJ := [(0, .ref 3)]) (stJ := [.ref 3]) (mk := fun v => .int v) (fun K => ?_) (fun x8 => ?_)
  · refine ok_ap ?_
    refine ok_icmp_gt (tgt := 58) (kd_m7_takeLetters.at 26 rfl) (by decide) (fun h7 => ?_) (fun h7 => ?_)
    · refine ok_iconst (v := 4) (kd_m7_takeLetters.at 29 rfl) (by decide) ?_
      exact K 4
    · refine ok_iconst (v := 1) (kd_m7_takeLetters.at 27 rfl) (by decide) ?_
      refine ok_goto (tgt := 59) (kd_m7_takeLetters.at 28 rfl) (by decide) ?_
      exact K 1
  · refine ok_putI (kd_m7_takeLetters.at 30 rfl) kf7_57 sh_3 rfl rfl ?_
    refine ok_nS (fun S9 hS9 => ?_)
    exact ok_return (kd_m7_takeLetters.at 31 rfl) rfl
def f_m7_next_L0   (k38 : kSt → Option kSt)  : Nat → kSt → Option kSt
  | 0, _ => none
  | n + 1, S =>
    if (S.1 3 1) ≤ (S.1 3 2) then
      k38  S
    else
      knx (S.1 3 2) fun x2 =>
      kgi x2 900 (
        if (S.1 15 x2.toNatClampNeg) = 32 then
          knx (kuI S 3 2 ((S.1 3 2) + 1)) fun S4 =>
          f_m7_next_L0 k38 n  S4
        else
          k38  S
      )
theorem ok_m7_next_L0 {l : Launch} {G : kG} {ad : Nat → Nat}     (k38 : kSt → Option kSt) (hk38 : ∀  (S : kSt), kOk l G (ad, 2) (kZ G (ad, 2) kjV) m7_next 3 (k38  S) 38 [(0, .ref 3)] [] S) : ∀ (n : Nat)  (S : kSt), kOk l G (ad, 2) (kZ G (ad, 2) kjV) m7_next 3 (f_m7_next_L0 k38 n  S) 0 [(0, .ref 3)] [] S := by
  intro n
  induction n with
  | zero => intro  S; exact ok_none
  | succ n ih =>
    intro  S
    rw [f_m7_next_L0]
    refine ok_aload_n 0 (kd_m7_next.at 0 rfl) rfl rfl ?_
    refine ok_getI (kd_m7_next.at 1 rfl) kf7_41 sh_3 rfl ?_
    refine ok_aload_n 0 (kd_m7_next.at 2 rfl) rfl rfl ?_
    refine ok_getI (kd_m7_next.at 3 rfl) kf7_37 sh_3 rfl ?_
    refine ok_icmp_ge (tgt := 38) (kd_m7_next.at 4 rfl) (by decide) (fun h1 => ?_) (fun h1 => ?_)
    · exact hk38  S
    · refine ok_aload_n 0 (kd_m7_next.at 5 rfl) rfl rfl ?_
      refine ok_getR (kd_m7_next.at 6 rfl) kf7_18 sh_3 rfl (kr_3_0 _) ?_
      refine ok_aload_n 0 (kd_m7_next.at 7 rfl) rfl rfl ?_
      refine ok_getI (kd_m7_next.at 8 rfl) kf7_41 sh_3 rfl ?_
      refine ok_topi (fun x2 hx2 => ?_)
      refine ok_bald (kd_m7_next.at 9 rfl) sh_15 ?_
      refine ok_bipush (v := 32) (kd_m7_next.at 10 rfl) (by decide) ?_
      refine ok_icmp_ne (tgt := 38) (kd_m7_next.at 11 rfl) (by decide) (fun h3 => ?_) (fun h3 => ?_)
      · exact hk38  S
      · refine ok_aload_n 0 (kd_m7_next.at 12 rfl) rfl rfl ?_
        refine ok_dup (kd_m7_next.at 13 rfl) rfl ?_
        refine ok_getI (kd_m7_next.at 14 rfl) kf7_41 sh_3 rfl ?_
        refine ok_iconst (v := 1) (kd_m7_next.at 15 rfl) (by decide) ?_
        refine ok_iadd (kd_m7_next.at 16 rfl) ?_
        refine ok_putI (kd_m7_next.at 17 rfl) kf7_41 sh_3 rfl rfl ?_
        refine ok_nS (fun S4 hS4 => ?_)
        refine ok_goto (tgt := 0) (kd_m7_next.at 18 rfl) (by decide) ?_
        exact ih  S4
def f_m7_next  (S : kSt) : Option kSt :=
  f_m7_next_L0 
    (fun  (S5 : kSt) =>
      knx (kuI S5 3 4 (S5.1 3 2)) fun S6 =>
      if (S6.1 3 2) < (S6.1 3 1) then
        knx (S6.1 3 2) fun x8 =>
        kgi x8 900 (
          (f_m7_isLetter (S6.1 15 x8.toNatClampNeg) S6).bind fun q9 =>
          if q9.1 then
            (f_m7_takeLetters  q9.2).bind fun q20 =>
            some q20
          else
            knx (q9.2.1 3 2) fun x11 =>
            kgi x11 900 (
              (f_m7_isDigit (q9.2.1 15 x11.toNatClampNeg) q9.2).bind fun q12 =>
              if q12.1 then
                (f_m7_takeDigits  q12.2).bind fun q19 =>
                some q19
              else
                knx (q12.2.1 3 2) fun x14 =>
                kgi x14 900 (
                  knx (if (q12.2.1 15 x14.toNatClampNeg) = 59 then 3 else 4) fun x16 =>
                  knx (kuI q12.2 3 3 x16) fun S17 =>
                  knx (kuI S17 3 2 ((S17.1 3 2) + 1)) fun S18 =>
                  some S18
                )
            )
        )
      else
        knx (kuI S6 3 3 0) fun S21 =>
        some S21
    )
    kFU S
theorem ok_m7_next {l : Launch} {G : kG} {ad : Nat → Nat}   (S : kSt) : kFn l G (ad, 2) (ad, 2) kjV m7_next 3 [.ref 3] S (f_m7_next  S) := by
  unfold f_m7_next
  refine kFn_of (by decide +kernel) (Nat.le_of_ble_eq_true rfl) ?_
  show kOk _ _ _ _ _ _ _ _ [(0, .ref 3)] _ _
  refine ok_m7_next_L0 _ (fun S5 => ?_) kFU S
  refine ok_aload_n 0 (kd_m7_next.at 19 rfl) rfl rfl ?_
  refine ok_aload_n 0 (kd_m7_next.at 20 rfl) rfl rfl ?_
  refine ok_getI (kd_m7_next.at 21 rfl) kf7_41 sh_3 rfl ?_
  refine ok_putI (kd_m7_next.at 22 rfl) kf7_70 sh_3 rfl rfl ?_
  refine ok_nS (fun S6 hS6 => ?_)
  refine ok_aload_n 0 (kd_m7_next.at 23 rfl) rfl rfl ?_
  refine ok_getI (kd_m7_next.at 24 rfl) kf7_41 sh_3 rfl ?_
  refine ok_aload_n 0 (kd_m7_next.at 25 rfl) rfl rfl ?_
  refine ok_getI (kd_m7_next.at 26 rfl) kf7_37 sh_3 rfl ?_
  refine ok_icmp_lt (tgt := 65) (kd_m7_next.at 27 rfl) (by decide) (fun h7 => ?_) (fun h7 => ?_)
  · refine ok_aload_n 0 (kd_m7_next.at 32 rfl) rfl rfl ?_
    refine ok_getR (kd_m7_next.at 33 rfl) kf7_18 sh_3 rfl (kr_3_0 _) ?_
    refine ok_aload_n 0 (kd_m7_next.at 34 rfl) rfl rfl ?_
    refine ok_getI (kd_m7_next.at 35 rfl) kf7_41 sh_3 rfl ?_
    refine ok_topi (fun x8 hx8 => ?_)
    refine ok_bald (kd_m7_next.at 36 rfl) sh_15 ?_
    refine ok_callSB (M' := m7_isLetter) (as := [.int (S6.1 15 x8.toNatClampNeg)]) (st := []) (kd_m7_next.at 37 rfl) kc7_73  rfl (by decide) (ok_m7_isLetter (S6.1 15 x8.toNatClampNeg) S6) (by decide) rfl (Nat.le_of_ble_eq_true rfl) (fun q9 hq9 => ?_)
    refine ok_ifb_eq (tgt := 87) (kd_m7_next.at 38 rfl) (by decide) (fun h10 => ?_) (fun h10 => ?_)
    · refine ok_aload_n 0 (kd_m7_next.at 42 rfl) rfl rfl ?_
      refine ok_getR (kd_m7_next.at 43 rfl) kf7_18 sh_3 rfl (kr_3_0 _) ?_
      refine ok_aload_n 0 (kd_m7_next.at 44 rfl) rfl rfl ?_
      refine ok_getI (kd_m7_next.at 45 rfl) kf7_41 sh_3 rfl ?_
      refine ok_topi (fun x11 hx11 => ?_)
      refine ok_bald (kd_m7_next.at 46 rfl) sh_15 ?_
      refine ok_callSB (M' := m7_isDigit) (as := [.int (q9.2.1 15 x11.toNatClampNeg)]) (st := []) (kd_m7_next.at 47 rfl) kc7_79  rfl (by decide) (ok_m7_isDigit (q9.2.1 15 x11.toNatClampNeg) q9.2) (by decide) rfl (Nat.le_of_ble_eq_true rfl) (fun q12 hq12 => ?_)
      refine ok_ifb_eq (tgt := 109) (kd_m7_next.at 48 rfl) (by decide) (fun h13 => ?_) (fun h13 => ?_)
      · refine ok_aload_n 0 (kd_m7_next.at 52 rfl) rfl rfl ?_
        refine ok_aload_n 0 (kd_m7_next.at 53 rfl) rfl rfl ?_
        refine ok_getR (kd_m7_next.at 54 rfl) kf7_18 sh_3 rfl (kr_3_0 _) ?_
        refine ok_aload_n 0 (kd_m7_next.at 55 rfl) rfl rfl ?_
        refine ok_getI (kd_m7_next.at 56 rfl) kf7_41 sh_3 rfl ?_
        refine ok_topi (fun x14 hx14 => ?_)
        refine ok_bald (kd_m7_next.at 57 rfl) sh_15 ?_
        refine ok_bipush (v := 59) (kd_m7_next.at 58 rfl) (by decide) ?_
        refine ok_fold (α := Int32) (pcJ := 129) (lvJ := [(0, .ref 3)]) (stJ := [.ref 3]) (mk := fun v => .int v) (fun K => ?_) (fun x16 => ?_)
        · refine ok_ap ?_
          refine ok_icmp_ne (tgt := 128) (kd_m7_next.at 59 rfl) (by decide) (fun h15 => ?_) (fun h15 => ?_)
          · refine ok_iconst (v := 4) (kd_m7_next.at 62 rfl) (by decide) ?_
            exact K 4
          · refine ok_iconst (v := 3) (kd_m7_next.at 60 rfl) (by decide) ?_
            refine ok_goto (tgt := 129) (kd_m7_next.at 61 rfl) (by decide) ?_
            exact K 3
        · refine ok_putI (kd_m7_next.at 63 rfl) kf7_57 sh_3 rfl rfl ?_
          refine ok_nS (fun S17 hS17 => ?_)
          refine ok_aload_n 0 (kd_m7_next.at 64 rfl) rfl rfl ?_
          refine ok_dup (kd_m7_next.at 65 rfl) rfl ?_
          refine ok_getI (kd_m7_next.at 66 rfl) kf7_41 sh_3 rfl ?_
          refine ok_iconst (v := 1) (kd_m7_next.at 67 rfl) (by decide) ?_
          refine ok_iadd (kd_m7_next.at 68 rfl) ?_
          refine ok_putI (kd_m7_next.at 69 rfl) kf7_41 sh_3 rfl rfl ?_
          refine ok_nS (fun S18 hS18 => ?_)
          exact ok_return (kd_m7_next.at 70 rfl) rfl
      · refine ok_aload_n 0 (kd_m7_next.at 49 rfl) rfl rfl ?_
        refine ok_callVV (M' := m7_takeDigits) (as := []) (st := []) (kd_m7_next.at 50 rfl) kc7_82 sh_3 rfl rfl (by decide) (ok_m7_takeDigits  q12.2) (by decide) rfl (Nat.le_of_ble_eq_true rfl) (fun q19 hq19 => ?_)
        refine ok_goto (tgt := 142) (kd_m7_next.at 51 rfl) (by decide) ?_
        exact ok_return (kd_m7_next.at 70 rfl) rfl
    · refine ok_aload_n 0 (kd_m7_next.at 39 rfl) rfl rfl ?_
      refine ok_callVV (M' := m7_takeLetters) (as := []) (st := []) (kd_m7_next.at 40 rfl) kc7_76 sh_3 rfl rfl (by decide) (ok_m7_takeLetters  q9.2) (by decide) rfl (Nat.le_of_ble_eq_true rfl) (fun q20 hq20 => ?_)
      refine ok_goto (tgt := 142) (kd_m7_next.at 41 rfl) (by decide) ?_
      exact ok_return (kd_m7_next.at 70 rfl) rfl
  · refine ok_aload_n 0 (kd_m7_next.at 28 rfl) rfl rfl ?_
    refine ok_iconst (v := 0) (kd_m7_next.at 29 rfl) (by decide) ?_
    refine ok_putI (kd_m7_next.at 30 rfl) kf7_57 sh_3 rfl rfl ?_
    refine ok_nS (fun S21 hS21 => ?_)
    refine ok_goto (tgt := 142) (kd_m7_next.at 31 rfl) (by decide) ?_
    exact ok_return (kd_m7_next.at 70 rfl) rfl
def f_mJ_coder_J0 (i0 : Nat) (S : kSt) : Option (Int32 × kSt) :=
  if 1 = 0 then
    some (1, S)
  else
    some (0, S)
theorem ok_mJ_coder_J0 {l : Launch} {G : kG} {E : kE} (i0 : Nat) (hi0 : i0 < 16) (S : kSt) : kFn l G E E kjI mJ_coder_J0 1 [.ref (1000 + i0)] S (f_mJ_coder_J0 i0 S) := by
  unfold f_mJ_coder_J0
  refine kFn_of (by decide +kernel) (Nat.le_of_ble_eq_true rfl) ?_
  show kOk _ _ _ _ _ _ _ _ [(0, .ref (1000 + i0))] _ _
  refine ok_getsC (kd_mJ_coder_J0.at 0 rfl) (kin3 14 (by decide +kernel) rfl) ?_
  refine ok_if_eq (tgt := 13) (kd_mJ_coder_J0.at 1 rfl) (by decide) (fun h1 => ?_) (fun h1 => ?_)
  · refine ok_iconst (v := 1) (kd_mJ_coder_J0.at 5 rfl) (by decide) ?_
    exact ok_nreturn (kd_mJ_coder_J0.at 6 rfl) rfl (rfl)
  · refine ok_aload_n 0 (kd_mJ_coder_J0.at 2 rfl) rfl rfl ?_
    refine ok_scod (kd_mJ_coder_J0.at 3 rfl) hi0 (kin8 176 (by decide +kernel) rfl) ?_
    refine ok_goto (tgt := 14) (kd_mJ_coder_J0.at 4 rfl) (by decide) ?_
    exact ok_nreturn (kd_mJ_coder_J0.at 6 rfl) rfl (rfl)
def f_mJ_length_J0 (i0 : Nat) (S : kSt) : Option (Int32 × kSt) :=
  (f_mJ_coder_J0 i0 S).bind fun q1 =>
  some ((Int32.ofNat (kLen.getD i0 0)) >>> (q1.1 &&& 31), q1.2)
theorem ok_mJ_length_J0 {l : Launch} {G : kG} {E : kE} (i0 : Nat) (hi0 : i0 < 16) (S : kSt) : kFn l G E E kjI mJ_length_J0 2 [.ref (1000 + i0)] S (f_mJ_length_J0 i0 S) := by
  unfold f_mJ_length_J0
  refine kFn_of (by decide +kernel) (Nat.le_of_ble_eq_true rfl) ?_
  show kOk _ _ _ _ _ _ _ _ [(0, .ref (1000 + i0))] _ _
  refine ok_aload_n 0 (kd_mJ_length_J0.at 0 rfl) rfl rfl ?_
  refine ok_sval (kd_mJ_length_J0.at 1 rfl) hi0 (kin8 175 (by decide +kernel) rfl) ?_
  refine ok_slen (kd_mJ_length_J0.at 2 rfl) hi0 ?_
  refine ok_aload_n 0 (kd_mJ_length_J0.at 3 rfl) rfl rfl ?_
  refine ok_callTI (M' := mJ_coder_J0) (as := []) (st := [.int (Int32.ofNat (kLen.getD i0 0))]) (kd_mJ_length_J0.at 4 rfl) ⟨(kin3 10 (by decide +kernel) rfl), kwm_mJ_coder_J0, kwl_mJ_coder_J0, kwi_mJ_coder_J0, kwc_mJ_coder_J0, kcy_mJ_coder_J0⟩ hi0 rfl rfl (by decide) (ok_mJ_coder_J0 i0 hi0 S) (by decide) rfl (Nat.le_of_ble_eq_true rfl) (fun q1 hq1 => ?_)
  refine ok_ishr (kd_mJ_length_J0.at 5 rfl) ?_
  exact ok_ireturn (kd_mJ_length_J0.at 6 rfl) rfl
def f_mJ_isLatin1_J0 (i0 : Nat) (S : kSt) : Option (Bool × kSt) :=
  if 1 = 0 then
    some (false, S)
  else
    if 0 = 0 then
      some (true, S)
    else
      some (false, S)
theorem ok_mJ_isLatin1_J0 {l : Launch} {G : kG} {E : kE} (i0 : Nat) (hi0 : i0 < 16) (S : kSt) : kFn l G E E kjB mJ_isLatin1_J0 1 [.ref (1000 + i0)] S (f_mJ_isLatin1_J0 i0 S) := by
  unfold f_mJ_isLatin1_J0
  refine kFn_of (by decide +kernel) (Nat.le_of_ble_eq_true rfl) ?_
  show kOk _ _ _ _ _ _ _ _ [(0, .ref (1000 + i0))] _ _
  refine ok_getsC (kd_mJ_isLatin1_J0.at 0 rfl) (kin3 14 (by decide +kernel) rfl) ?_
  refine ok_if_eq (tgt := 17) (kd_mJ_isLatin1_J0.at 1 rfl) (by decide) (fun h1 => ?_) (fun h1 => ?_)
  · refine ok_iconst (v := 0) (kd_mJ_isLatin1_J0.at 7 rfl) (by decide) ?_
    exact ok_zreturn (x := false) (kd_mJ_isLatin1_J0.at 8 rfl) rfl
  · refine ok_aload_n 0 (kd_mJ_isLatin1_J0.at 2 rfl) rfl rfl ?_
    refine ok_scod (kd_mJ_isLatin1_J0.at 3 rfl) hi0 (kin8 176 (by decide +kernel) rfl) ?_
    refine ok_if_ne (tgt := 17) (kd_mJ_isLatin1_J0.at 4 rfl) (by decide) (fun h2 => ?_) (fun h2 => ?_)
    · refine ok_iconst (v := 0) (kd_mJ_isLatin1_J0.at 7 rfl) (by decide) ?_
      exact ok_zreturn (x := false) (kd_mJ_isLatin1_J0.at 8 rfl) rfl
    · refine ok_iconst (v := 1) (kd_mJ_isLatin1_J0.at 5 rfl) (by decide) ?_
      refine ok_goto (tgt := 18) (kd_mJ_isLatin1_J0.at 6 rfl) (by decide) ?_
      exact ok_zreturn (x := true) (kd_mJ_isLatin1_J0.at 8 rfl) rfl
def f_mJ_length_J2 (i0 : Nat) (S : kSt) : Option (Int32 × kSt) :=
  some ((Int32.ofNat (kLen.getD i0 0)) >>> (1 &&& 31), S)
theorem ok_mJ_length_J2 {l : Launch} {G : kG} {E : kE} (i0 : Nat) (hi0 : i0 < 16) (S : kSt) : kFn l G E E kjI mJ_length_J2 1 [.ref (1100 + i0)] S (f_mJ_length_J2 i0 S) := by
  unfold f_mJ_length_J2
  refine kFn_of (by decide +kernel) (Nat.le_of_ble_eq_true rfl) ?_
  show kOk _ _ _ _ _ _ _ _ [(0, .ref (1100 + i0))] _ _
  refine ok_aload_n 0 (kd_mJ_length_J2.at 0 rfl) rfl rfl ?_
  refine ok_slen (kd_mJ_length_J2.at 1 rfl) hi0 ?_
  refine ok_iconst (v := 1) (kd_mJ_length_J2.at 2 rfl) (by decide) ?_
  refine ok_ishr (kd_mJ_length_J2.at 3 rfl) ?_
  exact ok_ireturn (kd_mJ_length_J2.at 4 rfl) rfl
def f_mJ_checkIndex_J3 (a0 : Int32) (a1 : Int32) (S : kSt) : Option (Int32 × kSt) :=
  knx (fun  (S1 : kSt) =>
    none
    ) fun j9 =>
  if a0 < 0 then
    j9  S
  else
    if a0 < a1 then
      some (a0, S)
    else
      j9  S
theorem ok_mJ_checkIndex_J3 {l : Launch} {G : kG} {E : kE} (a0 : Int32) (a1 : Int32)  (S : kSt) : kFn l G E E kjI mJ_checkIndex_J3 1 [.int a0, .int a1, G.2.2.2.2] S (f_mJ_checkIndex_J3 a0 a1 S) := by
  unfold f_mJ_checkIndex_J3
  refine kFn_of (by decide +kernel) (Nat.le_of_ble_eq_true rfl) ?_
  show kOk _ _ _ _ _ _ _ _ [(0, .int a0), (1, .int a1), (2, G.2.2.2.2)] _ _
  refine ok_iload_n 0 (kd_mJ_checkIndex_J3.at 0 rfl) rfl rfl ?_
  refine ok_nx (fun j9 hj9 => ?_)
  have K9 : ∀  (S1 : kSt), kOk l G E (kZ G E kjI) mJ_checkIndex_J3 1 (j9  S1) 9 [(0, .int a0), (1, .int a1), (2, G.2.2.2.2)] [] S1 := by
    subst hj9
    intro  S1
    refine ok_aload_n 2 (kd_mJ_checkIndex_J3.at 5 rfl) rfl rfl ?_
    refine ok_iload_n 0 (kd_mJ_checkIndex_J3.at 6 rfl) rfl rfl ?_
    refine ok_iload_n 1 (kd_mJ_checkIndex_J3.at 7 rfl) rfl rfl ?_
    exact ok_none
  clear hj9
  refine ok_if_lt (tgt := 9) (kd_mJ_checkIndex_J3.at 1 rfl) (by decide) (fun h2 => ?_) (fun h2 => ?_)
  · exact K9  S
  · refine ok_iload_n 0 (kd_mJ_checkIndex_J3.at 2 rfl) rfl rfl ?_
    refine ok_iload_n 1 (kd_mJ_checkIndex_J3.at 3 rfl) rfl rfl ?_
    refine ok_icmp_lt (tgt := 16) (kd_mJ_checkIndex_J3.at 4 rfl) (by decide) (fun h3 => ?_) (fun h3 => ?_)
    · refine ok_iload_n 0 (kd_mJ_checkIndex_J3.at 10 rfl) rfl rfl ?_
      exact ok_ireturn (kd_mJ_checkIndex_J3.at 11 rfl) rfl
    · exact K9  S
def f_mJ_checkIndex_J0 (a0 : Int32) (a1 : Int32) (S : kSt) : Option kSt :=
  (f_mJ_checkIndex_J3 a0 a1 S).bind fun q1 =>
  some q1.2
theorem ok_mJ_checkIndex_J0 {l : Launch} {G : kG} {E : kE} (a0 : Int32) (a1 : Int32)  (S : kSt) : kFn l G E E kjV mJ_checkIndex_J0 2 [.int a0, .int a1] S (f_mJ_checkIndex_J0 a0 a1 S) := by
  unfold f_mJ_checkIndex_J0
  refine kFn_of (by decide +kernel) (Nat.le_of_ble_eq_true rfl) ?_
  show kOk _ _ _ _ _ _ _ _ [(0, .int a0), (1, .int a1)] _ _
  refine ok_iload_n 0 (kd_mJ_checkIndex_J0.at 0 rfl) rfl rfl ?_
  refine ok_iload_n 1 (kd_mJ_checkIndex_J0.at 1 rfl) rfl rfl ?_
  refine ok_getsF (kd_mJ_checkIndex_J0.at 2 rfl) (kin3 30 (by decide +kernel) rfl) ?_
  refine ok_callSI (M' := mJ_checkIndex_J3) (as := [.int a0, .int a1, G.2.2.2.2]) (st := []) (kd_mJ_checkIndex_J0.at 3 rfl) ⟨(kin3 32 (by decide +kernel) rfl), kws_mJ_checkIndex_J3, kwi_mJ_checkIndex_J3, kwc_mJ_checkIndex_J3, kcy_mJ_checkIndex_J3⟩  rfl (by decide) (ok_mJ_checkIndex_J3 a0 a1 S) (by decide) rfl (Nat.le_of_ble_eq_true rfl) (fun q1 hq1 => ?_)
  refine ok_pop (kd_mJ_checkIndex_J0.at 4 rfl) rfl ?_
  exact ok_return (kd_mJ_checkIndex_J0.at 5 rfl) rfl
def f_mJ_checkIndex_J2 (a0 : Int32) (i1 : Nat) (S : kSt) : Option kSt :=
  (f_mJ_length_J2 i1 S).bind fun q1 =>
  (f_mJ_checkIndex_J0 a0 q1.1 q1.2).bind fun q2 =>
  some q2
theorem ok_mJ_checkIndex_J2 {l : Launch} {G : kG} {E : kE} (a0 : Int32) (i1 : Nat) (hi1 : i1 < 16) (S : kSt) : kFn l G E E kjV mJ_checkIndex_J2 3 [.int a0, .ref (1100 + i1)] S (f_mJ_checkIndex_J2 a0 i1 S) := by
  unfold f_mJ_checkIndex_J2
  refine kFn_of (by decide +kernel) (Nat.le_of_ble_eq_true rfl) ?_
  show kOk _ _ _ _ _ _ _ _ [(0, .int a0), (1, .ref (1100 + i1))] _ _
  refine ok_iload_n 0 (kd_mJ_checkIndex_J2.at 0 rfl) rfl rfl ?_
  refine ok_aload_n 1 (kd_mJ_checkIndex_J2.at 1 rfl) rfl rfl ?_
  refine ok_callSI (M' := mJ_length_J2) (as := [.ref (1100 + i1)]) (st := [.int a0]) (kd_mJ_checkIndex_J2.at 2 rfl) ⟨(kin3 41 (by decide +kernel) rfl), kws_mJ_length_J2, kwi_mJ_length_J2, kwc_mJ_length_J2, kcy_mJ_length_J2⟩  rfl (by decide) (ok_mJ_length_J2 i1 hi1 S) (by decide) rfl (Nat.le_of_ble_eq_true rfl) (fun q1 hq1 => ?_)
  refine ok_callSV (M' := mJ_checkIndex_J0) (as := [.int a0, .int q1.1]) (st := []) (kd_mJ_checkIndex_J2.at 3 rfl) ⟨(kin3 44 (by decide +kernel) rfl), kws_mJ_checkIndex_J0, kwi_mJ_checkIndex_J0, kwc_mJ_checkIndex_J0, kcy_mJ_checkIndex_J0⟩  rfl (by decide) (ok_mJ_checkIndex_J0 a0 q1.1 q1.2) (by decide) rfl (Nat.le_of_ble_eq_true rfl) (fun q2 hq2 => ?_)
  exact ok_return (kd_mJ_checkIndex_J2.at 4 rfl) rfl
def f_mJ_getChar_J2 (i0 : Nat) (a1 : Int32) (S : kSt) : Option (Int32 × kSt) :=
  knx (fun  (S1 : kSt) =>
    knx (a1 <<< (1 &&& 31)) fun x2 =>
    knx (x2 + 1) fun x3 =>
    kgi x2 (kLen.getD i0 0) (
      kgi x3 (kLen.getD i0 0) (
        some (((((((kByt.getD i0 []).getD x2.toNatClampNeg 0) &&& 255) <<< ((G.2.2.2.2) &&& 31)) ||| ((((kByt.getD i0 []).getD x3.toNatClampNeg 0) &&& 255) <<< ((G.2.2.2.2) &&& 31))).toUInt32 % 65536).toInt32, S1)
      )
    )
    ) fun j28 =>
  if 1 = 0 then
    knx (fun  (S5 : kSt) =>
      none
      ) fun j18 =>
    if a1 < 0 then
      j18  S
    else
      (f_mJ_length_J2 i0 S).bind fun q7 =>
      if a1 < q7.1 then
        j28  q7.2
      else
        j18  q7.2
  else
    j28  S
theorem ok_mJ_getChar_J2 {l : Launch} {G : kG} {E : kE} (i0 : Nat) (a1 : Int32) (hi0 : i0 < 16) (S : kSt) : kFn l G E E kjI mJ_getChar_J2 2 [.ref (1100 + i0), .int a1] S (f_mJ_getChar_J2 i0 a1 S) := by
  unfold f_mJ_getChar_J2
  refine kFn_of (by decide +kernel) (Nat.le_of_ble_eq_true rfl) ?_
  show kOk _ _ _ _ _ _ _ _ [(0, .ref (1100 + i0)), (1, .int a1)] _ _
  refine ok_getsC (kd_mJ_getChar_J2.at 0 rfl) (kin3 48 (by decide +kernel) rfl) ?_
  refine ok_nx (fun j28 hj28 => ?_)
  have K28 : ∀  (S1 : kSt), kOk l G E (kZ G E kjI) mJ_getChar_J2 2 (j28  S1) 28 [(0, .ref (1100 + i0)), (1, .int a1)] [] S1 := by
    subst hj28
    intro  S1
    refine ok_iload_n 1 (kd_mJ_getChar_J2.at 13 rfl) rfl rfl ?_
    refine ok_iconst (v := 1) (kd_mJ_getChar_J2.at 14 rfl) (by decide) ?_
    refine ok_ishl (kd_mJ_getChar_J2.at 15 rfl) ?_
    refine ok_topi (fun x2 hx2 => ?_)
    refine ok_istore_n (lv' := [(1, .int x2), (0, .ref (1100 + i0))]) (kd_mJ_getChar_J2.at 16 rfl) rfl (by decide) rfl ?_
    refine ok_aload_n 1 (kd_mJ_getChar_J2.at 17 rfl) rfl rfl ?_
    refine ok_iload_n 0 (kd_mJ_getChar_J2.at 18 rfl) rfl rfl ?_
    refine ok_nx (fun x3 hx3 => ?_)
    refine ok_iinc (v := x3) (lv' := [(1, .int x3), (0, .ref (1100 + i0))]) 0 (kd_mJ_getChar_J2.at 19 rfl) rfl hx3.symm (by decide) rfl ?_
    refine ok_sbyt (kd_mJ_getChar_J2.at 20 rfl) hi0 ?_
    refine ok_sipush (v := 255) (kd_mJ_getChar_J2.at 21 rfl) (by decide) ?_
    refine ok_iand (kd_mJ_getChar_J2.at 22 rfl) ?_
    refine ok_getsF (kd_mJ_getChar_J2.at 23 rfl) (kin3 50 (by decide +kernel) rfl) ?_
    refine ok_ishl (kd_mJ_getChar_J2.at 24 rfl) ?_
    refine ok_aload_n 1 (kd_mJ_getChar_J2.at 25 rfl) rfl rfl ?_
    refine ok_iload_n 0 (kd_mJ_getChar_J2.at 26 rfl) rfl rfl ?_
    refine ok_sbyt (kd_mJ_getChar_J2.at 27 rfl) hi0 ?_
    refine ok_sipush (v := 255) (kd_mJ_getChar_J2.at 28 rfl) (by decide) ?_
    refine ok_iand (kd_mJ_getChar_J2.at 29 rfl) ?_
    refine ok_getsF (kd_mJ_getChar_J2.at 30 rfl) (kin3 52 (by decide +kernel) rfl) ?_
    refine ok_ishl (kd_mJ_getChar_J2.at 31 rfl) ?_
    refine ok_ior (kd_mJ_getChar_J2.at 32 rfl) ?_
    refine ok_i2c (kd_mJ_getChar_J2.at 33 rfl) ?_
    exact ok_nreturn (kd_mJ_getChar_J2.at 34 rfl) rfl (pk_nc _)
  clear hj28
  refine ok_if_ne (tgt := 28) (kd_mJ_getChar_J2.at 1 rfl) (by decide) (fun h4 => ?_) (fun h4 => ?_)
  · exact K28  S
  · refine ok_iload_n 1 (kd_mJ_getChar_J2.at 2 rfl) rfl rfl ?_
    refine ok_nx (fun j18 hj18 => ?_)
    have K18 : ∀  (S5 : kSt), kOk l G E (kZ G E kjI) mJ_getChar_J2 2 (j18  S5) 18 [] [] S5 := by
      subst hj18
      intro  S5
      exact ok_none
    clear hj18
    refine ok_if_lt (tgt := 18) (kd_mJ_getChar_J2.at 3 rfl) (by decide) (fun h6 => ?_) (fun h6 => ?_)
    · refine ok_sub (lv' := []) [] rfl ?_
      exact K18  S
    · refine ok_iload_n 1 (kd_mJ_getChar_J2.at 4 rfl) rfl rfl ?_
      refine ok_aload_n 0 (kd_mJ_getChar_J2.at 5 rfl) rfl rfl ?_
      refine ok_callSI (M' := mJ_length_J2) (as := [.ref (1100 + i0)]) (st := [.int a1]) (kd_mJ_getChar_J2.at 6 rfl) ⟨(kin3 41 (by decide +kernel) rfl), kws_mJ_length_J2, kwi_mJ_length_J2, kwc_mJ_length_J2, kcy_mJ_length_J2⟩  rfl (by decide) (ok_mJ_length_J2 i0 hi0 S) (by decide) rfl (Nat.le_of_ble_eq_true rfl) (fun q7 hq7 => ?_)
      refine ok_icmp_lt (tgt := 28) (kd_mJ_getChar_J2.at 7 rfl) (by decide) (fun h8 => ?_) (fun h8 => ?_)
      · exact K28  q7.2
      · refine ok_sub (lv' := []) [] rfl ?_
        exact K18  q7.2
def f_mJ_charAt_J2 (i0 : Nat) (a1 : Int32) (S : kSt) : Option (Int32 × kSt) :=
  (f_mJ_checkIndex_J2 a1 i0 S).bind fun q1 =>
  (f_mJ_getChar_J2 i0 a1 q1).bind fun q2 =>
  some (q2.1, q2.2)
theorem ok_mJ_charAt_J2 {l : Launch} {G : kG} {E : kE} (i0 : Nat) (a1 : Int32) (hi0 : i0 < 16) (S : kSt) : kFn l G E E kjI mJ_charAt_J2 4 [.ref (1100 + i0), .int a1] S (f_mJ_charAt_J2 i0 a1 S) := by
  unfold f_mJ_charAt_J2
  refine kFn_of (by decide +kernel) (Nat.le_of_ble_eq_true rfl) ?_
  show kOk _ _ _ _ _ _ _ _ [(0, .ref (1100 + i0)), (1, .int a1)] _ _
  refine ok_iload_n 1 (kd_mJ_charAt_J2.at 0 rfl) rfl rfl ?_
  refine ok_aload_n 0 (kd_mJ_charAt_J2.at 1 rfl) rfl rfl ?_
  refine ok_callSV (M' := mJ_checkIndex_J2) (as := [.int a1, .ref (1100 + i0)]) (st := []) (kd_mJ_charAt_J2.at 2 rfl) ⟨(kin3 38 (by decide +kernel) rfl), kws_mJ_checkIndex_J2, kwi_mJ_checkIndex_J2, kwc_mJ_checkIndex_J2, kcy_mJ_checkIndex_J2⟩  rfl (by decide) (ok_mJ_checkIndex_J2 a1 i0 hi0 S) (by decide) rfl (Nat.le_of_ble_eq_true rfl) (fun q1 hq1 => ?_)
  refine ok_aload_n 0 (kd_mJ_charAt_J2.at 3 rfl) rfl rfl ?_
  refine ok_iload_n 1 (kd_mJ_charAt_J2.at 4 rfl) rfl rfl ?_
  refine ok_callSI (M' := mJ_getChar_J2) (as := [.ref (1100 + i0), .int a1]) (st := []) (kd_mJ_charAt_J2.at 5 rfl) ⟨(kin3 45 (by decide +kernel) rfl), kws_mJ_getChar_J2, kwi_mJ_getChar_J2, kwc_mJ_getChar_J2, kcy_mJ_getChar_J2⟩  rfl (by decide) (ok_mJ_getChar_J2 i0 a1 hi0 q1) (by decide) rfl (Nat.le_of_ble_eq_true rfl) (fun q2 hq2 => ?_)
  exact ok_nreturn (kd_mJ_charAt_J2.at 6 rfl) rfl (pk_nc _)
def f_mJ_charAt_J1 (i0 : Nat) (a1 : Int32) (S : kSt) : Option (Int32 × kSt) :=
  (f_mJ_checkIndex_J0 a1 (Int32.ofNat (kLen.getD i0 0)) S).bind fun q1 =>
  kgi a1 (kLen.getD i0 0) (
    some (((((kByt.getD i0 []).getD a1.toNatClampNeg 0) &&& 255).toUInt32 % 65536).toInt32, q1)
  )
theorem ok_mJ_charAt_J1 {l : Launch} {G : kG} {E : kE} (i0 : Nat) (a1 : Int32) (hi0 : i0 < 16) (S : kSt) : kFn l G E E kjI mJ_charAt_J1 3 [.ref (1100 + i0), .int a1] S (f_mJ_charAt_J1 i0 a1 S) := by
  unfold f_mJ_charAt_J1
  refine kFn_of (by decide +kernel) (Nat.le_of_ble_eq_true rfl) ?_
  show kOk _ _ _ _ _ _ _ _ [(0, .ref (1100 + i0)), (1, .int a1)] _ _
  refine ok_iload_n 1 (kd_mJ_charAt_J1.at 0 rfl) rfl rfl ?_
  refine ok_aload_n 0 (kd_mJ_charAt_J1.at 1 rfl) rfl rfl ?_
  refine ok_slen (kd_mJ_charAt_J1.at 2 rfl) hi0 ?_
  refine ok_callSV (M' := mJ_checkIndex_J0) (as := [.int a1, .int (Int32.ofNat (kLen.getD i0 0))]) (st := []) (kd_mJ_charAt_J1.at 3 rfl) ⟨(kin3 27 (by decide +kernel) rfl), kws_mJ_checkIndex_J0, kwi_mJ_checkIndex_J0, kwc_mJ_checkIndex_J0, kcy_mJ_checkIndex_J0⟩  rfl (by decide) (ok_mJ_checkIndex_J0 a1 (Int32.ofNat (kLen.getD i0 0)) S) (by decide) rfl (Nat.le_of_ble_eq_true rfl) (fun q1 hq1 => ?_)
  refine ok_aload_n 0 (kd_mJ_charAt_J1.at 4 rfl) rfl rfl ?_
  refine ok_iload_n 1 (kd_mJ_charAt_J1.at 5 rfl) rfl rfl ?_
  refine ok_sbyt (kd_mJ_charAt_J1.at 6 rfl) hi0 ?_
  refine ok_sipush (v := 255) (kd_mJ_charAt_J1.at 7 rfl) (by decide) ?_
  refine ok_iand (kd_mJ_charAt_J1.at 8 rfl) ?_
  refine ok_i2c (kd_mJ_charAt_J1.at 9 rfl) ?_
  exact ok_nreturn (kd_mJ_charAt_J1.at 10 rfl) rfl (pk_nc _)
def f_mJ_charAt_J0 (i0 : Nat) (a1 : Int32) (S : kSt) : Option (Int32 × kSt) :=
  (f_mJ_isLatin1_J0 i0 S).bind fun q1 =>
  if q1.1 then
    (f_mJ_charAt_J1 i0 a1 q1.2).bind fun q4 =>
    some (q4.1, q4.2)
  else
    (f_mJ_charAt_J2 i0 a1 q1.2).bind fun q3 =>
    some (q3.1, q3.2)
theorem ok_mJ_charAt_J0 {l : Launch} {G : kG} {E : kE} (i0 : Nat) (a1 : Int32) (hi0 : i0 < 16) (S : kSt) : kFn l G E E kjI mJ_charAt_J0 5 [.ref (1000 + i0), .int a1] S (f_mJ_charAt_J0 i0 a1 S) := by
  unfold f_mJ_charAt_J0
  refine kFn_of (by decide +kernel) (Nat.le_of_ble_eq_true rfl) ?_
  show kOk _ _ _ _ _ _ _ _ [(0, .ref (1000 + i0)), (1, .int a1)] _ _
  refine ok_aload_n 0 (kd_mJ_charAt_J0.at 0 rfl) rfl rfl ?_
  refine ok_callTB (M' := mJ_isLatin1_J0) (as := []) (st := []) (kd_mJ_charAt_J0.at 1 rfl) ⟨(kin3 20 (by decide +kernel) rfl), kwm_mJ_isLatin1_J0, kwl_mJ_isLatin1_J0, kwi_mJ_isLatin1_J0, kwc_mJ_isLatin1_J0, kcy_mJ_isLatin1_J0⟩ hi0 rfl rfl (by decide) (ok_mJ_isLatin1_J0 i0 hi0 S) (by decide) rfl (Nat.le_of_ble_eq_true rfl) (fun q1 hq1 => ?_)
  refine ok_ifb_eq (tgt := 16) (kd_mJ_charAt_J0.at 2 rfl) (by decide) (fun h2 => ?_) (fun h2 => ?_)
  · refine ok_aload_n 0 (kd_mJ_charAt_J0.at 8 rfl) rfl rfl ?_
    refine ok_sval (kd_mJ_charAt_J0.at 9 rfl) hi0 (kin8 175 (by decide +kernel) rfl) ?_
    refine ok_iload_n 1 (kd_mJ_charAt_J0.at 10 rfl) rfl rfl ?_
    refine ok_callSI (M' := mJ_charAt_J2) (as := [.ref (1100 + i0), .int a1]) (st := []) (kd_mJ_charAt_J0.at 11 rfl) ⟨(kin3 35 (by decide +kernel) rfl), kws_mJ_charAt_J2, kwi_mJ_charAt_J2, kwc_mJ_charAt_J2, kcy_mJ_charAt_J2⟩  rfl (by decide) (ok_mJ_charAt_J2 i0 a1 hi0 q1.2) (by decide) rfl (Nat.le_of_ble_eq_true rfl) (fun q3 hq3 => ?_)
    exact ok_nreturn (kd_mJ_charAt_J0.at 12 rfl) rfl (pk_nc _)
  · refine ok_aload_n 0 (kd_mJ_charAt_J0.at 3 rfl) rfl rfl ?_
    refine ok_sval (kd_mJ_charAt_J0.at 4 rfl) hi0 (kin8 175 (by decide +kernel) rfl) ?_
    refine ok_iload_n 1 (kd_mJ_charAt_J0.at 5 rfl) rfl rfl ?_
    refine ok_callSI (M' := mJ_charAt_J1) (as := [.ref (1100 + i0), .int a1]) (st := []) (kd_mJ_charAt_J0.at 6 rfl) ⟨(kin3 24 (by decide +kernel) rfl), kws_mJ_charAt_J1, kwi_mJ_charAt_J1, kwc_mJ_charAt_J1, kcy_mJ_charAt_J1⟩  rfl (by decide) (ok_mJ_charAt_J1 i0 a1 hi0 q1.2) (by decide) rfl (Nat.le_of_ble_eq_true rfl) (fun q4 hq4 => ?_)
    exact ok_nreturn (kd_mJ_charAt_J0.at 7 rfl) rfl (pk_nc _)
def f_m7_isWord_L28 (i1 : Nat)  (k55 : kSt → Option (Bool × kSt)) (k63 : kSt → Option (Bool × kSt))  : Nat → Int32 → kSt → Option (Bool × kSt)
  | 0, _, _ => none
  | n + 1, v2, S =>
    (f_mJ_length_J0 i1 S).bind fun q4 =>
    if q4.1 ≤ v2 then
      k63  q4.2
    else
      knx ((q4.2.1 3 4) + v2) fun x6 =>
      kgi x6 900 (
        (f_mJ_charAt_J0 i1 v2 q4.2).bind fun q7 =>
        if (q4.2.1 15 x6.toNatClampNeg) = q7.1 then
          knx (v2 + 1) fun x9 =>
          f_m7_isWord_L28 i1 k55 k63 n x9 q7.2
        else
          k55  q7.2
      )
theorem ok_m7_isWord_L28 {l : Launch} {G : kG} {ad : Nat → Nat} (i1 : Nat) (hi1 : i1 < 16)   (k55 : kSt → Option (Bool × kSt)) (k63 : kSt → Option (Bool × kSt)) (hk55 : ∀  (S : kSt), kOk l G (ad, 2) (kZ G (ad, 2) kjB) m7_isWord 6 (k55  S) 55 [] [] S) (hk63 : ∀  (S : kSt), kOk l G (ad, 2) (kZ G (ad, 2) kjB) m7_isWord 6 (k63  S) 63 [] [] S) : ∀ (n : Nat) (v2 : Int32) (S : kSt), kOk l G (ad, 2) (kZ G (ad, 2) kjB) m7_isWord 6 (f_m7_isWord_L28 i1 k55 k63 n v2 S) 28 [(0, .ref 3), (1, .ref (1000 + i1)), (2, .int v2)] [] S := by
  intro n
  induction n with
  | zero => intro v2 S; exact ok_none
  | succ n ih =>
    intro v2 S
    rw [f_m7_isWord_L28]
    refine ok_iload_n 2 (kd_m7_isWord.at 16 rfl) rfl rfl ?_
    refine ok_aload_n 1 (kd_m7_isWord.at 17 rfl) rfl rfl ?_
    refine ok_callTI (M' := mJ_length_J0) (as := []) (st := [.int v2]) (kd_m7_isWord.at 18 rfl) kc7_88 hi1 rfl rfl (by decide) (ok_mJ_length_J0 i1 hi1 S) (by decide) rfl (Nat.le_of_ble_eq_true rfl) (fun q4 hq4 => ?_)
    refine ok_icmp_ge (tgt := 63) (kd_m7_isWord.at 19 rfl) (by decide) (fun h5 => ?_) (fun h5 => ?_)
    · refine ok_sub (lv' := []) [] rfl ?_
      exact hk63  q4.2
    · refine ok_aload_n 0 (kd_m7_isWord.at 20 rfl) rfl rfl ?_
      refine ok_getR (kd_m7_isWord.at 21 rfl) kf7_18 sh_3 rfl (kr_3_0 _) ?_
      refine ok_aload_n 0 (kd_m7_isWord.at 22 rfl) rfl rfl ?_
      refine ok_getI (kd_m7_isWord.at 23 rfl) kf7_70 sh_3 rfl ?_
      refine ok_iload_n 2 (kd_m7_isWord.at 24 rfl) rfl rfl ?_
      refine ok_iadd (kd_m7_isWord.at 25 rfl) ?_
      refine ok_topi (fun x6 hx6 => ?_)
      refine ok_bald (kd_m7_isWord.at 26 rfl) sh_15 ?_
      refine ok_aload_n 1 (kd_m7_isWord.at 27 rfl) rfl rfl ?_
      refine ok_iload_n 2 (kd_m7_isWord.at 28 rfl) rfl rfl ?_
      refine ok_callTI (M' := mJ_charAt_J0) (as := [.int v2]) (st := [.int (q4.2.1 15 x6.toNatClampNeg)]) (kd_m7_isWord.at 29 rfl) kc7_94 hi1 rfl rfl (by decide) (ok_mJ_charAt_J0 i1 v2 hi1 q4.2) (by decide) rfl (Nat.le_of_ble_eq_true rfl) (fun q7 hq7 => ?_)
      refine ok_icmp_eq (tgt := 57) (kd_m7_isWord.at 30 rfl) (by decide) (fun h8 => ?_) (fun h8 => ?_)
      · refine ok_nx (fun x9 hx9 => ?_)
        refine ok_iinc (v := x9) (lv' := [(2, .int x9), (0, .ref 3), (1, .ref (1000 + i1))]) 2 (kd_m7_isWord.at 33 rfl) rfl hx9.symm (by decide) rfl ?_
        refine ok_goto (tgt := 28) (kd_m7_isWord.at 34 rfl) (by decide) ?_
        refine ok_sub (lv' := [(0, .ref 3), (1, .ref (1000 + i1)), (2, .int x9)]) [1, 2, 0] rfl ?_
        exact ih x9 q7.2
      · refine ok_sub (lv' := []) [] rfl ?_
        exact hk55  q7.2
def f_m7_isWord (i1 : Nat) (S : kSt) : Option (Bool × kSt) :=
  if (S.1 3 3) = 1 then
    (f_mJ_length_J0 i1 S).bind fun q2 =>
    if ((S.1 3 2) - (S.1 3 4)) = q2.1 then
      f_m7_isWord_L28 i1
        (fun  (S10 : kSt) =>
          some (false, S10)
        )
        (fun  (S11 : kSt) =>
          some (true, S11)
        )
        kFU 0 q2.2
    else
      some (false, q2.2)
  else
    some (false, S)
theorem ok_m7_isWord {l : Launch} {G : kG} {ad : Nat → Nat} (i1 : Nat) (hi1 : i1 < 16) (S : kSt) : kFn l G (ad, 2) (ad, 2) kjB m7_isWord 6 [.ref 3, .ref (1000 + i1)] S (f_m7_isWord i1 S) := by
  unfold f_m7_isWord
  refine kFn_of (by decide +kernel) (Nat.le_of_ble_eq_true rfl) ?_
  show kOk _ _ _ _ _ _ _ _ [(0, .ref 3), (1, .ref (1000 + i1))] _ _
  refine ok_aload_n 0 (kd_m7_isWord.at 0 rfl) rfl rfl ?_
  refine ok_getI (kd_m7_isWord.at 1 rfl) kf7_57 sh_3 rfl ?_
  refine ok_iconst (v := 1) (kd_m7_isWord.at 2 rfl) (by decide) ?_
  refine ok_icmp_ne (tgt := 24) (kd_m7_isWord.at 3 rfl) (by decide) (fun h1 => ?_) (fun h1 => ?_)
  · refine ok_iconst (v := 0) (kd_m7_isWord.at 12 rfl) (by decide) ?_
    exact ok_zreturn (x := false) (kd_m7_isWord.at 13 rfl) rfl
  · refine ok_aload_n 0 (kd_m7_isWord.at 4 rfl) rfl rfl ?_
    refine ok_getI (kd_m7_isWord.at 5 rfl) kf7_41 sh_3 rfl ?_
    refine ok_aload_n 0 (kd_m7_isWord.at 6 rfl) rfl rfl ?_
    refine ok_getI (kd_m7_isWord.at 7 rfl) kf7_70 sh_3 rfl ?_
    refine ok_isub (kd_m7_isWord.at 8 rfl) ?_
    refine ok_aload_n 1 (kd_m7_isWord.at 9 rfl) rfl rfl ?_
    refine ok_callTI (M' := mJ_length_J0) (as := []) (st := [.int ((S.1 3 2) - (S.1 3 4))]) (kd_m7_isWord.at 10 rfl) kc7_88 hi1 rfl rfl (by decide) (ok_mJ_length_J0 i1 hi1 S) (by decide) rfl (Nat.le_of_ble_eq_true rfl) (fun q2 hq2 => ?_)
    refine ok_icmp_eq (tgt := 26) (kd_m7_isWord.at 11 rfl) (by decide) (fun h3 => ?_) (fun h3 => ?_)
    · refine ok_iconst (v := 0) (kd_m7_isWord.at 14 rfl) (by decide) ?_
      refine ok_istore_n (lv' := [(2, .int 0), (0, .ref 3), (1, .ref (1000 + i1))]) (kd_m7_isWord.at 15 rfl) rfl (by decide) rfl ?_
      refine ok_sub (lv' := [(0, .ref 3), (1, .ref (1000 + i1)), (2, .int 0)]) [1, 2, 0] rfl ?_
      refine ok_m7_isWord_L28 i1 hi1 _ _ (fun S10 => ?_) (fun S11 => ?_) kFU 0 q2.2
      · refine ok_iconst (v := 0) (kd_m7_isWord.at 31 rfl) (by decide) ?_
        exact ok_zreturn (x := false) (kd_m7_isWord.at 32 rfl) rfl
      · refine ok_iconst (v := 1) (kd_m7_isWord.at 35 rfl) (by decide) ?_
        exact ok_zreturn (x := true) (kd_m7_isWord.at 36 rfl) rfl
    · refine ok_iconst (v := 0) (kd_m7_isWord.at 12 rfl) (by decide) ?_
      exact ok_zreturn (x := false) (kd_m7_isWord.at 13 rfl) rfl
def f_m7_isHeadOfLine  (S : kSt) : Option (Bool × kSt) :=
  (f_m7_isWord 0 S).bind fun q1 =>
  knx (fun  (S2 : kSt) =>
    some (true, S2)
    ) fun j54 =>
  if q1.1 then
    j54  q1.2
  else
    (f_m7_isWord 1 q1.2).bind fun q4 =>
    if q4.1 then
      j54  q4.2
    else
      (f_m7_isWord 2 q4.2).bind fun q6 =>
      if q6.1 then
        j54  q6.2
      else
        (f_m7_isWord 3 q6.2).bind fun q8 =>
        if q8.1 then
          j54  q8.2
        else
          (f_m7_isWord 4 q8.2).bind fun q10 =>
          if q10.1 then
            j54  q10.2
          else
            (f_m7_isWord 5 q10.2).bind fun q12 =>
            if q12.1 then
              j54  q12.2
            else
              some (false, q12.2)
theorem ok_m7_isHeadOfLine {l : Launch} {G : kG} {ad : Nat → Nat}   (S : kSt) : kFn l G (ad, 2) (ad, 2) kjB m7_isHeadOfLine 7 [.ref 3] S (f_m7_isHeadOfLine  S) := by
  unfold f_m7_isHeadOfLine
  refine kFn_of (by decide +kernel) (Nat.le_of_ble_eq_true rfl) ?_
  show kOk _ _ _ _ _ _ _ _ [(0, .ref 3)] _ _
  refine ok_aload_n 0 (kd_m7_isHeadOfLine.at 0 rfl) rfl rfl ?_
  refine ok_ldcS (kd_m7_isHeadOfLine.at 1 rfl) kst_7_98 ?_
  refine ok_callVB (M' := m7_isWord) (as := [.ref (1000 + 0)]) (st := []) (kd_m7_isHeadOfLine.at 2 rfl) kc7_99 sh_3 rfl rfl (by decide) (ok_m7_isWord 0 (by decide) S) (by decide) rfl (Nat.le_of_ble_eq_true rfl) (fun q1 hq1 => ?_)
  refine ok_nx (fun j54 hj54 => ?_)
  have K54 : ∀  (S2 : kSt), kOk l G (ad, 2) (kZ G (ad, 2) kjB) m7_isHeadOfLine 7 (j54  S2) 54 [] [] S2 := by
    subst hj54
    intro  S2
    refine ok_iconst (v := 1) (kd_m7_isHeadOfLine.at 24 rfl) (by decide) ?_
    refine ok_goto (tgt := 59) (kd_m7_isHeadOfLine.at 25 rfl) (by decide) ?_
    exact ok_zreturn (x := true) (kd_m7_isHeadOfLine.at 27 rfl) rfl
  clear hj54
  refine ok_ifb_ne (tgt := 54) (kd_m7_isHeadOfLine.at 3 rfl) (by decide) (fun h3 => ?_) (fun h3 => ?_)
  · refine ok_sub (lv' := []) [] rfl ?_
    exact K54  q1.2
  · refine ok_aload_n 0 (kd_m7_isHeadOfLine.at 4 rfl) rfl rfl ?_
    refine ok_ldcS (kd_m7_isHeadOfLine.at 5 rfl) kst_7_103 ?_
    refine ok_callVB (M' := m7_isWord) (as := [.ref (1000 + 1)]) (st := []) (kd_m7_isHeadOfLine.at 6 rfl) kc7_99 sh_3 rfl rfl (by decide) (ok_m7_isWord 1 (by decide) q1.2) (by decide) rfl (Nat.le_of_ble_eq_true rfl) (fun q4 hq4 => ?_)
    refine ok_ifb_ne (tgt := 54) (kd_m7_isHeadOfLine.at 7 rfl) (by decide) (fun h5 => ?_) (fun h5 => ?_)
    · refine ok_sub (lv' := []) [] rfl ?_
      exact K54  q4.2
    · refine ok_aload_n 0 (kd_m7_isHeadOfLine.at 8 rfl) rfl rfl ?_
      refine ok_ldcS (kd_m7_isHeadOfLine.at 9 rfl) kst_7_105 ?_
      refine ok_callVB (M' := m7_isWord) (as := [.ref (1000 + 2)]) (st := []) (kd_m7_isHeadOfLine.at 10 rfl) kc7_99 sh_3 rfl rfl (by decide) (ok_m7_isWord 2 (by decide) q4.2) (by decide) rfl (Nat.le_of_ble_eq_true rfl) (fun q6 hq6 => ?_)
      refine ok_ifb_ne (tgt := 54) (kd_m7_isHeadOfLine.at 11 rfl) (by decide) (fun h7 => ?_) (fun h7 => ?_)
      · refine ok_sub (lv' := []) [] rfl ?_
        exact K54  q6.2
      · refine ok_aload_n 0 (kd_m7_isHeadOfLine.at 12 rfl) rfl rfl ?_
        refine ok_ldcS (kd_m7_isHeadOfLine.at 13 rfl) kst_7_107 ?_
        refine ok_callVB (M' := m7_isWord) (as := [.ref (1000 + 3)]) (st := []) (kd_m7_isHeadOfLine.at 14 rfl) kc7_99 sh_3 rfl rfl (by decide) (ok_m7_isWord 3 (by decide) q6.2) (by decide) rfl (Nat.le_of_ble_eq_true rfl) (fun q8 hq8 => ?_)
        refine ok_ifb_ne (tgt := 54) (kd_m7_isHeadOfLine.at 15 rfl) (by decide) (fun h9 => ?_) (fun h9 => ?_)
        · refine ok_sub (lv' := []) [] rfl ?_
          exact K54  q8.2
        · refine ok_aload_n 0 (kd_m7_isHeadOfLine.at 16 rfl) rfl rfl ?_
          refine ok_ldcS (kd_m7_isHeadOfLine.at 17 rfl) kst_7_109 ?_
          refine ok_callVB (M' := m7_isWord) (as := [.ref (1000 + 4)]) (st := []) (kd_m7_isHeadOfLine.at 18 rfl) kc7_99 sh_3 rfl rfl (by decide) (ok_m7_isWord 4 (by decide) q8.2) (by decide) rfl (Nat.le_of_ble_eq_true rfl) (fun q10 hq10 => ?_)
          refine ok_ifb_ne (tgt := 54) (kd_m7_isHeadOfLine.at 19 rfl) (by decide) (fun h11 => ?_) (fun h11 => ?_)
          · refine ok_sub (lv' := []) [] rfl ?_
            exact K54  q10.2
          · refine ok_aload_n 0 (kd_m7_isHeadOfLine.at 20 rfl) rfl rfl ?_
            refine ok_ldcS (kd_m7_isHeadOfLine.at 21 rfl) kst_7_111 ?_
            refine ok_callVB (M' := m7_isWord) (as := [.ref (1000 + 5)]) (st := []) (kd_m7_isHeadOfLine.at 22 rfl) kc7_99 sh_3 rfl rfl (by decide) (ok_m7_isWord 5 (by decide) q10.2) (by decide) rfl (Nat.le_of_ble_eq_true rfl) (fun q12 hq12 => ?_)
            refine ok_ifb_eq (tgt := 58) (kd_m7_isHeadOfLine.at 23 rfl) (by decide) (fun h13 => ?_) (fun h13 => ?_)
            · refine ok_iconst (v := 0) (kd_m7_isHeadOfLine.at 26 rfl) (by decide) ?_
              exact ok_zreturn (x := false) (kd_m7_isHeadOfLine.at 27 rfl) rfl
            · refine ok_sub (lv' := []) [] rfl ?_
              exact K54  q12.2
def f_m7_lawOfWord  (S : kSt) : Option (Int32 × kSt) :=
  (f_m7_isWord 8 S).bind fun q1 =>
  if q1.1 then
    some (0, q1.2)
  else
    (f_m7_isWord 9 q1.2).bind fun q3 =>
    if q3.1 then
      some (1, q3.2)
    else
      (f_m7_isWord 10 q3.2).bind fun q5 =>
      if q5.1 then
        some (2, q5.2)
      else
        (f_m7_isWord 11 q5.2).bind fun q7 =>
        if q7.1 then
          some (3, q7.2)
        else
          some ((-1), q7.2)
theorem ok_m7_lawOfWord {l : Launch} {G : kG} {ad : Nat → Nat}   (S : kSt) : kFn l G (ad, 2) (ad, 2) kjI m7_lawOfWord 7 [.ref 3] S (f_m7_lawOfWord  S) := by
  unfold f_m7_lawOfWord
  refine kFn_of (by decide +kernel) (Nat.le_of_ble_eq_true rfl) ?_
  show kOk _ _ _ _ _ _ _ _ [(0, .ref 3)] _ _
  refine ok_aload_n 0 (kd_m7_lawOfWord.at 0 rfl) rfl rfl ?_
  refine ok_ldcS (kd_m7_lawOfWord.at 1 rfl) kst_7_113 ?_
  refine ok_callVB (M' := m7_isWord) (as := [.ref (1000 + 8)]) (st := []) (kd_m7_lawOfWord.at 2 rfl) kc7_99 sh_3 rfl rfl (by decide) (ok_m7_isWord 8 (by decide) S) (by decide) rfl (Nat.le_of_ble_eq_true rfl) (fun q1 hq1 => ?_)
  refine ok_ifb_eq (tgt := 11) (kd_m7_lawOfWord.at 3 rfl) (by decide) (fun h2 => ?_) (fun h2 => ?_)
  · refine ok_aload_n 0 (kd_m7_lawOfWord.at 6 rfl) rfl rfl ?_
    refine ok_ldcS (kd_m7_lawOfWord.at 7 rfl) kst_7_117 ?_
    refine ok_callVB (M' := m7_isWord) (as := [.ref (1000 + 9)]) (st := []) (kd_m7_lawOfWord.at 8 rfl) kc7_99 sh_3 rfl rfl (by decide) (ok_m7_isWord 9 (by decide) q1.2) (by decide) rfl (Nat.le_of_ble_eq_true rfl) (fun q3 hq3 => ?_)
    refine ok_ifb_eq (tgt := 22) (kd_m7_lawOfWord.at 9 rfl) (by decide) (fun h4 => ?_) (fun h4 => ?_)
    · refine ok_aload_n 0 (kd_m7_lawOfWord.at 12 rfl) rfl rfl ?_
      refine ok_ldcS (kd_m7_lawOfWord.at 13 rfl) kst_7_119 ?_
      refine ok_callVB (M' := m7_isWord) (as := [.ref (1000 + 10)]) (st := []) (kd_m7_lawOfWord.at 14 rfl) kc7_99 sh_3 rfl rfl (by decide) (ok_m7_isWord 10 (by decide) q3.2) (by decide) rfl (Nat.le_of_ble_eq_true rfl) (fun q5 hq5 => ?_)
      refine ok_ifb_eq (tgt := 33) (kd_m7_lawOfWord.at 15 rfl) (by decide) (fun h6 => ?_) (fun h6 => ?_)
      · refine ok_aload_n 0 (kd_m7_lawOfWord.at 18 rfl) rfl rfl ?_
        refine ok_ldcS (kd_m7_lawOfWord.at 19 rfl) kst_7_121 ?_
        refine ok_callVB (M' := m7_isWord) (as := [.ref (1000 + 11)]) (st := []) (kd_m7_lawOfWord.at 20 rfl) kc7_99 sh_3 rfl rfl (by decide) (ok_m7_isWord 11 (by decide) q5.2) (by decide) rfl (Nat.le_of_ble_eq_true rfl) (fun q7 hq7 => ?_)
        refine ok_ifb_eq (tgt := 46) (kd_m7_lawOfWord.at 21 rfl) (by decide) (fun h8 => ?_) (fun h8 => ?_)
        · refine ok_iconst (v := (-1)) (kd_m7_lawOfWord.at 24 rfl) (by decide) ?_
          exact ok_ireturn (kd_m7_lawOfWord.at 25 rfl) rfl
        · refine ok_iconst (v := 3) (kd_m7_lawOfWord.at 22 rfl) (by decide) ?_
          refine ok_goto (tgt := 47) (kd_m7_lawOfWord.at 23 rfl) (by decide) ?_
          exact ok_ireturn (kd_m7_lawOfWord.at 25 rfl) rfl
      · refine ok_iconst (v := 2) (kd_m7_lawOfWord.at 16 rfl) (by decide) ?_
        exact ok_ireturn (kd_m7_lawOfWord.at 17 rfl) rfl
    · refine ok_iconst (v := 1) (kd_m7_lawOfWord.at 10 rfl) (by decide) ?_
      exact ok_ireturn (kd_m7_lawOfWord.at 11 rfl) rfl
  · refine ok_iconst (v := 0) (kd_m7_lawOfWord.at 4 rfl) (by decide) ?_
    exact ok_ireturn (kd_m7_lawOfWord.at 5 rfl) rfl
def f_m7_isSame_L2   (k29 : kSt → Option (Bool × kSt)) (k37 : kSt → Option (Bool × kSt)) (c1 : Int32) (c2 : Int32) : Nat → Int32 → kSt → Option (Bool × kSt)
  | 0, _, _ => none
  | n + 1, v3, S =>
    if c2 ≤ v3 then
      k37  S
    else
      knx (c1 + v3) fun x2 =>
      kgi x2 900 (
        knx ((S.1 3 4) + v3) fun x3 =>
        kgi x3 900 (
          if (S.1 15 x2.toNatClampNeg) = (S.1 15 x3.toNatClampNeg) then
            knx (v3 + 1) fun x5 =>
            f_m7_isSame_L2 k29 k37 c1 c2 n x5 S
          else
            k29  S
        )
      )
theorem ok_m7_isSame_L2 {l : Launch} {G : kG} {ad : Nat → Nat}    (c1 : Int32) (c2 : Int32) (k29 : kSt → Option (Bool × kSt)) (k37 : kSt → Option (Bool × kSt)) (hk29 : ∀  (S : kSt), kOk l G (ad, 2) (kZ G (ad, 2) kjB) m7_isSame 1 (k29  S) 29 [] [] S) (hk37 : ∀  (S : kSt), kOk l G (ad, 2) (kZ G (ad, 2) kjB) m7_isSame 1 (k37  S) 37 [] [] S) : ∀ (n : Nat) (v3 : Int32) (S : kSt), kOk l G (ad, 2) (kZ G (ad, 2) kjB) m7_isSame 1 (f_m7_isSame_L2 k29 k37 c1 c2 n v3 S) 2 [(0, .ref 3), (1, .int c1), (2, .int c2), (3, .int v3)] [] S := by
  intro n
  induction n with
  | zero => intro v3 S; exact ok_none
  | succ n ih =>
    intro v3 S
    rw [f_m7_isSame_L2]
    refine ok_iload_n 3 (kd_m7_isSame.at 2 rfl) rfl rfl ?_
    refine ok_iload_n 2 (kd_m7_isSame.at 3 rfl) rfl rfl ?_
    refine ok_icmp_ge (tgt := 37) (kd_m7_isSame.at 4 rfl) (by decide) (fun h1 => ?_) (fun h1 => ?_)
    · refine ok_sub (lv' := []) [] rfl ?_
      exact hk37  S
    · refine ok_aload_n 0 (kd_m7_isSame.at 5 rfl) rfl rfl ?_
      refine ok_getR (kd_m7_isSame.at 6 rfl) kf7_18 sh_3 rfl (kr_3_0 _) ?_
      refine ok_iload_n 1 (kd_m7_isSame.at 7 rfl) rfl rfl ?_
      refine ok_iload_n 3 (kd_m7_isSame.at 8 rfl) rfl rfl ?_
      refine ok_iadd (kd_m7_isSame.at 9 rfl) ?_
      refine ok_topi (fun x2 hx2 => ?_)
      refine ok_bald (kd_m7_isSame.at 10 rfl) sh_15 ?_
      refine ok_aload_n 0 (kd_m7_isSame.at 11 rfl) rfl rfl ?_
      refine ok_getR (kd_m7_isSame.at 12 rfl) kf7_18 sh_3 rfl (kr_3_0 _) ?_
      refine ok_aload_n 0 (kd_m7_isSame.at 13 rfl) rfl rfl ?_
      refine ok_getI (kd_m7_isSame.at 14 rfl) kf7_70 sh_3 rfl ?_
      refine ok_iload_n 3 (kd_m7_isSame.at 15 rfl) rfl rfl ?_
      refine ok_iadd (kd_m7_isSame.at 16 rfl) ?_
      refine ok_topi (fun x3 hx3 => ?_)
      refine ok_bald (kd_m7_isSame.at 17 rfl) sh_15 ?_
      refine ok_icmp_eq (tgt := 31) (kd_m7_isSame.at 18 rfl) (by decide) (fun h4 => ?_) (fun h4 => ?_)
      · refine ok_nx (fun x5 hx5 => ?_)
        refine ok_iinc (v := x5) (lv' := [(3, .int x5), (0, .ref 3), (1, .int c1), (2, .int c2)]) 3 (kd_m7_isSame.at 21 rfl) rfl hx5.symm (by decide) rfl ?_
        refine ok_goto (tgt := 2) (kd_m7_isSame.at 22 rfl) (by decide) ?_
        refine ok_sub (lv' := [(0, .ref 3), (1, .int c1), (2, .int c2), (3, .int x5)]) [1, 2, 3, 0] rfl ?_
        exact ih x5 S
      · refine ok_sub (lv' := []) [] rfl ?_
        exact hk29  S
def f_m7_isSame (a1 : Int32) (a2 : Int32) (S : kSt) : Option (Bool × kSt) :=
  f_m7_isSame_L2 
    (fun  (S6 : kSt) =>
      some (false, S6)
    )
    (fun  (S7 : kSt) =>
      some (true, S7)
    )
    a1 a2 kFU 0 S
theorem ok_m7_isSame {l : Launch} {G : kG} {ad : Nat → Nat} (a1 : Int32) (a2 : Int32)  (S : kSt) : kFn l G (ad, 2) (ad, 2) kjB m7_isSame 1 [.ref 3, .int a1, .int a2] S (f_m7_isSame a1 a2 S) := by
  unfold f_m7_isSame
  refine kFn_of (by decide +kernel) (Nat.le_of_ble_eq_true rfl) ?_
  show kOk _ _ _ _ _ _ _ _ [(0, .ref 3), (1, .int a1), (2, .int a2)] _ _
  refine ok_iconst (v := 0) (kd_m7_isSame.at 0 rfl) (by decide) ?_
  refine ok_istore_n (lv' := [(3, .int 0), (0, .ref 3), (1, .int a1), (2, .int a2)]) (kd_m7_isSame.at 1 rfl) rfl (by decide) rfl ?_
  refine ok_sub (lv' := [(0, .ref 3), (1, .int a1), (2, .int a2), (3, .int 0)]) [1, 2, 3, 0] rfl ?_
  refine ok_m7_isSame_L2 a1 a2 _ _ (fun S6 => ?_) (fun S7 => ?_) kFU 0 S
  · refine ok_iconst (v := 0) (kd_m7_isSame.at 19 rfl) (by decide) ?_
    exact ok_zreturn (x := false) (kd_m7_isSame.at 20 rfl) rfl
  · refine ok_iconst (v := 1) (kd_m7_isSame.at 23 rfl) (by decide) ?_
    exact ok_zreturn (x := true) (kd_m7_isSame.at 24 rfl) rfl
def f_m7_pairOfName_L2   (k50 : Int32 → kSt → Option (Int32 × kSt)) (k58 : kSt → Option (Int32 × kSt))  : Nat → Int32 → kSt → Option (Int32 × kSt)
  | 0, _, _ => none
  | n + 1, v1, S =>
    if (S.1 2 2) ≤ v1 then
      k58  S
    else
      kgi v1 5 (
        knx (fun  (S2 : kSt) =>
          knx (v1 + 1) fun x3 =>
          f_m7_pairOfName_L2 k50 k58 n x3 S2
          ) fun j52 =>
        if (S.1 39 v1.toNatClampNeg) = ((S.1 3 2) - (S.1 3 4)) then
          kgi v1 5 (
            kgi v1 5 (
              (f_m7_isSame (S.1 38 v1.toNatClampNeg) (S.1 39 v1.toNatClampNeg) S).bind fun q5 =>
              if q5.1 then
                k50 v1 q5.2
              else
                j52  q5.2
            )
          )
        else
          j52  S
      )
theorem ok_m7_pairOfName_L2 {l : Launch} {G : kG} {ad : Nat → Nat}     (k50 : Int32 → kSt → Option (Int32 × kSt)) (k58 : kSt → Option (Int32 × kSt)) (hk50 : ∀ (v1 : Int32) (S : kSt), kOk l G (ad, 2) (kZ G (ad, 2) kjI) m7_pairOfName 2 (k50 v1 S) 50 [(1, .int v1)] [] S) (hk58 : ∀  (S : kSt), kOk l G (ad, 2) (kZ G (ad, 2) kjI) m7_pairOfName 2 (k58  S) 58 [] [] S) : ∀ (n : Nat) (v1 : Int32) (S : kSt), kOk l G (ad, 2) (kZ G (ad, 2) kjI) m7_pairOfName 2 (f_m7_pairOfName_L2 k50 k58 n v1 S) 2 [(0, .ref 3), (1, .int v1)] [] S := by
  intro n
  induction n with
  | zero => intro v1 S; exact ok_none
  | succ n ih =>
    intro v1 S
    rw [f_m7_pairOfName_L2]
    refine ok_iload_n 1 (kd_m7_pairOfName.at 2 rfl) rfl rfl ?_
    refine ok_aload_n 0 (kd_m7_pairOfName.at 3 rfl) rfl rfl ?_
    refine ok_getR (kd_m7_pairOfName.at 4 rfl) kf7_22 sh_3 rfl (kr_3_6 _) ?_
    refine ok_getI (kd_m7_pairOfName.at 5 rfl) kf7_67 sh_2 rfl ?_
    refine ok_icmp_ge (tgt := 58) (kd_m7_pairOfName.at 6 rfl) (by decide) (fun h1 => ?_) (fun h1 => ?_)
    · refine ok_sub (lv' := []) [] rfl ?_
      exact hk58  S
    · refine ok_aload_n 0 (kd_m7_pairOfName.at 7 rfl) rfl rfl ?_
      refine ok_getR (kd_m7_pairOfName.at 8 rfl) kf7_15 sh_3 rfl (kr_3_8 _) ?_
      refine ok_iload_n 1 (kd_m7_pairOfName.at 9 rfl) rfl rfl ?_
      refine ok_iald (kd_m7_pairOfName.at 10 rfl) sh_39 ?_
      refine ok_aload_n 0 (kd_m7_pairOfName.at 11 rfl) rfl rfl ?_
      refine ok_getI (kd_m7_pairOfName.at 12 rfl) kf7_41 sh_3 rfl ?_
      refine ok_aload_n 0 (kd_m7_pairOfName.at 13 rfl) rfl rfl ?_
      refine ok_getI (kd_m7_pairOfName.at 14 rfl) kf7_70 sh_3 rfl ?_
      refine ok_isub (kd_m7_pairOfName.at 15 rfl) ?_
      refine ok_nx (fun j52 hj52 => ?_)
      have K52 : ∀  (S2 : kSt), kOk l G (ad, 2) (kZ G (ad, 2) kjI) m7_pairOfName 2 (j52  S2) 52 [(0, .ref 3), (1, .int v1)] [] S2 := by
        subst hj52
        intro  S2
        refine ok_nx (fun x3 hx3 => ?_)
        refine ok_iinc (v := x3) (lv' := [(1, .int x3), (0, .ref 3)]) 1 (kd_m7_pairOfName.at 30 rfl) rfl hx3.symm (by decide) rfl ?_
        refine ok_goto (tgt := 2) (kd_m7_pairOfName.at 31 rfl) (by decide) ?_
        refine ok_sub (lv' := [(0, .ref 3), (1, .int x3)]) [1, 0] rfl ?_
        exact ih x3 S2
      clear hj52
      refine ok_icmp_ne (tgt := 52) (kd_m7_pairOfName.at 16 rfl) (by decide) (fun h4 => ?_) (fun h4 => ?_)
      · exact K52  S
      · refine ok_aload_n 0 (kd_m7_pairOfName.at 17 rfl) rfl rfl ?_
        refine ok_aload_n 0 (kd_m7_pairOfName.at 18 rfl) rfl rfl ?_
        refine ok_getR (kd_m7_pairOfName.at 19 rfl) kf7_9 sh_3 rfl (kr_3_7 _) ?_
        refine ok_iload_n 1 (kd_m7_pairOfName.at 20 rfl) rfl rfl ?_
        refine ok_iald (kd_m7_pairOfName.at 21 rfl) sh_38 ?_
        refine ok_aload_n 0 (kd_m7_pairOfName.at 22 rfl) rfl rfl ?_
        refine ok_getR (kd_m7_pairOfName.at 23 rfl) kf7_15 sh_3 rfl (kr_3_8 _) ?_
        refine ok_iload_n 1 (kd_m7_pairOfName.at 24 rfl) rfl rfl ?_
        refine ok_iald (kd_m7_pairOfName.at 25 rfl) sh_39 ?_
        refine ok_callVB (M' := m7_isSame) (as := [.int (S.1 38 v1.toNatClampNeg), .int (S.1 39 v1.toNatClampNeg)]) (st := []) (kd_m7_pairOfName.at 26 rfl) kc7_123 sh_3 rfl rfl (by decide) (ok_m7_isSame (S.1 38 v1.toNatClampNeg) (S.1 39 v1.toNatClampNeg) S) (by decide) rfl (Nat.le_of_ble_eq_true rfl) (fun q5 hq5 => ?_)
        refine ok_ifb_eq (tgt := 52) (kd_m7_pairOfName.at 27 rfl) (by decide) (fun h6 => ?_) (fun h6 => ?_)
        · exact K52  q5.2
        · refine ok_sub (lv' := [(1, .int v1)]) [1] rfl ?_
          exact hk50 v1 q5.2
def f_m7_pairOfName  (S : kSt) : Option (Int32 × kSt) :=
  f_m7_pairOfName_L2 
    (fun (x7 : Int32) (S8 : kSt) =>
      some (x7, S8)
    )
    (fun  (S9 : kSt) =>
      some ((-1), S9)
    )
    kFU 0 S
theorem ok_m7_pairOfName {l : Launch} {G : kG} {ad : Nat → Nat}   (S : kSt) : kFn l G (ad, 2) (ad, 2) kjI m7_pairOfName 2 [.ref 3] S (f_m7_pairOfName  S) := by
  unfold f_m7_pairOfName
  refine kFn_of (by decide +kernel) (Nat.le_of_ble_eq_true rfl) ?_
  show kOk _ _ _ _ _ _ _ _ [(0, .ref 3)] _ _
  refine ok_iconst (v := 0) (kd_m7_pairOfName.at 0 rfl) (by decide) ?_
  refine ok_istore_n (lv' := [(1, .int 0), (0, .ref 3)]) (kd_m7_pairOfName.at 1 rfl) rfl (by decide) rfl ?_
  refine ok_sub (lv' := [(0, .ref 3), (1, .int 0)]) [1, 0] rfl ?_
  refine ok_m7_pairOfName_L2 _ _ (fun x7 S8 => ?_) (fun S9 => ?_) kFU 0 S
  · refine ok_iload_n 0 (kd_m7_pairOfName.at 28 rfl) rfl rfl ?_
    exact ok_ireturn (kd_m7_pairOfName.at 29 rfl) rfl
  · refine ok_iconst (v := (-1)) (kd_m7_pairOfName.at 32 rfl) (by decide) ?_
    exact ok_ireturn (kd_m7_pairOfName.at 33 rfl) rfl
def f_m7_takeWord (i1 : Nat) (S : kSt) : Option (Bool × kSt) :=
  (f_m7_isWord i1 S).bind fun q1 =>
  if q1.1 then
    (f_m7_next  q1.2).bind fun q3 =>
    some (true, q3)
  else
    (f_m7_found 1 q1.2).bind fun q4 =>
    some (q4.1, q4.2)
theorem ok_m7_takeWord {l : Launch} {G : kG} {ad : Nat → Nat} (i1 : Nat) (hi1 : i1 < 16) (S : kSt) : kFn l G (ad, 2) (ad, 2) kjB m7_takeWord 7 [.ref 3, .ref (1000 + i1)] S (f_m7_takeWord i1 S) := by
  unfold f_m7_takeWord
  refine kFn_of (by decide +kernel) (Nat.le_of_ble_eq_true rfl) ?_
  show kOk _ _ _ _ _ _ _ _ [(0, .ref 3), (1, .ref (1000 + i1))] _ _
  refine ok_aload_n 0 (kd_m7_takeWord.at 0 rfl) rfl rfl ?_
  refine ok_aload_n 1 (kd_m7_takeWord.at 1 rfl) rfl rfl ?_
  refine ok_callVB (M' := m7_isWord) (as := [.ref (1000 + i1)]) (st := []) (kd_m7_takeWord.at 2 rfl) kc7_99 sh_3 rfl rfl (by decide) (ok_m7_isWord i1 hi1 S) (by decide) rfl (Nat.le_of_ble_eq_true rfl) (fun q1 hq1 => ?_)
  refine ok_ifb_ne (tgt := 14) (kd_m7_takeWord.at 3 rfl) (by decide) (fun h2 => ?_) (fun h2 => ?_)
  · refine ok_aload_n 0 (kd_m7_takeWord.at 8 rfl) rfl rfl ?_
    refine ok_callVV (M' := m7_next) (as := []) (st := []) (kd_m7_takeWord.at 9 rfl) kc7_50 sh_3 rfl rfl (by decide) (ok_m7_next  q1.2) (by decide) rfl (Nat.le_of_ble_eq_true rfl) (fun q3 hq3 => ?_)
    refine ok_iconst (v := 1) (kd_m7_takeWord.at 10 rfl) (by decide) ?_
    exact ok_zreturn (x := true) (kd_m7_takeWord.at 11 rfl) rfl
  · refine ok_aload_n 0 (kd_m7_takeWord.at 4 rfl) rfl rfl ?_
    refine ok_iconst (v := 1) (kd_m7_takeWord.at 5 rfl) (by decide) ?_
    refine ok_callVB (M' := m7_found) (as := [.int 1]) (st := []) (kd_m7_takeWord.at 6 rfl) kc7_63 sh_3 rfl rfl (by decide) (ok_m7_found 1 q1.2) (by decide) rfl (Nat.le_of_ble_eq_true rfl) (fun q4 hq4 => ?_)
    exact ok_zreturn (x := q4.1) (kd_m7_takeWord.at 7 rfl) rfl
def f_m7_seesWhole (a1 : Int32) (a2 : Int32) (S : kSt) : Option (Bool × kSt) :=
  if (S.1 3 3) = 2 then
    knx (fun  (S2 : kSt) =>
      some (true, S2)
      ) fun j38 =>
    knx (fun  (S3 : kSt) =>
      (f_m7_found 4 S3).bind fun q4 =>
      if q4.1 then
        j38  q4.2
      else
        some (false, q4.2)
      ) fun j30 =>
    if (S.1 3 5) < a1 then
      j30  S
    else
      if (S.1 3 5) ≤ a2 then
        j38  S
      else
        j30  S
  else
    (f_m7_found 1 S).bind fun q8 =>
    some (q8.1, q8.2)
theorem ok_m7_seesWhole {l : Launch} {G : kG} {ad : Nat → Nat} (a1 : Int32) (a2 : Int32)  (S : kSt) : kFn l G (ad, 2) (ad, 2) kjB m7_seesWhole 2 [.ref 3, .int a1, .int a2] S (f_m7_seesWhole a1 a2 S) := by
  unfold f_m7_seesWhole
  refine kFn_of (by decide +kernel) (Nat.le_of_ble_eq_true rfl) ?_
  show kOk _ _ _ _ _ _ _ _ [(0, .ref 3), (1, .int a1), (2, .int a2)] _ _
  refine ok_aload_n 0 (kd_m7_seesWhole.at 0 rfl) rfl rfl ?_
  refine ok_getI (kd_m7_seesWhole.at 1 rfl) kf7_57 sh_3 rfl ?_
  refine ok_iconst (v := 2) (kd_m7_seesWhole.at 2 rfl) (by decide) ?_
  refine ok_icmp_eq (tgt := 14) (kd_m7_seesWhole.at 3 rfl) (by decide) (fun h1 => ?_) (fun h1 => ?_)
  · refine ok_aload_n 0 (kd_m7_seesWhole.at 8 rfl) rfl rfl ?_
    refine ok_getI (kd_m7_seesWhole.at 9 rfl) kf7_85 sh_3 rfl ?_
    refine ok_iload_n 1 (kd_m7_seesWhole.at 10 rfl) rfl rfl ?_
    refine ok_nx (fun j38 hj38 => ?_)
    have K38 : ∀  (S2 : kSt), kOk l G (ad, 2) (kZ G (ad, 2) kjB) m7_seesWhole 2 (j38  S2) 38 [] [] S2 := by
      subst hj38
      intro  S2
      refine ok_iconst (v := 1) (kd_m7_seesWhole.at 20 rfl) (by decide) ?_
      refine ok_goto (tgt := 43) (kd_m7_seesWhole.at 21 rfl) (by decide) ?_
      exact ok_zreturn (x := true) (kd_m7_seesWhole.at 23 rfl) rfl
    clear hj38
    refine ok_nx (fun j30 hj30 => ?_)
    have K30 : ∀  (S3 : kSt), kOk l G (ad, 2) (kZ G (ad, 2) kjB) m7_seesWhole 2 (j30  S3) 30 [(0, .ref 3)] [] S3 := by
      subst hj30
      intro  S3
      refine ok_aload_n 0 (kd_m7_seesWhole.at 16 rfl) rfl rfl ?_
      refine ok_iconst (v := 4) (kd_m7_seesWhole.at 17 rfl) (by decide) ?_
      refine ok_callVB (M' := m7_found) (as := [.int 4]) (st := []) (kd_m7_seesWhole.at 18 rfl) kc7_63 sh_3 rfl rfl (by decide) (ok_m7_found 4 S3) (by decide) rfl (Nat.le_of_ble_eq_true rfl) (fun q4 hq4 => ?_)
      refine ok_ifb_eq (tgt := 42) (kd_m7_seesWhole.at 19 rfl) (by decide) (fun h5 => ?_) (fun h5 => ?_)
      · refine ok_iconst (v := 0) (kd_m7_seesWhole.at 22 rfl) (by decide) ?_
        exact ok_zreturn (x := false) (kd_m7_seesWhole.at 23 rfl) rfl
      · refine ok_sub (lv' := []) [] rfl ?_
        exact K38  q4.2
    clear hj30
    refine ok_icmp_lt (tgt := 30) (kd_m7_seesWhole.at 11 rfl) (by decide) (fun h6 => ?_) (fun h6 => ?_)
    · refine ok_sub (lv' := [(0, .ref 3)]) [0] rfl ?_
      exact K30  S
    · refine ok_aload_n 0 (kd_m7_seesWhole.at 12 rfl) rfl rfl ?_
      refine ok_getI (kd_m7_seesWhole.at 13 rfl) kf7_85 sh_3 rfl ?_
      refine ok_iload_n 2 (kd_m7_seesWhole.at 14 rfl) rfl rfl ?_
      refine ok_icmp_le (tgt := 38) (kd_m7_seesWhole.at 15 rfl) (by decide) (fun h7 => ?_) (fun h7 => ?_)
      · refine ok_sub (lv' := []) [] rfl ?_
        exact K38  S
      · refine ok_sub (lv' := [(0, .ref 3)]) [0] rfl ?_
        exact K30  S
  · refine ok_aload_n 0 (kd_m7_seesWhole.at 4 rfl) rfl rfl ?_
    refine ok_iconst (v := 1) (kd_m7_seesWhole.at 5 rfl) (by decide) ?_
    refine ok_callVB (M' := m7_found) (as := [.int 1]) (st := []) (kd_m7_seesWhole.at 6 rfl) kc7_63 sh_3 rfl rfl (by decide) (ok_m7_found 1 S) (by decide) rfl (Nat.le_of_ble_eq_true rfl) (fun q8 hq8 => ?_)
    exact ok_zreturn (x := q8.1) (kd_m7_seesWhole.at 7 rfl) rfl
def f_m7_seenPair  (S : kSt) : Option (Int32 × kSt) :=
  knx (fun  (S1 : kSt) =>
    (f_m7_found 1 S1).bind fun q2 =>
    some ((-1), q2.2)
    ) fun j15 =>
  if (S.1 3 3) = 1 then
    (f_m7_isHeadOfLine  S).bind fun q4 =>
    if q4.1 then
      j15  q4.2
    else
      (f_m7_pairOfName  q4.2).bind fun q6 =>
      if 0 ≤ q6.1 then
        some (q6.1, q6.2)
      else
        (f_m7_found 2 q6.2).bind fun q8 =>
        some (q6.1, q8.2)
  else
    j15  S
theorem ok_m7_seenPair {l : Launch} {G : kG} {ad : Nat → Nat}   (S : kSt) : kFn l G (ad, 2) (ad, 2) kjI m7_seenPair 8 [.ref 3] S (f_m7_seenPair  S) := by
  unfold f_m7_seenPair
  refine kFn_of (by decide +kernel) (Nat.le_of_ble_eq_true rfl) ?_
  show kOk _ _ _ _ _ _ _ _ [(0, .ref 3)] _ _
  refine ok_aload_n 0 (kd_m7_seenPair.at 0 rfl) rfl rfl ?_
  refine ok_getI (kd_m7_seenPair.at 1 rfl) kf7_57 sh_3 rfl ?_
  refine ok_iconst (v := 1) (kd_m7_seenPair.at 2 rfl) (by decide) ?_
  refine ok_nx (fun j15 hj15 => ?_)
  have K15 : ∀  (S1 : kSt), kOk l G (ad, 2) (kZ G (ad, 2) kjI) m7_seenPair 8 (j15  S1) 15 [(0, .ref 3)] [] S1 := by
    subst hj15
    intro  S1
    refine ok_aload_n 0 (kd_m7_seenPair.at 7 rfl) rfl rfl ?_
    refine ok_iconst (v := 1) (kd_m7_seenPair.at 8 rfl) (by decide) ?_
    refine ok_callVB (M' := m7_found) (as := [.int 1]) (st := []) (kd_m7_seenPair.at 9 rfl) kc7_63 sh_3 rfl rfl (by decide) (ok_m7_found 1 S1) (by decide) rfl (Nat.le_of_ble_eq_true rfl) (fun q2 hq2 => ?_)
    refine ok_pop (kd_m7_seenPair.at 10 rfl) rfl ?_
    refine ok_iconst (v := (-1)) (kd_m7_seenPair.at 11 rfl) (by decide) ?_
    exact ok_ireturn (kd_m7_seenPair.at 12 rfl) rfl
  clear hj15
  refine ok_icmp_ne (tgt := 15) (kd_m7_seenPair.at 3 rfl) (by decide) (fun h3 => ?_) (fun h3 => ?_)
  · exact K15  S
  · refine ok_aload_n 0 (kd_m7_seenPair.at 4 rfl) rfl rfl ?_
    refine ok_callVB (M' := m7_isHeadOfLine) (as := []) (st := []) (kd_m7_seenPair.at 5 rfl) kc7_127 sh_3 rfl rfl (by decide) (ok_m7_isHeadOfLine  S) (by decide) rfl (Nat.le_of_ble_eq_true rfl) (fun q4 hq4 => ?_)
    refine ok_ifb_eq (tgt := 23) (kd_m7_seenPair.at 6 rfl) (by decide) (fun h5 => ?_) (fun h5 => ?_)
    · refine ok_aload_n 0 (kd_m7_seenPair.at 13 rfl) rfl rfl ?_
      refine ok_callVI (M' := m7_pairOfName) (as := []) (st := []) (kd_m7_seenPair.at 14 rfl) kc7_130 sh_3 rfl rfl (by decide) (ok_m7_pairOfName  q4.2) (by decide) rfl (Nat.le_of_ble_eq_true rfl) (fun q6 hq6 => ?_)
      refine ok_istore_n (lv' := [(1, .int q6.1), (0, .ref 3)]) (kd_m7_seenPair.at 15 rfl) rfl (by decide) rfl ?_
      refine ok_iload_n 0 (kd_m7_seenPair.at 16 rfl) rfl rfl ?_
      refine ok_if_ge (tgt := 38) (kd_m7_seenPair.at 17 rfl) (by decide) (fun h7 => ?_) (fun h7 => ?_)
      · refine ok_iload_n 0 (kd_m7_seenPair.at 22 rfl) rfl rfl ?_
        exact ok_ireturn (kd_m7_seenPair.at 23 rfl) rfl
      · refine ok_aload_n 1 (kd_m7_seenPair.at 18 rfl) rfl rfl ?_
        refine ok_iconst (v := 2) (kd_m7_seenPair.at 19 rfl) (by decide) ?_
        refine ok_callVB (M' := m7_found) (as := [.int 2]) (st := []) (kd_m7_seenPair.at 20 rfl) kc7_63 sh_3 rfl rfl (by decide) (ok_m7_found 2 q6.2) (by decide) rfl (Nat.le_of_ble_eq_true rfl) (fun q8 hq8 => ?_)
        refine ok_pop (kd_m7_seenPair.at 21 rfl) rfl ?_
        refine ok_iload_n 0 (kd_m7_seenPair.at 22 rfl) rfl rfl ?_
        exact ok_ireturn (kd_m7_seenPair.at 23 rfl) rfl
    · exact K15  q4.2
def f_m7_readHead  (S : kSt) : Option (Bool × kSt) :=
  (f_m7_isWord 0 S).bind fun q1 =>
  if q1.1 then
    (f_m7_next  q1.2).bind fun q3 =>
    (f_m7_takeWord 6 q3).bind fun q4 =>
    if q4.1 then
      (f_m7_seesWhole 2 99 q4.2).bind fun q6 =>
      if q6.1 then
        knx (kuI q6.2 2 0 (q6.2.1 3 5)) fun S8 =>
        (f_m7_next  S8).bind fun q9 =>
        (f_m7_takeWord 7 q9).bind fun q10 =>
        if q10.1 then
          (f_m7_seesWhole 0 100 q10.2).bind fun q12 =>
          if q12.1 then
            knx (kuI q12.2 2 1 (q12.2.1 3 5)) fun S14 =>
            (f_m7_next  S14).bind fun q15 =>
            some (true, q15)
          else
            some (false, q12.2)
        else
          some (false, q10.2)
      else
        some (false, q6.2)
    else
      some (false, q4.2)
  else
    (f_m7_isHeadOfLine  q1.2).bind fun q16 =>
    knx (if q16.1 then 6 else 1) fun x18 =>
    (f_m7_found x18 q16.2).bind fun q19 =>
    some (q19.1, q19.2)
theorem ok_m7_readHead {l : Launch} {G : kG} {ad : Nat → Nat}   (S : kSt) : kFn l G (ad, 2) (ad, 2) kjB m7_readHead 8 [.ref 3] S (f_m7_readHead  S) := by
  unfold f_m7_readHead
  refine kFn_of (by decide +kernel) (Nat.le_of_ble_eq_true rfl) ?_
  show kOk _ _ _ _ _ _ _ _ [(0, .ref 3)] _ _
  refine ok_aload_n 0 (kd_m7_readHead.at 0 rfl) rfl rfl ?_
  refine ok_ldcS (kd_m7_readHead.at 1 rfl) kst_7_98 ?_
  refine ok_callVB (M' := m7_isWord) (as := [.ref (1000 + 0)]) (st := []) (kd_m7_readHead.at 2 rfl) kc7_99 sh_3 rfl rfl (by decide) (ok_m7_isWord 0 (by decide) S) (by decide) rfl (Nat.le_of_ble_eq_true rfl) (fun q1 hq1 => ?_)
  refine ok_ifb_ne (tgt := 27) (kd_m7_readHead.at 3 rfl) (by decide) (fun h2 => ?_) (fun h2 => ?_)
  · refine ok_aload_n 0 (kd_m7_readHead.at 13 rfl) rfl rfl ?_
    refine ok_callVV (M' := m7_next) (as := []) (st := []) (kd_m7_readHead.at 14 rfl) kc7_50 sh_3 rfl rfl (by decide) (ok_m7_next  q1.2) (by decide) rfl (Nat.le_of_ble_eq_true rfl) (fun q3 hq3 => ?_)
    refine ok_aload_n 0 (kd_m7_readHead.at 15 rfl) rfl rfl ?_
    refine ok_ldcS (kd_m7_readHead.at 16 rfl) kst_7_133 ?_
    refine ok_callVB (M' := m7_takeWord) (as := [.ref (1000 + 6)]) (st := []) (kd_m7_readHead.at 17 rfl) kc7_135 sh_3 rfl rfl (by decide) (ok_m7_takeWord 6 (by decide) q3) (by decide) rfl (Nat.le_of_ble_eq_true rfl) (fun q4 hq4 => ?_)
    refine ok_ifb_eq (tgt := 50) (kd_m7_readHead.at 18 rfl) (by decide) (fun h5 => ?_) (fun h5 => ?_)
    · refine ok_iconst (v := 0) (kd_m7_readHead.at 24 rfl) (by decide) ?_
      exact ok_zreturn (x := false) (kd_m7_readHead.at 25 rfl) rfl
    · refine ok_aload_n 0 (kd_m7_readHead.at 19 rfl) rfl rfl ?_
      refine ok_iconst (v := 2) (kd_m7_readHead.at 20 rfl) (by decide) ?_
      refine ok_bipush (v := 99) (kd_m7_readHead.at 21 rfl) (by decide) ?_
      refine ok_callVB (M' := m7_seesWhole) (as := [.int 2, .int 99]) (st := []) (kd_m7_readHead.at 22 rfl) kc7_138 sh_3 rfl rfl (by decide) (ok_m7_seesWhole 2 99 q4.2) (by decide) rfl (Nat.le_of_ble_eq_true rfl) (fun q6 hq6 => ?_)
      refine ok_ifb_ne (tgt := 52) (kd_m7_readHead.at 23 rfl) (by decide) (fun h7 => ?_) (fun h7 => ?_)
      · refine ok_aload_n 0 (kd_m7_readHead.at 26 rfl) rfl rfl ?_
        refine ok_getR (kd_m7_readHead.at 27 rfl) kf7_22 sh_3 rfl (kr_3_6 _) ?_
        refine ok_aload_n 0 (kd_m7_readHead.at 28 rfl) rfl rfl ?_
        refine ok_getI (kd_m7_readHead.at 29 rfl) kf7_85 sh_3 rfl ?_
        refine ok_putI (kd_m7_readHead.at 30 rfl) kf7_141 sh_2 rfl rfl ?_
        refine ok_nS (fun S8 hS8 => ?_)
        refine ok_aload_n 0 (kd_m7_readHead.at 31 rfl) rfl rfl ?_
        refine ok_callVV (M' := m7_next) (as := []) (st := []) (kd_m7_readHead.at 32 rfl) kc7_50 sh_3 rfl rfl (by decide) (ok_m7_next  S8) (by decide) rfl (Nat.le_of_ble_eq_true rfl) (fun q9 hq9 => ?_)
        refine ok_aload_n 0 (kd_m7_readHead.at 33 rfl) rfl rfl ?_
        refine ok_ldcS (kd_m7_readHead.at 34 rfl) kst_7_143 ?_
        refine ok_callVB (M' := m7_takeWord) (as := [.ref (1000 + 7)]) (st := []) (kd_m7_readHead.at 35 rfl) kc7_135 sh_3 rfl rfl (by decide) (ok_m7_takeWord 7 (by decide) q9) (by decide) rfl (Nat.le_of_ble_eq_true rfl) (fun q10 hq10 => ?_)
        refine ok_ifb_eq (tgt := 86) (kd_m7_readHead.at 36 rfl) (by decide) (fun h11 => ?_) (fun h11 => ?_)
        · refine ok_iconst (v := 0) (kd_m7_readHead.at 42 rfl) (by decide) ?_
          exact ok_zreturn (x := false) (kd_m7_readHead.at 43 rfl) rfl
        · refine ok_aload_n 0 (kd_m7_readHead.at 37 rfl) rfl rfl ?_
          refine ok_iconst (v := 0) (kd_m7_readHead.at 38 rfl) (by decide) ?_
          refine ok_bipush (v := 100) (kd_m7_readHead.at 39 rfl) (by decide) ?_
          refine ok_callVB (M' := m7_seesWhole) (as := [.int 0, .int 100]) (st := []) (kd_m7_readHead.at 40 rfl) kc7_138 sh_3 rfl rfl (by decide) (ok_m7_seesWhole 0 100 q10.2) (by decide) rfl (Nat.le_of_ble_eq_true rfl) (fun q12 hq12 => ?_)
          refine ok_ifb_ne (tgt := 88) (kd_m7_readHead.at 41 rfl) (by decide) (fun h13 => ?_) (fun h13 => ?_)
          · refine ok_aload_n 0 (kd_m7_readHead.at 44 rfl) rfl rfl ?_
            refine ok_getR (kd_m7_readHead.at 45 rfl) kf7_22 sh_3 rfl (kr_3_6 _) ?_
            refine ok_aload_n 0 (kd_m7_readHead.at 46 rfl) rfl rfl ?_
            refine ok_getI (kd_m7_readHead.at 47 rfl) kf7_85 sh_3 rfl ?_
            refine ok_putI (kd_m7_readHead.at 48 rfl) kf7_145 sh_2 rfl rfl ?_
            refine ok_nS (fun S14 hS14 => ?_)
            refine ok_aload_n 0 (kd_m7_readHead.at 49 rfl) rfl rfl ?_
            refine ok_callVV (M' := m7_next) (as := []) (st := []) (kd_m7_readHead.at 50 rfl) kc7_50 sh_3 rfl rfl (by decide) (ok_m7_next  S14) (by decide) rfl (Nat.le_of_ble_eq_true rfl) (fun q15 hq15 => ?_)
            refine ok_iconst (v := 1) (kd_m7_readHead.at 51 rfl) (by decide) ?_
            exact ok_zreturn (x := true) (kd_m7_readHead.at 52 rfl) rfl
          · refine ok_iconst (v := 0) (kd_m7_readHead.at 42 rfl) (by decide) ?_
            exact ok_zreturn (x := false) (kd_m7_readHead.at 43 rfl) rfl
      · refine ok_iconst (v := 0) (kd_m7_readHead.at 24 rfl) (by decide) ?_
        exact ok_zreturn (x := false) (kd_m7_readHead.at 25 rfl) rfl
  · refine ok_aload_n 0 (kd_m7_readHead.at 4 rfl) rfl rfl ?_
    refine ok_aload_n 0 (kd_m7_readHead.at 5 rfl) rfl rfl ?_
    refine ok_callVB (M' := m7_isHeadOfLine) (as := []) (st := [.ref 3]) (kd_m7_readHead.at 6 rfl) kc7_127 sh_3 rfl rfl (by decide) (ok_m7_isHeadOfLine  q1.2) (by decide) rfl (Nat.le_of_ble_eq_true rfl) (fun q16 hq16 => ?_)
    refine ok_fold (α := Int32) (pcJ := 23) (lvJ := [(0, .ref 3)]) (stJ := [.ref 3]) (mk := fun v => .int v) (fun K => ?_) (fun x18 => ?_)
    · refine ok_ap ?_
      refine ok_ifb_eq (tgt := 22) (kd_m7_readHead.at 7 rfl) (by decide) (fun h17 => ?_) (fun h17 => ?_)
      · refine ok_iconst (v := 1) (kd_m7_readHead.at 10 rfl) (by decide) ?_
        exact K 1
      · refine ok_bipush (v := 6) (kd_m7_readHead.at 8 rfl) (by decide) ?_
        refine ok_goto (tgt := 23) (kd_m7_readHead.at 9 rfl) (by decide) ?_
        exact K 6
    · refine ok_callVB (M' := m7_found) (as := [.int x18]) (st := []) (kd_m7_readHead.at 11 rfl) kc7_63 sh_3 rfl rfl (by decide) (ok_m7_found x18 q16.2) (by decide) rfl (Nat.le_of_ble_eq_true rfl) (fun q19 hq19 => ?_)
      exact ok_zreturn (x := q19.1) (kd_m7_readHead.at 12 rfl) rfl
def f_m5_isHeard_d_L2   (k30 : kSt → Option (Bool × kSt)) (k38 : kSt → Option (Bool × kSt)) (c1 : Int32) (c2 : Int32) : Nat → Int32 → kSt → Option (Bool × kSt)
  | 0, _, _ => none
  | n + 1, v3, S =>
    if (S.1 2 6) ≤ v3 then
      k38  S
    else
      kgi v3 8 (
        knx (fun  (S2 : kSt) =>
          knx (v3 + 1) fun x3 =>
          f_m5_isHeard_d_L2 k30 k38 c1 c2 n x3 S2
          ) fun j32 =>
        if (S.1 35 v3.toNatClampNeg) = c1 then
          kgi v3 8 (
            if (S.1 36 v3.toNatClampNeg) = c2 then
              k30  S
            else
              j32  S
          )
        else
          j32  S
      )
theorem ok_m5_isHeard_d_L2 {l : Launch} {G : kG} {E : kE}    (c1 : Int32) (c2 : Int32) (k30 : kSt → Option (Bool × kSt)) (k38 : kSt → Option (Bool × kSt)) (hk30 : ∀  (S : kSt), kOk l G E (kZ G E kjB) m5_isHeard 1 (k30  S) 30 [] [] S) (hk38 : ∀  (S : kSt), kOk l G E (kZ G E kjB) m5_isHeard 1 (k38  S) 38 [] [] S) : ∀ (n : Nat) (v3 : Int32) (S : kSt), kOk l G E (kZ G E kjB) m5_isHeard 1 (f_m5_isHeard_d_L2 k30 k38 c1 c2 n v3 S) 2 [(0, .ref 2), (1, .int c1), (2, .int c2), (3, .int v3)] [] S := by
  intro n
  induction n with
  | zero => intro v3 S; exact ok_none
  | succ n ih =>
    intro v3 S
    rw [f_m5_isHeard_d_L2]
    refine ok_iload_n 3 (kd_m5_isHeard.at 2 rfl) rfl rfl ?_
    refine ok_aload_n 0 (kd_m5_isHeard.at 3 rfl) rfl rfl ?_
    refine ok_getI (kd_m5_isHeard.at 4 rfl) kf5_61 sh_2 rfl ?_
    refine ok_icmp_ge (tgt := 38) (kd_m5_isHeard.at 5 rfl) (by decide) (fun h1 => ?_) (fun h1 => ?_)
    · refine ok_sub (lv' := []) [] rfl ?_
      exact hk38  S
    · refine ok_aload_n 0 (kd_m5_isHeard.at 6 rfl) rfl rfl ?_
      refine ok_getR (kd_m5_isHeard.at 7 rfl) kf5_33 sh_2 rfl (kr_2_14 _) ?_
      refine ok_iload_n 3 (kd_m5_isHeard.at 8 rfl) rfl rfl ?_
      refine ok_iald (kd_m5_isHeard.at 9 rfl) sh_35 ?_
      refine ok_iload_n 1 (kd_m5_isHeard.at 10 rfl) rfl rfl ?_
      refine ok_nx (fun j32 hj32 => ?_)
      have K32 : ∀  (S2 : kSt), kOk l G E (kZ G E kjB) m5_isHeard 1 (j32  S2) 32 [(0, .ref 2), (1, .int c1), (2, .int c2), (3, .int v3)] [] S2 := by
        subst hj32
        intro  S2
        refine ok_nx (fun x3 hx3 => ?_)
        refine ok_iinc (v := x3) (lv' := [(3, .int x3), (0, .ref 2), (1, .int c1), (2, .int c2)]) 3 (kd_m5_isHeard.at 20 rfl) rfl hx3.symm (by decide) rfl ?_
        refine ok_goto (tgt := 2) (kd_m5_isHeard.at 21 rfl) (by decide) ?_
        refine ok_sub (lv' := [(0, .ref 2), (1, .int c1), (2, .int c2), (3, .int x3)]) [1, 2, 3, 0] rfl ?_
        exact ih x3 S2
      clear hj32
      refine ok_icmp_ne (tgt := 32) (kd_m5_isHeard.at 11 rfl) (by decide) (fun h4 => ?_) (fun h4 => ?_)
      · exact K32  S
      · refine ok_aload_n 0 (kd_m5_isHeard.at 12 rfl) rfl rfl ?_
        refine ok_getR (kd_m5_isHeard.at 13 rfl) kf5_36 sh_2 rfl (kr_2_15 _) ?_
        refine ok_iload_n 3 (kd_m5_isHeard.at 14 rfl) rfl rfl ?_
        refine ok_iald (kd_m5_isHeard.at 15 rfl) sh_36 ?_
        refine ok_iload_n 2 (kd_m5_isHeard.at 16 rfl) rfl rfl ?_
        refine ok_icmp_ne (tgt := 32) (kd_m5_isHeard.at 17 rfl) (by decide) (fun h5 => ?_) (fun h5 => ?_)
        · exact K32  S
        · refine ok_sub (lv' := []) [] rfl ?_
          exact hk30  S
def f_m5_isHeard_d (a1 : Int32) (a2 : Int32) (S : kSt) : Option (Bool × kSt) :=
  f_m5_isHeard_d_L2 
    (fun  (S6 : kSt) =>
      some (true, S6)
    )
    (fun  (S7 : kSt) =>
      some (false, S7)
    )
    a1 a2 kFU 0 S
theorem ok_m5_isHeard_d {l : Launch} {G : kG} {E : kE} (a1 : Int32) (a2 : Int32)  (S : kSt) : kFn l G E E kjB m5_isHeard 1 [.ref 2, .int a1, .int a2] S (f_m5_isHeard_d a1 a2 S) := by
  unfold f_m5_isHeard_d
  refine kFn_of (by decide +kernel) (Nat.le_of_ble_eq_true rfl) ?_
  show kOk _ _ _ _ _ _ _ _ [(0, .ref 2), (1, .int a1), (2, .int a2)] _ _
  refine ok_iconst (v := 0) (kd_m5_isHeard.at 0 rfl) (by decide) ?_
  refine ok_istore_n (lv' := [(3, .int 0), (0, .ref 2), (1, .int a1), (2, .int a2)]) (kd_m5_isHeard.at 1 rfl) rfl (by decide) rfl ?_
  refine ok_sub (lv' := [(0, .ref 2), (1, .int a1), (2, .int a2), (3, .int 0)]) [1, 2, 3, 0] rfl ?_
  refine ok_m5_isHeard_d_L2 a1 a2 _ _ (fun S6 => ?_) (fun S7 => ?_) kFU 0 S
  · refine ok_iconst (v := 1) (kd_m5_isHeard.at 18 rfl) (by decide) ?_
    exact ok_zreturn (x := true) (kd_m5_isHeard.at 19 rfl) rfl
  · refine ok_iconst (v := 0) (kd_m5_isHeard.at 22 rfl) (by decide) ?_
    exact ok_zreturn (x := false) (kd_m5_isHeard.at 23 rfl) rfl
def f_m7_readHeard  (S : kSt) : Option (Bool × kSt) :=
  knx (S.1 2 6) fun x1 =>
  if x1 < 8 then
    (f_m7_next  S).bind fun q3 =>
    (f_m7_seenPair  q3).bind fun q4 =>
    if 0 ≤ q4.1 then
      (f_m7_next  q4.2).bind fun q6 =>
      (f_m7_takeWord 15 q6).bind fun q7 =>
      if q7.1 then
        (f_m7_seesWhole 1 30 q7.2).bind fun q9 =>
        if q9.1 then
          (f_m5_isHeard_d q4.1 (q9.2.1 3 5) q9.2).bind fun q11 =>
          if q11.1 then
            (f_m7_found 3 q11.2).bind fun q23 =>
            some (q23.1, q23.2)
          else
            kgi x1 8 (
              knx (kuI q11.2 35 x1.toNatClampNeg q4.1) fun S13 =>
              kgi x1 8 (
                knx (kuI S13 36 x1.toNatClampNeg (S13.1 3 5)) fun S14 =>
                (f_m7_next  S14).bind fun q15 =>
                (f_m7_takeWord 12 q15).bind fun q16 =>
                if q16.1 then
                  (f_m7_seesWhole 0 (q16.2.1 2 0) q16.2).bind fun q18 =>
                  if q18.1 then
                    kgi x1 8 (
                      knx (kuI q18.2 37 x1.toNatClampNeg (q18.2.1 3 5)) fun S20 =>
                      knx (kuI S20 2 6 ((S20.1 2 6) + 1)) fun S21 =>
                      (f_m7_next  S21).bind fun q22 =>
                      some (true, q22)
                    )
                  else
                    some (false, q18.2)
                else
                  some (false, q16.2)
              )
            )
        else
          some (false, q9.2)
      else
        some (false, q7.2)
    else
      some (false, q4.2)
  else
    (f_m7_found 5 S).bind fun q24 =>
    some (q24.1, q24.2)
theorem ok_m7_readHeard {l : Launch} {G : kG} {ad : Nat → Nat}   (S : kSt) : kFn l G (ad, 2) (ad, 2) kjB m7_readHeard 9 [.ref 3] S (f_m7_readHeard  S) := by
  unfold f_m7_readHeard
  refine kFn_of (by decide +kernel) (Nat.le_of_ble_eq_true rfl) ?_
  show kOk _ _ _ _ _ _ _ _ [(0, .ref 3)] _ _
  refine ok_aload_n 0 (kd_m7_readHeard.at 0 rfl) rfl rfl ?_
  refine ok_getR (kd_m7_readHeard.at 1 rfl) kf7_22 sh_3 rfl (kr_3_6 _) ?_
  refine ok_getI (kd_m7_readHeard.at 2 rfl) kf7_207 sh_2 rfl ?_
  refine ok_topi (fun x1 hx1 => ?_)
  refine ok_istore_n (lv' := [(1, .int x1), (0, .ref 3)]) (kd_m7_readHeard.at 3 rfl) rfl (by decide) rfl ?_
  refine ok_iload_n 0 (kd_m7_readHeard.at 4 rfl) rfl rfl ?_
  refine ok_bipush (v := 8) (kd_m7_readHeard.at 5 rfl) (by decide) ?_
  refine ok_icmp_lt (tgt := 20) (kd_m7_readHeard.at 6 rfl) (by decide) (fun h2 => ?_) (fun h2 => ?_)
  · refine ok_aload_n 1 (kd_m7_readHeard.at 11 rfl) rfl rfl ?_
    refine ok_callVV (M' := m7_next) (as := []) (st := []) (kd_m7_readHeard.at 12 rfl) kc7_50 sh_3 rfl rfl (by decide) (ok_m7_next  S) (by decide) rfl (Nat.le_of_ble_eq_true rfl) (fun q3 hq3 => ?_)
    refine ok_aload_n 1 (kd_m7_readHeard.at 13 rfl) rfl rfl ?_
    refine ok_callVI (M' := m7_seenPair) (as := []) (st := []) (kd_m7_readHeard.at 14 rfl) kc7_178 sh_3 rfl rfl (by decide) (ok_m7_seenPair  q3) (by decide) rfl (Nat.le_of_ble_eq_true rfl) (fun q4 hq4 => ?_)
    refine ok_istore_n (lv' := [(2, .int q4.1), (1, .int x1), (0, .ref 3)]) (kd_m7_readHeard.at 15 rfl) rfl (by decide) rfl ?_
    refine ok_iload_n 0 (kd_m7_readHeard.at 16 rfl) rfl rfl ?_
    refine ok_if_ge (tgt := 35) (kd_m7_readHeard.at 17 rfl) (by decide) (fun h5 => ?_) (fun h5 => ?_)
    · refine ok_aload_n 2 (kd_m7_readHeard.at 20 rfl) rfl rfl ?_
      refine ok_callVV (M' := m7_next) (as := []) (st := []) (kd_m7_readHeard.at 21 rfl) kc7_50 sh_3 rfl rfl (by decide) (ok_m7_next  q4.2) (by decide) rfl (Nat.le_of_ble_eq_true rfl) (fun q6 hq6 => ?_)
      refine ok_aload_n 2 (kd_m7_readHeard.at 22 rfl) rfl rfl ?_
      refine ok_ldcS (kd_m7_readHeard.at 23 rfl) kst_7_210 ?_
      refine ok_callVB (M' := m7_takeWord) (as := [.ref (1000 + 15)]) (st := []) (kd_m7_readHeard.at 24 rfl) kc7_135 sh_3 rfl rfl (by decide) (ok_m7_takeWord 15 (by decide) q6) (by decide) rfl (Nat.le_of_ble_eq_true rfl) (fun q7 hq7 => ?_)
      refine ok_ifb_eq (tgt := 58) (kd_m7_readHeard.at 25 rfl) (by decide) (fun h8 => ?_) (fun h8 => ?_)
      · refine ok_iconst (v := 0) (kd_m7_readHeard.at 31 rfl) (by decide) ?_
        exact ok_zreturn (x := false) (kd_m7_readHeard.at 32 rfl) rfl
      · refine ok_aload_n 2 (kd_m7_readHeard.at 26 rfl) rfl rfl ?_
        refine ok_iconst (v := 1) (kd_m7_readHeard.at 27 rfl) (by decide) ?_
        refine ok_bipush (v := 30) (kd_m7_readHeard.at 28 rfl) (by decide) ?_
        refine ok_callVB (M' := m7_seesWhole) (as := [.int 1, .int 30]) (st := []) (kd_m7_readHeard.at 29 rfl) kc7_138 sh_3 rfl rfl (by decide) (ok_m7_seesWhole 1 30 q7.2) (by decide) rfl (Nat.le_of_ble_eq_true rfl) (fun q9 hq9 => ?_)
        refine ok_ifb_ne (tgt := 60) (kd_m7_readHeard.at 30 rfl) (by decide) (fun h10 => ?_) (fun h10 => ?_)
        · refine ok_aload_n 2 (kd_m7_readHeard.at 33 rfl) rfl rfl ?_
          refine ok_getR (kd_m7_readHeard.at 34 rfl) kf7_22 sh_3 rfl (kr_3_6 _) ?_
          refine ok_iload_n 0 (kd_m7_readHeard.at 35 rfl) rfl rfl ?_
          refine ok_aload_n 2 (kd_m7_readHeard.at 36 rfl) rfl rfl ?_
          refine ok_getI (kd_m7_readHeard.at 37 rfl) kf7_85 sh_3 rfl ?_
          refine ok_callVB (M' := m5_isHeard) (as := [.int q4.1, .int (q9.2.1 3 5)]) (st := []) (kd_m7_readHeard.at 38 rfl) kc7_212 sh_2 rfl rfl (by decide) (ok_m5_isHeard_d q4.1 (q9.2.1 3 5) q9.2) (by decide) rfl (Nat.le_of_ble_eq_true rfl) (fun q11 hq11 => ?_)
          refine ok_ifb_eq (tgt := 81) (kd_m7_readHeard.at 39 rfl) (by decide) (fun h12 => ?_) (fun h12 => ?_)
          · refine ok_aload_n 2 (kd_m7_readHeard.at 44 rfl) rfl rfl ?_
            refine ok_getR (kd_m7_readHeard.at 45 rfl) kf7_22 sh_3 rfl (kr_3_6 _) ?_
            refine ok_getR (kd_m7_readHeard.at 46 rfl) kf7_215 sh_2 rfl (kr_2_14 _) ?_
            refine ok_iload_n 1 (kd_m7_readHeard.at 47 rfl) rfl rfl ?_
            refine ok_iload_n 0 (kd_m7_readHeard.at 48 rfl) rfl rfl ?_
            refine ok_iast (kd_m7_readHeard.at 49 rfl) sh_35 ?_
            refine ok_nS (fun S13 hS13 => ?_)
            refine ok_aload_n 2 (kd_m7_readHeard.at 50 rfl) rfl rfl ?_
            refine ok_getR (kd_m7_readHeard.at 51 rfl) kf7_22 sh_3 rfl (kr_3_6 _) ?_
            refine ok_getR (kd_m7_readHeard.at 52 rfl) kf7_218 sh_2 rfl (kr_2_15 _) ?_
            refine ok_iload_n 1 (kd_m7_readHeard.at 53 rfl) rfl rfl ?_
            refine ok_aload_n 2 (kd_m7_readHeard.at 54 rfl) rfl rfl ?_
            refine ok_getI (kd_m7_readHeard.at 55 rfl) kf7_85 sh_3 rfl ?_
            refine ok_iast (kd_m7_readHeard.at 56 rfl) sh_36 ?_
            refine ok_nS (fun S14 hS14 => ?_)
            refine ok_aload_n 2 (kd_m7_readHeard.at 57 rfl) rfl rfl ?_
            refine ok_callVV (M' := m7_next) (as := []) (st := []) (kd_m7_readHeard.at 58 rfl) kc7_50 sh_3 rfl rfl (by decide) (ok_m7_next  S14) (by decide) rfl (Nat.le_of_ble_eq_true rfl) (fun q15 hq15 => ?_)
            refine ok_aload_n 2 (kd_m7_readHeard.at 59 rfl) rfl rfl ?_
            refine ok_ldcS (kd_m7_readHeard.at 60 rfl) kst_7_168 ?_
            refine ok_callVB (M' := m7_takeWord) (as := [.ref (1000 + 12)]) (st := []) (kd_m7_readHeard.at 61 rfl) kc7_135 sh_3 rfl rfl (by decide) (ok_m7_takeWord 12 (by decide) q15) (by decide) rfl (Nat.le_of_ble_eq_true rfl) (fun q16 hq16 => ?_)
            refine ok_ifb_eq (tgt := 132) (kd_m7_readHeard.at 62 rfl) (by decide) (fun h17 => ?_) (fun h17 => ?_)
            · refine ok_iconst (v := 0) (kd_m7_readHeard.at 70 rfl) (by decide) ?_
              exact ok_zreturn (x := false) (kd_m7_readHeard.at 71 rfl) rfl
            · refine ok_aload_n 2 (kd_m7_readHeard.at 63 rfl) rfl rfl ?_
              refine ok_iconst (v := 0) (kd_m7_readHeard.at 64 rfl) (by decide) ?_
              refine ok_aload_n 2 (kd_m7_readHeard.at 65 rfl) rfl rfl ?_
              refine ok_getR (kd_m7_readHeard.at 66 rfl) kf7_22 sh_3 rfl (kr_3_6 _) ?_
              refine ok_getI (kd_m7_readHeard.at 67 rfl) kf7_141 sh_2 rfl ?_
              refine ok_callVB (M' := m7_seesWhole) (as := [.int 0, .int (q16.2.1 2 0)]) (st := []) (kd_m7_readHeard.at 68 rfl) kc7_138 sh_3 rfl rfl (by decide) (ok_m7_seesWhole 0 (q16.2.1 2 0) q16.2) (by decide) rfl (Nat.le_of_ble_eq_true rfl) (fun q18 hq18 => ?_)
              refine ok_ifb_ne (tgt := 134) (kd_m7_readHeard.at 69 rfl) (by decide) (fun h19 => ?_) (fun h19 => ?_)
              · refine ok_aload_n 2 (kd_m7_readHeard.at 72 rfl) rfl rfl ?_
                refine ok_getR (kd_m7_readHeard.at 73 rfl) kf7_22 sh_3 rfl (kr_3_6 _) ?_
                refine ok_getR (kd_m7_readHeard.at 74 rfl) kf7_221 sh_2 rfl (kr_2_16 _) ?_
                refine ok_iload_n 1 (kd_m7_readHeard.at 75 rfl) rfl rfl ?_
                refine ok_aload_n 2 (kd_m7_readHeard.at 76 rfl) rfl rfl ?_
                refine ok_getI (kd_m7_readHeard.at 77 rfl) kf7_85 sh_3 rfl ?_
                refine ok_iast (kd_m7_readHeard.at 78 rfl) sh_37 ?_
                refine ok_nS (fun S20 hS20 => ?_)
                refine ok_aload_n 2 (kd_m7_readHeard.at 79 rfl) rfl rfl ?_
                refine ok_getR (kd_m7_readHeard.at 80 rfl) kf7_22 sh_3 rfl (kr_3_6 _) ?_
                refine ok_dup (kd_m7_readHeard.at 81 rfl) rfl ?_
                refine ok_getI (kd_m7_readHeard.at 82 rfl) kf7_207 sh_2 rfl ?_
                refine ok_iconst (v := 1) (kd_m7_readHeard.at 83 rfl) (by decide) ?_
                refine ok_iadd (kd_m7_readHeard.at 84 rfl) ?_
                refine ok_putI (kd_m7_readHeard.at 85 rfl) kf7_207 sh_2 rfl rfl ?_
                refine ok_nS (fun S21 hS21 => ?_)
                refine ok_aload_n 2 (kd_m7_readHeard.at 86 rfl) rfl rfl ?_
                refine ok_callVV (M' := m7_next) (as := []) (st := []) (kd_m7_readHeard.at 87 rfl) kc7_50 sh_3 rfl rfl (by decide) (ok_m7_next  S21) (by decide) rfl (Nat.le_of_ble_eq_true rfl) (fun q22 hq22 => ?_)
                refine ok_iconst (v := 1) (kd_m7_readHeard.at 88 rfl) (by decide) ?_
                exact ok_zreturn (x := true) (kd_m7_readHeard.at 89 rfl) rfl
              · refine ok_iconst (v := 0) (kd_m7_readHeard.at 70 rfl) (by decide) ?_
                exact ok_zreturn (x := false) (kd_m7_readHeard.at 71 rfl) rfl
          · refine ok_aload_n 2 (kd_m7_readHeard.at 40 rfl) rfl rfl ?_
            refine ok_iconst (v := 3) (kd_m7_readHeard.at 41 rfl) (by decide) ?_
            refine ok_callVB (M' := m7_found) (as := [.int 3]) (st := []) (kd_m7_readHeard.at 42 rfl) kc7_63 sh_3 rfl rfl (by decide) (ok_m7_found 3 q11.2) (by decide) rfl (Nat.le_of_ble_eq_true rfl) (fun q23 hq23 => ?_)
            exact ok_zreturn (x := q23.1) (kd_m7_readHeard.at 43 rfl) rfl
        · refine ok_iconst (v := 0) (kd_m7_readHeard.at 31 rfl) (by decide) ?_
          exact ok_zreturn (x := false) (kd_m7_readHeard.at 32 rfl) rfl
    · refine ok_iconst (v := 0) (kd_m7_readHeard.at 18 rfl) (by decide) ?_
      exact ok_zreturn (x := false) (kd_m7_readHeard.at 19 rfl) rfl
  · refine ok_aload_n 1 (kd_m7_readHeard.at 7 rfl) rfl rfl ?_
    refine ok_iconst (v := 5) (kd_m7_readHeard.at 8 rfl) (by decide) ?_
    refine ok_callVB (M' := m7_found) (as := [.int 5]) (st := []) (kd_m7_readHeard.at 9 rfl) kc7_63 sh_3 rfl rfl (by decide) (ok_m7_found 5 S) (by decide) rfl (Nat.le_of_ble_eq_true rfl) (fun q24 hq24 => ?_)
    exact ok_zreturn (x := q24.1) (kd_m7_readHeard.at 10 rfl) rfl
def f_m5_isUnsure_d_L2   (k20 : kSt → Option (Bool × kSt)) (k28 : kSt → Option (Bool × kSt)) (c1 : Int32) : Nat → Int32 → kSt → Option (Bool × kSt)
  | 0, _, _ => none
  | n + 1, v2, S =>
    if (S.1 2 5) ≤ v2 then
      k28  S
    else
      kgi v2 4 (
        if (S.1 33 v2.toNatClampNeg) = c1 then
          k20  S
        else
          knx (v2 + 1) fun x3 =>
          f_m5_isUnsure_d_L2 k20 k28 c1 n x3 S
      )
theorem ok_m5_isUnsure_d_L2 {l : Launch} {G : kG} {E : kE}    (c1 : Int32) (k20 : kSt → Option (Bool × kSt)) (k28 : kSt → Option (Bool × kSt)) (hk20 : ∀  (S : kSt), kOk l G E (kZ G E kjB) m5_isUnsure 1 (k20  S) 20 [] [] S) (hk28 : ∀  (S : kSt), kOk l G E (kZ G E kjB) m5_isUnsure 1 (k28  S) 28 [] [] S) : ∀ (n : Nat) (v2 : Int32) (S : kSt), kOk l G E (kZ G E kjB) m5_isUnsure 1 (f_m5_isUnsure_d_L2 k20 k28 c1 n v2 S) 2 [(0, .ref 2), (1, .int c1), (2, .int v2)] [] S := by
  intro n
  induction n with
  | zero => intro v2 S; exact ok_none
  | succ n ih =>
    intro v2 S
    rw [f_m5_isUnsure_d_L2]
    refine ok_iload_n 2 (kd_m5_isUnsure.at 2 rfl) rfl rfl ?_
    refine ok_aload_n 0 (kd_m5_isUnsure.at 3 rfl) rfl rfl ?_
    refine ok_getI (kd_m5_isUnsure.at 4 rfl) kf5_58 sh_2 rfl ?_
    refine ok_icmp_ge (tgt := 28) (kd_m5_isUnsure.at 5 rfl) (by decide) (fun h1 => ?_) (fun h1 => ?_)
    · refine ok_sub (lv' := []) [] rfl ?_
      exact hk28  S
    · refine ok_aload_n 0 (kd_m5_isUnsure.at 6 rfl) rfl rfl ?_
      refine ok_getR (kd_m5_isUnsure.at 7 rfl) kf5_27 sh_2 rfl (kr_2_12 _) ?_
      refine ok_iload_n 2 (kd_m5_isUnsure.at 8 rfl) rfl rfl ?_
      refine ok_iald (kd_m5_isUnsure.at 9 rfl) sh_33 ?_
      refine ok_iload_n 1 (kd_m5_isUnsure.at 10 rfl) rfl rfl ?_
      refine ok_icmp_ne (tgt := 22) (kd_m5_isUnsure.at 11 rfl) (by decide) (fun h2 => ?_) (fun h2 => ?_)
      · refine ok_nx (fun x3 hx3 => ?_)
        refine ok_iinc (v := x3) (lv' := [(2, .int x3), (0, .ref 2), (1, .int c1)]) 2 (kd_m5_isUnsure.at 14 rfl) rfl hx3.symm (by decide) rfl ?_
        refine ok_goto (tgt := 2) (kd_m5_isUnsure.at 15 rfl) (by decide) ?_
        refine ok_sub (lv' := [(0, .ref 2), (1, .int c1), (2, .int x3)]) [1, 2, 0] rfl ?_
        exact ih x3 S
      · refine ok_sub (lv' := []) [] rfl ?_
        exact hk20  S
def f_m5_isUnsure_d (a1 : Int32) (S : kSt) : Option (Bool × kSt) :=
  f_m5_isUnsure_d_L2 
    (fun  (S4 : kSt) =>
      some (true, S4)
    )
    (fun  (S5 : kSt) =>
      some (false, S5)
    )
    a1 kFU 0 S
theorem ok_m5_isUnsure_d {l : Launch} {G : kG} {E : kE} (a1 : Int32)  (S : kSt) : kFn l G E E kjB m5_isUnsure 1 [.ref 2, .int a1] S (f_m5_isUnsure_d a1 S) := by
  unfold f_m5_isUnsure_d
  refine kFn_of (by decide +kernel) (Nat.le_of_ble_eq_true rfl) ?_
  show kOk _ _ _ _ _ _ _ _ [(0, .ref 2), (1, .int a1)] _ _
  refine ok_iconst (v := 0) (kd_m5_isUnsure.at 0 rfl) (by decide) ?_
  refine ok_istore_n (lv' := [(2, .int 0), (0, .ref 2), (1, .int a1)]) (kd_m5_isUnsure.at 1 rfl) rfl (by decide) rfl ?_
  refine ok_sub (lv' := [(0, .ref 2), (1, .int a1), (2, .int 0)]) [1, 2, 0] rfl ?_
  refine ok_m5_isUnsure_d_L2 a1 _ _ (fun S4 => ?_) (fun S5 => ?_) kFU 0 S
  · refine ok_iconst (v := 1) (kd_m5_isUnsure.at 12 rfl) (by decide) ?_
    exact ok_zreturn (x := true) (kd_m5_isUnsure.at 13 rfl) rfl
  · refine ok_iconst (v := 0) (kd_m5_isUnsure.at 16 rfl) (by decide) ?_
    exact ok_zreturn (x := false) (kd_m5_isUnsure.at 17 rfl) rfl
def f_m7_readUnsure  (S : kSt) : Option (Bool × kSt) :=
  knx (S.1 2 5) fun x1 =>
  if x1 < 4 then
    (f_m7_next  S).bind fun q3 =>
    (f_m7_seenPair  q3).bind fun q4 =>
    if 0 ≤ q4.1 then
      (f_m5_isUnsure_d q4.1 q4.2).bind fun q6 =>
      if q6.1 then
        (f_m7_found 3 q6.2).bind fun q15 =>
        some (q15.1, q15.2)
      else
        (f_m7_next  q6.2).bind fun q8 =>
        (f_m7_seesWhole 0 20 q8).bind fun q9 =>
        if q9.1 then
          kgi x1 4 (
            knx (kuI q9.2 33 x1.toNatClampNeg q4.1) fun S11 =>
            kgi x1 4 (
              knx (kuI S11 34 x1.toNatClampNeg (S11.1 3 5)) fun S12 =>
              knx (kuI S12 2 5 ((S12.1 2 5) + 1)) fun S13 =>
              (f_m7_next  S13).bind fun q14 =>
              some (true, q14)
            )
          )
        else
          some (false, q9.2)
    else
      some (false, q4.2)
  else
    (f_m7_found 5 S).bind fun q16 =>
    some (q16.1, q16.2)
theorem ok_m7_readUnsure {l : Launch} {G : kG} {ad : Nat → Nat}   (S : kSt) : kFn l G (ad, 2) (ad, 2) kjB m7_readUnsure 9 [.ref 3] S (f_m7_readUnsure  S) := by
  unfold f_m7_readUnsure
  refine kFn_of (by decide +kernel) (Nat.le_of_ble_eq_true rfl) ?_
  show kOk _ _ _ _ _ _ _ _ [(0, .ref 3)] _ _
  refine ok_aload_n 0 (kd_m7_readUnsure.at 0 rfl) rfl rfl ?_
  refine ok_getR (kd_m7_readUnsure.at 1 rfl) kf7_22 sh_3 rfl (kr_3_6 _) ?_
  refine ok_getI (kd_m7_readUnsure.at 2 rfl) kf7_195 sh_2 rfl ?_
  refine ok_topi (fun x1 hx1 => ?_)
  refine ok_istore_n (lv' := [(1, .int x1), (0, .ref 3)]) (kd_m7_readUnsure.at 3 rfl) rfl (by decide) rfl ?_
  refine ok_iload_n 0 (kd_m7_readUnsure.at 4 rfl) rfl rfl ?_
  refine ok_iconst (v := 4) (kd_m7_readUnsure.at 5 rfl) (by decide) ?_
  refine ok_icmp_lt (tgt := 19) (kd_m7_readUnsure.at 6 rfl) (by decide) (fun h2 => ?_) (fun h2 => ?_)
  · refine ok_aload_n 1 (kd_m7_readUnsure.at 11 rfl) rfl rfl ?_
    refine ok_callVV (M' := m7_next) (as := []) (st := []) (kd_m7_readUnsure.at 12 rfl) kc7_50 sh_3 rfl rfl (by decide) (ok_m7_next  S) (by decide) rfl (Nat.le_of_ble_eq_true rfl) (fun q3 hq3 => ?_)
    refine ok_aload_n 1 (kd_m7_readUnsure.at 13 rfl) rfl rfl ?_
    refine ok_callVI (M' := m7_seenPair) (as := []) (st := []) (kd_m7_readUnsure.at 14 rfl) kc7_178 sh_3 rfl rfl (by decide) (ok_m7_seenPair  q3) (by decide) rfl (Nat.le_of_ble_eq_true rfl) (fun q4 hq4 => ?_)
    refine ok_istore_n (lv' := [(2, .int q4.1), (1, .int x1), (0, .ref 3)]) (kd_m7_readUnsure.at 15 rfl) rfl (by decide) rfl ?_
    refine ok_iload_n 0 (kd_m7_readUnsure.at 16 rfl) rfl rfl ?_
    refine ok_if_ge (tgt := 34) (kd_m7_readUnsure.at 17 rfl) (by decide) (fun h5 => ?_) (fun h5 => ?_)
    · refine ok_aload_n 2 (kd_m7_readUnsure.at 20 rfl) rfl rfl ?_
      refine ok_getR (kd_m7_readUnsure.at 21 rfl) kf7_22 sh_3 rfl (kr_3_6 _) ?_
      refine ok_iload_n 0 (kd_m7_readUnsure.at 22 rfl) rfl rfl ?_
      refine ok_callVB (M' := m5_isUnsure) (as := [.int q4.1]) (st := []) (kd_m7_readUnsure.at 23 rfl) kc7_198 sh_2 rfl rfl (by decide) (ok_m5_isUnsure_d q4.1 q4.2) (by decide) rfl (Nat.le_of_ble_eq_true rfl) (fun q6 hq6 => ?_)
      refine ok_ifb_eq (tgt := 51) (kd_m7_readUnsure.at 24 rfl) (by decide) (fun h7 => ?_) (fun h7 => ?_)
      · refine ok_aload_n 2 (kd_m7_readUnsure.at 29 rfl) rfl rfl ?_
        refine ok_callVV (M' := m7_next) (as := []) (st := []) (kd_m7_readUnsure.at 30 rfl) kc7_50 sh_3 rfl rfl (by decide) (ok_m7_next  q6.2) (by decide) rfl (Nat.le_of_ble_eq_true rfl) (fun q8 hq8 => ?_)
        refine ok_aload_n 2 (kd_m7_readUnsure.at 31 rfl) rfl rfl ?_
        refine ok_iconst (v := 0) (kd_m7_readUnsure.at 32 rfl) (by decide) ?_
        refine ok_bipush (v := 20) (kd_m7_readUnsure.at 33 rfl) (by decide) ?_
        refine ok_callVB (M' := m7_seesWhole) (as := [.int 0, .int 20]) (st := []) (kd_m7_readUnsure.at 34 rfl) kc7_138 sh_3 rfl rfl (by decide) (ok_m7_seesWhole 0 20 q8) (by decide) rfl (Nat.le_of_ble_eq_true rfl) (fun q9 hq9 => ?_)
        refine ok_ifb_ne (tgt := 67) (kd_m7_readUnsure.at 35 rfl) (by decide) (fun h10 => ?_) (fun h10 => ?_)
        · refine ok_aload_n 2 (kd_m7_readUnsure.at 38 rfl) rfl rfl ?_
          refine ok_getR (kd_m7_readUnsure.at 39 rfl) kf7_22 sh_3 rfl (kr_3_6 _) ?_
          refine ok_getR (kd_m7_readUnsure.at 40 rfl) kf7_201 sh_2 rfl (kr_2_12 _) ?_
          refine ok_iload_n 1 (kd_m7_readUnsure.at 41 rfl) rfl rfl ?_
          refine ok_iload_n 0 (kd_m7_readUnsure.at 42 rfl) rfl rfl ?_
          refine ok_iast (kd_m7_readUnsure.at 43 rfl) sh_33 ?_
          refine ok_nS (fun S11 hS11 => ?_)
          refine ok_aload_n 2 (kd_m7_readUnsure.at 44 rfl) rfl rfl ?_
          refine ok_getR (kd_m7_readUnsure.at 45 rfl) kf7_22 sh_3 rfl (kr_3_6 _) ?_
          refine ok_getR (kd_m7_readUnsure.at 46 rfl) kf7_204 sh_2 rfl (kr_2_13 _) ?_
          refine ok_iload_n 1 (kd_m7_readUnsure.at 47 rfl) rfl rfl ?_
          refine ok_aload_n 2 (kd_m7_readUnsure.at 48 rfl) rfl rfl ?_
          refine ok_getI (kd_m7_readUnsure.at 49 rfl) kf7_85 sh_3 rfl ?_
          refine ok_iast (kd_m7_readUnsure.at 50 rfl) sh_34 ?_
          refine ok_nS (fun S12 hS12 => ?_)
          refine ok_aload_n 2 (kd_m7_readUnsure.at 51 rfl) rfl rfl ?_
          refine ok_getR (kd_m7_readUnsure.at 52 rfl) kf7_22 sh_3 rfl (kr_3_6 _) ?_
          refine ok_dup (kd_m7_readUnsure.at 53 rfl) rfl ?_
          refine ok_getI (kd_m7_readUnsure.at 54 rfl) kf7_195 sh_2 rfl ?_
          refine ok_iconst (v := 1) (kd_m7_readUnsure.at 55 rfl) (by decide) ?_
          refine ok_iadd (kd_m7_readUnsure.at 56 rfl) ?_
          refine ok_putI (kd_m7_readUnsure.at 57 rfl) kf7_195 sh_2 rfl rfl ?_
          refine ok_nS (fun S13 hS13 => ?_)
          refine ok_aload_n 2 (kd_m7_readUnsure.at 58 rfl) rfl rfl ?_
          refine ok_callVV (M' := m7_next) (as := []) (st := []) (kd_m7_readUnsure.at 59 rfl) kc7_50 sh_3 rfl rfl (by decide) (ok_m7_next  S13) (by decide) rfl (Nat.le_of_ble_eq_true rfl) (fun q14 hq14 => ?_)
          refine ok_iconst (v := 1) (kd_m7_readUnsure.at 60 rfl) (by decide) ?_
          exact ok_zreturn (x := true) (kd_m7_readUnsure.at 61 rfl) rfl
        · refine ok_iconst (v := 0) (kd_m7_readUnsure.at 36 rfl) (by decide) ?_
          exact ok_zreturn (x := false) (kd_m7_readUnsure.at 37 rfl) rfl
      · refine ok_aload_n 2 (kd_m7_readUnsure.at 25 rfl) rfl rfl ?_
        refine ok_iconst (v := 3) (kd_m7_readUnsure.at 26 rfl) (by decide) ?_
        refine ok_callVB (M' := m7_found) (as := [.int 3]) (st := []) (kd_m7_readUnsure.at 27 rfl) kc7_63 sh_3 rfl rfl (by decide) (ok_m7_found 3 q6.2) (by decide) rfl (Nat.le_of_ble_eq_true rfl) (fun q15 hq15 => ?_)
        exact ok_zreturn (x := q15.1) (kd_m7_readUnsure.at 28 rfl) rfl
    · refine ok_iconst (v := 0) (kd_m7_readUnsure.at 18 rfl) (by decide) ?_
      exact ok_zreturn (x := false) (kd_m7_readUnsure.at 19 rfl) rfl
  · refine ok_aload_n 1 (kd_m7_readUnsure.at 7 rfl) rfl rfl ?_
    refine ok_iconst (v := 5) (kd_m7_readUnsure.at 8 rfl) (by decide) ?_
    refine ok_callVB (M' := m7_found) (as := [.int 5]) (st := []) (kd_m7_readUnsure.at 9 rfl) kc7_63 sh_3 rfl rfl (by decide) (ok_m7_found 5 S) (by decide) rfl (Nat.le_of_ble_eq_true rfl) (fun q16 hq16 => ?_)
    exact ok_zreturn (x := q16.1) (kd_m7_readUnsure.at 10 rfl) rfl
def f_m7_readDebt  (S : kSt) : Option (Bool × kSt) :=
  if (S.1 2 4) < 10 then
    (f_m7_next  S).bind fun q2 =>
    (f_m7_seenPair  q2).bind fun q3 =>
    if 0 ≤ q3.1 then
      (f_m7_next  q3.2).bind fun q5 =>
      (f_m7_seenPair  q5).bind fun q6 =>
      if 0 ≤ q6.1 then
        knx (fun  (S8 : kSt) =>
          (f_m7_found 3 S8).bind fun q9 =>
          some (q9.1, q9.2)
          ) fun j69 =>
        if q6.1 = q3.1 then
          j69  q6.2
        else
          knx ((q3.1 * 5) + q6.1) fun x11 =>
          kgi x11 25 (
            if (q6.2.1 32 x11.toNatClampNeg) = 0 then
              (f_m7_next  q6.2).bind fun q13 =>
              (f_m7_seesWhole 1 99 q13).bind fun q14 =>
              if q14.1 then
                knx ((q3.1 * 5) + q6.1) fun x17 =>
                kgi x17 25 (
                  knx (kuI q14.2 32 x17.toNatClampNeg (q14.2.1 3 5)) fun S16 =>
                  knx (kuI S16 2 4 ((S16.1 2 4) + 1)) fun S18 =>
                  (f_m7_next  S18).bind fun q19 =>
                  some (true, q19)
                )
              else
                some (false, q14.2)
            else
              j69  q6.2
          )
      else
        some (false, q6.2)
    else
      some (false, q3.2)
  else
    (f_m7_found 5 S).bind fun q20 =>
    some (q20.1, q20.2)
theorem ok_m7_readDebt {l : Launch} {G : kG} {ad : Nat → Nat}   (S : kSt) : kFn l G (ad, 2) (ad, 2) kjB m7_readDebt 9 [.ref 3] S (f_m7_readDebt  S) := by
  unfold f_m7_readDebt
  refine kFn_of (by decide +kernel) (Nat.le_of_ble_eq_true rfl) ?_
  show kOk _ _ _ _ _ _ _ _ [(0, .ref 3)] _ _
  refine ok_aload_n 0 (kd_m7_readDebt.at 0 rfl) rfl rfl ?_
  refine ok_getR (kd_m7_readDebt.at 1 rfl) kf7_22 sh_3 rfl (kr_3_6 _) ?_
  refine ok_getI (kd_m7_readDebt.at 2 rfl) kf7_189 sh_2 rfl ?_
  refine ok_bipush (v := 10) (kd_m7_readDebt.at 3 rfl) (by decide) ?_
  refine ok_icmp_lt (tgt := 18) (kd_m7_readDebt.at 4 rfl) (by decide) (fun h1 => ?_) (fun h1 => ?_)
  · refine ok_aload_n 0 (kd_m7_readDebt.at 9 rfl) rfl rfl ?_
    refine ok_callVV (M' := m7_next) (as := []) (st := []) (kd_m7_readDebt.at 10 rfl) kc7_50 sh_3 rfl rfl (by decide) (ok_m7_next  S) (by decide) rfl (Nat.le_of_ble_eq_true rfl) (fun q2 hq2 => ?_)
    refine ok_aload_n 0 (kd_m7_readDebt.at 11 rfl) rfl rfl ?_
    refine ok_callVI (M' := m7_seenPair) (as := []) (st := []) (kd_m7_readDebt.at 12 rfl) kc7_178 sh_3 rfl rfl (by decide) (ok_m7_seenPair  q2) (by decide) rfl (Nat.le_of_ble_eq_true rfl) (fun q3 hq3 => ?_)
    refine ok_istore_n (lv' := [(1, .int q3.1), (0, .ref 3)]) (kd_m7_readDebt.at 13 rfl) rfl (by decide) rfl ?_
    refine ok_iload_n 0 (kd_m7_readDebt.at 14 rfl) rfl rfl ?_
    refine ok_if_ge (tgt := 33) (kd_m7_readDebt.at 15 rfl) (by decide) (fun h4 => ?_) (fun h4 => ?_)
    · refine ok_aload_n 1 (kd_m7_readDebt.at 18 rfl) rfl rfl ?_
      refine ok_callVV (M' := m7_next) (as := []) (st := []) (kd_m7_readDebt.at 19 rfl) kc7_50 sh_3 rfl rfl (by decide) (ok_m7_next  q3.2) (by decide) rfl (Nat.le_of_ble_eq_true rfl) (fun q5 hq5 => ?_)
      refine ok_aload_n 1 (kd_m7_readDebt.at 20 rfl) rfl rfl ?_
      refine ok_callVI (M' := m7_seenPair) (as := []) (st := []) (kd_m7_readDebt.at 21 rfl) kc7_178 sh_3 rfl rfl (by decide) (ok_m7_seenPair  q5) (by decide) rfl (Nat.le_of_ble_eq_true rfl) (fun q6 hq6 => ?_)
      refine ok_istore_n (lv' := [(2, .int q6.1), (1, .int q3.1), (0, .ref 3)]) (kd_m7_readDebt.at 22 rfl) rfl (by decide) rfl ?_
      refine ok_iload_n 0 (kd_m7_readDebt.at 23 rfl) rfl rfl ?_
      refine ok_if_ge (tgt := 48) (kd_m7_readDebt.at 24 rfl) (by decide) (fun h7 => ?_) (fun h7 => ?_)
      · refine ok_iload_n 0 (kd_m7_readDebt.at 27 rfl) rfl rfl ?_
        refine ok_iload_n 1 (kd_m7_readDebt.at 28 rfl) rfl rfl ?_
        refine ok_nx (fun j69 hj69 => ?_)
        have K69 : ∀  (S8 : kSt), kOk l G (ad, 2) (kZ G (ad, 2) kjB) m7_readDebt 9 (j69  S8) 69 [(0, .ref 3)] [] S8 := by
          subst hj69
          intro  S8
          refine ok_aload_n 0 (kd_m7_readDebt.at 40 rfl) rfl rfl ?_
          refine ok_iconst (v := 3) (kd_m7_readDebt.at 41 rfl) (by decide) ?_
          refine ok_callVB (M' := m7_found) (as := [.int 3]) (st := []) (kd_m7_readDebt.at 42 rfl) kc7_63 sh_3 rfl rfl (by decide) (ok_m7_found 3 S8) (by decide) rfl (Nat.le_of_ble_eq_true rfl) (fun q9 hq9 => ?_)
          exact ok_zreturn (x := q9.1) (kd_m7_readDebt.at 43 rfl) rfl
        clear hj69
        refine ok_icmp_eq (tgt := 69) (kd_m7_readDebt.at 29 rfl) (by decide) (fun h10 => ?_) (fun h10 => ?_)
        · refine ok_sub (lv' := [(0, .ref 3)]) [2] rfl ?_
          exact K69  q6.2
        · refine ok_aload_n 2 (kd_m7_readDebt.at 30 rfl) rfl rfl ?_
          refine ok_getR (kd_m7_readDebt.at 31 rfl) kf7_22 sh_3 rfl (kr_3_6 _) ?_
          refine ok_getR (kd_m7_readDebt.at 32 rfl) kf7_192 sh_2 rfl (kr_2_11 _) ?_
          refine ok_iload_n 1 (kd_m7_readDebt.at 33 rfl) rfl rfl ?_
          refine ok_iconst (v := 5) (kd_m7_readDebt.at 34 rfl) (by decide) ?_
          refine ok_imul (kd_m7_readDebt.at 35 rfl) ?_
          refine ok_iload_n 0 (kd_m7_readDebt.at 36 rfl) rfl rfl ?_
          refine ok_iadd (kd_m7_readDebt.at 37 rfl) ?_
          refine ok_topi (fun x11 hx11 => ?_)
          refine ok_iald (kd_m7_readDebt.at 38 rfl) sh_32 ?_
          refine ok_if_eq (tgt := 75) (kd_m7_readDebt.at 39 rfl) (by decide) (fun h12 => ?_) (fun h12 => ?_)
          · refine ok_aload_n 2 (kd_m7_readDebt.at 44 rfl) rfl rfl ?_
            refine ok_callVV (M' := m7_next) (as := []) (st := []) (kd_m7_readDebt.at 45 rfl) kc7_50 sh_3 rfl rfl (by decide) (ok_m7_next  q6.2) (by decide) rfl (Nat.le_of_ble_eq_true rfl) (fun q13 hq13 => ?_)
            refine ok_aload_n 2 (kd_m7_readDebt.at 46 rfl) rfl rfl ?_
            refine ok_iconst (v := 1) (kd_m7_readDebt.at 47 rfl) (by decide) ?_
            refine ok_bipush (v := 99) (kd_m7_readDebt.at 48 rfl) (by decide) ?_
            refine ok_callVB (M' := m7_seesWhole) (as := [.int 1, .int 99]) (st := []) (kd_m7_readDebt.at 49 rfl) kc7_138 sh_3 rfl rfl (by decide) (ok_m7_seesWhole 1 99 q13) (by decide) rfl (Nat.le_of_ble_eq_true rfl) (fun q14 hq14 => ?_)
            refine ok_ifb_ne (tgt := 91) (kd_m7_readDebt.at 50 rfl) (by decide) (fun h15 => ?_) (fun h15 => ?_)
            · refine ok_aload_n 2 (kd_m7_readDebt.at 53 rfl) rfl rfl ?_
              refine ok_getR (kd_m7_readDebt.at 54 rfl) kf7_22 sh_3 rfl (kr_3_6 _) ?_
              refine ok_getR (kd_m7_readDebt.at 55 rfl) kf7_192 sh_2 rfl (kr_2_11 _) ?_
              refine ok_iload_n 1 (kd_m7_readDebt.at 56 rfl) rfl rfl ?_
              refine ok_iconst (v := 5) (kd_m7_readDebt.at 57 rfl) (by decide) ?_
              refine ok_imul (kd_m7_readDebt.at 58 rfl) ?_
              refine ok_iload_n 0 (kd_m7_readDebt.at 59 rfl) rfl rfl ?_
              refine ok_iadd (kd_m7_readDebt.at 60 rfl) ?_
              refine ok_aload_n 2 (kd_m7_readDebt.at 61 rfl) rfl rfl ?_
              refine ok_getI (kd_m7_readDebt.at 62 rfl) kf7_85 sh_3 rfl ?_
              refine ok_sndi (fun x17 hx17 => ?_)
              refine ok_iast (kd_m7_readDebt.at 63 rfl) sh_32 ?_
              refine ok_nS (fun S16 hS16 => ?_)
              refine ok_aload_n 2 (kd_m7_readDebt.at 64 rfl) rfl rfl ?_
              refine ok_getR (kd_m7_readDebt.at 65 rfl) kf7_22 sh_3 rfl (kr_3_6 _) ?_
              refine ok_dup (kd_m7_readDebt.at 66 rfl) rfl ?_
              refine ok_getI (kd_m7_readDebt.at 67 rfl) kf7_189 sh_2 rfl ?_
              refine ok_iconst (v := 1) (kd_m7_readDebt.at 68 rfl) (by decide) ?_
              refine ok_iadd (kd_m7_readDebt.at 69 rfl) ?_
              refine ok_putI (kd_m7_readDebt.at 70 rfl) kf7_189 sh_2 rfl rfl ?_
              refine ok_nS (fun S18 hS18 => ?_)
              refine ok_aload_n 2 (kd_m7_readDebt.at 71 rfl) rfl rfl ?_
              refine ok_callVV (M' := m7_next) (as := []) (st := []) (kd_m7_readDebt.at 72 rfl) kc7_50 sh_3 rfl rfl (by decide) (ok_m7_next  S18) (by decide) rfl (Nat.le_of_ble_eq_true rfl) (fun q19 hq19 => ?_)
              refine ok_iconst (v := 1) (kd_m7_readDebt.at 73 rfl) (by decide) ?_
              exact ok_zreturn (x := true) (kd_m7_readDebt.at 74 rfl) rfl
            · refine ok_iconst (v := 0) (kd_m7_readDebt.at 51 rfl) (by decide) ?_
              exact ok_zreturn (x := false) (kd_m7_readDebt.at 52 rfl) rfl
          · refine ok_sub (lv' := [(0, .ref 3)]) [2] rfl ?_
            exact K69  q6.2
      · refine ok_iconst (v := 0) (kd_m7_readDebt.at 25 rfl) (by decide) ?_
        exact ok_zreturn (x := false) (kd_m7_readDebt.at 26 rfl) rfl
    · refine ok_iconst (v := 0) (kd_m7_readDebt.at 16 rfl) (by decide) ?_
      exact ok_zreturn (x := false) (kd_m7_readDebt.at 17 rfl) rfl
  · refine ok_aload_n 0 (kd_m7_readDebt.at 5 rfl) rfl rfl ?_
    refine ok_iconst (v := 5) (kd_m7_readDebt.at 6 rfl) (by decide) ?_
    refine ok_callVB (M' := m7_found) (as := [.int 5]) (st := []) (kd_m7_readDebt.at 7 rfl) kc7_63 sh_3 rfl rfl (by decide) (ok_m7_found 5 S) (by decide) rfl (Nat.le_of_ble_eq_true rfl) (fun q20 hq20 => ?_)
    exact ok_zreturn (x := q20.1) (kd_m7_readDebt.at 8 rfl) rfl
def f_m7_readContract  (S : kSt) : Option (Bool × kSt) :=
  (f_m7_next  S).bind fun q1 =>
  (f_m7_seenPair  q1).bind fun q2 =>
  if 0 ≤ q2.1 then
    kgi q2.1 5 (
      if (q2.2.1 31 q2.1.toNatClampNeg) = 0 then
        (f_m7_next  q2.2).bind fun q5 =>
        (f_m7_takeWord 14 q5).bind fun q6 =>
        if q6.1 then
          (f_m7_seesWhole 1 9 q6.2).bind fun q8 =>
          if q8.1 then
            kgi q2.1 5 (
              knx (kuI q8.2 31 q2.1.toNatClampNeg (q8.2.1 3 5)) fun S10 =>
              knx (kuI S10 2 3 ((S10.1 2 3) + 1)) fun S11 =>
              (f_m7_next  S11).bind fun q12 =>
              some (true, q12)
            )
          else
            some (false, q8.2)
        else
          some (false, q6.2)
      else
        (f_m7_found 3 q2.2).bind fun q13 =>
        some (q13.1, q13.2)
    )
  else
    some (false, q2.2)
theorem ok_m7_readContract {l : Launch} {G : kG} {ad : Nat → Nat}   (S : kSt) : kFn l G (ad, 2) (ad, 2) kjB m7_readContract 9 [.ref 3] S (f_m7_readContract  S) := by
  unfold f_m7_readContract
  refine kFn_of (by decide +kernel) (Nat.le_of_ble_eq_true rfl) ?_
  show kOk _ _ _ _ _ _ _ _ [(0, .ref 3)] _ _
  refine ok_aload_n 0 (kd_m7_readContract.at 0 rfl) rfl rfl ?_
  refine ok_callVV (M' := m7_next) (as := []) (st := []) (kd_m7_readContract.at 1 rfl) kc7_50 sh_3 rfl rfl (by decide) (ok_m7_next  S) (by decide) rfl (Nat.le_of_ble_eq_true rfl) (fun q1 hq1 => ?_)
  refine ok_aload_n 0 (kd_m7_readContract.at 2 rfl) rfl rfl ?_
  refine ok_callVI (M' := m7_seenPair) (as := []) (st := []) (kd_m7_readContract.at 3 rfl) kc7_178 sh_3 rfl rfl (by decide) (ok_m7_seenPair  q1) (by decide) rfl (Nat.le_of_ble_eq_true rfl) (fun q2 hq2 => ?_)
  refine ok_istore_n (lv' := [(1, .int q2.1), (0, .ref 3)]) (kd_m7_readContract.at 4 rfl) rfl (by decide) rfl ?_
  refine ok_iload_n 0 (kd_m7_readContract.at 5 rfl) rfl rfl ?_
  refine ok_if_ge (tgt := 15) (kd_m7_readContract.at 6 rfl) (by decide) (fun h3 => ?_) (fun h3 => ?_)
  · refine ok_aload_n 1 (kd_m7_readContract.at 9 rfl) rfl rfl ?_
    refine ok_getR (kd_m7_readContract.at 10 rfl) kf7_22 sh_3 rfl (kr_3_6 _) ?_
    refine ok_getR (kd_m7_readContract.at 11 rfl) kf7_181 sh_2 rfl (kr_2_10 _) ?_
    refine ok_iload_n 0 (kd_m7_readContract.at 12 rfl) rfl rfl ?_
    refine ok_iald (kd_m7_readContract.at 13 rfl) sh_31 ?_
    refine ok_if_eq (tgt := 33) (kd_m7_readContract.at 14 rfl) (by decide) (fun h4 => ?_) (fun h4 => ?_)
    · refine ok_aload_n 1 (kd_m7_readContract.at 19 rfl) rfl rfl ?_
      refine ok_callVV (M' := m7_next) (as := []) (st := []) (kd_m7_readContract.at 20 rfl) kc7_50 sh_3 rfl rfl (by decide) (ok_m7_next  q2.2) (by decide) rfl (Nat.le_of_ble_eq_true rfl) (fun q5 hq5 => ?_)
      refine ok_aload_n 1 (kd_m7_readContract.at 21 rfl) rfl rfl ?_
      refine ok_ldcS (kd_m7_readContract.at 22 rfl) kst_7_184 ?_
      refine ok_callVB (M' := m7_takeWord) (as := [.ref (1000 + 14)]) (st := []) (kd_m7_readContract.at 23 rfl) kc7_135 sh_3 rfl rfl (by decide) (ok_m7_takeWord 14 (by decide) q5) (by decide) rfl (Nat.le_of_ble_eq_true rfl) (fun q6 hq6 => ?_)
      refine ok_ifb_eq (tgt := 56) (kd_m7_readContract.at 24 rfl) (by decide) (fun h7 => ?_) (fun h7 => ?_)
      · refine ok_iconst (v := 0) (kd_m7_readContract.at 30 rfl) (by decide) ?_
        exact ok_zreturn (x := false) (kd_m7_readContract.at 31 rfl) rfl
      · refine ok_aload_n 1 (kd_m7_readContract.at 25 rfl) rfl rfl ?_
        refine ok_iconst (v := 1) (kd_m7_readContract.at 26 rfl) (by decide) ?_
        refine ok_bipush (v := 9) (kd_m7_readContract.at 27 rfl) (by decide) ?_
        refine ok_callVB (M' := m7_seesWhole) (as := [.int 1, .int 9]) (st := []) (kd_m7_readContract.at 28 rfl) kc7_138 sh_3 rfl rfl (by decide) (ok_m7_seesWhole 1 9 q6.2) (by decide) rfl (Nat.le_of_ble_eq_true rfl) (fun q8 hq8 => ?_)
        refine ok_ifb_ne (tgt := 58) (kd_m7_readContract.at 29 rfl) (by decide) (fun h9 => ?_) (fun h9 => ?_)
        · refine ok_aload_n 1 (kd_m7_readContract.at 32 rfl) rfl rfl ?_
          refine ok_getR (kd_m7_readContract.at 33 rfl) kf7_22 sh_3 rfl (kr_3_6 _) ?_
          refine ok_getR (kd_m7_readContract.at 34 rfl) kf7_181 sh_2 rfl (kr_2_10 _) ?_
          refine ok_iload_n 0 (kd_m7_readContract.at 35 rfl) rfl rfl ?_
          refine ok_aload_n 1 (kd_m7_readContract.at 36 rfl) rfl rfl ?_
          refine ok_getI (kd_m7_readContract.at 37 rfl) kf7_85 sh_3 rfl ?_
          refine ok_iast (kd_m7_readContract.at 38 rfl) sh_31 ?_
          refine ok_nS (fun S10 hS10 => ?_)
          refine ok_aload_n 1 (kd_m7_readContract.at 39 rfl) rfl rfl ?_
          refine ok_getR (kd_m7_readContract.at 40 rfl) kf7_22 sh_3 rfl (kr_3_6 _) ?_
          refine ok_dup (kd_m7_readContract.at 41 rfl) rfl ?_
          refine ok_getI (kd_m7_readContract.at 42 rfl) kf7_186 sh_2 rfl ?_
          refine ok_iconst (v := 1) (kd_m7_readContract.at 43 rfl) (by decide) ?_
          refine ok_iadd (kd_m7_readContract.at 44 rfl) ?_
          refine ok_putI (kd_m7_readContract.at 45 rfl) kf7_186 sh_2 rfl rfl ?_
          refine ok_nS (fun S11 hS11 => ?_)
          refine ok_aload_n 1 (kd_m7_readContract.at 46 rfl) rfl rfl ?_
          refine ok_callVV (M' := m7_next) (as := []) (st := []) (kd_m7_readContract.at 47 rfl) kc7_50 sh_3 rfl rfl (by decide) (ok_m7_next  S11) (by decide) rfl (Nat.le_of_ble_eq_true rfl) (fun q12 hq12 => ?_)
          refine ok_iconst (v := 1) (kd_m7_readContract.at 48 rfl) (by decide) ?_
          exact ok_zreturn (x := true) (kd_m7_readContract.at 49 rfl) rfl
        · refine ok_iconst (v := 0) (kd_m7_readContract.at 30 rfl) (by decide) ?_
          exact ok_zreturn (x := false) (kd_m7_readContract.at 31 rfl) rfl
    · refine ok_aload_n 1 (kd_m7_readContract.at 15 rfl) rfl rfl ?_
      refine ok_iconst (v := 3) (kd_m7_readContract.at 16 rfl) (by decide) ?_
      refine ok_callVB (M' := m7_found) (as := [.int 3]) (st := []) (kd_m7_readContract.at 17 rfl) kc7_63 sh_3 rfl rfl (by decide) (ok_m7_found 3 q2.2) (by decide) rfl (Nat.le_of_ble_eq_true rfl) (fun q13 hq13 => ?_)
      exact ok_zreturn (x := q13.1) (kd_m7_readContract.at 18 rfl) rfl
  · refine ok_iconst (v := 0) (kd_m7_readContract.at 7 rfl) (by decide) ?_
    exact ok_zreturn (x := false) (kd_m7_readContract.at 8 rfl) rfl
end
