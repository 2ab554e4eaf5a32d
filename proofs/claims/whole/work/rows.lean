section
-- ===== PART A: goes FIRST, ahead of the names: the tables' words, and 'selects' of the private methods out of them =====
/-- a private method of a class that the tables say can be made, by its rows of tables_1 -/
def lw_okq (q : MethodName × Nat) : Prop := (q.1.cls ≠ "java/lang/invoke/MethodHandle" ∧ q.1.cls ≠ "java/lang/invoke/VarHandle") ∧ Cond.instantiable q.1.cls q.2 ∈ tables_1 ∧ Cond.privateMethod q.1 ∈ tables_1 ∧ Cond.instanceMethod q.1 ∈ tables_1
theorem lw_p0 : lw_okq (⟨"SungLines", "settled", "(I)I"⟩, 7) := ⟨⟨by decide +kernel, by decide +kernel⟩, List.mem_of_getElem? (i := 13) (by decide +kernel), List.mem_of_getElem? (i := 291) (by decide +kernel), List.mem_of_getElem? (i := 292) (by decide +kernel)⟩
theorem lw_p1 : lw_okq (⟨"SungLines", "refusal", "(I)I"⟩, 7) := ⟨⟨by decide +kernel, by decide +kernel⟩, List.mem_of_getElem? (i := 13) (by decide +kernel), List.mem_of_getElem? (i := 295) (by decide +kernel), List.mem_of_getElem? (i := 296) (by decide +kernel)⟩
theorem lw_p2 : lw_okq (⟨"SungLines$Song", "movePhrase", "(II)V"⟩, 13) := ⟨⟨by decide +kernel, by decide +kernel⟩, List.mem_of_getElem? (i := 21) (by decide +kernel), List.mem_of_getElem? (i := 317) (by decide +kernel), List.mem_of_getElem? (i := 318) (by decide +kernel)⟩
theorem lw_p3 : lw_okq (⟨"SungLines", "countCuts", "()J"⟩, 7) := ⟨⟨by decide +kernel, by decide +kernel⟩, List.mem_of_getElem? (i := 13) (by decide +kernel), List.mem_of_getElem? (i := 381) (by decide +kernel), List.mem_of_getElem? (i := 382) (by decide +kernel)⟩
theorem lw_p4 : lw_okq (⟨"SungLines$Board", "cutPieces", "(I)V"⟩, 4) := ⟨⟨by decide +kernel, by decide +kernel⟩, List.mem_of_getElem? (i := 90) (by decide +kernel), List.mem_of_getElem? (i := 389) (by decide +kernel), List.mem_of_getElem? (i := 390) (by decide +kernel)⟩
theorem lw_p5 : lw_okq (⟨"SungLines$Counter", "fillPlace", "(I)Z"⟩, 8) := ⟨⟨by decide +kernel, by decide +kernel⟩, List.mem_of_getElem? (i := 111) (by decide +kernel), List.mem_of_getElem? (i := 400) (by decide +kernel), List.mem_of_getElem? (i := 401) (by decide +kernel)⟩
theorem lw_p6 : lw_okq (⟨"SungLines$Counter", "gatherBySlot", "(I)V"⟩, 8) := ⟨⟨by decide +kernel, by decide +kernel⟩, List.mem_of_getElem? (i := 111) (by decide +kernel), List.mem_of_getElem? (i := 404) (by decide +kernel), List.mem_of_getElem? (i := 405) (by decide +kernel)⟩
theorem lw_p7 : lw_okq (⟨"SungLines$Chooser", "fillPlace", "(I)V"⟩, 8) := ⟨⟨by decide +kernel, by decide +kernel⟩, List.mem_of_getElem? (i := 145) (by decide +kernel), List.mem_of_getElem? (i := 444) (by decide +kernel), List.mem_of_getElem? (i := 445) (by decide +kernel)⟩
theorem lw_p8 : lw_okq (⟨"SungLines$Chooser", "offerPhrase", "(III)V"⟩, 8) := ⟨⟨by decide +kernel, by decide +kernel⟩, List.mem_of_getElem? (i := 145) (by decide +kernel), List.mem_of_getElem? (i := 449) (by decide +kernel), List.mem_of_getElem? (i := 450) (by decide +kernel)⟩
theorem lw_p9 : lw_okq (⟨"SungLines$Chooser", "traceChosen", "()V"⟩, 8) := ⟨⟨by decide +kernel, by decide +kernel⟩, List.mem_of_getElem? (i := 145) (by decide +kernel), List.mem_of_getElem? (i := 455) (by decide +kernel), List.mem_of_getElem? (i := 456) (by decide +kernel)⟩
theorem lw_p10 : lw_okq (⟨"SungLines", "singBest", "(I)I"⟩, 7) := ⟨⟨by decide +kernel, by decide +kernel⟩, List.mem_of_getElem? (i := 13) (by decide +kernel), List.mem_of_getElem? (i := 470) (by decide +kernel), List.mem_of_getElem? (i := 471) (by decide +kernel)⟩
theorem lw_p11 : lw_okq (⟨"SungLines", "countMade", "(I)J"⟩, 7) := ⟨⟨by decide +kernel, by decide +kernel⟩, List.mem_of_getElem? (i := 13) (by decide +kernel), List.mem_of_getElem? (i := 507) (by decide +kernel), List.mem_of_getElem? (i := 508) (by decide +kernel)⟩
theorem lw_p12 : lw_okq (⟨"SungLines$Counter", "nextPhrase", "(II)I"⟩, 8) := ⟨⟨by decide +kernel, by decide +kernel⟩, List.mem_of_getElem? (i := 111) (by decide +kernel), List.mem_of_getElem? (i := 523) (by decide +kernel), List.mem_of_getElem? (i := 524) (by decide +kernel)⟩
theorem lw_p13 : lw_okq (⟨"SungLines$Text", "skipBlanks", "()V"⟩, 7) := ⟨⟨by decide +kernel, by decide +kernel⟩, List.mem_of_getElem? (i := 198) (by decide +kernel), List.mem_of_getElem? (i := 576) (by decide +kernel), List.mem_of_getElem? (i := 577) (by decide +kernel)⟩
theorem lw_p14 : lw_okq (⟨"SungLines$Text", "byteHere", "()I"⟩, 7) := ⟨⟨by decide +kernel, by decide +kernel⟩, List.mem_of_getElem? (i := 198) (by decide +kernel), List.mem_of_getElem? (i := 584) (by decide +kernel), List.mem_of_getElem? (i := 585) (by decide +kernel)⟩
theorem lw_p15 : lw_okq (⟨"SungLines$Text", "readNumber", "(I)Z"⟩, 7) := ⟨⟨by decide +kernel, by decide +kernel⟩, List.mem_of_getElem? (i := 198) (by decide +kernel), List.mem_of_getElem? (i := 591) (by decide +kernel), List.mem_of_getElem? (i := 592) (by decide +kernel)⟩
def lw_privs_1 : List (MethodName × Nat) := [(⟨"SungLines", "settled", "(I)I"⟩, 7), (⟨"SungLines", "refusal", "(I)I"⟩, 7), (⟨"SungLines$Song", "movePhrase", "(II)V"⟩, 13), (⟨"SungLines", "countCuts", "()J"⟩, 7), (⟨"SungLines$Board", "cutPieces", "(I)V"⟩, 4), (⟨"SungLines$Counter", "fillPlace", "(I)Z"⟩, 8), (⟨"SungLines$Counter", "gatherBySlot", "(I)V"⟩, 8), (⟨"SungLines$Chooser", "fillPlace", "(I)V"⟩, 8), (⟨"SungLines$Chooser", "offerPhrase", "(III)V"⟩, 8), (⟨"SungLines$Chooser", "traceChosen", "()V"⟩, 8), (⟨"SungLines", "singBest", "(I)I"⟩, 7), (⟨"SungLines", "countMade", "(I)J"⟩, 7), (⟨"SungLines$Counter", "nextPhrase", "(II)I"⟩, 8), (⟨"SungLines$Text", "skipBlanks", "()V"⟩, 7), (⟨"SungLines$Text", "byteHere", "()I"⟩, 7), (⟨"SungLines$Text", "readNumber", "(I)Z"⟩, 7)]
theorem lw_r1 : ∀ q ∈ lw_privs_1, lw_okq q := List.forall_mem_cons.mpr ⟨lw_p0, List.forall_mem_cons.mpr ⟨lw_p1, List.forall_mem_cons.mpr ⟨lw_p2, List.forall_mem_cons.mpr ⟨lw_p3, List.forall_mem_cons.mpr ⟨lw_p4, List.forall_mem_cons.mpr ⟨lw_p5, List.forall_mem_cons.mpr ⟨lw_p6, List.forall_mem_cons.mpr ⟨lw_p7, List.forall_mem_cons.mpr ⟨lw_p8, List.forall_mem_cons.mpr ⟨lw_p9, List.forall_mem_cons.mpr ⟨lw_p10, List.forall_mem_cons.mpr ⟨lw_p11, List.forall_mem_cons.mpr ⟨lw_p12, List.forall_mem_cons.mpr ⟨lw_p13, List.forall_mem_cons.mpr ⟨lw_p14, List.forall_mem_cons.mpr ⟨lw_p15, fun _ h => absurd h List.not_mem_nil⟩⟩⟩⟩⟩⟩⟩⟩⟩⟩⟩⟩⟩⟩⟩⟩
theorem lw_p16 : lw_okq (⟨"SungLines$Text", "readLetters", "()Z"⟩, 7) := ⟨⟨by decide +kernel, by decide +kernel⟩, List.mem_of_getElem? (i := 198) (by decide +kernel), List.mem_of_getElem? (i := 598) (by decide +kernel), List.mem_of_getElem? (i := 599) (by decide +kernel)⟩
theorem lw_p17 : lw_okq (⟨"SungLines", "doOrder", "()I"⟩, 7) := ⟨⟨by decide +kernel, by decide +kernel⟩, List.mem_of_getElem? (i := 13) (by decide +kernel), List.mem_of_getElem? (i := 604) (by decide +kernel), List.mem_of_getElem? (i := 605) (by decide +kernel)⟩
theorem lw_p18 : lw_okq (⟨"SungLines", "factTold", "(I)I"⟩, 7) := ⟨⟨by decide +kernel, by decide +kernel⟩, List.mem_of_getElem? (i := 13) (by decide +kernel), List.mem_of_getElem? (i := 633) (by decide +kernel), List.mem_of_getElem? (i := 634) (by decide +kernel)⟩
theorem lw_p19 : lw_okq (⟨"SungLinesModel", "no", "()I"⟩, 23) := ⟨⟨by decide +kernel, by decide +kernel⟩, List.mem_of_getElem? (i := 650) (by decide +kernel), List.mem_of_getElem? (i := 730) (by decide +kernel), List.mem_of_getElem? (i := 731) (by decide +kernel)⟩
theorem lw_p20 : lw_okq (⟨"SungLinesModel", "laysAside", "()V"⟩, 23) := ⟨⟨by decide +kernel, by decide +kernel⟩, List.mem_of_getElem? (i := 650) (by decide +kernel), List.mem_of_getElem? (i := 738) (by decide +kernel), List.mem_of_getElem? (i := 739) (by decide +kernel)⟩
theorem lw_p21 : lw_okq (⟨"SungLinesModel", "addsPhrase", "(II)I"⟩, 23) := ⟨⟨by decide +kernel, by decide +kernel⟩, List.mem_of_getElem? (i := 650) (by decide +kernel), List.mem_of_getElem? (i := 742) (by decide +kernel), List.mem_of_getElem? (i := 743) (by decide +kernel)⟩
theorem lw_p22 : lw_okq (⟨"SungLinesModel", "answers", "(I)I"⟩, 23) := ⟨⟨by decide +kernel, by decide +kernel⟩, List.mem_of_getElem? (i := 650) (by decide +kernel), List.mem_of_getElem? (i := 755) (by decide +kernel), List.mem_of_getElem? (i := 756) (by decide +kernel)⟩
theorem lw_p23 : lw_okq (⟨"SungLinesModel", "leaves", "()V"⟩, 23) := ⟨⟨by decide +kernel, by decide +kernel⟩, List.mem_of_getElem? (i := 650) (by decide +kernel), List.mem_of_getElem? (i := 759) (by decide +kernel), List.mem_of_getElem? (i := 760) (by decide +kernel)⟩
theorem lw_p24 : lw_okq (⟨"SungLinesModel", "full", "()I"⟩, 23) := ⟨⟨by decide +kernel, by decide +kernel⟩, List.mem_of_getElem? (i := 650) (by decide +kernel), List.mem_of_getElem? (i := 763) (by decide +kernel), List.mem_of_getElem? (i := 764) (by decide +kernel)⟩
theorem lw_p25 : lw_okq (⟨"SungLinesModel", "bad", "()I"⟩, 23) := ⟨⟨by decide +kernel, by decide +kernel⟩, List.mem_of_getElem? (i := 650) (by decide +kernel), List.mem_of_getElem? (i := 767) (by decide +kernel), List.mem_of_getElem? (i := 768) (by decide +kernel)⟩
theorem lw_p26 : lw_okq (⟨"SungLinesModel", "dropsPhrase", "(I)I"⟩, 23) := ⟨⟨by decide +kernel, by decide +kernel⟩, List.mem_of_getElem? (i := 650) (by decide +kernel), List.mem_of_getElem? (i := 775) (by decide +kernel), List.mem_of_getElem? (i := 776) (by decide +kernel)⟩
theorem lw_p27 : lw_okq (⟨"SungLinesModel", "isPhrase", "(I)Z"⟩, 23) := ⟨⟨by decide +kernel, by decide +kernel⟩, List.mem_of_getElem? (i := 650) (by decide +kernel), List.mem_of_getElem? (i := 779) (by decide +kernel), List.mem_of_getElem? (i := 780) (by decide +kernel)⟩
theorem lw_p28 : lw_okq (⟨"SungLinesModel", "sets", "(IIII)I"⟩, 23) := ⟨⟨by decide +kernel, by decide +kernel⟩, List.mem_of_getElem? (i := 650) (by decide +kernel), List.mem_of_getElem? (i := 787) (by decide +kernel), List.mem_of_getElem? (i := 788) (by decide +kernel)⟩
theorem lw_p29 : lw_okq (⟨"SungLinesModel", "setsFollows", "(II)I"⟩, 23) := ⟨⟨by decide +kernel, by decide +kernel⟩, List.mem_of_getElem? (i := 650) (by decide +kernel), List.mem_of_getElem? (i := 799) (by decide +kernel), List.mem_of_getElem? (i := 800) (by decide +kernel)⟩
theorem lw_p30 : lw_okq (⟨"SungLinesModel", "setsMark", "(II)I"⟩, 23) := ⟨⟨by decide +kernel, by decide +kernel⟩, List.mem_of_getElem? (i := 650) (by decide +kernel), List.mem_of_getElem? (i := 811) (by decide +kernel), List.mem_of_getElem? (i := 812) (by decide +kernel)⟩
theorem lw_p31 : lw_okq (⟨"SungLinesModel", "tellPhrase", "(II)I"⟩, 23) := ⟨⟨by decide +kernel, by decide +kernel⟩, List.mem_of_getElem? (i := 650) (by decide +kernel), List.mem_of_getElem? (i := 821) (by decide +kernel), List.mem_of_getElem? (i := 822) (by decide +kernel)⟩
def lw_privs_2 : List (MethodName × Nat) := [(⟨"SungLines$Text", "readLetters", "()Z"⟩, 7), (⟨"SungLines", "doOrder", "()I"⟩, 7), (⟨"SungLines", "factTold", "(I)I"⟩, 7), (⟨"SungLinesModel", "no", "()I"⟩, 23), (⟨"SungLinesModel", "laysAside", "()V"⟩, 23), (⟨"SungLinesModel", "addsPhrase", "(II)I"⟩, 23), (⟨"SungLinesModel", "answers", "(I)I"⟩, 23), (⟨"SungLinesModel", "leaves", "()V"⟩, 23), (⟨"SungLinesModel", "full", "()I"⟩, 23), (⟨"SungLinesModel", "bad", "()I"⟩, 23), (⟨"SungLinesModel", "dropsPhrase", "(I)I"⟩, 23), (⟨"SungLinesModel", "isPhrase", "(I)Z"⟩, 23), (⟨"SungLinesModel", "sets", "(IIII)I"⟩, 23), (⟨"SungLinesModel", "setsFollows", "(II)I"⟩, 23), (⟨"SungLinesModel", "setsMark", "(II)I"⟩, 23), (⟨"SungLinesModel", "tellPhrase", "(II)I"⟩, 23)]
theorem lw_r2 : ∀ q ∈ lw_privs_2, lw_okq q := List.forall_mem_cons.mpr ⟨lw_p16, List.forall_mem_cons.mpr ⟨lw_p17, List.forall_mem_cons.mpr ⟨lw_p18, List.forall_mem_cons.mpr ⟨lw_p19, List.forall_mem_cons.mpr ⟨lw_p20, List.forall_mem_cons.mpr ⟨lw_p21, List.forall_mem_cons.mpr ⟨lw_p22, List.forall_mem_cons.mpr ⟨lw_p23, List.forall_mem_cons.mpr ⟨lw_p24, List.forall_mem_cons.mpr ⟨lw_p25, List.forall_mem_cons.mpr ⟨lw_p26, List.forall_mem_cons.mpr ⟨lw_p27, List.forall_mem_cons.mpr ⟨lw_p28, List.forall_mem_cons.mpr ⟨lw_p29, List.forall_mem_cons.mpr ⟨lw_p30, List.forall_mem_cons.mpr ⟨lw_p31, fun _ h => absurd h List.not_mem_nil⟩⟩⟩⟩⟩⟩⟩⟩⟩⟩⟩⟩⟩⟩⟩⟩
theorem lw_p32 : lw_okq (⟨"SungLinesModel", "habitOf", "(II)I"⟩, 23) := ⟨⟨by decide +kernel, by decide +kernel⟩, List.mem_of_getElem? (i := 650) (by decide +kernel), List.mem_of_getElem? (i := 831) (by decide +kernel), List.mem_of_getElem? (i := 832) (by decide +kernel)⟩
theorem lw_p33 : lw_okq (⟨"SungLinesModel", "waysOr", "(ZI)J"⟩, 23) := ⟨⟨by decide +kernel, by decide +kernel⟩, List.mem_of_getElem? (i := 650) (by decide +kernel), List.mem_of_getElem? (i := 847) (by decide +kernel), List.mem_of_getElem? (i := 848) (by decide +kernel)⟩
theorem lw_p34 : lw_okq (⟨"SungLinesModel", "laysWays", "(ZI)J"⟩, 23) := ⟨⟨by decide +kernel, by decide +kernel⟩, List.mem_of_getElem? (i := 650) (by decide +kernel), List.mem_of_getElem? (i := 851) (by decide +kernel), List.mem_of_getElem? (i := 852) (by decide +kernel)⟩
theorem lw_p35 : lw_okq (⟨"SungLinesModel", "lastPlace", "()I"⟩, 23) := ⟨⟨by decide +kernel, by decide +kernel⟩, List.mem_of_getElem? (i := 650) (by decide +kernel), List.mem_of_getElem? (i := 855) (by decide +kernel), List.mem_of_getElem? (i := 856) (by decide +kernel)⟩
theorem lw_p36 : lw_okq (⟨"SungLinesModel", "isMark", "(II)Z"⟩, 23) := ⟨⟨by decide +kernel, by decide +kernel⟩, List.mem_of_getElem? (i := 650) (by decide +kernel), List.mem_of_getElem? (i := 859) (by decide +kernel), List.mem_of_getElem? (i := 860) (by decide +kernel)⟩
theorem lw_p37 : lw_okq (⟨"SungLinesModel", "sumFrom", "(III)J"⟩, 23) := ⟨⟨by decide +kernel, by decide +kernel⟩, List.mem_of_getElem? (i := 650) (by decide +kernel), List.mem_of_getElem? (i := 863) (by decide +kernel), List.mem_of_getElem? (i := 864) (by decide +kernel)⟩
theorem lw_p38 : lw_okq (⟨"SungLinesModel", "leads", "(II)I"⟩, 23) := ⟨⟨by decide +kernel, by decide +kernel⟩, List.mem_of_getElem? (i := 650) (by decide +kernel), List.mem_of_getElem? (i := 870) (by decide +kernel), List.mem_of_getElem? (i := 871) (by decide +kernel)⟩
theorem lw_p39 : lw_okq (⟨"SungLinesModel", "standsAhead", "(II)Z"⟩, 23) := ⟨⟨by decide +kernel, by decide +kernel⟩, List.mem_of_getElem? (i := 650) (by decide +kernel), List.mem_of_getElem? (i := 874) (by decide +kernel), List.mem_of_getElem? (i := 875) (by decide +kernel)⟩
theorem lw_p40 : lw_okq (⟨"SungLinesModel", "weightOf", "(II)I"⟩, 23) := ⟨⟨by decide +kernel, by decide +kernel⟩, List.mem_of_getElem? (i := 650) (by decide +kernel), List.mem_of_getElem? (i := 878) (by decide +kernel), List.mem_of_getElem? (i := 879) (by decide +kernel)⟩
theorem lw_p41 : lw_okq (⟨"SungLinesModel", "more", "(JJJ)J"⟩, 23) := ⟨⟨by decide +kernel, by decide +kernel⟩, List.mem_of_getElem? (i := 650) (by decide +kernel), List.mem_of_getElem? (i := 882) (by decide +kernel), List.mem_of_getElem? (i := 883) (by decide +kernel)⟩
theorem lw_p42 : lw_okq (⟨"SungLinesModel", "much", "()I"⟩, 23) := ⟨⟨by decide +kernel, by decide +kernel⟩, List.mem_of_getElem? (i := 650) (by decide +kernel), List.mem_of_getElem? (i := 888) (by decide +kernel), List.mem_of_getElem? (i := 889) (by decide +kernel)⟩
theorem lw_p43 : lw_okq (⟨"SungLinesModel", "goes", "(JI)V"⟩, 23) := ⟨⟨by decide +kernel, by decide +kernel⟩, List.mem_of_getElem? (i := 650) (by decide +kernel), List.mem_of_getElem? (i := 900) (by decide +kernel), List.mem_of_getElem? (i := 901) (by decide +kernel)⟩
theorem lw_p44 : lw_okq (⟨"SungLinesModel", "tellRow", "(I)I"⟩, 23) := ⟨⟨by decide +kernel, by decide +kernel⟩, List.mem_of_getElem? (i := 650) (by decide +kernel), List.mem_of_getElem? (i := 904) (by decide +kernel), List.mem_of_getElem? (i := 905) (by decide +kernel)⟩
theorem lw_p45 : lw_okq (⟨"SungLinesModel", "weightFrom", "(II)J"⟩, 23) := ⟨⟨by decide +kernel, by decide +kernel⟩, List.mem_of_getElem? (i := 650) (by decide +kernel), List.mem_of_getElem? (i := 917) (by decide +kernel), List.mem_of_getElem? (i := 918) (by decide +kernel)⟩
theorem lw_p46 : lw_okq (⟨"SungLinesModel", "findsBest", "(I)I"⟩, 23) := ⟨⟨by decide +kernel, by decide +kernel⟩, List.mem_of_getElem? (i := 650) (by decide +kernel), List.mem_of_getElem? (i := 933) (by decide +kernel), List.mem_of_getElem? (i := 934) (by decide +kernel)⟩
theorem lw_p47 : lw_okq (⟨"SungLinesModel", "laysBest", "(I)V"⟩, 23) := ⟨⟨by decide +kernel, by decide +kernel⟩, List.mem_of_getElem? (i := 650) (by decide +kernel), List.mem_of_getElem? (i := 937) (by decide +kernel), List.mem_of_getElem? (i := 938) (by decide +kernel)⟩
def lw_privs_3 : List (MethodName × Nat) := [(⟨"SungLinesModel", "habitOf", "(II)I"⟩, 23), (⟨"SungLinesModel", "waysOr", "(ZI)J"⟩, 23), (⟨"SungLinesModel", "laysWays", "(ZI)J"⟩, 23), (⟨"SungLinesModel", "lastPlace", "()I"⟩, 23), (⟨"SungLinesModel", "isMark", "(II)Z"⟩, 23), (⟨"SungLinesModel", "sumFrom", "(III)J"⟩, 23), (⟨"SungLinesModel", "leads", "(II)I"⟩, 23), (⟨"SungLinesModel", "standsAhead", "(II)Z"⟩, 23), (⟨"SungLinesModel", "weightOf", "(II)I"⟩, 23), (⟨"SungLinesModel", "more", "(JJJ)J"⟩, 23), (⟨"SungLinesModel", "much", "()I"⟩, 23), (⟨"SungLinesModel", "goes", "(JI)V"⟩, 23), (⟨"SungLinesModel", "tellRow", "(I)I"⟩, 23), (⟨"SungLinesModel", "weightFrom", "(II)J"⟩, 23), (⟨"SungLinesModel", "findsBest", "(I)I"⟩, 23), (⟨"SungLinesModel", "laysBest", "(I)V"⟩, 23)]
theorem lw_r3 : ∀ q ∈ lw_privs_3, lw_okq q := List.forall_mem_cons.mpr ⟨lw_p32, List.forall_mem_cons.mpr ⟨lw_p33, List.forall_mem_cons.mpr ⟨lw_p34, List.forall_mem_cons.mpr ⟨lw_p35, List.forall_mem_cons.mpr ⟨lw_p36, List.forall_mem_cons.mpr ⟨lw_p37, List.forall_mem_cons.mpr ⟨lw_p38, List.forall_mem_cons.mpr ⟨lw_p39, List.forall_mem_cons.mpr ⟨lw_p40, List.forall_mem_cons.mpr ⟨lw_p41, List.forall_mem_cons.mpr ⟨lw_p42, List.forall_mem_cons.mpr ⟨lw_p43, List.forall_mem_cons.mpr ⟨lw_p44, List.forall_mem_cons.mpr ⟨lw_p45, List.forall_mem_cons.mpr ⟨lw_p46, List.forall_mem_cons.mpr ⟨lw_p47, fun _ h => absurd h List.not_mem_nil⟩⟩⟩⟩⟩⟩⟩⟩⟩⟩⟩⟩⟩⟩⟩⟩
theorem lw_p48 : lw_okq (⟨"SungLinesModel", "dearest", "(III)I"⟩, 23) := ⟨⟨by decide +kernel, by decide +kernel⟩, List.mem_of_getElem? (i := 650) (by decide +kernel), List.mem_of_getElem? (i := 941) (by decide +kernel), List.mem_of_getElem? (i := 942) (by decide +kernel)⟩
theorem lw_p49 : lw_okq (⟨"SungLinesModel", "singsOne", "(I)I"⟩, 23) := ⟨⟨by decide +kernel, by decide +kernel⟩, List.mem_of_getElem? (i := 650) (by decide +kernel), List.mem_of_getElem? (i := 949) (by decide +kernel), List.mem_of_getElem? (i := 950) (by decide +kernel)⟩
theorem lw_p50 : lw_okq (⟨"SungLinesModel", "fixesTo", "(II)I"⟩, 23) := ⟨⟨by decide +kernel, by decide +kernel⟩, List.mem_of_getElem? (i := 650) (by decide +kernel), List.mem_of_getElem? (i := 957) (by decide +kernel), List.mem_of_getElem? (i := 958) (by decide +kernel)⟩
theorem lw_p51 : lw_okq (⟨"SungLinesModel", "isRead", "()Z"⟩, 23) := ⟨⟨by decide +kernel, by decide +kernel⟩, List.mem_of_getElem? (i := 650) (by decide +kernel), List.mem_of_getElem? (i := 974) (by decide +kernel), List.mem_of_getElem? (i := 975) (by decide +kernel)⟩
theorem lw_p52 : lw_okq (⟨"SungLinesModel", "blanks", "()V"⟩, 23) := ⟨⟨by decide +kernel, by decide +kernel⟩, List.mem_of_getElem? (i := 650) (by decide +kernel), List.mem_of_getElem? (i := 978) (by decide +kernel), List.mem_of_getElem? (i := 979) (by decide +kernel)⟩
theorem lw_p53 : lw_okq (⟨"SungLinesModel", "isAt", "(II)Z"⟩, 23) := ⟨⟨by decide +kernel, by decide +kernel⟩, List.mem_of_getElem? (i := 650) (by decide +kernel), List.mem_of_getElem? (i := 982) (by decide +kernel), List.mem_of_getElem? (i := 983) (by decide +kernel)⟩
theorem lw_p54 : lw_okq (⟨"SungLinesModel", "readsOrder", "()V"⟩, 23) := ⟨⟨by decide +kernel, by decide +kernel⟩, List.mem_of_getElem? (i := 650) (by decide +kernel), List.mem_of_getElem? (i := 986) (by decide +kernel), List.mem_of_getElem? (i := 987) (by decide +kernel)⟩
theorem lw_p55 : lw_okq (⟨"SungLinesModel", "readsParts", "(II)V"⟩, 23) := ⟨⟨by decide +kernel, by decide +kernel⟩, List.mem_of_getElem? (i := 650) (by decide +kernel), List.mem_of_getElem? (i := 993) (by decide +kernel), List.mem_of_getElem? (i := 994) (by decide +kernel)⟩
theorem lw_p56 : lw_okq (⟨"SungLinesModel", "number", "()I"⟩, 23) := ⟨⟨by decide +kernel, by decide +kernel⟩, List.mem_of_getElem? (i := 650) (by decide +kernel), List.mem_of_getElem? (i := 997) (by decide +kernel), List.mem_of_getElem? (i := 998) (by decide +kernel)⟩
theorem lw_p57 : lw_okq (⟨"SungLinesModel", "passesLetters", "(II)I"⟩, 23) := ⟨⟨by decide +kernel, by decide +kernel⟩, List.mem_of_getElem? (i := 650) (by decide +kernel), List.mem_of_getElem? (i := 1001) (by decide +kernel), List.mem_of_getElem? (i := 1002) (by decide +kernel)⟩
theorem lw_p58 : lw_okq (⟨"SungLinesModel", "doesOrder", "(I)I"⟩, 23) := ⟨⟨by decide +kernel, by decide +kernel⟩, List.mem_of_getElem? (i := 650) (by decide +kernel), List.mem_of_getElem? (i := 1005) (by decide +kernel), List.mem_of_getElem? (i := 1006) (by decide +kernel)⟩
theorem lw_p59 : lw_okq (⟨"SungLinesModel", "codeFrom", "(I)I"⟩, 23) := ⟨⟨by decide +kernel, by decide +kernel⟩, List.mem_of_getElem? (i := 650) (by decide +kernel), List.mem_of_getElem? (i := 1009) (by decide +kernel), List.mem_of_getElem? (i := 1010) (by decide +kernel)⟩
theorem lw_p60 : lw_okq (⟨"SungLinesModel", "isLetter", "(I)Z"⟩, 23) := ⟨⟨by decide +kernel, by decide +kernel⟩, List.mem_of_getElem? (i := 650) (by decide +kernel), List.mem_of_getElem? (i := 1013) (by decide +kernel), List.mem_of_getElem? (i := 1014) (by decide +kernel)⟩
theorem lw_p61 : lw_okq (⟨"SungLinesModel", "setsLine", "(I)I"⟩, 23) := ⟨⟨by decide +kernel, by decide +kernel⟩, List.mem_of_getElem? (i := 650) (by decide +kernel), List.mem_of_getElem? (i := 1019) (by decide +kernel), List.mem_of_getElem? (i := 1020) (by decide +kernel)⟩
theorem lw_p62 : lw_okq (⟨"SungLinesModel", "toldOf", "(I)I"⟩, 23) := ⟨⟨by decide +kernel, by decide +kernel⟩, List.mem_of_getElem? (i := 650) (by decide +kernel), List.mem_of_getElem? (i := 1028) (by decide +kernel), List.mem_of_getElem? (i := 1029) (by decide +kernel)⟩
theorem lw_p63 : lw_okq (⟨"SungLinesModel", "mix", "(J)V"⟩, 23) := ⟨⟨by decide +kernel, by decide +kernel⟩, List.mem_of_getElem? (i := 650) (by decide +kernel), List.mem_of_getElem? (i := 1037) (by decide +kernel), List.mem_of_getElem? (i := 1038) (by decide +kernel)⟩
def lw_privs_4 : List (MethodName × Nat) := [(⟨"SungLinesModel", "dearest", "(III)I"⟩, 23), (⟨"SungLinesModel", "singsOne", "(I)I"⟩, 23), (⟨"SungLinesModel", "fixesTo", "(II)I"⟩, 23), (⟨"SungLinesModel", "isRead", "()Z"⟩, 23), (⟨"SungLinesModel", "blanks", "()V"⟩, 23), (⟨"SungLinesModel", "isAt", "(II)Z"⟩, 23), (⟨"SungLinesModel", "readsOrder", "()V"⟩, 23), (⟨"SungLinesModel", "readsParts", "(II)V"⟩, 23), (⟨"SungLinesModel", "number", "()I"⟩, 23), (⟨"SungLinesModel", "passesLetters", "(II)I"⟩, 23), (⟨"SungLinesModel", "doesOrder", "(I)I"⟩, 23), (⟨"SungLinesModel", "codeFrom", "(I)I"⟩, 23), (⟨"SungLinesModel", "isLetter", "(I)Z"⟩, 23), (⟨"SungLinesModel", "setsLine", "(I)I"⟩, 23), (⟨"SungLinesModel", "toldOf", "(I)I"⟩, 23), (⟨"SungLinesModel", "mix", "(J)V"⟩, 23)]
theorem lw_r4 : ∀ q ∈ lw_privs_4, lw_okq q := List.forall_mem_cons.mpr ⟨lw_p48, List.forall_mem_cons.mpr ⟨lw_p49, List.forall_mem_cons.mpr ⟨lw_p50, List.forall_mem_cons.mpr ⟨lw_p51, List.forall_mem_cons.mpr ⟨lw_p52, List.forall_mem_cons.mpr ⟨lw_p53, List.forall_mem_cons.mpr ⟨lw_p54, List.forall_mem_cons.mpr ⟨lw_p55, List.forall_mem_cons.mpr ⟨lw_p56, List.forall_mem_cons.mpr ⟨lw_p57, List.forall_mem_cons.mpr ⟨lw_p58, List.forall_mem_cons.mpr ⟨lw_p59, List.forall_mem_cons.mpr ⟨lw_p60, List.forall_mem_cons.mpr ⟨lw_p61, List.forall_mem_cons.mpr ⟨lw_p62, List.forall_mem_cons.mpr ⟨lw_p63, fun _ h => absurd h List.not_mem_nil⟩⟩⟩⟩⟩⟩⟩⟩⟩⟩⟩⟩⟩⟩⟩⟩
def lw_privs : List (MethodName × Nat) := lw_privs_1 ++ (lw_privs_2 ++ (lw_privs_3 ++ (lw_privs_4)))
def lw_tbl : List Cond := k2_sels lw_privs ++ tables_1
theorem lw_privs_ok : ∀ q ∈ lw_privs, lw_okq q := by
  show ∀ q ∈ lw_privs_1 ++ (lw_privs_2 ++ (lw_privs_3 ++ (lw_privs_4))), lw_okq q
  exact List.forall_mem_append.mpr ⟨lw_r1, List.forall_mem_append.mpr ⟨lw_r2, List.forall_mem_append.mpr ⟨lw_r3, lw_r4⟩⟩⟩
end
section
/-! ===== BEGIN words of one list among another's, by their places ===== -/
theorem goodIn_r {big : List Cond} (ws : List Cond) (ps : List Nat) (hp : ws = ps.filterMap (fun i => big[i]?)) (h : ws.all goodWord = true) : GoodIn big ws := by
  intro w hw
  have h1 := List.all_eq_true.mp h w hw
  rw [hp] at hw
  obtain ⟨i, -, hi⟩ := List.mem_filterMap.mp hw
  have hm : w ∈ big := by first | exact List.mem_of_getElem? hi | exact List.getElem?_mem hi
  exact ⟨hm, good_of_word h1⟩
theorem goodIn_app {big a b : List Cond} (ha : GoodIn big a) (hb : GoodIn big b) : GoodIn big (a ++ b) := fun w h => (List.mem_append.mp h).elim (ha w) (hb w)
theorem goodIn_ca {big a b : List Cond} {c : Cond} (ha : GoodIn big (c :: a)) (hb : GoodIn big b) : GoodIn big (c :: (a ++ b)) := fun w h => (List.mem_cons.mp h).elim (fun e => ha w (List.mem_cons.mpr (Or.inl e))) (fun h => (List.mem_append.mp h).elim (fun h => ha w (List.mem_cons.mpr (Or.inr h))) (hb w))
theorem goodIn_sub {big ws : List Cond} (hm : ∀ w ∈ ws, w ∈ big) (h : ws.all goodWord = true) : GoodIn big ws := fun w hw => ⟨hm w hw, good_of_word (List.all_eq_true.mp h w hw)⟩
/-! ===== END ===== -/

/-! ===== BEGIN printed: names, fields, word lists, decode rows ===== -/
def RX0 : String := "SungLines$Board"
def TX0 : u_T := fun k => match k with
  | 0 => ("SungLines$Board", "song", "LSungLines$Song;", true)
  | 1 => ("SungLines$Board", "landing", "[I", true)
  | 2 => ("SungLines$Board", "piece", "[I", true)
  | _ => ("SungLines$Board", "end", "I", false)
def tyX0 : Nat → FieldType := fun k => match k with
  | 0 => .object "SungLines$Song"
  | 1 => .array .int
  | 2 => .array .int
  | _ => .int
abbrev wsX00 : List Cond := u_ws RX0 TX0 4
theorem nmX0 : ∀ a, a < 4 → ∀ b, b < 4 → a ≠ b → (TX0 a).2.1 ≠ (TX0 b).2.1 := by decide +kernel
theorem tyX0_ok : ∀ k, k < 4 → parseFieldDescriptor (TX0 k).2.2.1 = some (tyX0 k) := by decide +kernel
abbrev cX0_init : ByteArray := prog_2_method_1_code
def yX0_init : MethodName := ⟨RX0, "<init>", "(LSungLines$Song;)V"⟩
abbrev cX0_landingOf : ByteArray := prog_2_method_2_code
def yX0_landingOf : MethodName := ⟨RX0, "landingOf", "(II)I"⟩
abbrev cX0_layLine : ByteArray := prog_2_method_3_code
def yX0_layLine : MethodName := ⟨RX0, "layLine", "()V"⟩
abbrev cX0_cutPieces : ByteArray := prog_2_method_4_code
def yX0_cutPieces : MethodName := ⟨RX0, "cutPieces", "(I)V"⟩
abbrev cX0_layMetre : ByteArray := prog_2_method_5_code
def yX0_layMetre : MethodName := ⟨RX0, "layMetre", "()V"⟩
def RX1 : String := "SungLines$Chooser"
def TX1 : u_T := fun k => match k with
  | 0 => ("SungLines$Chooser", "song", "LSungLines$Song;", true)
  | 1 => ("SungLines$Chooser", "board", "LSungLines$Board;", true)
  | 2 => ("SungLines$Chooser", "sum", "[I", true)
  | 3 => ("SungLines$Chooser", "steps", "[I", true)
  | 4 => ("SungLines$Chooser", "first", "[I", true)
  | 5 => ("SungLines$Chooser", "chosen", "[I", true)
  | 6 => ("SungLines$Chooser", "chosenSize", "I", false)
  | _ => ("SungLines$Chooser", "maker", "I", false)
def tyX1 : Nat → FieldType := fun k => match k with
  | 0 => .object "SungLines$Song"
  | 1 => .object "SungLines$Board"
  | 2 => .array .int
  | 3 => .array .int
  | 4 => .array .int
  | 5 => .array .int
  | 6 => .int
  | _ => .int
abbrev wsX10 : List Cond := u_ws RX1 TX1 8
theorem nmX1 : ∀ a, a < 8 → ∀ b, b < 8 → a ≠ b → (TX1 a).2.1 ≠ (TX1 b).2.1 := by decide +kernel
theorem tyX1_ok : ∀ k, k < 8 → parseFieldDescriptor (TX1 k).2.2.1 = some (tyX1 k) := by decide +kernel
abbrev cX1_init : ByteArray := prog_3_method_1_code
def yX1_init : MethodName := ⟨RX1, "<init>", "(LSungLines$Song;LSungLines$Board;)V"⟩
abbrev cX1_findBest : ByteArray := prog_3_method_2_code
def yX1_findBest : MethodName := ⟨RX1, "findBest", "(I)Z"⟩
abbrev cX1_bestSum : ByteArray := prog_3_method_3_code
def yX1_bestSum : MethodName := ⟨RX1, "bestSum", "()I"⟩
abbrev cX1_fillPlace : ByteArray := prog_3_method_4_code
def yX1_fillPlace : MethodName := ⟨RX1, "fillPlace", "(I)V"⟩
abbrev cX1_offerPhrase : ByteArray := prog_3_method_5_code
def yX1_offerPhrase : MethodName := ⟨RX1, "offerPhrase", "(III)V"⟩
abbrev cX1_traceChosen : ByteArray := prog_3_method_6_code
def yX1_traceChosen : MethodName := ⟨RX1, "traceChosen", "()V"⟩
def RX2 : String := "SungLines$Counter"
def TX2 : u_T := fun k => match k with
  | 0 => ("SungLines$Counter", "song", "LSungLines$Song;", true)
  | 1 => ("SungLines$Counter", "board", "LSungLines$Board;", true)
  | 2 => ("SungLines$Counter", "on", "[J", true)
  | 3 => ("SungLines$Counter", "bySlot", "[J", true)
  | 4 => ("SungLines$Counter", "found", "[I", true)
  | 5 => ("SungLines$Counter", "foundSize", "I", false)
  | 6 => ("SungLines$Counter", "maker", "I", false)
  | _ => ("SungLines$Counter", "left", "J", false)
def tyX2 : Nat → FieldType := fun k => match k with
  | 0 => .object "SungLines$Song"
  | 1 => .object "SungLines$Board"
  | 2 => .array .long
  | 3 => .array .long
  | 4 => .array .int
  | 5 => .int
  | 6 => .int
  | _ => .long
abbrev wsX20 : List Cond := u_ws RX2 TX2 8
theorem nmX2 : ∀ a, a < 8 → ∀ b, b < 8 → a ≠ b → (TX2 a).2.1 ≠ (TX2 b).2.1 := by decide +kernel
theorem tyX2_ok : ∀ k, k < 8 → parseFieldDescriptor (TX2 k).2.2.1 = some (tyX2 k) := by decide +kernel
abbrev cX2_init : ByteArray := prog_4_method_1_code
def yX2_init : MethodName := ⟨RX2, "<init>", "(LSungLines$Song;LSungLines$Board;)V"⟩
abbrev cX2_countAll : ByteArray := prog_4_method_2_code
def yX2_countAll : MethodName := ⟨RX2, "countAll", "(I)J"⟩
abbrev cX2_fillPlace : ByteArray := prog_4_method_3_code
def yX2_fillPlace : MethodName := ⟨RX2, "fillPlace", "(I)Z"⟩
abbrev cX2_gatherBySlot : ByteArray := prog_4_method_4_code
def yX2_gatherBySlot : MethodName := ⟨RX2, "gatherBySlot", "(I)V"⟩
abbrev cX2_plus : ByteArray := prog_4_method_5_code
def yX2_plus : MethodName := ⟨RX2, "plus", "(JJ)J"⟩
abbrev cX2_times : ByteArray := prog_4_method_6_code
def yX2_times : MethodName := ⟨RX2, "times", "(JJ)J"⟩
abbrev cX2_shareOf : ByteArray := prog_4_method_7_code
def yX2_shareOf : MethodName := ⟨RX2, "shareOf", "(III)J"⟩
abbrev cX2_findRow : ByteArray := prog_4_method_8_code
def yX2_findRow : MethodName := ⟨RX2, "findRow", "(J)V"⟩
abbrev cX2_nextPhrase : ByteArray := prog_4_method_9_code
def yX2_nextPhrase : MethodName := ⟨RX2, "nextPhrase", "(II)I"⟩
def RX3 : String := "SungLines$History"
def TX3 : u_T := fun k => match k with
  | 0 => ("SungLines$History", "ring", "[LSungLines$Song;", true)
  | 1 => ("SungLines$History", "staged", "I", false)
  | _ => ("SungLines$History", "size", "I", false)
def tyX3 : Nat → FieldType := fun k => match k with
  | 0 => .array (.object "SungLines$Song")
  | 1 => .int
  | _ => .int
abbrev wsX30 : List Cond := u_ws RX3 TX3 3
theorem nmX3 : ∀ a, a < 3 → ∀ b, b < 3 → a ≠ b → (TX3 a).2.1 ≠ (TX3 b).2.1 := by decide +kernel
theorem tyX3_ok : ∀ k, k < 3 → parseFieldDescriptor (TX3 k).2.2.1 = some (tyX3 k) := by decide +kernel
abbrev cX3_init : ByteArray := prog_5_method_1_code
def yX3_init : MethodName := ⟨RX3, "<init>", "()V"⟩
abbrev cX3_stage : ByteArray := prog_5_method_2_code
def yX3_stage : MethodName := ⟨RX3, "stage", "(LSungLines$Song;)V"⟩
abbrev cX3_keepStaged : ByteArray := prog_5_method_3_code
def yX3_keepStaged : MethodName := ⟨RX3, "keepStaged", "()V"⟩
abbrev cX3_restoreStaged : ByteArray := prog_5_method_4_code
def yX3_restoreStaged : MethodName := ⟨RX3, "restoreStaged", "(LSungLines$Song;)V"⟩
abbrev cX3_restoreLast : ByteArray := prog_5_method_5_code
def yX3_restoreLast : MethodName := ⟨RX3, "restoreLast", "(LSungLines$Song;)V"⟩
def RX4 : String := "SungLines$Song"
def TX4 : u_T := fun k => match k with
  | 0 => ("SungLines$Song", "slot", "[I", true)
  | 1 => ("SungLines$Song", "code", "[I", true)
  | 2 => ("SungLines$Song", "size", "[I", true)
  | 3 => ("SungLines$Song", "morae", "[I", true)
  | 4 => ("SungLines$Song", "habit", "[I", true)
  | 5 => ("SungLines$Song", "line", "[I", true)
  | 6 => ("SungLines$Song", "mark", "[I", true)
  | 7 => ("SungLines$Song", "followSet", "[I", true)
  | 8 => ("SungLines$Song", "phraseCount", "I", false)
  | 9 => ("SungLines$Song", "lineSize", "I", false)
  | 10 => ("SungLines$Song", "metreSize", "I", false)
  | 11 => ("SungLines$Song", "beginSet", "I", false)
  | _ => ("SungLines$Song", "endSet", "I", false)
def tyX4 : Nat → FieldType := fun k => match k with
  | 0 => .array .int
  | 1 => .array .int
  | 2 => .array .int
  | 3 => .array .int
  | 4 => .array .int
  | 5 => .array .int
  | 6 => .array .int
  | 7 => .array .int
  | 8 => .int
  | 9 => .int
  | 10 => .int
  | 11 => .int
  | _ => .int
abbrev wsX40 : List Cond := u_ws RX4 TX4 13
theorem nmX4 : ∀ a, a < 13 → ∀ b, b < 13 → a ≠ b → (TX4 a).2.1 ≠ (TX4 b).2.1 := by decide +kernel
theorem tyX4_ok : ∀ k, k < 13 → parseFieldDescriptor (TX4 k).2.2.1 = some (tyX4 k) := by decide +kernel
abbrev cX4_init : ByteArray := prog_6_method_1_code
def yX4_init : MethodName := ⟨RX4, "<init>", "()V"⟩
abbrev cX4_copyFrom : ByteArray := prog_6_method_2_code
def yX4_copyFrom : MethodName := ⟨RX4, "copyFrom", "(LSungLines$Song;)V"⟩
abbrev cX4_copyRow : ByteArray := prog_6_method_3_code
def yX4_copyRow : MethodName := ⟨RX4, "copyRow", "([I[I)V"⟩
abbrev cX4_hasPhrase : ByteArray := prog_6_method_4_code
def yX4_hasPhrase : MethodName := ⟨RX4, "hasPhrase", "(I)Z"⟩
abbrev cX4_addPhrase : ByteArray := prog_6_method_5_code
def yX4_addPhrase : MethodName := ⟨RX4, "addPhrase", "(II)I"⟩
abbrev cX4_dropPhrase : ByteArray := prog_6_method_6_code
def yX4_dropPhrase : MethodName := ⟨RX4, "dropPhrase", "(I)I"⟩
abbrev cX4_movePhrase : ByteArray := prog_6_method_7_code
def yX4_movePhrase : MethodName := ⟨RX4, "movePhrase", "(II)V"⟩
abbrev cX4_setBegins : ByteArray := prog_6_method_8_code
def yX4_setBegins : MethodName := ⟨RX4, "setBegins", "(I)I"⟩
abbrev cX4_setEnds : ByteArray := prog_6_method_9_code
def yX4_setEnds : MethodName := ⟨RX4, "setEnds", "(I)I"⟩
abbrev cX4_setFollows : ByteArray := prog_6_method_10_code
def yX4_setFollows : MethodName := ⟨RX4, "setFollows", "(II)I"⟩
abbrev cX4_addLetter : ByteArray := prog_6_method_11_code
def yX4_addLetter : MethodName := ⟨RX4, "addLetter", "(I)I"⟩
abbrev cX4_wipeLine : ByteArray := prog_6_method_12_code
def yX4_wipeLine : MethodName := ⟨RX4, "wipeLine", "()I"⟩
abbrev cX4_setLine : ByteArray := prog_6_method_13_code
def yX4_setLine : MethodName := ⟨RX4, "setLine", "([II)I"⟩
abbrev cX4_setMetre : ByteArray := prog_6_method_14_code
def yX4_setMetre : MethodName := ⟨RX4, "setMetre", "(I)I"⟩
abbrev cX4_setMark : ByteArray := prog_6_method_15_code
def yX4_setMark : MethodName := ⟨RX4, "setMark", "(II)I"⟩
abbrev cX4_habitOf : ByteArray := prog_6_method_16_code
def yX4_habitOf : MethodName := ⟨RX4, "habitOf", "(II)I"⟩
abbrev cX4_raiseHabit : ByteArray := prog_6_method_17_code
def yX4_raiseHabit : MethodName := ⟨RX4, "raiseHabit", "(II)V"⟩
abbrev cX4_factorOf : ByteArray := prog_6_method_18_code
def yX4_factorOf : MethodName := ⟨RX4, "factorOf", "(II)J"⟩
abbrev cX4_setAfter : ByteArray := prog_6_method_19_code
def yX4_setAfter : MethodName := ⟨RX4, "setAfter", "(II)I"⟩
abbrev cX4_factOf : ByteArray := prog_6_method_20_code
def yX4_factOf : MethodName := ⟨RX4, "factOf", "(II)I"⟩
abbrev cX4_fixedPhrase : ByteArray := prog_6_method_21_code
def yX4_fixedPhrase : MethodName := ⟨RX4, "fixedPhrase", "(II)I"⟩
abbrev cX4_digestOn : ByteArray := prog_6_method_22_code
def yX4_digestOn : MethodName := ⟨RX4, "digestOn", "(J)J"⟩
def RX5 : String := "SungLines$Text"
def TX5 : u_T := fun k => match k with
  | 0 => ("SungLines$Text", "bytes", "[B", true)
  | 1 => ("SungLines$Text", "length", "I", false)
  | 2 => ("SungLines$Text", "at", "I", false)
  | 3 => ("SungLines$Text", "kind", "I", false)
  | 4 => ("SungLines$Text", "number", "[I", true)
  | 5 => ("SungLines$Text", "letters", "[I", true)
  | _ => ("SungLines$Text", "letterCount", "I", false)
def tyX5 : Nat → FieldType := fun k => match k with
  | 0 => .array .byte
  | 1 => .int
  | 2 => .int
  | 3 => .int
  | 4 => .array .int
  | 5 => .array .int
  | _ => .int
abbrev wsX50 : List Cond := u_ws RX5 TX5 7
theorem nmX5 : ∀ a, a < 7 → ∀ b, b < 7 → a ≠ b → (TX5 a).2.1 ≠ (TX5 b).2.1 := by decide +kernel
theorem tyX5_ok : ∀ k, k < 7 → parseFieldDescriptor (TX5 k).2.2.1 = some (tyX5 k) := by decide +kernel
abbrev cX5_init : ByteArray := prog_7_method_1_code
def yX5_init : MethodName := ⟨RX5, "<init>", "()V"⟩
abbrev cX5_addByte : ByteArray := prog_7_method_2_code
def yX5_addByte : MethodName := ⟨RX5, "addByte", "(I)I"⟩
abbrev cX5_wipeBytes : ByteArray := prog_7_method_3_code
def yX5_wipeBytes : MethodName := ⟨RX5, "wipeBytes", "()I"⟩
abbrev cX5_rewind : ByteArray := prog_7_method_4_code
def yX5_rewind : MethodName := ⟨RX5, "rewind", "()V"⟩
abbrev cX5_findFault : ByteArray := prog_7_method_5_code
def yX5_findFault : MethodName := ⟨RX5, "findFault", "()I"⟩
abbrev cX5_readOrder : ByteArray := prog_7_method_6_code
def yX5_readOrder : MethodName := ⟨RX5, "readOrder", "()Z"⟩
abbrev cX5_numbersOf : ByteArray := prog_7_method_7_code
def yX5_numbersOf : MethodName := ⟨RX5, "numbersOf", "(I)I"⟩
abbrev cX5_readNumber : ByteArray := prog_7_method_8_code
def yX5_readNumber : MethodName := ⟨RX5, "readNumber", "(I)Z"⟩
abbrev cX5_readLetters : ByteArray := prog_7_method_9_code
def yX5_readLetters : MethodName := ⟨RX5, "readLetters", "()Z"⟩
abbrev cX5_lettersAsCode : ByteArray := prog_7_method_10_code
def yX5_lettersAsCode : MethodName := ⟨RX5, "lettersAsCode", "()I"⟩
abbrev cX5_byteHere : ByteArray := prog_7_method_11_code
def yX5_byteHere : MethodName := ⟨RX5, "byteHere", "()I"⟩
abbrev cX5_skipBlanks : ByteArray := prog_7_method_12_code
def yX5_skipBlanks : MethodName := ⟨RX5, "skipBlanks", "()V"⟩
abbrev cX5_isFigure : ByteArray := prog_7_method_13_code
def yX5_isFigure : MethodName := ⟨RX5, "isFigure", "(I)Z"⟩
def RX6 : String := "SungLines"
def TX6 : u_T := fun k => match k with
  | 0 => ("SungLines", "song", "LSungLines$Song;", true)
  | 1 => ("SungLines", "board", "LSungLines$Board;", true)
  | 2 => ("SungLines", "counter", "LSungLines$Counter;", true)
  | 3 => ("SungLines", "chooser", "LSungLines$Chooser;", true)
  | 4 => ("SungLines", "history", "LSungLines$History;", true)
  | 5 => ("SungLines", "text", "LSungLines$Text;", true)
  | _ => ("SungLines", "refused", "[I", true)
def tyX6 : Nat → FieldType := fun k => match k with
  | 0 => .object "SungLines$Song"
  | 1 => .object "SungLines$Board"
  | 2 => .object "SungLines$Counter"
  | 3 => .object "SungLines$Chooser"
  | 4 => .object "SungLines$History"
  | 5 => .object "SungLines$Text"
  | _ => .array .int
abbrev wsX60 : List Cond := u_ws RX6 TX6 7
theorem nmX6 : ∀ a, a < 7 → ∀ b, b < 7 → a ≠ b → (TX6 a).2.1 ≠ (TX6 b).2.1 := by decide +kernel
theorem tyX6_ok : ∀ k, k < 7 → parseFieldDescriptor (TX6 k).2.2.1 = some (tyX6 k) := by decide +kernel
abbrev cX6_init : ByteArray := prog_1_method_1_code
def yX6_init : MethodName := ⟨RX6, "<init>", "()V"⟩
abbrev cX6_phrase : ByteArray := prog_1_method_2_code
def yX6_phrase : MethodName := ⟨RX6, "phrase", "(II)I"⟩
abbrev cX6_drops : ByteArray := prog_1_method_3_code
def yX6_drops : MethodName := ⟨RX6, "drops", "(I)I"⟩
abbrev cX6_begins : ByteArray := prog_1_method_4_code
def yX6_begins : MethodName := ⟨RX6, "begins", "(I)I"⟩
abbrev cX6_ends : ByteArray := prog_1_method_5_code
def yX6_ends : MethodName := ⟨RX6, "ends", "(I)I"⟩
abbrev cX6_follows : ByteArray := prog_1_method_6_code
def yX6_follows : MethodName := ⟨RX6, "follows", "(II)I"⟩
abbrev cX6_of : ByteArray := prog_1_method_7_code
def yX6_of : MethodName := ⟨RX6, "of", "(II)I"⟩
abbrev cX6_letter : ByteArray := prog_1_method_8_code
def yX6_letter : MethodName := ⟨RX6, "letter", "(I)I"⟩
abbrev cX6_wipes : ByteArray := prog_1_method_9_code
def yX6_wipes : MethodName := ⟨RX6, "wipes", "()I"⟩
abbrev cX6_cuts : ByteArray := prog_1_method_10_code
def yX6_cuts : MethodName := ⟨RX6, "cuts", "()J"⟩
abbrev cX6_best : ByteArray := prog_1_method_11_code
def yX6_best : MethodName := ⟨RX6, "best", "(II)I"⟩
abbrev cX6_sings : ByteArray := prog_1_method_12_code
def yX6_sings : MethodName := ⟨RX6, "sings", "(I)I"⟩
abbrev cX6_fixes : ByteArray := prog_1_method_13_code
def yX6_fixes : MethodName := ⟨RX6, "fixes", "(II)I"⟩
abbrev cX6_metre : ByteArray := prog_1_method_14_code
def yX6_metre : MethodName := ⟨RX6, "metre", "(I)I"⟩
abbrev cX6_marks : ByteArray := prog_1_method_15_code
def yX6_marks : MethodName := ⟨RX6, "marks", "(II)I"⟩
abbrev cX6_made : ByteArray := prog_1_method_16_code
def yX6_made : MethodName := ⟨RX6, "made", "()J"⟩
abbrev cX6_row : ByteArray := prog_1_method_17_code
def yX6_row : MethodName := ⟨RX6, "row", "(JI)I"⟩
abbrev cX6_weight : ByteArray := prog_1_method_18_code
def yX6_weight : MethodName := ⟨RX6, "weight", "(II)J"⟩
abbrev cX6_picks : ByteArray := prog_1_method_19_code
def yX6_picks : MethodName := ⟨RX6, "picks", "(III)I"⟩
abbrev cX6_type : ByteArray := prog_1_method_20_code
def yX6_type : MethodName := ⟨RX6, "type", "(I)I"⟩
abbrev cX6_clear : ByteArray := prog_1_method_21_code
def yX6_clear : MethodName := ⟨RX6, "clear", "()I"⟩
abbrev cX6_reads : ByteArray := prog_1_method_22_code
def yX6_reads : MethodName := ⟨RX6, "reads", "()I"⟩
abbrev cX6_back : ByteArray := prog_1_method_23_code
def yX6_back : MethodName := ⟨RX6, "back", "()I"⟩
abbrev cX6_told : ByteArray := prog_1_method_24_code
def yX6_told : MethodName := ⟨RX6, "told", "(I)I"⟩
abbrev cX6_digest : ByteArray := prog_1_method_25_code
def yX6_digest : MethodName := ⟨RX6, "digest", "()J"⟩
abbrev cX6_within : ByteArray := prog_1_method_26_code
def yX6_within : MethodName := ⟨RX6, "within", "(III)Z"⟩
abbrev cX6_isMaker : ByteArray := prog_1_method_27_code
def yX6_isMaker : MethodName := ⟨RX6, "isMaker", "(I)Z"⟩
abbrev cX6_isSlot : ByteArray := prog_1_method_28_code
def yX6_isSlot : MethodName := ⟨RX6, "isSlot", "(I)Z"⟩
abbrev cX6_isSet : ByteArray := prog_1_method_29_code
def yX6_isSet : MethodName := ⟨RX6, "isSet", "(I)Z"⟩
abbrev cX6_holds : ByteArray := prog_1_method_30_code
def yX6_holds : MethodName := ⟨RX6, "holds", "(II)Z"⟩
abbrev cX6_lettersIn : ByteArray := prog_1_method_31_code
def yX6_lettersIn : MethodName := ⟨RX6, "lettersIn", "(I)I"⟩
abbrev cX6_moraeIn : ByteArray := prog_1_method_32_code
def yX6_moraeIn : MethodName := ⟨RX6, "moraeIn", "(I)I"⟩
abbrev cX6_partOf : ByteArray := prog_1_method_33_code
def yX6_partOf : MethodName := ⟨RX6, "partOf", "([III)I"⟩
abbrev cX6_refusal : ByteArray := prog_1_method_34_code
def yX6_refusal : MethodName := ⟨RX6, "refusal", "(I)I"⟩
abbrev cX6_settled : ByteArray := prog_1_method_35_code
def yX6_settled : MethodName := ⟨RX6, "settled", "(I)I"⟩
abbrev cX6_countCuts : ByteArray := prog_1_method_36_code
def yX6_countCuts : MethodName := ⟨RX6, "countCuts", "()J"⟩
abbrev cX6_countMade : ByteArray := prog_1_method_37_code
def yX6_countMade : MethodName := ⟨RX6, "countMade", "(I)J"⟩
abbrev cX6_singBest : ByteArray := prog_1_method_38_code
def yX6_singBest : MethodName := ⟨RX6, "singBest", "(I)I"⟩
abbrev cX6_doOrder : ByteArray := prog_1_method_39_code
def yX6_doOrder : MethodName := ⟨RX6, "doOrder", "()I"⟩
abbrev cX6_factTold : ByteArray := prog_1_method_40_code
def yX6_factTold : MethodName := ⟨RX6, "factTold", "(I)I"⟩
def RX7 : String := "SungLinesModel"
def TX7 : u_T := fun k => match k with
  | 0 => ("SungLinesModel", "now", "[I", true)
  | 1 => ("SungLinesModel", "aside", "[I", true)
  | 2 => ("SungLinesModel", "past", "[I", true)
  | 3 => ("SungLinesModel", "states", "I", false)
  | 4 => ("SungLinesModel", "refused", "[I", true)
  | 5 => ("SungLinesModel", "text", "[I", true)
  | 6 => ("SungLinesModel", "length", "I", false)
  | 7 => ("SungLinesModel", "areCuts", "Z", false)
  | 8 => ("SungLinesModel", "on", "[J", true)
  | 9 => ("SungLinesModel", "isMuch", "Z", false)
  | 10 => ("SungLinesModel", "path", "[I", true)
  | 11 => ("SungLinesModel", "rowMany", "I", false)
  | 12 => ("SungLinesModel", "sums", "[I", true)
  | 13 => ("SungLinesModel", "counts", "[I", true)
  | 14 => ("SungLinesModel", "firsts", "[I", true)
  | 15 => ("SungLinesModel", "dear", "I", false)
  | 16 => ("SungLinesModel", "few", "I", false)
  | 17 => ("SungLinesModel", "at", "I", false)
  | 18 => ("SungLinesModel", "isFaulty", "Z", false)
  | 19 => ("SungLinesModel", "orders", "I", false)
  | 20 => ("SungLinesModel", "letters", "[I", true)
  | 21 => ("SungLinesModel", "numbers", "[I", true)
  | _ => ("SungLinesModel", "hash", "J", false)
def tyX7 : Nat → FieldType := fun k => match k with
  | 0 => .array .int
  | 1 => .array .int
  | 2 => .array .int
  | 3 => .int
  | 4 => .array .int
  | 5 => .array .int
  | 6 => .int
  | 7 => .boolean
  | 8 => .array .long
  | 9 => .boolean
  | 10 => .array .int
  | 11 => .int
  | 12 => .array .int
  | 13 => .array .int
  | 14 => .array .int
  | 15 => .int
  | 16 => .int
  | 17 => .int
  | 18 => .boolean
  | 19 => .int
  | 20 => .array .int
  | 21 => .array .int
  | _ => .long
abbrev wsX70 : List Cond := u_ws RX7 TX7 23
theorem nmX7 : ∀ a, a < 23 → ∀ b, b < 23 → a ≠ b → (TX7 a).2.1 ≠ (TX7 b).2.1 := by decide +kernel
theorem tyX7_ok : ∀ k, k < 23 → parseFieldDescriptor (TX7 k).2.2.1 = some (tyX7 k) := by decide +kernel
abbrev cX7_init : ByteArray := prog_9_method_1_code
def yX7_init : MethodName := ⟨RX7, "<init>", "()V"⟩
abbrev cX7_bad : ByteArray := prog_9_method_3_code
def yX7_bad : MethodName := ⟨RX7, "bad", "()I"⟩
abbrev cX7_no : ByteArray := prog_9_method_4_code
def yX7_no : MethodName := ⟨RX7, "no", "()I"⟩
abbrev cX7_full : ByteArray := prog_9_method_5_code
def yX7_full : MethodName := ⟨RX7, "full", "()I"⟩
abbrev cX7_much : ByteArray := prog_9_method_6_code
def yX7_much : MethodName := ⟨RX7, "much", "()I"⟩
abbrev cX7_within : ByteArray := prog_9_method_7_code
def yX7_within : MethodName := ⟨RX7, "within", "(JJJ)Z"⟩
abbrev cX7_has : ByteArray := prog_9_method_8_code
def yX7_has : MethodName := ⟨RX7, "has", "(II)Z"⟩
abbrev cX7_isPhrase : ByteArray := prog_9_method_9_code
def yX7_isPhrase : MethodName := ⟨RX7, "isPhrase", "(I)Z"⟩
abbrev cX7_laysAside : ByteArray := prog_9_method_10_code
def yX7_laysAside : MethodName := ⟨RX7, "laysAside", "()V"⟩
abbrev cX7_leaves : ByteArray := prog_9_method_11_code
def yX7_leaves : MethodName := ⟨RX7, "leaves", "()V"⟩
abbrev cX7_back : ByteArray := prog_9_method_12_code
def yX7_back : MethodName := ⟨RX7, "back", "()I"⟩
abbrev cX7_answers : ByteArray := prog_9_method_13_code
def yX7_answers : MethodName := ⟨RX7, "answers", "(I)I"⟩
abbrev cX7_sizeOf : ByteArray := prog_9_method_14_code
def yX7_sizeOf : MethodName := ⟨RX7, "sizeOf", "(I)I"⟩
abbrev cX7_moraeOf : ByteArray := prog_9_method_15_code
def yX7_moraeOf : MethodName := ⟨RX7, "moraeOf", "(I)I"⟩
abbrev cX7_isCode : ByteArray := prog_9_method_16_code
def yX7_isCode : MethodName := ⟨RX7, "isCode", "(I)Z"⟩
abbrev cX7_addsPhrase : ByteArray := prog_9_method_17_code
def yX7_addsPhrase : MethodName := ⟨RX7, "addsPhrase", "(II)I"⟩
abbrev cX7_dropsPhrase : ByteArray := prog_9_method_18_code
def yX7_dropsPhrase : MethodName := ⟨RX7, "dropsPhrase", "(I)I"⟩
abbrev cX7_sets : ByteArray := prog_9_method_19_code
def yX7_sets : MethodName := ⟨RX7, "sets", "(IIII)I"⟩
abbrev cX7_setsFollows : ByteArray := prog_9_method_20_code
def yX7_setsFollows : MethodName := ⟨RX7, "setsFollows", "(II)I"⟩
abbrev cX7_setsMark : ByteArray := prog_9_method_21_code
def yX7_setsMark : MethodName := ⟨RX7, "setsMark", "(II)I"⟩
abbrev cX7_phrase : ByteArray := prog_9_method_22_code
def yX7_phrase : MethodName := ⟨RX7, "phrase", "(II)I"⟩
abbrev cX7_drops : ByteArray := prog_9_method_23_code
def yX7_drops : MethodName := ⟨RX7, "drops", "(I)I"⟩
abbrev cX7_begins : ByteArray := prog_9_method_24_code
def yX7_begins : MethodName := ⟨RX7, "begins", "(I)I"⟩
abbrev cX7_ends : ByteArray := prog_9_method_25_code
def yX7_ends : MethodName := ⟨RX7, "ends", "(I)I"⟩
abbrev cX7_follows : ByteArray := prog_9_method_26_code
def yX7_follows : MethodName := ⟨RX7, "follows", "(II)I"⟩
abbrev cX7_metre : ByteArray := prog_9_method_27_code
def yX7_metre : MethodName := ⟨RX7, "metre", "(I)I"⟩
abbrev cX7_marks : ByteArray := prog_9_method_28_code
def yX7_marks : MethodName := ⟨RX7, "marks", "(II)I"⟩
abbrev cX7_habitOf : ByteArray := prog_9_method_29_code
def yX7_habitOf : MethodName := ⟨RX7, "habitOf", "(II)I"⟩
abbrev cX7_tellPhrase : ByteArray := prog_9_method_30_code
def yX7_tellPhrase : MethodName := ⟨RX7, "tellPhrase", "(II)I"⟩
abbrev cX7_of : ByteArray := prog_9_method_31_code
def yX7_of : MethodName := ⟨RX7, "of", "(II)I"⟩
abbrev cX7_letter : ByteArray := prog_9_method_32_code
def yX7_letter : MethodName := ⟨RX7, "letter", "(I)I"⟩
abbrev cX7_wipes : ByteArray := prog_9_method_33_code
def yX7_wipes : MethodName := ⟨RX7, "wipes", "()I"⟩
abbrev cX7_lastPlace : ByteArray := prog_9_method_34_code
def yX7_lastPlace : MethodName := ⟨RX7, "lastPlace", "()I"⟩
abbrev cX7_standsAhead : ByteArray := prog_9_method_35_code
def yX7_standsAhead : MethodName := ⟨RX7, "standsAhead", "(II)Z"⟩
abbrev cX7_isMark : ByteArray := prog_9_method_36_code
def yX7_isMark : MethodName := ⟨RX7, "isMark", "(II)Z"⟩
abbrev cX7_leads : ByteArray := prog_9_method_37_code
def yX7_leads : MethodName := ⟨RX7, "leads", "(II)I"⟩
abbrev cX7_weightOf : ByteArray := prog_9_method_38_code
def yX7_weightOf : MethodName := ⟨RX7, "weightOf", "(II)I"⟩
abbrev cX7_more : ByteArray := prog_9_method_39_code
def yX7_more : MethodName := ⟨RX7, "more", "(JJJ)J"⟩
abbrev cX7_sumFrom : ByteArray := prog_9_method_40_code
def yX7_sumFrom : MethodName := ⟨RX7, "sumFrom", "(III)J"⟩
abbrev cX7_laysWays : ByteArray := prog_9_method_41_code
def yX7_laysWays : MethodName := ⟨RX7, "laysWays", "(ZI)J"⟩
abbrev cX7_waysOr : ByteArray := prog_9_method_42_code
def yX7_waysOr : MethodName := ⟨RX7, "waysOr", "(ZI)J"⟩
abbrev cX7_cuts : ByteArray := prog_9_method_43_code
def yX7_cuts : MethodName := ⟨RX7, "cuts", "()J"⟩
abbrev cX7_made : ByteArray := prog_9_method_44_code
def yX7_made : MethodName := ⟨RX7, "made", "()J"⟩
abbrev cX7_goes : ByteArray := prog_9_method_45_code
def yX7_goes : MethodName := ⟨RX7, "goes", "(JI)V"⟩
abbrev cX7_tellRow : ByteArray := prog_9_method_46_code
def yX7_tellRow : MethodName := ⟨RX7, "tellRow", "(I)I"⟩
abbrev cX7_row : ByteArray := prog_9_method_47_code
def yX7_row : MethodName := ⟨RX7, "row", "(JI)I"⟩
abbrev cX7_isMaker : ByteArray := prog_9_method_48_code
def yX7_isMaker : MethodName := ⟨RX7, "isMaker", "(I)Z"⟩
abbrev cX7_weightFrom : ByteArray := prog_9_method_49_code
def yX7_weightFrom : MethodName := ⟨RX7, "weightFrom", "(II)J"⟩
abbrev cX7_weight : ByteArray := prog_9_method_50_code
def yX7_weight : MethodName := ⟨RX7, "weight", "(II)J"⟩
abbrev cX7_picks : ByteArray := prog_9_method_51_code
def yX7_picks : MethodName := ⟨RX7, "picks", "(III)I"⟩
abbrev cX7_dearest : ByteArray := prog_9_method_52_code
def yX7_dearest : MethodName := ⟨RX7, "dearest", "(III)I"⟩
abbrev cX7_laysBest : ByteArray := prog_9_method_53_code
def yX7_laysBest : MethodName := ⟨RX7, "laysBest", "(I)V"⟩
abbrev cX7_findsBest : ByteArray := prog_9_method_54_code
def yX7_findsBest : MethodName := ⟨RX7, "findsBest", "(I)I"⟩
abbrev cX7_best : ByteArray := prog_9_method_55_code
def yX7_best : MethodName := ⟨RX7, "best", "(II)I"⟩
abbrev cX7_singsOne : ByteArray := prog_9_method_56_code
def yX7_singsOne : MethodName := ⟨RX7, "singsOne", "(I)I"⟩
abbrev cX7_sings : ByteArray := prog_9_method_57_code
def yX7_sings : MethodName := ⟨RX7, "sings", "(I)I"⟩
abbrev cX7_fixesTo : ByteArray := prog_9_method_58_code
def yX7_fixesTo : MethodName := ⟨RX7, "fixesTo", "(II)I"⟩
abbrev cX7_fixes : ByteArray := prog_9_method_59_code
def yX7_fixes : MethodName := ⟨RX7, "fixes", "(II)I"⟩
abbrev cX7_type : ByteArray := prog_9_method_60_code
def yX7_type : MethodName := ⟨RX7, "type", "(I)I"⟩
abbrev cX7_clear : ByteArray := prog_9_method_61_code
def yX7_clear : MethodName := ⟨RX7, "clear", "()I"⟩
abbrev cX7_isAt : ByteArray := prog_9_method_62_code
def yX7_isAt : MethodName := ⟨RX7, "isAt", "(II)Z"⟩
abbrev cX7_blanks : ByteArray := prog_9_method_63_code
def yX7_blanks : MethodName := ⟨RX7, "blanks", "()V"⟩
abbrev cX7_number : ByteArray := prog_9_method_64_code
def yX7_number : MethodName := ⟨RX7, "number", "()I"⟩
abbrev cX7_passesLetters : ByteArray := prog_9_method_65_code
def yX7_passesLetters : MethodName := ⟨RX7, "passesLetters", "(II)I"⟩
abbrev cX7_manyOf : ByteArray := prog_9_method_66_code
def yX7_manyOf : MethodName := ⟨RX7, "manyOf", "(I)I"⟩
abbrev cX7_readsParts : ByteArray := prog_9_method_67_code
def yX7_readsParts : MethodName := ⟨RX7, "readsParts", "(II)V"⟩
abbrev cX7_readsOrder : ByteArray := prog_9_method_68_code
def yX7_readsOrder : MethodName := ⟨RX7, "readsOrder", "()V"⟩
abbrev cX7_isRead : ByteArray := prog_9_method_69_code
def yX7_isRead : MethodName := ⟨RX7, "isRead", "()Z"⟩
abbrev cX7_isLetter : ByteArray := prog_9_method_70_code
def yX7_isLetter : MethodName := ⟨RX7, "isLetter", "(I)Z"⟩
abbrev cX7_codeFrom : ByteArray := prog_9_method_71_code
def yX7_codeFrom : MethodName := ⟨RX7, "codeFrom", "(I)I"⟩
abbrev cX7_setsLine : ByteArray := prog_9_method_72_code
def yX7_setsLine : MethodName := ⟨RX7, "setsLine", "(I)I"⟩
abbrev cX7_doesOrder : ByteArray := prog_9_method_73_code
def yX7_doesOrder : MethodName := ⟨RX7, "doesOrder", "(I)I"⟩
abbrev cX7_reads : ByteArray := prog_9_method_74_code
def yX7_reads : MethodName := ⟨RX7, "reads", "()I"⟩
abbrev cX7_toldOf : ByteArray := prog_9_method_75_code
def yX7_toldOf : MethodName := ⟨RX7, "toldOf", "(I)I"⟩
abbrev cX7_told : ByteArray := prog_9_method_76_code
def yX7_told : MethodName := ⟨RX7, "told", "(I)I"⟩
abbrev cX7_mix : ByteArray := prog_9_method_77_code
def yX7_mix : MethodName := ⟨RX7, "mix", "(J)V"⟩
abbrev cX7_digest : ByteArray := prog_9_method_78_code
def yX7_digest : MethodName := ⟨RX7, "digest", "()J"⟩
def RJ9 : String := "java/lang/Math"
def TJ9 : u_T := fun k => match k with
  | _ => ("", "", "", false)
def tyJ9 : Nat → FieldType := fun k => match k with
  | _ => .int
abbrev wsJ90 : List Cond := u_ws RJ9 TJ9 0
theorem nmJ9 : ∀ a, a < 0 → ∀ b, b < 0 → a ≠ b → (TJ9 a).2.1 ≠ (TJ9 b).2.1 := by decide +kernel
theorem tyJ9_ok : ∀ k, k < 0 → parseFieldDescriptor (TJ9 k).2.2.1 = some (tyJ9 k) := by decide +kernel
abbrev cJ9_max_f86c9 : ByteArray := prog_10_method_66_code
def yJ9_max_f86c9 : MethodName := ⟨RJ9, "max", "(JJ)J"⟩
abbrev cJ9_min_7cf53 : ByteArray := prog_10_method_69_code
def yJ9_min_7cf53 : MethodName := ⟨RJ9, "min", "(II)I"⟩
def RJ10 : String := "java/lang/System"
def TJ10 : u_T := fun k => match k with
  | _ => ("", "", "", false)
def tyJ10 : Nat → FieldType := fun k => match k with
  | _ => .int
abbrev wsJ100 : List Cond := u_ws RJ10 TJ10 0
theorem nmJ10 : ∀ a, a < 0 → ∀ b, b < 0 → a ≠ b → (TJ10 a).2.1 ≠ (TJ10 b).2.1 := by decide +kernel
theorem tyJ10_ok : ∀ k, k < 0 → parseFieldDescriptor (TJ10 k).2.2.1 = some (tyJ10 k) := by decide +kernel
def RJ7 : String := "java/util/Arrays"
def TJ7 : u_T := fun k => match k with
  | _ => ("", "", "", false)
def tyJ7 : Nat → FieldType := fun k => match k with
  | _ => .int
abbrev wsJ70 : List Cond := u_ws RJ7 TJ7 0
theorem nmJ7 : ∀ a, a < 0 → ∀ b, b < 0 → a ≠ b → (TJ7 a).2.1 ≠ (TJ7 b).2.1 := by decide +kernel
theorem tyJ7_ok : ∀ k, k < 0 → parseFieldDescriptor (TJ7 k).2.2.1 = some (tyJ7 k) := by decide +kernel
abbrev cJ7_fill_d0a16 : ByteArray := prog_12_method_101_code
def yJ7_fill_d0a16 : MethodName := ⟨RJ7, "fill", "([JJ)V"⟩
abbrev cJ7_fill_53178 : ByteArray := prog_12_method_103_code
def yJ7_fill_53178 : MethodName := ⟨RJ7, "fill", "([II)V"⟩
def RL : String := "SungLinesLaw"
abbrev cL_law : ByteArray := code
def yL_law : MethodName := ⟨RL, "law", "([I)Z"⟩
theorem inX0 : ∀ w ∈ wsX00, w ∈ lw_tbl := by decide +kernel
theorem inX1 : ∀ w ∈ wsX10, w ∈ lw_tbl := by decide +kernel
theorem inX2 : ∀ w ∈ wsX20, w ∈ lw_tbl := by decide +kernel
theorem inX3 : ∀ w ∈ wsX30, w ∈ lw_tbl := by decide +kernel
theorem inX4 : ∀ w ∈ wsX40, w ∈ lw_tbl := by decide +kernel
theorem inX5 : ∀ w ∈ wsX50, w ∈ lw_tbl := by decide +kernel
theorem inX6 : ∀ w ∈ wsX60, w ∈ lw_tbl := by decide +kernel
theorem inX7 : ∀ w ∈ wsX70, w ∈ lw_tbl := by decide +kernel
theorem inJ9 : ∀ w ∈ wsJ90, w ∈ lw_tbl := by decide +kernel
theorem inJ10 : ∀ w ∈ wsJ100, w ∈ lw_tbl := by decide +kernel
theorem inJ7 : ∀ w ∈ wsJ70, w ∈ lw_tbl := by decide +kernel
abbrev vwCl : List vw_C := [(RX0, TX0, 4), (RX1, TX1, 8), (RX2, TX2, 8), (RX3, TX3, 3), (RX4, TX4, 13), (RX5, TX5, 7), (RX6, TX6, 7), (RX7, TX7, 23)]
end
section
theorem dX0_init_0 : decode cX0_init 0 = .ok (.aload_n 0, 1) := by decide +kernel
theorem dX0_init_1 : decode cX0_init 1 = .ok (.invokespecial 3, 3) := by decide +kernel
theorem dX0_init_4 : decode cX0_init 4 = .ok (.aload_n 0, 1) := by decide +kernel
theorem dX0_init_5 : decode cX0_init 5 = .ok (.sipush 492, 3) := by decide +kernel
theorem dX0_init_8 : decode cX0_init 8 = .ok (.newarray .int, 2) := by decide +kernel
theorem dX0_init_10 : decode cX0_init 10 = .ok (.putfield 9, 3) := by decide +kernel
theorem dX0_init_13 : decode cX0_init 13 = .ok (.aload_n 0, 1) := by decide +kernel
theorem dX0_init_14 : decode cX0_init 14 = .ok (.bipush 7, 2) := by decide +kernel
theorem dX0_init_16 : decode cX0_init 16 = .ok (.newarray .int, 2) := by decide +kernel
theorem dX0_init_18 : decode cX0_init 18 = .ok (.putfield 15, 3) := by decide +kernel
theorem dX0_init_21 : decode cX0_init 21 = .ok (.aload_n 0, 1) := by decide +kernel
theorem dX0_init_22 : decode cX0_init 22 = .ok (.aload_n 1, 1) := by decide +kernel
theorem dX0_init_23 : decode cX0_init 23 = .ok (.putfield 18, 3) := by decide +kernel
theorem dX0_init_26 : decode cX0_init 26 = .ok (.return_, 1) := by decide +kernel
theorem dX0_landingOf_0 : decode cX0_landingOf 0 = .ok (.iload_n 1, 1) := by decide +kernel
theorem dX0_landingOf_1 : decode cX0_landingOf 1 = .ok (.bipush 12, 2) := by decide +kernel
theorem dX0_landingOf_3 : decode cX0_landingOf 3 = .ok (.imul, 1) := by decide +kernel
theorem dX0_landingOf_4 : decode cX0_landingOf 4 = .ok (.iload_n 2, 1) := by decide +kernel
theorem dX0_landingOf_5 : decode cX0_landingOf 5 = .ok (.iadd, 1) := by decide +kernel
theorem dX0_landingOf_6 : decode cX0_landingOf 6 = .ok (.istore_n 3, 1) := by decide +kernel
theorem dX0_landingOf_7 : decode cX0_landingOf 7 = .ok (.iload_n 3, 1) := by decide +kernel
theorem dX0_landingOf_8 : decode cX0_landingOf 8 = .ok (.ifCond .lt 21, 3) := by decide +kernel
theorem dX0_landingOf_11 : decode cX0_landingOf 11 = .ok (.iload_n 3, 1) := by decide +kernel
theorem dX0_landingOf_12 : decode cX0_landingOf 12 = .ok (.aload_n 0, 1) := by decide +kernel
theorem dX0_landingOf_13 : decode cX0_landingOf 13 = .ok (.getfield 9, 3) := by decide +kernel
theorem dX0_landingOf_16 : decode cX0_landingOf 16 = .ok (.arraylength, 1) := by decide +kernel
theorem dX0_landingOf_17 : decode cX0_landingOf 17 = .ok (.if_icmp .ge 12, 3) := by decide +kernel
theorem dX0_landingOf_20 : decode cX0_landingOf 20 = .ok (.aload_n 0, 1) := by decide +kernel
theorem dX0_landingOf_21 : decode cX0_landingOf 21 = .ok (.getfield 9, 3) := by decide +kernel
theorem dX0_landingOf_24 : decode cX0_landingOf 24 = .ok (.iload_n 3, 1) := by decide +kernel
theorem dX0_landingOf_25 : decode cX0_landingOf 25 = .ok (.iaload, 1) := by decide +kernel
theorem dX0_landingOf_26 : decode cX0_landingOf 26 = .ok (.goto 4, 3) := by decide +kernel
theorem dX0_landingOf_29 : decode cX0_landingOf 29 = .ok (.iconst 0, 1) := by decide +kernel
theorem dX0_landingOf_30 : decode cX0_landingOf 30 = .ok (.ireturn, 1) := by decide +kernel
theorem dX0_layLine_0 : decode cX0_layLine 0 = .ok (.aload_n 0, 1) := by decide +kernel
theorem dX0_layLine_1 : decode cX0_layLine 1 = .ok (.aload_n 0, 1) := by decide +kernel
theorem dX0_layLine_2 : decode cX0_layLine 2 = .ok (.getfield 18, 3) := by decide +kernel
theorem dX0_layLine_5 : decode cX0_layLine 5 = .ok (.getfield 22, 3) := by decide +kernel
theorem dX0_layLine_8 : decode cX0_layLine 8 = .ok (.putfield 28, 3) := by decide +kernel
theorem dX0_layLine_11 : decode cX0_layLine 11 = .ok (.iconst 0, 1) := by decide +kernel
theorem dX0_layLine_12 : decode cX0_layLine 12 = .ok (.istore_n 1, 1) := by decide +kernel
theorem dX0_layLine_13 : decode cX0_layLine 13 = .ok (.iload_n 1, 1) := by decide +kernel
theorem dX0_layLine_14 : decode cX0_layLine 14 = .ok (.aload_n 0, 1) := by decide +kernel
theorem dX0_layLine_15 : decode cX0_layLine 15 = .ok (.getfield 28, 3) := by decide +kernel
theorem dX0_layLine_18 : decode cX0_layLine 18 = .ok (.if_icmp .ge 91, 3) := by decide +kernel
theorem dX0_layLine_21 : decode cX0_layLine 21 = .ok (.aload_n 0, 1) := by decide +kernel
theorem dX0_layLine_22 : decode cX0_layLine 22 = .ok (.iload_n 1, 1) := by decide +kernel
theorem dX0_layLine_23 : decode cX0_layLine 23 = .ok (.invokevirtual 31, 3) := by decide +kernel
theorem dX0_layLine_26 : decode cX0_layLine 26 = .ok (.iconst 0, 1) := by decide +kernel
theorem dX0_layLine_27 : decode cX0_layLine 27 = .ok (.istore_n 2, 1) := by decide +kernel
theorem dX0_layLine_28 : decode cX0_layLine 28 = .ok (.iload_n 2, 1) := by decide +kernel
theorem dX0_layLine_29 : decode cX0_layLine 29 = .ok (.aload_n 0, 1) := by decide +kernel
theorem dX0_layLine_30 : decode cX0_layLine 30 = .ok (.getfield 18, 3) := by decide +kernel
theorem dX0_layLine_33 : decode cX0_layLine 33 = .ok (.getfield 35, 3) := by decide +kernel
theorem dX0_layLine_36 : decode cX0_layLine 36 = .ok (.if_icmp .ge 67, 3) := by decide +kernel
theorem dX0_layLine_39 : decode cX0_layLine 39 = .ok (.aload_n 0, 1) := by decide +kernel
theorem dX0_layLine_40 : decode cX0_layLine 40 = .ok (.getfield 18, 3) := by decide +kernel
theorem dX0_layLine_43 : decode cX0_layLine 43 = .ok (.getfield 38, 3) := by decide +kernel
theorem dX0_layLine_46 : decode cX0_layLine 46 = .ok (.iload_n 2, 1) := by decide +kernel
theorem dX0_layLine_47 : decode cX0_layLine 47 = .ok (.iaload, 1) := by decide +kernel
theorem dX0_layLine_48 : decode cX0_layLine 48 = .ok (.istore_n 3, 1) := by decide +kernel
theorem dX0_layLine_49 : decode cX0_layLine 49 = .ok (.aload_n 0, 1) := by decide +kernel
theorem dX0_layLine_50 : decode cX0_layLine 50 = .ok (.getfield 15, 3) := by decide +kernel
theorem dX0_layLine_53 : decode cX0_layLine 53 = .ok (.iload_n 3, 1) := by decide +kernel
theorem dX0_layLine_54 : decode cX0_layLine 54 = .ok (.iaload, 1) := by decide +kernel
theorem dX0_layLine_55 : decode cX0_layLine 55 = .ok (.aload_n 0, 1) := by decide +kernel
theorem dX0_layLine_56 : decode cX0_layLine 56 = .ok (.getfield 18, 3) := by decide +kernel
theorem dX0_layLine_59 : decode cX0_layLine 59 = .ok (.getfield 41, 3) := by decide +kernel
theorem dX0_layLine_62 : decode cX0_layLine 62 = .ok (.iload_n 2, 1) := by decide +kernel
theorem dX0_layLine_63 : decode cX0_layLine 63 = .ok (.iaload, 1) := by decide +kernel
theorem dX0_layLine_64 : decode cX0_layLine 64 = .ok (.if_icmp .ne 7, 3) := by decide +kernel
theorem dX0_layLine_67 : decode cX0_layLine 67 = .ok (.iconst 1, 1) := by decide +kernel
theorem dX0_layLine_68 : decode cX0_layLine 68 = .ok (.goto 4, 3) := by decide +kernel
theorem dX0_layLine_71 : decode cX0_layLine 71 = .ok (.iconst 0, 1) := by decide +kernel
theorem dX0_layLine_72 : decode cX0_layLine 72 = .ok (.istore 4, 2) := by decide +kernel
theorem dX0_layLine_74 : decode cX0_layLine 74 = .ok (.aload_n 0, 1) := by decide +kernel
theorem dX0_layLine_75 : decode cX0_layLine 75 = .ok (.getfield 9, 3) := by decide +kernel
theorem dX0_layLine_78 : decode cX0_layLine 78 = .ok (.iload_n 1, 1) := by decide +kernel
theorem dX0_layLine_79 : decode cX0_layLine 79 = .ok (.bipush 12, 2) := by decide +kernel
theorem dX0_layLine_81 : decode cX0_layLine 81 = .ok (.imul, 1) := by decide +kernel
theorem dX0_layLine_82 : decode cX0_layLine 82 = .ok (.iload_n 2, 1) := by decide +kernel
theorem dX0_layLine_83 : decode cX0_layLine 83 = .ok (.iadd, 1) := by decide +kernel
theorem dX0_layLine_84 : decode cX0_layLine 84 = .ok (.iload 4, 2) := by decide +kernel
theorem dX0_layLine_86 : decode cX0_layLine 86 = .ok (.ifCond .eq 9, 3) := by decide +kernel
theorem dX0_layLine_89 : decode cX0_layLine 89 = .ok (.iload_n 1, 1) := by decide +kernel
theorem dX0_layLine_90 : decode cX0_layLine 90 = .ok (.iload_n 3, 1) := by decide +kernel
theorem dX0_layLine_91 : decode cX0_layLine 91 = .ok (.iadd, 1) := by decide +kernel
theorem dX0_layLine_92 : decode cX0_layLine 92 = .ok (.goto 4, 3) := by decide +kernel
theorem dX0_layLine_95 : decode cX0_layLine 95 = .ok (.iconst 0, 1) := by decide +kernel
theorem dX0_layLine_96 : decode cX0_layLine 96 = .ok (.iastore, 1) := by decide +kernel
theorem dX0_layLine_97 : decode cX0_layLine 97 = .ok (.iinc 2 1, 3) := by decide +kernel
theorem dX0_layLine_100 : decode cX0_layLine 100 = .ok (.goto (-72), 3) := by decide +kernel
theorem dX0_layLine_103 : decode cX0_layLine 103 = .ok (.iinc 1 1, 3) := by decide +kernel
theorem dX0_layLine_106 : decode cX0_layLine 106 = .ok (.goto (-93), 3) := by decide +kernel
theorem dX0_layLine_109 : decode cX0_layLine 109 = .ok (.return_, 1) := by decide +kernel
theorem dX0_cutPieces_0 : decode cX0_cutPieces 0 = .ok (.iconst 0, 1) := by decide +kernel
theorem dX0_cutPieces_1 : decode cX0_cutPieces 1 = .ok (.istore_n 2, 1) := by decide +kernel
theorem dX0_cutPieces_2 : decode cX0_cutPieces 2 = .ok (.iconst 1, 1) := by decide +kernel
theorem dX0_cutPieces_3 : decode cX0_cutPieces 3 = .ok (.istore_n 3, 1) := by decide +kernel
theorem dX0_cutPieces_4 : decode cX0_cutPieces 4 = .ok (.iload_n 3, 1) := by decide +kernel
theorem dX0_cutPieces_5 : decode cX0_cutPieces 5 = .ok (.bipush 6, 2) := by decide +kernel
theorem dX0_cutPieces_7 : decode cX0_cutPieces 7 = .ok (.if_icmp .gt 52, 3) := by decide +kernel
theorem dX0_cutPieces_10 : decode cX0_cutPieces 10 = .ok (.iload_n 1, 1) := by decide +kernel
theorem dX0_cutPieces_11 : decode cX0_cutPieces 11 = .ok (.iload_n 3, 1) := by decide +kernel
theorem dX0_cutPieces_12 : decode cX0_cutPieces 12 = .ok (.iadd, 1) := by decide +kernel
theorem dX0_cutPieces_13 : decode cX0_cutPieces 13 = .ok (.iconst 1, 1) := by decide +kernel
theorem dX0_cutPieces_14 : decode cX0_cutPieces 14 = .ok (.isub, 1) := by decide +kernel
theorem dX0_cutPieces_15 : decode cX0_cutPieces 15 = .ok (.istore 4, 2) := by decide +kernel
theorem dX0_cutPieces_17 : decode cX0_cutPieces 17 = .ok (.iload 4, 2) := by decide +kernel
theorem dX0_cutPieces_19 : decode cX0_cutPieces 19 = .ok (.aload_n 0, 1) := by decide +kernel
theorem dX0_cutPieces_20 : decode cX0_cutPieces 20 = .ok (.getfield 28, 3) := by decide +kernel
theorem dX0_cutPieces_23 : decode cX0_cutPieces 23 = .ok (.if_icmp .ge 21, 3) := by decide +kernel
theorem dX0_cutPieces_26 : decode cX0_cutPieces 26 = .ok (.iload_n 2, 1) := by decide +kernel
theorem dX0_cutPieces_27 : decode cX0_cutPieces 27 = .ok (.bipush 10, 2) := by decide +kernel
theorem dX0_cutPieces_29 : decode cX0_cutPieces 29 = .ok (.imul, 1) := by decide +kernel
theorem dX0_cutPieces_30 : decode cX0_cutPieces 30 = .ok (.aload_n 0, 1) := by decide +kernel
theorem dX0_cutPieces_31 : decode cX0_cutPieces 31 = .ok (.getfield 18, 3) := by decide +kernel
theorem dX0_cutPieces_34 : decode cX0_cutPieces 34 = .ok (.getfield 44, 3) := by decide +kernel
theorem dX0_cutPieces_37 : decode cX0_cutPieces 37 = .ok (.iload 4, 2) := by decide +kernel
theorem dX0_cutPieces_39 : decode cX0_cutPieces 39 = .ok (.iaload, 1) := by decide +kernel
theorem dX0_cutPieces_40 : decode cX0_cutPieces 40 = .ok (.iadd, 1) := by decide +kernel
theorem dX0_cutPieces_41 : decode cX0_cutPieces 41 = .ok (.goto 4, 3) := by decide +kernel
theorem dX0_cutPieces_44 : decode cX0_cutPieces 44 = .ok (.iconst 0, 1) := by decide +kernel
theorem dX0_cutPieces_45 : decode cX0_cutPieces 45 = .ok (.istore_n 2, 1) := by decide +kernel
theorem dX0_cutPieces_46 : decode cX0_cutPieces 46 = .ok (.aload_n 0, 1) := by decide +kernel
theorem dX0_cutPieces_47 : decode cX0_cutPieces 47 = .ok (.getfield 15, 3) := by decide +kernel
theorem dX0_cutPieces_50 : decode cX0_cutPieces 50 = .ok (.iload_n 3, 1) := by decide +kernel
theorem dX0_cutPieces_51 : decode cX0_cutPieces 51 = .ok (.iload_n 2, 1) := by decide +kernel
theorem dX0_cutPieces_52 : decode cX0_cutPieces 52 = .ok (.iastore, 1) := by decide +kernel
theorem dX0_cutPieces_53 : decode cX0_cutPieces 53 = .ok (.iinc 3 1, 3) := by decide +kernel
theorem dX0_cutPieces_56 : decode cX0_cutPieces 56 = .ok (.goto (-52), 3) := by decide +kernel
theorem dX0_cutPieces_59 : decode cX0_cutPieces 59 = .ok (.return_, 1) := by decide +kernel
theorem dX0_layMetre_0 : decode cX0_layMetre 0 = .ok (.aload_n 0, 1) := by decide +kernel
theorem dX0_layMetre_1 : decode cX0_layMetre 1 = .ok (.aload_n 0, 1) := by decide +kernel
theorem dX0_layMetre_2 : decode cX0_layMetre 2 = .ok (.getfield 18, 3) := by decide +kernel
theorem dX0_layMetre_5 : decode cX0_layMetre 5 = .ok (.getfield 47, 3) := by decide +kernel
theorem dX0_layMetre_8 : decode cX0_layMetre 8 = .ok (.putfield 28, 3) := by decide +kernel
theorem dX0_layMetre_11 : decode cX0_layMetre 11 = .ok (.aload_n 0, 1) := by decide +kernel
theorem dX0_layMetre_12 : decode cX0_layMetre 12 = .ok (.getfield 28, 3) := by decide +kernel
theorem dX0_layMetre_15 : decode cX0_layMetre 15 = .ok (.istore_n 1, 1) := by decide +kernel
theorem dX0_layMetre_16 : decode cX0_layMetre 16 = .ok (.aload_n 0, 1) := by decide +kernel
theorem dX0_layMetre_17 : decode cX0_layMetre 17 = .ok (.getfield 28, 3) := by decide +kernel
theorem dX0_layMetre_20 : decode cX0_layMetre 20 = .ok (.iconst 1, 1) := by decide +kernel
theorem dX0_layMetre_21 : decode cX0_layMetre 21 = .ok (.isub, 1) := by decide +kernel
theorem dX0_layMetre_22 : decode cX0_layMetre 22 = .ok (.istore_n 2, 1) := by decide +kernel
theorem dX0_layMetre_23 : decode cX0_layMetre 23 = .ok (.iload_n 2, 1) := by decide +kernel
theorem dX0_layMetre_24 : decode cX0_layMetre 24 = .ok (.ifCond .lt 120, 3) := by decide +kernel
theorem dX0_layMetre_27 : decode cX0_layMetre 27 = .ok (.iload_n 2, 1) := by decide +kernel
theorem dX0_layMetre_28 : decode cX0_layMetre 28 = .ok (.iconst 1, 1) := by decide +kernel
theorem dX0_layMetre_29 : decode cX0_layMetre 29 = .ok (.iadd, 1) := by decide +kernel
theorem dX0_layMetre_30 : decode cX0_layMetre 30 = .ok (.aload_n 0, 1) := by decide +kernel
theorem dX0_layMetre_31 : decode cX0_layMetre 31 = .ok (.getfield 28, 3) := by decide +kernel
theorem dX0_layMetre_34 : decode cX0_layMetre 34 = .ok (.if_icmp .ge 22, 3) := by decide +kernel
theorem dX0_layMetre_37 : decode cX0_layMetre 37 = .ok (.aload_n 0, 1) := by decide +kernel
theorem dX0_layMetre_38 : decode cX0_layMetre 38 = .ok (.getfield 18, 3) := by decide +kernel
theorem dX0_layMetre_41 : decode cX0_layMetre 41 = .ok (.getfield 50, 3) := by decide +kernel
theorem dX0_layMetre_44 : decode cX0_layMetre 44 = .ok (.iload_n 2, 1) := by decide +kernel
theorem dX0_layMetre_45 : decode cX0_layMetre 45 = .ok (.iconst 1, 1) := by decide +kernel
theorem dX0_layMetre_46 : decode cX0_layMetre 46 = .ok (.iadd, 1) := by decide +kernel
theorem dX0_layMetre_47 : decode cX0_layMetre 47 = .ok (.iaload, 1) := by decide +kernel
theorem dX0_layMetre_48 : decode cX0_layMetre 48 = .ok (.iconst 1, 1) := by decide +kernel
theorem dX0_layMetre_49 : decode cX0_layMetre 49 = .ok (.if_icmp .ne 7, 3) := by decide +kernel
theorem dX0_layMetre_52 : decode cX0_layMetre 52 = .ok (.iload_n 2, 1) := by decide +kernel
theorem dX0_layMetre_53 : decode cX0_layMetre 53 = .ok (.iconst 1, 1) := by decide +kernel
theorem dX0_layMetre_54 : decode cX0_layMetre 54 = .ok (.iadd, 1) := by decide +kernel
theorem dX0_layMetre_55 : decode cX0_layMetre 55 = .ok (.istore_n 1, 1) := by decide +kernel
theorem dX0_layMetre_56 : decode cX0_layMetre 56 = .ok (.aload_n 0, 1) := by decide +kernel
theorem dX0_layMetre_57 : decode cX0_layMetre 57 = .ok (.getfield 18, 3) := by decide +kernel
theorem dX0_layMetre_60 : decode cX0_layMetre 60 = .ok (.getfield 50, 3) := by decide +kernel
theorem dX0_layMetre_63 : decode cX0_layMetre 63 = .ok (.iload_n 2, 1) := by decide +kernel
theorem dX0_layMetre_64 : decode cX0_layMetre 64 = .ok (.iaload, 1) := by decide +kernel
theorem dX0_layMetre_65 : decode cX0_layMetre 65 = .ok (.iconst 2, 1) := by decide +kernel
theorem dX0_layMetre_66 : decode cX0_layMetre 66 = .ok (.if_icmp .ne 7, 3) := by decide +kernel
theorem dX0_layMetre_69 : decode cX0_layMetre 69 = .ok (.iconst 1, 1) := by decide +kernel
theorem dX0_layMetre_70 : decode cX0_layMetre 70 = .ok (.goto 4, 3) := by decide +kernel
theorem dX0_layMetre_73 : decode cX0_layMetre 73 = .ok (.iconst 0, 1) := by decide +kernel
theorem dX0_layMetre_74 : decode cX0_layMetre 74 = .ok (.istore_n 3, 1) := by decide +kernel
theorem dX0_layMetre_75 : decode cX0_layMetre 75 = .ok (.iconst 0, 1) := by decide +kernel
theorem dX0_layMetre_76 : decode cX0_layMetre 76 = .ok (.istore 4, 2) := by decide +kernel
theorem dX0_layMetre_78 : decode cX0_layMetre 78 = .ok (.iload 4, 2) := by decide +kernel
theorem dX0_layMetre_80 : decode cX0_layMetre 80 = .ok (.aload_n 0, 1) := by decide +kernel
theorem dX0_layMetre_81 : decode cX0_layMetre 81 = .ok (.getfield 18, 3) := by decide +kernel
theorem dX0_layMetre_84 : decode cX0_layMetre 84 = .ok (.getfield 35, 3) := by decide +kernel
theorem dX0_layMetre_87 : decode cX0_layMetre 87 = .ok (.if_icmp .ge 51, 3) := by decide +kernel
theorem dX0_layMetre_90 : decode cX0_layMetre 90 = .ok (.iload_n 2, 1) := by decide +kernel
theorem dX0_layMetre_91 : decode cX0_layMetre 91 = .ok (.aload_n 0, 1) := by decide +kernel
theorem dX0_layMetre_92 : decode cX0_layMetre 92 = .ok (.getfield 18, 3) := by decide +kernel
theorem dX0_layMetre_95 : decode cX0_layMetre 95 = .ok (.getfield 53, 3) := by decide +kernel
theorem dX0_layMetre_98 : decode cX0_layMetre 98 = .ok (.iload 4, 2) := by decide +kernel
theorem dX0_layMetre_100 : decode cX0_layMetre 100 = .ok (.iaload, 1) := by decide +kernel
theorem dX0_layMetre_101 : decode cX0_layMetre 101 = .ok (.iadd, 1) := by decide +kernel
theorem dX0_layMetre_102 : decode cX0_layMetre 102 = .ok (.istore 5, 2) := by decide +kernel
theorem dX0_layMetre_104 : decode cX0_layMetre 104 = .ok (.aload_n 0, 1) := by decide +kernel
theorem dX0_layMetre_105 : decode cX0_layMetre 105 = .ok (.getfield 9, 3) := by decide +kernel
theorem dX0_layMetre_108 : decode cX0_layMetre 108 = .ok (.iload_n 2, 1) := by decide +kernel
theorem dX0_layMetre_109 : decode cX0_layMetre 109 = .ok (.bipush 12, 2) := by decide +kernel
theorem dX0_layMetre_111 : decode cX0_layMetre 111 = .ok (.imul, 1) := by decide +kernel
theorem dX0_layMetre_112 : decode cX0_layMetre 112 = .ok (.iload 4, 2) := by decide +kernel
theorem dX0_layMetre_114 : decode cX0_layMetre 114 = .ok (.iadd, 1) := by decide +kernel
theorem dX0_layMetre_115 : decode cX0_layMetre 115 = .ok (.iload_n 3, 1) := by decide +kernel
theorem dX0_layMetre_116 : decode cX0_layMetre 116 = .ok (.ifCond .ne 9, 3) := by decide +kernel
theorem dX0_layMetre_119 : decode cX0_layMetre 119 = .ok (.iload 5, 2) := by decide +kernel
theorem dX0_layMetre_121 : decode cX0_layMetre 121 = .ok (.iload_n 1, 1) := by decide +kernel
theorem dX0_layMetre_122 : decode cX0_layMetre 122 = .ok (.if_icmp .le 7, 3) := by decide +kernel
theorem dX0_layMetre_125 : decode cX0_layMetre 125 = .ok (.iconst 0, 1) := by decide +kernel
theorem dX0_layMetre_126 : decode cX0_layMetre 126 = .ok (.goto 5, 3) := by decide +kernel
theorem dX0_layMetre_129 : decode cX0_layMetre 129 = .ok (.iload 5, 2) := by decide +kernel
theorem dX0_layMetre_131 : decode cX0_layMetre 131 = .ok (.iastore, 1) := by decide +kernel
theorem dX0_layMetre_132 : decode cX0_layMetre 132 = .ok (.iinc 4 1, 3) := by decide +kernel
theorem dX0_layMetre_135 : decode cX0_layMetre 135 = .ok (.goto (-57), 3) := by decide +kernel
theorem dX0_layMetre_138 : decode cX0_layMetre 138 = .ok (.iinc 2 (-1), 3) := by decide +kernel
theorem dX0_layMetre_141 : decode cX0_layMetre 141 = .ok (.goto (-118), 3) := by decide +kernel
theorem dX0_layMetre_144 : decode cX0_layMetre 144 = .ok (.return_, 1) := by decide +kernel
theorem dX1_init_0 : decode cX1_init 0 = .ok (.aload_n 0, 1) := by decide +kernel
theorem dX1_init_1 : decode cX1_init 1 = .ok (.invokespecial 3, 3) := by decide +kernel
theorem dX1_init_4 : decode cX1_init 4 = .ok (.aload_n 0, 1) := by decide +kernel
theorem dX1_init_5 : decode cX1_init 5 = .ok (.sipush 164, 3) := by decide +kernel
theorem dX1_init_8 : decode cX1_init 8 = .ok (.newarray .int, 2) := by decide +kernel
theorem dX1_init_10 : decode cX1_init 10 = .ok (.putfield 9, 3) := by decide +kernel
theorem dX1_init_13 : decode cX1_init 13 = .ok (.aload_n 0, 1) := by decide +kernel
theorem dX1_init_14 : decode cX1_init 14 = .ok (.sipush 164, 3) := by decide +kernel
theorem dX1_init_17 : decode cX1_init 17 = .ok (.newarray .int, 2) := by decide +kernel
theorem dX1_init_19 : decode cX1_init 19 = .ok (.putfield 15, 3) := by decide +kernel
theorem dX1_init_22 : decode cX1_init 22 = .ok (.aload_n 0, 1) := by decide +kernel
theorem dX1_init_23 : decode cX1_init 23 = .ok (.sipush 164, 3) := by decide +kernel
theorem dX1_init_26 : decode cX1_init 26 = .ok (.newarray .int, 2) := by decide +kernel
theorem dX1_init_28 : decode cX1_init 28 = .ok (.putfield 18, 3) := by decide +kernel
theorem dX1_init_31 : decode cX1_init 31 = .ok (.aload_n 0, 1) := by decide +kernel
theorem dX1_init_32 : decode cX1_init 32 = .ok (.bipush 40, 2) := by decide +kernel
theorem dX1_init_34 : decode cX1_init 34 = .ok (.newarray .int, 2) := by decide +kernel
theorem dX1_init_36 : decode cX1_init 36 = .ok (.putfield 21, 3) := by decide +kernel
theorem dX1_init_39 : decode cX1_init 39 = .ok (.aload_n 0, 1) := by decide +kernel
theorem dX1_init_40 : decode cX1_init 40 = .ok (.aload_n 1, 1) := by decide +kernel
theorem dX1_init_41 : decode cX1_init 41 = .ok (.putfield 24, 3) := by decide +kernel
theorem dX1_init_44 : decode cX1_init 44 = .ok (.aload_n 0, 1) := by decide +kernel
theorem dX1_init_45 : decode cX1_init 45 = .ok (.aload_n 2, 1) := by decide +kernel
theorem dX1_init_46 : decode cX1_init 46 = .ok (.putfield 28, 3) := by decide +kernel
theorem dX1_init_49 : decode cX1_init 49 = .ok (.return_, 1) := by decide +kernel
theorem dX1_findBest_0 : decode cX1_findBest 0 = .ok (.aload_n 0, 1) := by decide +kernel
theorem dX1_findBest_1 : decode cX1_findBest 1 = .ok (.iload_n 1, 1) := by decide +kernel
theorem dX1_findBest_2 : decode cX1_findBest 2 = .ok (.putfield 32, 3) := by decide +kernel
theorem dX1_findBest_5 : decode cX1_findBest 5 = .ok (.aload_n 0, 1) := by decide +kernel
theorem dX1_findBest_6 : decode cX1_findBest 6 = .ok (.iconst 0, 1) := by decide +kernel
theorem dX1_findBest_7 : decode cX1_findBest 7 = .ok (.putfield 36, 3) := by decide +kernel
theorem dX1_findBest_10 : decode cX1_findBest 10 = .ok (.aload_n 0, 1) := by decide +kernel
theorem dX1_findBest_11 : decode cX1_findBest 11 = .ok (.getfield 28, 3) := by decide +kernel
theorem dX1_findBest_14 : decode cX1_findBest 14 = .ok (.invokevirtual 39, 3) := by decide +kernel
theorem dX1_findBest_17 : decode cX1_findBest 17 = .ok (.aload_n 0, 1) := by decide +kernel
theorem dX1_findBest_18 : decode cX1_findBest 18 = .ok (.getfield 28, 3) := by decide +kernel
theorem dX1_findBest_21 : decode cX1_findBest 21 = .ok (.getfield 44, 3) := by decide +kernel
theorem dX1_findBest_24 : decode cX1_findBest 24 = .ok (.iconst 1, 1) := by decide +kernel
theorem dX1_findBest_25 : decode cX1_findBest 25 = .ok (.if_icmp .ge 5, 3) := by decide +kernel
theorem dX1_findBest_28 : decode cX1_findBest 28 = .ok (.iconst 0, 1) := by decide +kernel
theorem dX1_findBest_29 : decode cX1_findBest 29 = .ok (.ireturn, 1) := by decide +kernel
theorem dX1_findBest_30 : decode cX1_findBest 30 = .ok (.iconst 0, 1) := by decide +kernel
theorem dX1_findBest_31 : decode cX1_findBest 31 = .ok (.istore_n 2, 1) := by decide +kernel
theorem dX1_findBest_32 : decode cX1_findBest 32 = .ok (.iload_n 2, 1) := by decide +kernel
theorem dX1_findBest_33 : decode cX1_findBest 33 = .ok (.iconst 4, 1) := by decide +kernel
theorem dX1_findBest_34 : decode cX1_findBest 34 = .ok (.if_icmp .ge 61, 3) := by decide +kernel
theorem dX1_findBest_37 : decode cX1_findBest 37 = .ok (.aload_n 0, 1) := by decide +kernel
theorem dX1_findBest_38 : decode cX1_findBest 38 = .ok (.getfield 9, 3) := by decide +kernel
theorem dX1_findBest_41 : decode cX1_findBest 41 = .ok (.aload_n 0, 1) := by decide +kernel
theorem dX1_findBest_42 : decode cX1_findBest 42 = .ok (.getfield 28, 3) := by decide +kernel
theorem dX1_findBest_45 : decode cX1_findBest 45 = .ok (.getfield 44, 3) := by decide +kernel
theorem dX1_findBest_48 : decode cX1_findBest 48 = .ok (.iconst 4, 1) := by decide +kernel
theorem dX1_findBest_49 : decode cX1_findBest 49 = .ok (.imul, 1) := by decide +kernel
theorem dX1_findBest_50 : decode cX1_findBest 50 = .ok (.iload_n 2, 1) := by decide +kernel
theorem dX1_findBest_51 : decode cX1_findBest 51 = .ok (.iadd, 1) := by decide +kernel
theorem dX1_findBest_52 : decode cX1_findBest 52 = .ok (.iconst 0, 1) := by decide +kernel
theorem dX1_findBest_53 : decode cX1_findBest 53 = .ok (.iastore, 1) := by decide +kernel
theorem dX1_findBest_54 : decode cX1_findBest 54 = .ok (.aload_n 0, 1) := by decide +kernel
theorem dX1_findBest_55 : decode cX1_findBest 55 = .ok (.getfield 15, 3) := by decide +kernel
theorem dX1_findBest_58 : decode cX1_findBest 58 = .ok (.aload_n 0, 1) := by decide +kernel
theorem dX1_findBest_59 : decode cX1_findBest 59 = .ok (.getfield 28, 3) := by decide +kernel
theorem dX1_findBest_62 : decode cX1_findBest 62 = .ok (.getfield 44, 3) := by decide +kernel
theorem dX1_findBest_65 : decode cX1_findBest 65 = .ok (.iconst 4, 1) := by decide +kernel
theorem dX1_findBest_66 : decode cX1_findBest 66 = .ok (.imul, 1) := by decide +kernel
theorem dX1_findBest_67 : decode cX1_findBest 67 = .ok (.iload_n 2, 1) := by decide +kernel
theorem dX1_findBest_68 : decode cX1_findBest 68 = .ok (.iadd, 1) := by decide +kernel
theorem dX1_findBest_69 : decode cX1_findBest 69 = .ok (.aload_n 0, 1) := by decide +kernel
theorem dX1_findBest_70 : decode cX1_findBest 70 = .ok (.getfield 24, 3) := by decide +kernel
theorem dX1_findBest_73 : decode cX1_findBest 73 = .ok (.getfield 47, 3) := by decide +kernel
theorem dX1_findBest_76 : decode cX1_findBest 76 = .ok (.iload_n 2, 1) := by decide +kernel
theorem dX1_findBest_77 : decode cX1_findBest 77 = .ok (.invokestatic 52, 3) := by decide +kernel
theorem dX1_findBest_80 : decode cX1_findBest 80 = .ok (.ifCond .eq 7, 3) := by decide +kernel
theorem dX1_findBest_83 : decode cX1_findBest 83 = .ok (.iconst 0, 1) := by decide +kernel
theorem dX1_findBest_84 : decode cX1_findBest 84 = .ok (.goto 4, 3) := by decide +kernel
theorem dX1_findBest_87 : decode cX1_findBest 87 = .ok (.iconst (-1), 1) := by decide +kernel
theorem dX1_findBest_88 : decode cX1_findBest 88 = .ok (.iastore, 1) := by decide +kernel
theorem dX1_findBest_89 : decode cX1_findBest 89 = .ok (.iinc 2 1, 3) := by decide +kernel
theorem dX1_findBest_92 : decode cX1_findBest 92 = .ok (.goto (-60), 3) := by decide +kernel
theorem dX1_findBest_95 : decode cX1_findBest 95 = .ok (.aload_n 0, 1) := by decide +kernel
theorem dX1_findBest_96 : decode cX1_findBest 96 = .ok (.getfield 28, 3) := by decide +kernel
theorem dX1_findBest_99 : decode cX1_findBest 99 = .ok (.getfield 44, 3) := by decide +kernel
theorem dX1_findBest_102 : decode cX1_findBest 102 = .ok (.iconst 1, 1) := by decide +kernel
theorem dX1_findBest_103 : decode cX1_findBest 103 = .ok (.isub, 1) := by decide +kernel
theorem dX1_findBest_104 : decode cX1_findBest 104 = .ok (.istore_n 2, 1) := by decide +kernel
theorem dX1_findBest_105 : decode cX1_findBest 105 = .ok (.iload_n 2, 1) := by decide +kernel
theorem dX1_findBest_106 : decode cX1_findBest 106 = .ok (.ifCond .lt 14, 3) := by decide +kernel
theorem dX1_findBest_109 : decode cX1_findBest 109 = .ok (.aload_n 0, 1) := by decide +kernel
theorem dX1_findBest_110 : decode cX1_findBest 110 = .ok (.iload_n 2, 1) := by decide +kernel
theorem dX1_findBest_111 : decode cX1_findBest 111 = .ok (.invokevirtual 56, 3) := by decide +kernel
theorem dX1_findBest_114 : decode cX1_findBest 114 = .ok (.iinc 2 (-1), 3) := by decide +kernel
theorem dX1_findBest_117 : decode cX1_findBest 117 = .ok (.goto (-12), 3) := by decide +kernel
theorem dX1_findBest_120 : decode cX1_findBest 120 = .ok (.aload_n 0, 1) := by decide +kernel
theorem dX1_findBest_121 : decode cX1_findBest 121 = .ok (.invokevirtual 60, 3) := by decide +kernel
theorem dX1_findBest_124 : decode cX1_findBest 124 = .ok (.aload_n 0, 1) := by decide +kernel
theorem dX1_findBest_125 : decode cX1_findBest 125 = .ok (.getfield 36, 3) := by decide +kernel
theorem dX1_findBest_128 : decode cX1_findBest 128 = .ok (.ifCond .le 7, 3) := by decide +kernel
theorem dX1_findBest_131 : decode cX1_findBest 131 = .ok (.iconst 1, 1) := by decide +kernel
theorem dX1_findBest_132 : decode cX1_findBest 132 = .ok (.goto 4, 3) := by decide +kernel
theorem dX1_findBest_135 : decode cX1_findBest 135 = .ok (.iconst 0, 1) := by decide +kernel
theorem dX1_findBest_136 : decode cX1_findBest 136 = .ok (.ireturn, 1) := by decide +kernel
theorem dX1_bestSum_0 : decode cX1_bestSum 0 = .ok (.aload_n 0, 1) := by decide +kernel
theorem dX1_bestSum_1 : decode cX1_bestSum 1 = .ok (.getfield 9, 3) := by decide +kernel
theorem dX1_bestSum_4 : decode cX1_bestSum 4 = .ok (.iconst 0, 1) := by decide +kernel
theorem dX1_bestSum_5 : decode cX1_bestSum 5 = .ok (.iaload, 1) := by decide +kernel
theorem dX1_bestSum_6 : decode cX1_bestSum 6 = .ok (.ireturn, 1) := by decide +kernel
theorem dX1_fillPlace_0 : decode cX1_fillPlace 0 = .ok (.iconst 0, 1) := by decide +kernel
theorem dX1_fillPlace_1 : decode cX1_fillPlace 1 = .ok (.istore_n 2, 1) := by decide +kernel
theorem dX1_fillPlace_2 : decode cX1_fillPlace 2 = .ok (.iload_n 2, 1) := by decide +kernel
theorem dX1_fillPlace_3 : decode cX1_fillPlace 3 = .ok (.iconst 4, 1) := by decide +kernel
theorem dX1_fillPlace_4 : decode cX1_fillPlace 4 = .ok (.if_icmp .ge 42, 3) := by decide +kernel
theorem dX1_fillPlace_7 : decode cX1_fillPlace 7 = .ok (.aload_n 0, 1) := by decide +kernel
theorem dX1_fillPlace_8 : decode cX1_fillPlace 8 = .ok (.getfield 9, 3) := by decide +kernel
theorem dX1_fillPlace_11 : decode cX1_fillPlace 11 = .ok (.iload_n 1, 1) := by decide +kernel
theorem dX1_fillPlace_12 : decode cX1_fillPlace 12 = .ok (.iconst 4, 1) := by decide +kernel
theorem dX1_fillPlace_13 : decode cX1_fillPlace 13 = .ok (.imul, 1) := by decide +kernel
theorem dX1_fillPlace_14 : decode cX1_fillPlace 14 = .ok (.iload_n 2, 1) := by decide +kernel
theorem dX1_fillPlace_15 : decode cX1_fillPlace 15 = .ok (.iadd, 1) := by decide +kernel
theorem dX1_fillPlace_16 : decode cX1_fillPlace 16 = .ok (.iconst 0, 1) := by decide +kernel
theorem dX1_fillPlace_17 : decode cX1_fillPlace 17 = .ok (.iastore, 1) := by decide +kernel
theorem dX1_fillPlace_18 : decode cX1_fillPlace 18 = .ok (.aload_n 0, 1) := by decide +kernel
theorem dX1_fillPlace_19 : decode cX1_fillPlace 19 = .ok (.getfield 15, 3) := by decide +kernel
theorem dX1_fillPlace_22 : decode cX1_fillPlace 22 = .ok (.iload_n 1, 1) := by decide +kernel
theorem dX1_fillPlace_23 : decode cX1_fillPlace 23 = .ok (.iconst 4, 1) := by decide +kernel
theorem dX1_fillPlace_24 : decode cX1_fillPlace 24 = .ok (.imul, 1) := by decide +kernel
theorem dX1_fillPlace_25 : decode cX1_fillPlace 25 = .ok (.iload_n 2, 1) := by decide +kernel
theorem dX1_fillPlace_26 : decode cX1_fillPlace 26 = .ok (.iadd, 1) := by decide +kernel
theorem dX1_fillPlace_27 : decode cX1_fillPlace 27 = .ok (.iconst (-1), 1) := by decide +kernel
theorem dX1_fillPlace_28 : decode cX1_fillPlace 28 = .ok (.iastore, 1) := by decide +kernel
theorem dX1_fillPlace_29 : decode cX1_fillPlace 29 = .ok (.aload_n 0, 1) := by decide +kernel
theorem dX1_fillPlace_30 : decode cX1_fillPlace 30 = .ok (.getfield 18, 3) := by decide +kernel
theorem dX1_fillPlace_33 : decode cX1_fillPlace 33 = .ok (.iload_n 1, 1) := by decide +kernel
theorem dX1_fillPlace_34 : decode cX1_fillPlace 34 = .ok (.iconst 4, 1) := by decide +kernel
theorem dX1_fillPlace_35 : decode cX1_fillPlace 35 = .ok (.imul, 1) := by decide +kernel
theorem dX1_fillPlace_36 : decode cX1_fillPlace 36 = .ok (.iload_n 2, 1) := by decide +kernel
theorem dX1_fillPlace_37 : decode cX1_fillPlace 37 = .ok (.iadd, 1) := by decide +kernel
theorem dX1_fillPlace_38 : decode cX1_fillPlace 38 = .ok (.iconst (-1), 1) := by decide +kernel
theorem dX1_fillPlace_39 : decode cX1_fillPlace 39 = .ok (.iastore, 1) := by decide +kernel
theorem dX1_fillPlace_40 : decode cX1_fillPlace 40 = .ok (.iinc 2 1, 3) := by decide +kernel
theorem dX1_fillPlace_43 : decode cX1_fillPlace 43 = .ok (.goto (-41), 3) := by decide +kernel
theorem dX1_fillPlace_46 : decode cX1_fillPlace 46 = .ok (.iconst 0, 1) := by decide +kernel
theorem dX1_fillPlace_47 : decode cX1_fillPlace 47 = .ok (.istore_n 2, 1) := by decide +kernel
theorem dX1_fillPlace_48 : decode cX1_fillPlace 48 = .ok (.iload_n 2, 1) := by decide +kernel
theorem dX1_fillPlace_49 : decode cX1_fillPlace 49 = .ok (.aload_n 0, 1) := by decide +kernel
theorem dX1_fillPlace_50 : decode cX1_fillPlace 50 = .ok (.getfield 24, 3) := by decide +kernel
theorem dX1_fillPlace_53 : decode cX1_fillPlace 53 = .ok (.getfield 63, 3) := by decide +kernel
theorem dX1_fillPlace_56 : decode cX1_fillPlace 56 = .ok (.if_icmp .ge 64, 3) := by decide +kernel
theorem dX1_fillPlace_59 : decode cX1_fillPlace 59 = .ok (.aload_n 0, 1) := by decide +kernel
theorem dX1_fillPlace_60 : decode cX1_fillPlace 60 = .ok (.getfield 28, 3) := by decide +kernel
theorem dX1_fillPlace_63 : decode cX1_fillPlace 63 = .ok (.iload_n 1, 1) := by decide +kernel
theorem dX1_fillPlace_64 : decode cX1_fillPlace 64 = .ok (.iload_n 2, 1) := by decide +kernel
theorem dX1_fillPlace_65 : decode cX1_fillPlace 65 = .ok (.invokevirtual 66, 3) := by decide +kernel
theorem dX1_fillPlace_68 : decode cX1_fillPlace 68 = .ok (.istore_n 3, 1) := by decide +kernel
theorem dX1_fillPlace_69 : decode cX1_fillPlace 69 = .ok (.iload_n 3, 1) := by decide +kernel
theorem dX1_fillPlace_70 : decode cX1_fillPlace 70 = .ok (.ifCond .le 44, 3) := by decide +kernel
theorem dX1_fillPlace_73 : decode cX1_fillPlace 73 = .ok (.aload_n 0, 1) := by decide +kernel
theorem dX1_fillPlace_74 : decode cX1_fillPlace 74 = .ok (.getfield 15, 3) := by decide +kernel
theorem dX1_fillPlace_77 : decode cX1_fillPlace 77 = .ok (.iload_n 3, 1) := by decide +kernel
theorem dX1_fillPlace_78 : decode cX1_fillPlace 78 = .ok (.iconst 4, 1) := by decide +kernel
theorem dX1_fillPlace_79 : decode cX1_fillPlace 79 = .ok (.imul, 1) := by decide +kernel
theorem dX1_fillPlace_80 : decode cX1_fillPlace 80 = .ok (.aload_n 0, 1) := by decide +kernel
theorem dX1_fillPlace_81 : decode cX1_fillPlace 81 = .ok (.getfield 24, 3) := by decide +kernel
theorem dX1_fillPlace_84 : decode cX1_fillPlace 84 = .ok (.getfield 70, 3) := by decide +kernel
theorem dX1_fillPlace_87 : decode cX1_fillPlace 87 = .ok (.iload_n 2, 1) := by decide +kernel
theorem dX1_fillPlace_88 : decode cX1_fillPlace 88 = .ok (.iaload, 1) := by decide +kernel
theorem dX1_fillPlace_89 : decode cX1_fillPlace 89 = .ok (.iadd, 1) := by decide +kernel
theorem dX1_fillPlace_90 : decode cX1_fillPlace 90 = .ok (.iaload, 1) := by decide +kernel
theorem dX1_fillPlace_91 : decode cX1_fillPlace 91 = .ok (.iconst (-1), 1) := by decide +kernel
theorem dX1_fillPlace_92 : decode cX1_fillPlace 92 = .ok (.if_icmp .eq 22, 3) := by decide +kernel
theorem dX1_fillPlace_95 : decode cX1_fillPlace 95 = .ok (.aload_n 0, 1) := by decide +kernel
theorem dX1_fillPlace_96 : decode cX1_fillPlace 96 = .ok (.iload_n 1, 1) := by decide +kernel
theorem dX1_fillPlace_97 : decode cX1_fillPlace 97 = .ok (.iload_n 2, 1) := by decide +kernel
theorem dX1_fillPlace_98 : decode cX1_fillPlace 98 = .ok (.iload_n 3, 1) := by decide +kernel
theorem dX1_fillPlace_99 : decode cX1_fillPlace 99 = .ok (.iconst 4, 1) := by decide +kernel
theorem dX1_fillPlace_100 : decode cX1_fillPlace 100 = .ok (.imul, 1) := by decide +kernel
theorem dX1_fillPlace_101 : decode cX1_fillPlace 101 = .ok (.aload_n 0, 1) := by decide +kernel
theorem dX1_fillPlace_102 : decode cX1_fillPlace 102 = .ok (.getfield 24, 3) := by decide +kernel
theorem dX1_fillPlace_105 : decode cX1_fillPlace 105 = .ok (.getfield 70, 3) := by decide +kernel
theorem dX1_fillPlace_108 : decode cX1_fillPlace 108 = .ok (.iload_n 2, 1) := by decide +kernel
theorem dX1_fillPlace_109 : decode cX1_fillPlace 109 = .ok (.iaload, 1) := by decide +kernel
theorem dX1_fillPlace_110 : decode cX1_fillPlace 110 = .ok (.iadd, 1) := by decide +kernel
theorem dX1_fillPlace_111 : decode cX1_fillPlace 111 = .ok (.invokevirtual 73, 3) := by decide +kernel
theorem dX1_fillPlace_114 : decode cX1_fillPlace 114 = .ok (.iinc 2 1, 3) := by decide +kernel
theorem dX1_fillPlace_117 : decode cX1_fillPlace 117 = .ok (.goto (-69), 3) := by decide +kernel
theorem dX1_fillPlace_120 : decode cX1_fillPlace 120 = .ok (.return_, 1) := by decide +kernel
theorem dX1_offerPhrase_0 : decode cX1_offerPhrase 0 = .ok (.aload_n 0, 1) := by decide +kernel
theorem dX1_offerPhrase_1 : decode cX1_offerPhrase 1 = .ok (.getfield 24, 3) := by decide +kernel
theorem dX1_offerPhrase_4 : decode cX1_offerPhrase 4 = .ok (.aload_n 0, 1) := by decide +kernel
theorem dX1_offerPhrase_5 : decode cX1_offerPhrase 5 = .ok (.getfield 32, 3) := by decide +kernel
theorem dX1_offerPhrase_8 : decode cX1_offerPhrase 8 = .ok (.iload_n 2, 1) := by decide +kernel
theorem dX1_offerPhrase_9 : decode cX1_offerPhrase 9 = .ok (.invokevirtual 77, 3) := by decide +kernel
theorem dX1_offerPhrase_12 : decode cX1_offerPhrase 12 = .ok (.aload_n 0, 1) := by decide +kernel
theorem dX1_offerPhrase_13 : decode cX1_offerPhrase 13 = .ok (.getfield 9, 3) := by decide +kernel
theorem dX1_offerPhrase_16 : decode cX1_offerPhrase 16 = .ok (.iload_n 3, 1) := by decide +kernel
theorem dX1_offerPhrase_17 : decode cX1_offerPhrase 17 = .ok (.iaload, 1) := by decide +kernel
theorem dX1_offerPhrase_18 : decode cX1_offerPhrase 18 = .ok (.iadd, 1) := by decide +kernel
theorem dX1_offerPhrase_19 : decode cX1_offerPhrase 19 = .ok (.istore 4, 2) := by decide +kernel
theorem dX1_offerPhrase_21 : decode cX1_offerPhrase 21 = .ok (.iconst 1, 1) := by decide +kernel
theorem dX1_offerPhrase_22 : decode cX1_offerPhrase 22 = .ok (.aload_n 0, 1) := by decide +kernel
theorem dX1_offerPhrase_23 : decode cX1_offerPhrase 23 = .ok (.getfield 15, 3) := by decide +kernel
theorem dX1_offerPhrase_26 : decode cX1_offerPhrase 26 = .ok (.iload_n 3, 1) := by decide +kernel
theorem dX1_offerPhrase_27 : decode cX1_offerPhrase 27 = .ok (.iaload, 1) := by decide +kernel
theorem dX1_offerPhrase_28 : decode cX1_offerPhrase 28 = .ok (.iadd, 1) := by decide +kernel
theorem dX1_offerPhrase_29 : decode cX1_offerPhrase 29 = .ok (.istore 5, 2) := by decide +kernel
theorem dX1_offerPhrase_31 : decode cX1_offerPhrase 31 = .ok (.iconst 0, 1) := by decide +kernel
theorem dX1_offerPhrase_32 : decode cX1_offerPhrase 32 = .ok (.istore 6, 2) := by decide +kernel
theorem dX1_offerPhrase_34 : decode cX1_offerPhrase 34 = .ok (.iload 6, 2) := by decide +kernel
theorem dX1_offerPhrase_36 : decode cX1_offerPhrase 36 = .ok (.iconst 4, 1) := by decide +kernel
theorem dX1_offerPhrase_37 : decode cX1_offerPhrase 37 = .ok (.if_icmp .ge 127, 3) := by decide +kernel
theorem dX1_offerPhrase_40 : decode cX1_offerPhrase 40 = .ok (.iload_n 1, 1) := by decide +kernel
theorem dX1_offerPhrase_41 : decode cX1_offerPhrase 41 = .ok (.iconst 4, 1) := by decide +kernel
theorem dX1_offerPhrase_42 : decode cX1_offerPhrase 42 = .ok (.imul, 1) := by decide +kernel
theorem dX1_offerPhrase_43 : decode cX1_offerPhrase 43 = .ok (.iload 6, 2) := by decide +kernel
theorem dX1_offerPhrase_45 : decode cX1_offerPhrase 45 = .ok (.iadd, 1) := by decide +kernel
theorem dX1_offerPhrase_46 : decode cX1_offerPhrase 46 = .ok (.istore 7, 2) := by decide +kernel
theorem dX1_offerPhrase_48 : decode cX1_offerPhrase 48 = .ok (.aload_n 0, 1) := by decide +kernel
theorem dX1_offerPhrase_49 : decode cX1_offerPhrase 49 = .ok (.getfield 15, 3) := by decide +kernel
theorem dX1_offerPhrase_52 : decode cX1_offerPhrase 52 = .ok (.iload 7, 2) := by decide +kernel
theorem dX1_offerPhrase_54 : decode cX1_offerPhrase 54 = .ok (.iaload, 1) := by decide +kernel
theorem dX1_offerPhrase_55 : decode cX1_offerPhrase 55 = .ok (.iconst (-1), 1) := by decide +kernel
theorem dX1_offerPhrase_56 : decode cX1_offerPhrase 56 = .ok (.if_icmp .eq 39, 3) := by decide +kernel
theorem dX1_offerPhrase_59 : decode cX1_offerPhrase 59 = .ok (.iload 4, 2) := by decide +kernel
theorem dX1_offerPhrase_61 : decode cX1_offerPhrase 61 = .ok (.aload_n 0, 1) := by decide +kernel
theorem dX1_offerPhrase_62 : decode cX1_offerPhrase 62 = .ok (.getfield 9, 3) := by decide +kernel
theorem dX1_offerPhrase_65 : decode cX1_offerPhrase 65 = .ok (.iload 7, 2) := by decide +kernel
theorem dX1_offerPhrase_67 : decode cX1_offerPhrase 67 = .ok (.iaload, 1) := by decide +kernel
theorem dX1_offerPhrase_68 : decode cX1_offerPhrase 68 = .ok (.if_icmp .gt 27, 3) := by decide +kernel
theorem dX1_offerPhrase_71 : decode cX1_offerPhrase 71 = .ok (.iload 4, 2) := by decide +kernel
theorem dX1_offerPhrase_73 : decode cX1_offerPhrase 73 = .ok (.aload_n 0, 1) := by decide +kernel
theorem dX1_offerPhrase_74 : decode cX1_offerPhrase 74 = .ok (.getfield 9, 3) := by decide +kernel
theorem dX1_offerPhrase_77 : decode cX1_offerPhrase 77 = .ok (.iload 7, 2) := by decide +kernel
theorem dX1_offerPhrase_79 : decode cX1_offerPhrase 79 = .ok (.iaload, 1) := by decide +kernel
theorem dX1_offerPhrase_80 : decode cX1_offerPhrase 80 = .ok (.if_icmp .ne 19, 3) := by decide +kernel
theorem dX1_offerPhrase_83 : decode cX1_offerPhrase 83 = .ok (.iload 5, 2) := by decide +kernel
theorem dX1_offerPhrase_85 : decode cX1_offerPhrase 85 = .ok (.aload_n 0, 1) := by decide +kernel
theorem dX1_offerPhrase_86 : decode cX1_offerPhrase 86 = .ok (.getfield 15, 3) := by decide +kernel
theorem dX1_offerPhrase_89 : decode cX1_offerPhrase 89 = .ok (.iload 7, 2) := by decide +kernel
theorem dX1_offerPhrase_91 : decode cX1_offerPhrase 91 = .ok (.iaload, 1) := by decide +kernel
theorem dX1_offerPhrase_92 : decode cX1_offerPhrase 92 = .ok (.if_icmp .ge 7, 3) := by decide +kernel
theorem dX1_offerPhrase_95 : decode cX1_offerPhrase 95 = .ok (.iconst 1, 1) := by decide +kernel
theorem dX1_offerPhrase_96 : decode cX1_offerPhrase 96 = .ok (.goto 4, 3) := by decide +kernel
theorem dX1_offerPhrase_99 : decode cX1_offerPhrase 99 = .ok (.iconst 0, 1) := by decide +kernel
theorem dX1_offerPhrase_100 : decode cX1_offerPhrase 100 = .ok (.istore 8, 2) := by decide +kernel
theorem dX1_offerPhrase_102 : decode cX1_offerPhrase 102 = .ok (.iload 8, 2) := by decide +kernel
theorem dX1_offerPhrase_104 : decode cX1_offerPhrase 104 = .ok (.ifCond .eq 54, 3) := by decide +kernel
theorem dX1_offerPhrase_107 : decode cX1_offerPhrase 107 = .ok (.aload_n 0, 1) := by decide +kernel
theorem dX1_offerPhrase_108 : decode cX1_offerPhrase 108 = .ok (.getfield 24, 3) := by decide +kernel
theorem dX1_offerPhrase_111 : decode cX1_offerPhrase 111 = .ok (.iload_n 1, 1) := by decide +kernel
theorem dX1_offerPhrase_112 : decode cX1_offerPhrase 112 = .ok (.iload 6, 2) := by decide +kernel
theorem dX1_offerPhrase_114 : decode cX1_offerPhrase 114 = .ok (.invokevirtual 80, 3) := by decide +kernel
theorem dX1_offerPhrase_117 : decode cX1_offerPhrase 117 = .ok (.aload_n 0, 1) := by decide +kernel
theorem dX1_offerPhrase_118 : decode cX1_offerPhrase 118 = .ok (.getfield 24, 3) := by decide +kernel
theorem dX1_offerPhrase_121 : decode cX1_offerPhrase 121 = .ok (.getfield 70, 3) := by decide +kernel
theorem dX1_offerPhrase_124 : decode cX1_offerPhrase 124 = .ok (.iload_n 2, 1) := by decide +kernel
theorem dX1_offerPhrase_125 : decode cX1_offerPhrase 125 = .ok (.iaload, 1) := by decide +kernel
theorem dX1_offerPhrase_126 : decode cX1_offerPhrase 126 = .ok (.invokestatic 52, 3) := by decide +kernel
theorem dX1_offerPhrase_129 : decode cX1_offerPhrase 129 = .ok (.ifCond .eq 29, 3) := by decide +kernel
theorem dX1_offerPhrase_132 : decode cX1_offerPhrase 132 = .ok (.aload_n 0, 1) := by decide +kernel
theorem dX1_offerPhrase_133 : decode cX1_offerPhrase 133 = .ok (.getfield 9, 3) := by decide +kernel
theorem dX1_offerPhrase_136 : decode cX1_offerPhrase 136 = .ok (.iload 7, 2) := by decide +kernel
theorem dX1_offerPhrase_138 : decode cX1_offerPhrase 138 = .ok (.iload 4, 2) := by decide +kernel
theorem dX1_offerPhrase_140 : decode cX1_offerPhrase 140 = .ok (.iastore, 1) := by decide +kernel
theorem dX1_offerPhrase_141 : decode cX1_offerPhrase 141 = .ok (.aload_n 0, 1) := by decide +kernel
theorem dX1_offerPhrase_142 : decode cX1_offerPhrase 142 = .ok (.getfield 15, 3) := by decide +kernel
theorem dX1_offerPhrase_145 : decode cX1_offerPhrase 145 = .ok (.iload 7, 2) := by decide +kernel
theorem dX1_offerPhrase_147 : decode cX1_offerPhrase 147 = .ok (.iload 5, 2) := by decide +kernel
theorem dX1_offerPhrase_149 : decode cX1_offerPhrase 149 = .ok (.iastore, 1) := by decide +kernel
theorem dX1_offerPhrase_150 : decode cX1_offerPhrase 150 = .ok (.aload_n 0, 1) := by decide +kernel
theorem dX1_offerPhrase_151 : decode cX1_offerPhrase 151 = .ok (.getfield 18, 3) := by decide +kernel
theorem dX1_offerPhrase_154 : decode cX1_offerPhrase 154 = .ok (.iload 7, 2) := by decide +kernel
theorem dX1_offerPhrase_156 : decode cX1_offerPhrase 156 = .ok (.iload_n 2, 1) := by decide +kernel
theorem dX1_offerPhrase_157 : decode cX1_offerPhrase 157 = .ok (.iastore, 1) := by decide +kernel
theorem dX1_offerPhrase_158 : decode cX1_offerPhrase 158 = .ok (.iinc 6 1, 3) := by decide +kernel
theorem dX1_offerPhrase_161 : decode cX1_offerPhrase 161 = .ok (.goto (-127), 3) := by decide +kernel
theorem dX1_offerPhrase_164 : decode cX1_offerPhrase 164 = .ok (.return_, 1) := by decide +kernel
theorem dX1_traceChosen_0 : decode cX1_traceChosen 0 = .ok (.iconst 0, 1) := by decide +kernel
theorem dX1_traceChosen_1 : decode cX1_traceChosen 1 = .ok (.istore_n 1, 1) := by decide +kernel
theorem dX1_traceChosen_2 : decode cX1_traceChosen 2 = .ok (.iconst 0, 1) := by decide +kernel
theorem dX1_traceChosen_3 : decode cX1_traceChosen 3 = .ok (.istore_n 2, 1) := by decide +kernel
theorem dX1_traceChosen_4 : decode cX1_traceChosen 4 = .ok (.iload_n 1, 1) := by decide +kernel
theorem dX1_traceChosen_5 : decode cX1_traceChosen 5 = .ok (.aload_n 0, 1) := by decide +kernel
theorem dX1_traceChosen_6 : decode cX1_traceChosen 6 = .ok (.getfield 28, 3) := by decide +kernel
theorem dX1_traceChosen_9 : decode cX1_traceChosen 9 = .ok (.getfield 44, 3) := by decide +kernel
theorem dX1_traceChosen_12 : decode cX1_traceChosen 12 = .ok (.if_icmp .ge 72, 3) := by decide +kernel
theorem dX1_traceChosen_15 : decode cX1_traceChosen 15 = .ok (.aload_n 0, 1) := by decide +kernel
theorem dX1_traceChosen_16 : decode cX1_traceChosen 16 = .ok (.getfield 36, 3) := by decide +kernel
theorem dX1_traceChosen_19 : decode cX1_traceChosen 19 = .ok (.aload_n 0, 1) := by decide +kernel
theorem dX1_traceChosen_20 : decode cX1_traceChosen 20 = .ok (.getfield 21, 3) := by decide +kernel
theorem dX1_traceChosen_23 : decode cX1_traceChosen 23 = .ok (.arraylength, 1) := by decide +kernel
theorem dX1_traceChosen_24 : decode cX1_traceChosen 24 = .ok (.if_icmp .ge 60, 3) := by decide +kernel
theorem dX1_traceChosen_27 : decode cX1_traceChosen 27 = .ok (.aload_n 0, 1) := by decide +kernel
theorem dX1_traceChosen_28 : decode cX1_traceChosen 28 = .ok (.getfield 18, 3) := by decide +kernel
theorem dX1_traceChosen_31 : decode cX1_traceChosen 31 = .ok (.iload_n 1, 1) := by decide +kernel
theorem dX1_traceChosen_32 : decode cX1_traceChosen 32 = .ok (.iconst 4, 1) := by decide +kernel
theorem dX1_traceChosen_33 : decode cX1_traceChosen 33 = .ok (.imul, 1) := by decide +kernel
theorem dX1_traceChosen_34 : decode cX1_traceChosen 34 = .ok (.iload_n 2, 1) := by decide +kernel
theorem dX1_traceChosen_35 : decode cX1_traceChosen 35 = .ok (.iadd, 1) := by decide +kernel
theorem dX1_traceChosen_36 : decode cX1_traceChosen 36 = .ok (.iaload, 1) := by decide +kernel
theorem dX1_traceChosen_37 : decode cX1_traceChosen 37 = .ok (.istore_n 3, 1) := by decide +kernel
theorem dX1_traceChosen_38 : decode cX1_traceChosen 38 = .ok (.iload_n 3, 1) := by decide +kernel
theorem dX1_traceChosen_39 : decode cX1_traceChosen 39 = .ok (.iconst (-1), 1) := by decide +kernel
theorem dX1_traceChosen_40 : decode cX1_traceChosen 40 = .ok (.if_icmp .ne 4, 3) := by decide +kernel
theorem dX1_traceChosen_43 : decode cX1_traceChosen 43 = .ok (.return_, 1) := by decide +kernel
theorem dX1_traceChosen_44 : decode cX1_traceChosen 44 = .ok (.aload_n 0, 1) := by decide +kernel
theorem dX1_traceChosen_45 : decode cX1_traceChosen 45 = .ok (.getfield 21, 3) := by decide +kernel
theorem dX1_traceChosen_48 : decode cX1_traceChosen 48 = .ok (.aload_n 0, 1) := by decide +kernel
theorem dX1_traceChosen_49 : decode cX1_traceChosen 49 = .ok (.dup, 1) := by decide +kernel
theorem dX1_traceChosen_50 : decode cX1_traceChosen 50 = .ok (.getfield 36, 3) := by decide +kernel
theorem dX1_traceChosen_53 : decode cX1_traceChosen 53 = .ok (.dup_x1, 1) := by decide +kernel
theorem dX1_traceChosen_54 : decode cX1_traceChosen 54 = .ok (.iconst 1, 1) := by decide +kernel
theorem dX1_traceChosen_55 : decode cX1_traceChosen 55 = .ok (.iadd, 1) := by decide +kernel
theorem dX1_traceChosen_56 : decode cX1_traceChosen 56 = .ok (.putfield 36, 3) := by decide +kernel
theorem dX1_traceChosen_59 : decode cX1_traceChosen 59 = .ok (.iload_n 3, 1) := by decide +kernel
theorem dX1_traceChosen_60 : decode cX1_traceChosen 60 = .ok (.iastore, 1) := by decide +kernel
theorem dX1_traceChosen_61 : decode cX1_traceChosen 61 = .ok (.aload_n 0, 1) := by decide +kernel
theorem dX1_traceChosen_62 : decode cX1_traceChosen 62 = .ok (.getfield 28, 3) := by decide +kernel
theorem dX1_traceChosen_65 : decode cX1_traceChosen 65 = .ok (.iload_n 1, 1) := by decide +kernel
theorem dX1_traceChosen_66 : decode cX1_traceChosen 66 = .ok (.iload_n 3, 1) := by decide +kernel
theorem dX1_traceChosen_67 : decode cX1_traceChosen 67 = .ok (.invokevirtual 66, 3) := by decide +kernel
theorem dX1_traceChosen_70 : decode cX1_traceChosen 70 = .ok (.istore_n 1, 1) := by decide +kernel
theorem dX1_traceChosen_71 : decode cX1_traceChosen 71 = .ok (.aload_n 0, 1) := by decide +kernel
theorem dX1_traceChosen_72 : decode cX1_traceChosen 72 = .ok (.getfield 24, 3) := by decide +kernel
theorem dX1_traceChosen_75 : decode cX1_traceChosen 75 = .ok (.getfield 70, 3) := by decide +kernel
theorem dX1_traceChosen_78 : decode cX1_traceChosen 78 = .ok (.iload_n 3, 1) := by decide +kernel
theorem dX1_traceChosen_79 : decode cX1_traceChosen 79 = .ok (.iaload, 1) := by decide +kernel
theorem dX1_traceChosen_80 : decode cX1_traceChosen 80 = .ok (.istore_n 2, 1) := by decide +kernel
theorem dX1_traceChosen_81 : decode cX1_traceChosen 81 = .ok (.goto (-77), 3) := by decide +kernel
theorem dX1_traceChosen_84 : decode cX1_traceChosen 84 = .ok (.return_, 1) := by decide +kernel
theorem dX2_init_0 : decode cX2_init 0 = .ok (.aload_n 0, 1) := by decide +kernel
theorem dX2_init_1 : decode cX2_init 1 = .ok (.invokespecial 3, 3) := by decide +kernel
theorem dX2_init_4 : decode cX2_init 4 = .ok (.aload_n 0, 1) := by decide +kernel
theorem dX2_init_5 : decode cX2_init 5 = .ok (.sipush 164, 3) := by decide +kernel
theorem dX2_init_8 : decode cX2_init 8 = .ok (.newarray .long, 2) := by decide +kernel
theorem dX2_init_10 : decode cX2_init 10 = .ok (.putfield 9, 3) := by decide +kernel
theorem dX2_init_13 : decode cX2_init 13 = .ok (.aload_n 0, 1) := by decide +kernel
theorem dX2_init_14 : decode cX2_init 14 = .ok (.iconst 4, 1) := by decide +kernel
theorem dX2_init_15 : decode cX2_init 15 = .ok (.newarray .long, 2) := by decide +kernel
theorem dX2_init_17 : decode cX2_init 17 = .ok (.putfield 15, 3) := by decide +kernel
theorem dX2_init_20 : decode cX2_init 20 = .ok (.aload_n 0, 1) := by decide +kernel
theorem dX2_init_21 : decode cX2_init 21 = .ok (.bipush 40, 2) := by decide +kernel
theorem dX2_init_23 : decode cX2_init 23 = .ok (.newarray .int, 2) := by decide +kernel
theorem dX2_init_25 : decode cX2_init 25 = .ok (.putfield 18, 3) := by decide +kernel
theorem dX2_init_28 : decode cX2_init 28 = .ok (.aload_n 0, 1) := by decide +kernel
theorem dX2_init_29 : decode cX2_init 29 = .ok (.aload_n 1, 1) := by decide +kernel
theorem dX2_init_30 : decode cX2_init 30 = .ok (.putfield 22, 3) := by decide +kernel
theorem dX2_init_33 : decode cX2_init 33 = .ok (.aload_n 0, 1) := by decide +kernel
theorem dX2_init_34 : decode cX2_init 34 = .ok (.aload_n 2, 1) := by decide +kernel
theorem dX2_init_35 : decode cX2_init 35 = .ok (.putfield 26, 3) := by decide +kernel
theorem dX2_init_38 : decode cX2_init 38 = .ok (.return_, 1) := by decide +kernel
theorem dX2_countAll_0 : decode cX2_countAll 0 = .ok (.aload_n 0, 1) := by decide +kernel
theorem dX2_countAll_1 : decode cX2_countAll 1 = .ok (.iload_n 1, 1) := by decide +kernel
theorem dX2_countAll_2 : decode cX2_countAll 2 = .ok (.putfield 30, 3) := by decide +kernel
theorem dX2_countAll_5 : decode cX2_countAll 5 = .ok (.aload_n 0, 1) := by decide +kernel
theorem dX2_countAll_6 : decode cX2_countAll 6 = .ok (.getfield 26, 3) := by decide +kernel
theorem dX2_countAll_9 : decode cX2_countAll 9 = .ok (.getfield 34, 3) := by decide +kernel
theorem dX2_countAll_12 : decode cX2_countAll 12 = .ok (.iconst 1, 1) := by decide +kernel
theorem dX2_countAll_13 : decode cX2_countAll 13 = .ok (.if_icmp .ge 5, 3) := by decide +kernel
theorem dX2_countAll_16 : decode cX2_countAll 16 = .ok (.lconst 0, 1) := by decide +kernel
theorem dX2_countAll_17 : decode cX2_countAll 17 = .ok (.lreturn, 1) := by decide +kernel
theorem dX2_countAll_18 : decode cX2_countAll 18 = .ok (.iconst 0, 1) := by decide +kernel
theorem dX2_countAll_19 : decode cX2_countAll 19 = .ok (.istore_n 2, 1) := by decide +kernel
theorem dX2_countAll_20 : decode cX2_countAll 20 = .ok (.iload_n 2, 1) := by decide +kernel
theorem dX2_countAll_21 : decode cX2_countAll 21 = .ok (.iconst 4, 1) := by decide +kernel
theorem dX2_countAll_22 : decode cX2_countAll 22 = .ok (.if_icmp .ge 44, 3) := by decide +kernel
theorem dX2_countAll_25 : decode cX2_countAll 25 = .ok (.aload_n 0, 1) := by decide +kernel
theorem dX2_countAll_26 : decode cX2_countAll 26 = .ok (.getfield 9, 3) := by decide +kernel
theorem dX2_countAll_29 : decode cX2_countAll 29 = .ok (.aload_n 0, 1) := by decide +kernel
theorem dX2_countAll_30 : decode cX2_countAll 30 = .ok (.getfield 26, 3) := by decide +kernel
theorem dX2_countAll_33 : decode cX2_countAll 33 = .ok (.getfield 34, 3) := by decide +kernel
theorem dX2_countAll_36 : decode cX2_countAll 36 = .ok (.iconst 4, 1) := by decide +kernel
theorem dX2_countAll_37 : decode cX2_countAll 37 = .ok (.imul, 1) := by decide +kernel
theorem dX2_countAll_38 : decode cX2_countAll 38 = .ok (.iload_n 2, 1) := by decide +kernel
theorem dX2_countAll_39 : decode cX2_countAll 39 = .ok (.iadd, 1) := by decide +kernel
theorem dX2_countAll_40 : decode cX2_countAll 40 = .ok (.aload_n 0, 1) := by decide +kernel
theorem dX2_countAll_41 : decode cX2_countAll 41 = .ok (.getfield 22, 3) := by decide +kernel
theorem dX2_countAll_44 : decode cX2_countAll 44 = .ok (.getfield 39, 3) := by decide +kernel
theorem dX2_countAll_47 : decode cX2_countAll 47 = .ok (.iload_n 2, 1) := by decide +kernel
theorem dX2_countAll_48 : decode cX2_countAll 48 = .ok (.invokestatic 44, 3) := by decide +kernel
theorem dX2_countAll_51 : decode cX2_countAll 51 = .ok (.ifCond .eq 7, 3) := by decide +kernel
theorem dX2_countAll_54 : decode cX2_countAll 54 = .ok (.lconst 1, 1) := by decide +kernel
theorem dX2_countAll_55 : decode cX2_countAll 55 = .ok (.goto 4, 3) := by decide +kernel
theorem dX2_countAll_58 : decode cX2_countAll 58 = .ok (.lconst 0, 1) := by decide +kernel
theorem dX2_countAll_59 : decode cX2_countAll 59 = .ok (.lastore, 1) := by decide +kernel
theorem dX2_countAll_60 : decode cX2_countAll 60 = .ok (.iinc 2 1, 3) := by decide +kernel
theorem dX2_countAll_63 : decode cX2_countAll 63 = .ok (.goto (-43), 3) := by decide +kernel
theorem dX2_countAll_66 : decode cX2_countAll 66 = .ok (.aload_n 0, 1) := by decide +kernel
theorem dX2_countAll_67 : decode cX2_countAll 67 = .ok (.getfield 26, 3) := by decide +kernel
theorem dX2_countAll_70 : decode cX2_countAll 70 = .ok (.getfield 34, 3) := by decide +kernel
theorem dX2_countAll_73 : decode cX2_countAll 73 = .ok (.iconst 1, 1) := by decide +kernel
theorem dX2_countAll_74 : decode cX2_countAll 74 = .ok (.isub, 1) := by decide +kernel
theorem dX2_countAll_75 : decode cX2_countAll 75 = .ok (.istore_n 2, 1) := by decide +kernel
theorem dX2_countAll_76 : decode cX2_countAll 76 = .ok (.iload_n 2, 1) := by decide +kernel
theorem dX2_countAll_77 : decode cX2_countAll 77 = .ok (.ifCond .lt 21, 3) := by decide +kernel
theorem dX2_countAll_80 : decode cX2_countAll 80 = .ok (.aload_n 0, 1) := by decide +kernel
theorem dX2_countAll_81 : decode cX2_countAll 81 = .ok (.iload_n 2, 1) := by decide +kernel
theorem dX2_countAll_82 : decode cX2_countAll 82 = .ok (.invokevirtual 48, 3) := by decide +kernel
theorem dX2_countAll_85 : decode cX2_countAll 85 = .ok (.ifCond .ne 7, 3) := by decide +kernel
theorem dX2_countAll_88 : decode cX2_countAll 88 = .ok (.ldc2_w 52, 3) := by decide +kernel
theorem dX2_countAll_91 : decode cX2_countAll 91 = .ok (.lreturn, 1) := by decide +kernel
theorem dX2_countAll_92 : decode cX2_countAll 92 = .ok (.iinc 2 (-1), 3) := by decide +kernel
theorem dX2_countAll_95 : decode cX2_countAll 95 = .ok (.goto (-19), 3) := by decide +kernel
theorem dX2_countAll_98 : decode cX2_countAll 98 = .ok (.aload_n 0, 1) := by decide +kernel
theorem dX2_countAll_99 : decode cX2_countAll 99 = .ok (.getfield 9, 3) := by decide +kernel
theorem dX2_countAll_102 : decode cX2_countAll 102 = .ok (.iconst 0, 1) := by decide +kernel
theorem dX2_countAll_103 : decode cX2_countAll 103 = .ok (.laload, 1) := by decide +kernel
theorem dX2_countAll_104 : decode cX2_countAll 104 = .ok (.lreturn, 1) := by decide +kernel
theorem dX2_fillPlace_0 : decode cX2_fillPlace 0 = .ok (.aload_n 0, 1) := by decide +kernel
theorem dX2_fillPlace_1 : decode cX2_fillPlace 1 = .ok (.iload_n 1, 1) := by decide +kernel
theorem dX2_fillPlace_2 : decode cX2_fillPlace 2 = .ok (.invokevirtual 54, 3) := by decide +kernel
theorem dX2_fillPlace_5 : decode cX2_fillPlace 5 = .ok (.iconst 0, 1) := by decide +kernel
theorem dX2_fillPlace_6 : decode cX2_fillPlace 6 = .ok (.istore_n 2, 1) := by decide +kernel
theorem dX2_fillPlace_7 : decode cX2_fillPlace 7 = .ok (.iload_n 2, 1) := by decide +kernel
theorem dX2_fillPlace_8 : decode cX2_fillPlace 8 = .ok (.iconst 4, 1) := by decide +kernel
theorem dX2_fillPlace_9 : decode cX2_fillPlace 9 = .ok (.if_icmp .ge 78, 3) := by decide +kernel
theorem dX2_fillPlace_12 : decode cX2_fillPlace 12 = .ok (.lconst 0, 1) := by decide +kernel
theorem dX2_fillPlace_13 : decode cX2_fillPlace 13 = .ok (.lstore_n 3, 1) := by decide +kernel
theorem dX2_fillPlace_14 : decode cX2_fillPlace 14 = .ok (.aload_n 0, 1) := by decide +kernel
theorem dX2_fillPlace_15 : decode cX2_fillPlace 15 = .ok (.getfield 22, 3) := by decide +kernel
theorem dX2_fillPlace_18 : decode cX2_fillPlace 18 = .ok (.iload_n 1, 1) := by decide +kernel
theorem dX2_fillPlace_19 : decode cX2_fillPlace 19 = .ok (.iload_n 2, 1) := by decide +kernel
theorem dX2_fillPlace_20 : decode cX2_fillPlace 20 = .ok (.invokevirtual 58, 3) := by decide +kernel
theorem dX2_fillPlace_23 : decode cX2_fillPlace 23 = .ok (.istore 5, 2) := by decide +kernel
theorem dX2_fillPlace_25 : decode cX2_fillPlace 25 = .ok (.iconst 0, 1) := by decide +kernel
theorem dX2_fillPlace_26 : decode cX2_fillPlace 26 = .ok (.istore 6, 2) := by decide +kernel
theorem dX2_fillPlace_28 : decode cX2_fillPlace 28 = .ok (.iload 6, 2) := by decide +kernel
theorem dX2_fillPlace_30 : decode cX2_fillPlace 30 = .ok (.iconst 4, 1) := by decide +kernel
theorem dX2_fillPlace_31 : decode cX2_fillPlace 31 = .ok (.if_icmp .ge 31, 3) := by decide +kernel
theorem dX2_fillPlace_34 : decode cX2_fillPlace 34 = .ok (.iload 5, 2) := by decide +kernel
theorem dX2_fillPlace_36 : decode cX2_fillPlace 36 = .ok (.iload 6, 2) := by decide +kernel
theorem dX2_fillPlace_38 : decode cX2_fillPlace 38 = .ok (.invokestatic 44, 3) := by decide +kernel
theorem dX2_fillPlace_41 : decode cX2_fillPlace 41 = .ok (.ifCond .eq 15, 3) := by decide +kernel
theorem dX2_fillPlace_44 : decode cX2_fillPlace 44 = .ok (.lload_n 3, 1) := by decide +kernel
theorem dX2_fillPlace_45 : decode cX2_fillPlace 45 = .ok (.aload_n 0, 1) := by decide +kernel
theorem dX2_fillPlace_46 : decode cX2_fillPlace 46 = .ok (.getfield 15, 3) := by decide +kernel
theorem dX2_fillPlace_49 : decode cX2_fillPlace 49 = .ok (.iload 6, 2) := by decide +kernel
theorem dX2_fillPlace_51 : decode cX2_fillPlace 51 = .ok (.laload, 1) := by decide +kernel
theorem dX2_fillPlace_52 : decode cX2_fillPlace 52 = .ok (.invokestatic 62, 3) := by decide +kernel
theorem dX2_fillPlace_55 : decode cX2_fillPlace 55 = .ok (.lstore_n 3, 1) := by decide +kernel
theorem dX2_fillPlace_56 : decode cX2_fillPlace 56 = .ok (.iinc 6 1, 3) := by decide +kernel
theorem dX2_fillPlace_59 : decode cX2_fillPlace 59 = .ok (.goto (-31), 3) := by decide +kernel
theorem dX2_fillPlace_62 : decode cX2_fillPlace 62 = .ok (.lload_n 3, 1) := by decide +kernel
theorem dX2_fillPlace_63 : decode cX2_fillPlace 63 = .ok (.lconst 0, 1) := by decide +kernel
theorem dX2_fillPlace_64 : decode cX2_fillPlace 64 = .ok (.lcmp, 1) := by decide +kernel
theorem dX2_fillPlace_65 : decode cX2_fillPlace 65 = .ok (.ifCond .ge 5, 3) := by decide +kernel
theorem dX2_fillPlace_68 : decode cX2_fillPlace 68 = .ok (.iconst 0, 1) := by decide +kernel
theorem dX2_fillPlace_69 : decode cX2_fillPlace 69 = .ok (.ireturn, 1) := by decide +kernel
theorem dX2_fillPlace_70 : decode cX2_fillPlace 70 = .ok (.aload_n 0, 1) := by decide +kernel
theorem dX2_fillPlace_71 : decode cX2_fillPlace 71 = .ok (.getfield 9, 3) := by decide +kernel
theorem dX2_fillPlace_74 : decode cX2_fillPlace 74 = .ok (.iload_n 1, 1) := by decide +kernel
theorem dX2_fillPlace_75 : decode cX2_fillPlace 75 = .ok (.iconst 4, 1) := by decide +kernel
theorem dX2_fillPlace_76 : decode cX2_fillPlace 76 = .ok (.imul, 1) := by decide +kernel
theorem dX2_fillPlace_77 : decode cX2_fillPlace 77 = .ok (.iload_n 2, 1) := by decide +kernel
theorem dX2_fillPlace_78 : decode cX2_fillPlace 78 = .ok (.iadd, 1) := by decide +kernel
theorem dX2_fillPlace_79 : decode cX2_fillPlace 79 = .ok (.lload_n 3, 1) := by decide +kernel
theorem dX2_fillPlace_80 : decode cX2_fillPlace 80 = .ok (.lastore, 1) := by decide +kernel
theorem dX2_fillPlace_81 : decode cX2_fillPlace 81 = .ok (.iinc 2 1, 3) := by decide +kernel
theorem dX2_fillPlace_84 : decode cX2_fillPlace 84 = .ok (.goto (-77), 3) := by decide +kernel
theorem dX2_fillPlace_87 : decode cX2_fillPlace 87 = .ok (.iconst 1, 1) := by decide +kernel
theorem dX2_fillPlace_88 : decode cX2_fillPlace 88 = .ok (.ireturn, 1) := by decide +kernel
theorem dX2_gatherBySlot_0 : decode cX2_gatherBySlot 0 = .ok (.aload_n 0, 1) := by decide +kernel
theorem dX2_gatherBySlot_1 : decode cX2_gatherBySlot 1 = .ok (.getfield 15, 3) := by decide +kernel
theorem dX2_gatherBySlot_4 : decode cX2_gatherBySlot 4 = .ok (.lconst 0, 1) := by decide +kernel
theorem dX2_gatherBySlot_5 : decode cX2_gatherBySlot 5 = .ok (.invokestatic 66, 3) := by decide +kernel
theorem dX2_gatherBySlot_8 : decode cX2_gatherBySlot 8 = .ok (.iconst 0, 1) := by decide +kernel
theorem dX2_gatherBySlot_9 : decode cX2_gatherBySlot 9 = .ok (.istore_n 2, 1) := by decide +kernel
theorem dX2_gatherBySlot_10 : decode cX2_gatherBySlot 10 = .ok (.iload_n 2, 1) := by decide +kernel
theorem dX2_gatherBySlot_11 : decode cX2_gatherBySlot 11 = .ok (.aload_n 0, 1) := by decide +kernel
theorem dX2_gatherBySlot_12 : decode cX2_gatherBySlot 12 = .ok (.getfield 22, 3) := by decide +kernel
theorem dX2_gatherBySlot_15 : decode cX2_gatherBySlot 15 = .ok (.getfield 72, 3) := by decide +kernel
theorem dX2_gatherBySlot_18 : decode cX2_gatherBySlot 18 = .ok (.if_icmp .ge 77, 3) := by decide +kernel
theorem dX2_gatherBySlot_21 : decode cX2_gatherBySlot 21 = .ok (.aload_n 0, 1) := by decide +kernel
theorem dX2_gatherBySlot_22 : decode cX2_gatherBySlot 22 = .ok (.getfield 26, 3) := by decide +kernel
theorem dX2_gatherBySlot_25 : decode cX2_gatherBySlot 25 = .ok (.iload_n 1, 1) := by decide +kernel
theorem dX2_gatherBySlot_26 : decode cX2_gatherBySlot 26 = .ok (.iload_n 2, 1) := by decide +kernel
theorem dX2_gatherBySlot_27 : decode cX2_gatherBySlot 27 = .ok (.invokevirtual 75, 3) := by decide +kernel
theorem dX2_gatherBySlot_30 : decode cX2_gatherBySlot 30 = .ok (.istore_n 3, 1) := by decide +kernel
theorem dX2_gatherBySlot_31 : decode cX2_gatherBySlot 31 = .ok (.iload_n 3, 1) := by decide +kernel
theorem dX2_gatherBySlot_32 : decode cX2_gatherBySlot 32 = .ok (.ifCond .le 57, 3) := by decide +kernel
theorem dX2_gatherBySlot_35 : decode cX2_gatherBySlot 35 = .ok (.aload_n 0, 1) := by decide +kernel
theorem dX2_gatherBySlot_36 : decode cX2_gatherBySlot 36 = .ok (.getfield 22, 3) := by decide +kernel
theorem dX2_gatherBySlot_39 : decode cX2_gatherBySlot 39 = .ok (.getfield 78, 3) := by decide +kernel
theorem dX2_gatherBySlot_42 : decode cX2_gatherBySlot 42 = .ok (.iload_n 2, 1) := by decide +kernel
theorem dX2_gatherBySlot_43 : decode cX2_gatherBySlot 43 = .ok (.iaload, 1) := by decide +kernel
theorem dX2_gatherBySlot_44 : decode cX2_gatherBySlot 44 = .ok (.istore 4, 2) := by decide +kernel
theorem dX2_gatherBySlot_46 : decode cX2_gatherBySlot 46 = .ok (.aload_n 0, 1) := by decide +kernel
theorem dX2_gatherBySlot_47 : decode cX2_gatherBySlot 47 = .ok (.getfield 15, 3) := by decide +kernel
theorem dX2_gatherBySlot_50 : decode cX2_gatherBySlot 50 = .ok (.iload 4, 2) := by decide +kernel
theorem dX2_gatherBySlot_52 : decode cX2_gatherBySlot 52 = .ok (.aload_n 0, 1) := by decide +kernel
theorem dX2_gatherBySlot_53 : decode cX2_gatherBySlot 53 = .ok (.getfield 15, 3) := by decide +kernel
theorem dX2_gatherBySlot_56 : decode cX2_gatherBySlot 56 = .ok (.iload 4, 2) := by decide +kernel
theorem dX2_gatherBySlot_58 : decode cX2_gatherBySlot 58 = .ok (.laload, 1) := by decide +kernel
theorem dX2_gatherBySlot_59 : decode cX2_gatherBySlot 59 = .ok (.aload_n 0, 1) := by decide +kernel
theorem dX2_gatherBySlot_60 : decode cX2_gatherBySlot 60 = .ok (.getfield 22, 3) := by decide +kernel
theorem dX2_gatherBySlot_63 : decode cX2_gatherBySlot 63 = .ok (.aload_n 0, 1) := by decide +kernel
theorem dX2_gatherBySlot_64 : decode cX2_gatherBySlot 64 = .ok (.getfield 30, 3) := by decide +kernel
theorem dX2_gatherBySlot_67 : decode cX2_gatherBySlot 67 = .ok (.iload_n 2, 1) := by decide +kernel
theorem dX2_gatherBySlot_68 : decode cX2_gatherBySlot 68 = .ok (.invokevirtual 81, 3) := by decide +kernel
theorem dX2_gatherBySlot_71 : decode cX2_gatherBySlot 71 = .ok (.aload_n 0, 1) := by decide +kernel
theorem dX2_gatherBySlot_72 : decode cX2_gatherBySlot 72 = .ok (.getfield 9, 3) := by decide +kernel
theorem dX2_gatherBySlot_75 : decode cX2_gatherBySlot 75 = .ok (.iload_n 3, 1) := by decide +kernel
theorem dX2_gatherBySlot_76 : decode cX2_gatherBySlot 76 = .ok (.iconst 4, 1) := by decide +kernel
theorem dX2_gatherBySlot_77 : decode cX2_gatherBySlot 77 = .ok (.imul, 1) := by decide +kernel
theorem dX2_gatherBySlot_78 : decode cX2_gatherBySlot 78 = .ok (.iload 4, 2) := by decide +kernel
theorem dX2_gatherBySlot_80 : decode cX2_gatherBySlot 80 = .ok (.iadd, 1) := by decide +kernel
theorem dX2_gatherBySlot_81 : decode cX2_gatherBySlot 81 = .ok (.laload, 1) := by decide +kernel
theorem dX2_gatherBySlot_82 : decode cX2_gatherBySlot 82 = .ok (.invokestatic 85, 3) := by decide +kernel
theorem dX2_gatherBySlot_85 : decode cX2_gatherBySlot 85 = .ok (.invokestatic 62, 3) := by decide +kernel
theorem dX2_gatherBySlot_88 : decode cX2_gatherBySlot 88 = .ok (.lastore, 1) := by decide +kernel
theorem dX2_gatherBySlot_89 : decode cX2_gatherBySlot 89 = .ok (.iinc 2 1, 3) := by decide +kernel
theorem dX2_gatherBySlot_92 : decode cX2_gatherBySlot 92 = .ok (.goto (-82), 3) := by decide +kernel
theorem dX2_gatherBySlot_95 : decode cX2_gatherBySlot 95 = .ok (.return_, 1) := by decide +kernel
theorem dX2_plus_0 : decode cX2_plus 0 = .ok (.lload_n 0, 1) := by decide +kernel
theorem dX2_plus_1 : decode cX2_plus 1 = .ok (.lconst 0, 1) := by decide +kernel
theorem dX2_plus_2 : decode cX2_plus 2 = .ok (.lcmp, 1) := by decide +kernel
theorem dX2_plus_3 : decode cX2_plus 3 = .ok (.ifCond .lt 9, 3) := by decide +kernel
theorem dX2_plus_6 : decode cX2_plus 6 = .ok (.lload_n 2, 1) := by decide +kernel
theorem dX2_plus_7 : decode cX2_plus 7 = .ok (.lconst 0, 1) := by decide +kernel
theorem dX2_plus_8 : decode cX2_plus 8 = .ok (.lcmp, 1) := by decide +kernel
theorem dX2_plus_9 : decode cX2_plus 9 = .ok (.ifCond .ge 7, 3) := by decide +kernel
theorem dX2_plus_12 : decode cX2_plus 12 = .ok (.ldc2_w 52, 3) := by decide +kernel
theorem dX2_plus_15 : decode cX2_plus 15 = .ok (.lreturn, 1) := by decide +kernel
theorem dX2_plus_16 : decode cX2_plus 16 = .ok (.lload_n 0, 1) := by decide +kernel
theorem dX2_plus_17 : decode cX2_plus 17 = .ok (.ldc2_w 88, 3) := by decide +kernel
theorem dX2_plus_20 : decode cX2_plus 20 = .ok (.lload_n 2, 1) := by decide +kernel
theorem dX2_plus_21 : decode cX2_plus 21 = .ok (.lsub, 1) := by decide +kernel
theorem dX2_plus_22 : decode cX2_plus 22 = .ok (.lcmp, 1) := by decide +kernel
theorem dX2_plus_23 : decode cX2_plus 23 = .ok (.ifCond .le 9, 3) := by decide +kernel
theorem dX2_plus_26 : decode cX2_plus 26 = .ok (.ldc2_w 52, 3) := by decide +kernel
theorem dX2_plus_29 : decode cX2_plus 29 = .ok (.goto 6, 3) := by decide +kernel
theorem dX2_plus_32 : decode cX2_plus 32 = .ok (.lload_n 0, 1) := by decide +kernel
theorem dX2_plus_33 : decode cX2_plus 33 = .ok (.lload_n 2, 1) := by decide +kernel
theorem dX2_plus_34 : decode cX2_plus 34 = .ok (.ladd, 1) := by decide +kernel
theorem dX2_plus_35 : decode cX2_plus 35 = .ok (.lreturn, 1) := by decide +kernel
theorem dX2_times_0 : decode cX2_times 0 = .ok (.lload_n 0, 1) := by decide +kernel
theorem dX2_times_1 : decode cX2_times 1 = .ok (.lconst 1, 1) := by decide +kernel
theorem dX2_times_2 : decode cX2_times 2 = .ok (.lcmp, 1) := by decide +kernel
theorem dX2_times_3 : decode cX2_times 3 = .ok (.ifCond .lt 9, 3) := by decide +kernel
theorem dX2_times_6 : decode cX2_times 6 = .ok (.lload_n 2, 1) := by decide +kernel
theorem dX2_times_7 : decode cX2_times 7 = .ok (.lconst 1, 1) := by decide +kernel
theorem dX2_times_8 : decode cX2_times 8 = .ok (.lcmp, 1) := by decide +kernel
theorem dX2_times_9 : decode cX2_times 9 = .ok (.ifCond .ge 5, 3) := by decide +kernel
theorem dX2_times_12 : decode cX2_times 12 = .ok (.lconst 0, 1) := by decide +kernel
theorem dX2_times_13 : decode cX2_times 13 = .ok (.lreturn, 1) := by decide +kernel
theorem dX2_times_14 : decode cX2_times 14 = .ok (.lload_n 2, 1) := by decide +kernel
theorem dX2_times_15 : decode cX2_times 15 = .ok (.ldc2_w 88, 3) := by decide +kernel
theorem dX2_times_18 : decode cX2_times 18 = .ok (.lload_n 0, 1) := by decide +kernel
theorem dX2_times_19 : decode cX2_times 19 = .ok (.ldiv, 1) := by decide +kernel
theorem dX2_times_20 : decode cX2_times 20 = .ok (.lcmp, 1) := by decide +kernel
theorem dX2_times_21 : decode cX2_times 21 = .ok (.ifCond .le 9, 3) := by decide +kernel
theorem dX2_times_24 : decode cX2_times 24 = .ok (.ldc2_w 52, 3) := by decide +kernel
theorem dX2_times_27 : decode cX2_times 27 = .ok (.goto 6, 3) := by decide +kernel
theorem dX2_times_30 : decode cX2_times 30 = .ok (.lload_n 0, 1) := by decide +kernel
theorem dX2_times_31 : decode cX2_times 31 = .ok (.lload_n 2, 1) := by decide +kernel
theorem dX2_times_32 : decode cX2_times 32 = .ok (.lmul, 1) := by decide +kernel
theorem dX2_times_33 : decode cX2_times 33 = .ok (.lreturn, 1) := by decide +kernel
theorem dX2_shareOf_0 : decode cX2_shareOf 0 = .ok (.aload_n 0, 1) := by decide +kernel
theorem dX2_shareOf_1 : decode cX2_shareOf 1 = .ok (.getfield 26, 3) := by decide +kernel
theorem dX2_shareOf_4 : decode cX2_shareOf 4 = .ok (.iload_n 1, 1) := by decide +kernel
theorem dX2_shareOf_5 : decode cX2_shareOf 5 = .ok (.iload_n 3, 1) := by decide +kernel
theorem dX2_shareOf_6 : decode cX2_shareOf 6 = .ok (.invokevirtual 75, 3) := by decide +kernel
theorem dX2_shareOf_9 : decode cX2_shareOf 9 = .ok (.istore 4, 2) := by decide +kernel
theorem dX2_shareOf_11 : decode cX2_shareOf 11 = .ok (.iload 4, 2) := by decide +kernel
theorem dX2_shareOf_13 : decode cX2_shareOf 13 = .ok (.iconst 1, 1) := by decide +kernel
theorem dX2_shareOf_14 : decode cX2_shareOf 14 = .ok (.if_icmp .lt 27, 3) := by decide +kernel
theorem dX2_shareOf_17 : decode cX2_shareOf 17 = .ok (.aload_n 0, 1) := by decide +kernel
theorem dX2_shareOf_18 : decode cX2_shareOf 18 = .ok (.getfield 22, 3) := by decide +kernel
theorem dX2_shareOf_21 : decode cX2_shareOf 21 = .ok (.iload_n 1, 1) := by decide +kernel
theorem dX2_shareOf_22 : decode cX2_shareOf 22 = .ok (.iload_n 2, 1) := by decide +kernel
theorem dX2_shareOf_23 : decode cX2_shareOf 23 = .ok (.invokevirtual 58, 3) := by decide +kernel
theorem dX2_shareOf_26 : decode cX2_shareOf 26 = .ok (.aload_n 0, 1) := by decide +kernel
theorem dX2_shareOf_27 : decode cX2_shareOf 27 = .ok (.getfield 22, 3) := by decide +kernel
theorem dX2_shareOf_30 : decode cX2_shareOf 30 = .ok (.getfield 78, 3) := by decide +kernel
theorem dX2_shareOf_33 : decode cX2_shareOf 33 = .ok (.iload_n 3, 1) := by decide +kernel
theorem dX2_shareOf_34 : decode cX2_shareOf 34 = .ok (.iaload, 1) := by decide +kernel
theorem dX2_shareOf_35 : decode cX2_shareOf 35 = .ok (.invokestatic 44, 3) := by decide +kernel
theorem dX2_shareOf_38 : decode cX2_shareOf 38 = .ok (.ifCond .ne 5, 3) := by decide +kernel
theorem dX2_shareOf_41 : decode cX2_shareOf 41 = .ok (.lconst 0, 1) := by decide +kernel
theorem dX2_shareOf_42 : decode cX2_shareOf 42 = .ok (.lreturn, 1) := by decide +kernel
theorem dX2_shareOf_43 : decode cX2_shareOf 43 = .ok (.aload_n 0, 1) := by decide +kernel
theorem dX2_shareOf_44 : decode cX2_shareOf 44 = .ok (.getfield 22, 3) := by decide +kernel
theorem dX2_shareOf_47 : decode cX2_shareOf 47 = .ok (.aload_n 0, 1) := by decide +kernel
theorem dX2_shareOf_48 : decode cX2_shareOf 48 = .ok (.getfield 30, 3) := by decide +kernel
theorem dX2_shareOf_51 : decode cX2_shareOf 51 = .ok (.iload_n 3, 1) := by decide +kernel
theorem dX2_shareOf_52 : decode cX2_shareOf 52 = .ok (.invokevirtual 81, 3) := by decide +kernel
theorem dX2_shareOf_55 : decode cX2_shareOf 55 = .ok (.aload_n 0, 1) := by decide +kernel
theorem dX2_shareOf_56 : decode cX2_shareOf 56 = .ok (.getfield 9, 3) := by decide +kernel
theorem dX2_shareOf_59 : decode cX2_shareOf 59 = .ok (.iload 4, 2) := by decide +kernel
theorem dX2_shareOf_61 : decode cX2_shareOf 61 = .ok (.iconst 4, 1) := by decide +kernel
theorem dX2_shareOf_62 : decode cX2_shareOf 62 = .ok (.imul, 1) := by decide +kernel
theorem dX2_shareOf_63 : decode cX2_shareOf 63 = .ok (.aload_n 0, 1) := by decide +kernel
theorem dX2_shareOf_64 : decode cX2_shareOf 64 = .ok (.getfield 22, 3) := by decide +kernel
theorem dX2_shareOf_67 : decode cX2_shareOf 67 = .ok (.getfield 78, 3) := by decide +kernel
theorem dX2_shareOf_70 : decode cX2_shareOf 70 = .ok (.iload_n 3, 1) := by decide +kernel
theorem dX2_shareOf_71 : decode cX2_shareOf 71 = .ok (.iaload, 1) := by decide +kernel
theorem dX2_shareOf_72 : decode cX2_shareOf 72 = .ok (.iadd, 1) := by decide +kernel
theorem dX2_shareOf_73 : decode cX2_shareOf 73 = .ok (.laload, 1) := by decide +kernel
theorem dX2_shareOf_74 : decode cX2_shareOf 74 = .ok (.invokestatic 85, 3) := by decide +kernel
theorem dX2_shareOf_77 : decode cX2_shareOf 77 = .ok (.lreturn, 1) := by decide +kernel
theorem dX2_findRow_0 : decode cX2_findRow 0 = .ok (.aload_n 0, 1) := by decide +kernel
theorem dX2_findRow_1 : decode cX2_findRow 1 = .ok (.lload_n 1, 1) := by decide +kernel
theorem dX2_findRow_2 : decode cX2_findRow 2 = .ok (.putfield 90, 3) := by decide +kernel
theorem dX2_findRow_5 : decode cX2_findRow 5 = .ok (.aload_n 0, 1) := by decide +kernel
theorem dX2_findRow_6 : decode cX2_findRow 6 = .ok (.iconst 0, 1) := by decide +kernel
theorem dX2_findRow_7 : decode cX2_findRow 7 = .ok (.putfield 94, 3) := by decide +kernel
theorem dX2_findRow_10 : decode cX2_findRow 10 = .ok (.iconst 0, 1) := by decide +kernel
theorem dX2_findRow_11 : decode cX2_findRow 11 = .ok (.istore_n 3, 1) := by decide +kernel
theorem dX2_findRow_12 : decode cX2_findRow 12 = .ok (.iconst 0, 1) := by decide +kernel
theorem dX2_findRow_13 : decode cX2_findRow 13 = .ok (.istore 4, 2) := by decide +kernel
theorem dX2_findRow_15 : decode cX2_findRow 15 = .ok (.iload_n 3, 1) := by decide +kernel
theorem dX2_findRow_16 : decode cX2_findRow 16 = .ok (.aload_n 0, 1) := by decide +kernel
theorem dX2_findRow_17 : decode cX2_findRow 17 = .ok (.getfield 26, 3) := by decide +kernel
theorem dX2_findRow_20 : decode cX2_findRow 20 = .ok (.getfield 34, 3) := by decide +kernel
theorem dX2_findRow_23 : decode cX2_findRow 23 = .ok (.if_icmp .ge 75, 3) := by decide +kernel
theorem dX2_findRow_26 : decode cX2_findRow 26 = .ok (.aload_n 0, 1) := by decide +kernel
theorem dX2_findRow_27 : decode cX2_findRow 27 = .ok (.getfield 94, 3) := by decide +kernel
theorem dX2_findRow_30 : decode cX2_findRow 30 = .ok (.aload_n 0, 1) := by decide +kernel
theorem dX2_findRow_31 : decode cX2_findRow 31 = .ok (.getfield 18, 3) := by decide +kernel
theorem dX2_findRow_34 : decode cX2_findRow 34 = .ok (.arraylength, 1) := by decide +kernel
theorem dX2_findRow_35 : decode cX2_findRow 35 = .ok (.if_icmp .ge 63, 3) := by decide +kernel
theorem dX2_findRow_38 : decode cX2_findRow 38 = .ok (.aload_n 0, 1) := by decide +kernel
theorem dX2_findRow_39 : decode cX2_findRow 39 = .ok (.iload_n 3, 1) := by decide +kernel
theorem dX2_findRow_40 : decode cX2_findRow 40 = .ok (.iload 4, 2) := by decide +kernel
theorem dX2_findRow_42 : decode cX2_findRow 42 = .ok (.invokevirtual 97, 3) := by decide +kernel
theorem dX2_findRow_45 : decode cX2_findRow 45 = .ok (.istore 5, 2) := by decide +kernel
theorem dX2_findRow_47 : decode cX2_findRow 47 = .ok (.iload 5, 2) := by decide +kernel
theorem dX2_findRow_49 : decode cX2_findRow 49 = .ok (.iconst (-1), 1) := by decide +kernel
theorem dX2_findRow_50 : decode cX2_findRow 50 = .ok (.if_icmp .ne 4, 3) := by decide +kernel
theorem dX2_findRow_53 : decode cX2_findRow 53 = .ok (.return_, 1) := by decide +kernel
theorem dX2_findRow_54 : decode cX2_findRow 54 = .ok (.aload_n 0, 1) := by decide +kernel
theorem dX2_findRow_55 : decode cX2_findRow 55 = .ok (.getfield 18, 3) := by decide +kernel
theorem dX2_findRow_58 : decode cX2_findRow 58 = .ok (.aload_n 0, 1) := by decide +kernel
theorem dX2_findRow_59 : decode cX2_findRow 59 = .ok (.dup, 1) := by decide +kernel
theorem dX2_findRow_60 : decode cX2_findRow 60 = .ok (.getfield 94, 3) := by decide +kernel
theorem dX2_findRow_63 : decode cX2_findRow 63 = .ok (.dup_x1, 1) := by decide +kernel
theorem dX2_findRow_64 : decode cX2_findRow 64 = .ok (.iconst 1, 1) := by decide +kernel
theorem dX2_findRow_65 : decode cX2_findRow 65 = .ok (.iadd, 1) := by decide +kernel
theorem dX2_findRow_66 : decode cX2_findRow 66 = .ok (.putfield 94, 3) := by decide +kernel
theorem dX2_findRow_69 : decode cX2_findRow 69 = .ok (.iload 5, 2) := by decide +kernel
theorem dX2_findRow_71 : decode cX2_findRow 71 = .ok (.iastore, 1) := by decide +kernel
theorem dX2_findRow_72 : decode cX2_findRow 72 = .ok (.aload_n 0, 1) := by decide +kernel
theorem dX2_findRow_73 : decode cX2_findRow 73 = .ok (.getfield 26, 3) := by decide +kernel
theorem dX2_findRow_76 : decode cX2_findRow 76 = .ok (.iload_n 3, 1) := by decide +kernel
theorem dX2_findRow_77 : decode cX2_findRow 77 = .ok (.iload 5, 2) := by decide +kernel
theorem dX2_findRow_79 : decode cX2_findRow 79 = .ok (.invokevirtual 75, 3) := by decide +kernel
theorem dX2_findRow_82 : decode cX2_findRow 82 = .ok (.istore_n 3, 1) := by decide +kernel
theorem dX2_findRow_83 : decode cX2_findRow 83 = .ok (.aload_n 0, 1) := by decide +kernel
theorem dX2_findRow_84 : decode cX2_findRow 84 = .ok (.getfield 22, 3) := by decide +kernel
theorem dX2_findRow_87 : decode cX2_findRow 87 = .ok (.getfield 78, 3) := by decide +kernel
theorem dX2_findRow_90 : decode cX2_findRow 90 = .ok (.iload 5, 2) := by decide +kernel
theorem dX2_findRow_92 : decode cX2_findRow 92 = .ok (.iaload, 1) := by decide +kernel
theorem dX2_findRow_93 : decode cX2_findRow 93 = .ok (.istore 4, 2) := by decide +kernel
theorem dX2_findRow_95 : decode cX2_findRow 95 = .ok (.goto (-80), 3) := by decide +kernel
theorem dX2_findRow_98 : decode cX2_findRow 98 = .ok (.return_, 1) := by decide +kernel
theorem dX2_nextPhrase_0 : decode cX2_nextPhrase 0 = .ok (.iconst 0, 1) := by decide +kernel
theorem dX2_nextPhrase_1 : decode cX2_nextPhrase 1 = .ok (.istore_n 3, 1) := by decide +kernel
theorem dX2_nextPhrase_2 : decode cX2_nextPhrase 2 = .ok (.iload_n 3, 1) := by decide +kernel
theorem dX2_nextPhrase_3 : decode cX2_nextPhrase 3 = .ok (.aload_n 0, 1) := by decide +kernel
theorem dX2_nextPhrase_4 : decode cX2_nextPhrase 4 = .ok (.getfield 22, 3) := by decide +kernel
theorem dX2_nextPhrase_7 : decode cX2_nextPhrase 7 = .ok (.getfield 72, 3) := by decide +kernel
theorem dX2_nextPhrase_10 : decode cX2_nextPhrase 10 = .ok (.if_icmp .ge 66, 3) := by decide +kernel
theorem dX2_nextPhrase_13 : decode cX2_nextPhrase 13 = .ok (.aload_n 0, 1) := by decide +kernel
theorem dX2_nextPhrase_14 : decode cX2_nextPhrase 14 = .ok (.iload_n 1, 1) := by decide +kernel
theorem dX2_nextPhrase_15 : decode cX2_nextPhrase 15 = .ok (.iload_n 2, 1) := by decide +kernel
theorem dX2_nextPhrase_16 : decode cX2_nextPhrase 16 = .ok (.iload_n 3, 1) := by decide +kernel
theorem dX2_nextPhrase_17 : decode cX2_nextPhrase 17 = .ok (.invokevirtual 100, 3) := by decide +kernel
theorem dX2_nextPhrase_20 : decode cX2_nextPhrase 20 = .ok (.lstore 4, 2) := by decide +kernel
theorem dX2_nextPhrase_22 : decode cX2_nextPhrase 22 = .ok (.aload_n 0, 1) := by decide +kernel
theorem dX2_nextPhrase_23 : decode cX2_nextPhrase 23 = .ok (.getfield 90, 3) := by decide +kernel
theorem dX2_nextPhrase_26 : decode cX2_nextPhrase 26 = .ok (.lload 4, 2) := by decide +kernel
theorem dX2_nextPhrase_28 : decode cX2_nextPhrase 28 = .ok (.lcmp, 1) := by decide +kernel
theorem dX2_nextPhrase_29 : decode cX2_nextPhrase 29 = .ok (.ifCond .ge 30, 3) := by decide +kernel
theorem dX2_nextPhrase_32 : decode cX2_nextPhrase 32 = .ok (.aload_n 0, 1) := by decide +kernel
theorem dX2_nextPhrase_33 : decode cX2_nextPhrase 33 = .ok (.dup, 1) := by decide +kernel
theorem dX2_nextPhrase_34 : decode cX2_nextPhrase 34 = .ok (.getfield 90, 3) := by decide +kernel
theorem dX2_nextPhrase_37 : decode cX2_nextPhrase 37 = .ok (.lconst 1, 1) := by decide +kernel
theorem dX2_nextPhrase_38 : decode cX2_nextPhrase 38 = .ok (.aload_n 0, 1) := by decide +kernel
theorem dX2_nextPhrase_39 : decode cX2_nextPhrase 39 = .ok (.getfield 22, 3) := by decide +kernel
theorem dX2_nextPhrase_42 : decode cX2_nextPhrase 42 = .ok (.aload_n 0, 1) := by decide +kernel
theorem dX2_nextPhrase_43 : decode cX2_nextPhrase 43 = .ok (.getfield 30, 3) := by decide +kernel
theorem dX2_nextPhrase_46 : decode cX2_nextPhrase 46 = .ok (.iload_n 3, 1) := by decide +kernel
theorem dX2_nextPhrase_47 : decode cX2_nextPhrase 47 = .ok (.invokevirtual 81, 3) := by decide +kernel
theorem dX2_nextPhrase_50 : decode cX2_nextPhrase 50 = .ok (.invokestatic 104, 3) := by decide +kernel
theorem dX2_nextPhrase_53 : decode cX2_nextPhrase 53 = .ok (.ldiv, 1) := by decide +kernel
theorem dX2_nextPhrase_54 : decode cX2_nextPhrase 54 = .ok (.putfield 90, 3) := by decide +kernel
theorem dX2_nextPhrase_57 : decode cX2_nextPhrase 57 = .ok (.iload_n 3, 1) := by decide +kernel
theorem dX2_nextPhrase_58 : decode cX2_nextPhrase 58 = .ok (.ireturn, 1) := by decide +kernel
theorem dX2_nextPhrase_59 : decode cX2_nextPhrase 59 = .ok (.aload_n 0, 1) := by decide +kernel
theorem dX2_nextPhrase_60 : decode cX2_nextPhrase 60 = .ok (.dup, 1) := by decide +kernel
theorem dX2_nextPhrase_61 : decode cX2_nextPhrase 61 = .ok (.getfield 90, 3) := by decide +kernel
theorem dX2_nextPhrase_64 : decode cX2_nextPhrase 64 = .ok (.lload 4, 2) := by decide +kernel
theorem dX2_nextPhrase_66 : decode cX2_nextPhrase 66 = .ok (.lsub, 1) := by decide +kernel
theorem dX2_nextPhrase_67 : decode cX2_nextPhrase 67 = .ok (.putfield 90, 3) := by decide +kernel
theorem dX2_nextPhrase_70 : decode cX2_nextPhrase 70 = .ok (.iinc 3 1, 3) := by decide +kernel
theorem dX2_nextPhrase_73 : decode cX2_nextPhrase 73 = .ok (.goto (-71), 3) := by decide +kernel
theorem dX2_nextPhrase_76 : decode cX2_nextPhrase 76 = .ok (.iconst (-1), 1) := by decide +kernel
theorem dX2_nextPhrase_77 : decode cX2_nextPhrase 77 = .ok (.ireturn, 1) := by decide +kernel
theorem dX3_init_0 : decode cX3_init 0 = .ok (.aload_n 0, 1) := by decide +kernel
theorem dX3_init_1 : decode cX3_init 1 = .ok (.invokespecial 3, 3) := by decide +kernel
theorem dX3_init_4 : decode cX3_init 4 = .ok (.aload_n 0, 1) := by decide +kernel
theorem dX3_init_5 : decode cX3_init 5 = .ok (.bipush 6, 2) := by decide +kernel
theorem dX3_init_7 : decode cX3_init 7 = .ok (.anewarray 9, 3) := by decide +kernel
theorem dX3_init_10 : decode cX3_init 10 = .ok (.putfield 11, 3) := by decide +kernel
theorem dX3_init_13 : decode cX3_init 13 = .ok (.iconst 0, 1) := by decide +kernel
theorem dX3_init_14 : decode cX3_init 14 = .ok (.istore_n 1, 1) := by decide +kernel
theorem dX3_init_15 : decode cX3_init 15 = .ok (.iload_n 1, 1) := by decide +kernel
theorem dX3_init_16 : decode cX3_init 16 = .ok (.aload_n 0, 1) := by decide +kernel
theorem dX3_init_17 : decode cX3_init 17 = .ok (.getfield 11, 3) := by decide +kernel
theorem dX3_init_20 : decode cX3_init 20 = .ok (.arraylength, 1) := by decide +kernel
theorem dX3_init_21 : decode cX3_init 21 = .ok (.if_icmp .ge 22, 3) := by decide +kernel
theorem dX3_init_24 : decode cX3_init 24 = .ok (.aload_n 0, 1) := by decide +kernel
theorem dX3_init_25 : decode cX3_init 25 = .ok (.getfield 11, 3) := by decide +kernel
theorem dX3_init_28 : decode cX3_init 28 = .ok (.iload_n 1, 1) := by decide +kernel
theorem dX3_init_29 : decode cX3_init 29 = .ok (.new 9, 3) := by decide +kernel
theorem dX3_init_32 : decode cX3_init 32 = .ok (.dup, 1) := by decide +kernel
theorem dX3_init_33 : decode cX3_init 33 = .ok (.invokespecial 17, 3) := by decide +kernel
theorem dX3_init_36 : decode cX3_init 36 = .ok (.aastore, 1) := by decide +kernel
theorem dX3_init_37 : decode cX3_init 37 = .ok (.iinc 1 1, 3) := by decide +kernel
theorem dX3_init_40 : decode cX3_init 40 = .ok (.goto (-25), 3) := by decide +kernel
theorem dX3_init_43 : decode cX3_init 43 = .ok (.return_, 1) := by decide +kernel
theorem dX3_stage_0 : decode cX3_stage 0 = .ok (.aload_n 0, 1) := by decide +kernel
theorem dX3_stage_1 : decode cX3_stage 1 = .ok (.getfield 11, 3) := by decide +kernel
theorem dX3_stage_4 : decode cX3_stage 4 = .ok (.aload_n 0, 1) := by decide +kernel
theorem dX3_stage_5 : decode cX3_stage 5 = .ok (.getfield 18, 3) := by decide +kernel
theorem dX3_stage_8 : decode cX3_stage 8 = .ok (.aaload, 1) := by decide +kernel
theorem dX3_stage_9 : decode cX3_stage 9 = .ok (.aload_n 1, 1) := by decide +kernel
theorem dX3_stage_10 : decode cX3_stage 10 = .ok (.invokevirtual 22, 3) := by decide +kernel
theorem dX3_stage_13 : decode cX3_stage 13 = .ok (.return_, 1) := by decide +kernel
theorem dX3_keepStaged_0 : decode cX3_keepStaged 0 = .ok (.aload_n 0, 1) := by decide +kernel
theorem dX3_keepStaged_1 : decode cX3_keepStaged 1 = .ok (.aload_n 0, 1) := by decide +kernel
theorem dX3_keepStaged_2 : decode cX3_keepStaged 2 = .ok (.getfield 18, 3) := by decide +kernel
theorem dX3_keepStaged_5 : decode cX3_keepStaged 5 = .ok (.iconst 1, 1) := by decide +kernel
theorem dX3_keepStaged_6 : decode cX3_keepStaged 6 = .ok (.iadd, 1) := by decide +kernel
theorem dX3_keepStaged_7 : decode cX3_keepStaged 7 = .ok (.aload_n 0, 1) := by decide +kernel
theorem dX3_keepStaged_8 : decode cX3_keepStaged 8 = .ok (.getfield 11, 3) := by decide +kernel
theorem dX3_keepStaged_11 : decode cX3_keepStaged 11 = .ok (.arraylength, 1) := by decide +kernel
theorem dX3_keepStaged_12 : decode cX3_keepStaged 12 = .ok (.if_icmp .ge 12, 3) := by decide +kernel
theorem dX3_keepStaged_15 : decode cX3_keepStaged 15 = .ok (.aload_n 0, 1) := by decide +kernel
theorem dX3_keepStaged_16 : decode cX3_keepStaged 16 = .ok (.getfield 18, 3) := by decide +kernel
theorem dX3_keepStaged_19 : decode cX3_keepStaged 19 = .ok (.iconst 1, 1) := by decide +kernel
theorem dX3_keepStaged_20 : decode cX3_keepStaged 20 = .ok (.iadd, 1) := by decide +kernel
theorem dX3_keepStaged_21 : decode cX3_keepStaged 21 = .ok (.goto 4, 3) := by decide +kernel
theorem dX3_keepStaged_24 : decode cX3_keepStaged 24 = .ok (.iconst 0, 1) := by decide +kernel
theorem dX3_keepStaged_25 : decode cX3_keepStaged 25 = .ok (.putfield 18, 3) := by decide +kernel
theorem dX3_keepStaged_28 : decode cX3_keepStaged 28 = .ok (.aload_n 0, 1) := by decide +kernel
theorem dX3_keepStaged_29 : decode cX3_keepStaged 29 = .ok (.aload_n 0, 1) := by decide +kernel
theorem dX3_keepStaged_30 : decode cX3_keepStaged 30 = .ok (.getfield 26, 3) := by decide +kernel
theorem dX3_keepStaged_33 : decode cX3_keepStaged 33 = .ok (.iconst 1, 1) := by decide +kernel
theorem dX3_keepStaged_34 : decode cX3_keepStaged 34 = .ok (.iadd, 1) := by decide +kernel
theorem dX3_keepStaged_35 : decode cX3_keepStaged 35 = .ok (.iconst 5, 1) := by decide +kernel
theorem dX3_keepStaged_36 : decode cX3_keepStaged 36 = .ok (.invokestatic 29, 3) := by decide +kernel
theorem dX3_keepStaged_39 : decode cX3_keepStaged 39 = .ok (.putfield 26, 3) := by decide +kernel
theorem dX3_keepStaged_42 : decode cX3_keepStaged 42 = .ok (.return_, 1) := by decide +kernel
theorem dX3_restoreStaged_0 : decode cX3_restoreStaged 0 = .ok (.aload_n 1, 1) := by decide +kernel
theorem dX3_restoreStaged_1 : decode cX3_restoreStaged 1 = .ok (.aload_n 0, 1) := by decide +kernel
theorem dX3_restoreStaged_2 : decode cX3_restoreStaged 2 = .ok (.getfield 11, 3) := by decide +kernel
theorem dX3_restoreStaged_5 : decode cX3_restoreStaged 5 = .ok (.aload_n 0, 1) := by decide +kernel
theorem dX3_restoreStaged_6 : decode cX3_restoreStaged 6 = .ok (.getfield 18, 3) := by decide +kernel
theorem dX3_restoreStaged_9 : decode cX3_restoreStaged 9 = .ok (.aaload, 1) := by decide +kernel
theorem dX3_restoreStaged_10 : decode cX3_restoreStaged 10 = .ok (.invokevirtual 22, 3) := by decide +kernel
theorem dX3_restoreStaged_13 : decode cX3_restoreStaged 13 = .ok (.return_, 1) := by decide +kernel
theorem dX3_restoreLast_0 : decode cX3_restoreLast 0 = .ok (.aload_n 0, 1) := by decide +kernel
theorem dX3_restoreLast_1 : decode cX3_restoreLast 1 = .ok (.getfield 26, 3) := by decide +kernel
theorem dX3_restoreLast_4 : decode cX3_restoreLast 4 = .ok (.ifCond .le 45, 3) := by decide +kernel
theorem dX3_restoreLast_7 : decode cX3_restoreLast 7 = .ok (.aload_n 0, 1) := by decide +kernel
theorem dX3_restoreLast_8 : decode cX3_restoreLast 8 = .ok (.dup, 1) := by decide +kernel
theorem dX3_restoreLast_9 : decode cX3_restoreLast 9 = .ok (.getfield 26, 3) := by decide +kernel
theorem dX3_restoreLast_12 : decode cX3_restoreLast 12 = .ok (.iconst 1, 1) := by decide +kernel
theorem dX3_restoreLast_13 : decode cX3_restoreLast 13 = .ok (.isub, 1) := by decide +kernel
theorem dX3_restoreLast_14 : decode cX3_restoreLast 14 = .ok (.putfield 26, 3) := by decide +kernel
theorem dX3_restoreLast_17 : decode cX3_restoreLast 17 = .ok (.aload_n 0, 1) := by decide +kernel
theorem dX3_restoreLast_18 : decode cX3_restoreLast 18 = .ok (.aload_n 0, 1) := by decide +kernel
theorem dX3_restoreLast_19 : decode cX3_restoreLast 19 = .ok (.getfield 18, 3) := by decide +kernel
theorem dX3_restoreLast_22 : decode cX3_restoreLast 22 = .ok (.ifCond .le 12, 3) := by decide +kernel
theorem dX3_restoreLast_25 : decode cX3_restoreLast 25 = .ok (.aload_n 0, 1) := by decide +kernel
theorem dX3_restoreLast_26 : decode cX3_restoreLast 26 = .ok (.getfield 18, 3) := by decide +kernel
theorem dX3_restoreLast_29 : decode cX3_restoreLast 29 = .ok (.iconst 1, 1) := by decide +kernel
theorem dX3_restoreLast_30 : decode cX3_restoreLast 30 = .ok (.isub, 1) := by decide +kernel
theorem dX3_restoreLast_31 : decode cX3_restoreLast 31 = .ok (.goto 10, 3) := by decide +kernel
theorem dX3_restoreLast_34 : decode cX3_restoreLast 34 = .ok (.aload_n 0, 1) := by decide +kernel
theorem dX3_restoreLast_35 : decode cX3_restoreLast 35 = .ok (.getfield 11, 3) := by decide +kernel
theorem dX3_restoreLast_38 : decode cX3_restoreLast 38 = .ok (.arraylength, 1) := by decide +kernel
theorem dX3_restoreLast_39 : decode cX3_restoreLast 39 = .ok (.iconst 1, 1) := by decide +kernel
theorem dX3_restoreLast_40 : decode cX3_restoreLast 40 = .ok (.isub, 1) := by decide +kernel
theorem dX3_restoreLast_41 : decode cX3_restoreLast 41 = .ok (.putfield 18, 3) := by decide +kernel
theorem dX3_restoreLast_44 : decode cX3_restoreLast 44 = .ok (.aload_n 0, 1) := by decide +kernel
theorem dX3_restoreLast_45 : decode cX3_restoreLast 45 = .ok (.aload_n 1, 1) := by decide +kernel
theorem dX3_restoreLast_46 : decode cX3_restoreLast 46 = .ok (.invokevirtual 35, 3) := by decide +kernel
theorem dX3_restoreLast_49 : decode cX3_restoreLast 49 = .ok (.return_, 1) := by decide +kernel
theorem dX5_init_0 : decode cX5_init 0 = .ok (.aload_n 0, 1) := by decide +kernel
theorem dX5_init_1 : decode cX5_init 1 = .ok (.invokespecial 3, 3) := by decide +kernel
theorem dX5_init_4 : decode cX5_init 4 = .ok (.aload_n 0, 1) := by decide +kernel
theorem dX5_init_5 : decode cX5_init 5 = .ok (.sipush 150, 3) := by decide +kernel
theorem dX5_init_8 : decode cX5_init 8 = .ok (.newarray .byte, 2) := by decide +kernel
theorem dX5_init_10 : decode cX5_init 10 = .ok (.putfield 9, 3) := by decide +kernel
theorem dX5_init_13 : decode cX5_init 13 = .ok (.aload_n 0, 1) := by decide +kernel
theorem dX5_init_14 : decode cX5_init 14 = .ok (.iconst 2, 1) := by decide +kernel
theorem dX5_init_15 : decode cX5_init 15 = .ok (.newarray .int, 2) := by decide +kernel
theorem dX5_init_17 : decode cX5_init 17 = .ok (.putfield 15, 3) := by decide +kernel
theorem dX5_init_20 : decode cX5_init 20 = .ok (.aload_n 0, 1) := by decide +kernel
theorem dX5_init_21 : decode cX5_init 21 = .ok (.bipush 40, 2) := by decide +kernel
theorem dX5_init_23 : decode cX5_init 23 = .ok (.newarray .int, 2) := by decide +kernel
theorem dX5_init_25 : decode cX5_init 25 = .ok (.putfield 19, 3) := by decide +kernel
theorem dX5_init_28 : decode cX5_init 28 = .ok (.return_, 1) := by decide +kernel
theorem dX5_addByte_0 : decode cX5_addByte 0 = .ok (.iload_n 1, 1) := by decide +kernel
theorem dX5_addByte_1 : decode cX5_addByte 1 = .ok (.iconst 0, 1) := by decide +kernel
theorem dX5_addByte_2 : decode cX5_addByte 2 = .ok (.bipush 127, 2) := by decide +kernel
theorem dX5_addByte_4 : decode cX5_addByte 4 = .ok (.invokestatic 22, 3) := by decide +kernel
theorem dX5_addByte_7 : decode cX5_addByte 7 = .ok (.ifCond .ne 6, 3) := by decide +kernel
theorem dX5_addByte_10 : decode cX5_addByte 10 = .ok (.bipush (-2), 2) := by decide +kernel
theorem dX5_addByte_12 : decode cX5_addByte 12 = .ok (.ireturn, 1) := by decide +kernel
theorem dX5_addByte_13 : decode cX5_addByte 13 = .ok (.aload_n 0, 1) := by decide +kernel
theorem dX5_addByte_14 : decode cX5_addByte 14 = .ok (.getfield 26, 3) := by decide +kernel
theorem dX5_addByte_17 : decode cX5_addByte 17 = .ok (.sipush 150, 3) := by decide +kernel
theorem dX5_addByte_20 : decode cX5_addByte 20 = .ok (.if_icmp .lt 6, 3) := by decide +kernel
theorem dX5_addByte_23 : decode cX5_addByte 23 = .ok (.bipush (-4), 2) := by decide +kernel
theorem dX5_addByte_25 : decode cX5_addByte 25 = .ok (.ireturn, 1) := by decide +kernel
theorem dX5_addByte_26 : decode cX5_addByte 26 = .ok (.aload_n 0, 1) := by decide +kernel
theorem dX5_addByte_27 : decode cX5_addByte 27 = .ok (.getfield 9, 3) := by decide +kernel
theorem dX5_addByte_30 : decode cX5_addByte 30 = .ok (.aload_n 0, 1) := by decide +kernel
theorem dX5_addByte_31 : decode cX5_addByte 31 = .ok (.dup, 1) := by decide +kernel
theorem dX5_addByte_32 : decode cX5_addByte 32 = .ok (.getfield 26, 3) := by decide +kernel
theorem dX5_addByte_35 : decode cX5_addByte 35 = .ok (.dup_x1, 1) := by decide +kernel
theorem dX5_addByte_36 : decode cX5_addByte 36 = .ok (.iconst 1, 1) := by decide +kernel
theorem dX5_addByte_37 : decode cX5_addByte 37 = .ok (.iadd, 1) := by decide +kernel
theorem dX5_addByte_38 : decode cX5_addByte 38 = .ok (.putfield 26, 3) := by decide +kernel
theorem dX5_addByte_41 : decode cX5_addByte 41 = .ok (.iload_n 1, 1) := by decide +kernel
theorem dX5_addByte_42 : decode cX5_addByte 42 = .ok (.i2b, 1) := by decide +kernel
theorem dX5_addByte_43 : decode cX5_addByte 43 = .ok (.bastore, 1) := by decide +kernel
theorem dX5_addByte_44 : decode cX5_addByte 44 = .ok (.aload_n 0, 1) := by decide +kernel
theorem dX5_addByte_45 : decode cX5_addByte 45 = .ok (.getfield 26, 3) := by decide +kernel
theorem dX5_addByte_48 : decode cX5_addByte 48 = .ok (.ireturn, 1) := by decide +kernel
theorem dX5_wipeBytes_0 : decode cX5_wipeBytes 0 = .ok (.aload_n 0, 1) := by decide +kernel
theorem dX5_wipeBytes_1 : decode cX5_wipeBytes 1 = .ok (.getfield 26, 3) := by decide +kernel
theorem dX5_wipeBytes_4 : decode cX5_wipeBytes 4 = .ok (.istore_n 1, 1) := by decide +kernel
theorem dX5_wipeBytes_5 : decode cX5_wipeBytes 5 = .ok (.aload_n 0, 1) := by decide +kernel
theorem dX5_wipeBytes_6 : decode cX5_wipeBytes 6 = .ok (.iconst 0, 1) := by decide +kernel
theorem dX5_wipeBytes_7 : decode cX5_wipeBytes 7 = .ok (.putfield 26, 3) := by decide +kernel
theorem dX5_wipeBytes_10 : decode cX5_wipeBytes 10 = .ok (.iload_n 1, 1) := by decide +kernel
theorem dX5_wipeBytes_11 : decode cX5_wipeBytes 11 = .ok (.ireturn, 1) := by decide +kernel
theorem dX5_rewind_0 : decode cX5_rewind 0 = .ok (.aload_n 0, 1) := by decide +kernel
theorem dX5_rewind_1 : decode cX5_rewind 1 = .ok (.iconst 0, 1) := by decide +kernel
theorem dX5_rewind_2 : decode cX5_rewind 2 = .ok (.putfield 30, 3) := by decide +kernel
theorem dX5_rewind_5 : decode cX5_rewind 5 = .ok (.aload_n 0, 1) := by decide +kernel
theorem dX5_rewind_6 : decode cX5_rewind 6 = .ok (.invokevirtual 33, 3) := by decide +kernel
theorem dX5_rewind_9 : decode cX5_rewind 9 = .ok (.return_, 1) := by decide +kernel
theorem dX5_findFault_0 : decode cX5_findFault 0 = .ok (.aload_n 0, 1) := by decide +kernel
theorem dX5_findFault_1 : decode cX5_findFault 1 = .ok (.invokevirtual 36, 3) := by decide +kernel
theorem dX5_findFault_4 : decode cX5_findFault 4 = .ok (.aload_n 0, 1) := by decide +kernel
theorem dX5_findFault_5 : decode cX5_findFault 5 = .ok (.getfield 30, 3) := by decide +kernel
theorem dX5_findFault_8 : decode cX5_findFault 8 = .ok (.aload_n 0, 1) := by decide +kernel
theorem dX5_findFault_9 : decode cX5_findFault 9 = .ok (.getfield 26, 3) := by decide +kernel
theorem dX5_findFault_12 : decode cX5_findFault 12 = .ok (.if_icmp .ge 7, 3) := by decide +kernel
theorem dX5_findFault_15 : decode cX5_findFault 15 = .ok (.iconst 1, 1) := by decide +kernel
theorem dX5_findFault_16 : decode cX5_findFault 16 = .ok (.goto 4, 3) := by decide +kernel
theorem dX5_findFault_19 : decode cX5_findFault 19 = .ok (.iconst 0, 1) := by decide +kernel
theorem dX5_findFault_20 : decode cX5_findFault 20 = .ok (.istore_n 1, 1) := by decide +kernel
theorem dX5_findFault_21 : decode cX5_findFault 21 = .ok (.iconst 0, 1) := by decide +kernel
theorem dX5_findFault_22 : decode cX5_findFault 22 = .ok (.istore_n 2, 1) := by decide +kernel
theorem dX5_findFault_23 : decode cX5_findFault 23 = .ok (.iload_n 1, 1) := by decide +kernel
theorem dX5_findFault_24 : decode cX5_findFault 24 = .ok (.ifCond .eq 32, 3) := by decide +kernel
theorem dX5_findFault_27 : decode cX5_findFault 27 = .ok (.aload_n 0, 1) := by decide +kernel
theorem dX5_findFault_28 : decode cX5_findFault 28 = .ok (.getfield 30, 3) := by decide +kernel
theorem dX5_findFault_31 : decode cX5_findFault 31 = .ok (.aload_n 0, 1) := by decide +kernel
theorem dX5_findFault_32 : decode cX5_findFault 32 = .ok (.getfield 26, 3) := by decide +kernel
theorem dX5_findFault_35 : decode cX5_findFault 35 = .ok (.if_icmp .ge 21, 3) := by decide +kernel
theorem dX5_findFault_38 : decode cX5_findFault 38 = .ok (.iload_n 2, 1) := by decide +kernel
theorem dX5_findFault_39 : decode cX5_findFault 39 = .ok (.sipush 150, 3) := by decide +kernel
theorem dX5_findFault_42 : decode cX5_findFault 42 = .ok (.if_icmp .ge 14, 3) := by decide +kernel
theorem dX5_findFault_45 : decode cX5_findFault 45 = .ok (.aload_n 0, 1) := by decide +kernel
theorem dX5_findFault_46 : decode cX5_findFault 46 = .ok (.invokevirtual 39, 3) := by decide +kernel
theorem dX5_findFault_49 : decode cX5_findFault 49 = .ok (.istore_n 1, 1) := by decide +kernel
theorem dX5_findFault_50 : decode cX5_findFault 50 = .ok (.iinc 2 1, 3) := by decide +kernel
theorem dX5_findFault_53 : decode cX5_findFault 53 = .ok (.goto (-30), 3) := by decide +kernel
theorem dX5_findFault_56 : decode cX5_findFault 56 = .ok (.iload_n 1, 1) := by decide +kernel
theorem dX5_findFault_57 : decode cX5_findFault 57 = .ok (.ifCond .eq 7, 3) := by decide +kernel
theorem dX5_findFault_60 : decode cX5_findFault 60 = .ok (.iconst (-1), 1) := by decide +kernel
theorem dX5_findFault_61 : decode cX5_findFault 61 = .ok (.goto 7, 3) := by decide +kernel
theorem dX5_findFault_64 : decode cX5_findFault 64 = .ok (.aload_n 0, 1) := by decide +kernel
theorem dX5_findFault_65 : decode cX5_findFault 65 = .ok (.getfield 30, 3) := by decide +kernel
theorem dX5_findFault_68 : decode cX5_findFault 68 = .ok (.ireturn, 1) := by decide +kernel
theorem dX5_readOrder_0 : decode cX5_readOrder 0 = .ok (.aload_n 0, 1) := by decide +kernel
theorem dX5_readOrder_1 : decode cX5_readOrder 1 = .ok (.aload_n 0, 1) := by decide +kernel
theorem dX5_readOrder_2 : decode cX5_readOrder 2 = .ok (.invokevirtual 43, 3) := by decide +kernel
theorem dX5_readOrder_5 : decode cX5_readOrder 5 = .ok (.putfield 47, 3) := by decide +kernel
theorem dX5_readOrder_8 : decode cX5_readOrder 8 = .ok (.aload_n 0, 1) := by decide +kernel
theorem dX5_readOrder_9 : decode cX5_readOrder 9 = .ok (.getfield 47, 3) := by decide +kernel
theorem dX5_readOrder_12 : decode cX5_readOrder 12 = .ok (.invokestatic 50, 3) := by decide +kernel
theorem dX5_readOrder_15 : decode cX5_readOrder 15 = .ok (.istore_n 1, 1) := by decide +kernel
theorem dX5_readOrder_16 : decode cX5_readOrder 16 = .ok (.iload_n 1, 1) := by decide +kernel
theorem dX5_readOrder_17 : decode cX5_readOrder 17 = .ok (.iconst (-1), 1) := by decide +kernel
theorem dX5_readOrder_18 : decode cX5_readOrder 18 = .ok (.if_icmp .ne 5, 3) := by decide +kernel
theorem dX5_readOrder_21 : decode cX5_readOrder 21 = .ok (.iconst 0, 1) := by decide +kernel
theorem dX5_readOrder_22 : decode cX5_readOrder 22 = .ok (.ireturn, 1) := by decide +kernel
theorem dX5_readOrder_23 : decode cX5_readOrder 23 = .ok (.aload_n 0, 1) := by decide +kernel
theorem dX5_readOrder_24 : decode cX5_readOrder 24 = .ok (.dup, 1) := by decide +kernel
theorem dX5_readOrder_25 : decode cX5_readOrder 25 = .ok (.getfield 30, 3) := by decide +kernel
theorem dX5_readOrder_28 : decode cX5_readOrder 28 = .ok (.iconst 1, 1) := by decide +kernel
theorem dX5_readOrder_29 : decode cX5_readOrder 29 = .ok (.iadd, 1) := by decide +kernel
theorem dX5_readOrder_30 : decode cX5_readOrder 30 = .ok (.putfield 30, 3) := by decide +kernel
theorem dX5_readOrder_33 : decode cX5_readOrder 33 = .ok (.iconst 0, 1) := by decide +kernel
theorem dX5_readOrder_34 : decode cX5_readOrder 34 = .ok (.istore_n 2, 1) := by decide +kernel
theorem dX5_readOrder_35 : decode cX5_readOrder 35 = .ok (.iload_n 2, 1) := by decide +kernel
theorem dX5_readOrder_36 : decode cX5_readOrder 36 = .ok (.iload_n 1, 1) := by decide +kernel
theorem dX5_readOrder_37 : decode cX5_readOrder 37 = .ok (.if_icmp .ge 19, 3) := by decide +kernel
theorem dX5_readOrder_40 : decode cX5_readOrder 40 = .ok (.aload_n 0, 1) := by decide +kernel
theorem dX5_readOrder_41 : decode cX5_readOrder 41 = .ok (.iload_n 2, 1) := by decide +kernel
theorem dX5_readOrder_42 : decode cX5_readOrder 42 = .ok (.invokevirtual 54, 3) := by decide +kernel
theorem dX5_readOrder_45 : decode cX5_readOrder 45 = .ok (.ifCond .ne 5, 3) := by decide +kernel
theorem dX5_readOrder_48 : decode cX5_readOrder 48 = .ok (.iconst 0, 1) := by decide +kernel
theorem dX5_readOrder_49 : decode cX5_readOrder 49 = .ok (.ireturn, 1) := by decide +kernel
theorem dX5_readOrder_50 : decode cX5_readOrder 50 = .ok (.iinc 2 1, 3) := by decide +kernel
theorem dX5_readOrder_53 : decode cX5_readOrder 53 = .ok (.goto (-18), 3) := by decide +kernel
theorem dX5_readOrder_56 : decode cX5_readOrder 56 = .ok (.aload_n 0, 1) := by decide +kernel
theorem dX5_readOrder_57 : decode cX5_readOrder 57 = .ok (.invokevirtual 58, 3) := by decide +kernel
theorem dX5_readOrder_60 : decode cX5_readOrder 60 = .ok (.ifCond .ne 5, 3) := by decide +kernel
theorem dX5_readOrder_63 : decode cX5_readOrder 63 = .ok (.iconst 0, 1) := by decide +kernel
theorem dX5_readOrder_64 : decode cX5_readOrder 64 = .ok (.ireturn, 1) := by decide +kernel
theorem dX5_readOrder_65 : decode cX5_readOrder 65 = .ok (.aload_n 0, 1) := by decide +kernel
theorem dX5_readOrder_66 : decode cX5_readOrder 66 = .ok (.invokevirtual 33, 3) := by decide +kernel
theorem dX5_readOrder_69 : decode cX5_readOrder 69 = .ok (.aload_n 0, 1) := by decide +kernel
theorem dX5_readOrder_70 : decode cX5_readOrder 70 = .ok (.invokevirtual 43, 3) := by decide +kernel
theorem dX5_readOrder_73 : decode cX5_readOrder 73 = .ok (.bipush 59, 2) := by decide +kernel
theorem dX5_readOrder_75 : decode cX5_readOrder 75 = .ok (.if_icmp .eq 5, 3) := by decide +kernel
theorem dX5_readOrder_78 : decode cX5_readOrder 78 = .ok (.iconst 0, 1) := by decide +kernel
theorem dX5_readOrder_79 : decode cX5_readOrder 79 = .ok (.ireturn, 1) := by decide +kernel
theorem dX5_readOrder_80 : decode cX5_readOrder 80 = .ok (.aload_n 0, 1) := by decide +kernel
theorem dX5_readOrder_81 : decode cX5_readOrder 81 = .ok (.dup, 1) := by decide +kernel
theorem dX5_readOrder_82 : decode cX5_readOrder 82 = .ok (.getfield 30, 3) := by decide +kernel
theorem dX5_readOrder_85 : decode cX5_readOrder 85 = .ok (.iconst 1, 1) := by decide +kernel
theorem dX5_readOrder_86 : decode cX5_readOrder 86 = .ok (.iadd, 1) := by decide +kernel
theorem dX5_readOrder_87 : decode cX5_readOrder 87 = .ok (.putfield 30, 3) := by decide +kernel
theorem dX5_readOrder_90 : decode cX5_readOrder 90 = .ok (.aload_n 0, 1) := by decide +kernel
theorem dX5_readOrder_91 : decode cX5_readOrder 91 = .ok (.invokevirtual 33, 3) := by decide +kernel
theorem dX5_readOrder_94 : decode cX5_readOrder 94 = .ok (.iconst 1, 1) := by decide +kernel
theorem dX5_readOrder_95 : decode cX5_readOrder 95 = .ok (.ireturn, 1) := by decide +kernel
theorem dX5_numbersOf_0 : decode cX5_numbersOf 0 = .ok (.iload_n 0, 1) := by decide +kernel
theorem dX5_numbersOf_1 : decode cX5_numbersOf 1 = .ok (.tableswitch 113 98 120 #[109, 113, 113, 109, 109, 113, 113, 113, 113, 111, 107, 113, 113, 113, 113, 113, 113, 109, 109, 113, 113, 111, 109], 107) := by decide +kernel
theorem dX5_numbersOf_108 : decode cX5_numbersOf 108 = .ok (.iconst 0, 1) := by decide +kernel
theorem dX5_numbersOf_109 : decode cX5_numbersOf 109 = .ok (.ireturn, 1) := by decide +kernel
theorem dX5_numbersOf_110 : decode cX5_numbersOf 110 = .ok (.iconst 1, 1) := by decide +kernel
theorem dX5_numbersOf_111 : decode cX5_numbersOf 111 = .ok (.ireturn, 1) := by decide +kernel
theorem dX5_numbersOf_112 : decode cX5_numbersOf 112 = .ok (.iconst 2, 1) := by decide +kernel
theorem dX5_numbersOf_113 : decode cX5_numbersOf 113 = .ok (.ireturn, 1) := by decide +kernel
theorem dX5_numbersOf_114 : decode cX5_numbersOf 114 = .ok (.iconst (-1), 1) := by decide +kernel
theorem dX5_numbersOf_115 : decode cX5_numbersOf 115 = .ok (.ireturn, 1) := by decide +kernel
theorem dX5_readNumber_0 : decode cX5_readNumber 0 = .ok (.aload_n 0, 1) := by decide +kernel
theorem dX5_readNumber_1 : decode cX5_readNumber 1 = .ok (.invokevirtual 33, 3) := by decide +kernel
theorem dX5_readNumber_4 : decode cX5_readNumber 4 = .ok (.aload_n 0, 1) := by decide +kernel
theorem dX5_readNumber_5 : decode cX5_readNumber 5 = .ok (.invokevirtual 43, 3) := by decide +kernel
theorem dX5_readNumber_8 : decode cX5_readNumber 8 = .ok (.invokestatic 61, 3) := by decide +kernel
theorem dX5_readNumber_11 : decode cX5_readNumber 11 = .ok (.ifCond .eq 18, 3) := by decide +kernel
theorem dX5_readNumber_14 : decode cX5_readNumber 14 = .ok (.iload_n 1, 1) := by decide +kernel
theorem dX5_readNumber_15 : decode cX5_readNumber 15 = .ok (.iconst 0, 1) := by decide +kernel
theorem dX5_readNumber_16 : decode cX5_readNumber 16 = .ok (.aload_n 0, 1) := by decide +kernel
theorem dX5_readNumber_17 : decode cX5_readNumber 17 = .ok (.getfield 15, 3) := by decide +kernel
theorem dX5_readNumber_20 : decode cX5_readNumber 20 = .ok (.arraylength, 1) := by decide +kernel
theorem dX5_readNumber_21 : decode cX5_readNumber 21 = .ok (.iconst 1, 1) := by decide +kernel
theorem dX5_readNumber_22 : decode cX5_readNumber 22 = .ok (.isub, 1) := by decide +kernel
theorem dX5_readNumber_23 : decode cX5_readNumber 23 = .ok (.invokestatic 22, 3) := by decide +kernel
theorem dX5_readNumber_26 : decode cX5_readNumber 26 = .ok (.ifCond .ne 5, 3) := by decide +kernel
theorem dX5_readNumber_29 : decode cX5_readNumber 29 = .ok (.iconst 0, 1) := by decide +kernel
theorem dX5_readNumber_30 : decode cX5_readNumber 30 = .ok (.ireturn, 1) := by decide +kernel
theorem dX5_readNumber_31 : decode cX5_readNumber 31 = .ok (.aload_n 0, 1) := by decide +kernel
theorem dX5_readNumber_32 : decode cX5_readNumber 32 = .ok (.invokevirtual 43, 3) := by decide +kernel
theorem dX5_readNumber_35 : decode cX5_readNumber 35 = .ok (.bipush 48, 2) := by decide +kernel
theorem dX5_readNumber_37 : decode cX5_readNumber 37 = .ok (.isub, 1) := by decide +kernel
theorem dX5_readNumber_38 : decode cX5_readNumber 38 = .ok (.istore_n 2, 1) := by decide +kernel
theorem dX5_readNumber_39 : decode cX5_readNumber 39 = .ok (.aload_n 0, 1) := by decide +kernel
theorem dX5_readNumber_40 : decode cX5_readNumber 40 = .ok (.dup, 1) := by decide +kernel
theorem dX5_readNumber_41 : decode cX5_readNumber 41 = .ok (.getfield 30, 3) := by decide +kernel
theorem dX5_readNumber_44 : decode cX5_readNumber 44 = .ok (.iconst 1, 1) := by decide +kernel
theorem dX5_readNumber_45 : decode cX5_readNumber 45 = .ok (.iadd, 1) := by decide +kernel
theorem dX5_readNumber_46 : decode cX5_readNumber 46 = .ok (.putfield 30, 3) := by decide +kernel
theorem dX5_readNumber_49 : decode cX5_readNumber 49 = .ok (.aload_n 0, 1) := by decide +kernel
theorem dX5_readNumber_50 : decode cX5_readNumber 50 = .ok (.invokevirtual 43, 3) := by decide +kernel
theorem dX5_readNumber_53 : decode cX5_readNumber 53 = .ok (.invokestatic 61, 3) := by decide +kernel
theorem dX5_readNumber_56 : decode cX5_readNumber 56 = .ok (.ifCond .eq 26, 3) := by decide +kernel
theorem dX5_readNumber_59 : decode cX5_readNumber 59 = .ok (.iload_n 2, 1) := by decide +kernel
theorem dX5_readNumber_60 : decode cX5_readNumber 60 = .ok (.bipush 10, 2) := by decide +kernel
theorem dX5_readNumber_62 : decode cX5_readNumber 62 = .ok (.imul, 1) := by decide +kernel
theorem dX5_readNumber_63 : decode cX5_readNumber 63 = .ok (.aload_n 0, 1) := by decide +kernel
theorem dX5_readNumber_64 : decode cX5_readNumber 64 = .ok (.invokevirtual 43, 3) := by decide +kernel
theorem dX5_readNumber_67 : decode cX5_readNumber 67 = .ok (.iadd, 1) := by decide +kernel
theorem dX5_readNumber_68 : decode cX5_readNumber 68 = .ok (.bipush 48, 2) := by decide +kernel
theorem dX5_readNumber_70 : decode cX5_readNumber 70 = .ok (.isub, 1) := by decide +kernel
theorem dX5_readNumber_71 : decode cX5_readNumber 71 = .ok (.istore_n 2, 1) := by decide +kernel
theorem dX5_readNumber_72 : decode cX5_readNumber 72 = .ok (.aload_n 0, 1) := by decide +kernel
theorem dX5_readNumber_73 : decode cX5_readNumber 73 = .ok (.dup, 1) := by decide +kernel
theorem dX5_readNumber_74 : decode cX5_readNumber 74 = .ok (.getfield 30, 3) := by decide +kernel
theorem dX5_readNumber_77 : decode cX5_readNumber 77 = .ok (.iconst 1, 1) := by decide +kernel
theorem dX5_readNumber_78 : decode cX5_readNumber 78 = .ok (.iadd, 1) := by decide +kernel
theorem dX5_readNumber_79 : decode cX5_readNumber 79 = .ok (.putfield 30, 3) := by decide +kernel
theorem dX5_readNumber_82 : decode cX5_readNumber 82 = .ok (.aload_n 0, 1) := by decide +kernel
theorem dX5_readNumber_83 : decode cX5_readNumber 83 = .ok (.getfield 15, 3) := by decide +kernel
theorem dX5_readNumber_86 : decode cX5_readNumber 86 = .ok (.iload_n 1, 1) := by decide +kernel
theorem dX5_readNumber_87 : decode cX5_readNumber 87 = .ok (.iload_n 2, 1) := by decide +kernel
theorem dX5_readNumber_88 : decode cX5_readNumber 88 = .ok (.iastore, 1) := by decide +kernel
theorem dX5_readNumber_89 : decode cX5_readNumber 89 = .ok (.aload_n 0, 1) := by decide +kernel
theorem dX5_readNumber_90 : decode cX5_readNumber 90 = .ok (.invokevirtual 43, 3) := by decide +kernel
theorem dX5_readNumber_93 : decode cX5_readNumber 93 = .ok (.invokestatic 61, 3) := by decide +kernel
theorem dX5_readNumber_96 : decode cX5_readNumber 96 = .ok (.ifCond .ne 7, 3) := by decide +kernel
theorem dX5_readNumber_99 : decode cX5_readNumber 99 = .ok (.iconst 1, 1) := by decide +kernel
theorem dX5_readNumber_100 : decode cX5_readNumber 100 = .ok (.goto 4, 3) := by decide +kernel
theorem dX5_readNumber_103 : decode cX5_readNumber 103 = .ok (.iconst 0, 1) := by decide +kernel
theorem dX5_readNumber_104 : decode cX5_readNumber 104 = .ok (.ireturn, 1) := by decide +kernel
theorem dX5_readLetters_0 : decode cX5_readLetters 0 = .ok (.aload_n 0, 1) := by decide +kernel
theorem dX5_readLetters_1 : decode cX5_readLetters 1 = .ok (.iconst 0, 1) := by decide +kernel
theorem dX5_readLetters_2 : decode cX5_readLetters 2 = .ok (.putfield 64, 3) := by decide +kernel
theorem dX5_readLetters_5 : decode cX5_readLetters 5 = .ok (.aload_n 0, 1) := by decide +kernel
theorem dX5_readLetters_6 : decode cX5_readLetters 6 = .ok (.getfield 47, 3) := by decide +kernel
theorem dX5_readLetters_9 : decode cX5_readLetters 9 = .ok (.bipush 102, 2) := by decide +kernel
theorem dX5_readLetters_11 : decode cX5_readLetters 11 = .ok (.if_icmp .eq 14, 3) := by decide +kernel
theorem dX5_readLetters_14 : decode cX5_readLetters 14 = .ok (.aload_n 0, 1) := by decide +kernel
theorem dX5_readLetters_15 : decode cX5_readLetters 15 = .ok (.getfield 47, 3) := by decide +kernel
theorem dX5_readLetters_18 : decode cX5_readLetters 18 = .ok (.bipush 108, 2) := by decide +kernel
theorem dX5_readLetters_20 : decode cX5_readLetters 20 = .ok (.if_icmp .eq 5, 3) := by decide +kernel
theorem dX5_readLetters_23 : decode cX5_readLetters 23 = .ok (.iconst 1, 1) := by decide +kernel
theorem dX5_readLetters_24 : decode cX5_readLetters 24 = .ok (.ireturn, 1) := by decide +kernel
theorem dX5_readLetters_25 : decode cX5_readLetters 25 = .ok (.aload_n 0, 1) := by decide +kernel
theorem dX5_readLetters_26 : decode cX5_readLetters 26 = .ok (.getfield 47, 3) := by decide +kernel
theorem dX5_readLetters_29 : decode cX5_readLetters 29 = .ok (.bipush 102, 2) := by decide +kernel
theorem dX5_readLetters_31 : decode cX5_readLetters 31 = .ok (.if_icmp .ne 7, 3) := by decide +kernel
theorem dX5_readLetters_34 : decode cX5_readLetters 34 = .ok (.iconst 1, 1) := by decide +kernel
theorem dX5_readLetters_35 : decode cX5_readLetters 35 = .ok (.goto 4, 3) := by decide +kernel
theorem dX5_readLetters_38 : decode cX5_readLetters 38 = .ok (.iconst 0, 1) := by decide +kernel
theorem dX5_readLetters_39 : decode cX5_readLetters 39 = .ok (.istore_n 1, 1) := by decide +kernel
theorem dX5_readLetters_40 : decode cX5_readLetters 40 = .ok (.aload_n 0, 1) := by decide +kernel
theorem dX5_readLetters_41 : decode cX5_readLetters 41 = .ok (.getfield 47, 3) := by decide +kernel
theorem dX5_readLetters_44 : decode cX5_readLetters 44 = .ok (.bipush 102, 2) := by decide +kernel
theorem dX5_readLetters_46 : decode cX5_readLetters 46 = .ok (.if_icmp .ne 8, 3) := by decide +kernel
theorem dX5_readLetters_49 : decode cX5_readLetters 49 = .ok (.bipush 6, 2) := by decide +kernel
theorem dX5_readLetters_51 : decode cX5_readLetters 51 = .ok (.goto 5, 3) := by decide +kernel
theorem dX5_readLetters_54 : decode cX5_readLetters 54 = .ok (.bipush 40, 2) := by decide +kernel
theorem dX5_readLetters_56 : decode cX5_readLetters 56 = .ok (.istore_n 2, 1) := by decide +kernel
theorem dX5_readLetters_57 : decode cX5_readLetters 57 = .ok (.aload_n 0, 1) := by decide +kernel
theorem dX5_readLetters_58 : decode cX5_readLetters 58 = .ok (.invokevirtual 33, 3) := by decide +kernel
theorem dX5_readLetters_61 : decode cX5_readLetters 61 = .ok (.aload_n 0, 1) := by decide +kernel
theorem dX5_readLetters_62 : decode cX5_readLetters 62 = .ok (.invokevirtual 43, 3) := by decide +kernel
theorem dX5_readLetters_65 : decode cX5_readLetters 65 = .ok (.bipush 97, 2) := by decide +kernel
theorem dX5_readLetters_67 : decode cX5_readLetters 67 = .ok (.bipush 104, 2) := by decide +kernel
theorem dX5_readLetters_69 : decode cX5_readLetters 69 = .ok (.invokestatic 22, 3) := by decide +kernel
theorem dX5_readLetters_72 : decode cX5_readLetters 72 = .ok (.ifCond .eq 49, 3) := by decide +kernel
theorem dX5_readLetters_75 : decode cX5_readLetters 75 = .ok (.aload_n 0, 1) := by decide +kernel
theorem dX5_readLetters_76 : decode cX5_readLetters 76 = .ok (.getfield 64, 3) := by decide +kernel
theorem dX5_readLetters_79 : decode cX5_readLetters 79 = .ok (.iload_n 2, 1) := by decide +kernel
theorem dX5_readLetters_80 : decode cX5_readLetters 80 = .ok (.if_icmp .ge 41, 3) := by decide +kernel
theorem dX5_readLetters_83 : decode cX5_readLetters 83 = .ok (.aload_n 0, 1) := by decide +kernel
theorem dX5_readLetters_84 : decode cX5_readLetters 84 = .ok (.getfield 19, 3) := by decide +kernel
theorem dX5_readLetters_87 : decode cX5_readLetters 87 = .ok (.aload_n 0, 1) := by decide +kernel
theorem dX5_readLetters_88 : decode cX5_readLetters 88 = .ok (.dup, 1) := by decide +kernel
theorem dX5_readLetters_89 : decode cX5_readLetters 89 = .ok (.getfield 64, 3) := by decide +kernel
theorem dX5_readLetters_92 : decode cX5_readLetters 92 = .ok (.dup_x1, 1) := by decide +kernel
theorem dX5_readLetters_93 : decode cX5_readLetters 93 = .ok (.iconst 1, 1) := by decide +kernel
theorem dX5_readLetters_94 : decode cX5_readLetters 94 = .ok (.iadd, 1) := by decide +kernel
theorem dX5_readLetters_95 : decode cX5_readLetters 95 = .ok (.putfield 64, 3) := by decide +kernel
theorem dX5_readLetters_98 : decode cX5_readLetters 98 = .ok (.aload_n 0, 1) := by decide +kernel
theorem dX5_readLetters_99 : decode cX5_readLetters 99 = .ok (.invokevirtual 43, 3) := by decide +kernel
theorem dX5_readLetters_102 : decode cX5_readLetters 102 = .ok (.bipush 97, 2) := by decide +kernel
theorem dX5_readLetters_104 : decode cX5_readLetters 104 = .ok (.isub, 1) := by decide +kernel
theorem dX5_readLetters_105 : decode cX5_readLetters 105 = .ok (.iconst 1, 1) := by decide +kernel
theorem dX5_readLetters_106 : decode cX5_readLetters 106 = .ok (.iadd, 1) := by decide +kernel
theorem dX5_readLetters_107 : decode cX5_readLetters 107 = .ok (.iastore, 1) := by decide +kernel
theorem dX5_readLetters_108 : decode cX5_readLetters 108 = .ok (.aload_n 0, 1) := by decide +kernel
theorem dX5_readLetters_109 : decode cX5_readLetters 109 = .ok (.dup, 1) := by decide +kernel
theorem dX5_readLetters_110 : decode cX5_readLetters 110 = .ok (.getfield 30, 3) := by decide +kernel
theorem dX5_readLetters_113 : decode cX5_readLetters 113 = .ok (.iconst 1, 1) := by decide +kernel
theorem dX5_readLetters_114 : decode cX5_readLetters 114 = .ok (.iadd, 1) := by decide +kernel
theorem dX5_readLetters_115 : decode cX5_readLetters 115 = .ok (.putfield 30, 3) := by decide +kernel
theorem dX5_readLetters_118 : decode cX5_readLetters 118 = .ok (.goto (-57), 3) := by decide +kernel
theorem dX5_readLetters_121 : decode cX5_readLetters 121 = .ok (.aload_n 0, 1) := by decide +kernel
theorem dX5_readLetters_122 : decode cX5_readLetters 122 = .ok (.getfield 64, 3) := by decide +kernel
theorem dX5_readLetters_125 : decode cX5_readLetters 125 = .ok (.iload_n 1, 1) := by decide +kernel
theorem dX5_readLetters_126 : decode cX5_readLetters 126 = .ok (.if_icmp .lt 21, 3) := by decide +kernel
theorem dX5_readLetters_129 : decode cX5_readLetters 129 = .ok (.aload_n 0, 1) := by decide +kernel
theorem dX5_readLetters_130 : decode cX5_readLetters 130 = .ok (.invokevirtual 43, 3) := by decide +kernel
theorem dX5_readLetters_133 : decode cX5_readLetters 133 = .ok (.bipush 97, 2) := by decide +kernel
theorem dX5_readLetters_135 : decode cX5_readLetters 135 = .ok (.bipush 104, 2) := by decide +kernel
theorem dX5_readLetters_137 : decode cX5_readLetters 137 = .ok (.invokestatic 22, 3) := by decide +kernel
theorem dX5_readLetters_140 : decode cX5_readLetters 140 = .ok (.ifCond .ne 7, 3) := by decide +kernel
theorem dX5_readLetters_143 : decode cX5_readLetters 143 = .ok (.iconst 1, 1) := by decide +kernel
theorem dX5_readLetters_144 : decode cX5_readLetters 144 = .ok (.goto 4, 3) := by decide +kernel
theorem dX5_readLetters_147 : decode cX5_readLetters 147 = .ok (.iconst 0, 1) := by decide +kernel
theorem dX5_readLetters_148 : decode cX5_readLetters 148 = .ok (.ireturn, 1) := by decide +kernel
theorem dX5_lettersAsCode_0 : decode cX5_lettersAsCode 0 = .ok (.iconst 0, 1) := by decide +kernel
theorem dX5_lettersAsCode_1 : decode cX5_lettersAsCode 1 = .ok (.istore_n 1, 1) := by decide +kernel
theorem dX5_lettersAsCode_2 : decode cX5_lettersAsCode 2 = .ok (.iconst 0, 1) := by decide +kernel
theorem dX5_lettersAsCode_3 : decode cX5_lettersAsCode 3 = .ok (.istore_n 2, 1) := by decide +kernel
theorem dX5_lettersAsCode_4 : decode cX5_lettersAsCode 4 = .ok (.iload_n 2, 1) := by decide +kernel
theorem dX5_lettersAsCode_5 : decode cX5_lettersAsCode 5 = .ok (.aload_n 0, 1) := by decide +kernel
theorem dX5_lettersAsCode_6 : decode cX5_lettersAsCode 6 = .ok (.getfield 64, 3) := by decide +kernel
theorem dX5_lettersAsCode_9 : decode cX5_lettersAsCode 9 = .ok (.if_icmp .ge 27, 3) := by decide +kernel
theorem dX5_lettersAsCode_12 : decode cX5_lettersAsCode 12 = .ok (.iload_n 2, 1) := by decide +kernel
theorem dX5_lettersAsCode_13 : decode cX5_lettersAsCode 13 = .ok (.bipush 6, 2) := by decide +kernel
theorem dX5_lettersAsCode_15 : decode cX5_lettersAsCode 15 = .ok (.if_icmp .ge 21, 3) := by decide +kernel
theorem dX5_lettersAsCode_18 : decode cX5_lettersAsCode 18 = .ok (.iload_n 1, 1) := by decide +kernel
theorem dX5_lettersAsCode_19 : decode cX5_lettersAsCode 19 = .ok (.bipush 10, 2) := by decide +kernel
theorem dX5_lettersAsCode_21 : decode cX5_lettersAsCode 21 = .ok (.imul, 1) := by decide +kernel
theorem dX5_lettersAsCode_22 : decode cX5_lettersAsCode 22 = .ok (.aload_n 0, 1) := by decide +kernel
theorem dX5_lettersAsCode_23 : decode cX5_lettersAsCode 23 = .ok (.getfield 19, 3) := by decide +kernel
theorem dX5_lettersAsCode_26 : decode cX5_lettersAsCode 26 = .ok (.iload_n 2, 1) := by decide +kernel
theorem dX5_lettersAsCode_27 : decode cX5_lettersAsCode 27 = .ok (.iaload, 1) := by decide +kernel
theorem dX5_lettersAsCode_28 : decode cX5_lettersAsCode 28 = .ok (.iadd, 1) := by decide +kernel
theorem dX5_lettersAsCode_29 : decode cX5_lettersAsCode 29 = .ok (.istore_n 1, 1) := by decide +kernel
theorem dX5_lettersAsCode_30 : decode cX5_lettersAsCode 30 = .ok (.iinc 2 1, 3) := by decide +kernel
theorem dX5_lettersAsCode_33 : decode cX5_lettersAsCode 33 = .ok (.goto (-29), 3) := by decide +kernel
theorem dX5_lettersAsCode_36 : decode cX5_lettersAsCode 36 = .ok (.iload_n 1, 1) := by decide +kernel
theorem dX5_lettersAsCode_37 : decode cX5_lettersAsCode 37 = .ok (.ireturn, 1) := by decide +kernel
theorem dX5_byteHere_0 : decode cX5_byteHere 0 = .ok (.aload_n 0, 1) := by decide +kernel
theorem dX5_byteHere_1 : decode cX5_byteHere 1 = .ok (.getfield 30, 3) := by decide +kernel
theorem dX5_byteHere_4 : decode cX5_byteHere 4 = .ok (.ifCond .lt 26, 3) := by decide +kernel
theorem dX5_byteHere_7 : decode cX5_byteHere 7 = .ok (.aload_n 0, 1) := by decide +kernel
theorem dX5_byteHere_8 : decode cX5_byteHere 8 = .ok (.getfield 30, 3) := by decide +kernel
theorem dX5_byteHere_11 : decode cX5_byteHere 11 = .ok (.aload_n 0, 1) := by decide +kernel
theorem dX5_byteHere_12 : decode cX5_byteHere 12 = .ok (.getfield 26, 3) := by decide +kernel
theorem dX5_byteHere_15 : decode cX5_byteHere 15 = .ok (.if_icmp .ge 15, 3) := by decide +kernel
theorem dX5_byteHere_18 : decode cX5_byteHere 18 = .ok (.aload_n 0, 1) := by decide +kernel
theorem dX5_byteHere_19 : decode cX5_byteHere 19 = .ok (.getfield 9, 3) := by decide +kernel
theorem dX5_byteHere_22 : decode cX5_byteHere 22 = .ok (.aload_n 0, 1) := by decide +kernel
theorem dX5_byteHere_23 : decode cX5_byteHere 23 = .ok (.getfield 30, 3) := by decide +kernel
theorem dX5_byteHere_26 : decode cX5_byteHere 26 = .ok (.baload, 1) := by decide +kernel
theorem dX5_byteHere_27 : decode cX5_byteHere 27 = .ok (.goto 4, 3) := by decide +kernel
theorem dX5_byteHere_30 : decode cX5_byteHere 30 = .ok (.iconst (-1), 1) := by decide +kernel
theorem dX5_byteHere_31 : decode cX5_byteHere 31 = .ok (.ireturn, 1) := by decide +kernel
theorem dX5_skipBlanks_0 : decode cX5_skipBlanks 0 = .ok (.aload_n 0, 1) := by decide +kernel
theorem dX5_skipBlanks_1 : decode cX5_skipBlanks 1 = .ok (.getfield 30, 3) := by decide +kernel
theorem dX5_skipBlanks_4 : decode cX5_skipBlanks 4 = .ok (.aload_n 0, 1) := by decide +kernel
theorem dX5_skipBlanks_5 : decode cX5_skipBlanks 5 = .ok (.getfield 26, 3) := by decide +kernel
theorem dX5_skipBlanks_8 : decode cX5_skipBlanks 8 = .ok (.if_icmp .ge 30, 3) := by decide +kernel
theorem dX5_skipBlanks_11 : decode cX5_skipBlanks 11 = .ok (.aload_n 0, 1) := by decide +kernel
theorem dX5_skipBlanks_12 : decode cX5_skipBlanks 12 = .ok (.getfield 9, 3) := by decide +kernel
theorem dX5_skipBlanks_15 : decode cX5_skipBlanks 15 = .ok (.aload_n 0, 1) := by decide +kernel
theorem dX5_skipBlanks_16 : decode cX5_skipBlanks 16 = .ok (.getfield 30, 3) := by decide +kernel
theorem dX5_skipBlanks_19 : decode cX5_skipBlanks 19 = .ok (.baload, 1) := by decide +kernel
theorem dX5_skipBlanks_20 : decode cX5_skipBlanks 20 = .ok (.bipush 32, 2) := by decide +kernel
theorem dX5_skipBlanks_22 : decode cX5_skipBlanks 22 = .ok (.if_icmp .ne 16, 3) := by decide +kernel
theorem dX5_skipBlanks_25 : decode cX5_skipBlanks 25 = .ok (.aload_n 0, 1) := by decide +kernel
theorem dX5_skipBlanks_26 : decode cX5_skipBlanks 26 = .ok (.dup, 1) := by decide +kernel
theorem dX5_skipBlanks_27 : decode cX5_skipBlanks 27 = .ok (.getfield 30, 3) := by decide +kernel
theorem dX5_skipBlanks_30 : decode cX5_skipBlanks 30 = .ok (.iconst 1, 1) := by decide +kernel
theorem dX5_skipBlanks_31 : decode cX5_skipBlanks 31 = .ok (.iadd, 1) := by decide +kernel
theorem dX5_skipBlanks_32 : decode cX5_skipBlanks 32 = .ok (.putfield 30, 3) := by decide +kernel
theorem dX5_skipBlanks_35 : decode cX5_skipBlanks 35 = .ok (.goto (-35), 3) := by decide +kernel
theorem dX5_skipBlanks_38 : decode cX5_skipBlanks 38 = .ok (.return_, 1) := by decide +kernel
theorem dX5_isFigure_0 : decode cX5_isFigure 0 = .ok (.iload_n 0, 1) := by decide +kernel
theorem dX5_isFigure_1 : decode cX5_isFigure 1 = .ok (.bipush 48, 2) := by decide +kernel
theorem dX5_isFigure_3 : decode cX5_isFigure 3 = .ok (.bipush 57, 2) := by decide +kernel
theorem dX5_isFigure_5 : decode cX5_isFigure 5 = .ok (.invokestatic 22, 3) := by decide +kernel
theorem dX5_isFigure_8 : decode cX5_isFigure 8 = .ok (.ireturn, 1) := by decide +kernel
theorem dJ9_max_f86c9_0 : decode cJ9_max_f86c9 0 = .ok (.lload_n 0, 1) := by decide +kernel
theorem dJ9_max_f86c9_1 : decode cJ9_max_f86c9 1 = .ok (.lload_n 2, 1) := by decide +kernel
theorem dJ9_max_f86c9_2 : decode cJ9_max_f86c9 2 = .ok (.lcmp, 1) := by decide +kernel
theorem dJ9_max_f86c9_3 : decode cJ9_max_f86c9 3 = .ok (.ifCond .lt 7, 3) := by decide +kernel
theorem dJ9_max_f86c9_6 : decode cJ9_max_f86c9 6 = .ok (.lload_n 0, 1) := by decide +kernel
theorem dJ9_max_f86c9_7 : decode cJ9_max_f86c9 7 = .ok (.goto 4, 3) := by decide +kernel
theorem dJ9_max_f86c9_10 : decode cJ9_max_f86c9 10 = .ok (.lload_n 2, 1) := by decide +kernel
theorem dJ9_max_f86c9_11 : decode cJ9_max_f86c9 11 = .ok (.lreturn, 1) := by decide +kernel
theorem dJ9_min_7cf53_0 : decode cJ9_min_7cf53 0 = .ok (.iload_n 0, 1) := by decide +kernel
theorem dJ9_min_7cf53_1 : decode cJ9_min_7cf53 1 = .ok (.iload_n 1, 1) := by decide +kernel
theorem dJ9_min_7cf53_2 : decode cJ9_min_7cf53 2 = .ok (.if_icmp .gt 7, 3) := by decide +kernel
theorem dJ9_min_7cf53_5 : decode cJ9_min_7cf53 5 = .ok (.iload_n 0, 1) := by decide +kernel
theorem dJ9_min_7cf53_6 : decode cJ9_min_7cf53 6 = .ok (.goto 4, 3) := by decide +kernel
theorem dJ9_min_7cf53_9 : decode cJ9_min_7cf53 9 = .ok (.iload_n 1, 1) := by decide +kernel
theorem dJ9_min_7cf53_10 : decode cJ9_min_7cf53 10 = .ok (.ireturn, 1) := by decide +kernel
theorem dJ7_fill_d0a16_0 : decode cJ7_fill_d0a16 0 = .ok (.iconst 0, 1) := by decide +kernel
theorem dJ7_fill_d0a16_1 : decode cJ7_fill_d0a16 1 = .ok (.istore_n 3, 1) := by decide +kernel
theorem dJ7_fill_d0a16_2 : decode cJ7_fill_d0a16 2 = .ok (.aload_n 0, 1) := by decide +kernel
theorem dJ7_fill_d0a16_3 : decode cJ7_fill_d0a16 3 = .ok (.arraylength, 1) := by decide +kernel
theorem dJ7_fill_d0a16_4 : decode cJ7_fill_d0a16 4 = .ok (.istore 4, 2) := by decide +kernel
theorem dJ7_fill_d0a16_6 : decode cJ7_fill_d0a16 6 = .ok (.iload_n 3, 1) := by decide +kernel
theorem dJ7_fill_d0a16_7 : decode cJ7_fill_d0a16 7 = .ok (.iload 4, 2) := by decide +kernel
theorem dJ7_fill_d0a16_9 : decode cJ7_fill_d0a16 9 = .ok (.if_icmp .ge 13, 3) := by decide +kernel
theorem dJ7_fill_d0a16_12 : decode cJ7_fill_d0a16 12 = .ok (.aload_n 0, 1) := by decide +kernel
theorem dJ7_fill_d0a16_13 : decode cJ7_fill_d0a16 13 = .ok (.iload_n 3, 1) := by decide +kernel
theorem dJ7_fill_d0a16_14 : decode cJ7_fill_d0a16 14 = .ok (.lload_n 1, 1) := by decide +kernel
theorem dJ7_fill_d0a16_15 : decode cJ7_fill_d0a16 15 = .ok (.lastore, 1) := by decide +kernel
theorem dJ7_fill_d0a16_16 : decode cJ7_fill_d0a16 16 = .ok (.iinc 3 1, 3) := by decide +kernel
theorem dJ7_fill_d0a16_19 : decode cJ7_fill_d0a16 19 = .ok (.goto (-13), 3) := by decide +kernel
theorem dJ7_fill_d0a16_22 : decode cJ7_fill_d0a16 22 = .ok (.return_, 1) := by decide +kernel
theorem dJ7_fill_53178_0 : decode cJ7_fill_53178 0 = .ok (.iconst 0, 1) := by decide +kernel
theorem dJ7_fill_53178_1 : decode cJ7_fill_53178 1 = .ok (.istore_n 2, 1) := by decide +kernel
theorem dJ7_fill_53178_2 : decode cJ7_fill_53178 2 = .ok (.aload_n 0, 1) := by decide +kernel
theorem dJ7_fill_53178_3 : decode cJ7_fill_53178 3 = .ok (.arraylength, 1) := by decide +kernel
theorem dJ7_fill_53178_4 : decode cJ7_fill_53178 4 = .ok (.istore_n 3, 1) := by decide +kernel
theorem dJ7_fill_53178_5 : decode cJ7_fill_53178 5 = .ok (.iload_n 2, 1) := by decide +kernel
theorem dJ7_fill_53178_6 : decode cJ7_fill_53178 6 = .ok (.iload_n 3, 1) := by decide +kernel
theorem dJ7_fill_53178_7 : decode cJ7_fill_53178 7 = .ok (.if_icmp .ge 13, 3) := by decide +kernel
theorem dJ7_fill_53178_10 : decode cJ7_fill_53178 10 = .ok (.aload_n 0, 1) := by decide +kernel
theorem dJ7_fill_53178_11 : decode cJ7_fill_53178 11 = .ok (.iload_n 2, 1) := by decide +kernel
theorem dJ7_fill_53178_12 : decode cJ7_fill_53178 12 = .ok (.iload_n 1, 1) := by decide +kernel
theorem dJ7_fill_53178_13 : decode cJ7_fill_53178 13 = .ok (.iastore, 1) := by decide +kernel
theorem dJ7_fill_53178_14 : decode cJ7_fill_53178 14 = .ok (.iinc 2 1, 3) := by decide +kernel
theorem dJ7_fill_53178_17 : decode cJ7_fill_53178 17 = .ok (.goto (-12), 3) := by decide +kernel
theorem dJ7_fill_53178_20 : decode cJ7_fill_53178 20 = .ok (.return_, 1) := by decide +kernel
end
section
theorem dX4_init_0 : decode cX4_init 0 = .ok (.aload_n 0, 1) := by decide +kernel
theorem dX4_init_1 : decode cX4_init 1 = .ok (.invokespecial 3, 3) := by decide +kernel
theorem dX4_init_4 : decode cX4_init 4 = .ok (.aload_n 0, 1) := by decide +kernel
theorem dX4_init_5 : decode cX4_init 5 = .ok (.bipush 12, 2) := by decide +kernel
theorem dX4_init_7 : decode cX4_init 7 = .ok (.newarray .int, 2) := by decide +kernel
theorem dX4_init_9 : decode cX4_init 9 = .ok (.putfield 9, 3) := by decide +kernel
theorem dX4_init_12 : decode cX4_init 12 = .ok (.aload_n 0, 1) := by decide +kernel
theorem dX4_init_13 : decode cX4_init 13 = .ok (.bipush 12, 2) := by decide +kernel
theorem dX4_init_15 : decode cX4_init 15 = .ok (.newarray .int, 2) := by decide +kernel
theorem dX4_init_17 : decode cX4_init 17 = .ok (.putfield 15, 3) := by decide +kernel
theorem dX4_init_20 : decode cX4_init 20 = .ok (.aload_n 0, 1) := by decide +kernel
theorem dX4_init_21 : decode cX4_init 21 = .ok (.bipush 12, 2) := by decide +kernel
theorem dX4_init_23 : decode cX4_init 23 = .ok (.newarray .int, 2) := by decide +kernel
theorem dX4_init_25 : decode cX4_init 25 = .ok (.putfield 18, 3) := by decide +kernel
theorem dX4_init_28 : decode cX4_init 28 = .ok (.aload_n 0, 1) := by decide +kernel
theorem dX4_init_29 : decode cX4_init 29 = .ok (.bipush 12, 2) := by decide +kernel
theorem dX4_init_31 : decode cX4_init 31 = .ok (.newarray .int, 2) := by decide +kernel
theorem dX4_init_33 : decode cX4_init 33 = .ok (.putfield 21, 3) := by decide +kernel
theorem dX4_init_36 : decode cX4_init 36 = .ok (.aload_n 0, 1) := by decide +kernel
theorem dX4_init_37 : decode cX4_init 37 = .ok (.bipush 36, 2) := by decide +kernel
theorem dX4_init_39 : decode cX4_init 39 = .ok (.newarray .int, 2) := by decide +kernel
theorem dX4_init_41 : decode cX4_init 41 = .ok (.putfield 24, 3) := by decide +kernel
theorem dX4_init_44 : decode cX4_init 44 = .ok (.aload_n 0, 1) := by decide +kernel
theorem dX4_init_45 : decode cX4_init 45 = .ok (.bipush 40, 2) := by decide +kernel
theorem dX4_init_47 : decode cX4_init 47 = .ok (.newarray .int, 2) := by decide +kernel
theorem dX4_init_49 : decode cX4_init 49 = .ok (.putfield 27, 3) := by decide +kernel
theorem dX4_init_52 : decode cX4_init 52 = .ok (.aload_n 0, 1) := by decide +kernel
theorem dX4_init_53 : decode cX4_init 53 = .ok (.bipush 40, 2) := by decide +kernel
theorem dX4_init_55 : decode cX4_init 55 = .ok (.newarray .int, 2) := by decide +kernel
theorem dX4_init_57 : decode cX4_init 57 = .ok (.putfield 30, 3) := by decide +kernel
theorem dX4_init_60 : decode cX4_init 60 = .ok (.aload_n 0, 1) := by decide +kernel
theorem dX4_init_61 : decode cX4_init 61 = .ok (.iconst 4, 1) := by decide +kernel
theorem dX4_init_62 : decode cX4_init 62 = .ok (.newarray .int, 2) := by decide +kernel
theorem dX4_init_64 : decode cX4_init 64 = .ok (.putfield 33, 3) := by decide +kernel
theorem dX4_init_67 : decode cX4_init 67 = .ok (.aload_n 0, 1) := by decide +kernel
theorem dX4_init_68 : decode cX4_init 68 = .ok (.bipush 12, 2) := by decide +kernel
theorem dX4_init_70 : decode cX4_init 70 = .ok (.putfield 36, 3) := by decide +kernel
theorem dX4_init_73 : decode cX4_init 73 = .ok (.aload_n 0, 1) := by decide +kernel
theorem dX4_init_74 : decode cX4_init 74 = .ok (.bipush 15, 2) := by decide +kernel
theorem dX4_init_76 : decode cX4_init 76 = .ok (.putfield 40, 3) := by decide +kernel
theorem dX4_init_79 : decode cX4_init 79 = .ok (.aload_n 0, 1) := by decide +kernel
theorem dX4_init_80 : decode cX4_init 80 = .ok (.bipush 15, 2) := by decide +kernel
theorem dX4_init_82 : decode cX4_init 82 = .ok (.putfield 43, 3) := by decide +kernel
theorem dX4_init_85 : decode cX4_init 85 = .ok (.aload_n 0, 1) := by decide +kernel
theorem dX4_init_86 : decode cX4_init 86 = .ok (.getfield 33, 3) := by decide +kernel
theorem dX4_init_89 : decode cX4_init 89 = .ok (.bipush 15, 2) := by decide +kernel
theorem dX4_init_91 : decode cX4_init 91 = .ok (.invokestatic 46, 3) := by decide +kernel
theorem dX4_init_94 : decode cX4_init 94 = .ok (.return_, 1) := by decide +kernel
theorem dX4_copyFrom_0 : decode cX4_copyFrom 0 = .ok (.aload_n 1, 1) := by decide +kernel
theorem dX4_copyFrom_1 : decode cX4_copyFrom 1 = .ok (.getfield 9, 3) := by decide +kernel
theorem dX4_copyFrom_4 : decode cX4_copyFrom 4 = .ok (.aload_n 0, 1) := by decide +kernel
theorem dX4_copyFrom_5 : decode cX4_copyFrom 5 = .ok (.getfield 9, 3) := by decide +kernel
theorem dX4_copyFrom_8 : decode cX4_copyFrom 8 = .ok (.invokestatic 52, 3) := by decide +kernel
theorem dX4_copyFrom_11 : decode cX4_copyFrom 11 = .ok (.aload_n 1, 1) := by decide +kernel
theorem dX4_copyFrom_12 : decode cX4_copyFrom 12 = .ok (.getfield 15, 3) := by decide +kernel
theorem dX4_copyFrom_15 : decode cX4_copyFrom 15 = .ok (.aload_n 0, 1) := by decide +kernel
theorem dX4_copyFrom_16 : decode cX4_copyFrom 16 = .ok (.getfield 15, 3) := by decide +kernel
theorem dX4_copyFrom_19 : decode cX4_copyFrom 19 = .ok (.invokestatic 52, 3) := by decide +kernel
theorem dX4_copyFrom_22 : decode cX4_copyFrom 22 = .ok (.aload_n 1, 1) := by decide +kernel
theorem dX4_copyFrom_23 : decode cX4_copyFrom 23 = .ok (.getfield 18, 3) := by decide +kernel
theorem dX4_copyFrom_26 : decode cX4_copyFrom 26 = .ok (.aload_n 0, 1) := by decide +kernel
theorem dX4_copyFrom_27 : decode cX4_copyFrom 27 = .ok (.getfield 18, 3) := by decide +kernel
theorem dX4_copyFrom_30 : decode cX4_copyFrom 30 = .ok (.invokestatic 52, 3) := by decide +kernel
theorem dX4_copyFrom_33 : decode cX4_copyFrom 33 = .ok (.aload_n 1, 1) := by decide +kernel
theorem dX4_copyFrom_34 : decode cX4_copyFrom 34 = .ok (.getfield 21, 3) := by decide +kernel
theorem dX4_copyFrom_37 : decode cX4_copyFrom 37 = .ok (.aload_n 0, 1) := by decide +kernel
theorem dX4_copyFrom_38 : decode cX4_copyFrom 38 = .ok (.getfield 21, 3) := by decide +kernel
theorem dX4_copyFrom_41 : decode cX4_copyFrom 41 = .ok (.invokestatic 52, 3) := by decide +kernel
theorem dX4_copyFrom_44 : decode cX4_copyFrom 44 = .ok (.aload_n 1, 1) := by decide +kernel
theorem dX4_copyFrom_45 : decode cX4_copyFrom 45 = .ok (.getfield 24, 3) := by decide +kernel
theorem dX4_copyFrom_48 : decode cX4_copyFrom 48 = .ok (.aload_n 0, 1) := by decide +kernel
theorem dX4_copyFrom_49 : decode cX4_copyFrom 49 = .ok (.getfield 24, 3) := by decide +kernel
theorem dX4_copyFrom_52 : decode cX4_copyFrom 52 = .ok (.invokestatic 52, 3) := by decide +kernel
theorem dX4_copyFrom_55 : decode cX4_copyFrom 55 = .ok (.aload_n 1, 1) := by decide +kernel
theorem dX4_copyFrom_56 : decode cX4_copyFrom 56 = .ok (.getfield 27, 3) := by decide +kernel
theorem dX4_copyFrom_59 : decode cX4_copyFrom 59 = .ok (.aload_n 0, 1) := by decide +kernel
theorem dX4_copyFrom_60 : decode cX4_copyFrom 60 = .ok (.getfield 27, 3) := by decide +kernel
theorem dX4_copyFrom_63 : decode cX4_copyFrom 63 = .ok (.invokestatic 52, 3) := by decide +kernel
theorem dX4_copyFrom_66 : decode cX4_copyFrom 66 = .ok (.aload_n 1, 1) := by decide +kernel
theorem dX4_copyFrom_67 : decode cX4_copyFrom 67 = .ok (.getfield 30, 3) := by decide +kernel
theorem dX4_copyFrom_70 : decode cX4_copyFrom 70 = .ok (.aload_n 0, 1) := by decide +kernel
theorem dX4_copyFrom_71 : decode cX4_copyFrom 71 = .ok (.getfield 30, 3) := by decide +kernel
theorem dX4_copyFrom_74 : decode cX4_copyFrom 74 = .ok (.invokestatic 52, 3) := by decide +kernel
theorem dX4_copyFrom_77 : decode cX4_copyFrom 77 = .ok (.aload_n 1, 1) := by decide +kernel
theorem dX4_copyFrom_78 : decode cX4_copyFrom 78 = .ok (.getfield 33, 3) := by decide +kernel
theorem dX4_copyFrom_81 : decode cX4_copyFrom 81 = .ok (.aload_n 0, 1) := by decide +kernel
theorem dX4_copyFrom_82 : decode cX4_copyFrom 82 = .ok (.getfield 33, 3) := by decide +kernel
theorem dX4_copyFrom_85 : decode cX4_copyFrom 85 = .ok (.invokestatic 52, 3) := by decide +kernel
theorem dX4_copyFrom_88 : decode cX4_copyFrom 88 = .ok (.aload_n 0, 1) := by decide +kernel
theorem dX4_copyFrom_89 : decode cX4_copyFrom 89 = .ok (.aload_n 1, 1) := by decide +kernel
theorem dX4_copyFrom_90 : decode cX4_copyFrom 90 = .ok (.getfield 56, 3) := by decide +kernel
theorem dX4_copyFrom_93 : decode cX4_copyFrom 93 = .ok (.putfield 56, 3) := by decide +kernel
theorem dX4_copyFrom_96 : decode cX4_copyFrom 96 = .ok (.aload_n 0, 1) := by decide +kernel
theorem dX4_copyFrom_97 : decode cX4_copyFrom 97 = .ok (.aload_n 1, 1) := by decide +kernel
theorem dX4_copyFrom_98 : decode cX4_copyFrom 98 = .ok (.getfield 59, 3) := by decide +kernel
theorem dX4_copyFrom_101 : decode cX4_copyFrom 101 = .ok (.putfield 59, 3) := by decide +kernel
theorem dX4_copyFrom_104 : decode cX4_copyFrom 104 = .ok (.aload_n 0, 1) := by decide +kernel
theorem dX4_copyFrom_105 : decode cX4_copyFrom 105 = .ok (.aload_n 1, 1) := by decide +kernel
theorem dX4_copyFrom_106 : decode cX4_copyFrom 106 = .ok (.getfield 36, 3) := by decide +kernel
theorem dX4_copyFrom_109 : decode cX4_copyFrom 109 = .ok (.putfield 36, 3) := by decide +kernel
theorem dX4_copyFrom_112 : decode cX4_copyFrom 112 = .ok (.aload_n 0, 1) := by decide +kernel
theorem dX4_copyFrom_113 : decode cX4_copyFrom 113 = .ok (.aload_n 1, 1) := by decide +kernel
theorem dX4_copyFrom_114 : decode cX4_copyFrom 114 = .ok (.getfield 40, 3) := by decide +kernel
theorem dX4_copyFrom_117 : decode cX4_copyFrom 117 = .ok (.putfield 40, 3) := by decide +kernel
theorem dX4_copyFrom_120 : decode cX4_copyFrom 120 = .ok (.aload_n 0, 1) := by decide +kernel
theorem dX4_copyFrom_121 : decode cX4_copyFrom 121 = .ok (.aload_n 1, 1) := by decide +kernel
theorem dX4_copyFrom_122 : decode cX4_copyFrom 122 = .ok (.getfield 43, 3) := by decide +kernel
theorem dX4_copyFrom_125 : decode cX4_copyFrom 125 = .ok (.putfield 43, 3) := by decide +kernel
theorem dX4_copyFrom_128 : decode cX4_copyFrom 128 = .ok (.return_, 1) := by decide +kernel
theorem dX4_copyRow_0 : decode cX4_copyRow 0 = .ok (.aload_n 0, 1) := by decide +kernel
theorem dX4_copyRow_1 : decode cX4_copyRow 1 = .ok (.iconst 0, 1) := by decide +kernel
theorem dX4_copyRow_2 : decode cX4_copyRow 2 = .ok (.aload_n 1, 1) := by decide +kernel
theorem dX4_copyRow_3 : decode cX4_copyRow 3 = .ok (.iconst 0, 1) := by decide +kernel
theorem dX4_copyRow_4 : decode cX4_copyRow 4 = .ok (.aload_n 0, 1) := by decide +kernel
theorem dX4_copyRow_5 : decode cX4_copyRow 5 = .ok (.arraylength, 1) := by decide +kernel
theorem dX4_copyRow_6 : decode cX4_copyRow 6 = .ok (.aload_n 1, 1) := by decide +kernel
theorem dX4_copyRow_7 : decode cX4_copyRow 7 = .ok (.arraylength, 1) := by decide +kernel
theorem dX4_copyRow_8 : decode cX4_copyRow 8 = .ok (.invokestatic 62, 3) := by decide +kernel
theorem dX4_copyRow_11 : decode cX4_copyRow 11 = .ok (.invokestatic 68, 3) := by decide +kernel
theorem dX4_copyRow_14 : decode cX4_copyRow 14 = .ok (.return_, 1) := by decide +kernel
theorem dX4_hasPhrase_0 : decode cX4_hasPhrase 0 = .ok (.iload_n 1, 1) := by decide +kernel
theorem dX4_hasPhrase_1 : decode cX4_hasPhrase 1 = .ok (.iconst 0, 1) := by decide +kernel
theorem dX4_hasPhrase_2 : decode cX4_hasPhrase 2 = .ok (.aload_n 0, 1) := by decide +kernel
theorem dX4_hasPhrase_3 : decode cX4_hasPhrase 3 = .ok (.getfield 56, 3) := by decide +kernel
theorem dX4_hasPhrase_6 : decode cX4_hasPhrase 6 = .ok (.iconst 1, 1) := by decide +kernel
theorem dX4_hasPhrase_7 : decode cX4_hasPhrase 7 = .ok (.isub, 1) := by decide +kernel
theorem dX4_hasPhrase_8 : decode cX4_hasPhrase 8 = .ok (.invokestatic 74, 3) := by decide +kernel
theorem dX4_hasPhrase_11 : decode cX4_hasPhrase 11 = .ok (.ireturn, 1) := by decide +kernel
theorem dX4_addPhrase_0 : decode cX4_addPhrase 0 = .ok (.iload_n 2, 1) := by decide +kernel
theorem dX4_addPhrase_1 : decode cX4_addPhrase 1 = .ok (.invokestatic 78, 3) := by decide +kernel
theorem dX4_addPhrase_4 : decode cX4_addPhrase 4 = .ok (.istore_n 3, 1) := by decide +kernel
theorem dX4_addPhrase_5 : decode cX4_addPhrase 5 = .ok (.iload_n 1, 1) := by decide +kernel
theorem dX4_addPhrase_6 : decode cX4_addPhrase 6 = .ok (.invokestatic 82, 3) := by decide +kernel
theorem dX4_addPhrase_9 : decode cX4_addPhrase 9 = .ok (.ifCond .eq 7, 3) := by decide +kernel
theorem dX4_addPhrase_12 : decode cX4_addPhrase 12 = .ok (.iload_n 3, 1) := by decide +kernel
theorem dX4_addPhrase_13 : decode cX4_addPhrase 13 = .ok (.ifCond .ne 6, 3) := by decide +kernel
theorem dX4_addPhrase_16 : decode cX4_addPhrase 16 = .ok (.bipush (-2), 2) := by decide +kernel
theorem dX4_addPhrase_18 : decode cX4_addPhrase 18 = .ok (.ireturn, 1) := by decide +kernel
theorem dX4_addPhrase_19 : decode cX4_addPhrase 19 = .ok (.iconst 0, 1) := by decide +kernel
theorem dX4_addPhrase_20 : decode cX4_addPhrase 20 = .ok (.istore 4, 2) := by decide +kernel
theorem dX4_addPhrase_22 : decode cX4_addPhrase 22 = .ok (.iload 4, 2) := by decide +kernel
theorem dX4_addPhrase_24 : decode cX4_addPhrase 24 = .ok (.aload_n 0, 1) := by decide +kernel
theorem dX4_addPhrase_25 : decode cX4_addPhrase 25 = .ok (.getfield 56, 3) := by decide +kernel
theorem dX4_addPhrase_28 : decode cX4_addPhrase 28 = .ok (.if_icmp .ge 34, 3) := by decide +kernel
theorem dX4_addPhrase_31 : decode cX4_addPhrase 31 = .ok (.aload_n 0, 1) := by decide +kernel
theorem dX4_addPhrase_32 : decode cX4_addPhrase 32 = .ok (.getfield 9, 3) := by decide +kernel
theorem dX4_addPhrase_35 : decode cX4_addPhrase 35 = .ok (.iload 4, 2) := by decide +kernel
theorem dX4_addPhrase_37 : decode cX4_addPhrase 37 = .ok (.iaload, 1) := by decide +kernel
theorem dX4_addPhrase_38 : decode cX4_addPhrase 38 = .ok (.iload_n 1, 1) := by decide +kernel
theorem dX4_addPhrase_39 : decode cX4_addPhrase 39 = .ok (.if_icmp .ne 17, 3) := by decide +kernel
theorem dX4_addPhrase_42 : decode cX4_addPhrase 42 = .ok (.aload_n 0, 1) := by decide +kernel
theorem dX4_addPhrase_43 : decode cX4_addPhrase 43 = .ok (.getfield 15, 3) := by decide +kernel
theorem dX4_addPhrase_46 : decode cX4_addPhrase 46 = .ok (.iload 4, 2) := by decide +kernel
theorem dX4_addPhrase_48 : decode cX4_addPhrase 48 = .ok (.iaload, 1) := by decide +kernel
theorem dX4_addPhrase_49 : decode cX4_addPhrase 49 = .ok (.iload_n 2, 1) := by decide +kernel
theorem dX4_addPhrase_50 : decode cX4_addPhrase 50 = .ok (.if_icmp .ne 6, 3) := by decide +kernel
theorem dX4_addPhrase_53 : decode cX4_addPhrase 53 = .ok (.bipush (-3), 2) := by decide +kernel
theorem dX4_addPhrase_55 : decode cX4_addPhrase 55 = .ok (.ireturn, 1) := by decide +kernel
theorem dX4_addPhrase_56 : decode cX4_addPhrase 56 = .ok (.iinc 4 1, 3) := by decide +kernel
theorem dX4_addPhrase_59 : decode cX4_addPhrase 59 = .ok (.goto (-37), 3) := by decide +kernel
theorem dX4_addPhrase_62 : decode cX4_addPhrase 62 = .ok (.aload_n 0, 1) := by decide +kernel
theorem dX4_addPhrase_63 : decode cX4_addPhrase 63 = .ok (.getfield 56, 3) := by decide +kernel
theorem dX4_addPhrase_66 : decode cX4_addPhrase 66 = .ok (.bipush 12, 2) := by decide +kernel
theorem dX4_addPhrase_68 : decode cX4_addPhrase 68 = .ok (.if_icmp .lt 6, 3) := by decide +kernel
theorem dX4_addPhrase_71 : decode cX4_addPhrase 71 = .ok (.bipush (-4), 2) := by decide +kernel
theorem dX4_addPhrase_73 : decode cX4_addPhrase 73 = .ok (.ireturn, 1) := by decide +kernel
theorem dX4_addPhrase_74 : decode cX4_addPhrase 74 = .ok (.aload_n 0, 1) := by decide +kernel
theorem dX4_addPhrase_75 : decode cX4_addPhrase 75 = .ok (.dup, 1) := by decide +kernel
theorem dX4_addPhrase_76 : decode cX4_addPhrase 76 = .ok (.getfield 56, 3) := by decide +kernel
theorem dX4_addPhrase_79 : decode cX4_addPhrase 79 = .ok (.dup_x1, 1) := by decide +kernel
theorem dX4_addPhrase_80 : decode cX4_addPhrase 80 = .ok (.iconst 1, 1) := by decide +kernel
theorem dX4_addPhrase_81 : decode cX4_addPhrase 81 = .ok (.iadd, 1) := by decide +kernel
theorem dX4_addPhrase_82 : decode cX4_addPhrase 82 = .ok (.putfield 56, 3) := by decide +kernel
theorem dX4_addPhrase_85 : decode cX4_addPhrase 85 = .ok (.istore 4, 2) := by decide +kernel
theorem dX4_addPhrase_87 : decode cX4_addPhrase 87 = .ok (.aload_n 0, 1) := by decide +kernel
theorem dX4_addPhrase_88 : decode cX4_addPhrase 88 = .ok (.getfield 9, 3) := by decide +kernel
theorem dX4_addPhrase_91 : decode cX4_addPhrase 91 = .ok (.iload 4, 2) := by decide +kernel
theorem dX4_addPhrase_93 : decode cX4_addPhrase 93 = .ok (.iload_n 1, 1) := by decide +kernel
theorem dX4_addPhrase_94 : decode cX4_addPhrase 94 = .ok (.iastore, 1) := by decide +kernel
theorem dX4_addPhrase_95 : decode cX4_addPhrase 95 = .ok (.aload_n 0, 1) := by decide +kernel
theorem dX4_addPhrase_96 : decode cX4_addPhrase 96 = .ok (.getfield 15, 3) := by decide +kernel
theorem dX4_addPhrase_99 : decode cX4_addPhrase 99 = .ok (.iload 4, 2) := by decide +kernel
theorem dX4_addPhrase_101 : decode cX4_addPhrase 101 = .ok (.iload_n 2, 1) := by decide +kernel
theorem dX4_addPhrase_102 : decode cX4_addPhrase 102 = .ok (.iastore, 1) := by decide +kernel
theorem dX4_addPhrase_103 : decode cX4_addPhrase 103 = .ok (.aload_n 0, 1) := by decide +kernel
theorem dX4_addPhrase_104 : decode cX4_addPhrase 104 = .ok (.getfield 18, 3) := by decide +kernel
theorem dX4_addPhrase_107 : decode cX4_addPhrase 107 = .ok (.iload 4, 2) := by decide +kernel
theorem dX4_addPhrase_109 : decode cX4_addPhrase 109 = .ok (.iload_n 3, 1) := by decide +kernel
theorem dX4_addPhrase_110 : decode cX4_addPhrase 110 = .ok (.iastore, 1) := by decide +kernel
theorem dX4_addPhrase_111 : decode cX4_addPhrase 111 = .ok (.aload_n 0, 1) := by decide +kernel
theorem dX4_addPhrase_112 : decode cX4_addPhrase 112 = .ok (.getfield 21, 3) := by decide +kernel
theorem dX4_addPhrase_115 : decode cX4_addPhrase 115 = .ok (.iload 4, 2) := by decide +kernel
theorem dX4_addPhrase_117 : decode cX4_addPhrase 117 = .ok (.iload_n 2, 1) := by decide +kernel
theorem dX4_addPhrase_118 : decode cX4_addPhrase 118 = .ok (.invokestatic 86, 3) := by decide +kernel
theorem dX4_addPhrase_121 : decode cX4_addPhrase 121 = .ok (.iastore, 1) := by decide +kernel
theorem dX4_addPhrase_122 : decode cX4_addPhrase 122 = .ok (.iconst 0, 1) := by decide +kernel
theorem dX4_addPhrase_123 : decode cX4_addPhrase 123 = .ok (.istore 5, 2) := by decide +kernel
theorem dX4_addPhrase_125 : decode cX4_addPhrase 125 = .ok (.iload 5, 2) := by decide +kernel
theorem dX4_addPhrase_127 : decode cX4_addPhrase 127 = .ok (.iconst 3, 1) := by decide +kernel
theorem dX4_addPhrase_128 : decode cX4_addPhrase 128 = .ok (.if_icmp .ge 23, 3) := by decide +kernel
theorem dX4_addPhrase_131 : decode cX4_addPhrase 131 = .ok (.aload_n 0, 1) := by decide +kernel
theorem dX4_addPhrase_132 : decode cX4_addPhrase 132 = .ok (.getfield 24, 3) := by decide +kernel
theorem dX4_addPhrase_135 : decode cX4_addPhrase 135 = .ok (.iload 5, 2) := by decide +kernel
theorem dX4_addPhrase_137 : decode cX4_addPhrase 137 = .ok (.bipush 12, 2) := by decide +kernel
theorem dX4_addPhrase_139 : decode cX4_addPhrase 139 = .ok (.imul, 1) := by decide +kernel
theorem dX4_addPhrase_140 : decode cX4_addPhrase 140 = .ok (.iload 4, 2) := by decide +kernel
theorem dX4_addPhrase_142 : decode cX4_addPhrase 142 = .ok (.iadd, 1) := by decide +kernel
theorem dX4_addPhrase_143 : decode cX4_addPhrase 143 = .ok (.iconst 0, 1) := by decide +kernel
theorem dX4_addPhrase_144 : decode cX4_addPhrase 144 = .ok (.iastore, 1) := by decide +kernel
theorem dX4_addPhrase_145 : decode cX4_addPhrase 145 = .ok (.iinc 5 1, 3) := by decide +kernel
theorem dX4_addPhrase_148 : decode cX4_addPhrase 148 = .ok (.goto (-23), 3) := by decide +kernel
theorem dX4_addPhrase_151 : decode cX4_addPhrase 151 = .ok (.iload 4, 2) := by decide +kernel
theorem dX4_addPhrase_153 : decode cX4_addPhrase 153 = .ok (.ireturn, 1) := by decide +kernel
theorem dX4_dropPhrase_0 : decode cX4_dropPhrase 0 = .ok (.aload_n 0, 1) := by decide +kernel
theorem dX4_dropPhrase_1 : decode cX4_dropPhrase 1 = .ok (.iload_n 1, 1) := by decide +kernel
theorem dX4_dropPhrase_2 : decode cX4_dropPhrase 2 = .ok (.invokevirtual 89, 3) := by decide +kernel
theorem dX4_dropPhrase_5 : decode cX4_dropPhrase 5 = .ok (.ifCond .ne 6, 3) := by decide +kernel
theorem dX4_dropPhrase_8 : decode cX4_dropPhrase 8 = .ok (.bipush (-2), 2) := by decide +kernel
theorem dX4_dropPhrase_10 : decode cX4_dropPhrase 10 = .ok (.ireturn, 1) := by decide +kernel
theorem dX4_dropPhrase_11 : decode cX4_dropPhrase 11 = .ok (.aload_n 0, 1) := by decide +kernel
theorem dX4_dropPhrase_12 : decode cX4_dropPhrase 12 = .ok (.dup, 1) := by decide +kernel
theorem dX4_dropPhrase_13 : decode cX4_dropPhrase 13 = .ok (.getfield 56, 3) := by decide +kernel
theorem dX4_dropPhrase_16 : decode cX4_dropPhrase 16 = .ok (.iconst 1, 1) := by decide +kernel
theorem dX4_dropPhrase_17 : decode cX4_dropPhrase 17 = .ok (.isub, 1) := by decide +kernel
theorem dX4_dropPhrase_18 : decode cX4_dropPhrase 18 = .ok (.putfield 56, 3) := by decide +kernel
theorem dX4_dropPhrase_21 : decode cX4_dropPhrase 21 = .ok (.iload_n 1, 1) := by decide +kernel
theorem dX4_dropPhrase_22 : decode cX4_dropPhrase 22 = .ok (.istore_n 2, 1) := by decide +kernel
theorem dX4_dropPhrase_23 : decode cX4_dropPhrase 23 = .ok (.iload_n 2, 1) := by decide +kernel
theorem dX4_dropPhrase_24 : decode cX4_dropPhrase 24 = .ok (.aload_n 0, 1) := by decide +kernel
theorem dX4_dropPhrase_25 : decode cX4_dropPhrase 25 = .ok (.getfield 56, 3) := by decide +kernel
theorem dX4_dropPhrase_28 : decode cX4_dropPhrase 28 = .ok (.if_icmp .ge 17, 3) := by decide +kernel
theorem dX4_dropPhrase_31 : decode cX4_dropPhrase 31 = .ok (.aload_n 0, 1) := by decide +kernel
theorem dX4_dropPhrase_32 : decode cX4_dropPhrase 32 = .ok (.iload_n 2, 1) := by decide +kernel
theorem dX4_dropPhrase_33 : decode cX4_dropPhrase 33 = .ok (.iconst 1, 1) := by decide +kernel
theorem dX4_dropPhrase_34 : decode cX4_dropPhrase 34 = .ok (.iadd, 1) := by decide +kernel
theorem dX4_dropPhrase_35 : decode cX4_dropPhrase 35 = .ok (.iload_n 2, 1) := by decide +kernel
theorem dX4_dropPhrase_36 : decode cX4_dropPhrase 36 = .ok (.invokevirtual 92, 3) := by decide +kernel
theorem dX4_dropPhrase_39 : decode cX4_dropPhrase 39 = .ok (.iinc 2 1, 3) := by decide +kernel
theorem dX4_dropPhrase_42 : decode cX4_dropPhrase 42 = .ok (.goto (-19), 3) := by decide +kernel
theorem dX4_dropPhrase_45 : decode cX4_dropPhrase 45 = .ok (.aload_n 0, 1) := by decide +kernel
theorem dX4_dropPhrase_46 : decode cX4_dropPhrase 46 = .ok (.getfield 56, 3) := by decide +kernel
theorem dX4_dropPhrase_49 : decode cX4_dropPhrase 49 = .ok (.ireturn, 1) := by decide +kernel
theorem dX4_movePhrase_0 : decode cX4_movePhrase 0 = .ok (.aload_n 0, 1) := by decide +kernel
theorem dX4_movePhrase_1 : decode cX4_movePhrase 1 = .ok (.getfield 9, 3) := by decide +kernel
theorem dX4_movePhrase_4 : decode cX4_movePhrase 4 = .ok (.iload_n 2, 1) := by decide +kernel
theorem dX4_movePhrase_5 : decode cX4_movePhrase 5 = .ok (.aload_n 0, 1) := by decide +kernel
theorem dX4_movePhrase_6 : decode cX4_movePhrase 6 = .ok (.getfield 9, 3) := by decide +kernel
theorem dX4_movePhrase_9 : decode cX4_movePhrase 9 = .ok (.iload_n 1, 1) := by decide +kernel
theorem dX4_movePhrase_10 : decode cX4_movePhrase 10 = .ok (.iaload, 1) := by decide +kernel
theorem dX4_movePhrase_11 : decode cX4_movePhrase 11 = .ok (.iastore, 1) := by decide +kernel
theorem dX4_movePhrase_12 : decode cX4_movePhrase 12 = .ok (.aload_n 0, 1) := by decide +kernel
theorem dX4_movePhrase_13 : decode cX4_movePhrase 13 = .ok (.getfield 15, 3) := by decide +kernel
theorem dX4_movePhrase_16 : decode cX4_movePhrase 16 = .ok (.iload_n 2, 1) := by decide +kernel
theorem dX4_movePhrase_17 : decode cX4_movePhrase 17 = .ok (.aload_n 0, 1) := by decide +kernel
theorem dX4_movePhrase_18 : decode cX4_movePhrase 18 = .ok (.getfield 15, 3) := by decide +kernel
theorem dX4_movePhrase_21 : decode cX4_movePhrase 21 = .ok (.iload_n 1, 1) := by decide +kernel
theorem dX4_movePhrase_22 : decode cX4_movePhrase 22 = .ok (.iaload, 1) := by decide +kernel
theorem dX4_movePhrase_23 : decode cX4_movePhrase 23 = .ok (.iastore, 1) := by decide +kernel
theorem dX4_movePhrase_24 : decode cX4_movePhrase 24 = .ok (.aload_n 0, 1) := by decide +kernel
theorem dX4_movePhrase_25 : decode cX4_movePhrase 25 = .ok (.getfield 18, 3) := by decide +kernel
theorem dX4_movePhrase_28 : decode cX4_movePhrase 28 = .ok (.iload_n 2, 1) := by decide +kernel
theorem dX4_movePhrase_29 : decode cX4_movePhrase 29 = .ok (.aload_n 0, 1) := by decide +kernel
theorem dX4_movePhrase_30 : decode cX4_movePhrase 30 = .ok (.getfield 18, 3) := by decide +kernel
theorem dX4_movePhrase_33 : decode cX4_movePhrase 33 = .ok (.iload_n 1, 1) := by decide +kernel
theorem dX4_movePhrase_34 : decode cX4_movePhrase 34 = .ok (.iaload, 1) := by decide +kernel
theorem dX4_movePhrase_35 : decode cX4_movePhrase 35 = .ok (.iastore, 1) := by decide +kernel
theorem dX4_movePhrase_36 : decode cX4_movePhrase 36 = .ok (.aload_n 0, 1) := by decide +kernel
theorem dX4_movePhrase_37 : decode cX4_movePhrase 37 = .ok (.getfield 21, 3) := by decide +kernel
theorem dX4_movePhrase_40 : decode cX4_movePhrase 40 = .ok (.iload_n 2, 1) := by decide +kernel
theorem dX4_movePhrase_41 : decode cX4_movePhrase 41 = .ok (.aload_n 0, 1) := by decide +kernel
theorem dX4_movePhrase_42 : decode cX4_movePhrase 42 = .ok (.getfield 21, 3) := by decide +kernel
theorem dX4_movePhrase_45 : decode cX4_movePhrase 45 = .ok (.iload_n 1, 1) := by decide +kernel
theorem dX4_movePhrase_46 : decode cX4_movePhrase 46 = .ok (.iaload, 1) := by decide +kernel
theorem dX4_movePhrase_47 : decode cX4_movePhrase 47 = .ok (.iastore, 1) := by decide +kernel
theorem dX4_movePhrase_48 : decode cX4_movePhrase 48 = .ok (.iconst 0, 1) := by decide +kernel
theorem dX4_movePhrase_49 : decode cX4_movePhrase 49 = .ok (.istore_n 3, 1) := by decide +kernel
theorem dX4_movePhrase_50 : decode cX4_movePhrase 50 = .ok (.iload_n 3, 1) := by decide +kernel
theorem dX4_movePhrase_51 : decode cX4_movePhrase 51 = .ok (.iconst 3, 1) := by decide +kernel
theorem dX4_movePhrase_52 : decode cX4_movePhrase 52 = .ok (.if_icmp .ge 31, 3) := by decide +kernel
theorem dX4_movePhrase_55 : decode cX4_movePhrase 55 = .ok (.aload_n 0, 1) := by decide +kernel
theorem dX4_movePhrase_56 : decode cX4_movePhrase 56 = .ok (.getfield 24, 3) := by decide +kernel
theorem dX4_movePhrase_59 : decode cX4_movePhrase 59 = .ok (.iload_n 3, 1) := by decide +kernel
theorem dX4_movePhrase_60 : decode cX4_movePhrase 60 = .ok (.bipush 12, 2) := by decide +kernel
theorem dX4_movePhrase_62 : decode cX4_movePhrase 62 = .ok (.imul, 1) := by decide +kernel
theorem dX4_movePhrase_63 : decode cX4_movePhrase 63 = .ok (.iload_n 2, 1) := by decide +kernel
theorem dX4_movePhrase_64 : decode cX4_movePhrase 64 = .ok (.iadd, 1) := by decide +kernel
theorem dX4_movePhrase_65 : decode cX4_movePhrase 65 = .ok (.aload_n 0, 1) := by decide +kernel
theorem dX4_movePhrase_66 : decode cX4_movePhrase 66 = .ok (.getfield 24, 3) := by decide +kernel
theorem dX4_movePhrase_69 : decode cX4_movePhrase 69 = .ok (.iload_n 3, 1) := by decide +kernel
theorem dX4_movePhrase_70 : decode cX4_movePhrase 70 = .ok (.bipush 12, 2) := by decide +kernel
theorem dX4_movePhrase_72 : decode cX4_movePhrase 72 = .ok (.imul, 1) := by decide +kernel
theorem dX4_movePhrase_73 : decode cX4_movePhrase 73 = .ok (.iload_n 1, 1) := by decide +kernel
theorem dX4_movePhrase_74 : decode cX4_movePhrase 74 = .ok (.iadd, 1) := by decide +kernel
theorem dX4_movePhrase_75 : decode cX4_movePhrase 75 = .ok (.iaload, 1) := by decide +kernel
theorem dX4_movePhrase_76 : decode cX4_movePhrase 76 = .ok (.iastore, 1) := by decide +kernel
theorem dX4_movePhrase_77 : decode cX4_movePhrase 77 = .ok (.iinc 3 1, 3) := by decide +kernel
theorem dX4_movePhrase_80 : decode cX4_movePhrase 80 = .ok (.goto (-30), 3) := by decide +kernel
theorem dX4_movePhrase_83 : decode cX4_movePhrase 83 = .ok (.return_, 1) := by decide +kernel
theorem dX4_setBegins_0 : decode cX4_setBegins 0 = .ok (.iload_n 1, 1) := by decide +kernel
theorem dX4_setBegins_1 : decode cX4_setBegins 1 = .ok (.invokestatic 96, 3) := by decide +kernel
theorem dX4_setBegins_4 : decode cX4_setBegins 4 = .ok (.ifCond .ne 6, 3) := by decide +kernel
theorem dX4_setBegins_7 : decode cX4_setBegins 7 = .ok (.bipush (-2), 2) := by decide +kernel
theorem dX4_setBegins_9 : decode cX4_setBegins 9 = .ok (.ireturn, 1) := by decide +kernel
theorem dX4_setBegins_10 : decode cX4_setBegins 10 = .ok (.aload_n 0, 1) := by decide +kernel
theorem dX4_setBegins_11 : decode cX4_setBegins 11 = .ok (.getfield 40, 3) := by decide +kernel
theorem dX4_setBegins_14 : decode cX4_setBegins 14 = .ok (.istore_n 2, 1) := by decide +kernel
theorem dX4_setBegins_15 : decode cX4_setBegins 15 = .ok (.aload_n 0, 1) := by decide +kernel
theorem dX4_setBegins_16 : decode cX4_setBegins 16 = .ok (.iload_n 1, 1) := by decide +kernel
theorem dX4_setBegins_17 : decode cX4_setBegins 17 = .ok (.putfield 40, 3) := by decide +kernel
theorem dX4_setBegins_20 : decode cX4_setBegins 20 = .ok (.iload_n 2, 1) := by decide +kernel
theorem dX4_setBegins_21 : decode cX4_setBegins 21 = .ok (.ireturn, 1) := by decide +kernel
theorem dX4_setEnds_0 : decode cX4_setEnds 0 = .ok (.iload_n 1, 1) := by decide +kernel
theorem dX4_setEnds_1 : decode cX4_setEnds 1 = .ok (.invokestatic 96, 3) := by decide +kernel
theorem dX4_setEnds_4 : decode cX4_setEnds 4 = .ok (.ifCond .ne 6, 3) := by decide +kernel
theorem dX4_setEnds_7 : decode cX4_setEnds 7 = .ok (.bipush (-2), 2) := by decide +kernel
theorem dX4_setEnds_9 : decode cX4_setEnds 9 = .ok (.ireturn, 1) := by decide +kernel
theorem dX4_setEnds_10 : decode cX4_setEnds 10 = .ok (.aload_n 0, 1) := by decide +kernel
theorem dX4_setEnds_11 : decode cX4_setEnds 11 = .ok (.getfield 43, 3) := by decide +kernel
theorem dX4_setEnds_14 : decode cX4_setEnds 14 = .ok (.istore_n 2, 1) := by decide +kernel
theorem dX4_setEnds_15 : decode cX4_setEnds 15 = .ok (.aload_n 0, 1) := by decide +kernel
theorem dX4_setEnds_16 : decode cX4_setEnds 16 = .ok (.iload_n 1, 1) := by decide +kernel
theorem dX4_setEnds_17 : decode cX4_setEnds 17 = .ok (.putfield 43, 3) := by decide +kernel
theorem dX4_setEnds_20 : decode cX4_setEnds 20 = .ok (.iload_n 2, 1) := by decide +kernel
theorem dX4_setEnds_21 : decode cX4_setEnds 21 = .ok (.ireturn, 1) := by decide +kernel
theorem dX4_setFollows_0 : decode cX4_setFollows 0 = .ok (.iload_n 1, 1) := by decide +kernel
theorem dX4_setFollows_1 : decode cX4_setFollows 1 = .ok (.invokestatic 82, 3) := by decide +kernel
theorem dX4_setFollows_4 : decode cX4_setFollows 4 = .ok (.ifCond .eq 10, 3) := by decide +kernel
theorem dX4_setFollows_7 : decode cX4_setFollows 7 = .ok (.iload_n 2, 1) := by decide +kernel
theorem dX4_setFollows_8 : decode cX4_setFollows 8 = .ok (.invokestatic 96, 3) := by decide +kernel
theorem dX4_setFollows_11 : decode cX4_setFollows 11 = .ok (.ifCond .ne 6, 3) := by decide +kernel
theorem dX4_setFollows_14 : decode cX4_setFollows 14 = .ok (.bipush (-2), 2) := by decide +kernel
theorem dX4_setFollows_16 : decode cX4_setFollows 16 = .ok (.ireturn, 1) := by decide +kernel
theorem dX4_setFollows_17 : decode cX4_setFollows 17 = .ok (.aload_n 0, 1) := by decide +kernel
theorem dX4_setFollows_18 : decode cX4_setFollows 18 = .ok (.getfield 33, 3) := by decide +kernel
theorem dX4_setFollows_21 : decode cX4_setFollows 21 = .ok (.iload_n 1, 1) := by decide +kernel
theorem dX4_setFollows_22 : decode cX4_setFollows 22 = .ok (.iaload, 1) := by decide +kernel
theorem dX4_setFollows_23 : decode cX4_setFollows 23 = .ok (.istore_n 3, 1) := by decide +kernel
theorem dX4_setFollows_24 : decode cX4_setFollows 24 = .ok (.aload_n 0, 1) := by decide +kernel
theorem dX4_setFollows_25 : decode cX4_setFollows 25 = .ok (.getfield 33, 3) := by decide +kernel
theorem dX4_setFollows_28 : decode cX4_setFollows 28 = .ok (.iload_n 1, 1) := by decide +kernel
theorem dX4_setFollows_29 : decode cX4_setFollows 29 = .ok (.iload_n 2, 1) := by decide +kernel
theorem dX4_setFollows_30 : decode cX4_setFollows 30 = .ok (.iastore, 1) := by decide +kernel
theorem dX4_setFollows_31 : decode cX4_setFollows 31 = .ok (.iload_n 3, 1) := by decide +kernel
theorem dX4_setFollows_32 : decode cX4_setFollows 32 = .ok (.ireturn, 1) := by decide +kernel
theorem dX4_addLetter_0 : decode cX4_addLetter 0 = .ok (.iload_n 1, 1) := by decide +kernel
theorem dX4_addLetter_1 : decode cX4_addLetter 1 = .ok (.iconst 1, 1) := by decide +kernel
theorem dX4_addLetter_2 : decode cX4_addLetter 2 = .ok (.bipush 8, 2) := by decide +kernel
theorem dX4_addLetter_4 : decode cX4_addLetter 4 = .ok (.invokestatic 74, 3) := by decide +kernel
theorem dX4_addLetter_7 : decode cX4_addLetter 7 = .ok (.ifCond .ne 6, 3) := by decide +kernel
theorem dX4_addLetter_10 : decode cX4_addLetter 10 = .ok (.bipush (-2), 2) := by decide +kernel
theorem dX4_addLetter_12 : decode cX4_addLetter 12 = .ok (.ireturn, 1) := by decide +kernel
theorem dX4_addLetter_13 : decode cX4_addLetter 13 = .ok (.aload_n 0, 1) := by decide +kernel
theorem dX4_addLetter_14 : decode cX4_addLetter 14 = .ok (.getfield 59, 3) := by decide +kernel
theorem dX4_addLetter_17 : decode cX4_addLetter 17 = .ok (.bipush 40, 2) := by decide +kernel
theorem dX4_addLetter_19 : decode cX4_addLetter 19 = .ok (.if_icmp .lt 6, 3) := by decide +kernel
theorem dX4_addLetter_22 : decode cX4_addLetter 22 = .ok (.bipush (-4), 2) := by decide +kernel
theorem dX4_addLetter_24 : decode cX4_addLetter 24 = .ok (.ireturn, 1) := by decide +kernel
theorem dX4_addLetter_25 : decode cX4_addLetter 25 = .ok (.aload_n 0, 1) := by decide +kernel
theorem dX4_addLetter_26 : decode cX4_addLetter 26 = .ok (.getfield 27, 3) := by decide +kernel
theorem dX4_addLetter_29 : decode cX4_addLetter 29 = .ok (.aload_n 0, 1) := by decide +kernel
theorem dX4_addLetter_30 : decode cX4_addLetter 30 = .ok (.dup, 1) := by decide +kernel
theorem dX4_addLetter_31 : decode cX4_addLetter 31 = .ok (.getfield 59, 3) := by decide +kernel
theorem dX4_addLetter_34 : decode cX4_addLetter 34 = .ok (.dup_x1, 1) := by decide +kernel
theorem dX4_addLetter_35 : decode cX4_addLetter 35 = .ok (.iconst 1, 1) := by decide +kernel
theorem dX4_addLetter_36 : decode cX4_addLetter 36 = .ok (.iadd, 1) := by decide +kernel
theorem dX4_addLetter_37 : decode cX4_addLetter 37 = .ok (.putfield 59, 3) := by decide +kernel
theorem dX4_addLetter_40 : decode cX4_addLetter 40 = .ok (.iload_n 1, 1) := by decide +kernel
theorem dX4_addLetter_41 : decode cX4_addLetter 41 = .ok (.iastore, 1) := by decide +kernel
theorem dX4_addLetter_42 : decode cX4_addLetter 42 = .ok (.aload_n 0, 1) := by decide +kernel
theorem dX4_addLetter_43 : decode cX4_addLetter 43 = .ok (.getfield 59, 3) := by decide +kernel
theorem dX4_addLetter_46 : decode cX4_addLetter 46 = .ok (.ireturn, 1) := by decide +kernel
theorem dX4_wipeLine_0 : decode cX4_wipeLine 0 = .ok (.aload_n 0, 1) := by decide +kernel
theorem dX4_wipeLine_1 : decode cX4_wipeLine 1 = .ok (.getfield 59, 3) := by decide +kernel
theorem dX4_wipeLine_4 : decode cX4_wipeLine 4 = .ok (.istore_n 1, 1) := by decide +kernel
theorem dX4_wipeLine_5 : decode cX4_wipeLine 5 = .ok (.aload_n 0, 1) := by decide +kernel
theorem dX4_wipeLine_6 : decode cX4_wipeLine 6 = .ok (.iconst 0, 1) := by decide +kernel
theorem dX4_wipeLine_7 : decode cX4_wipeLine 7 = .ok (.putfield 59, 3) := by decide +kernel
theorem dX4_wipeLine_10 : decode cX4_wipeLine 10 = .ok (.iload_n 1, 1) := by decide +kernel
theorem dX4_wipeLine_11 : decode cX4_wipeLine 11 = .ok (.ireturn, 1) := by decide +kernel
theorem dX4_setLine_0 : decode cX4_setLine 0 = .ok (.aload_n 0, 1) := by decide +kernel
theorem dX4_setLine_1 : decode cX4_setLine 1 = .ok (.iload_n 2, 1) := by decide +kernel
theorem dX4_setLine_2 : decode cX4_setLine 2 = .ok (.bipush 40, 2) := by decide +kernel
theorem dX4_setLine_4 : decode cX4_setLine 4 = .ok (.invokestatic 62, 3) := by decide +kernel
theorem dX4_setLine_7 : decode cX4_setLine 7 = .ok (.putfield 59, 3) := by decide +kernel
theorem dX4_setLine_10 : decode cX4_setLine 10 = .ok (.aload_n 1, 1) := by decide +kernel
theorem dX4_setLine_11 : decode cX4_setLine 11 = .ok (.iconst 0, 1) := by decide +kernel
theorem dX4_setLine_12 : decode cX4_setLine 12 = .ok (.aload_n 0, 1) := by decide +kernel
theorem dX4_setLine_13 : decode cX4_setLine 13 = .ok (.getfield 27, 3) := by decide +kernel
theorem dX4_setLine_16 : decode cX4_setLine 16 = .ok (.iconst 0, 1) := by decide +kernel
theorem dX4_setLine_17 : decode cX4_setLine 17 = .ok (.aload_n 0, 1) := by decide +kernel
theorem dX4_setLine_18 : decode cX4_setLine 18 = .ok (.getfield 59, 3) := by decide +kernel
theorem dX4_setLine_21 : decode cX4_setLine 21 = .ok (.invokestatic 68, 3) := by decide +kernel
theorem dX4_setLine_24 : decode cX4_setLine 24 = .ok (.aload_n 0, 1) := by decide +kernel
theorem dX4_setLine_25 : decode cX4_setLine 25 = .ok (.getfield 59, 3) := by decide +kernel
theorem dX4_setLine_28 : decode cX4_setLine 28 = .ok (.ireturn, 1) := by decide +kernel
theorem dX4_setMetre_0 : decode cX4_setMetre 0 = .ok (.iload_n 1, 1) := by decide +kernel
theorem dX4_setMetre_1 : decode cX4_setMetre 1 = .ok (.iconst 1, 1) := by decide +kernel
theorem dX4_setMetre_2 : decode cX4_setMetre 2 = .ok (.bipush 40, 2) := by decide +kernel
theorem dX4_setMetre_4 : decode cX4_setMetre 4 = .ok (.invokestatic 74, 3) := by decide +kernel
theorem dX4_setMetre_7 : decode cX4_setMetre 7 = .ok (.ifCond .ne 6, 3) := by decide +kernel
theorem dX4_setMetre_10 : decode cX4_setMetre 10 = .ok (.bipush (-2), 2) := by decide +kernel
theorem dX4_setMetre_12 : decode cX4_setMetre 12 = .ok (.ireturn, 1) := by decide +kernel
theorem dX4_setMetre_13 : decode cX4_setMetre 13 = .ok (.aload_n 0, 1) := by decide +kernel
theorem dX4_setMetre_14 : decode cX4_setMetre 14 = .ok (.getfield 36, 3) := by decide +kernel
theorem dX4_setMetre_17 : decode cX4_setMetre 17 = .ok (.istore_n 2, 1) := by decide +kernel
theorem dX4_setMetre_18 : decode cX4_setMetre 18 = .ok (.aload_n 0, 1) := by decide +kernel
theorem dX4_setMetre_19 : decode cX4_setMetre 19 = .ok (.iload_n 1, 1) := by decide +kernel
theorem dX4_setMetre_20 : decode cX4_setMetre 20 = .ok (.putfield 36, 3) := by decide +kernel
theorem dX4_setMetre_23 : decode cX4_setMetre 23 = .ok (.iload_n 2, 1) := by decide +kernel
theorem dX4_setMetre_24 : decode cX4_setMetre 24 = .ok (.ireturn, 1) := by decide +kernel
theorem dX4_setMark_0 : decode cX4_setMark 0 = .ok (.iload_n 1, 1) := by decide +kernel
theorem dX4_setMark_1 : decode cX4_setMark 1 = .ok (.iconst 1, 1) := by decide +kernel
theorem dX4_setMark_2 : decode cX4_setMark 2 = .ok (.bipush 39, 2) := by decide +kernel
theorem dX4_setMark_4 : decode cX4_setMark 4 = .ok (.invokestatic 74, 3) := by decide +kernel
theorem dX4_setMark_7 : decode cX4_setMark 7 = .ok (.ifCond .eq 12, 3) := by decide +kernel
theorem dX4_setMark_10 : decode cX4_setMark 10 = .ok (.iload_n 2, 1) := by decide +kernel
theorem dX4_setMark_11 : decode cX4_setMark 11 = .ok (.iconst 0, 1) := by decide +kernel
theorem dX4_setMark_12 : decode cX4_setMark 12 = .ok (.iconst 2, 1) := by decide +kernel
theorem dX4_setMark_13 : decode cX4_setMark 13 = .ok (.invokestatic 74, 3) := by decide +kernel
theorem dX4_setMark_16 : decode cX4_setMark 16 = .ok (.ifCond .ne 6, 3) := by decide +kernel
theorem dX4_setMark_19 : decode cX4_setMark 19 = .ok (.bipush (-2), 2) := by decide +kernel
theorem dX4_setMark_21 : decode cX4_setMark 21 = .ok (.ireturn, 1) := by decide +kernel
theorem dX4_setMark_22 : decode cX4_setMark 22 = .ok (.aload_n 0, 1) := by decide +kernel
theorem dX4_setMark_23 : decode cX4_setMark 23 = .ok (.getfield 30, 3) := by decide +kernel
theorem dX4_setMark_26 : decode cX4_setMark 26 = .ok (.iload_n 1, 1) := by decide +kernel
theorem dX4_setMark_27 : decode cX4_setMark 27 = .ok (.iaload, 1) := by decide +kernel
theorem dX4_setMark_28 : decode cX4_setMark 28 = .ok (.istore_n 3, 1) := by decide +kernel
theorem dX4_setMark_29 : decode cX4_setMark 29 = .ok (.aload_n 0, 1) := by decide +kernel
theorem dX4_setMark_30 : decode cX4_setMark 30 = .ok (.getfield 30, 3) := by decide +kernel
theorem dX4_setMark_33 : decode cX4_setMark 33 = .ok (.iload_n 1, 1) := by decide +kernel
theorem dX4_setMark_34 : decode cX4_setMark 34 = .ok (.iload_n 2, 1) := by decide +kernel
theorem dX4_setMark_35 : decode cX4_setMark 35 = .ok (.iastore, 1) := by decide +kernel
theorem dX4_setMark_36 : decode cX4_setMark 36 = .ok (.iload_n 3, 1) := by decide +kernel
theorem dX4_setMark_37 : decode cX4_setMark 37 = .ok (.ireturn, 1) := by decide +kernel
theorem dX4_habitOf_0 : decode cX4_habitOf 0 = .ok (.iload_n 1, 1) := by decide +kernel
theorem dX4_habitOf_1 : decode cX4_habitOf 1 = .ok (.bipush 12, 2) := by decide +kernel
theorem dX4_habitOf_3 : decode cX4_habitOf 3 = .ok (.imul, 1) := by decide +kernel
theorem dX4_habitOf_4 : decode cX4_habitOf 4 = .ok (.iload_n 2, 1) := by decide +kernel
theorem dX4_habitOf_5 : decode cX4_habitOf 5 = .ok (.iadd, 1) := by decide +kernel
theorem dX4_habitOf_6 : decode cX4_habitOf 6 = .ok (.istore_n 3, 1) := by decide +kernel
theorem dX4_habitOf_7 : decode cX4_habitOf 7 = .ok (.iload_n 3, 1) := by decide +kernel
theorem dX4_habitOf_8 : decode cX4_habitOf 8 = .ok (.ifCond .lt 21, 3) := by decide +kernel
theorem dX4_habitOf_11 : decode cX4_habitOf 11 = .ok (.iload_n 3, 1) := by decide +kernel
theorem dX4_habitOf_12 : decode cX4_habitOf 12 = .ok (.aload_n 0, 1) := by decide +kernel
theorem dX4_habitOf_13 : decode cX4_habitOf 13 = .ok (.getfield 24, 3) := by decide +kernel
theorem dX4_habitOf_16 : decode cX4_habitOf 16 = .ok (.arraylength, 1) := by decide +kernel
theorem dX4_habitOf_17 : decode cX4_habitOf 17 = .ok (.if_icmp .ge 12, 3) := by decide +kernel
theorem dX4_habitOf_20 : decode cX4_habitOf 20 = .ok (.aload_n 0, 1) := by decide +kernel
theorem dX4_habitOf_21 : decode cX4_habitOf 21 = .ok (.getfield 24, 3) := by decide +kernel
theorem dX4_habitOf_24 : decode cX4_habitOf 24 = .ok (.iload_n 3, 1) := by decide +kernel
theorem dX4_habitOf_25 : decode cX4_habitOf 25 = .ok (.iaload, 1) := by decide +kernel
theorem dX4_habitOf_26 : decode cX4_habitOf 26 = .ok (.goto 4, 3) := by decide +kernel
theorem dX4_habitOf_29 : decode cX4_habitOf 29 = .ok (.iconst 0, 1) := by decide +kernel
theorem dX4_habitOf_30 : decode cX4_habitOf 30 = .ok (.ireturn, 1) := by decide +kernel
theorem dX4_raiseHabit_0 : decode cX4_raiseHabit 0 = .ok (.iload_n 1, 1) := by decide +kernel
theorem dX4_raiseHabit_1 : decode cX4_raiseHabit 1 = .ok (.bipush 12, 2) := by decide +kernel
theorem dX4_raiseHabit_3 : decode cX4_raiseHabit 3 = .ok (.imul, 1) := by decide +kernel
theorem dX4_raiseHabit_4 : decode cX4_raiseHabit 4 = .ok (.iload_n 2, 1) := by decide +kernel
theorem dX4_raiseHabit_5 : decode cX4_raiseHabit 5 = .ok (.iadd, 1) := by decide +kernel
theorem dX4_raiseHabit_6 : decode cX4_raiseHabit 6 = .ok (.istore_n 3, 1) := by decide +kernel
theorem dX4_raiseHabit_7 : decode cX4_raiseHabit 7 = .ok (.iload_n 3, 1) := by decide +kernel
theorem dX4_raiseHabit_8 : decode cX4_raiseHabit 8 = .ok (.ifCond .lt 22, 3) := by decide +kernel
theorem dX4_raiseHabit_11 : decode cX4_raiseHabit 11 = .ok (.iload_n 3, 1) := by decide +kernel
theorem dX4_raiseHabit_12 : decode cX4_raiseHabit 12 = .ok (.aload_n 0, 1) := by decide +kernel
theorem dX4_raiseHabit_13 : decode cX4_raiseHabit 13 = .ok (.getfield 24, 3) := by decide +kernel
theorem dX4_raiseHabit_16 : decode cX4_raiseHabit 16 = .ok (.arraylength, 1) := by decide +kernel
theorem dX4_raiseHabit_17 : decode cX4_raiseHabit 17 = .ok (.if_icmp .ge 13, 3) := by decide +kernel
theorem dX4_raiseHabit_20 : decode cX4_raiseHabit 20 = .ok (.aload_n 0, 1) := by decide +kernel
theorem dX4_raiseHabit_21 : decode cX4_raiseHabit 21 = .ok (.getfield 24, 3) := by decide +kernel
theorem dX4_raiseHabit_24 : decode cX4_raiseHabit 24 = .ok (.iload_n 3, 1) := by decide +kernel
theorem dX4_raiseHabit_25 : decode cX4_raiseHabit 25 = .ok (.dup2, 1) := by decide +kernel
theorem dX4_raiseHabit_26 : decode cX4_raiseHabit 26 = .ok (.iaload, 1) := by decide +kernel
theorem dX4_raiseHabit_27 : decode cX4_raiseHabit 27 = .ok (.iconst 1, 1) := by decide +kernel
theorem dX4_raiseHabit_28 : decode cX4_raiseHabit 28 = .ok (.iadd, 1) := by decide +kernel
theorem dX4_raiseHabit_29 : decode cX4_raiseHabit 29 = .ok (.iastore, 1) := by decide +kernel
theorem dX4_raiseHabit_30 : decode cX4_raiseHabit 30 = .ok (.return_, 1) := by decide +kernel
theorem dX4_factorOf_0 : decode cX4_factorOf 0 = .ok (.iload_n 1, 1) := by decide +kernel
theorem dX4_factorOf_1 : decode cX4_factorOf 1 = .ok (.iconst (-1), 1) := by decide +kernel
theorem dX4_factorOf_2 : decode cX4_factorOf 2 = .ok (.if_icmp .ne 7, 3) := by decide +kernel
theorem dX4_factorOf_5 : decode cX4_factorOf 5 = .ok (.lconst 1, 1) := by decide +kernel
theorem dX4_factorOf_6 : decode cX4_factorOf 6 = .ok (.goto 12, 3) := by decide +kernel
theorem dX4_factorOf_9 : decode cX4_factorOf 9 = .ok (.aload_n 0, 1) := by decide +kernel
theorem dX4_factorOf_10 : decode cX4_factorOf 10 = .ok (.iload_n 1, 1) := by decide +kernel
theorem dX4_factorOf_11 : decode cX4_factorOf 11 = .ok (.iload_n 2, 1) := by decide +kernel
theorem dX4_factorOf_12 : decode cX4_factorOf 12 = .ok (.invokevirtual 99, 3) := by decide +kernel
theorem dX4_factorOf_15 : decode cX4_factorOf 15 = .ok (.i2l, 1) := by decide +kernel
theorem dX4_factorOf_16 : decode cX4_factorOf 16 = .ok (.lconst 1, 1) := by decide +kernel
theorem dX4_factorOf_17 : decode cX4_factorOf 17 = .ok (.ladd, 1) := by decide +kernel
theorem dX4_factorOf_18 : decode cX4_factorOf 18 = .ok (.lreturn, 1) := by decide +kernel
theorem dX4_setAfter_0 : decode cX4_setAfter 0 = .ok (.iload_n 1, 1) := by decide +kernel
theorem dX4_setAfter_1 : decode cX4_setAfter 1 = .ok (.ifCond .ne 8, 3) := by decide +kernel
theorem dX4_setAfter_4 : decode cX4_setAfter 4 = .ok (.aload_n 0, 1) := by decide +kernel
theorem dX4_setAfter_5 : decode cX4_setAfter 5 = .ok (.getfield 40, 3) := by decide +kernel
theorem dX4_setAfter_8 : decode cX4_setAfter 8 = .ok (.ireturn, 1) := by decide +kernel
theorem dX4_setAfter_9 : decode cX4_setAfter 9 = .ok (.iload_n 2, 1) := by decide +kernel
theorem dX4_setAfter_10 : decode cX4_setAfter 10 = .ok (.ifCond .lt 17, 3) := by decide +kernel
theorem dX4_setAfter_13 : decode cX4_setAfter 13 = .ok (.iload_n 2, 1) := by decide +kernel
theorem dX4_setAfter_14 : decode cX4_setAfter 14 = .ok (.iconst 4, 1) := by decide +kernel
theorem dX4_setAfter_15 : decode cX4_setAfter 15 = .ok (.if_icmp .ge 12, 3) := by decide +kernel
theorem dX4_setAfter_18 : decode cX4_setAfter 18 = .ok (.aload_n 0, 1) := by decide +kernel
theorem dX4_setAfter_19 : decode cX4_setAfter 19 = .ok (.getfield 33, 3) := by decide +kernel
theorem dX4_setAfter_22 : decode cX4_setAfter 22 = .ok (.iload_n 2, 1) := by decide +kernel
theorem dX4_setAfter_23 : decode cX4_setAfter 23 = .ok (.iaload, 1) := by decide +kernel
theorem dX4_setAfter_24 : decode cX4_setAfter 24 = .ok (.goto 4, 3) := by decide +kernel
theorem dX4_setAfter_27 : decode cX4_setAfter 27 = .ok (.iconst 0, 1) := by decide +kernel
theorem dX4_setAfter_28 : decode cX4_setAfter 28 = .ok (.ireturn, 1) := by decide +kernel
theorem dX4_factOf_0 : decode cX4_factOf 0 = .ok (.iload_n 2, 1) := by decide +kernel
theorem dX4_factOf_1 : decode cX4_factOf 1 = .ok (.tableswitch 59 0 3 #[31, 38, 45, 52], 31) := by decide +kernel
theorem dX4_factOf_32 : decode cX4_factOf 32 = .ok (.aload_n 0, 1) := by decide +kernel
theorem dX4_factOf_33 : decode cX4_factOf 33 = .ok (.getfield 9, 3) := by decide +kernel
theorem dX4_factOf_36 : decode cX4_factOf 36 = .ok (.iload_n 1, 1) := by decide +kernel
theorem dX4_factOf_37 : decode cX4_factOf 37 = .ok (.iaload, 1) := by decide +kernel
theorem dX4_factOf_38 : decode cX4_factOf 38 = .ok (.ireturn, 1) := by decide +kernel
theorem dX4_factOf_39 : decode cX4_factOf 39 = .ok (.aload_n 0, 1) := by decide +kernel
theorem dX4_factOf_40 : decode cX4_factOf 40 = .ok (.getfield 18, 3) := by decide +kernel
theorem dX4_factOf_43 : decode cX4_factOf 43 = .ok (.iload_n 1, 1) := by decide +kernel
theorem dX4_factOf_44 : decode cX4_factOf 44 = .ok (.iaload, 1) := by decide +kernel
theorem dX4_factOf_45 : decode cX4_factOf 45 = .ok (.ireturn, 1) := by decide +kernel
theorem dX4_factOf_46 : decode cX4_factOf 46 = .ok (.aload_n 0, 1) := by decide +kernel
theorem dX4_factOf_47 : decode cX4_factOf 47 = .ok (.getfield 21, 3) := by decide +kernel
theorem dX4_factOf_50 : decode cX4_factOf 50 = .ok (.iload_n 1, 1) := by decide +kernel
theorem dX4_factOf_51 : decode cX4_factOf 51 = .ok (.iaload, 1) := by decide +kernel
theorem dX4_factOf_52 : decode cX4_factOf 52 = .ok (.ireturn, 1) := by decide +kernel
theorem dX4_factOf_53 : decode cX4_factOf 53 = .ok (.aload_n 0, 1) := by decide +kernel
theorem dX4_factOf_54 : decode cX4_factOf 54 = .ok (.getfield 15, 3) := by decide +kernel
theorem dX4_factOf_57 : decode cX4_factOf 57 = .ok (.iload_n 1, 1) := by decide +kernel
theorem dX4_factOf_58 : decode cX4_factOf 58 = .ok (.iaload, 1) := by decide +kernel
theorem dX4_factOf_59 : decode cX4_factOf 59 = .ok (.ireturn, 1) := by decide +kernel
theorem dX4_factOf_60 : decode cX4_factOf 60 = .ok (.aload_n 0, 1) := by decide +kernel
theorem dX4_factOf_61 : decode cX4_factOf 61 = .ok (.iload_n 2, 1) := by decide +kernel
theorem dX4_factOf_62 : decode cX4_factOf 62 = .ok (.iconst 4, 1) := by decide +kernel
theorem dX4_factOf_63 : decode cX4_factOf 63 = .ok (.isub, 1) := by decide +kernel
theorem dX4_factOf_64 : decode cX4_factOf 64 = .ok (.iload_n 1, 1) := by decide +kernel
theorem dX4_factOf_65 : decode cX4_factOf 65 = .ok (.invokevirtual 99, 3) := by decide +kernel
theorem dX4_factOf_68 : decode cX4_factOf 68 = .ok (.ireturn, 1) := by decide +kernel
theorem dX4_fixedPhrase_0 : decode cX4_fixedPhrase 0 = .ok (.iconst (-1), 1) := by decide +kernel
theorem dX4_fixedPhrase_1 : decode cX4_fixedPhrase 1 = .ok (.istore_n 3, 1) := by decide +kernel
theorem dX4_fixedPhrase_2 : decode cX4_fixedPhrase 2 = .ok (.iconst 0, 1) := by decide +kernel
theorem dX4_fixedPhrase_3 : decode cX4_fixedPhrase 3 = .ok (.istore 4, 2) := by decide +kernel
theorem dX4_fixedPhrase_5 : decode cX4_fixedPhrase 5 = .ok (.iload 4, 2) := by decide +kernel
theorem dX4_fixedPhrase_7 : decode cX4_fixedPhrase 7 = .ok (.aload_n 0, 1) := by decide +kernel
theorem dX4_fixedPhrase_8 : decode cX4_fixedPhrase 8 = .ok (.getfield 56, 3) := by decide +kernel
theorem dX4_fixedPhrase_11 : decode cX4_fixedPhrase 11 = .ok (.if_icmp .ge 40, 3) := by decide +kernel
theorem dX4_fixedPhrase_14 : decode cX4_fixedPhrase 14 = .ok (.aload_n 0, 1) := by decide +kernel
theorem dX4_fixedPhrase_15 : decode cX4_fixedPhrase 15 = .ok (.getfield 9, 3) := by decide +kernel
theorem dX4_fixedPhrase_18 : decode cX4_fixedPhrase 18 = .ok (.iload 4, 2) := by decide +kernel
theorem dX4_fixedPhrase_20 : decode cX4_fixedPhrase 20 = .ok (.iaload, 1) := by decide +kernel
theorem dX4_fixedPhrase_21 : decode cX4_fixedPhrase 21 = .ok (.iload_n 2, 1) := by decide +kernel
theorem dX4_fixedPhrase_22 : decode cX4_fixedPhrase 22 = .ok (.if_icmp .ne 23, 3) := by decide +kernel
theorem dX4_fixedPhrase_25 : decode cX4_fixedPhrase 25 = .ok (.aload_n 0, 1) := by decide +kernel
theorem dX4_fixedPhrase_26 : decode cX4_fixedPhrase 26 = .ok (.iload_n 1, 1) := by decide +kernel
theorem dX4_fixedPhrase_27 : decode cX4_fixedPhrase 27 = .ok (.iload 4, 2) := by decide +kernel
theorem dX4_fixedPhrase_29 : decode cX4_fixedPhrase 29 = .ok (.invokevirtual 99, 3) := by decide +kernel
theorem dX4_fixedPhrase_32 : decode cX4_fixedPhrase 32 = .ok (.ifCond .le 13, 3) := by decide +kernel
theorem dX4_fixedPhrase_35 : decode cX4_fixedPhrase 35 = .ok (.iload_n 3, 1) := by decide +kernel
theorem dX4_fixedPhrase_36 : decode cX4_fixedPhrase 36 = .ok (.iconst (-1), 1) := by decide +kernel
theorem dX4_fixedPhrase_37 : decode cX4_fixedPhrase 37 = .ok (.if_icmp .eq 5, 3) := by decide +kernel
theorem dX4_fixedPhrase_40 : decode cX4_fixedPhrase 40 = .ok (.iconst (-1), 1) := by decide +kernel
theorem dX4_fixedPhrase_41 : decode cX4_fixedPhrase 41 = .ok (.ireturn, 1) := by decide +kernel
theorem dX4_fixedPhrase_42 : decode cX4_fixedPhrase 42 = .ok (.iload 4, 2) := by decide +kernel
theorem dX4_fixedPhrase_44 : decode cX4_fixedPhrase 44 = .ok (.istore_n 3, 1) := by decide +kernel
theorem dX4_fixedPhrase_45 : decode cX4_fixedPhrase 45 = .ok (.iinc 4 1, 3) := by decide +kernel
theorem dX4_fixedPhrase_48 : decode cX4_fixedPhrase 48 = .ok (.goto (-43), 3) := by decide +kernel
theorem dX4_fixedPhrase_51 : decode cX4_fixedPhrase 51 = .ok (.iload_n 3, 1) := by decide +kernel
theorem dX4_fixedPhrase_52 : decode cX4_fixedPhrase 52 = .ok (.ireturn, 1) := by decide +kernel
theorem dX4_digestOn_0 : decode cX4_digestOn 0 = .ok (.lload_n 1, 1) := by decide +kernel
theorem dX4_digestOn_1 : decode cX4_digestOn 1 = .ok (.lstore_n 3, 1) := by decide +kernel
theorem dX4_digestOn_2 : decode cX4_digestOn 2 = .ok (.iconst 0, 1) := by decide +kernel
theorem dX4_digestOn_3 : decode cX4_digestOn 3 = .ok (.istore 5, 2) := by decide +kernel
theorem dX4_digestOn_5 : decode cX4_digestOn 5 = .ok (.iload 5, 2) := by decide +kernel
theorem dX4_digestOn_7 : decode cX4_digestOn 7 = .ok (.aload_n 0, 1) := by decide +kernel
theorem dX4_digestOn_8 : decode cX4_digestOn 8 = .ok (.getfield 56, 3) := by decide +kernel
theorem dX4_digestOn_11 : decode cX4_digestOn 11 = .ok (.if_icmp .ge 41, 3) := by decide +kernel
theorem dX4_digestOn_14 : decode cX4_digestOn 14 = .ok (.iconst 0, 1) := by decide +kernel
theorem dX4_digestOn_15 : decode cX4_digestOn 15 = .ok (.istore 6, 2) := by decide +kernel
theorem dX4_digestOn_17 : decode cX4_digestOn 17 = .ok (.iload 6, 2) := by decide +kernel
theorem dX4_digestOn_19 : decode cX4_digestOn 19 = .ok (.bipush 7, 2) := by decide +kernel
theorem dX4_digestOn_21 : decode cX4_digestOn 21 = .ok (.if_icmp .ge 25, 3) := by decide +kernel
theorem dX4_digestOn_24 : decode cX4_digestOn 24 = .ok (.ldc2_w 102, 3) := by decide +kernel
theorem dX4_digestOn_27 : decode cX4_digestOn 27 = .ok (.lload_n 3, 1) := by decide +kernel
theorem dX4_digestOn_28 : decode cX4_digestOn 28 = .ok (.lmul, 1) := by decide +kernel
theorem dX4_digestOn_29 : decode cX4_digestOn 29 = .ok (.aload_n 0, 1) := by decide +kernel
theorem dX4_digestOn_30 : decode cX4_digestOn 30 = .ok (.iload 5, 2) := by decide +kernel
theorem dX4_digestOn_32 : decode cX4_digestOn 32 = .ok (.iload 6, 2) := by decide +kernel
theorem dX4_digestOn_34 : decode cX4_digestOn 34 = .ok (.invokevirtual 104, 3) := by decide +kernel
theorem dX4_digestOn_37 : decode cX4_digestOn 37 = .ok (.i2l, 1) := by decide +kernel
theorem dX4_digestOn_38 : decode cX4_digestOn 38 = .ok (.ladd, 1) := by decide +kernel
theorem dX4_digestOn_39 : decode cX4_digestOn 39 = .ok (.lstore_n 3, 1) := by decide +kernel
theorem dX4_digestOn_40 : decode cX4_digestOn 40 = .ok (.iinc 6 1, 3) := by decide +kernel
theorem dX4_digestOn_43 : decode cX4_digestOn 43 = .ok (.goto (-26), 3) := by decide +kernel
theorem dX4_digestOn_46 : decode cX4_digestOn 46 = .ok (.iinc 5 1, 3) := by decide +kernel
theorem dX4_digestOn_49 : decode cX4_digestOn 49 = .ok (.goto (-44), 3) := by decide +kernel
theorem dX4_digestOn_52 : decode cX4_digestOn 52 = .ok (.iconst 0, 1) := by decide +kernel
theorem dX4_digestOn_53 : decode cX4_digestOn 53 = .ok (.istore 5, 2) := by decide +kernel
theorem dX4_digestOn_55 : decode cX4_digestOn 55 = .ok (.iload 5, 2) := by decide +kernel
theorem dX4_digestOn_57 : decode cX4_digestOn 57 = .ok (.aload_n 0, 1) := by decide +kernel
theorem dX4_digestOn_58 : decode cX4_digestOn 58 = .ok (.getfield 59, 3) := by decide +kernel
theorem dX4_digestOn_61 : decode cX4_digestOn 61 = .ok (.if_icmp .ge 24, 3) := by decide +kernel
theorem dX4_digestOn_64 : decode cX4_digestOn 64 = .ok (.ldc2_w 102, 3) := by decide +kernel
theorem dX4_digestOn_67 : decode cX4_digestOn 67 = .ok (.lload_n 3, 1) := by decide +kernel
theorem dX4_digestOn_68 : decode cX4_digestOn 68 = .ok (.lmul, 1) := by decide +kernel
theorem dX4_digestOn_69 : decode cX4_digestOn 69 = .ok (.aload_n 0, 1) := by decide +kernel
theorem dX4_digestOn_70 : decode cX4_digestOn 70 = .ok (.getfield 27, 3) := by decide +kernel
theorem dX4_digestOn_73 : decode cX4_digestOn 73 = .ok (.iload 5, 2) := by decide +kernel
theorem dX4_digestOn_75 : decode cX4_digestOn 75 = .ok (.iaload, 1) := by decide +kernel
theorem dX4_digestOn_76 : decode cX4_digestOn 76 = .ok (.i2l, 1) := by decide +kernel
theorem dX4_digestOn_77 : decode cX4_digestOn 77 = .ok (.ladd, 1) := by decide +kernel
theorem dX4_digestOn_78 : decode cX4_digestOn 78 = .ok (.lstore_n 3, 1) := by decide +kernel
theorem dX4_digestOn_79 : decode cX4_digestOn 79 = .ok (.iinc 5 1, 3) := by decide +kernel
theorem dX4_digestOn_82 : decode cX4_digestOn 82 = .ok (.goto (-27), 3) := by decide +kernel
theorem dX4_digestOn_85 : decode cX4_digestOn 85 = .ok (.iconst 1, 1) := by decide +kernel
theorem dX4_digestOn_86 : decode cX4_digestOn 86 = .ok (.istore 5, 2) := by decide +kernel
theorem dX4_digestOn_88 : decode cX4_digestOn 88 = .ok (.iload 5, 2) := by decide +kernel
theorem dX4_digestOn_90 : decode cX4_digestOn 90 = .ok (.bipush 40, 2) := by decide +kernel
theorem dX4_digestOn_92 : decode cX4_digestOn 92 = .ok (.if_icmp .ge 24, 3) := by decide +kernel
theorem dX4_digestOn_95 : decode cX4_digestOn 95 = .ok (.ldc2_w 102, 3) := by decide +kernel
theorem dX4_digestOn_98 : decode cX4_digestOn 98 = .ok (.lload_n 3, 1) := by decide +kernel
theorem dX4_digestOn_99 : decode cX4_digestOn 99 = .ok (.lmul, 1) := by decide +kernel
theorem dX4_digestOn_100 : decode cX4_digestOn 100 = .ok (.aload_n 0, 1) := by decide +kernel
theorem dX4_digestOn_101 : decode cX4_digestOn 101 = .ok (.getfield 30, 3) := by decide +kernel
theorem dX4_digestOn_104 : decode cX4_digestOn 104 = .ok (.iload 5, 2) := by decide +kernel
theorem dX4_digestOn_106 : decode cX4_digestOn 106 = .ok (.iaload, 1) := by decide +kernel
theorem dX4_digestOn_107 : decode cX4_digestOn 107 = .ok (.i2l, 1) := by decide +kernel
theorem dX4_digestOn_108 : decode cX4_digestOn 108 = .ok (.ladd, 1) := by decide +kernel
theorem dX4_digestOn_109 : decode cX4_digestOn 109 = .ok (.lstore_n 3, 1) := by decide +kernel
theorem dX4_digestOn_110 : decode cX4_digestOn 110 = .ok (.iinc 5 1, 3) := by decide +kernel
theorem dX4_digestOn_113 : decode cX4_digestOn 113 = .ok (.goto (-25), 3) := by decide +kernel
theorem dX4_digestOn_116 : decode cX4_digestOn 116 = .ok (.lload_n 3, 1) := by decide +kernel
theorem dX4_digestOn_117 : decode cX4_digestOn 117 = .ok (.lreturn, 1) := by decide +kernel
theorem dX6_init_0 : decode cX6_init 0 = .ok (.aload_n 0, 1) := by decide +kernel
theorem dX6_init_1 : decode cX6_init 1 = .ok (.invokespecial 1, 3) := by decide +kernel
theorem dX6_init_4 : decode cX6_init 4 = .ok (.new 7, 3) := by decide +kernel
theorem dX6_init_7 : decode cX6_init 7 = .ok (.dup, 1) := by decide +kernel
theorem dX6_init_8 : decode cX6_init 8 = .ok (.invokespecial 9, 3) := by decide +kernel
theorem dX6_init_11 : decode cX6_init 11 = .ok (.astore_n 1, 1) := by decide +kernel
theorem dX6_init_12 : decode cX6_init 12 = .ok (.new 10, 3) := by decide +kernel
theorem dX6_init_15 : decode cX6_init 15 = .ok (.dup, 1) := by decide +kernel
theorem dX6_init_16 : decode cX6_init 16 = .ok (.aload_n 1, 1) := by decide +kernel
theorem dX6_init_17 : decode cX6_init 17 = .ok (.invokespecial 12, 3) := by decide +kernel
theorem dX6_init_20 : decode cX6_init 20 = .ok (.astore_n 2, 1) := by decide +kernel
theorem dX6_init_21 : decode cX6_init 21 = .ok (.aload_n 0, 1) := by decide +kernel
theorem dX6_init_22 : decode cX6_init 22 = .ok (.aload_n 1, 1) := by decide +kernel
theorem dX6_init_23 : decode cX6_init 23 = .ok (.putfield 15, 3) := by decide +kernel
theorem dX6_init_26 : decode cX6_init 26 = .ok (.aload_n 0, 1) := by decide +kernel
theorem dX6_init_27 : decode cX6_init 27 = .ok (.aload_n 2, 1) := by decide +kernel
theorem dX6_init_28 : decode cX6_init 28 = .ok (.putfield 21, 3) := by decide +kernel
theorem dX6_init_31 : decode cX6_init 31 = .ok (.aload_n 0, 1) := by decide +kernel
theorem dX6_init_32 : decode cX6_init 32 = .ok (.new 25, 3) := by decide +kernel
theorem dX6_init_35 : decode cX6_init 35 = .ok (.dup, 1) := by decide +kernel
theorem dX6_init_36 : decode cX6_init 36 = .ok (.aload_n 1, 1) := by decide +kernel
theorem dX6_init_37 : decode cX6_init 37 = .ok (.aload_n 2, 1) := by decide +kernel
theorem dX6_init_38 : decode cX6_init 38 = .ok (.invokespecial 27, 3) := by decide +kernel
theorem dX6_init_41 : decode cX6_init 41 = .ok (.putfield 30, 3) := by decide +kernel
theorem dX6_init_44 : decode cX6_init 44 = .ok (.aload_n 0, 1) := by decide +kernel
theorem dX6_init_45 : decode cX6_init 45 = .ok (.new 34, 3) := by decide +kernel
theorem dX6_init_48 : decode cX6_init 48 = .ok (.dup, 1) := by decide +kernel
theorem dX6_init_49 : decode cX6_init 49 = .ok (.aload_n 1, 1) := by decide +kernel
theorem dX6_init_50 : decode cX6_init 50 = .ok (.aload_n 2, 1) := by decide +kernel
theorem dX6_init_51 : decode cX6_init 51 = .ok (.invokespecial 36, 3) := by decide +kernel
theorem dX6_init_54 : decode cX6_init 54 = .ok (.putfield 37, 3) := by decide +kernel
theorem dX6_init_57 : decode cX6_init 57 = .ok (.aload_n 0, 1) := by decide +kernel
theorem dX6_init_58 : decode cX6_init 58 = .ok (.new 41, 3) := by decide +kernel
theorem dX6_init_61 : decode cX6_init 61 = .ok (.dup, 1) := by decide +kernel
theorem dX6_init_62 : decode cX6_init 62 = .ok (.invokespecial 43, 3) := by decide +kernel
theorem dX6_init_65 : decode cX6_init 65 = .ok (.putfield 44, 3) := by decide +kernel
theorem dX6_init_68 : decode cX6_init 68 = .ok (.aload_n 0, 1) := by decide +kernel
theorem dX6_init_69 : decode cX6_init 69 = .ok (.new 48, 3) := by decide +kernel
theorem dX6_init_72 : decode cX6_init 72 = .ok (.dup, 1) := by decide +kernel
theorem dX6_init_73 : decode cX6_init 73 = .ok (.invokespecial 50, 3) := by decide +kernel
theorem dX6_init_76 : decode cX6_init 76 = .ok (.putfield 51, 3) := by decide +kernel
theorem dX6_init_79 : decode cX6_init 79 = .ok (.aload_n 0, 1) := by decide +kernel
theorem dX6_init_80 : decode cX6_init 80 = .ok (.iconst 4, 1) := by decide +kernel
theorem dX6_init_81 : decode cX6_init 81 = .ok (.newarray .int, 2) := by decide +kernel
theorem dX6_init_83 : decode cX6_init 83 = .ok (.putfield 55, 3) := by decide +kernel
theorem dX6_init_86 : decode cX6_init 86 = .ok (.return_, 1) := by decide +kernel
theorem dX6_phrase_0 : decode cX6_phrase 0 = .ok (.aload_n 0, 1) := by decide +kernel
theorem dX6_phrase_1 : decode cX6_phrase 1 = .ok (.getfield 44, 3) := by decide +kernel
theorem dX6_phrase_4 : decode cX6_phrase 4 = .ok (.aload_n 0, 1) := by decide +kernel
theorem dX6_phrase_5 : decode cX6_phrase 5 = .ok (.getfield 15, 3) := by decide +kernel
theorem dX6_phrase_8 : decode cX6_phrase 8 = .ok (.invokevirtual 59, 3) := by decide +kernel
theorem dX6_phrase_11 : decode cX6_phrase 11 = .ok (.aload_n 0, 1) := by decide +kernel
theorem dX6_phrase_12 : decode cX6_phrase 12 = .ok (.aload_n 0, 1) := by decide +kernel
theorem dX6_phrase_13 : decode cX6_phrase 13 = .ok (.getfield 15, 3) := by decide +kernel
theorem dX6_phrase_16 : decode cX6_phrase 16 = .ok (.iload_n 1, 1) := by decide +kernel
theorem dX6_phrase_17 : decode cX6_phrase 17 = .ok (.iload_n 2, 1) := by decide +kernel
theorem dX6_phrase_18 : decode cX6_phrase 18 = .ok (.invokevirtual 62, 3) := by decide +kernel
theorem dX6_phrase_21 : decode cX6_phrase 21 = .ok (.invokevirtual 66, 3) := by decide +kernel
theorem dX6_phrase_24 : decode cX6_phrase 24 = .ok (.ireturn, 1) := by decide +kernel
theorem dX6_drops_0 : decode cX6_drops 0 = .ok (.aload_n 0, 1) := by decide +kernel
theorem dX6_drops_1 : decode cX6_drops 1 = .ok (.getfield 44, 3) := by decide +kernel
theorem dX6_drops_4 : decode cX6_drops 4 = .ok (.aload_n 0, 1) := by decide +kernel
theorem dX6_drops_5 : decode cX6_drops 5 = .ok (.getfield 15, 3) := by decide +kernel
theorem dX6_drops_8 : decode cX6_drops 8 = .ok (.invokevirtual 59, 3) := by decide +kernel
theorem dX6_drops_11 : decode cX6_drops 11 = .ok (.aload_n 0, 1) := by decide +kernel
theorem dX6_drops_12 : decode cX6_drops 12 = .ok (.aload_n 0, 1) := by decide +kernel
theorem dX6_drops_13 : decode cX6_drops 13 = .ok (.getfield 15, 3) := by decide +kernel
theorem dX6_drops_16 : decode cX6_drops 16 = .ok (.iload_n 1, 1) := by decide +kernel
theorem dX6_drops_17 : decode cX6_drops 17 = .ok (.invokevirtual 70, 3) := by decide +kernel
theorem dX6_drops_20 : decode cX6_drops 20 = .ok (.invokevirtual 66, 3) := by decide +kernel
theorem dX6_drops_23 : decode cX6_drops 23 = .ok (.ireturn, 1) := by decide +kernel
theorem dX6_begins_0 : decode cX6_begins 0 = .ok (.aload_n 0, 1) := by decide +kernel
theorem dX6_begins_1 : decode cX6_begins 1 = .ok (.getfield 44, 3) := by decide +kernel
theorem dX6_begins_4 : decode cX6_begins 4 = .ok (.aload_n 0, 1) := by decide +kernel
theorem dX6_begins_5 : decode cX6_begins 5 = .ok (.getfield 15, 3) := by decide +kernel
theorem dX6_begins_8 : decode cX6_begins 8 = .ok (.invokevirtual 59, 3) := by decide +kernel
theorem dX6_begins_11 : decode cX6_begins 11 = .ok (.aload_n 0, 1) := by decide +kernel
theorem dX6_begins_12 : decode cX6_begins 12 = .ok (.aload_n 0, 1) := by decide +kernel
theorem dX6_begins_13 : decode cX6_begins 13 = .ok (.getfield 15, 3) := by decide +kernel
theorem dX6_begins_16 : decode cX6_begins 16 = .ok (.iload_n 1, 1) := by decide +kernel
theorem dX6_begins_17 : decode cX6_begins 17 = .ok (.invokevirtual 73, 3) := by decide +kernel
theorem dX6_begins_20 : decode cX6_begins 20 = .ok (.invokevirtual 66, 3) := by decide +kernel
theorem dX6_begins_23 : decode cX6_begins 23 = .ok (.ireturn, 1) := by decide +kernel
theorem dX6_ends_0 : decode cX6_ends 0 = .ok (.aload_n 0, 1) := by decide +kernel
theorem dX6_ends_1 : decode cX6_ends 1 = .ok (.getfield 44, 3) := by decide +kernel
theorem dX6_ends_4 : decode cX6_ends 4 = .ok (.aload_n 0, 1) := by decide +kernel
theorem dX6_ends_5 : decode cX6_ends 5 = .ok (.getfield 15, 3) := by decide +kernel
theorem dX6_ends_8 : decode cX6_ends 8 = .ok (.invokevirtual 59, 3) := by decide +kernel
theorem dX6_ends_11 : decode cX6_ends 11 = .ok (.aload_n 0, 1) := by decide +kernel
theorem dX6_ends_12 : decode cX6_ends 12 = .ok (.aload_n 0, 1) := by decide +kernel
theorem dX6_ends_13 : decode cX6_ends 13 = .ok (.getfield 15, 3) := by decide +kernel
theorem dX6_ends_16 : decode cX6_ends 16 = .ok (.iload_n 1, 1) := by decide +kernel
theorem dX6_ends_17 : decode cX6_ends 17 = .ok (.invokevirtual 76, 3) := by decide +kernel
theorem dX6_ends_20 : decode cX6_ends 20 = .ok (.invokevirtual 66, 3) := by decide +kernel
theorem dX6_ends_23 : decode cX6_ends 23 = .ok (.ireturn, 1) := by decide +kernel
theorem dX6_follows_0 : decode cX6_follows 0 = .ok (.aload_n 0, 1) := by decide +kernel
theorem dX6_follows_1 : decode cX6_follows 1 = .ok (.getfield 44, 3) := by decide +kernel
theorem dX6_follows_4 : decode cX6_follows 4 = .ok (.aload_n 0, 1) := by decide +kernel
theorem dX6_follows_5 : decode cX6_follows 5 = .ok (.getfield 15, 3) := by decide +kernel
theorem dX6_follows_8 : decode cX6_follows 8 = .ok (.invokevirtual 59, 3) := by decide +kernel
theorem dX6_follows_11 : decode cX6_follows 11 = .ok (.aload_n 0, 1) := by decide +kernel
theorem dX6_follows_12 : decode cX6_follows 12 = .ok (.aload_n 0, 1) := by decide +kernel
theorem dX6_follows_13 : decode cX6_follows 13 = .ok (.getfield 15, 3) := by decide +kernel
theorem dX6_follows_16 : decode cX6_follows 16 = .ok (.iload_n 1, 1) := by decide +kernel
theorem dX6_follows_17 : decode cX6_follows 17 = .ok (.iload_n 2, 1) := by decide +kernel
theorem dX6_follows_18 : decode cX6_follows 18 = .ok (.invokevirtual 79, 3) := by decide +kernel
theorem dX6_follows_21 : decode cX6_follows 21 = .ok (.invokevirtual 66, 3) := by decide +kernel
theorem dX6_follows_24 : decode cX6_follows 24 = .ok (.ireturn, 1) := by decide +kernel
theorem dX6_of_0 : decode cX6_of 0 = .ok (.aload_n 0, 1) := by decide +kernel
theorem dX6_of_1 : decode cX6_of 1 = .ok (.getfield 15, 3) := by decide +kernel
theorem dX6_of_4 : decode cX6_of 4 = .ok (.iload_n 1, 1) := by decide +kernel
theorem dX6_of_5 : decode cX6_of 5 = .ok (.invokevirtual 82, 3) := by decide +kernel
theorem dX6_of_8 : decode cX6_of 8 = .ok (.ifCond .eq 13, 3) := by decide +kernel
theorem dX6_of_11 : decode cX6_of 11 = .ok (.iload_n 2, 1) := by decide +kernel
theorem dX6_of_12 : decode cX6_of 12 = .ok (.iconst 0, 1) := by decide +kernel
theorem dX6_of_13 : decode cX6_of 13 = .ok (.bipush 6, 2) := by decide +kernel
theorem dX6_of_15 : decode cX6_of 15 = .ok (.invokestatic 86, 3) := by decide +kernel
theorem dX6_of_18 : decode cX6_of 18 = .ok (.ifCond .ne 10, 3) := by decide +kernel
theorem dX6_of_21 : decode cX6_of 21 = .ok (.aload_n 0, 1) := by decide +kernel
theorem dX6_of_22 : decode cX6_of 22 = .ok (.bipush (-2), 2) := by decide +kernel
theorem dX6_of_24 : decode cX6_of 24 = .ok (.invokevirtual 90, 3) := by decide +kernel
theorem dX6_of_27 : decode cX6_of 27 = .ok (.ireturn, 1) := by decide +kernel
theorem dX6_of_28 : decode cX6_of 28 = .ok (.aload_n 0, 1) := by decide +kernel
theorem dX6_of_29 : decode cX6_of 29 = .ok (.getfield 15, 3) := by decide +kernel
theorem dX6_of_32 : decode cX6_of 32 = .ok (.iload_n 1, 1) := by decide +kernel
theorem dX6_of_33 : decode cX6_of 33 = .ok (.iload_n 2, 1) := by decide +kernel
theorem dX6_of_34 : decode cX6_of 34 = .ok (.invokevirtual 93, 3) := by decide +kernel
theorem dX6_of_37 : decode cX6_of 37 = .ok (.ireturn, 1) := by decide +kernel
theorem dX6_letter_0 : decode cX6_letter 0 = .ok (.aload_n 0, 1) := by decide +kernel
theorem dX6_letter_1 : decode cX6_letter 1 = .ok (.getfield 44, 3) := by decide +kernel
theorem dX6_letter_4 : decode cX6_letter 4 = .ok (.aload_n 0, 1) := by decide +kernel
theorem dX6_letter_5 : decode cX6_letter 5 = .ok (.getfield 15, 3) := by decide +kernel
theorem dX6_letter_8 : decode cX6_letter 8 = .ok (.invokevirtual 59, 3) := by decide +kernel
theorem dX6_letter_11 : decode cX6_letter 11 = .ok (.aload_n 0, 1) := by decide +kernel
theorem dX6_letter_12 : decode cX6_letter 12 = .ok (.aload_n 0, 1) := by decide +kernel
theorem dX6_letter_13 : decode cX6_letter 13 = .ok (.getfield 15, 3) := by decide +kernel
theorem dX6_letter_16 : decode cX6_letter 16 = .ok (.iload_n 1, 1) := by decide +kernel
theorem dX6_letter_17 : decode cX6_letter 17 = .ok (.invokevirtual 96, 3) := by decide +kernel
theorem dX6_letter_20 : decode cX6_letter 20 = .ok (.invokevirtual 66, 3) := by decide +kernel
theorem dX6_letter_23 : decode cX6_letter 23 = .ok (.ireturn, 1) := by decide +kernel
theorem dX6_wipes_0 : decode cX6_wipes 0 = .ok (.aload_n 0, 1) := by decide +kernel
theorem dX6_wipes_1 : decode cX6_wipes 1 = .ok (.getfield 44, 3) := by decide +kernel
theorem dX6_wipes_4 : decode cX6_wipes 4 = .ok (.aload_n 0, 1) := by decide +kernel
theorem dX6_wipes_5 : decode cX6_wipes 5 = .ok (.getfield 15, 3) := by decide +kernel
theorem dX6_wipes_8 : decode cX6_wipes 8 = .ok (.invokevirtual 59, 3) := by decide +kernel
theorem dX6_wipes_11 : decode cX6_wipes 11 = .ok (.aload_n 0, 1) := by decide +kernel
theorem dX6_wipes_12 : decode cX6_wipes 12 = .ok (.aload_n 0, 1) := by decide +kernel
theorem dX6_wipes_13 : decode cX6_wipes 13 = .ok (.getfield 15, 3) := by decide +kernel
theorem dX6_wipes_16 : decode cX6_wipes 16 = .ok (.invokevirtual 99, 3) := by decide +kernel
theorem dX6_wipes_19 : decode cX6_wipes 19 = .ok (.invokevirtual 66, 3) := by decide +kernel
theorem dX6_wipes_22 : decode cX6_wipes 22 = .ok (.ireturn, 1) := by decide +kernel
theorem dX6_cuts_0 : decode cX6_cuts 0 = .ok (.aload_n 0, 1) := by decide +kernel
theorem dX6_cuts_1 : decode cX6_cuts 1 = .ok (.invokevirtual 103, 3) := by decide +kernel
theorem dX6_cuts_4 : decode cX6_cuts 4 = .ok (.lstore_n 1, 1) := by decide +kernel
theorem dX6_cuts_5 : decode cX6_cuts 5 = .ok (.lload_n 1, 1) := by decide +kernel
theorem dX6_cuts_6 : decode cX6_cuts 6 = .ok (.lconst 0, 1) := by decide +kernel
theorem dX6_cuts_7 : decode cX6_cuts 7 = .ok (.lcmp, 1) := by decide +kernel
theorem dX6_cuts_8 : decode cX6_cuts 8 = .ok (.ifCond .ge 13, 3) := by decide +kernel
theorem dX6_cuts_11 : decode cX6_cuts 11 = .ok (.aload_n 0, 1) := by decide +kernel
theorem dX6_cuts_12 : decode cX6_cuts 12 = .ok (.bipush (-5), 2) := by decide +kernel
theorem dX6_cuts_14 : decode cX6_cuts 14 = .ok (.invokevirtual 90, 3) := by decide +kernel
theorem dX6_cuts_17 : decode cX6_cuts 17 = .ok (.i2l, 1) := by decide +kernel
theorem dX6_cuts_18 : decode cX6_cuts 18 = .ok (.goto 4, 3) := by decide +kernel
theorem dX6_cuts_21 : decode cX6_cuts 21 = .ok (.lload_n 1, 1) := by decide +kernel
theorem dX6_cuts_22 : decode cX6_cuts 22 = .ok (.lreturn, 1) := by decide +kernel
theorem dX6_best_0 : decode cX6_best 0 = .ok (.iload_n 1, 1) := by decide +kernel
theorem dX6_best_1 : decode cX6_best 1 = .ok (.invokestatic 107, 3) := by decide +kernel
theorem dX6_best_4 : decode cX6_best 4 = .ok (.ifCond .eq 9, 3) := by decide +kernel
theorem dX6_best_7 : decode cX6_best 7 = .ok (.iload_n 2, 1) := by decide +kernel
theorem dX6_best_8 : decode cX6_best 8 = .ok (.bipush (-2), 2) := by decide +kernel
theorem dX6_best_10 : decode cX6_best 10 = .ok (.if_icmp .ge 10, 3) := by decide +kernel
theorem dX6_best_13 : decode cX6_best 13 = .ok (.aload_n 0, 1) := by decide +kernel
theorem dX6_best_14 : decode cX6_best 14 = .ok (.bipush (-2), 2) := by decide +kernel
theorem dX6_best_16 : decode cX6_best 16 = .ok (.invokevirtual 90, 3) := by decide +kernel
theorem dX6_best_19 : decode cX6_best 19 = .ok (.ireturn, 1) := by decide +kernel
theorem dX6_best_20 : decode cX6_best 20 = .ok (.aload_n 0, 1) := by decide +kernel
theorem dX6_best_21 : decode cX6_best 21 = .ok (.getfield 37, 3) := by decide +kernel
theorem dX6_best_24 : decode cX6_best 24 = .ok (.iload_n 1, 1) := by decide +kernel
theorem dX6_best_25 : decode cX6_best 25 = .ok (.invokevirtual 110, 3) := by decide +kernel
theorem dX6_best_28 : decode cX6_best 28 = .ok (.ifCond .ne 10, 3) := by decide +kernel
theorem dX6_best_31 : decode cX6_best 31 = .ok (.aload_n 0, 1) := by decide +kernel
theorem dX6_best_32 : decode cX6_best 32 = .ok (.bipush (-3), 2) := by decide +kernel
theorem dX6_best_34 : decode cX6_best 34 = .ok (.invokevirtual 90, 3) := by decide +kernel
theorem dX6_best_37 : decode cX6_best 37 = .ok (.ireturn, 1) := by decide +kernel
theorem dX6_best_38 : decode cX6_best 38 = .ok (.iload_n 2, 1) := by decide +kernel
theorem dX6_best_39 : decode cX6_best 39 = .ok (.bipush (-2), 2) := by decide +kernel
theorem dX6_best_41 : decode cX6_best 41 = .ok (.if_icmp .ne 11, 3) := by decide +kernel
theorem dX6_best_44 : decode cX6_best 44 = .ok (.aload_n 0, 1) := by decide +kernel
theorem dX6_best_45 : decode cX6_best 45 = .ok (.getfield 37, 3) := by decide +kernel
theorem dX6_best_48 : decode cX6_best 48 = .ok (.invokevirtual 113, 3) := by decide +kernel
theorem dX6_best_51 : decode cX6_best 51 = .ok (.ireturn, 1) := by decide +kernel
theorem dX6_best_52 : decode cX6_best 52 = .ok (.aload_n 0, 1) := by decide +kernel
theorem dX6_best_53 : decode cX6_best 53 = .ok (.getfield 37, 3) := by decide +kernel
theorem dX6_best_56 : decode cX6_best 56 = .ok (.getfield 116, 3) := by decide +kernel
theorem dX6_best_59 : decode cX6_best 59 = .ok (.aload_n 0, 1) := by decide +kernel
theorem dX6_best_60 : decode cX6_best 60 = .ok (.getfield 37, 3) := by decide +kernel
theorem dX6_best_63 : decode cX6_best 63 = .ok (.getfield 119, 3) := by decide +kernel
theorem dX6_best_66 : decode cX6_best 66 = .ok (.iload_n 2, 1) := by decide +kernel
theorem dX6_best_67 : decode cX6_best 67 = .ok (.invokestatic 123, 3) := by decide +kernel
theorem dX6_best_70 : decode cX6_best 70 = .ok (.ireturn, 1) := by decide +kernel
theorem dX6_sings_0 : decode cX6_sings 0 = .ok (.aload_n 0, 1) := by decide +kernel
theorem dX6_sings_1 : decode cX6_sings 1 = .ok (.getfield 44, 3) := by decide +kernel
theorem dX6_sings_4 : decode cX6_sings 4 = .ok (.aload_n 0, 1) := by decide +kernel
theorem dX6_sings_5 : decode cX6_sings 5 = .ok (.getfield 15, 3) := by decide +kernel
theorem dX6_sings_8 : decode cX6_sings 8 = .ok (.invokevirtual 59, 3) := by decide +kernel
theorem dX6_sings_11 : decode cX6_sings 11 = .ok (.aload_n 0, 1) := by decide +kernel
theorem dX6_sings_12 : decode cX6_sings 12 = .ok (.aload_n 0, 1) := by decide +kernel
theorem dX6_sings_13 : decode cX6_sings 13 = .ok (.iload_n 1, 1) := by decide +kernel
theorem dX6_sings_14 : decode cX6_sings 14 = .ok (.invokevirtual 127, 3) := by decide +kernel
theorem dX6_sings_17 : decode cX6_sings 17 = .ok (.invokevirtual 66, 3) := by decide +kernel
theorem dX6_sings_20 : decode cX6_sings 20 = .ok (.ireturn, 1) := by decide +kernel
theorem dX6_fixes_0 : decode cX6_fixes 0 = .ok (.iload_n 1, 1) := by decide +kernel
theorem dX6_fixes_1 : decode cX6_fixes 1 = .ok (.invokestatic 107, 3) := by decide +kernel
theorem dX6_fixes_4 : decode cX6_fixes 4 = .ok (.ifCond .eq 10, 3) := by decide +kernel
theorem dX6_fixes_7 : decode cX6_fixes 7 = .ok (.iload_n 2, 1) := by decide +kernel
theorem dX6_fixes_8 : decode cX6_fixes 8 = .ok (.invokestatic 130, 3) := by decide +kernel
theorem dX6_fixes_11 : decode cX6_fixes 11 = .ok (.ifCond .ne 10, 3) := by decide +kernel
theorem dX6_fixes_14 : decode cX6_fixes 14 = .ok (.aload_n 0, 1) := by decide +kernel
theorem dX6_fixes_15 : decode cX6_fixes 15 = .ok (.bipush (-2), 2) := by decide +kernel
theorem dX6_fixes_17 : decode cX6_fixes 17 = .ok (.invokevirtual 90, 3) := by decide +kernel
theorem dX6_fixes_20 : decode cX6_fixes 20 = .ok (.ireturn, 1) := by decide +kernel
theorem dX6_fixes_21 : decode cX6_fixes 21 = .ok (.aload_n 0, 1) := by decide +kernel
theorem dX6_fixes_22 : decode cX6_fixes 22 = .ok (.getfield 15, 3) := by decide +kernel
theorem dX6_fixes_25 : decode cX6_fixes 25 = .ok (.iload_n 1, 1) := by decide +kernel
theorem dX6_fixes_26 : decode cX6_fixes 26 = .ok (.iload_n 2, 1) := by decide +kernel
theorem dX6_fixes_27 : decode cX6_fixes 27 = .ok (.invokevirtual 133, 3) := by decide +kernel
theorem dX6_fixes_30 : decode cX6_fixes 30 = .ok (.ireturn, 1) := by decide +kernel
theorem dX6_metre_0 : decode cX6_metre 0 = .ok (.aload_n 0, 1) := by decide +kernel
theorem dX6_metre_1 : decode cX6_metre 1 = .ok (.getfield 44, 3) := by decide +kernel
theorem dX6_metre_4 : decode cX6_metre 4 = .ok (.aload_n 0, 1) := by decide +kernel
theorem dX6_metre_5 : decode cX6_metre 5 = .ok (.getfield 15, 3) := by decide +kernel
theorem dX6_metre_8 : decode cX6_metre 8 = .ok (.invokevirtual 59, 3) := by decide +kernel
theorem dX6_metre_11 : decode cX6_metre 11 = .ok (.aload_n 0, 1) := by decide +kernel
theorem dX6_metre_12 : decode cX6_metre 12 = .ok (.aload_n 0, 1) := by decide +kernel
theorem dX6_metre_13 : decode cX6_metre 13 = .ok (.getfield 15, 3) := by decide +kernel
theorem dX6_metre_16 : decode cX6_metre 16 = .ok (.iload_n 1, 1) := by decide +kernel
theorem dX6_metre_17 : decode cX6_metre 17 = .ok (.invokevirtual 136, 3) := by decide +kernel
theorem dX6_metre_20 : decode cX6_metre 20 = .ok (.invokevirtual 66, 3) := by decide +kernel
theorem dX6_metre_23 : decode cX6_metre 23 = .ok (.ireturn, 1) := by decide +kernel
theorem dX6_marks_0 : decode cX6_marks 0 = .ok (.aload_n 0, 1) := by decide +kernel
theorem dX6_marks_1 : decode cX6_marks 1 = .ok (.getfield 44, 3) := by decide +kernel
theorem dX6_marks_4 : decode cX6_marks 4 = .ok (.aload_n 0, 1) := by decide +kernel
theorem dX6_marks_5 : decode cX6_marks 5 = .ok (.getfield 15, 3) := by decide +kernel
theorem dX6_marks_8 : decode cX6_marks 8 = .ok (.invokevirtual 59, 3) := by decide +kernel
theorem dX6_marks_11 : decode cX6_marks 11 = .ok (.aload_n 0, 1) := by decide +kernel
theorem dX6_marks_12 : decode cX6_marks 12 = .ok (.aload_n 0, 1) := by decide +kernel
theorem dX6_marks_13 : decode cX6_marks 13 = .ok (.getfield 15, 3) := by decide +kernel
theorem dX6_marks_16 : decode cX6_marks 16 = .ok (.iload_n 1, 1) := by decide +kernel
theorem dX6_marks_17 : decode cX6_marks 17 = .ok (.iload_n 2, 1) := by decide +kernel
theorem dX6_marks_18 : decode cX6_marks 18 = .ok (.invokevirtual 139, 3) := by decide +kernel
theorem dX6_marks_21 : decode cX6_marks 21 = .ok (.invokevirtual 66, 3) := by decide +kernel
theorem dX6_marks_24 : decode cX6_marks 24 = .ok (.ireturn, 1) := by decide +kernel
theorem dX6_made_0 : decode cX6_made 0 = .ok (.aload_n 0, 1) := by decide +kernel
theorem dX6_made_1 : decode cX6_made 1 = .ok (.iconst (-1), 1) := by decide +kernel
theorem dX6_made_2 : decode cX6_made 2 = .ok (.invokevirtual 142, 3) := by decide +kernel
theorem dX6_made_5 : decode cX6_made 5 = .ok (.lstore_n 1, 1) := by decide +kernel
theorem dX6_made_6 : decode cX6_made 6 = .ok (.lload_n 1, 1) := by decide +kernel
theorem dX6_made_7 : decode cX6_made 7 = .ok (.lconst 0, 1) := by decide +kernel
theorem dX6_made_8 : decode cX6_made 8 = .ok (.lcmp, 1) := by decide +kernel
theorem dX6_made_9 : decode cX6_made 9 = .ok (.ifCond .ge 13, 3) := by decide +kernel
theorem dX6_made_12 : decode cX6_made 12 = .ok (.aload_n 0, 1) := by decide +kernel
theorem dX6_made_13 : decode cX6_made 13 = .ok (.bipush (-5), 2) := by decide +kernel
theorem dX6_made_15 : decode cX6_made 15 = .ok (.invokevirtual 90, 3) := by decide +kernel
theorem dX6_made_18 : decode cX6_made 18 = .ok (.i2l, 1) := by decide +kernel
theorem dX6_made_19 : decode cX6_made 19 = .ok (.goto 4, 3) := by decide +kernel
theorem dX6_made_22 : decode cX6_made 22 = .ok (.lload_n 1, 1) := by decide +kernel
theorem dX6_made_23 : decode cX6_made 23 = .ok (.lreturn, 1) := by decide +kernel
theorem dX6_row_0 : decode cX6_row 0 = .ok (.lload_n 1, 1) := by decide +kernel
theorem dX6_row_1 : decode cX6_row 1 = .ok (.lconst 0, 1) := by decide +kernel
theorem dX6_row_2 : decode cX6_row 2 = .ok (.lcmp, 1) := by decide +kernel
theorem dX6_row_3 : decode cX6_row 3 = .ok (.ifCond .lt 8, 3) := by decide +kernel
theorem dX6_row_6 : decode cX6_row 6 = .ok (.iload_n 3, 1) := by decide +kernel
theorem dX6_row_7 : decode cX6_row 7 = .ok (.iconst (-1), 1) := by decide +kernel
theorem dX6_row_8 : decode cX6_row 8 = .ok (.if_icmp .ge 10, 3) := by decide +kernel
theorem dX6_row_11 : decode cX6_row 11 = .ok (.aload_n 0, 1) := by decide +kernel
theorem dX6_row_12 : decode cX6_row 12 = .ok (.bipush (-2), 2) := by decide +kernel
theorem dX6_row_14 : decode cX6_row 14 = .ok (.invokevirtual 90, 3) := by decide +kernel
theorem dX6_row_17 : decode cX6_row 17 = .ok (.ireturn, 1) := by decide +kernel
theorem dX6_row_18 : decode cX6_row 18 = .ok (.aload_n 0, 1) := by decide +kernel
theorem dX6_row_19 : decode cX6_row 19 = .ok (.iconst (-1), 1) := by decide +kernel
theorem dX6_row_20 : decode cX6_row 20 = .ok (.invokevirtual 142, 3) := by decide +kernel
theorem dX6_row_23 : decode cX6_row 23 = .ok (.lstore 4, 2) := by decide +kernel
theorem dX6_row_25 : decode cX6_row 25 = .ok (.lload 4, 2) := by decide +kernel
theorem dX6_row_27 : decode cX6_row 27 = .ok (.lconst 0, 1) := by decide +kernel
theorem dX6_row_28 : decode cX6_row 28 = .ok (.lcmp, 1) := by decide +kernel
theorem dX6_row_29 : decode cX6_row 29 = .ok (.ifCond .ge 10, 3) := by decide +kernel
theorem dX6_row_32 : decode cX6_row 32 = .ok (.aload_n 0, 1) := by decide +kernel
theorem dX6_row_33 : decode cX6_row 33 = .ok (.bipush (-5), 2) := by decide +kernel
theorem dX6_row_35 : decode cX6_row 35 = .ok (.invokevirtual 90, 3) := by decide +kernel
theorem dX6_row_38 : decode cX6_row 38 = .ok (.ireturn, 1) := by decide +kernel
theorem dX6_row_39 : decode cX6_row 39 = .ok (.lload_n 1, 1) := by decide +kernel
theorem dX6_row_40 : decode cX6_row 40 = .ok (.lload 4, 2) := by decide +kernel
theorem dX6_row_42 : decode cX6_row 42 = .ok (.lcmp, 1) := by decide +kernel
theorem dX6_row_43 : decode cX6_row 43 = .ok (.ifCond .lt 10, 3) := by decide +kernel
theorem dX6_row_46 : decode cX6_row 46 = .ok (.aload_n 0, 1) := by decide +kernel
theorem dX6_row_47 : decode cX6_row 47 = .ok (.bipush (-3), 2) := by decide +kernel
theorem dX6_row_49 : decode cX6_row 49 = .ok (.invokevirtual 90, 3) := by decide +kernel
theorem dX6_row_52 : decode cX6_row 52 = .ok (.ireturn, 1) := by decide +kernel
theorem dX6_row_53 : decode cX6_row 53 = .ok (.aload_n 0, 1) := by decide +kernel
theorem dX6_row_54 : decode cX6_row 54 = .ok (.getfield 30, 3) := by decide +kernel
theorem dX6_row_57 : decode cX6_row 57 = .ok (.lload_n 1, 1) := by decide +kernel
theorem dX6_row_58 : decode cX6_row 58 = .ok (.invokevirtual 146, 3) := by decide +kernel
theorem dX6_row_61 : decode cX6_row 61 = .ok (.aload_n 0, 1) := by decide +kernel
theorem dX6_row_62 : decode cX6_row 62 = .ok (.getfield 30, 3) := by decide +kernel
theorem dX6_row_65 : decode cX6_row 65 = .ok (.getfield 150, 3) := by decide +kernel
theorem dX6_row_68 : decode cX6_row 68 = .ok (.aload_n 0, 1) := by decide +kernel
theorem dX6_row_69 : decode cX6_row 69 = .ok (.getfield 30, 3) := by decide +kernel
theorem dX6_row_72 : decode cX6_row 72 = .ok (.getfield 153, 3) := by decide +kernel
theorem dX6_row_75 : decode cX6_row 75 = .ok (.iload_n 3, 1) := by decide +kernel
theorem dX6_row_76 : decode cX6_row 76 = .ok (.invokestatic 123, 3) := by decide +kernel
theorem dX6_row_79 : decode cX6_row 79 = .ok (.ireturn, 1) := by decide +kernel
theorem dX6_weight_0 : decode cX6_weight 0 = .ok (.iload_n 1, 1) := by decide +kernel
theorem dX6_weight_1 : decode cX6_weight 1 = .ok (.invokestatic 107, 3) := by decide +kernel
theorem dX6_weight_4 : decode cX6_weight 4 = .ok (.ifCond .eq 19, 3) := by decide +kernel
theorem dX6_weight_7 : decode cX6_weight 7 = .ok (.iload_n 2, 1) := by decide +kernel
theorem dX6_weight_8 : decode cX6_weight 8 = .ok (.iconst (-1), 1) := by decide +kernel
theorem dX6_weight_9 : decode cX6_weight 9 = .ok (.if_icmp .eq 22, 3) := by decide +kernel
theorem dX6_weight_12 : decode cX6_weight 12 = .ok (.aload_n 0, 1) := by decide +kernel
theorem dX6_weight_13 : decode cX6_weight 13 = .ok (.getfield 15, 3) := by decide +kernel
theorem dX6_weight_16 : decode cX6_weight 16 = .ok (.iload_n 2, 1) := by decide +kernel
theorem dX6_weight_17 : decode cX6_weight 17 = .ok (.invokevirtual 82, 3) := by decide +kernel
theorem dX6_weight_20 : decode cX6_weight 20 = .ok (.ifCond .ne 11, 3) := by decide +kernel
theorem dX6_weight_23 : decode cX6_weight 23 = .ok (.aload_n 0, 1) := by decide +kernel
theorem dX6_weight_24 : decode cX6_weight 24 = .ok (.bipush (-2), 2) := by decide +kernel
theorem dX6_weight_26 : decode cX6_weight 26 = .ok (.invokevirtual 90, 3) := by decide +kernel
theorem dX6_weight_29 : decode cX6_weight 29 = .ok (.i2l, 1) := by decide +kernel
theorem dX6_weight_30 : decode cX6_weight 30 = .ok (.lreturn, 1) := by decide +kernel
theorem dX6_weight_31 : decode cX6_weight 31 = .ok (.aload_n 0, 1) := by decide +kernel
theorem dX6_weight_32 : decode cX6_weight 32 = .ok (.iload_n 1, 1) := by decide +kernel
theorem dX6_weight_33 : decode cX6_weight 33 = .ok (.invokevirtual 142, 3) := by decide +kernel
theorem dX6_weight_36 : decode cX6_weight 36 = .ok (.lstore_n 3, 1) := by decide +kernel
theorem dX6_weight_37 : decode cX6_weight 37 = .ok (.lload_n 3, 1) := by decide +kernel
theorem dX6_weight_38 : decode cX6_weight 38 = .ok (.lconst 0, 1) := by decide +kernel
theorem dX6_weight_39 : decode cX6_weight 39 = .ok (.lcmp, 1) := by decide +kernel
theorem dX6_weight_40 : decode cX6_weight 40 = .ok (.ifCond .ge 11, 3) := by decide +kernel
theorem dX6_weight_43 : decode cX6_weight 43 = .ok (.aload_n 0, 1) := by decide +kernel
theorem dX6_weight_44 : decode cX6_weight 44 = .ok (.bipush (-5), 2) := by decide +kernel
theorem dX6_weight_46 : decode cX6_weight 46 = .ok (.invokevirtual 90, 3) := by decide +kernel
theorem dX6_weight_49 : decode cX6_weight 49 = .ok (.i2l, 1) := by decide +kernel
theorem dX6_weight_50 : decode cX6_weight 50 = .ok (.lreturn, 1) := by decide +kernel
theorem dX6_weight_51 : decode cX6_weight 51 = .ok (.iload_n 2, 1) := by decide +kernel
theorem dX6_weight_52 : decode cX6_weight 52 = .ok (.iconst (-1), 1) := by decide +kernel
theorem dX6_weight_53 : decode cX6_weight 53 = .ok (.if_icmp .ne 7, 3) := by decide +kernel
theorem dX6_weight_56 : decode cX6_weight 56 = .ok (.lload_n 3, 1) := by decide +kernel
theorem dX6_weight_57 : decode cX6_weight 57 = .ok (.goto 13, 3) := by decide +kernel
theorem dX6_weight_60 : decode cX6_weight 60 = .ok (.aload_n 0, 1) := by decide +kernel
theorem dX6_weight_61 : decode cX6_weight 61 = .ok (.getfield 30, 3) := by decide +kernel
theorem dX6_weight_64 : decode cX6_weight 64 = .ok (.iconst 0, 1) := by decide +kernel
theorem dX6_weight_65 : decode cX6_weight 65 = .ok (.iconst 0, 1) := by decide +kernel
theorem dX6_weight_66 : decode cX6_weight 66 = .ok (.iload_n 2, 1) := by decide +kernel
theorem dX6_weight_67 : decode cX6_weight 67 = .ok (.invokevirtual 156, 3) := by decide +kernel
theorem dX6_weight_70 : decode cX6_weight 70 = .ok (.lreturn, 1) := by decide +kernel
theorem dX6_picks_0 : decode cX6_picks 0 = .ok (.iload_n 1, 1) := by decide +kernel
theorem dX6_picks_1 : decode cX6_picks 1 = .ok (.invokestatic 107, 3) := by decide +kernel
theorem dX6_picks_4 : decode cX6_picks 4 = .ok (.ifCond .eq 18, 3) := by decide +kernel
theorem dX6_picks_7 : decode cX6_picks 7 = .ok (.iload_n 2, 1) := by decide +kernel
theorem dX6_picks_8 : decode cX6_picks 8 = .ok (.iconst 0, 1) := by decide +kernel
theorem dX6_picks_9 : decode cX6_picks 9 = .ok (.ldc 160, 2) := by decide +kernel
theorem dX6_picks_11 : decode cX6_picks 11 = .ok (.invokestatic 86, 3) := by decide +kernel
theorem dX6_picks_14 : decode cX6_picks 14 = .ok (.ifCond .eq 8, 3) := by decide +kernel
theorem dX6_picks_17 : decode cX6_picks 17 = .ok (.iload_n 3, 1) := by decide +kernel
theorem dX6_picks_18 : decode cX6_picks 18 = .ok (.iconst (-1), 1) := by decide +kernel
theorem dX6_picks_19 : decode cX6_picks 19 = .ok (.if_icmp .ge 10, 3) := by decide +kernel
theorem dX6_picks_22 : decode cX6_picks 22 = .ok (.aload_n 0, 1) := by decide +kernel
theorem dX6_picks_23 : decode cX6_picks 23 = .ok (.bipush (-2), 2) := by decide +kernel
theorem dX6_picks_25 : decode cX6_picks 25 = .ok (.invokevirtual 90, 3) := by decide +kernel
theorem dX6_picks_28 : decode cX6_picks 28 = .ok (.ireturn, 1) := by decide +kernel
theorem dX6_picks_29 : decode cX6_picks 29 = .ok (.aload_n 0, 1) := by decide +kernel
theorem dX6_picks_30 : decode cX6_picks 30 = .ok (.iload_n 1, 1) := by decide +kernel
theorem dX6_picks_31 : decode cX6_picks 31 = .ok (.invokevirtual 142, 3) := by decide +kernel
theorem dX6_picks_34 : decode cX6_picks 34 = .ok (.lstore 4, 2) := by decide +kernel
theorem dX6_picks_36 : decode cX6_picks 36 = .ok (.lload 4, 2) := by decide +kernel
theorem dX6_picks_38 : decode cX6_picks 38 = .ok (.lconst 0, 1) := by decide +kernel
theorem dX6_picks_39 : decode cX6_picks 39 = .ok (.lcmp, 1) := by decide +kernel
theorem dX6_picks_40 : decode cX6_picks 40 = .ok (.ifCond .ge 10, 3) := by decide +kernel
theorem dX6_picks_43 : decode cX6_picks 43 = .ok (.aload_n 0, 1) := by decide +kernel
theorem dX6_picks_44 : decode cX6_picks 44 = .ok (.bipush (-5), 2) := by decide +kernel
theorem dX6_picks_46 : decode cX6_picks 46 = .ok (.invokevirtual 90, 3) := by decide +kernel
theorem dX6_picks_49 : decode cX6_picks 49 = .ok (.ireturn, 1) := by decide +kernel
theorem dX6_picks_50 : decode cX6_picks 50 = .ok (.lload 4, 2) := by decide +kernel
theorem dX6_picks_52 : decode cX6_picks 52 = .ok (.lconst 0, 1) := by decide +kernel
theorem dX6_picks_53 : decode cX6_picks 53 = .ok (.lcmp, 1) := by decide +kernel
theorem dX6_picks_54 : decode cX6_picks 54 = .ok (.ifCond .ne 10, 3) := by decide +kernel
theorem dX6_picks_57 : decode cX6_picks 57 = .ok (.aload_n 0, 1) := by decide +kernel
theorem dX6_picks_58 : decode cX6_picks 58 = .ok (.bipush (-3), 2) := by decide +kernel
theorem dX6_picks_60 : decode cX6_picks 60 = .ok (.invokevirtual 90, 3) := by decide +kernel
theorem dX6_picks_63 : decode cX6_picks 63 = .ok (.ireturn, 1) := by decide +kernel
theorem dX6_picks_64 : decode cX6_picks 64 = .ok (.iload_n 2, 1) := by decide +kernel
theorem dX6_picks_65 : decode cX6_picks 65 = .ok (.i2l, 1) := by decide +kernel
theorem dX6_picks_66 : decode cX6_picks 66 = .ok (.ldc2_w 161, 3) := by decide +kernel
theorem dX6_picks_69 : decode cX6_picks 69 = .ok (.lmul, 1) := by decide +kernel
theorem dX6_picks_70 : decode cX6_picks 70 = .ok (.ldc2_w 163, 3) := by decide +kernel
theorem dX6_picks_73 : decode cX6_picks 73 = .ok (.ladd, 1) := by decide +kernel
theorem dX6_picks_74 : decode cX6_picks 74 = .ok (.ldc2_w 165, 3) := by decide +kernel
theorem dX6_picks_77 : decode cX6_picks 77 = .ok (.lrem, 1) := by decide +kernel
theorem dX6_picks_78 : decode cX6_picks 78 = .ok (.lstore 6, 2) := by decide +kernel
theorem dX6_picks_80 : decode cX6_picks 80 = .ok (.aload_n 0, 1) := by decide +kernel
theorem dX6_picks_81 : decode cX6_picks 81 = .ok (.getfield 30, 3) := by decide +kernel
theorem dX6_picks_84 : decode cX6_picks 84 = .ok (.lload 6, 2) := by decide +kernel
theorem dX6_picks_86 : decode cX6_picks 86 = .ok (.lload 4, 2) := by decide +kernel
theorem dX6_picks_88 : decode cX6_picks 88 = .ok (.lrem, 1) := by decide +kernel
theorem dX6_picks_89 : decode cX6_picks 89 = .ok (.invokevirtual 146, 3) := by decide +kernel
theorem dX6_picks_92 : decode cX6_picks 92 = .ok (.aload_n 0, 1) := by decide +kernel
theorem dX6_picks_93 : decode cX6_picks 93 = .ok (.getfield 30, 3) := by decide +kernel
theorem dX6_picks_96 : decode cX6_picks 96 = .ok (.getfield 150, 3) := by decide +kernel
theorem dX6_picks_99 : decode cX6_picks 99 = .ok (.aload_n 0, 1) := by decide +kernel
theorem dX6_picks_100 : decode cX6_picks 100 = .ok (.getfield 30, 3) := by decide +kernel
theorem dX6_picks_103 : decode cX6_picks 103 = .ok (.getfield 153, 3) := by decide +kernel
theorem dX6_picks_106 : decode cX6_picks 106 = .ok (.iload_n 3, 1) := by decide +kernel
theorem dX6_picks_107 : decode cX6_picks 107 = .ok (.invokestatic 123, 3) := by decide +kernel
theorem dX6_picks_110 : decode cX6_picks 110 = .ok (.ireturn, 1) := by decide +kernel
theorem dX6_type_0 : decode cX6_type 0 = .ok (.aload_n 0, 1) := by decide +kernel
theorem dX6_type_1 : decode cX6_type 1 = .ok (.getfield 51, 3) := by decide +kernel
theorem dX6_type_4 : decode cX6_type 4 = .ok (.iload_n 1, 1) := by decide +kernel
theorem dX6_type_5 : decode cX6_type 5 = .ok (.invokevirtual 167, 3) := by decide +kernel
theorem dX6_type_8 : decode cX6_type 8 = .ok (.istore_n 2, 1) := by decide +kernel
theorem dX6_type_9 : decode cX6_type 9 = .ok (.iload_n 2, 1) := by decide +kernel
theorem dX6_type_10 : decode cX6_type 10 = .ok (.ifCond .ge 11, 3) := by decide +kernel
theorem dX6_type_13 : decode cX6_type 13 = .ok (.aload_n 0, 1) := by decide +kernel
theorem dX6_type_14 : decode cX6_type 14 = .ok (.iload_n 2, 1) := by decide +kernel
theorem dX6_type_15 : decode cX6_type 15 = .ok (.invokevirtual 90, 3) := by decide +kernel
theorem dX6_type_18 : decode cX6_type 18 = .ok (.goto 4, 3) := by decide +kernel
theorem dX6_type_21 : decode cX6_type 21 = .ok (.iload_n 2, 1) := by decide +kernel
theorem dX6_type_22 : decode cX6_type 22 = .ok (.ireturn, 1) := by decide +kernel
theorem dX6_clear_0 : decode cX6_clear 0 = .ok (.aload_n 0, 1) := by decide +kernel
theorem dX6_clear_1 : decode cX6_clear 1 = .ok (.getfield 51, 3) := by decide +kernel
theorem dX6_clear_4 : decode cX6_clear 4 = .ok (.invokevirtual 170, 3) := by decide +kernel
theorem dX6_clear_7 : decode cX6_clear 7 = .ok (.ireturn, 1) := by decide +kernel
theorem dX6_reads_0 : decode cX6_reads 0 = .ok (.aload_n 0, 1) := by decide +kernel
theorem dX6_reads_1 : decode cX6_reads 1 = .ok (.getfield 51, 3) := by decide +kernel
theorem dX6_reads_4 : decode cX6_reads 4 = .ok (.invokevirtual 173, 3) := by decide +kernel
theorem dX6_reads_7 : decode cX6_reads 7 = .ok (.istore_n 1, 1) := by decide +kernel
theorem dX6_reads_8 : decode cX6_reads 8 = .ok (.iload_n 1, 1) := by decide +kernel
theorem dX6_reads_9 : decode cX6_reads 9 = .ok (.iconst (-1), 1) := by decide +kernel
theorem dX6_reads_10 : decode cX6_reads 10 = .ok (.if_icmp .eq 8, 3) := by decide +kernel
theorem dX6_reads_13 : decode cX6_reads 13 = .ok (.bipush (-10), 2) := by decide +kernel
theorem dX6_reads_15 : decode cX6_reads 15 = .ok (.iload_n 1, 1) := by decide +kernel
theorem dX6_reads_16 : decode cX6_reads 16 = .ok (.isub, 1) := by decide +kernel
theorem dX6_reads_17 : decode cX6_reads 17 = .ok (.ireturn, 1) := by decide +kernel
theorem dX6_reads_18 : decode cX6_reads 18 = .ok (.aload_n 0, 1) := by decide +kernel
theorem dX6_reads_19 : decode cX6_reads 19 = .ok (.getfield 44, 3) := by decide +kernel
theorem dX6_reads_22 : decode cX6_reads 22 = .ok (.aload_n 0, 1) := by decide +kernel
theorem dX6_reads_23 : decode cX6_reads 23 = .ok (.getfield 15, 3) := by decide +kernel
theorem dX6_reads_26 : decode cX6_reads 26 = .ok (.invokevirtual 59, 3) := by decide +kernel
theorem dX6_reads_29 : decode cX6_reads 29 = .ok (.aload_n 0, 1) := by decide +kernel
theorem dX6_reads_30 : decode cX6_reads 30 = .ok (.getfield 51, 3) := by decide +kernel
theorem dX6_reads_33 : decode cX6_reads 33 = .ok (.invokevirtual 176, 3) := by decide +kernel
theorem dX6_reads_36 : decode cX6_reads 36 = .ok (.iconst 0, 1) := by decide +kernel
theorem dX6_reads_37 : decode cX6_reads 37 = .ok (.istore_n 2, 1) := by decide +kernel
theorem dX6_reads_38 : decode cX6_reads 38 = .ok (.iload_n 2, 1) := by decide +kernel
theorem dX6_reads_39 : decode cX6_reads 39 = .ok (.sipush 150, 3) := by decide +kernel
theorem dX6_reads_42 : decode cX6_reads 42 = .ok (.if_icmp .ge 43, 3) := by decide +kernel
theorem dX6_reads_45 : decode cX6_reads 45 = .ok (.aload_n 0, 1) := by decide +kernel
theorem dX6_reads_46 : decode cX6_reads 46 = .ok (.getfield 51, 3) := by decide +kernel
theorem dX6_reads_49 : decode cX6_reads 49 = .ok (.invokevirtual 179, 3) := by decide +kernel
theorem dX6_reads_52 : decode cX6_reads 52 = .ok (.ifCond .eq 33, 3) := by decide +kernel
theorem dX6_reads_55 : decode cX6_reads 55 = .ok (.aload_n 0, 1) := by decide +kernel
theorem dX6_reads_56 : decode cX6_reads 56 = .ok (.invokevirtual 183, 3) := by decide +kernel
theorem dX6_reads_59 : decode cX6_reads 59 = .ok (.ifCond .ge 20, 3) := by decide +kernel
theorem dX6_reads_62 : decode cX6_reads 62 = .ok (.aload_n 0, 1) := by decide +kernel
theorem dX6_reads_63 : decode cX6_reads 63 = .ok (.getfield 44, 3) := by decide +kernel
theorem dX6_reads_66 : decode cX6_reads 66 = .ok (.aload_n 0, 1) := by decide +kernel
theorem dX6_reads_67 : decode cX6_reads 67 = .ok (.getfield 15, 3) := by decide +kernel
theorem dX6_reads_70 : decode cX6_reads 70 = .ok (.invokevirtual 186, 3) := by decide +kernel
theorem dX6_reads_73 : decode cX6_reads 73 = .ok (.sipush (-1000), 3) := by decide +kernel
theorem dX6_reads_76 : decode cX6_reads 76 = .ok (.iload_n 2, 1) := by decide +kernel
theorem dX6_reads_77 : decode cX6_reads 77 = .ok (.isub, 1) := by decide +kernel
theorem dX6_reads_78 : decode cX6_reads 78 = .ok (.ireturn, 1) := by decide +kernel
theorem dX6_reads_79 : decode cX6_reads 79 = .ok (.iinc 2 1, 3) := by decide +kernel
theorem dX6_reads_82 : decode cX6_reads 82 = .ok (.goto (-44), 3) := by decide +kernel
theorem dX6_reads_85 : decode cX6_reads 85 = .ok (.aload_n 0, 1) := by decide +kernel
theorem dX6_reads_86 : decode cX6_reads 86 = .ok (.getfield 44, 3) := by decide +kernel
theorem dX6_reads_89 : decode cX6_reads 89 = .ok (.invokevirtual 189, 3) := by decide +kernel
theorem dX6_reads_92 : decode cX6_reads 92 = .ok (.iload_n 2, 1) := by decide +kernel
theorem dX6_reads_93 : decode cX6_reads 93 = .ok (.ireturn, 1) := by decide +kernel
theorem dX6_back_0 : decode cX6_back 0 = .ok (.aload_n 0, 1) := by decide +kernel
theorem dX6_back_1 : decode cX6_back 1 = .ok (.getfield 44, 3) := by decide +kernel
theorem dX6_back_4 : decode cX6_back 4 = .ok (.getfield 192, 3) := by decide +kernel
theorem dX6_back_7 : decode cX6_back 7 = .ok (.ifCond .ne 10, 3) := by decide +kernel
theorem dX6_back_10 : decode cX6_back 10 = .ok (.aload_n 0, 1) := by decide +kernel
theorem dX6_back_11 : decode cX6_back 11 = .ok (.bipush (-3), 2) := by decide +kernel
theorem dX6_back_13 : decode cX6_back 13 = .ok (.invokevirtual 90, 3) := by decide +kernel
theorem dX6_back_16 : decode cX6_back 16 = .ok (.ireturn, 1) := by decide +kernel
theorem dX6_back_17 : decode cX6_back 17 = .ok (.aload_n 0, 1) := by decide +kernel
theorem dX6_back_18 : decode cX6_back 18 = .ok (.getfield 44, 3) := by decide +kernel
theorem dX6_back_21 : decode cX6_back 21 = .ok (.aload_n 0, 1) := by decide +kernel
theorem dX6_back_22 : decode cX6_back 22 = .ok (.getfield 15, 3) := by decide +kernel
theorem dX6_back_25 : decode cX6_back 25 = .ok (.invokevirtual 195, 3) := by decide +kernel
theorem dX6_back_28 : decode cX6_back 28 = .ok (.aload_n 0, 1) := by decide +kernel
theorem dX6_back_29 : decode cX6_back 29 = .ok (.getfield 44, 3) := by decide +kernel
theorem dX6_back_32 : decode cX6_back 32 = .ok (.getfield 192, 3) := by decide +kernel
theorem dX6_back_35 : decode cX6_back 35 = .ok (.ireturn, 1) := by decide +kernel
theorem dX6_told_0 : decode cX6_told 0 = .ok (.iload_n 1, 1) := by decide +kernel
theorem dX6_told_1 : decode cX6_told 1 = .ok (.iconst 0, 1) := by decide +kernel
theorem dX6_told_2 : decode cX6_told 2 = .ok (.bipush 14, 2) := by decide +kernel
theorem dX6_told_4 : decode cX6_told 4 = .ok (.invokestatic 86, 3) := by decide +kernel
theorem dX6_told_7 : decode cX6_told 7 = .ok (.ifCond .eq 11, 3) := by decide +kernel
theorem dX6_told_10 : decode cX6_told 10 = .ok (.aload_n 0, 1) := by decide +kernel
theorem dX6_told_11 : decode cX6_told 11 = .ok (.iload_n 1, 1) := by decide +kernel
theorem dX6_told_12 : decode cX6_told 12 = .ok (.invokevirtual 198, 3) := by decide +kernel
theorem dX6_told_15 : decode cX6_told 15 = .ok (.goto 9, 3) := by decide +kernel
theorem dX6_told_18 : decode cX6_told 18 = .ok (.aload_n 0, 1) := by decide +kernel
theorem dX6_told_19 : decode cX6_told 19 = .ok (.bipush (-2), 2) := by decide +kernel
theorem dX6_told_21 : decode cX6_told 21 = .ok (.invokevirtual 90, 3) := by decide +kernel
theorem dX6_told_24 : decode cX6_told 24 = .ok (.ireturn, 1) := by decide +kernel
theorem dX6_digest_0 : decode cX6_digest 0 = .ok (.ldc2_w 201, 3) := by decide +kernel
theorem dX6_digest_3 : decode cX6_digest 3 = .ok (.lstore_n 1, 1) := by decide +kernel
theorem dX6_digest_4 : decode cX6_digest 4 = .ok (.iconst 0, 1) := by decide +kernel
theorem dX6_digest_5 : decode cX6_digest 5 = .ok (.istore_n 3, 1) := by decide +kernel
theorem dX6_digest_6 : decode cX6_digest 6 = .ok (.iload_n 3, 1) := by decide +kernel
theorem dX6_digest_7 : decode cX6_digest 7 = .ok (.bipush 15, 2) := by decide +kernel
theorem dX6_digest_9 : decode cX6_digest 9 = .ok (.if_icmp .ge 22, 3) := by decide +kernel
theorem dX6_digest_12 : decode cX6_digest 12 = .ok (.ldc2_w 203, 3) := by decide +kernel
theorem dX6_digest_15 : decode cX6_digest 15 = .ok (.lload_n 1, 1) := by decide +kernel
theorem dX6_digest_16 : decode cX6_digest 16 = .ok (.lmul, 1) := by decide +kernel
theorem dX6_digest_17 : decode cX6_digest 17 = .ok (.aload_n 0, 1) := by decide +kernel
theorem dX6_digest_18 : decode cX6_digest 18 = .ok (.iload_n 3, 1) := by decide +kernel
theorem dX6_digest_19 : decode cX6_digest 19 = .ok (.invokevirtual 198, 3) := by decide +kernel
theorem dX6_digest_22 : decode cX6_digest 22 = .ok (.i2l, 1) := by decide +kernel
theorem dX6_digest_23 : decode cX6_digest 23 = .ok (.ladd, 1) := by decide +kernel
theorem dX6_digest_24 : decode cX6_digest 24 = .ok (.lstore_n 1, 1) := by decide +kernel
theorem dX6_digest_25 : decode cX6_digest 25 = .ok (.iinc 3 1, 3) := by decide +kernel
theorem dX6_digest_28 : decode cX6_digest 28 = .ok (.goto (-22), 3) := by decide +kernel
theorem dX6_digest_31 : decode cX6_digest 31 = .ok (.aload_n 0, 1) := by decide +kernel
theorem dX6_digest_32 : decode cX6_digest 32 = .ok (.getfield 15, 3) := by decide +kernel
theorem dX6_digest_35 : decode cX6_digest 35 = .ok (.lload_n 1, 1) := by decide +kernel
theorem dX6_digest_36 : decode cX6_digest 36 = .ok (.invokevirtual 205, 3) := by decide +kernel
theorem dX6_digest_39 : decode cX6_digest 39 = .ok (.lstore_n 1, 1) := by decide +kernel
theorem dX6_digest_40 : decode cX6_digest 40 = .ok (.ldc2_w 203, 3) := by decide +kernel
theorem dX6_digest_43 : decode cX6_digest 43 = .ok (.lload_n 1, 1) := by decide +kernel
theorem dX6_digest_44 : decode cX6_digest 44 = .ok (.lmul, 1) := by decide +kernel
theorem dX6_digest_45 : decode cX6_digest 45 = .ok (.aload_n 0, 1) := by decide +kernel
theorem dX6_digest_46 : decode cX6_digest 46 = .ok (.invokevirtual 103, 3) := by decide +kernel
theorem dX6_digest_49 : decode cX6_digest 49 = .ok (.ladd, 1) := by decide +kernel
theorem dX6_digest_50 : decode cX6_digest 50 = .ok (.lstore_n 1, 1) := by decide +kernel
theorem dX6_digest_51 : decode cX6_digest 51 = .ok (.ldc2_w 203, 3) := by decide +kernel
theorem dX6_digest_54 : decode cX6_digest 54 = .ok (.lload_n 1, 1) := by decide +kernel
theorem dX6_digest_55 : decode cX6_digest 55 = .ok (.lmul, 1) := by decide +kernel
theorem dX6_digest_56 : decode cX6_digest 56 = .ok (.aload_n 0, 1) := by decide +kernel
theorem dX6_digest_57 : decode cX6_digest 57 = .ok (.iconst (-1), 1) := by decide +kernel
theorem dX6_digest_58 : decode cX6_digest 58 = .ok (.invokevirtual 142, 3) := by decide +kernel
theorem dX6_digest_61 : decode cX6_digest 61 = .ok (.ladd, 1) := by decide +kernel
theorem dX6_digest_62 : decode cX6_digest 62 = .ok (.lstore_n 1, 1) := by decide +kernel
theorem dX6_digest_63 : decode cX6_digest 63 = .ok (.iconst 0, 1) := by decide +kernel
theorem dX6_digest_64 : decode cX6_digest 64 = .ok (.istore_n 3, 1) := by decide +kernel
theorem dX6_digest_65 : decode cX6_digest 65 = .ok (.iload_n 3, 1) := by decide +kernel
theorem dX6_digest_66 : decode cX6_digest 66 = .ok (.iconst 3, 1) := by decide +kernel
theorem dX6_digest_67 : decode cX6_digest 67 = .ok (.if_icmp .ge 54, 3) := by decide +kernel
theorem dX6_digest_70 : decode cX6_digest 70 = .ok (.ldc2_w 203, 3) := by decide +kernel
theorem dX6_digest_73 : decode cX6_digest 73 = .ok (.lload_n 1, 1) := by decide +kernel
theorem dX6_digest_74 : decode cX6_digest 74 = .ok (.lmul, 1) := by decide +kernel
theorem dX6_digest_75 : decode cX6_digest 75 = .ok (.aload_n 0, 1) := by decide +kernel
theorem dX6_digest_76 : decode cX6_digest 76 = .ok (.iload_n 3, 1) := by decide +kernel
theorem dX6_digest_77 : decode cX6_digest 77 = .ok (.invokevirtual 142, 3) := by decide +kernel
theorem dX6_digest_80 : decode cX6_digest 80 = .ok (.ladd, 1) := by decide +kernel
theorem dX6_digest_81 : decode cX6_digest 81 = .ok (.lstore_n 1, 1) := by decide +kernel
theorem dX6_digest_82 : decode cX6_digest 82 = .ok (.iconst 0, 1) := by decide +kernel
theorem dX6_digest_83 : decode cX6_digest 83 = .ok (.istore 4, 2) := by decide +kernel
theorem dX6_digest_85 : decode cX6_digest 85 = .ok (.iload 4, 2) := by decide +kernel
theorem dX6_digest_87 : decode cX6_digest 87 = .ok (.iconst 4, 1) := by decide +kernel
theorem dX6_digest_88 : decode cX6_digest 88 = .ok (.if_icmp .ge 27, 3) := by decide +kernel
theorem dX6_digest_91 : decode cX6_digest 91 = .ok (.ldc2_w 203, 3) := by decide +kernel
theorem dX6_digest_94 : decode cX6_digest 94 = .ok (.lload_n 1, 1) := by decide +kernel
theorem dX6_digest_95 : decode cX6_digest 95 = .ok (.lmul, 1) := by decide +kernel
theorem dX6_digest_96 : decode cX6_digest 96 = .ok (.aload_n 0, 1) := by decide +kernel
theorem dX6_digest_97 : decode cX6_digest 97 = .ok (.getfield 15, 3) := by decide +kernel
theorem dX6_digest_100 : decode cX6_digest 100 = .ok (.iload_n 3, 1) := by decide +kernel
theorem dX6_digest_101 : decode cX6_digest 101 = .ok (.iload 4, 2) := by decide +kernel
theorem dX6_digest_103 : decode cX6_digest 103 = .ok (.invokevirtual 133, 3) := by decide +kernel
theorem dX6_digest_106 : decode cX6_digest 106 = .ok (.i2l, 1) := by decide +kernel
theorem dX6_digest_107 : decode cX6_digest 107 = .ok (.ladd, 1) := by decide +kernel
theorem dX6_digest_108 : decode cX6_digest 108 = .ok (.lstore_n 1, 1) := by decide +kernel
theorem dX6_digest_109 : decode cX6_digest 109 = .ok (.iinc 4 1, 3) := by decide +kernel
theorem dX6_digest_112 : decode cX6_digest 112 = .ok (.goto (-27), 3) := by decide +kernel
theorem dX6_digest_115 : decode cX6_digest 115 = .ok (.iinc 3 1, 3) := by decide +kernel
theorem dX6_digest_118 : decode cX6_digest 118 = .ok (.goto (-53), 3) := by decide +kernel
theorem dX6_digest_121 : decode cX6_digest 121 = .ok (.lload_n 1, 1) := by decide +kernel
theorem dX6_digest_122 : decode cX6_digest 122 = .ok (.lreturn, 1) := by decide +kernel
theorem dX6_within_0 : decode cX6_within 0 = .ok (.iload_n 0, 1) := by decide +kernel
theorem dX6_within_1 : decode cX6_within 1 = .ok (.iload_n 1, 1) := by decide +kernel
theorem dX6_within_2 : decode cX6_within 2 = .ok (.if_icmp .lt 12, 3) := by decide +kernel
theorem dX6_within_5 : decode cX6_within 5 = .ok (.iload_n 0, 1) := by decide +kernel
theorem dX6_within_6 : decode cX6_within 6 = .ok (.iload_n 2, 1) := by decide +kernel
theorem dX6_within_7 : decode cX6_within 7 = .ok (.if_icmp .gt 7, 3) := by decide +kernel
theorem dX6_within_10 : decode cX6_within 10 = .ok (.iconst 1, 1) := by decide +kernel
theorem dX6_within_11 : decode cX6_within 11 = .ok (.goto 4, 3) := by decide +kernel
theorem dX6_within_14 : decode cX6_within 14 = .ok (.iconst 0, 1) := by decide +kernel
theorem dX6_within_15 : decode cX6_within 15 = .ok (.ireturn, 1) := by decide +kernel
theorem dX6_isMaker_0 : decode cX6_isMaker 0 = .ok (.iload_n 0, 1) := by decide +kernel
theorem dX6_isMaker_1 : decode cX6_isMaker 1 = .ok (.iconst 0, 1) := by decide +kernel
theorem dX6_isMaker_2 : decode cX6_isMaker 2 = .ok (.iconst 2, 1) := by decide +kernel
theorem dX6_isMaker_3 : decode cX6_isMaker 3 = .ok (.invokestatic 86, 3) := by decide +kernel
theorem dX6_isMaker_6 : decode cX6_isMaker 6 = .ok (.ireturn, 1) := by decide +kernel
theorem dX6_isSlot_0 : decode cX6_isSlot 0 = .ok (.iload_n 0, 1) := by decide +kernel
theorem dX6_isSlot_1 : decode cX6_isSlot 1 = .ok (.iconst 0, 1) := by decide +kernel
theorem dX6_isSlot_2 : decode cX6_isSlot 2 = .ok (.iconst 3, 1) := by decide +kernel
theorem dX6_isSlot_3 : decode cX6_isSlot 3 = .ok (.invokestatic 86, 3) := by decide +kernel
theorem dX6_isSlot_6 : decode cX6_isSlot 6 = .ok (.ireturn, 1) := by decide +kernel
theorem dX6_isSet_0 : decode cX6_isSet 0 = .ok (.iload_n 0, 1) := by decide +kernel
theorem dX6_isSet_1 : decode cX6_isSet 1 = .ok (.iconst 0, 1) := by decide +kernel
theorem dX6_isSet_2 : decode cX6_isSet 2 = .ok (.bipush 15, 2) := by decide +kernel
theorem dX6_isSet_4 : decode cX6_isSet 4 = .ok (.invokestatic 86, 3) := by decide +kernel
theorem dX6_isSet_7 : decode cX6_isSet 7 = .ok (.ireturn, 1) := by decide +kernel
theorem dX6_holds_0 : decode cX6_holds 0 = .ok (.iload_n 0, 1) := by decide +kernel
theorem dX6_holds_1 : decode cX6_holds 1 = .ok (.iload_n 1, 1) := by decide +kernel
theorem dX6_holds_2 : decode cX6_holds 2 = .ok (.ishr, 1) := by decide +kernel
theorem dX6_holds_3 : decode cX6_holds 3 = .ok (.iconst 1, 1) := by decide +kernel
theorem dX6_holds_4 : decode cX6_holds 4 = .ok (.iand, 1) := by decide +kernel
theorem dX6_holds_5 : decode cX6_holds 5 = .ok (.iconst 1, 1) := by decide +kernel
theorem dX6_holds_6 : decode cX6_holds 6 = .ok (.if_icmp .ne 7, 3) := by decide +kernel
theorem dX6_holds_9 : decode cX6_holds 9 = .ok (.iconst 1, 1) := by decide +kernel
theorem dX6_holds_10 : decode cX6_holds 10 = .ok (.goto 4, 3) := by decide +kernel
theorem dX6_holds_13 : decode cX6_holds 13 = .ok (.iconst 0, 1) := by decide +kernel
theorem dX6_holds_14 : decode cX6_holds 14 = .ok (.ireturn, 1) := by decide +kernel
theorem dX6_lettersIn_0 : decode cX6_lettersIn 0 = .ok (.iconst 0, 1) := by decide +kernel
theorem dX6_lettersIn_1 : decode cX6_lettersIn 1 = .ok (.istore_n 1, 1) := by decide +kernel
theorem dX6_lettersIn_2 : decode cX6_lettersIn 2 = .ok (.iload_n 0, 1) := by decide +kernel
theorem dX6_lettersIn_3 : decode cX6_lettersIn 3 = .ok (.istore_n 2, 1) := by decide +kernel
theorem dX6_lettersIn_4 : decode cX6_lettersIn 4 = .ok (.iload_n 2, 1) := by decide +kernel
theorem dX6_lettersIn_5 : decode cX6_lettersIn 5 = .ok (.ifCond .le 35, 3) := by decide +kernel
theorem dX6_lettersIn_8 : decode cX6_lettersIn 8 = .ok (.iload_n 1, 1) := by decide +kernel
theorem dX6_lettersIn_9 : decode cX6_lettersIn 9 = .ok (.bipush 6, 2) := by decide +kernel
theorem dX6_lettersIn_11 : decode cX6_lettersIn 11 = .ok (.if_icmp .gt 29, 3) := by decide +kernel
theorem dX6_lettersIn_14 : decode cX6_lettersIn 14 = .ok (.iload_n 2, 1) := by decide +kernel
theorem dX6_lettersIn_15 : decode cX6_lettersIn 15 = .ok (.bipush 10, 2) := by decide +kernel
theorem dX6_lettersIn_17 : decode cX6_lettersIn 17 = .ok (.irem, 1) := by decide +kernel
theorem dX6_lettersIn_18 : decode cX6_lettersIn 18 = .ok (.iconst 1, 1) := by decide +kernel
theorem dX6_lettersIn_19 : decode cX6_lettersIn 19 = .ok (.bipush 8, 2) := by decide +kernel
theorem dX6_lettersIn_21 : decode cX6_lettersIn 21 = .ok (.invokestatic 86, 3) := by decide +kernel
theorem dX6_lettersIn_24 : decode cX6_lettersIn 24 = .ok (.ifCond .ne 5, 3) := by decide +kernel
theorem dX6_lettersIn_27 : decode cX6_lettersIn 27 = .ok (.iconst 0, 1) := by decide +kernel
theorem dX6_lettersIn_28 : decode cX6_lettersIn 28 = .ok (.ireturn, 1) := by decide +kernel
theorem dX6_lettersIn_29 : decode cX6_lettersIn 29 = .ok (.iinc 1 1, 3) := by decide +kernel
theorem dX6_lettersIn_32 : decode cX6_lettersIn 32 = .ok (.iload_n 2, 1) := by decide +kernel
theorem dX6_lettersIn_33 : decode cX6_lettersIn 33 = .ok (.bipush 10, 2) := by decide +kernel
theorem dX6_lettersIn_35 : decode cX6_lettersIn 35 = .ok (.idiv, 1) := by decide +kernel
theorem dX6_lettersIn_36 : decode cX6_lettersIn 36 = .ok (.istore_n 2, 1) := by decide +kernel
theorem dX6_lettersIn_37 : decode cX6_lettersIn 37 = .ok (.goto (-33), 3) := by decide +kernel
theorem dX6_lettersIn_40 : decode cX6_lettersIn 40 = .ok (.iload_n 1, 1) := by decide +kernel
theorem dX6_lettersIn_41 : decode cX6_lettersIn 41 = .ok (.bipush 6, 2) := by decide +kernel
theorem dX6_lettersIn_43 : decode cX6_lettersIn 43 = .ok (.if_icmp .gt 7, 3) := by decide +kernel
theorem dX6_lettersIn_46 : decode cX6_lettersIn 46 = .ok (.iload_n 1, 1) := by decide +kernel
theorem dX6_lettersIn_47 : decode cX6_lettersIn 47 = .ok (.goto 4, 3) := by decide +kernel
theorem dX6_lettersIn_50 : decode cX6_lettersIn 50 = .ok (.iconst 0, 1) := by decide +kernel
theorem dX6_lettersIn_51 : decode cX6_lettersIn 51 = .ok (.ireturn, 1) := by decide +kernel
theorem dX6_moraeIn_0 : decode cX6_moraeIn 0 = .ok (.iconst 0, 1) := by decide +kernel
theorem dX6_moraeIn_1 : decode cX6_moraeIn 1 = .ok (.istore_n 1, 1) := by decide +kernel
theorem dX6_moraeIn_2 : decode cX6_moraeIn 2 = .ok (.iload_n 0, 1) := by decide +kernel
theorem dX6_moraeIn_3 : decode cX6_moraeIn 3 = .ok (.istore_n 2, 1) := by decide +kernel
theorem dX6_moraeIn_4 : decode cX6_moraeIn 4 = .ok (.iload_n 2, 1) := by decide +kernel
theorem dX6_moraeIn_5 : decode cX6_moraeIn 5 = .ok (.ifCond .le 27, 3) := by decide +kernel
theorem dX6_moraeIn_8 : decode cX6_moraeIn 8 = .ok (.iload_n 1, 1) := by decide +kernel
theorem dX6_moraeIn_9 : decode cX6_moraeIn 9 = .ok (.iload_n 2, 1) := by decide +kernel
theorem dX6_moraeIn_10 : decode cX6_moraeIn 10 = .ok (.bipush 10, 2) := by decide +kernel
theorem dX6_moraeIn_12 : decode cX6_moraeIn 12 = .ok (.irem, 1) := by decide +kernel
theorem dX6_moraeIn_13 : decode cX6_moraeIn 13 = .ok (.iconst 5, 1) := by decide +kernel
theorem dX6_moraeIn_14 : decode cX6_moraeIn 14 = .ok (.if_icmp .lt 7, 3) := by decide +kernel
theorem dX6_moraeIn_17 : decode cX6_moraeIn 17 = .ok (.iconst 2, 1) := by decide +kernel
theorem dX6_moraeIn_18 : decode cX6_moraeIn 18 = .ok (.goto 4, 3) := by decide +kernel
theorem dX6_moraeIn_21 : decode cX6_moraeIn 21 = .ok (.iconst 1, 1) := by decide +kernel
theorem dX6_moraeIn_22 : decode cX6_moraeIn 22 = .ok (.iadd, 1) := by decide +kernel
theorem dX6_moraeIn_23 : decode cX6_moraeIn 23 = .ok (.istore_n 1, 1) := by decide +kernel
theorem dX6_moraeIn_24 : decode cX6_moraeIn 24 = .ok (.iload_n 2, 1) := by decide +kernel
theorem dX6_moraeIn_25 : decode cX6_moraeIn 25 = .ok (.bipush 10, 2) := by decide +kernel
theorem dX6_moraeIn_27 : decode cX6_moraeIn 27 = .ok (.idiv, 1) := by decide +kernel
theorem dX6_moraeIn_28 : decode cX6_moraeIn 28 = .ok (.istore_n 2, 1) := by decide +kernel
theorem dX6_moraeIn_29 : decode cX6_moraeIn 29 = .ok (.goto (-25), 3) := by decide +kernel
theorem dX6_moraeIn_32 : decode cX6_moraeIn 32 = .ok (.iload_n 1, 1) := by decide +kernel
theorem dX6_moraeIn_33 : decode cX6_moraeIn 33 = .ok (.ireturn, 1) := by decide +kernel
theorem dX6_partOf_0 : decode cX6_partOf 0 = .ok (.iload_n 2, 1) := by decide +kernel
theorem dX6_partOf_1 : decode cX6_partOf 1 = .ok (.iconst (-1), 1) := by decide +kernel
theorem dX6_partOf_2 : decode cX6_partOf 2 = .ok (.if_icmp .ne 5, 3) := by decide +kernel
theorem dX6_partOf_5 : decode cX6_partOf 5 = .ok (.iload_n 1, 1) := by decide +kernel
theorem dX6_partOf_6 : decode cX6_partOf 6 = .ok (.ireturn, 1) := by decide +kernel
theorem dX6_partOf_7 : decode cX6_partOf 7 = .ok (.iload_n 2, 1) := by decide +kernel
theorem dX6_partOf_8 : decode cX6_partOf 8 = .ok (.iconst 0, 1) := by decide +kernel
theorem dX6_partOf_9 : decode cX6_partOf 9 = .ok (.iload_n 1, 1) := by decide +kernel
theorem dX6_partOf_10 : decode cX6_partOf 10 = .ok (.iconst 1, 1) := by decide +kernel
theorem dX6_partOf_11 : decode cX6_partOf 11 = .ok (.isub, 1) := by decide +kernel
theorem dX6_partOf_12 : decode cX6_partOf 12 = .ok (.invokestatic 86, 3) := by decide +kernel
theorem dX6_partOf_15 : decode cX6_partOf 15 = .ok (.ifCond .eq 9, 3) := by decide +kernel
theorem dX6_partOf_18 : decode cX6_partOf 18 = .ok (.aload_n 0, 1) := by decide +kernel
theorem dX6_partOf_19 : decode cX6_partOf 19 = .ok (.iload_n 2, 1) := by decide +kernel
theorem dX6_partOf_20 : decode cX6_partOf 20 = .ok (.iaload, 1) := by decide +kernel
theorem dX6_partOf_21 : decode cX6_partOf 21 = .ok (.goto 5, 3) := by decide +kernel
theorem dX6_partOf_24 : decode cX6_partOf 24 = .ok (.bipush (-10), 2) := by decide +kernel
theorem dX6_partOf_26 : decode cX6_partOf 26 = .ok (.ireturn, 1) := by decide +kernel
theorem dX6_refusal_0 : decode cX6_refusal 0 = .ok (.iload_n 1, 1) := by decide +kernel
theorem dX6_refusal_1 : decode cX6_refusal 1 = .ok (.bipush (-2), 2) := by decide +kernel
theorem dX6_refusal_3 : decode cX6_refusal 3 = .ok (.if_icmp .ne 7, 3) := by decide +kernel
theorem dX6_refusal_6 : decode cX6_refusal 6 = .ok (.iconst 0, 1) := by decide +kernel
theorem dX6_refusal_7 : decode cX6_refusal 7 = .ok (.goto 24, 3) := by decide +kernel
theorem dX6_refusal_10 : decode cX6_refusal 10 = .ok (.iload_n 1, 1) := by decide +kernel
theorem dX6_refusal_11 : decode cX6_refusal 11 = .ok (.bipush (-3), 2) := by decide +kernel
theorem dX6_refusal_13 : decode cX6_refusal 13 = .ok (.if_icmp .ne 7, 3) := by decide +kernel
theorem dX6_refusal_16 : decode cX6_refusal 16 = .ok (.iconst 1, 1) := by decide +kernel
theorem dX6_refusal_17 : decode cX6_refusal 17 = .ok (.goto 14, 3) := by decide +kernel
theorem dX6_refusal_20 : decode cX6_refusal 20 = .ok (.iload_n 1, 1) := by decide +kernel
theorem dX6_refusal_21 : decode cX6_refusal 21 = .ok (.bipush (-4), 2) := by decide +kernel
theorem dX6_refusal_23 : decode cX6_refusal 23 = .ok (.if_icmp .ne 7, 3) := by decide +kernel
theorem dX6_refusal_26 : decode cX6_refusal 26 = .ok (.iconst 2, 1) := by decide +kernel
theorem dX6_refusal_27 : decode cX6_refusal 27 = .ok (.goto 4, 3) := by decide +kernel
theorem dX6_refusal_30 : decode cX6_refusal 30 = .ok (.iconst 3, 1) := by decide +kernel
theorem dX6_refusal_31 : decode cX6_refusal 31 = .ok (.istore_n 2, 1) := by decide +kernel
theorem dX6_refusal_32 : decode cX6_refusal 32 = .ok (.aload_n 0, 1) := by decide +kernel
theorem dX6_refusal_33 : decode cX6_refusal 33 = .ok (.getfield 55, 3) := by decide +kernel
theorem dX6_refusal_36 : decode cX6_refusal 36 = .ok (.iload_n 2, 1) := by decide +kernel
theorem dX6_refusal_37 : decode cX6_refusal 37 = .ok (.dup2, 1) := by decide +kernel
theorem dX6_refusal_38 : decode cX6_refusal 38 = .ok (.iaload, 1) := by decide +kernel
theorem dX6_refusal_39 : decode cX6_refusal 39 = .ok (.iconst 1, 1) := by decide +kernel
theorem dX6_refusal_40 : decode cX6_refusal 40 = .ok (.iadd, 1) := by decide +kernel
theorem dX6_refusal_41 : decode cX6_refusal 41 = .ok (.iastore, 1) := by decide +kernel
theorem dX6_refusal_42 : decode cX6_refusal 42 = .ok (.iload_n 1, 1) := by decide +kernel
theorem dX6_refusal_43 : decode cX6_refusal 43 = .ok (.ireturn, 1) := by decide +kernel
theorem dX6_settled_0 : decode cX6_settled 0 = .ok (.iload_n 1, 1) := by decide +kernel
theorem dX6_settled_1 : decode cX6_settled 1 = .ok (.ifCond .ge 9, 3) := by decide +kernel
theorem dX6_settled_4 : decode cX6_settled 4 = .ok (.aload_n 0, 1) := by decide +kernel
theorem dX6_settled_5 : decode cX6_settled 5 = .ok (.iload_n 1, 1) := by decide +kernel
theorem dX6_settled_6 : decode cX6_settled 6 = .ok (.invokevirtual 90, 3) := by decide +kernel
theorem dX6_settled_9 : decode cX6_settled 9 = .ok (.ireturn, 1) := by decide +kernel
theorem dX6_settled_10 : decode cX6_settled 10 = .ok (.aload_n 0, 1) := by decide +kernel
theorem dX6_settled_11 : decode cX6_settled 11 = .ok (.getfield 44, 3) := by decide +kernel
theorem dX6_settled_14 : decode cX6_settled 14 = .ok (.invokevirtual 189, 3) := by decide +kernel
theorem dX6_settled_17 : decode cX6_settled 17 = .ok (.iload_n 1, 1) := by decide +kernel
theorem dX6_settled_18 : decode cX6_settled 18 = .ok (.ireturn, 1) := by decide +kernel
theorem dX6_countCuts_0 : decode cX6_countCuts 0 = .ok (.aload_n 0, 1) := by decide +kernel
theorem dX6_countCuts_1 : decode cX6_countCuts 1 = .ok (.getfield 21, 3) := by decide +kernel
theorem dX6_countCuts_4 : decode cX6_countCuts 4 = .ok (.invokevirtual 209, 3) := by decide +kernel
theorem dX6_countCuts_7 : decode cX6_countCuts 7 = .ok (.aload_n 0, 1) := by decide +kernel
theorem dX6_countCuts_8 : decode cX6_countCuts 8 = .ok (.getfield 30, 3) := by decide +kernel
theorem dX6_countCuts_11 : decode cX6_countCuts 11 = .ok (.iconst (-1), 1) := by decide +kernel
theorem dX6_countCuts_12 : decode cX6_countCuts 12 = .ok (.invokevirtual 212, 3) := by decide +kernel
theorem dX6_countCuts_15 : decode cX6_countCuts 15 = .ok (.lreturn, 1) := by decide +kernel
theorem dX6_countMade_0 : decode cX6_countMade 0 = .ok (.aload_n 0, 1) := by decide +kernel
theorem dX6_countMade_1 : decode cX6_countMade 1 = .ok (.getfield 21, 3) := by decide +kernel
theorem dX6_countMade_4 : decode cX6_countMade 4 = .ok (.invokevirtual 215, 3) := by decide +kernel
theorem dX6_countMade_7 : decode cX6_countMade 7 = .ok (.aload_n 0, 1) := by decide +kernel
theorem dX6_countMade_8 : decode cX6_countMade 8 = .ok (.getfield 30, 3) := by decide +kernel
theorem dX6_countMade_11 : decode cX6_countMade 11 = .ok (.iload_n 1, 1) := by decide +kernel
theorem dX6_countMade_12 : decode cX6_countMade 12 = .ok (.invokevirtual 212, 3) := by decide +kernel
theorem dX6_countMade_15 : decode cX6_countMade 15 = .ok (.lreturn, 1) := by decide +kernel
theorem dX6_singBest_0 : decode cX6_singBest 0 = .ok (.iload_n 1, 1) := by decide +kernel
theorem dX6_singBest_1 : decode cX6_singBest 1 = .ok (.invokestatic 107, 3) := by decide +kernel
theorem dX6_singBest_4 : decode cX6_singBest 4 = .ok (.ifCond .ne 6, 3) := by decide +kernel
theorem dX6_singBest_7 : decode cX6_singBest 7 = .ok (.bipush (-2), 2) := by decide +kernel
theorem dX6_singBest_9 : decode cX6_singBest 9 = .ok (.ireturn, 1) := by decide +kernel
theorem dX6_singBest_10 : decode cX6_singBest 10 = .ok (.aload_n 0, 1) := by decide +kernel
theorem dX6_singBest_11 : decode cX6_singBest 11 = .ok (.getfield 37, 3) := by decide +kernel
theorem dX6_singBest_14 : decode cX6_singBest 14 = .ok (.iload_n 1, 1) := by decide +kernel
theorem dX6_singBest_15 : decode cX6_singBest 15 = .ok (.invokevirtual 110, 3) := by decide +kernel
theorem dX6_singBest_18 : decode cX6_singBest 18 = .ok (.ifCond .ne 6, 3) := by decide +kernel
theorem dX6_singBest_21 : decode cX6_singBest 21 = .ok (.bipush (-3), 2) := by decide +kernel
theorem dX6_singBest_23 : decode cX6_singBest 23 = .ok (.ireturn, 1) := by decide +kernel
theorem dX6_singBest_24 : decode cX6_singBest 24 = .ok (.iconst 0, 1) := by decide +kernel
theorem dX6_singBest_25 : decode cX6_singBest 25 = .ok (.istore_n 2, 1) := by decide +kernel
theorem dX6_singBest_26 : decode cX6_singBest 26 = .ok (.iload_n 2, 1) := by decide +kernel
theorem dX6_singBest_27 : decode cX6_singBest 27 = .ok (.aload_n 0, 1) := by decide +kernel
theorem dX6_singBest_28 : decode cX6_singBest 28 = .ok (.getfield 37, 3) := by decide +kernel
theorem dX6_singBest_31 : decode cX6_singBest 31 = .ok (.getfield 119, 3) := by decide +kernel
theorem dX6_singBest_34 : decode cX6_singBest 34 = .ok (.if_icmp .ge 26, 3) := by decide +kernel
theorem dX6_singBest_37 : decode cX6_singBest 37 = .ok (.aload_n 0, 1) := by decide +kernel
theorem dX6_singBest_38 : decode cX6_singBest 38 = .ok (.getfield 15, 3) := by decide +kernel
theorem dX6_singBest_41 : decode cX6_singBest 41 = .ok (.iload_n 1, 1) := by decide +kernel
theorem dX6_singBest_42 : decode cX6_singBest 42 = .ok (.aload_n 0, 1) := by decide +kernel
theorem dX6_singBest_43 : decode cX6_singBest 43 = .ok (.getfield 37, 3) := by decide +kernel
theorem dX6_singBest_46 : decode cX6_singBest 46 = .ok (.getfield 116, 3) := by decide +kernel
theorem dX6_singBest_49 : decode cX6_singBest 49 = .ok (.iload_n 2, 1) := by decide +kernel
theorem dX6_singBest_50 : decode cX6_singBest 50 = .ok (.iaload, 1) := by decide +kernel
theorem dX6_singBest_51 : decode cX6_singBest 51 = .ok (.invokevirtual 218, 3) := by decide +kernel
theorem dX6_singBest_54 : decode cX6_singBest 54 = .ok (.iinc 2 1, 3) := by decide +kernel
theorem dX6_singBest_57 : decode cX6_singBest 57 = .ok (.goto (-31), 3) := by decide +kernel
theorem dX6_singBest_60 : decode cX6_singBest 60 = .ok (.aload_n 0, 1) := by decide +kernel
theorem dX6_singBest_61 : decode cX6_singBest 61 = .ok (.getfield 37, 3) := by decide +kernel
theorem dX6_singBest_64 : decode cX6_singBest 64 = .ok (.getfield 119, 3) := by decide +kernel
theorem dX6_singBest_67 : decode cX6_singBest 67 = .ok (.ireturn, 1) := by decide +kernel
theorem dX6_doOrder_0 : decode cX6_doOrder 0 = .ok (.aload_n 0, 1) := by decide +kernel
theorem dX6_doOrder_1 : decode cX6_doOrder 1 = .ok (.getfield 51, 3) := by decide +kernel
theorem dX6_doOrder_4 : decode cX6_doOrder 4 = .ok (.getfield 222, 3) := by decide +kernel
theorem dX6_doOrder_7 : decode cX6_doOrder 7 = .ok (.iconst 0, 1) := by decide +kernel
theorem dX6_doOrder_8 : decode cX6_doOrder 8 = .ok (.iaload, 1) := by decide +kernel
theorem dX6_doOrder_9 : decode cX6_doOrder 9 = .ok (.istore_n 1, 1) := by decide +kernel
theorem dX6_doOrder_10 : decode cX6_doOrder 10 = .ok (.aload_n 0, 1) := by decide +kernel
theorem dX6_doOrder_11 : decode cX6_doOrder 11 = .ok (.getfield 51, 3) := by decide +kernel
theorem dX6_doOrder_14 : decode cX6_doOrder 14 = .ok (.getfield 222, 3) := by decide +kernel
theorem dX6_doOrder_17 : decode cX6_doOrder 17 = .ok (.iconst 1, 1) := by decide +kernel
theorem dX6_doOrder_18 : decode cX6_doOrder 18 = .ok (.iaload, 1) := by decide +kernel
theorem dX6_doOrder_19 : decode cX6_doOrder 19 = .ok (.istore_n 2, 1) := by decide +kernel
theorem dX6_doOrder_20 : decode cX6_doOrder 20 = .ok (.aload_n 0, 1) := by decide +kernel
theorem dX6_doOrder_21 : decode cX6_doOrder 21 = .ok (.getfield 51, 3) := by decide +kernel
theorem dX6_doOrder_24 : decode cX6_doOrder 24 = .ok (.getfield 225, 3) := by decide +kernel
theorem dX6_doOrder_27 : decode cX6_doOrder 27 = .ok (.tableswitch 205 98 120 #[143, 205, 205, 152, 105, 205, 205, 205, 205, 180, 121, 205, 205, 205, 205, 205, 205, 190, 171, 205, 205, 161, 196], 105) := by decide +kernel
theorem dX6_doOrder_132 : decode cX6_doOrder 132 = .ok (.aload_n 0, 1) := by decide +kernel
theorem dX6_doOrder_133 : decode cX6_doOrder 133 = .ok (.getfield 15, 3) := by decide +kernel
theorem dX6_doOrder_136 : decode cX6_doOrder 136 = .ok (.iload_n 1, 1) := by decide +kernel
theorem dX6_doOrder_137 : decode cX6_doOrder 137 = .ok (.aload_n 0, 1) := by decide +kernel
theorem dX6_doOrder_138 : decode cX6_doOrder 138 = .ok (.getfield 51, 3) := by decide +kernel
theorem dX6_doOrder_141 : decode cX6_doOrder 141 = .ok (.invokevirtual 228, 3) := by decide +kernel
theorem dX6_doOrder_144 : decode cX6_doOrder 144 = .ok (.invokevirtual 62, 3) := by decide +kernel
theorem dX6_doOrder_147 : decode cX6_doOrder 147 = .ok (.ireturn, 1) := by decide +kernel
theorem dX6_doOrder_148 : decode cX6_doOrder 148 = .ok (.aload_n 0, 1) := by decide +kernel
theorem dX6_doOrder_149 : decode cX6_doOrder 149 = .ok (.getfield 15, 3) := by decide +kernel
theorem dX6_doOrder_152 : decode cX6_doOrder 152 = .ok (.aload_n 0, 1) := by decide +kernel
theorem dX6_doOrder_153 : decode cX6_doOrder 153 = .ok (.getfield 51, 3) := by decide +kernel
theorem dX6_doOrder_156 : decode cX6_doOrder 156 = .ok (.getfield 231, 3) := by decide +kernel
theorem dX6_doOrder_159 : decode cX6_doOrder 159 = .ok (.aload_n 0, 1) := by decide +kernel
theorem dX6_doOrder_160 : decode cX6_doOrder 160 = .ok (.getfield 51, 3) := by decide +kernel
theorem dX6_doOrder_163 : decode cX6_doOrder 163 = .ok (.getfield 234, 3) := by decide +kernel
theorem dX6_doOrder_166 : decode cX6_doOrder 166 = .ok (.invokevirtual 237, 3) := by decide +kernel
theorem dX6_doOrder_169 : decode cX6_doOrder 169 = .ok (.ireturn, 1) := by decide +kernel
theorem dX6_doOrder_170 : decode cX6_doOrder 170 = .ok (.aload_n 0, 1) := by decide +kernel
theorem dX6_doOrder_171 : decode cX6_doOrder 171 = .ok (.getfield 15, 3) := by decide +kernel
theorem dX6_doOrder_174 : decode cX6_doOrder 174 = .ok (.iload_n 1, 1) := by decide +kernel
theorem dX6_doOrder_175 : decode cX6_doOrder 175 = .ok (.invokevirtual 73, 3) := by decide +kernel
theorem dX6_doOrder_178 : decode cX6_doOrder 178 = .ok (.ireturn, 1) := by decide +kernel
theorem dX6_doOrder_179 : decode cX6_doOrder 179 = .ok (.aload_n 0, 1) := by decide +kernel
theorem dX6_doOrder_180 : decode cX6_doOrder 180 = .ok (.getfield 15, 3) := by decide +kernel
theorem dX6_doOrder_183 : decode cX6_doOrder 183 = .ok (.iload_n 1, 1) := by decide +kernel
theorem dX6_doOrder_184 : decode cX6_doOrder 184 = .ok (.invokevirtual 76, 3) := by decide +kernel
theorem dX6_doOrder_187 : decode cX6_doOrder 187 = .ok (.ireturn, 1) := by decide +kernel
theorem dX6_doOrder_188 : decode cX6_doOrder 188 = .ok (.aload_n 0, 1) := by decide +kernel
theorem dX6_doOrder_189 : decode cX6_doOrder 189 = .ok (.getfield 15, 3) := by decide +kernel
theorem dX6_doOrder_192 : decode cX6_doOrder 192 = .ok (.iload_n 1, 1) := by decide +kernel
theorem dX6_doOrder_193 : decode cX6_doOrder 193 = .ok (.iload_n 2, 1) := by decide +kernel
theorem dX6_doOrder_194 : decode cX6_doOrder 194 = .ok (.invokevirtual 79, 3) := by decide +kernel
theorem dX6_doOrder_197 : decode cX6_doOrder 197 = .ok (.ireturn, 1) := by decide +kernel
theorem dX6_doOrder_198 : decode cX6_doOrder 198 = .ok (.aload_n 0, 1) := by decide +kernel
theorem dX6_doOrder_199 : decode cX6_doOrder 199 = .ok (.getfield 15, 3) := by decide +kernel
theorem dX6_doOrder_202 : decode cX6_doOrder 202 = .ok (.iload_n 1, 1) := by decide +kernel
theorem dX6_doOrder_203 : decode cX6_doOrder 203 = .ok (.invokevirtual 136, 3) := by decide +kernel
theorem dX6_doOrder_206 : decode cX6_doOrder 206 = .ok (.ireturn, 1) := by decide +kernel
theorem dX6_doOrder_207 : decode cX6_doOrder 207 = .ok (.aload_n 0, 1) := by decide +kernel
theorem dX6_doOrder_208 : decode cX6_doOrder 208 = .ok (.getfield 15, 3) := by decide +kernel
theorem dX6_doOrder_211 : decode cX6_doOrder 211 = .ok (.iload_n 1, 1) := by decide +kernel
theorem dX6_doOrder_212 : decode cX6_doOrder 212 = .ok (.iload_n 2, 1) := by decide +kernel
theorem dX6_doOrder_213 : decode cX6_doOrder 213 = .ok (.invokevirtual 139, 3) := by decide +kernel
theorem dX6_doOrder_216 : decode cX6_doOrder 216 = .ok (.ireturn, 1) := by decide +kernel
theorem dX6_doOrder_217 : decode cX6_doOrder 217 = .ok (.aload_n 0, 1) := by decide +kernel
theorem dX6_doOrder_218 : decode cX6_doOrder 218 = .ok (.iload_n 1, 1) := by decide +kernel
theorem dX6_doOrder_219 : decode cX6_doOrder 219 = .ok (.invokevirtual 127, 3) := by decide +kernel
theorem dX6_doOrder_222 : decode cX6_doOrder 222 = .ok (.ireturn, 1) := by decide +kernel
theorem dX6_doOrder_223 : decode cX6_doOrder 223 = .ok (.aload_n 0, 1) := by decide +kernel
theorem dX6_doOrder_224 : decode cX6_doOrder 224 = .ok (.getfield 15, 3) := by decide +kernel
theorem dX6_doOrder_227 : decode cX6_doOrder 227 = .ok (.iload_n 1, 1) := by decide +kernel
theorem dX6_doOrder_228 : decode cX6_doOrder 228 = .ok (.invokevirtual 70, 3) := by decide +kernel
theorem dX6_doOrder_231 : decode cX6_doOrder 231 = .ok (.ireturn, 1) := by decide +kernel
theorem dX6_doOrder_232 : decode cX6_doOrder 232 = .ok (.bipush (-2), 2) := by decide +kernel
theorem dX6_doOrder_234 : decode cX6_doOrder 234 = .ok (.ireturn, 1) := by decide +kernel
theorem dX6_factTold_0 : decode cX6_factTold 0 = .ok (.iload_n 1, 1) := by decide +kernel
theorem dX6_factTold_1 : decode cX6_factTold 1 = .ok (.iconst 0, 1) := by decide +kernel
theorem dX6_factTold_2 : decode cX6_factTold 2 = .ok (.aload_n 0, 1) := by decide +kernel
theorem dX6_factTold_3 : decode cX6_factTold 3 = .ok (.getfield 55, 3) := by decide +kernel
theorem dX6_factTold_6 : decode cX6_factTold 6 = .ok (.arraylength, 1) := by decide +kernel
theorem dX6_factTold_7 : decode cX6_factTold 7 = .ok (.iconst 1, 1) := by decide +kernel
theorem dX6_factTold_8 : decode cX6_factTold 8 = .ok (.isub, 1) := by decide +kernel
theorem dX6_factTold_9 : decode cX6_factTold 9 = .ok (.invokestatic 86, 3) := by decide +kernel
theorem dX6_factTold_12 : decode cX6_factTold 12 = .ok (.ifCond .eq 10, 3) := by decide +kernel
theorem dX6_factTold_15 : decode cX6_factTold 15 = .ok (.aload_n 0, 1) := by decide +kernel
theorem dX6_factTold_16 : decode cX6_factTold 16 = .ok (.getfield 55, 3) := by decide +kernel
theorem dX6_factTold_19 : decode cX6_factTold 19 = .ok (.iload_n 1, 1) := by decide +kernel
theorem dX6_factTold_20 : decode cX6_factTold 20 = .ok (.iaload, 1) := by decide +kernel
theorem dX6_factTold_21 : decode cX6_factTold 21 = .ok (.ireturn, 1) := by decide +kernel
theorem dX6_factTold_22 : decode cX6_factTold 22 = .ok (.iload_n 1, 1) := by decide +kernel
theorem dX6_factTold_23 : decode cX6_factTold 23 = .ok (.tableswitch 113 4 14 #[57, 65, 73, 81, 89, 97, 113, 113, 113, 113, 105], 57) := by decide +kernel
theorem dX6_factTold_80 : decode cX6_factTold 80 = .ok (.aload_n 0, 1) := by decide +kernel
theorem dX6_factTold_81 : decode cX6_factTold 81 = .ok (.getfield 51, 3) := by decide +kernel
theorem dX6_factTold_84 : decode cX6_factTold 84 = .ok (.getfield 241, 3) := by decide +kernel
theorem dX6_factTold_87 : decode cX6_factTold 87 = .ok (.ireturn, 1) := by decide +kernel
theorem dX6_factTold_88 : decode cX6_factTold 88 = .ok (.aload_n 0, 1) := by decide +kernel
theorem dX6_factTold_89 : decode cX6_factTold 89 = .ok (.getfield 15, 3) := by decide +kernel
theorem dX6_factTold_92 : decode cX6_factTold 92 = .ok (.getfield 244, 3) := by decide +kernel
theorem dX6_factTold_95 : decode cX6_factTold 95 = .ok (.ireturn, 1) := by decide +kernel
theorem dX6_factTold_96 : decode cX6_factTold 96 = .ok (.aload_n 0, 1) := by decide +kernel
theorem dX6_factTold_97 : decode cX6_factTold 97 = .ok (.getfield 15, 3) := by decide +kernel
theorem dX6_factTold_100 : decode cX6_factTold 100 = .ok (.getfield 247, 3) := by decide +kernel
theorem dX6_factTold_103 : decode cX6_factTold 103 = .ok (.ireturn, 1) := by decide +kernel
theorem dX6_factTold_104 : decode cX6_factTold 104 = .ok (.aload_n 0, 1) := by decide +kernel
theorem dX6_factTold_105 : decode cX6_factTold 105 = .ok (.getfield 15, 3) := by decide +kernel
theorem dX6_factTold_108 : decode cX6_factTold 108 = .ok (.getfield 250, 3) := by decide +kernel
theorem dX6_factTold_111 : decode cX6_factTold 111 = .ok (.ireturn, 1) := by decide +kernel
theorem dX6_factTold_112 : decode cX6_factTold 112 = .ok (.aload_n 0, 1) := by decide +kernel
theorem dX6_factTold_113 : decode cX6_factTold 113 = .ok (.getfield 15, 3) := by decide +kernel
theorem dX6_factTold_116 : decode cX6_factTold 116 = .ok (.getfield 253, 3) := by decide +kernel
theorem dX6_factTold_119 : decode cX6_factTold 119 = .ok (.ireturn, 1) := by decide +kernel
theorem dX6_factTold_120 : decode cX6_factTold 120 = .ok (.aload_n 0, 1) := by decide +kernel
theorem dX6_factTold_121 : decode cX6_factTold 121 = .ok (.getfield 15, 3) := by decide +kernel
theorem dX6_factTold_124 : decode cX6_factTold 124 = .ok (.getfield 256, 3) := by decide +kernel
theorem dX6_factTold_127 : decode cX6_factTold 127 = .ok (.ireturn, 1) := by decide +kernel
theorem dX6_factTold_128 : decode cX6_factTold 128 = .ok (.aload_n 0, 1) := by decide +kernel
theorem dX6_factTold_129 : decode cX6_factTold 129 = .ok (.getfield 44, 3) := by decide +kernel
theorem dX6_factTold_132 : decode cX6_factTold 132 = .ok (.getfield 192, 3) := by decide +kernel
theorem dX6_factTold_135 : decode cX6_factTold 135 = .ok (.ireturn, 1) := by decide +kernel
theorem dX6_factTold_136 : decode cX6_factTold 136 = .ok (.aload_n 0, 1) := by decide +kernel
theorem dX6_factTold_137 : decode cX6_factTold 137 = .ok (.getfield 15, 3) := by decide +kernel
theorem dX6_factTold_140 : decode cX6_factTold 140 = .ok (.iconst 1, 1) := by decide +kernel
theorem dX6_factTold_141 : decode cX6_factTold 141 = .ok (.iload_n 1, 1) := by decide +kernel
theorem dX6_factTold_142 : decode cX6_factTold 142 = .ok (.bipush 10, 2) := by decide +kernel
theorem dX6_factTold_144 : decode cX6_factTold 144 = .ok (.isub, 1) := by decide +kernel
theorem dX6_factTold_145 : decode cX6_factTold 145 = .ok (.invokevirtual 259, 3) := by decide +kernel
theorem dX6_factTold_148 : decode cX6_factTold 148 = .ok (.ireturn, 1) := by decide +kernel
end
section
theorem dX7_init_0 : decode cX7_init 0 = .ok (.aload_n 0, 1) := by decide +kernel
theorem dX7_init_1 : decode cX7_init 1 = .ok (.invokespecial 1, 3) := by decide +kernel
theorem dX7_init_4 : decode cX7_init 4 = .ok (.aload_n 0, 1) := by decide +kernel
theorem dX7_init_5 : decode cX7_init 5 = .ok (.sipush 148, 3) := by decide +kernel
theorem dX7_init_8 : decode cX7_init 8 = .ok (.newarray .int, 2) := by decide +kernel
theorem dX7_init_10 : decode cX7_init 10 = .ok (.putfield 7, 3) := by decide +kernel
theorem dX7_init_13 : decode cX7_init 13 = .ok (.aload_n 0, 1) := by decide +kernel
theorem dX7_init_14 : decode cX7_init 14 = .ok (.sipush 148, 3) := by decide +kernel
theorem dX7_init_17 : decode cX7_init 17 = .ok (.newarray .int, 2) := by decide +kernel
theorem dX7_init_19 : decode cX7_init 19 = .ok (.putfield 13, 3) := by decide +kernel
theorem dX7_init_22 : decode cX7_init 22 = .ok (.aload_n 0, 1) := by decide +kernel
theorem dX7_init_23 : decode cX7_init 23 = .ok (.sipush 740, 3) := by decide +kernel
theorem dX7_init_26 : decode cX7_init 26 = .ok (.newarray .int, 2) := by decide +kernel
theorem dX7_init_28 : decode cX7_init 28 = .ok (.putfield 16, 3) := by decide +kernel
theorem dX7_init_31 : decode cX7_init 31 = .ok (.aload_n 0, 1) := by decide +kernel
theorem dX7_init_32 : decode cX7_init 32 = .ok (.iconst 4, 1) := by decide +kernel
theorem dX7_init_33 : decode cX7_init 33 = .ok (.newarray .int, 2) := by decide +kernel
theorem dX7_init_35 : decode cX7_init 35 = .ok (.putfield 19, 3) := by decide +kernel
theorem dX7_init_38 : decode cX7_init 38 = .ok (.aload_n 0, 1) := by decide +kernel
theorem dX7_init_39 : decode cX7_init 39 = .ok (.sipush 150, 3) := by decide +kernel
theorem dX7_init_42 : decode cX7_init 42 = .ok (.newarray .int, 2) := by decide +kernel
theorem dX7_init_44 : decode cX7_init 44 = .ok (.putfield 22, 3) := by decide +kernel
theorem dX7_init_47 : decode cX7_init 47 = .ok (.aload_n 0, 1) := by decide +kernel
theorem dX7_init_48 : decode cX7_init 48 = .ok (.sipush 164, 3) := by decide +kernel
theorem dX7_init_51 : decode cX7_init 51 = .ok (.newarray .long, 2) := by decide +kernel
theorem dX7_init_53 : decode cX7_init 53 = .ok (.putfield 25, 3) := by decide +kernel
theorem dX7_init_56 : decode cX7_init 56 = .ok (.aload_n 0, 1) := by decide +kernel
theorem dX7_init_57 : decode cX7_init 57 = .ok (.bipush 40, 2) := by decide +kernel
theorem dX7_init_59 : decode cX7_init 59 = .ok (.newarray .int, 2) := by decide +kernel
theorem dX7_init_61 : decode cX7_init 61 = .ok (.putfield 29, 3) := by decide +kernel
theorem dX7_init_64 : decode cX7_init 64 = .ok (.aload_n 0, 1) := by decide +kernel
theorem dX7_init_65 : decode cX7_init 65 = .ok (.sipush 164, 3) := by decide +kernel
theorem dX7_init_68 : decode cX7_init 68 = .ok (.newarray .int, 2) := by decide +kernel
theorem dX7_init_70 : decode cX7_init 70 = .ok (.putfield 32, 3) := by decide +kernel
theorem dX7_init_73 : decode cX7_init 73 = .ok (.aload_n 0, 1) := by decide +kernel
theorem dX7_init_74 : decode cX7_init 74 = .ok (.sipush 164, 3) := by decide +kernel
theorem dX7_init_77 : decode cX7_init 77 = .ok (.newarray .int, 2) := by decide +kernel
theorem dX7_init_79 : decode cX7_init 79 = .ok (.putfield 35, 3) := by decide +kernel
theorem dX7_init_82 : decode cX7_init 82 = .ok (.aload_n 0, 1) := by decide +kernel
theorem dX7_init_83 : decode cX7_init 83 = .ok (.sipush 164, 3) := by decide +kernel
theorem dX7_init_86 : decode cX7_init 86 = .ok (.newarray .int, 2) := by decide +kernel
theorem dX7_init_88 : decode cX7_init 88 = .ok (.putfield 38, 3) := by decide +kernel
theorem dX7_init_91 : decode cX7_init 91 = .ok (.aload_n 0, 1) := by decide +kernel
theorem dX7_init_92 : decode cX7_init 92 = .ok (.bipush 76, 2) := by decide +kernel
theorem dX7_init_94 : decode cX7_init 94 = .ok (.newarray .int, 2) := by decide +kernel
theorem dX7_init_96 : decode cX7_init 96 = .ok (.putfield 41, 3) := by decide +kernel
theorem dX7_init_99 : decode cX7_init 99 = .ok (.aload_n 0, 1) := by decide +kernel
theorem dX7_init_100 : decode cX7_init 100 = .ok (.sipush 152, 3) := by decide +kernel
theorem dX7_init_103 : decode cX7_init 103 = .ok (.newarray .int, 2) := by decide +kernel
theorem dX7_init_105 : decode cX7_init 105 = .ok (.putfield 44, 3) := by decide +kernel
theorem dX7_init_108 : decode cX7_init 108 = .ok (.aload_n 0, 1) := by decide +kernel
theorem dX7_init_109 : decode cX7_init 109 = .ok (.getfield 7, 3) := by decide +kernel
theorem dX7_init_112 : decode cX7_init 112 = .ok (.iconst 2, 1) := by decide +kernel
theorem dX7_init_113 : decode cX7_init 113 = .ok (.bipush 12, 2) := by decide +kernel
theorem dX7_init_115 : decode cX7_init 115 = .ok (.iastore, 1) := by decide +kernel
theorem dX7_init_116 : decode cX7_init 116 = .ok (.iconst 3, 1) := by decide +kernel
theorem dX7_init_117 : decode cX7_init 117 = .ok (.istore_n 1, 1) := by decide +kernel
theorem dX7_init_118 : decode cX7_init 118 = .ok (.iload_n 1, 1) := by decide +kernel
theorem dX7_init_119 : decode cX7_init 119 = .ok (.bipush 9, 2) := by decide +kernel
theorem dX7_init_121 : decode cX7_init 121 = .ok (.if_icmp .ge 17, 3) := by decide +kernel
theorem dX7_init_124 : decode cX7_init 124 = .ok (.aload_n 0, 1) := by decide +kernel
theorem dX7_init_125 : decode cX7_init 125 = .ok (.getfield 7, 3) := by decide +kernel
theorem dX7_init_128 : decode cX7_init 128 = .ok (.iload_n 1, 1) := by decide +kernel
theorem dX7_init_129 : decode cX7_init 129 = .ok (.bipush 15, 2) := by decide +kernel
theorem dX7_init_131 : decode cX7_init 131 = .ok (.iastore, 1) := by decide +kernel
theorem dX7_init_132 : decode cX7_init 132 = .ok (.iinc 1 1, 3) := by decide +kernel
theorem dX7_init_135 : decode cX7_init 135 = .ok (.goto (-17), 3) := by decide +kernel
theorem dX7_init_138 : decode cX7_init 138 = .ok (.return_, 1) := by decide +kernel
theorem dX7_bad_0 : decode cX7_bad 0 = .ok (.aload_n 0, 1) := by decide +kernel
theorem dX7_bad_1 : decode cX7_bad 1 = .ok (.getfield 19, 3) := by decide +kernel
theorem dX7_bad_4 : decode cX7_bad 4 = .ok (.iconst 0, 1) := by decide +kernel
theorem dX7_bad_5 : decode cX7_bad 5 = .ok (.dup2, 1) := by decide +kernel
theorem dX7_bad_6 : decode cX7_bad 6 = .ok (.iaload, 1) := by decide +kernel
theorem dX7_bad_7 : decode cX7_bad 7 = .ok (.iconst 1, 1) := by decide +kernel
theorem dX7_bad_8 : decode cX7_bad 8 = .ok (.iadd, 1) := by decide +kernel
theorem dX7_bad_9 : decode cX7_bad 9 = .ok (.iastore, 1) := by decide +kernel
theorem dX7_bad_10 : decode cX7_bad 10 = .ok (.bipush (-2), 2) := by decide +kernel
theorem dX7_bad_12 : decode cX7_bad 12 = .ok (.ireturn, 1) := by decide +kernel
theorem dX7_no_0 : decode cX7_no 0 = .ok (.aload_n 0, 1) := by decide +kernel
theorem dX7_no_1 : decode cX7_no 1 = .ok (.getfield 19, 3) := by decide +kernel
theorem dX7_no_4 : decode cX7_no 4 = .ok (.iconst 1, 1) := by decide +kernel
theorem dX7_no_5 : decode cX7_no 5 = .ok (.dup2, 1) := by decide +kernel
theorem dX7_no_6 : decode cX7_no 6 = .ok (.iaload, 1) := by decide +kernel
theorem dX7_no_7 : decode cX7_no 7 = .ok (.iconst 1, 1) := by decide +kernel
theorem dX7_no_8 : decode cX7_no 8 = .ok (.iadd, 1) := by decide +kernel
theorem dX7_no_9 : decode cX7_no 9 = .ok (.iastore, 1) := by decide +kernel
theorem dX7_no_10 : decode cX7_no 10 = .ok (.bipush (-3), 2) := by decide +kernel
theorem dX7_no_12 : decode cX7_no 12 = .ok (.ireturn, 1) := by decide +kernel
theorem dX7_full_0 : decode cX7_full 0 = .ok (.aload_n 0, 1) := by decide +kernel
theorem dX7_full_1 : decode cX7_full 1 = .ok (.getfield 19, 3) := by decide +kernel
theorem dX7_full_4 : decode cX7_full 4 = .ok (.iconst 2, 1) := by decide +kernel
theorem dX7_full_5 : decode cX7_full 5 = .ok (.dup2, 1) := by decide +kernel
theorem dX7_full_6 : decode cX7_full 6 = .ok (.iaload, 1) := by decide +kernel
theorem dX7_full_7 : decode cX7_full 7 = .ok (.iconst 1, 1) := by decide +kernel
theorem dX7_full_8 : decode cX7_full 8 = .ok (.iadd, 1) := by decide +kernel
theorem dX7_full_9 : decode cX7_full 9 = .ok (.iastore, 1) := by decide +kernel
theorem dX7_full_10 : decode cX7_full 10 = .ok (.bipush (-4), 2) := by decide +kernel
theorem dX7_full_12 : decode cX7_full 12 = .ok (.ireturn, 1) := by decide +kernel
theorem dX7_much_0 : decode cX7_much 0 = .ok (.aload_n 0, 1) := by decide +kernel
theorem dX7_much_1 : decode cX7_much 1 = .ok (.getfield 19, 3) := by decide +kernel
theorem dX7_much_4 : decode cX7_much 4 = .ok (.iconst 3, 1) := by decide +kernel
theorem dX7_much_5 : decode cX7_much 5 = .ok (.dup2, 1) := by decide +kernel
theorem dX7_much_6 : decode cX7_much 6 = .ok (.iaload, 1) := by decide +kernel
theorem dX7_much_7 : decode cX7_much 7 = .ok (.iconst 1, 1) := by decide +kernel
theorem dX7_much_8 : decode cX7_much 8 = .ok (.iadd, 1) := by decide +kernel
theorem dX7_much_9 : decode cX7_much 9 = .ok (.iastore, 1) := by decide +kernel
theorem dX7_much_10 : decode cX7_much 10 = .ok (.bipush (-5), 2) := by decide +kernel
theorem dX7_much_12 : decode cX7_much 12 = .ok (.ireturn, 1) := by decide +kernel
theorem dX7_within_0 : decode cX7_within 0 = .ok (.lload_n 0, 1) := by decide +kernel
theorem dX7_within_1 : decode cX7_within 1 = .ok (.lload_n 2, 1) := by decide +kernel
theorem dX7_within_2 : decode cX7_within 2 = .ok (.lcmp, 1) := by decide +kernel
theorem dX7_within_3 : decode cX7_within 3 = .ok (.ifCond .lt 14, 3) := by decide +kernel
theorem dX7_within_6 : decode cX7_within 6 = .ok (.lload_n 0, 1) := by decide +kernel
theorem dX7_within_7 : decode cX7_within 7 = .ok (.lload 4, 2) := by decide +kernel
theorem dX7_within_9 : decode cX7_within 9 = .ok (.lcmp, 1) := by decide +kernel
theorem dX7_within_10 : decode cX7_within 10 = .ok (.ifCond .gt 7, 3) := by decide +kernel
theorem dX7_within_13 : decode cX7_within 13 = .ok (.iconst 1, 1) := by decide +kernel
theorem dX7_within_14 : decode cX7_within 14 = .ok (.goto 4, 3) := by decide +kernel
theorem dX7_within_17 : decode cX7_within 17 = .ok (.iconst 0, 1) := by decide +kernel
theorem dX7_within_18 : decode cX7_within 18 = .ok (.ireturn, 1) := by decide +kernel
theorem dX7_has_0 : decode cX7_has 0 = .ok (.iload_n 0, 1) := by decide +kernel
theorem dX7_has_1 : decode cX7_has 1 = .ok (.iload_n 1, 1) := by decide +kernel
theorem dX7_has_2 : decode cX7_has 2 = .ok (.ishr, 1) := by decide +kernel
theorem dX7_has_3 : decode cX7_has 3 = .ok (.iconst 1, 1) := by decide +kernel
theorem dX7_has_4 : decode cX7_has 4 = .ok (.iand, 1) := by decide +kernel
theorem dX7_has_5 : decode cX7_has 5 = .ok (.iconst 1, 1) := by decide +kernel
theorem dX7_has_6 : decode cX7_has 6 = .ok (.if_icmp .ne 7, 3) := by decide +kernel
theorem dX7_has_9 : decode cX7_has 9 = .ok (.iconst 1, 1) := by decide +kernel
theorem dX7_has_10 : decode cX7_has 10 = .ok (.goto 4, 3) := by decide +kernel
theorem dX7_has_13 : decode cX7_has 13 = .ok (.iconst 0, 1) := by decide +kernel
theorem dX7_has_14 : decode cX7_has 14 = .ok (.ireturn, 1) := by decide +kernel
theorem dX7_isPhrase_0 : decode cX7_isPhrase 0 = .ok (.iload_n 1, 1) := by decide +kernel
theorem dX7_isPhrase_1 : decode cX7_isPhrase 1 = .ok (.i2l, 1) := by decide +kernel
theorem dX7_isPhrase_2 : decode cX7_isPhrase 2 = .ok (.lconst 0, 1) := by decide +kernel
theorem dX7_isPhrase_3 : decode cX7_isPhrase 3 = .ok (.aload_n 0, 1) := by decide +kernel
theorem dX7_isPhrase_4 : decode cX7_isPhrase 4 = .ok (.getfield 7, 3) := by decide +kernel
theorem dX7_isPhrase_7 : decode cX7_isPhrase 7 = .ok (.iconst 0, 1) := by decide +kernel
theorem dX7_isPhrase_8 : decode cX7_isPhrase 8 = .ok (.iaload, 1) := by decide +kernel
theorem dX7_isPhrase_9 : decode cX7_isPhrase 9 = .ok (.iconst 1, 1) := by decide +kernel
theorem dX7_isPhrase_10 : decode cX7_isPhrase 10 = .ok (.isub, 1) := by decide +kernel
theorem dX7_isPhrase_11 : decode cX7_isPhrase 11 = .ok (.i2l, 1) := by decide +kernel
theorem dX7_isPhrase_12 : decode cX7_isPhrase 12 = .ok (.invokestatic 47, 3) := by decide +kernel
theorem dX7_isPhrase_15 : decode cX7_isPhrase 15 = .ok (.ireturn, 1) := by decide +kernel
theorem dX7_laysAside_0 : decode cX7_laysAside 0 = .ok (.iconst 0, 1) := by decide +kernel
theorem dX7_laysAside_1 : decode cX7_laysAside 1 = .ok (.istore_n 1, 1) := by decide +kernel
theorem dX7_laysAside_2 : decode cX7_laysAside 2 = .ok (.iload_n 1, 1) := by decide +kernel
theorem dX7_laysAside_3 : decode cX7_laysAside 3 = .ok (.sipush 148, 3) := by decide +kernel
theorem dX7_laysAside_6 : decode cX7_laysAside 6 = .ok (.if_icmp .ge 21, 3) := by decide +kernel
theorem dX7_laysAside_9 : decode cX7_laysAside 9 = .ok (.aload_n 0, 1) := by decide +kernel
theorem dX7_laysAside_10 : decode cX7_laysAside 10 = .ok (.getfield 13, 3) := by decide +kernel
theorem dX7_laysAside_13 : decode cX7_laysAside 13 = .ok (.iload_n 1, 1) := by decide +kernel
theorem dX7_laysAside_14 : decode cX7_laysAside 14 = .ok (.aload_n 0, 1) := by decide +kernel
theorem dX7_laysAside_15 : decode cX7_laysAside 15 = .ok (.getfield 7, 3) := by decide +kernel
theorem dX7_laysAside_18 : decode cX7_laysAside 18 = .ok (.iload_n 1, 1) := by decide +kernel
theorem dX7_laysAside_19 : decode cX7_laysAside 19 = .ok (.iaload, 1) := by decide +kernel
theorem dX7_laysAside_20 : decode cX7_laysAside 20 = .ok (.iastore, 1) := by decide +kernel
theorem dX7_laysAside_21 : decode cX7_laysAside 21 = .ok (.iinc 1 1, 3) := by decide +kernel
theorem dX7_laysAside_24 : decode cX7_laysAside 24 = .ok (.goto (-22), 3) := by decide +kernel
theorem dX7_laysAside_27 : decode cX7_laysAside 27 = .ok (.return_, 1) := by decide +kernel
theorem dX7_leaves_0 : decode cX7_leaves 0 = .ok (.aload_n 0, 1) := by decide +kernel
theorem dX7_leaves_1 : decode cX7_leaves 1 = .ok (.getfield 51, 3) := by decide +kernel
theorem dX7_leaves_4 : decode cX7_leaves 4 = .ok (.iconst 5, 1) := by decide +kernel
theorem dX7_leaves_5 : decode cX7_leaves 5 = .ok (.if_icmp .ne 44, 3) := by decide +kernel
theorem dX7_leaves_8 : decode cX7_leaves 8 = .ok (.iconst 0, 1) := by decide +kernel
theorem dX7_leaves_9 : decode cX7_leaves 9 = .ok (.istore_n 1, 1) := by decide +kernel
theorem dX7_leaves_10 : decode cX7_leaves 10 = .ok (.iload_n 1, 1) := by decide +kernel
theorem dX7_leaves_11 : decode cX7_leaves 11 = .ok (.sipush 592, 3) := by decide +kernel
theorem dX7_leaves_14 : decode cX7_leaves 14 = .ok (.if_icmp .ge 25, 3) := by decide +kernel
theorem dX7_leaves_17 : decode cX7_leaves 17 = .ok (.aload_n 0, 1) := by decide +kernel
theorem dX7_leaves_18 : decode cX7_leaves 18 = .ok (.getfield 16, 3) := by decide +kernel
theorem dX7_leaves_21 : decode cX7_leaves 21 = .ok (.iload_n 1, 1) := by decide +kernel
theorem dX7_leaves_22 : decode cX7_leaves 22 = .ok (.aload_n 0, 1) := by decide +kernel
theorem dX7_leaves_23 : decode cX7_leaves 23 = .ok (.getfield 16, 3) := by decide +kernel
theorem dX7_leaves_26 : decode cX7_leaves 26 = .ok (.iload_n 1, 1) := by decide +kernel
theorem dX7_leaves_27 : decode cX7_leaves 27 = .ok (.sipush 148, 3) := by decide +kernel
theorem dX7_leaves_30 : decode cX7_leaves 30 = .ok (.iadd, 1) := by decide +kernel
theorem dX7_leaves_31 : decode cX7_leaves 31 = .ok (.iaload, 1) := by decide +kernel
theorem dX7_leaves_32 : decode cX7_leaves 32 = .ok (.iastore, 1) := by decide +kernel
theorem dX7_leaves_33 : decode cX7_leaves 33 = .ok (.iinc 1 1, 3) := by decide +kernel
theorem dX7_leaves_36 : decode cX7_leaves 36 = .ok (.goto (-26), 3) := by decide +kernel
theorem dX7_leaves_39 : decode cX7_leaves 39 = .ok (.aload_n 0, 1) := by decide +kernel
theorem dX7_leaves_40 : decode cX7_leaves 40 = .ok (.dup, 1) := by decide +kernel
theorem dX7_leaves_41 : decode cX7_leaves 41 = .ok (.getfield 51, 3) := by decide +kernel
theorem dX7_leaves_44 : decode cX7_leaves 44 = .ok (.iconst 1, 1) := by decide +kernel
theorem dX7_leaves_45 : decode cX7_leaves 45 = .ok (.isub, 1) := by decide +kernel
theorem dX7_leaves_46 : decode cX7_leaves 46 = .ok (.putfield 51, 3) := by decide +kernel
theorem dX7_leaves_49 : decode cX7_leaves 49 = .ok (.iconst 0, 1) := by decide +kernel
theorem dX7_leaves_50 : decode cX7_leaves 50 = .ok (.istore_n 1, 1) := by decide +kernel
theorem dX7_leaves_51 : decode cX7_leaves 51 = .ok (.iload_n 1, 1) := by decide +kernel
theorem dX7_leaves_52 : decode cX7_leaves 52 = .ok (.sipush 148, 3) := by decide +kernel
theorem dX7_leaves_55 : decode cX7_leaves 55 = .ok (.if_icmp .ge 30, 3) := by decide +kernel
theorem dX7_leaves_58 : decode cX7_leaves 58 = .ok (.aload_n 0, 1) := by decide +kernel
theorem dX7_leaves_59 : decode cX7_leaves 59 = .ok (.getfield 16, 3) := by decide +kernel
theorem dX7_leaves_62 : decode cX7_leaves 62 = .ok (.sipush 148, 3) := by decide +kernel
theorem dX7_leaves_65 : decode cX7_leaves 65 = .ok (.aload_n 0, 1) := by decide +kernel
theorem dX7_leaves_66 : decode cX7_leaves 66 = .ok (.getfield 51, 3) := by decide +kernel
theorem dX7_leaves_69 : decode cX7_leaves 69 = .ok (.imul, 1) := by decide +kernel
theorem dX7_leaves_70 : decode cX7_leaves 70 = .ok (.iload_n 1, 1) := by decide +kernel
theorem dX7_leaves_71 : decode cX7_leaves 71 = .ok (.iadd, 1) := by decide +kernel
theorem dX7_leaves_72 : decode cX7_leaves 72 = .ok (.aload_n 0, 1) := by decide +kernel
theorem dX7_leaves_73 : decode cX7_leaves 73 = .ok (.getfield 13, 3) := by decide +kernel
theorem dX7_leaves_76 : decode cX7_leaves 76 = .ok (.iload_n 1, 1) := by decide +kernel
theorem dX7_leaves_77 : decode cX7_leaves 77 = .ok (.iaload, 1) := by decide +kernel
theorem dX7_leaves_78 : decode cX7_leaves 78 = .ok (.iastore, 1) := by decide +kernel
theorem dX7_leaves_79 : decode cX7_leaves 79 = .ok (.iinc 1 1, 3) := by decide +kernel
theorem dX7_leaves_82 : decode cX7_leaves 82 = .ok (.goto (-31), 3) := by decide +kernel
theorem dX7_leaves_85 : decode cX7_leaves 85 = .ok (.aload_n 0, 1) := by decide +kernel
theorem dX7_leaves_86 : decode cX7_leaves 86 = .ok (.dup, 1) := by decide +kernel
theorem dX7_leaves_87 : decode cX7_leaves 87 = .ok (.getfield 51, 3) := by decide +kernel
theorem dX7_leaves_90 : decode cX7_leaves 90 = .ok (.iconst 1, 1) := by decide +kernel
theorem dX7_leaves_91 : decode cX7_leaves 91 = .ok (.iadd, 1) := by decide +kernel
theorem dX7_leaves_92 : decode cX7_leaves 92 = .ok (.putfield 51, 3) := by decide +kernel
theorem dX7_leaves_95 : decode cX7_leaves 95 = .ok (.return_, 1) := by decide +kernel
theorem dX7_back_0 : decode cX7_back 0 = .ok (.aload_n 0, 1) := by decide +kernel
theorem dX7_back_1 : decode cX7_back 1 = .ok (.getfield 51, 3) := by decide +kernel
theorem dX7_back_4 : decode cX7_back 4 = .ok (.ifCond .ne 8, 3) := by decide +kernel
theorem dX7_back_7 : decode cX7_back 7 = .ok (.aload_n 0, 1) := by decide +kernel
theorem dX7_back_8 : decode cX7_back 8 = .ok (.invokevirtual 55, 3) := by decide +kernel
theorem dX7_back_11 : decode cX7_back 11 = .ok (.ireturn, 1) := by decide +kernel
theorem dX7_back_12 : decode cX7_back 12 = .ok (.aload_n 0, 1) := by decide +kernel
theorem dX7_back_13 : decode cX7_back 13 = .ok (.dup, 1) := by decide +kernel
theorem dX7_back_14 : decode cX7_back 14 = .ok (.getfield 51, 3) := by decide +kernel
theorem dX7_back_17 : decode cX7_back 17 = .ok (.iconst 1, 1) := by decide +kernel
theorem dX7_back_18 : decode cX7_back 18 = .ok (.isub, 1) := by decide +kernel
theorem dX7_back_19 : decode cX7_back 19 = .ok (.putfield 51, 3) := by decide +kernel
theorem dX7_back_22 : decode cX7_back 22 = .ok (.iconst 0, 1) := by decide +kernel
theorem dX7_back_23 : decode cX7_back 23 = .ok (.istore_n 1, 1) := by decide +kernel
theorem dX7_back_24 : decode cX7_back 24 = .ok (.iload_n 1, 1) := by decide +kernel
theorem dX7_back_25 : decode cX7_back 25 = .ok (.sipush 148, 3) := by decide +kernel
theorem dX7_back_28 : decode cX7_back 28 = .ok (.if_icmp .ge 30, 3) := by decide +kernel
theorem dX7_back_31 : decode cX7_back 31 = .ok (.aload_n 0, 1) := by decide +kernel
theorem dX7_back_32 : decode cX7_back 32 = .ok (.getfield 7, 3) := by decide +kernel
theorem dX7_back_35 : decode cX7_back 35 = .ok (.iload_n 1, 1) := by decide +kernel
theorem dX7_back_36 : decode cX7_back 36 = .ok (.aload_n 0, 1) := by decide +kernel
theorem dX7_back_37 : decode cX7_back 37 = .ok (.getfield 16, 3) := by decide +kernel
theorem dX7_back_40 : decode cX7_back 40 = .ok (.sipush 148, 3) := by decide +kernel
theorem dX7_back_43 : decode cX7_back 43 = .ok (.aload_n 0, 1) := by decide +kernel
theorem dX7_back_44 : decode cX7_back 44 = .ok (.getfield 51, 3) := by decide +kernel
theorem dX7_back_47 : decode cX7_back 47 = .ok (.imul, 1) := by decide +kernel
theorem dX7_back_48 : decode cX7_back 48 = .ok (.iload_n 1, 1) := by decide +kernel
theorem dX7_back_49 : decode cX7_back 49 = .ok (.iadd, 1) := by decide +kernel
theorem dX7_back_50 : decode cX7_back 50 = .ok (.iaload, 1) := by decide +kernel
theorem dX7_back_51 : decode cX7_back 51 = .ok (.iastore, 1) := by decide +kernel
theorem dX7_back_52 : decode cX7_back 52 = .ok (.iinc 1 1, 3) := by decide +kernel
theorem dX7_back_55 : decode cX7_back 55 = .ok (.goto (-31), 3) := by decide +kernel
theorem dX7_back_58 : decode cX7_back 58 = .ok (.aload_n 0, 1) := by decide +kernel
theorem dX7_back_59 : decode cX7_back 59 = .ok (.getfield 51, 3) := by decide +kernel
theorem dX7_back_62 : decode cX7_back 62 = .ok (.ireturn, 1) := by decide +kernel
theorem dX7_answers_0 : decode cX7_answers 0 = .ok (.iload_n 1, 1) := by decide +kernel
theorem dX7_answers_1 : decode cX7_answers 1 = .ok (.ifCond .lt 9, 3) := by decide +kernel
theorem dX7_answers_4 : decode cX7_answers 4 = .ok (.aload_n 0, 1) := by decide +kernel
theorem dX7_answers_5 : decode cX7_answers 5 = .ok (.invokevirtual 59, 3) := by decide +kernel
theorem dX7_answers_8 : decode cX7_answers 8 = .ok (.iload_n 1, 1) := by decide +kernel
theorem dX7_answers_9 : decode cX7_answers 9 = .ok (.ireturn, 1) := by decide +kernel
theorem dX7_answers_10 : decode cX7_answers 10 = .ok (.iload_n 1, 1) := by decide +kernel
theorem dX7_answers_11 : decode cX7_answers 11 = .ok (.bipush (-3), 2) := by decide +kernel
theorem dX7_answers_13 : decode cX7_answers 13 = .ok (.if_icmp .ne 10, 3) := by decide +kernel
theorem dX7_answers_16 : decode cX7_answers 16 = .ok (.aload_n 0, 1) := by decide +kernel
theorem dX7_answers_17 : decode cX7_answers 17 = .ok (.invokevirtual 55, 3) := by decide +kernel
theorem dX7_answers_20 : decode cX7_answers 20 = .ok (.goto 20, 3) := by decide +kernel
theorem dX7_answers_23 : decode cX7_answers 23 = .ok (.iload_n 1, 1) := by decide +kernel
theorem dX7_answers_24 : decode cX7_answers 24 = .ok (.bipush (-4), 2) := by decide +kernel
theorem dX7_answers_26 : decode cX7_answers 26 = .ok (.if_icmp .ne 10, 3) := by decide +kernel
theorem dX7_answers_29 : decode cX7_answers 29 = .ok (.aload_n 0, 1) := by decide +kernel
theorem dX7_answers_30 : decode cX7_answers 30 = .ok (.invokevirtual 62, 3) := by decide +kernel
theorem dX7_answers_33 : decode cX7_answers 33 = .ok (.goto 7, 3) := by decide +kernel
theorem dX7_answers_36 : decode cX7_answers 36 = .ok (.aload_n 0, 1) := by decide +kernel
theorem dX7_answers_37 : decode cX7_answers 37 = .ok (.invokevirtual 65, 3) := by decide +kernel
theorem dX7_answers_40 : decode cX7_answers 40 = .ok (.ireturn, 1) := by decide +kernel
theorem dX7_sizeOf_0 : decode cX7_sizeOf 0 = .ok (.iconst 0, 1) := by decide +kernel
theorem dX7_sizeOf_1 : decode cX7_sizeOf 1 = .ok (.istore_n 1, 1) := by decide +kernel
theorem dX7_sizeOf_2 : decode cX7_sizeOf 2 = .ok (.iload_n 0, 1) := by decide +kernel
theorem dX7_sizeOf_3 : decode cX7_sizeOf 3 = .ok (.istore_n 2, 1) := by decide +kernel
theorem dX7_sizeOf_4 : decode cX7_sizeOf 4 = .ok (.iload_n 2, 1) := by decide +kernel
theorem dX7_sizeOf_5 : decode cX7_sizeOf 5 = .ok (.ifCond .le 14, 3) := by decide +kernel
theorem dX7_sizeOf_8 : decode cX7_sizeOf 8 = .ok (.iinc 1 1, 3) := by decide +kernel
theorem dX7_sizeOf_11 : decode cX7_sizeOf 11 = .ok (.iload_n 2, 1) := by decide +kernel
theorem dX7_sizeOf_12 : decode cX7_sizeOf 12 = .ok (.bipush 10, 2) := by decide +kernel
theorem dX7_sizeOf_14 : decode cX7_sizeOf 14 = .ok (.idiv, 1) := by decide +kernel
theorem dX7_sizeOf_15 : decode cX7_sizeOf 15 = .ok (.istore_n 2, 1) := by decide +kernel
theorem dX7_sizeOf_16 : decode cX7_sizeOf 16 = .ok (.goto (-12), 3) := by decide +kernel
theorem dX7_sizeOf_19 : decode cX7_sizeOf 19 = .ok (.iload_n 1, 1) := by decide +kernel
theorem dX7_sizeOf_20 : decode cX7_sizeOf 20 = .ok (.ireturn, 1) := by decide +kernel
theorem dX7_moraeOf_0 : decode cX7_moraeOf 0 = .ok (.iconst 0, 1) := by decide +kernel
theorem dX7_moraeOf_1 : decode cX7_moraeOf 1 = .ok (.istore_n 1, 1) := by decide +kernel
theorem dX7_moraeOf_2 : decode cX7_moraeOf 2 = .ok (.iload_n 0, 1) := by decide +kernel
theorem dX7_moraeOf_3 : decode cX7_moraeOf 3 = .ok (.istore_n 2, 1) := by decide +kernel
theorem dX7_moraeOf_4 : decode cX7_moraeOf 4 = .ok (.iload_n 2, 1) := by decide +kernel
theorem dX7_moraeOf_5 : decode cX7_moraeOf 5 = .ok (.ifCond .le 27, 3) := by decide +kernel
theorem dX7_moraeOf_8 : decode cX7_moraeOf 8 = .ok (.iload_n 1, 1) := by decide +kernel
theorem dX7_moraeOf_9 : decode cX7_moraeOf 9 = .ok (.iload_n 2, 1) := by decide +kernel
theorem dX7_moraeOf_10 : decode cX7_moraeOf 10 = .ok (.bipush 10, 2) := by decide +kernel
theorem dX7_moraeOf_12 : decode cX7_moraeOf 12 = .ok (.irem, 1) := by decide +kernel
theorem dX7_moraeOf_13 : decode cX7_moraeOf 13 = .ok (.iconst 4, 1) := by decide +kernel
theorem dX7_moraeOf_14 : decode cX7_moraeOf 14 = .ok (.if_icmp .le 7, 3) := by decide +kernel
theorem dX7_moraeOf_17 : decode cX7_moraeOf 17 = .ok (.iconst 2, 1) := by decide +kernel
theorem dX7_moraeOf_18 : decode cX7_moraeOf 18 = .ok (.goto 4, 3) := by decide +kernel
theorem dX7_moraeOf_21 : decode cX7_moraeOf 21 = .ok (.iconst 1, 1) := by decide +kernel
theorem dX7_moraeOf_22 : decode cX7_moraeOf 22 = .ok (.iadd, 1) := by decide +kernel
theorem dX7_moraeOf_23 : decode cX7_moraeOf 23 = .ok (.istore_n 1, 1) := by decide +kernel
theorem dX7_moraeOf_24 : decode cX7_moraeOf 24 = .ok (.iload_n 2, 1) := by decide +kernel
theorem dX7_moraeOf_25 : decode cX7_moraeOf 25 = .ok (.bipush 10, 2) := by decide +kernel
theorem dX7_moraeOf_27 : decode cX7_moraeOf 27 = .ok (.idiv, 1) := by decide +kernel
theorem dX7_moraeOf_28 : decode cX7_moraeOf 28 = .ok (.istore_n 2, 1) := by decide +kernel
theorem dX7_moraeOf_29 : decode cX7_moraeOf 29 = .ok (.goto (-25), 3) := by decide +kernel
theorem dX7_moraeOf_32 : decode cX7_moraeOf 32 = .ok (.iload_n 1, 1) := by decide +kernel
theorem dX7_moraeOf_33 : decode cX7_moraeOf 33 = .ok (.ireturn, 1) := by decide +kernel
theorem dX7_isCode_0 : decode cX7_isCode 0 = .ok (.iload_n 0, 1) := by decide +kernel
theorem dX7_isCode_1 : decode cX7_isCode 1 = .ok (.i2l, 1) := by decide +kernel
theorem dX7_isCode_2 : decode cX7_isCode 2 = .ok (.lconst 1, 1) := by decide +kernel
theorem dX7_isCode_3 : decode cX7_isCode 3 = .ok (.ldc2_w 68, 3) := by decide +kernel
theorem dX7_isCode_6 : decode cX7_isCode 6 = .ok (.invokestatic 47, 3) := by decide +kernel
theorem dX7_isCode_9 : decode cX7_isCode 9 = .ok (.istore_n 1, 1) := by decide +kernel
theorem dX7_isCode_10 : decode cX7_isCode 10 = .ok (.iload_n 0, 1) := by decide +kernel
theorem dX7_isCode_11 : decode cX7_isCode 11 = .ok (.istore_n 2, 1) := by decide +kernel
theorem dX7_isCode_12 : decode cX7_isCode 12 = .ok (.iload_n 2, 1) := by decide +kernel
theorem dX7_isCode_13 : decode cX7_isCode 13 = .ok (.ifCond .le 28, 3) := by decide +kernel
theorem dX7_isCode_16 : decode cX7_isCode 16 = .ok (.iload_n 1, 1) := by decide +kernel
theorem dX7_isCode_17 : decode cX7_isCode 17 = .ok (.ifCond .eq 24, 3) := by decide +kernel
theorem dX7_isCode_20 : decode cX7_isCode 20 = .ok (.iload_n 2, 1) := by decide +kernel
theorem dX7_isCode_21 : decode cX7_isCode 21 = .ok (.bipush 10, 2) := by decide +kernel
theorem dX7_isCode_23 : decode cX7_isCode 23 = .ok (.irem, 1) := by decide +kernel
theorem dX7_isCode_24 : decode cX7_isCode 24 = .ok (.i2l, 1) := by decide +kernel
theorem dX7_isCode_25 : decode cX7_isCode 25 = .ok (.lconst 1, 1) := by decide +kernel
theorem dX7_isCode_26 : decode cX7_isCode 26 = .ok (.ldc2_w 70, 3) := by decide +kernel
theorem dX7_isCode_29 : decode cX7_isCode 29 = .ok (.invokestatic 47, 3) := by decide +kernel
theorem dX7_isCode_32 : decode cX7_isCode 32 = .ok (.istore_n 1, 1) := by decide +kernel
theorem dX7_isCode_33 : decode cX7_isCode 33 = .ok (.iload_n 2, 1) := by decide +kernel
theorem dX7_isCode_34 : decode cX7_isCode 34 = .ok (.bipush 10, 2) := by decide +kernel
theorem dX7_isCode_36 : decode cX7_isCode 36 = .ok (.idiv, 1) := by decide +kernel
theorem dX7_isCode_37 : decode cX7_isCode 37 = .ok (.istore_n 2, 1) := by decide +kernel
theorem dX7_isCode_38 : decode cX7_isCode 38 = .ok (.goto (-26), 3) := by decide +kernel
theorem dX7_isCode_41 : decode cX7_isCode 41 = .ok (.iload_n 1, 1) := by decide +kernel
theorem dX7_isCode_42 : decode cX7_isCode 42 = .ok (.ireturn, 1) := by decide +kernel
theorem dX7_addsPhrase_0 : decode cX7_addsPhrase 0 = .ok (.iload_n 1, 1) := by decide +kernel
theorem dX7_addsPhrase_1 : decode cX7_addsPhrase 1 = .ok (.i2l, 1) := by decide +kernel
theorem dX7_addsPhrase_2 : decode cX7_addsPhrase 2 = .ok (.lconst 0, 1) := by decide +kernel
theorem dX7_addsPhrase_3 : decode cX7_addsPhrase 3 = .ok (.ldc2_w 72, 3) := by decide +kernel
theorem dX7_addsPhrase_6 : decode cX7_addsPhrase 6 = .ok (.invokestatic 47, 3) := by decide +kernel
theorem dX7_addsPhrase_9 : decode cX7_addsPhrase 9 = .ok (.ifCond .eq 10, 3) := by decide +kernel
theorem dX7_addsPhrase_12 : decode cX7_addsPhrase 12 = .ok (.iload_n 2, 1) := by decide +kernel
theorem dX7_addsPhrase_13 : decode cX7_addsPhrase 13 = .ok (.invokestatic 74, 3) := by decide +kernel
theorem dX7_addsPhrase_16 : decode cX7_addsPhrase 16 = .ok (.ifCond .ne 6, 3) := by decide +kernel
theorem dX7_addsPhrase_19 : decode cX7_addsPhrase 19 = .ok (.bipush (-2), 2) := by decide +kernel
theorem dX7_addsPhrase_21 : decode cX7_addsPhrase 21 = .ok (.ireturn, 1) := by decide +kernel
theorem dX7_addsPhrase_22 : decode cX7_addsPhrase 22 = .ok (.aload_n 0, 1) := by decide +kernel
theorem dX7_addsPhrase_23 : decode cX7_addsPhrase 23 = .ok (.getfield 7, 3) := by decide +kernel
theorem dX7_addsPhrase_26 : decode cX7_addsPhrase 26 = .ok (.iconst 0, 1) := by decide +kernel
theorem dX7_addsPhrase_27 : decode cX7_addsPhrase 27 = .ok (.iaload, 1) := by decide +kernel
theorem dX7_addsPhrase_28 : decode cX7_addsPhrase 28 = .ok (.istore_n 3, 1) := by decide +kernel
theorem dX7_addsPhrase_29 : decode cX7_addsPhrase 29 = .ok (.iconst 0, 1) := by decide +kernel
theorem dX7_addsPhrase_30 : decode cX7_addsPhrase 30 = .ok (.istore 4, 2) := by decide +kernel
theorem dX7_addsPhrase_32 : decode cX7_addsPhrase 32 = .ok (.iload 4, 2) := by decide +kernel
theorem dX7_addsPhrase_34 : decode cX7_addsPhrase 34 = .ok (.iload_n 3, 1) := by decide +kernel
theorem dX7_addsPhrase_35 : decode cX7_addsPhrase 35 = .ok (.if_icmp .ge 40, 3) := by decide +kernel
theorem dX7_addsPhrase_38 : decode cX7_addsPhrase 38 = .ok (.aload_n 0, 1) := by decide +kernel
theorem dX7_addsPhrase_39 : decode cX7_addsPhrase 39 = .ok (.getfield 7, 3) := by decide +kernel
theorem dX7_addsPhrase_42 : decode cX7_addsPhrase 42 = .ok (.bipush 9, 2) := by decide +kernel
theorem dX7_addsPhrase_44 : decode cX7_addsPhrase 44 = .ok (.iload 4, 2) := by decide +kernel
theorem dX7_addsPhrase_46 : decode cX7_addsPhrase 46 = .ok (.iadd, 1) := by decide +kernel
theorem dX7_addsPhrase_47 : decode cX7_addsPhrase 47 = .ok (.iaload, 1) := by decide +kernel
theorem dX7_addsPhrase_48 : decode cX7_addsPhrase 48 = .ok (.iload_n 1, 1) := by decide +kernel
theorem dX7_addsPhrase_49 : decode cX7_addsPhrase 49 = .ok (.if_icmp .ne 20, 3) := by decide +kernel
theorem dX7_addsPhrase_52 : decode cX7_addsPhrase 52 = .ok (.aload_n 0, 1) := by decide +kernel
theorem dX7_addsPhrase_53 : decode cX7_addsPhrase 53 = .ok (.getfield 7, 3) := by decide +kernel
theorem dX7_addsPhrase_56 : decode cX7_addsPhrase 56 = .ok (.bipush 21, 2) := by decide +kernel
theorem dX7_addsPhrase_58 : decode cX7_addsPhrase 58 = .ok (.iload 4, 2) := by decide +kernel
theorem dX7_addsPhrase_60 : decode cX7_addsPhrase 60 = .ok (.iadd, 1) := by decide +kernel
theorem dX7_addsPhrase_61 : decode cX7_addsPhrase 61 = .ok (.iaload, 1) := by decide +kernel
theorem dX7_addsPhrase_62 : decode cX7_addsPhrase 62 = .ok (.iload_n 2, 1) := by decide +kernel
theorem dX7_addsPhrase_63 : decode cX7_addsPhrase 63 = .ok (.if_icmp .ne 6, 3) := by decide +kernel
theorem dX7_addsPhrase_66 : decode cX7_addsPhrase 66 = .ok (.bipush (-3), 2) := by decide +kernel
theorem dX7_addsPhrase_68 : decode cX7_addsPhrase 68 = .ok (.ireturn, 1) := by decide +kernel
theorem dX7_addsPhrase_69 : decode cX7_addsPhrase 69 = .ok (.iinc 4 1, 3) := by decide +kernel
theorem dX7_addsPhrase_72 : decode cX7_addsPhrase 72 = .ok (.goto (-40), 3) := by decide +kernel
theorem dX7_addsPhrase_75 : decode cX7_addsPhrase 75 = .ok (.iload_n 3, 1) := by decide +kernel
theorem dX7_addsPhrase_76 : decode cX7_addsPhrase 76 = .ok (.bipush 12, 2) := by decide +kernel
theorem dX7_addsPhrase_78 : decode cX7_addsPhrase 78 = .ok (.if_icmp .ne 6, 3) := by decide +kernel
theorem dX7_addsPhrase_81 : decode cX7_addsPhrase 81 = .ok (.bipush (-4), 2) := by decide +kernel
theorem dX7_addsPhrase_83 : decode cX7_addsPhrase 83 = .ok (.ireturn, 1) := by decide +kernel
theorem dX7_addsPhrase_84 : decode cX7_addsPhrase 84 = .ok (.aload_n 0, 1) := by decide +kernel
theorem dX7_addsPhrase_85 : decode cX7_addsPhrase 85 = .ok (.getfield 7, 3) := by decide +kernel
theorem dX7_addsPhrase_88 : decode cX7_addsPhrase 88 = .ok (.bipush 9, 2) := by decide +kernel
theorem dX7_addsPhrase_90 : decode cX7_addsPhrase 90 = .ok (.iload_n 3, 1) := by decide +kernel
theorem dX7_addsPhrase_91 : decode cX7_addsPhrase 91 = .ok (.iadd, 1) := by decide +kernel
theorem dX7_addsPhrase_92 : decode cX7_addsPhrase 92 = .ok (.iload_n 1, 1) := by decide +kernel
theorem dX7_addsPhrase_93 : decode cX7_addsPhrase 93 = .ok (.iastore, 1) := by decide +kernel
theorem dX7_addsPhrase_94 : decode cX7_addsPhrase 94 = .ok (.aload_n 0, 1) := by decide +kernel
theorem dX7_addsPhrase_95 : decode cX7_addsPhrase 95 = .ok (.getfield 7, 3) := by decide +kernel
theorem dX7_addsPhrase_98 : decode cX7_addsPhrase 98 = .ok (.bipush 21, 2) := by decide +kernel
theorem dX7_addsPhrase_100 : decode cX7_addsPhrase 100 = .ok (.iload_n 3, 1) := by decide +kernel
theorem dX7_addsPhrase_101 : decode cX7_addsPhrase 101 = .ok (.iadd, 1) := by decide +kernel
theorem dX7_addsPhrase_102 : decode cX7_addsPhrase 102 = .ok (.iload_n 2, 1) := by decide +kernel
theorem dX7_addsPhrase_103 : decode cX7_addsPhrase 103 = .ok (.iastore, 1) := by decide +kernel
theorem dX7_addsPhrase_104 : decode cX7_addsPhrase 104 = .ok (.iconst 0, 1) := by decide +kernel
theorem dX7_addsPhrase_105 : decode cX7_addsPhrase 105 = .ok (.istore 4, 2) := by decide +kernel
theorem dX7_addsPhrase_107 : decode cX7_addsPhrase 107 = .ok (.iload 4, 2) := by decide +kernel
theorem dX7_addsPhrase_109 : decode cX7_addsPhrase 109 = .ok (.iconst 3, 1) := by decide +kernel
theorem dX7_addsPhrase_110 : decode cX7_addsPhrase 110 = .ok (.if_icmp .ge 25, 3) := by decide +kernel
theorem dX7_addsPhrase_113 : decode cX7_addsPhrase 113 = .ok (.aload_n 0, 1) := by decide +kernel
theorem dX7_addsPhrase_114 : decode cX7_addsPhrase 114 = .ok (.getfield 7, 3) := by decide +kernel
theorem dX7_addsPhrase_117 : decode cX7_addsPhrase 117 = .ok (.bipush 33, 2) := by decide +kernel
theorem dX7_addsPhrase_119 : decode cX7_addsPhrase 119 = .ok (.bipush 12, 2) := by decide +kernel
theorem dX7_addsPhrase_121 : decode cX7_addsPhrase 121 = .ok (.iload 4, 2) := by decide +kernel
theorem dX7_addsPhrase_123 : decode cX7_addsPhrase 123 = .ok (.imul, 1) := by decide +kernel
theorem dX7_addsPhrase_124 : decode cX7_addsPhrase 124 = .ok (.iadd, 1) := by decide +kernel
theorem dX7_addsPhrase_125 : decode cX7_addsPhrase 125 = .ok (.iload_n 3, 1) := by decide +kernel
theorem dX7_addsPhrase_126 : decode cX7_addsPhrase 126 = .ok (.iadd, 1) := by decide +kernel
theorem dX7_addsPhrase_127 : decode cX7_addsPhrase 127 = .ok (.iconst 0, 1) := by decide +kernel
theorem dX7_addsPhrase_128 : decode cX7_addsPhrase 128 = .ok (.iastore, 1) := by decide +kernel
theorem dX7_addsPhrase_129 : decode cX7_addsPhrase 129 = .ok (.iinc 4 1, 3) := by decide +kernel
theorem dX7_addsPhrase_132 : decode cX7_addsPhrase 132 = .ok (.goto (-25), 3) := by decide +kernel
theorem dX7_addsPhrase_135 : decode cX7_addsPhrase 135 = .ok (.aload_n 0, 1) := by decide +kernel
theorem dX7_addsPhrase_136 : decode cX7_addsPhrase 136 = .ok (.getfield 7, 3) := by decide +kernel
theorem dX7_addsPhrase_139 : decode cX7_addsPhrase 139 = .ok (.iconst 0, 1) := by decide +kernel
theorem dX7_addsPhrase_140 : decode cX7_addsPhrase 140 = .ok (.dup2, 1) := by decide +kernel
theorem dX7_addsPhrase_141 : decode cX7_addsPhrase 141 = .ok (.iaload, 1) := by decide +kernel
theorem dX7_addsPhrase_142 : decode cX7_addsPhrase 142 = .ok (.iconst 1, 1) := by decide +kernel
theorem dX7_addsPhrase_143 : decode cX7_addsPhrase 143 = .ok (.iadd, 1) := by decide +kernel
theorem dX7_addsPhrase_144 : decode cX7_addsPhrase 144 = .ok (.iastore, 1) := by decide +kernel
theorem dX7_addsPhrase_145 : decode cX7_addsPhrase 145 = .ok (.iload_n 3, 1) := by decide +kernel
theorem dX7_addsPhrase_146 : decode cX7_addsPhrase 146 = .ok (.ireturn, 1) := by decide +kernel
theorem dX7_dropsPhrase_0 : decode cX7_dropsPhrase 0 = .ok (.aload_n 0, 1) := by decide +kernel
theorem dX7_dropsPhrase_1 : decode cX7_dropsPhrase 1 = .ok (.iload_n 1, 1) := by decide +kernel
theorem dX7_dropsPhrase_2 : decode cX7_dropsPhrase 2 = .ok (.invokevirtual 78, 3) := by decide +kernel
theorem dX7_dropsPhrase_5 : decode cX7_dropsPhrase 5 = .ok (.ifCond .ne 6, 3) := by decide +kernel
theorem dX7_dropsPhrase_8 : decode cX7_dropsPhrase 8 = .ok (.bipush (-2), 2) := by decide +kernel
theorem dX7_dropsPhrase_10 : decode cX7_dropsPhrase 10 = .ok (.ireturn, 1) := by decide +kernel
theorem dX7_dropsPhrase_11 : decode cX7_dropsPhrase 11 = .ok (.aload_n 0, 1) := by decide +kernel
theorem dX7_dropsPhrase_12 : decode cX7_dropsPhrase 12 = .ok (.getfield 7, 3) := by decide +kernel
theorem dX7_dropsPhrase_15 : decode cX7_dropsPhrase 15 = .ok (.iconst 0, 1) := by decide +kernel
theorem dX7_dropsPhrase_16 : decode cX7_dropsPhrase 16 = .ok (.dup2, 1) := by decide +kernel
theorem dX7_dropsPhrase_17 : decode cX7_dropsPhrase 17 = .ok (.iaload, 1) := by decide +kernel
theorem dX7_dropsPhrase_18 : decode cX7_dropsPhrase 18 = .ok (.iconst 1, 1) := by decide +kernel
theorem dX7_dropsPhrase_19 : decode cX7_dropsPhrase 19 = .ok (.isub, 1) := by decide +kernel
theorem dX7_dropsPhrase_20 : decode cX7_dropsPhrase 20 = .ok (.iastore, 1) := by decide +kernel
theorem dX7_dropsPhrase_21 : decode cX7_dropsPhrase 21 = .ok (.iload_n 1, 1) := by decide +kernel
theorem dX7_dropsPhrase_22 : decode cX7_dropsPhrase 22 = .ok (.istore_n 2, 1) := by decide +kernel
theorem dX7_dropsPhrase_23 : decode cX7_dropsPhrase 23 = .ok (.iload_n 2, 1) := by decide +kernel
theorem dX7_dropsPhrase_24 : decode cX7_dropsPhrase 24 = .ok (.aload_n 0, 1) := by decide +kernel
theorem dX7_dropsPhrase_25 : decode cX7_dropsPhrase 25 = .ok (.getfield 7, 3) := by decide +kernel
theorem dX7_dropsPhrase_28 : decode cX7_dropsPhrase 28 = .ok (.iconst 0, 1) := by decide +kernel
theorem dX7_dropsPhrase_29 : decode cX7_dropsPhrase 29 = .ok (.iaload, 1) := by decide +kernel
theorem dX7_dropsPhrase_30 : decode cX7_dropsPhrase 30 = .ok (.if_icmp .ge 92, 3) := by decide +kernel
theorem dX7_dropsPhrase_33 : decode cX7_dropsPhrase 33 = .ok (.aload_n 0, 1) := by decide +kernel
theorem dX7_dropsPhrase_34 : decode cX7_dropsPhrase 34 = .ok (.getfield 7, 3) := by decide +kernel
theorem dX7_dropsPhrase_37 : decode cX7_dropsPhrase 37 = .ok (.bipush 9, 2) := by decide +kernel
theorem dX7_dropsPhrase_39 : decode cX7_dropsPhrase 39 = .ok (.iload_n 2, 1) := by decide +kernel
theorem dX7_dropsPhrase_40 : decode cX7_dropsPhrase 40 = .ok (.iadd, 1) := by decide +kernel
theorem dX7_dropsPhrase_41 : decode cX7_dropsPhrase 41 = .ok (.aload_n 0, 1) := by decide +kernel
theorem dX7_dropsPhrase_42 : decode cX7_dropsPhrase 42 = .ok (.getfield 7, 3) := by decide +kernel
theorem dX7_dropsPhrase_45 : decode cX7_dropsPhrase 45 = .ok (.bipush 9, 2) := by decide +kernel
theorem dX7_dropsPhrase_47 : decode cX7_dropsPhrase 47 = .ok (.iload_n 2, 1) := by decide +kernel
theorem dX7_dropsPhrase_48 : decode cX7_dropsPhrase 48 = .ok (.iadd, 1) := by decide +kernel
theorem dX7_dropsPhrase_49 : decode cX7_dropsPhrase 49 = .ok (.iconst 1, 1) := by decide +kernel
theorem dX7_dropsPhrase_50 : decode cX7_dropsPhrase 50 = .ok (.iadd, 1) := by decide +kernel
theorem dX7_dropsPhrase_51 : decode cX7_dropsPhrase 51 = .ok (.iaload, 1) := by decide +kernel
theorem dX7_dropsPhrase_52 : decode cX7_dropsPhrase 52 = .ok (.iastore, 1) := by decide +kernel
theorem dX7_dropsPhrase_53 : decode cX7_dropsPhrase 53 = .ok (.aload_n 0, 1) := by decide +kernel
theorem dX7_dropsPhrase_54 : decode cX7_dropsPhrase 54 = .ok (.getfield 7, 3) := by decide +kernel
theorem dX7_dropsPhrase_57 : decode cX7_dropsPhrase 57 = .ok (.bipush 21, 2) := by decide +kernel
theorem dX7_dropsPhrase_59 : decode cX7_dropsPhrase 59 = .ok (.iload_n 2, 1) := by decide +kernel
theorem dX7_dropsPhrase_60 : decode cX7_dropsPhrase 60 = .ok (.iadd, 1) := by decide +kernel
theorem dX7_dropsPhrase_61 : decode cX7_dropsPhrase 61 = .ok (.aload_n 0, 1) := by decide +kernel
theorem dX7_dropsPhrase_62 : decode cX7_dropsPhrase 62 = .ok (.getfield 7, 3) := by decide +kernel
theorem dX7_dropsPhrase_65 : decode cX7_dropsPhrase 65 = .ok (.bipush 21, 2) := by decide +kernel
theorem dX7_dropsPhrase_67 : decode cX7_dropsPhrase 67 = .ok (.iload_n 2, 1) := by decide +kernel
theorem dX7_dropsPhrase_68 : decode cX7_dropsPhrase 68 = .ok (.iadd, 1) := by decide +kernel
theorem dX7_dropsPhrase_69 : decode cX7_dropsPhrase 69 = .ok (.iconst 1, 1) := by decide +kernel
theorem dX7_dropsPhrase_70 : decode cX7_dropsPhrase 70 = .ok (.iadd, 1) := by decide +kernel
theorem dX7_dropsPhrase_71 : decode cX7_dropsPhrase 71 = .ok (.iaload, 1) := by decide +kernel
theorem dX7_dropsPhrase_72 : decode cX7_dropsPhrase 72 = .ok (.iastore, 1) := by decide +kernel
theorem dX7_dropsPhrase_73 : decode cX7_dropsPhrase 73 = .ok (.iconst 0, 1) := by decide +kernel
theorem dX7_dropsPhrase_74 : decode cX7_dropsPhrase 74 = .ok (.istore_n 3, 1) := by decide +kernel
theorem dX7_dropsPhrase_75 : decode cX7_dropsPhrase 75 = .ok (.iload_n 3, 1) := by decide +kernel
theorem dX7_dropsPhrase_76 : decode cX7_dropsPhrase 76 = .ok (.iconst 3, 1) := by decide +kernel
theorem dX7_dropsPhrase_77 : decode cX7_dropsPhrase 77 = .ok (.if_icmp .ge 39, 3) := by decide +kernel
theorem dX7_dropsPhrase_80 : decode cX7_dropsPhrase 80 = .ok (.aload_n 0, 1) := by decide +kernel
theorem dX7_dropsPhrase_81 : decode cX7_dropsPhrase 81 = .ok (.getfield 7, 3) := by decide +kernel
theorem dX7_dropsPhrase_84 : decode cX7_dropsPhrase 84 = .ok (.bipush 33, 2) := by decide +kernel
theorem dX7_dropsPhrase_86 : decode cX7_dropsPhrase 86 = .ok (.bipush 12, 2) := by decide +kernel
theorem dX7_dropsPhrase_88 : decode cX7_dropsPhrase 88 = .ok (.iload_n 3, 1) := by decide +kernel
theorem dX7_dropsPhrase_89 : decode cX7_dropsPhrase 89 = .ok (.imul, 1) := by decide +kernel
theorem dX7_dropsPhrase_90 : decode cX7_dropsPhrase 90 = .ok (.iadd, 1) := by decide +kernel
theorem dX7_dropsPhrase_91 : decode cX7_dropsPhrase 91 = .ok (.iload_n 2, 1) := by decide +kernel
theorem dX7_dropsPhrase_92 : decode cX7_dropsPhrase 92 = .ok (.iadd, 1) := by decide +kernel
theorem dX7_dropsPhrase_93 : decode cX7_dropsPhrase 93 = .ok (.aload_n 0, 1) := by decide +kernel
theorem dX7_dropsPhrase_94 : decode cX7_dropsPhrase 94 = .ok (.getfield 7, 3) := by decide +kernel
theorem dX7_dropsPhrase_97 : decode cX7_dropsPhrase 97 = .ok (.bipush 33, 2) := by decide +kernel
theorem dX7_dropsPhrase_99 : decode cX7_dropsPhrase 99 = .ok (.bipush 12, 2) := by decide +kernel
theorem dX7_dropsPhrase_101 : decode cX7_dropsPhrase 101 = .ok (.iload_n 3, 1) := by decide +kernel
theorem dX7_dropsPhrase_102 : decode cX7_dropsPhrase 102 = .ok (.imul, 1) := by decide +kernel
theorem dX7_dropsPhrase_103 : decode cX7_dropsPhrase 103 = .ok (.iadd, 1) := by decide +kernel
theorem dX7_dropsPhrase_104 : decode cX7_dropsPhrase 104 = .ok (.iload_n 2, 1) := by decide +kernel
theorem dX7_dropsPhrase_105 : decode cX7_dropsPhrase 105 = .ok (.iadd, 1) := by decide +kernel
theorem dX7_dropsPhrase_106 : decode cX7_dropsPhrase 106 = .ok (.iconst 1, 1) := by decide +kernel
theorem dX7_dropsPhrase_107 : decode cX7_dropsPhrase 107 = .ok (.iadd, 1) := by decide +kernel
theorem dX7_dropsPhrase_108 : decode cX7_dropsPhrase 108 = .ok (.iaload, 1) := by decide +kernel
theorem dX7_dropsPhrase_109 : decode cX7_dropsPhrase 109 = .ok (.iastore, 1) := by decide +kernel
theorem dX7_dropsPhrase_110 : decode cX7_dropsPhrase 110 = .ok (.iinc 3 1, 3) := by decide +kernel
theorem dX7_dropsPhrase_113 : decode cX7_dropsPhrase 113 = .ok (.goto (-38), 3) := by decide +kernel
theorem dX7_dropsPhrase_116 : decode cX7_dropsPhrase 116 = .ok (.iinc 2 1, 3) := by decide +kernel
theorem dX7_dropsPhrase_119 : decode cX7_dropsPhrase 119 = .ok (.goto (-96), 3) := by decide +kernel
theorem dX7_dropsPhrase_122 : decode cX7_dropsPhrase 122 = .ok (.aload_n 0, 1) := by decide +kernel
theorem dX7_dropsPhrase_123 : decode cX7_dropsPhrase 123 = .ok (.getfield 7, 3) := by decide +kernel
theorem dX7_dropsPhrase_126 : decode cX7_dropsPhrase 126 = .ok (.iconst 0, 1) := by decide +kernel
theorem dX7_dropsPhrase_127 : decode cX7_dropsPhrase 127 = .ok (.iaload, 1) := by decide +kernel
theorem dX7_dropsPhrase_128 : decode cX7_dropsPhrase 128 = .ok (.ireturn, 1) := by decide +kernel
theorem dX7_sets_0 : decode cX7_sets 0 = .ok (.iload_n 2, 1) := by decide +kernel
theorem dX7_sets_1 : decode cX7_sets 1 = .ok (.i2l, 1) := by decide +kernel
theorem dX7_sets_2 : decode cX7_sets 2 = .ok (.iload_n 3, 1) := by decide +kernel
theorem dX7_sets_3 : decode cX7_sets 3 = .ok (.i2l, 1) := by decide +kernel
theorem dX7_sets_4 : decode cX7_sets 4 = .ok (.iload 4, 2) := by decide +kernel
theorem dX7_sets_6 : decode cX7_sets 6 = .ok (.i2l, 1) := by decide +kernel
theorem dX7_sets_7 : decode cX7_sets 7 = .ok (.invokestatic 47, 3) := by decide +kernel
theorem dX7_sets_10 : decode cX7_sets 10 = .ok (.ifCond .ne 6, 3) := by decide +kernel
theorem dX7_sets_13 : decode cX7_sets 13 = .ok (.bipush (-2), 2) := by decide +kernel
theorem dX7_sets_15 : decode cX7_sets 15 = .ok (.ireturn, 1) := by decide +kernel
theorem dX7_sets_16 : decode cX7_sets 16 = .ok (.aload_n 0, 1) := by decide +kernel
theorem dX7_sets_17 : decode cX7_sets 17 = .ok (.getfield 7, 3) := by decide +kernel
theorem dX7_sets_20 : decode cX7_sets 20 = .ok (.iload_n 1, 1) := by decide +kernel
theorem dX7_sets_21 : decode cX7_sets 21 = .ok (.iaload, 1) := by decide +kernel
theorem dX7_sets_22 : decode cX7_sets 22 = .ok (.istore 5, 2) := by decide +kernel
theorem dX7_sets_24 : decode cX7_sets 24 = .ok (.aload_n 0, 1) := by decide +kernel
theorem dX7_sets_25 : decode cX7_sets 25 = .ok (.getfield 7, 3) := by decide +kernel
theorem dX7_sets_28 : decode cX7_sets 28 = .ok (.iload_n 1, 1) := by decide +kernel
theorem dX7_sets_29 : decode cX7_sets 29 = .ok (.iload_n 2, 1) := by decide +kernel
theorem dX7_sets_30 : decode cX7_sets 30 = .ok (.iastore, 1) := by decide +kernel
theorem dX7_sets_31 : decode cX7_sets 31 = .ok (.iload 5, 2) := by decide +kernel
theorem dX7_sets_33 : decode cX7_sets 33 = .ok (.ireturn, 1) := by decide +kernel
theorem dX7_setsFollows_0 : decode cX7_setsFollows 0 = .ok (.iload_n 1, 1) := by decide +kernel
theorem dX7_setsFollows_1 : decode cX7_setsFollows 1 = .ok (.i2l, 1) := by decide +kernel
theorem dX7_setsFollows_2 : decode cX7_setsFollows 2 = .ok (.lconst 0, 1) := by decide +kernel
theorem dX7_setsFollows_3 : decode cX7_setsFollows 3 = .ok (.ldc2_w 72, 3) := by decide +kernel
theorem dX7_setsFollows_6 : decode cX7_setsFollows 6 = .ok (.invokestatic 47, 3) := by decide +kernel
theorem dX7_setsFollows_9 : decode cX7_setsFollows 9 = .ok (.ifCond .eq 17, 3) := by decide +kernel
theorem dX7_setsFollows_12 : decode cX7_setsFollows 12 = .ok (.aload_n 0, 1) := by decide +kernel
theorem dX7_setsFollows_13 : decode cX7_setsFollows 13 = .ok (.iconst 5, 1) := by decide +kernel
theorem dX7_setsFollows_14 : decode cX7_setsFollows 14 = .ok (.iload_n 1, 1) := by decide +kernel
theorem dX7_setsFollows_15 : decode cX7_setsFollows 15 = .ok (.iadd, 1) := by decide +kernel
theorem dX7_setsFollows_16 : decode cX7_setsFollows 16 = .ok (.iload_n 2, 1) := by decide +kernel
theorem dX7_setsFollows_17 : decode cX7_setsFollows 17 = .ok (.iconst 0, 1) := by decide +kernel
theorem dX7_setsFollows_18 : decode cX7_setsFollows 18 = .ok (.bipush 15, 2) := by decide +kernel
theorem dX7_setsFollows_20 : decode cX7_setsFollows 20 = .ok (.invokevirtual 81, 3) := by decide +kernel
theorem dX7_setsFollows_23 : decode cX7_setsFollows 23 = .ok (.goto 5, 3) := by decide +kernel
theorem dX7_setsFollows_26 : decode cX7_setsFollows 26 = .ok (.bipush (-2), 2) := by decide +kernel
theorem dX7_setsFollows_28 : decode cX7_setsFollows 28 = .ok (.ireturn, 1) := by decide +kernel
theorem dX7_setsMark_0 : decode cX7_setsMark 0 = .ok (.iload_n 1, 1) := by decide +kernel
theorem dX7_setsMark_1 : decode cX7_setsMark 1 = .ok (.i2l, 1) := by decide +kernel
theorem dX7_setsMark_2 : decode cX7_setsMark 2 = .ok (.lconst 1, 1) := by decide +kernel
theorem dX7_setsMark_3 : decode cX7_setsMark 3 = .ok (.ldc2_w 85, 3) := by decide +kernel
theorem dX7_setsMark_6 : decode cX7_setsMark 6 = .ok (.invokestatic 47, 3) := by decide +kernel
theorem dX7_setsMark_9 : decode cX7_setsMark 9 = .ok (.ifCond .eq 17, 3) := by decide +kernel
theorem dX7_setsMark_12 : decode cX7_setsMark 12 = .ok (.aload_n 0, 1) := by decide +kernel
theorem dX7_setsMark_13 : decode cX7_setsMark 13 = .ok (.bipush 108, 2) := by decide +kernel
theorem dX7_setsMark_15 : decode cX7_setsMark 15 = .ok (.iload_n 1, 1) := by decide +kernel
theorem dX7_setsMark_16 : decode cX7_setsMark 16 = .ok (.iadd, 1) := by decide +kernel
theorem dX7_setsMark_17 : decode cX7_setsMark 17 = .ok (.iload_n 2, 1) := by decide +kernel
theorem dX7_setsMark_18 : decode cX7_setsMark 18 = .ok (.iconst 0, 1) := by decide +kernel
theorem dX7_setsMark_19 : decode cX7_setsMark 19 = .ok (.iconst 2, 1) := by decide +kernel
theorem dX7_setsMark_20 : decode cX7_setsMark 20 = .ok (.invokevirtual 81, 3) := by decide +kernel
theorem dX7_setsMark_23 : decode cX7_setsMark 23 = .ok (.goto 5, 3) := by decide +kernel
theorem dX7_setsMark_26 : decode cX7_setsMark 26 = .ok (.bipush (-2), 2) := by decide +kernel
theorem dX7_setsMark_28 : decode cX7_setsMark 28 = .ok (.ireturn, 1) := by decide +kernel
theorem dX7_phrase_0 : decode cX7_phrase 0 = .ok (.aload_n 0, 1) := by decide +kernel
theorem dX7_phrase_1 : decode cX7_phrase 1 = .ok (.invokevirtual 87, 3) := by decide +kernel
theorem dX7_phrase_4 : decode cX7_phrase 4 = .ok (.aload_n 0, 1) := by decide +kernel
theorem dX7_phrase_5 : decode cX7_phrase 5 = .ok (.aload_n 0, 1) := by decide +kernel
theorem dX7_phrase_6 : decode cX7_phrase 6 = .ok (.iload_n 1, 1) := by decide +kernel
theorem dX7_phrase_7 : decode cX7_phrase 7 = .ok (.iload_n 2, 1) := by decide +kernel
theorem dX7_phrase_8 : decode cX7_phrase 8 = .ok (.invokevirtual 90, 3) := by decide +kernel
theorem dX7_phrase_11 : decode cX7_phrase 11 = .ok (.invokevirtual 94, 3) := by decide +kernel
theorem dX7_phrase_14 : decode cX7_phrase 14 = .ok (.ireturn, 1) := by decide +kernel
theorem dX7_drops_0 : decode cX7_drops 0 = .ok (.aload_n 0, 1) := by decide +kernel
theorem dX7_drops_1 : decode cX7_drops 1 = .ok (.invokevirtual 87, 3) := by decide +kernel
theorem dX7_drops_4 : decode cX7_drops 4 = .ok (.aload_n 0, 1) := by decide +kernel
theorem dX7_drops_5 : decode cX7_drops 5 = .ok (.aload_n 0, 1) := by decide +kernel
theorem dX7_drops_6 : decode cX7_drops 6 = .ok (.iload_n 1, 1) := by decide +kernel
theorem dX7_drops_7 : decode cX7_drops 7 = .ok (.invokevirtual 98, 3) := by decide +kernel
theorem dX7_drops_10 : decode cX7_drops 10 = .ok (.invokevirtual 94, 3) := by decide +kernel
theorem dX7_drops_13 : decode cX7_drops 13 = .ok (.ireturn, 1) := by decide +kernel
theorem dX7_begins_0 : decode cX7_begins 0 = .ok (.aload_n 0, 1) := by decide +kernel
theorem dX7_begins_1 : decode cX7_begins 1 = .ok (.invokevirtual 87, 3) := by decide +kernel
theorem dX7_begins_4 : decode cX7_begins 4 = .ok (.aload_n 0, 1) := by decide +kernel
theorem dX7_begins_5 : decode cX7_begins 5 = .ok (.aload_n 0, 1) := by decide +kernel
theorem dX7_begins_6 : decode cX7_begins 6 = .ok (.iconst 3, 1) := by decide +kernel
theorem dX7_begins_7 : decode cX7_begins 7 = .ok (.iload_n 1, 1) := by decide +kernel
theorem dX7_begins_8 : decode cX7_begins 8 = .ok (.iconst 0, 1) := by decide +kernel
theorem dX7_begins_9 : decode cX7_begins 9 = .ok (.bipush 15, 2) := by decide +kernel
theorem dX7_begins_11 : decode cX7_begins 11 = .ok (.invokevirtual 81, 3) := by decide +kernel
theorem dX7_begins_14 : decode cX7_begins 14 = .ok (.invokevirtual 94, 3) := by decide +kernel
theorem dX7_begins_17 : decode cX7_begins 17 = .ok (.ireturn, 1) := by decide +kernel
theorem dX7_ends_0 : decode cX7_ends 0 = .ok (.aload_n 0, 1) := by decide +kernel
theorem dX7_ends_1 : decode cX7_ends 1 = .ok (.invokevirtual 87, 3) := by decide +kernel
theorem dX7_ends_4 : decode cX7_ends 4 = .ok (.aload_n 0, 1) := by decide +kernel
theorem dX7_ends_5 : decode cX7_ends 5 = .ok (.aload_n 0, 1) := by decide +kernel
theorem dX7_ends_6 : decode cX7_ends 6 = .ok (.iconst 4, 1) := by decide +kernel
theorem dX7_ends_7 : decode cX7_ends 7 = .ok (.iload_n 1, 1) := by decide +kernel
theorem dX7_ends_8 : decode cX7_ends 8 = .ok (.iconst 0, 1) := by decide +kernel
theorem dX7_ends_9 : decode cX7_ends 9 = .ok (.bipush 15, 2) := by decide +kernel
theorem dX7_ends_11 : decode cX7_ends 11 = .ok (.invokevirtual 81, 3) := by decide +kernel
theorem dX7_ends_14 : decode cX7_ends 14 = .ok (.invokevirtual 94, 3) := by decide +kernel
theorem dX7_ends_17 : decode cX7_ends 17 = .ok (.ireturn, 1) := by decide +kernel
theorem dX7_follows_0 : decode cX7_follows 0 = .ok (.aload_n 0, 1) := by decide +kernel
theorem dX7_follows_1 : decode cX7_follows 1 = .ok (.invokevirtual 87, 3) := by decide +kernel
theorem dX7_follows_4 : decode cX7_follows 4 = .ok (.aload_n 0, 1) := by decide +kernel
theorem dX7_follows_5 : decode cX7_follows 5 = .ok (.aload_n 0, 1) := by decide +kernel
theorem dX7_follows_6 : decode cX7_follows 6 = .ok (.iload_n 1, 1) := by decide +kernel
theorem dX7_follows_7 : decode cX7_follows 7 = .ok (.iload_n 2, 1) := by decide +kernel
theorem dX7_follows_8 : decode cX7_follows 8 = .ok (.invokevirtual 101, 3) := by decide +kernel
theorem dX7_follows_11 : decode cX7_follows 11 = .ok (.invokevirtual 94, 3) := by decide +kernel
theorem dX7_follows_14 : decode cX7_follows 14 = .ok (.ireturn, 1) := by decide +kernel
theorem dX7_metre_0 : decode cX7_metre 0 = .ok (.aload_n 0, 1) := by decide +kernel
theorem dX7_metre_1 : decode cX7_metre 1 = .ok (.invokevirtual 87, 3) := by decide +kernel
theorem dX7_metre_4 : decode cX7_metre 4 = .ok (.aload_n 0, 1) := by decide +kernel
theorem dX7_metre_5 : decode cX7_metre 5 = .ok (.aload_n 0, 1) := by decide +kernel
theorem dX7_metre_6 : decode cX7_metre 6 = .ok (.iconst 2, 1) := by decide +kernel
theorem dX7_metre_7 : decode cX7_metre 7 = .ok (.iload_n 1, 1) := by decide +kernel
theorem dX7_metre_8 : decode cX7_metre 8 = .ok (.iconst 1, 1) := by decide +kernel
theorem dX7_metre_9 : decode cX7_metre 9 = .ok (.bipush 40, 2) := by decide +kernel
theorem dX7_metre_11 : decode cX7_metre 11 = .ok (.invokevirtual 81, 3) := by decide +kernel
theorem dX7_metre_14 : decode cX7_metre 14 = .ok (.invokevirtual 94, 3) := by decide +kernel
theorem dX7_metre_17 : decode cX7_metre 17 = .ok (.ireturn, 1) := by decide +kernel
theorem dX7_marks_0 : decode cX7_marks 0 = .ok (.aload_n 0, 1) := by decide +kernel
theorem dX7_marks_1 : decode cX7_marks 1 = .ok (.invokevirtual 87, 3) := by decide +kernel
theorem dX7_marks_4 : decode cX7_marks 4 = .ok (.aload_n 0, 1) := by decide +kernel
theorem dX7_marks_5 : decode cX7_marks 5 = .ok (.aload_n 0, 1) := by decide +kernel
theorem dX7_marks_6 : decode cX7_marks 6 = .ok (.iload_n 1, 1) := by decide +kernel
theorem dX7_marks_7 : decode cX7_marks 7 = .ok (.iload_n 2, 1) := by decide +kernel
theorem dX7_marks_8 : decode cX7_marks 8 = .ok (.invokevirtual 104, 3) := by decide +kernel
theorem dX7_marks_11 : decode cX7_marks 11 = .ok (.invokevirtual 94, 3) := by decide +kernel
theorem dX7_marks_14 : decode cX7_marks 14 = .ok (.ireturn, 1) := by decide +kernel
theorem dX7_habitOf_0 : decode cX7_habitOf 0 = .ok (.aload_n 0, 1) := by decide +kernel
theorem dX7_habitOf_1 : decode cX7_habitOf 1 = .ok (.getfield 7, 3) := by decide +kernel
theorem dX7_habitOf_4 : decode cX7_habitOf 4 = .ok (.bipush 33, 2) := by decide +kernel
theorem dX7_habitOf_6 : decode cX7_habitOf 6 = .ok (.bipush 12, 2) := by decide +kernel
theorem dX7_habitOf_8 : decode cX7_habitOf 8 = .ok (.iload_n 1, 1) := by decide +kernel
theorem dX7_habitOf_9 : decode cX7_habitOf 9 = .ok (.imul, 1) := by decide +kernel
theorem dX7_habitOf_10 : decode cX7_habitOf 10 = .ok (.iadd, 1) := by decide +kernel
theorem dX7_habitOf_11 : decode cX7_habitOf 11 = .ok (.iload_n 2, 1) := by decide +kernel
theorem dX7_habitOf_12 : decode cX7_habitOf 12 = .ok (.iadd, 1) := by decide +kernel
theorem dX7_habitOf_13 : decode cX7_habitOf 13 = .ok (.iaload, 1) := by decide +kernel
theorem dX7_habitOf_14 : decode cX7_habitOf 14 = .ok (.ireturn, 1) := by decide +kernel
theorem dX7_tellPhrase_0 : decode cX7_tellPhrase 0 = .ok (.iload_n 2, 1) := by decide +kernel
theorem dX7_tellPhrase_1 : decode cX7_tellPhrase 1 = .ok (.tableswitch 77 0 3 #[31, 41, 54, 67], 31) := by decide +kernel
theorem dX7_tellPhrase_32 : decode cX7_tellPhrase 32 = .ok (.aload_n 0, 1) := by decide +kernel
theorem dX7_tellPhrase_33 : decode cX7_tellPhrase 33 = .ok (.getfield 7, 3) := by decide +kernel
theorem dX7_tellPhrase_36 : decode cX7_tellPhrase 36 = .ok (.bipush 9, 2) := by decide +kernel
theorem dX7_tellPhrase_38 : decode cX7_tellPhrase 38 = .ok (.iload_n 1, 1) := by decide +kernel
theorem dX7_tellPhrase_39 : decode cX7_tellPhrase 39 = .ok (.iadd, 1) := by decide +kernel
theorem dX7_tellPhrase_40 : decode cX7_tellPhrase 40 = .ok (.iaload, 1) := by decide +kernel
theorem dX7_tellPhrase_41 : decode cX7_tellPhrase 41 = .ok (.ireturn, 1) := by decide +kernel
theorem dX7_tellPhrase_42 : decode cX7_tellPhrase 42 = .ok (.aload_n 0, 1) := by decide +kernel
theorem dX7_tellPhrase_43 : decode cX7_tellPhrase 43 = .ok (.getfield 7, 3) := by decide +kernel
theorem dX7_tellPhrase_46 : decode cX7_tellPhrase 46 = .ok (.bipush 21, 2) := by decide +kernel
theorem dX7_tellPhrase_48 : decode cX7_tellPhrase 48 = .ok (.iload_n 1, 1) := by decide +kernel
theorem dX7_tellPhrase_49 : decode cX7_tellPhrase 49 = .ok (.iadd, 1) := by decide +kernel
theorem dX7_tellPhrase_50 : decode cX7_tellPhrase 50 = .ok (.iaload, 1) := by decide +kernel
theorem dX7_tellPhrase_51 : decode cX7_tellPhrase 51 = .ok (.invokestatic 107, 3) := by decide +kernel
theorem dX7_tellPhrase_54 : decode cX7_tellPhrase 54 = .ok (.ireturn, 1) := by decide +kernel
theorem dX7_tellPhrase_55 : decode cX7_tellPhrase 55 = .ok (.aload_n 0, 1) := by decide +kernel
theorem dX7_tellPhrase_56 : decode cX7_tellPhrase 56 = .ok (.getfield 7, 3) := by decide +kernel
theorem dX7_tellPhrase_59 : decode cX7_tellPhrase 59 = .ok (.bipush 21, 2) := by decide +kernel
theorem dX7_tellPhrase_61 : decode cX7_tellPhrase 61 = .ok (.iload_n 1, 1) := by decide +kernel
theorem dX7_tellPhrase_62 : decode cX7_tellPhrase 62 = .ok (.iadd, 1) := by decide +kernel
theorem dX7_tellPhrase_63 : decode cX7_tellPhrase 63 = .ok (.iaload, 1) := by decide +kernel
theorem dX7_tellPhrase_64 : decode cX7_tellPhrase 64 = .ok (.invokestatic 110, 3) := by decide +kernel
theorem dX7_tellPhrase_67 : decode cX7_tellPhrase 67 = .ok (.ireturn, 1) := by decide +kernel
theorem dX7_tellPhrase_68 : decode cX7_tellPhrase 68 = .ok (.aload_n 0, 1) := by decide +kernel
theorem dX7_tellPhrase_69 : decode cX7_tellPhrase 69 = .ok (.getfield 7, 3) := by decide +kernel
theorem dX7_tellPhrase_72 : decode cX7_tellPhrase 72 = .ok (.bipush 21, 2) := by decide +kernel
theorem dX7_tellPhrase_74 : decode cX7_tellPhrase 74 = .ok (.iload_n 1, 1) := by decide +kernel
theorem dX7_tellPhrase_75 : decode cX7_tellPhrase 75 = .ok (.iadd, 1) := by decide +kernel
theorem dX7_tellPhrase_76 : decode cX7_tellPhrase 76 = .ok (.iaload, 1) := by decide +kernel
theorem dX7_tellPhrase_77 : decode cX7_tellPhrase 77 = .ok (.ireturn, 1) := by decide +kernel
theorem dX7_tellPhrase_78 : decode cX7_tellPhrase 78 = .ok (.aload_n 0, 1) := by decide +kernel
theorem dX7_tellPhrase_79 : decode cX7_tellPhrase 79 = .ok (.iload_n 2, 1) := by decide +kernel
theorem dX7_tellPhrase_80 : decode cX7_tellPhrase 80 = .ok (.iconst 4, 1) := by decide +kernel
theorem dX7_tellPhrase_81 : decode cX7_tellPhrase 81 = .ok (.isub, 1) := by decide +kernel
theorem dX7_tellPhrase_82 : decode cX7_tellPhrase 82 = .ok (.iload_n 1, 1) := by decide +kernel
theorem dX7_tellPhrase_83 : decode cX7_tellPhrase 83 = .ok (.invokevirtual 113, 3) := by decide +kernel
theorem dX7_tellPhrase_86 : decode cX7_tellPhrase 86 = .ok (.ireturn, 1) := by decide +kernel
theorem dX7_of_0 : decode cX7_of 0 = .ok (.aload_n 0, 1) := by decide +kernel
theorem dX7_of_1 : decode cX7_of 1 = .ok (.iload_n 1, 1) := by decide +kernel
theorem dX7_of_2 : decode cX7_of 2 = .ok (.invokevirtual 78, 3) := by decide +kernel
theorem dX7_of_5 : decode cX7_of 5 = .ok (.ifCond .eq 24, 3) := by decide +kernel
theorem dX7_of_8 : decode cX7_of 8 = .ok (.iload_n 2, 1) := by decide +kernel
theorem dX7_of_9 : decode cX7_of 9 = .ok (.i2l, 1) := by decide +kernel
theorem dX7_of_10 : decode cX7_of 10 = .ok (.lconst 0, 1) := by decide +kernel
theorem dX7_of_11 : decode cX7_of 11 = .ok (.ldc2_w 116, 3) := by decide +kernel
theorem dX7_of_14 : decode cX7_of 14 = .ok (.invokestatic 47, 3) := by decide +kernel
theorem dX7_of_17 : decode cX7_of 17 = .ok (.ifCond .eq 12, 3) := by decide +kernel
theorem dX7_of_20 : decode cX7_of 20 = .ok (.aload_n 0, 1) := by decide +kernel
theorem dX7_of_21 : decode cX7_of 21 = .ok (.iload_n 1, 1) := by decide +kernel
theorem dX7_of_22 : decode cX7_of 22 = .ok (.iload_n 2, 1) := by decide +kernel
theorem dX7_of_23 : decode cX7_of 23 = .ok (.invokevirtual 118, 3) := by decide +kernel
theorem dX7_of_26 : decode cX7_of 26 = .ok (.goto 7, 3) := by decide +kernel
theorem dX7_of_29 : decode cX7_of 29 = .ok (.aload_n 0, 1) := by decide +kernel
theorem dX7_of_30 : decode cX7_of 30 = .ok (.invokevirtual 65, 3) := by decide +kernel
theorem dX7_of_33 : decode cX7_of 33 = .ok (.ireturn, 1) := by decide +kernel
theorem dX7_letter_0 : decode cX7_letter 0 = .ok (.iload_n 1, 1) := by decide +kernel
theorem dX7_letter_1 : decode cX7_letter 1 = .ok (.i2l, 1) := by decide +kernel
theorem dX7_letter_2 : decode cX7_letter 2 = .ok (.lconst 1, 1) := by decide +kernel
theorem dX7_letter_3 : decode cX7_letter 3 = .ok (.ldc2_w 70, 3) := by decide +kernel
theorem dX7_letter_6 : decode cX7_letter 6 = .ok (.invokestatic 47, 3) := by decide +kernel
theorem dX7_letter_9 : decode cX7_letter 9 = .ok (.ifCond .ne 8, 3) := by decide +kernel
theorem dX7_letter_12 : decode cX7_letter 12 = .ok (.aload_n 0, 1) := by decide +kernel
theorem dX7_letter_13 : decode cX7_letter 13 = .ok (.invokevirtual 65, 3) := by decide +kernel
theorem dX7_letter_16 : decode cX7_letter 16 = .ok (.ireturn, 1) := by decide +kernel
theorem dX7_letter_17 : decode cX7_letter 17 = .ok (.aload_n 0, 1) := by decide +kernel
theorem dX7_letter_18 : decode cX7_letter 18 = .ok (.getfield 7, 3) := by decide +kernel
theorem dX7_letter_21 : decode cX7_letter 21 = .ok (.iconst 1, 1) := by decide +kernel
theorem dX7_letter_22 : decode cX7_letter 22 = .ok (.iaload, 1) := by decide +kernel
theorem dX7_letter_23 : decode cX7_letter 23 = .ok (.bipush 40, 2) := by decide +kernel
theorem dX7_letter_25 : decode cX7_letter 25 = .ok (.if_icmp .ne 8, 3) := by decide +kernel
theorem dX7_letter_28 : decode cX7_letter 28 = .ok (.aload_n 0, 1) := by decide +kernel
theorem dX7_letter_29 : decode cX7_letter 29 = .ok (.invokevirtual 62, 3) := by decide +kernel
theorem dX7_letter_32 : decode cX7_letter 32 = .ok (.ireturn, 1) := by decide +kernel
theorem dX7_letter_33 : decode cX7_letter 33 = .ok (.aload_n 0, 1) := by decide +kernel
theorem dX7_letter_34 : decode cX7_letter 34 = .ok (.invokevirtual 87, 3) := by decide +kernel
theorem dX7_letter_37 : decode cX7_letter 37 = .ok (.aload_n 0, 1) := by decide +kernel
theorem dX7_letter_38 : decode cX7_letter 38 = .ok (.getfield 7, 3) := by decide +kernel
theorem dX7_letter_41 : decode cX7_letter 41 = .ok (.bipush 69, 2) := by decide +kernel
theorem dX7_letter_43 : decode cX7_letter 43 = .ok (.aload_n 0, 1) := by decide +kernel
theorem dX7_letter_44 : decode cX7_letter 44 = .ok (.getfield 7, 3) := by decide +kernel
theorem dX7_letter_47 : decode cX7_letter 47 = .ok (.iconst 1, 1) := by decide +kernel
theorem dX7_letter_48 : decode cX7_letter 48 = .ok (.iaload, 1) := by decide +kernel
theorem dX7_letter_49 : decode cX7_letter 49 = .ok (.iadd, 1) := by decide +kernel
theorem dX7_letter_50 : decode cX7_letter 50 = .ok (.iload_n 1, 1) := by decide +kernel
theorem dX7_letter_51 : decode cX7_letter 51 = .ok (.iastore, 1) := by decide +kernel
theorem dX7_letter_52 : decode cX7_letter 52 = .ok (.aload_n 0, 1) := by decide +kernel
theorem dX7_letter_53 : decode cX7_letter 53 = .ok (.getfield 7, 3) := by decide +kernel
theorem dX7_letter_56 : decode cX7_letter 56 = .ok (.iconst 1, 1) := by decide +kernel
theorem dX7_letter_57 : decode cX7_letter 57 = .ok (.dup2, 1) := by decide +kernel
theorem dX7_letter_58 : decode cX7_letter 58 = .ok (.iaload, 1) := by decide +kernel
theorem dX7_letter_59 : decode cX7_letter 59 = .ok (.iconst 1, 1) := by decide +kernel
theorem dX7_letter_60 : decode cX7_letter 60 = .ok (.iadd, 1) := by decide +kernel
theorem dX7_letter_61 : decode cX7_letter 61 = .ok (.iastore, 1) := by decide +kernel
theorem dX7_letter_62 : decode cX7_letter 62 = .ok (.aload_n 0, 1) := by decide +kernel
theorem dX7_letter_63 : decode cX7_letter 63 = .ok (.invokevirtual 59, 3) := by decide +kernel
theorem dX7_letter_66 : decode cX7_letter 66 = .ok (.aload_n 0, 1) := by decide +kernel
theorem dX7_letter_67 : decode cX7_letter 67 = .ok (.getfield 7, 3) := by decide +kernel
theorem dX7_letter_70 : decode cX7_letter 70 = .ok (.iconst 1, 1) := by decide +kernel
theorem dX7_letter_71 : decode cX7_letter 71 = .ok (.iaload, 1) := by decide +kernel
theorem dX7_letter_72 : decode cX7_letter 72 = .ok (.ireturn, 1) := by decide +kernel
theorem dX7_wipes_0 : decode cX7_wipes 0 = .ok (.aload_n 0, 1) := by decide +kernel
theorem dX7_wipes_1 : decode cX7_wipes 1 = .ok (.invokevirtual 87, 3) := by decide +kernel
theorem dX7_wipes_4 : decode cX7_wipes 4 = .ok (.aload_n 0, 1) := by decide +kernel
theorem dX7_wipes_5 : decode cX7_wipes 5 = .ok (.getfield 7, 3) := by decide +kernel
theorem dX7_wipes_8 : decode cX7_wipes 8 = .ok (.iconst 1, 1) := by decide +kernel
theorem dX7_wipes_9 : decode cX7_wipes 9 = .ok (.iaload, 1) := by decide +kernel
theorem dX7_wipes_10 : decode cX7_wipes 10 = .ok (.istore_n 1, 1) := by decide +kernel
theorem dX7_wipes_11 : decode cX7_wipes 11 = .ok (.aload_n 0, 1) := by decide +kernel
theorem dX7_wipes_12 : decode cX7_wipes 12 = .ok (.getfield 7, 3) := by decide +kernel
theorem dX7_wipes_15 : decode cX7_wipes 15 = .ok (.iconst 1, 1) := by decide +kernel
theorem dX7_wipes_16 : decode cX7_wipes 16 = .ok (.iconst 0, 1) := by decide +kernel
theorem dX7_wipes_17 : decode cX7_wipes 17 = .ok (.iastore, 1) := by decide +kernel
theorem dX7_wipes_18 : decode cX7_wipes 18 = .ok (.aload_n 0, 1) := by decide +kernel
theorem dX7_wipes_19 : decode cX7_wipes 19 = .ok (.invokevirtual 59, 3) := by decide +kernel
theorem dX7_wipes_22 : decode cX7_wipes 22 = .ok (.iload_n 1, 1) := by decide +kernel
theorem dX7_wipes_23 : decode cX7_wipes 23 = .ok (.ireturn, 1) := by decide +kernel
theorem dX7_lastPlace_0 : decode cX7_lastPlace 0 = .ok (.aload_n 0, 1) := by decide +kernel
theorem dX7_lastPlace_1 : decode cX7_lastPlace 1 = .ok (.getfield 121, 3) := by decide +kernel
theorem dX7_lastPlace_4 : decode cX7_lastPlace 4 = .ok (.ifCond .eq 12, 3) := by decide +kernel
theorem dX7_lastPlace_7 : decode cX7_lastPlace 7 = .ok (.aload_n 0, 1) := by decide +kernel
theorem dX7_lastPlace_8 : decode cX7_lastPlace 8 = .ok (.getfield 7, 3) := by decide +kernel
theorem dX7_lastPlace_11 : decode cX7_lastPlace 11 = .ok (.iconst 1, 1) := by decide +kernel
theorem dX7_lastPlace_12 : decode cX7_lastPlace 12 = .ok (.iaload, 1) := by decide +kernel
theorem dX7_lastPlace_13 : decode cX7_lastPlace 13 = .ok (.goto 9, 3) := by decide +kernel
theorem dX7_lastPlace_16 : decode cX7_lastPlace 16 = .ok (.aload_n 0, 1) := by decide +kernel
theorem dX7_lastPlace_17 : decode cX7_lastPlace 17 = .ok (.getfield 7, 3) := by decide +kernel
theorem dX7_lastPlace_20 : decode cX7_lastPlace 20 = .ok (.iconst 2, 1) := by decide +kernel
theorem dX7_lastPlace_21 : decode cX7_lastPlace 21 = .ok (.iaload, 1) := by decide +kernel
theorem dX7_lastPlace_22 : decode cX7_lastPlace 22 = .ok (.ireturn, 1) := by decide +kernel
theorem dX7_standsAhead_0 : decode cX7_standsAhead 0 = .ok (.iload_n 2, 1) := by decide +kernel
theorem dX7_standsAhead_1 : decode cX7_standsAhead 1 = .ok (.istore_n 3, 1) := by decide +kernel
theorem dX7_standsAhead_2 : decode cX7_standsAhead 2 = .ok (.iconst 1, 1) := by decide +kernel
theorem dX7_standsAhead_3 : decode cX7_standsAhead 3 = .ok (.istore 4, 2) := by decide +kernel
theorem dX7_standsAhead_5 : decode cX7_standsAhead 5 = .ok (.aload_n 0, 1) := by decide +kernel
theorem dX7_standsAhead_6 : decode cX7_standsAhead 6 = .ok (.getfield 7, 3) := by decide +kernel
theorem dX7_standsAhead_9 : decode cX7_standsAhead 9 = .ok (.bipush 21, 2) := by decide +kernel
theorem dX7_standsAhead_11 : decode cX7_standsAhead 11 = .ok (.iload_n 1, 1) := by decide +kernel
theorem dX7_standsAhead_12 : decode cX7_standsAhead 12 = .ok (.iadd, 1) := by decide +kernel
theorem dX7_standsAhead_13 : decode cX7_standsAhead 13 = .ok (.iaload, 1) := by decide +kernel
theorem dX7_standsAhead_14 : decode cX7_standsAhead 14 = .ok (.istore 5, 2) := by decide +kernel
theorem dX7_standsAhead_16 : decode cX7_standsAhead 16 = .ok (.iload 5, 2) := by decide +kernel
theorem dX7_standsAhead_18 : decode cX7_standsAhead 18 = .ok (.ifCond .le 45, 3) := by decide +kernel
theorem dX7_standsAhead_21 : decode cX7_standsAhead 21 = .ok (.iload 4, 2) := by decide +kernel
theorem dX7_standsAhead_23 : decode cX7_standsAhead 23 = .ok (.ifCond .eq 40, 3) := by decide +kernel
theorem dX7_standsAhead_26 : decode cX7_standsAhead 26 = .ok (.iinc 3 (-1), 3) := by decide +kernel
theorem dX7_standsAhead_29 : decode cX7_standsAhead 29 = .ok (.aload_n 0, 1) := by decide +kernel
theorem dX7_standsAhead_30 : decode cX7_standsAhead 30 = .ok (.getfield 7, 3) := by decide +kernel
theorem dX7_standsAhead_33 : decode cX7_standsAhead 33 = .ok (.bipush 69, 2) := by decide +kernel
theorem dX7_standsAhead_35 : decode cX7_standsAhead 35 = .ok (.iload_n 3, 1) := by decide +kernel
theorem dX7_standsAhead_36 : decode cX7_standsAhead 36 = .ok (.iadd, 1) := by decide +kernel
theorem dX7_standsAhead_37 : decode cX7_standsAhead 37 = .ok (.iaload, 1) := by decide +kernel
theorem dX7_standsAhead_38 : decode cX7_standsAhead 38 = .ok (.iload 5, 2) := by decide +kernel
theorem dX7_standsAhead_40 : decode cX7_standsAhead 40 = .ok (.bipush 10, 2) := by decide +kernel
theorem dX7_standsAhead_42 : decode cX7_standsAhead 42 = .ok (.irem, 1) := by decide +kernel
theorem dX7_standsAhead_43 : decode cX7_standsAhead 43 = .ok (.if_icmp .ne 7, 3) := by decide +kernel
theorem dX7_standsAhead_46 : decode cX7_standsAhead 46 = .ok (.iconst 1, 1) := by decide +kernel
theorem dX7_standsAhead_47 : decode cX7_standsAhead 47 = .ok (.goto 4, 3) := by decide +kernel
theorem dX7_standsAhead_50 : decode cX7_standsAhead 50 = .ok (.iconst 0, 1) := by decide +kernel
theorem dX7_standsAhead_51 : decode cX7_standsAhead 51 = .ok (.istore 4, 2) := by decide +kernel
theorem dX7_standsAhead_53 : decode cX7_standsAhead 53 = .ok (.iload 5, 2) := by decide +kernel
theorem dX7_standsAhead_55 : decode cX7_standsAhead 55 = .ok (.bipush 10, 2) := by decide +kernel
theorem dX7_standsAhead_57 : decode cX7_standsAhead 57 = .ok (.idiv, 1) := by decide +kernel
theorem dX7_standsAhead_58 : decode cX7_standsAhead 58 = .ok (.istore 5, 2) := by decide +kernel
theorem dX7_standsAhead_60 : decode cX7_standsAhead 60 = .ok (.goto (-44), 3) := by decide +kernel
theorem dX7_standsAhead_63 : decode cX7_standsAhead 63 = .ok (.iload 4, 2) := by decide +kernel
theorem dX7_standsAhead_65 : decode cX7_standsAhead 65 = .ok (.ireturn, 1) := by decide +kernel
theorem dX7_isMark_0 : decode cX7_isMark 0 = .ok (.iload_n 1, 1) := by decide +kernel
theorem dX7_isMark_1 : decode cX7_isMark 1 = .ok (.aload_n 0, 1) := by decide +kernel
theorem dX7_isMark_2 : decode cX7_isMark 2 = .ok (.getfield 7, 3) := by decide +kernel
theorem dX7_isMark_5 : decode cX7_isMark 5 = .ok (.iconst 2, 1) := by decide +kernel
theorem dX7_isMark_6 : decode cX7_isMark 6 = .ok (.iaload, 1) := by decide +kernel
theorem dX7_isMark_7 : decode cX7_isMark 7 = .ok (.if_icmp .ge 24, 3) := by decide +kernel
theorem dX7_isMark_10 : decode cX7_isMark 10 = .ok (.iload_n 1, 1) := by decide +kernel
theorem dX7_isMark_11 : decode cX7_isMark 11 = .ok (.ifCond .le 20, 3) := by decide +kernel
theorem dX7_isMark_14 : decode cX7_isMark 14 = .ok (.aload_n 0, 1) := by decide +kernel
theorem dX7_isMark_15 : decode cX7_isMark 15 = .ok (.getfield 7, 3) := by decide +kernel
theorem dX7_isMark_18 : decode cX7_isMark 18 = .ok (.bipush 108, 2) := by decide +kernel
theorem dX7_isMark_20 : decode cX7_isMark 20 = .ok (.iload_n 1, 1) := by decide +kernel
theorem dX7_isMark_21 : decode cX7_isMark 21 = .ok (.iadd, 1) := by decide +kernel
theorem dX7_isMark_22 : decode cX7_isMark 22 = .ok (.iaload, 1) := by decide +kernel
theorem dX7_isMark_23 : decode cX7_isMark 23 = .ok (.iload_n 2, 1) := by decide +kernel
theorem dX7_isMark_24 : decode cX7_isMark 24 = .ok (.if_icmp .ne 7, 3) := by decide +kernel
theorem dX7_isMark_27 : decode cX7_isMark 27 = .ok (.iconst 1, 1) := by decide +kernel
theorem dX7_isMark_28 : decode cX7_isMark 28 = .ok (.goto 4, 3) := by decide +kernel
theorem dX7_isMark_31 : decode cX7_isMark 31 = .ok (.iconst 0, 1) := by decide +kernel
theorem dX7_isMark_32 : decode cX7_isMark 32 = .ok (.ireturn, 1) := by decide +kernel
theorem dX7_leads_0 : decode cX7_leads 0 = .ok (.iload_n 2, 1) := by decide +kernel
theorem dX7_leads_1 : decode cX7_leads 1 = .ok (.aload_n 0, 1) := by decide +kernel
theorem dX7_leads_2 : decode cX7_leads 2 = .ok (.getfield 121, 3) := by decide +kernel
theorem dX7_leads_5 : decode cX7_leads 5 = .ok (.ifCond .eq 18, 3) := by decide +kernel
theorem dX7_leads_8 : decode cX7_leads 8 = .ok (.aload_n 0, 1) := by decide +kernel
theorem dX7_leads_9 : decode cX7_leads 9 = .ok (.getfield 7, 3) := by decide +kernel
theorem dX7_leads_12 : decode cX7_leads 12 = .ok (.bipush 21, 2) := by decide +kernel
theorem dX7_leads_14 : decode cX7_leads 14 = .ok (.iload_n 1, 1) := by decide +kernel
theorem dX7_leads_15 : decode cX7_leads 15 = .ok (.iadd, 1) := by decide +kernel
theorem dX7_leads_16 : decode cX7_leads 16 = .ok (.iaload, 1) := by decide +kernel
theorem dX7_leads_17 : decode cX7_leads 17 = .ok (.invokestatic 107, 3) := by decide +kernel
theorem dX7_leads_20 : decode cX7_leads 20 = .ok (.goto 15, 3) := by decide +kernel
theorem dX7_leads_23 : decode cX7_leads 23 = .ok (.aload_n 0, 1) := by decide +kernel
theorem dX7_leads_24 : decode cX7_leads 24 = .ok (.getfield 7, 3) := by decide +kernel
theorem dX7_leads_27 : decode cX7_leads 27 = .ok (.bipush 21, 2) := by decide +kernel
theorem dX7_leads_29 : decode cX7_leads 29 = .ok (.iload_n 1, 1) := by decide +kernel
theorem dX7_leads_30 : decode cX7_leads 30 = .ok (.iadd, 1) := by decide +kernel
theorem dX7_leads_31 : decode cX7_leads 31 = .ok (.iaload, 1) := by decide +kernel
theorem dX7_leads_32 : decode cX7_leads 32 = .ok (.invokestatic 110, 3) := by decide +kernel
theorem dX7_leads_35 : decode cX7_leads 35 = .ok (.iadd, 1) := by decide +kernel
theorem dX7_leads_36 : decode cX7_leads 36 = .ok (.istore_n 3, 1) := by decide +kernel
theorem dX7_leads_37 : decode cX7_leads 37 = .ok (.iload_n 3, 1) := by decide +kernel
theorem dX7_leads_38 : decode cX7_leads 38 = .ok (.aload_n 0, 1) := by decide +kernel
theorem dX7_leads_39 : decode cX7_leads 39 = .ok (.invokevirtual 125, 3) := by decide +kernel
theorem dX7_leads_42 : decode cX7_leads 42 = .ok (.if_icmp .le 5, 3) := by decide +kernel
theorem dX7_leads_45 : decode cX7_leads 45 = .ok (.iconst (-1), 1) := by decide +kernel
theorem dX7_leads_46 : decode cX7_leads 46 = .ok (.ireturn, 1) := by decide +kernel
theorem dX7_leads_47 : decode cX7_leads 47 = .ok (.aload_n 0, 1) := by decide +kernel
theorem dX7_leads_48 : decode cX7_leads 48 = .ok (.getfield 121, 3) := by decide +kernel
theorem dX7_leads_51 : decode cX7_leads 51 = .ok (.ifCond .eq 18, 3) := by decide +kernel
theorem dX7_leads_54 : decode cX7_leads 54 = .ok (.aload_n 0, 1) := by decide +kernel
theorem dX7_leads_55 : decode cX7_leads 55 = .ok (.iload_n 1, 1) := by decide +kernel
theorem dX7_leads_56 : decode cX7_leads 56 = .ok (.iload_n 3, 1) := by decide +kernel
theorem dX7_leads_57 : decode cX7_leads 57 = .ok (.invokevirtual 128, 3) := by decide +kernel
theorem dX7_leads_60 : decode cX7_leads 60 = .ok (.ifCond .eq 7, 3) := by decide +kernel
theorem dX7_leads_63 : decode cX7_leads 63 = .ok (.iload_n 3, 1) := by decide +kernel
theorem dX7_leads_64 : decode cX7_leads 64 = .ok (.goto 4, 3) := by decide +kernel
theorem dX7_leads_67 : decode cX7_leads 67 = .ok (.iconst (-1), 1) := by decide +kernel
theorem dX7_leads_68 : decode cX7_leads 68 = .ok (.ireturn, 1) := by decide +kernel
theorem dX7_leads_69 : decode cX7_leads 69 = .ok (.aload_n 0, 1) := by decide +kernel
theorem dX7_leads_70 : decode cX7_leads 70 = .ok (.iload_n 3, 1) := by decide +kernel
theorem dX7_leads_71 : decode cX7_leads 71 = .ok (.iconst 2, 1) := by decide +kernel
theorem dX7_leads_72 : decode cX7_leads 72 = .ok (.invokevirtual 132, 3) := by decide +kernel
theorem dX7_leads_75 : decode cX7_leads 75 = .ok (.ifCond .ne 7, 3) := by decide +kernel
theorem dX7_leads_78 : decode cX7_leads 78 = .ok (.iconst 1, 1) := by decide +kernel
theorem dX7_leads_79 : decode cX7_leads 79 = .ok (.goto 4, 3) := by decide +kernel
theorem dX7_leads_82 : decode cX7_leads 82 = .ok (.iconst 0, 1) := by decide +kernel
theorem dX7_leads_83 : decode cX7_leads 83 = .ok (.istore 4, 2) := by decide +kernel
theorem dX7_leads_85 : decode cX7_leads 85 = .ok (.iload_n 2, 1) := by decide +kernel
theorem dX7_leads_86 : decode cX7_leads 86 = .ok (.iconst 1, 1) := by decide +kernel
theorem dX7_leads_87 : decode cX7_leads 87 = .ok (.iadd, 1) := by decide +kernel
theorem dX7_leads_88 : decode cX7_leads 88 = .ok (.istore 5, 2) := by decide +kernel
theorem dX7_leads_90 : decode cX7_leads 90 = .ok (.iload 5, 2) := by decide +kernel
theorem dX7_leads_92 : decode cX7_leads 92 = .ok (.iload_n 3, 1) := by decide +kernel
theorem dX7_leads_93 : decode cX7_leads 93 = .ok (.if_icmp .ge 31, 3) := by decide +kernel
theorem dX7_leads_96 : decode cX7_leads 96 = .ok (.iload 4, 2) := by decide +kernel
theorem dX7_leads_98 : decode cX7_leads 98 = .ok (.ifCond .eq 17, 3) := by decide +kernel
theorem dX7_leads_101 : decode cX7_leads 101 = .ok (.aload_n 0, 1) := by decide +kernel
theorem dX7_leads_102 : decode cX7_leads 102 = .ok (.iload 5, 2) := by decide +kernel
theorem dX7_leads_104 : decode cX7_leads 104 = .ok (.iconst 1, 1) := by decide +kernel
theorem dX7_leads_105 : decode cX7_leads 105 = .ok (.invokevirtual 132, 3) := by decide +kernel
theorem dX7_leads_108 : decode cX7_leads 108 = .ok (.ifCond .ne 7, 3) := by decide +kernel
theorem dX7_leads_111 : decode cX7_leads 111 = .ok (.iconst 1, 1) := by decide +kernel
theorem dX7_leads_112 : decode cX7_leads 112 = .ok (.goto 4, 3) := by decide +kernel
theorem dX7_leads_115 : decode cX7_leads 115 = .ok (.iconst 0, 1) := by decide +kernel
theorem dX7_leads_116 : decode cX7_leads 116 = .ok (.istore 4, 2) := by decide +kernel
theorem dX7_leads_118 : decode cX7_leads 118 = .ok (.iinc 5 1, 3) := by decide +kernel
theorem dX7_leads_121 : decode cX7_leads 121 = .ok (.goto (-31), 3) := by decide +kernel
theorem dX7_leads_124 : decode cX7_leads 124 = .ok (.iload 4, 2) := by decide +kernel
theorem dX7_leads_126 : decode cX7_leads 126 = .ok (.ifCond .eq 7, 3) := by decide +kernel
theorem dX7_leads_129 : decode cX7_leads 129 = .ok (.iload_n 3, 1) := by decide +kernel
theorem dX7_leads_130 : decode cX7_leads 130 = .ok (.goto 4, 3) := by decide +kernel
theorem dX7_leads_133 : decode cX7_leads 133 = .ok (.iconst (-1), 1) := by decide +kernel
theorem dX7_leads_134 : decode cX7_leads 134 = .ok (.ireturn, 1) := by decide +kernel
theorem dX7_weightOf_0 : decode cX7_weightOf 0 = .ok (.iload_n 1, 1) := by decide +kernel
theorem dX7_weightOf_1 : decode cX7_weightOf 1 = .ok (.ifCond .ge 7, 3) := by decide +kernel
theorem dX7_weightOf_4 : decode cX7_weightOf 4 = .ok (.iconst 1, 1) := by decide +kernel
theorem dX7_weightOf_5 : decode cX7_weightOf 5 = .ok (.goto 11, 3) := by decide +kernel
theorem dX7_weightOf_8 : decode cX7_weightOf 8 = .ok (.aload_n 0, 1) := by decide +kernel
theorem dX7_weightOf_9 : decode cX7_weightOf 9 = .ok (.iload_n 1, 1) := by decide +kernel
theorem dX7_weightOf_10 : decode cX7_weightOf 10 = .ok (.iload_n 2, 1) := by decide +kernel
theorem dX7_weightOf_11 : decode cX7_weightOf 11 = .ok (.invokevirtual 113, 3) := by decide +kernel
theorem dX7_weightOf_14 : decode cX7_weightOf 14 = .ok (.iconst 1, 1) := by decide +kernel
theorem dX7_weightOf_15 : decode cX7_weightOf 15 = .ok (.iadd, 1) := by decide +kernel
theorem dX7_weightOf_16 : decode cX7_weightOf 16 = .ok (.ireturn, 1) := by decide +kernel
theorem dX7_more_0 : decode cX7_more 0 = .ok (.lload 5, 2) := by decide +kernel
theorem dX7_more_2 : decode cX7_more 2 = .ok (.lconst 0, 1) := by decide +kernel
theorem dX7_more_3 : decode cX7_more 3 = .ok (.lcmp, 1) := by decide +kernel
theorem dX7_more_4 : decode cX7_more 4 = .ok (.ifCond .le 34, 3) := by decide +kernel
theorem dX7_more_7 : decode cX7_more 7 = .ok (.lload_n 3, 1) := by decide +kernel
theorem dX7_more_8 : decode cX7_more 8 = .ok (.ldc2_w 135, 3) := by decide +kernel
theorem dX7_more_11 : decode cX7_more 11 = .ok (.lload 5, 2) := by decide +kernel
theorem dX7_more_13 : decode cX7_more 13 = .ok (.ldiv, 1) := by decide +kernel
theorem dX7_more_14 : decode cX7_more 14 = .ok (.lcmp, 1) := by decide +kernel
theorem dX7_more_15 : decode cX7_more 15 = .ok (.ifCond .gt 16, 3) := by decide +kernel
theorem dX7_more_18 : decode cX7_more 18 = .ok (.lload_n 3, 1) := by decide +kernel
theorem dX7_more_19 : decode cX7_more 19 = .ok (.lload 5, 2) := by decide +kernel
theorem dX7_more_21 : decode cX7_more 21 = .ok (.lmul, 1) := by decide +kernel
theorem dX7_more_22 : decode cX7_more 22 = .ok (.ldc2_w 135, 3) := by decide +kernel
theorem dX7_more_25 : decode cX7_more 25 = .ok (.lload_n 1, 1) := by decide +kernel
theorem dX7_more_26 : decode cX7_more 26 = .ok (.lsub, 1) := by decide +kernel
theorem dX7_more_27 : decode cX7_more 27 = .ok (.lcmp, 1) := by decide +kernel
theorem dX7_more_28 : decode cX7_more 28 = .ok (.ifCond .le 10, 3) := by decide +kernel
theorem dX7_more_31 : decode cX7_more 31 = .ok (.aload_n 0, 1) := by decide +kernel
theorem dX7_more_32 : decode cX7_more 32 = .ok (.iconst 1, 1) := by decide +kernel
theorem dX7_more_33 : decode cX7_more 33 = .ok (.putfield 137, 3) := by decide +kernel
theorem dX7_more_36 : decode cX7_more 36 = .ok (.lload_n 1, 1) := by decide +kernel
theorem dX7_more_37 : decode cX7_more 37 = .ok (.lreturn, 1) := by decide +kernel
theorem dX7_more_38 : decode cX7_more 38 = .ok (.lload_n 1, 1) := by decide +kernel
theorem dX7_more_39 : decode cX7_more 39 = .ok (.lload_n 3, 1) := by decide +kernel
theorem dX7_more_40 : decode cX7_more 40 = .ok (.lload 5, 2) := by decide +kernel
theorem dX7_more_42 : decode cX7_more 42 = .ok (.lmul, 1) := by decide +kernel
theorem dX7_more_43 : decode cX7_more 43 = .ok (.ladd, 1) := by decide +kernel
theorem dX7_more_44 : decode cX7_more 44 = .ok (.lreturn, 1) := by decide +kernel
theorem dX7_sumFrom_0 : decode cX7_sumFrom 0 = .ok (.lconst 0, 1) := by decide +kernel
theorem dX7_sumFrom_1 : decode cX7_sumFrom 1 = .ok (.lstore 4, 2) := by decide +kernel
theorem dX7_sumFrom_3 : decode cX7_sumFrom 3 = .ok (.iconst 0, 1) := by decide +kernel
theorem dX7_sumFrom_4 : decode cX7_sumFrom 4 = .ok (.istore 6, 2) := by decide +kernel
theorem dX7_sumFrom_6 : decode cX7_sumFrom 6 = .ok (.iload 6, 2) := by decide +kernel
theorem dX7_sumFrom_8 : decode cX7_sumFrom 8 = .ok (.aload_n 0, 1) := by decide +kernel
theorem dX7_sumFrom_9 : decode cX7_sumFrom 9 = .ok (.getfield 7, 3) := by decide +kernel
theorem dX7_sumFrom_12 : decode cX7_sumFrom 12 = .ok (.iconst 0, 1) := by decide +kernel
theorem dX7_sumFrom_13 : decode cX7_sumFrom 13 = .ok (.iaload, 1) := by decide +kernel
theorem dX7_sumFrom_14 : decode cX7_sumFrom 14 = .ok (.if_icmp .ge 81, 3) := by decide +kernel
theorem dX7_sumFrom_17 : decode cX7_sumFrom 17 = .ok (.iload_n 2, 1) := by decide +kernel
theorem dX7_sumFrom_18 : decode cX7_sumFrom 18 = .ok (.aload_n 0, 1) := by decide +kernel
theorem dX7_sumFrom_19 : decode cX7_sumFrom 19 = .ok (.getfield 7, 3) := by decide +kernel
theorem dX7_sumFrom_22 : decode cX7_sumFrom 22 = .ok (.bipush 9, 2) := by decide +kernel
theorem dX7_sumFrom_24 : decode cX7_sumFrom 24 = .ok (.iload 6, 2) := by decide +kernel
theorem dX7_sumFrom_26 : decode cX7_sumFrom 26 = .ok (.iadd, 1) := by decide +kernel
theorem dX7_sumFrom_27 : decode cX7_sumFrom 27 = .ok (.iaload, 1) := by decide +kernel
theorem dX7_sumFrom_28 : decode cX7_sumFrom 28 = .ok (.invokestatic 140, 3) := by decide +kernel
theorem dX7_sumFrom_31 : decode cX7_sumFrom 31 = .ok (.ifCond .eq 13, 3) := by decide +kernel
theorem dX7_sumFrom_34 : decode cX7_sumFrom 34 = .ok (.aload_n 0, 1) := by decide +kernel
theorem dX7_sumFrom_35 : decode cX7_sumFrom 35 = .ok (.iload 6, 2) := by decide +kernel
theorem dX7_sumFrom_37 : decode cX7_sumFrom 37 = .ok (.iload_n 1, 1) := by decide +kernel
theorem dX7_sumFrom_38 : decode cX7_sumFrom 38 = .ok (.invokevirtual 143, 3) := by decide +kernel
theorem dX7_sumFrom_41 : decode cX7_sumFrom 41 = .ok (.goto 4, 3) := by decide +kernel
theorem dX7_sumFrom_44 : decode cX7_sumFrom 44 = .ok (.iconst (-1), 1) := by decide +kernel
theorem dX7_sumFrom_45 : decode cX7_sumFrom 45 = .ok (.istore 7, 2) := by decide +kernel
theorem dX7_sumFrom_47 : decode cX7_sumFrom 47 = .ok (.iload 7, 2) := by decide +kernel
theorem dX7_sumFrom_49 : decode cX7_sumFrom 49 = .ok (.iconst (-1), 1) := by decide +kernel
theorem dX7_sumFrom_50 : decode cX7_sumFrom 50 = .ok (.if_icmp .eq 39, 3) := by decide +kernel
theorem dX7_sumFrom_53 : decode cX7_sumFrom 53 = .ok (.aload_n 0, 1) := by decide +kernel
theorem dX7_sumFrom_54 : decode cX7_sumFrom 54 = .ok (.lload 4, 2) := by decide +kernel
theorem dX7_sumFrom_56 : decode cX7_sumFrom 56 = .ok (.aload_n 0, 1) := by decide +kernel
theorem dX7_sumFrom_57 : decode cX7_sumFrom 57 = .ok (.iload_n 3, 1) := by decide +kernel
theorem dX7_sumFrom_58 : decode cX7_sumFrom 58 = .ok (.iload 6, 2) := by decide +kernel
theorem dX7_sumFrom_60 : decode cX7_sumFrom 60 = .ok (.invokevirtual 146, 3) := by decide +kernel
theorem dX7_sumFrom_63 : decode cX7_sumFrom 63 = .ok (.i2l, 1) := by decide +kernel
theorem dX7_sumFrom_64 : decode cX7_sumFrom 64 = .ok (.aload_n 0, 1) := by decide +kernel
theorem dX7_sumFrom_65 : decode cX7_sumFrom 65 = .ok (.getfield 25, 3) := by decide +kernel
theorem dX7_sumFrom_68 : decode cX7_sumFrom 68 = .ok (.iconst 4, 1) := by decide +kernel
theorem dX7_sumFrom_69 : decode cX7_sumFrom 69 = .ok (.iload 7, 2) := by decide +kernel
theorem dX7_sumFrom_71 : decode cX7_sumFrom 71 = .ok (.imul, 1) := by decide +kernel
theorem dX7_sumFrom_72 : decode cX7_sumFrom 72 = .ok (.aload_n 0, 1) := by decide +kernel
theorem dX7_sumFrom_73 : decode cX7_sumFrom 73 = .ok (.getfield 7, 3) := by decide +kernel
theorem dX7_sumFrom_76 : decode cX7_sumFrom 76 = .ok (.bipush 9, 2) := by decide +kernel
theorem dX7_sumFrom_78 : decode cX7_sumFrom 78 = .ok (.iload 6, 2) := by decide +kernel
theorem dX7_sumFrom_80 : decode cX7_sumFrom 80 = .ok (.iadd, 1) := by decide +kernel
theorem dX7_sumFrom_81 : decode cX7_sumFrom 81 = .ok (.iaload, 1) := by decide +kernel
theorem dX7_sumFrom_82 : decode cX7_sumFrom 82 = .ok (.iadd, 1) := by decide +kernel
theorem dX7_sumFrom_83 : decode cX7_sumFrom 83 = .ok (.laload, 1) := by decide +kernel
theorem dX7_sumFrom_84 : decode cX7_sumFrom 84 = .ok (.invokevirtual 149, 3) := by decide +kernel
theorem dX7_sumFrom_87 : decode cX7_sumFrom 87 = .ok (.lstore 4, 2) := by decide +kernel
theorem dX7_sumFrom_89 : decode cX7_sumFrom 89 = .ok (.iinc 6 1, 3) := by decide +kernel
theorem dX7_sumFrom_92 : decode cX7_sumFrom 92 = .ok (.goto (-86), 3) := by decide +kernel
theorem dX7_sumFrom_95 : decode cX7_sumFrom 95 = .ok (.lload 4, 2) := by decide +kernel
theorem dX7_sumFrom_97 : decode cX7_sumFrom 97 = .ok (.lreturn, 1) := by decide +kernel
theorem dX7_laysWays_0 : decode cX7_laysWays 0 = .ok (.aload_n 0, 1) := by decide +kernel
theorem dX7_laysWays_1 : decode cX7_laysWays 1 = .ok (.iload_n 1, 1) := by decide +kernel
theorem dX7_laysWays_2 : decode cX7_laysWays 2 = .ok (.putfield 121, 3) := by decide +kernel
theorem dX7_laysWays_5 : decode cX7_laysWays 5 = .ok (.aload_n 0, 1) := by decide +kernel
theorem dX7_laysWays_6 : decode cX7_laysWays 6 = .ok (.iconst 0, 1) := by decide +kernel
theorem dX7_laysWays_7 : decode cX7_laysWays 7 = .ok (.putfield 137, 3) := by decide +kernel
theorem dX7_laysWays_10 : decode cX7_laysWays 10 = .ok (.aload_n 0, 1) := by decide +kernel
theorem dX7_laysWays_11 : decode cX7_laysWays 11 = .ok (.invokevirtual 125, 3) := by decide +kernel
theorem dX7_laysWays_14 : decode cX7_laysWays 14 = .ok (.istore_n 3, 1) := by decide +kernel
theorem dX7_laysWays_15 : decode cX7_laysWays 15 = .ok (.iload_n 3, 1) := by decide +kernel
theorem dX7_laysWays_16 : decode cX7_laysWays 16 = .ok (.istore 4, 2) := by decide +kernel
theorem dX7_laysWays_18 : decode cX7_laysWays 18 = .ok (.iload 4, 2) := by decide +kernel
theorem dX7_laysWays_20 : decode cX7_laysWays 20 = .ok (.ifCond .le 103, 3) := by decide +kernel
theorem dX7_laysWays_23 : decode cX7_laysWays 23 = .ok (.iconst 0, 1) := by decide +kernel
theorem dX7_laysWays_24 : decode cX7_laysWays 24 = .ok (.istore 5, 2) := by decide +kernel
theorem dX7_laysWays_26 : decode cX7_laysWays 26 = .ok (.iload 5, 2) := by decide +kernel
theorem dX7_laysWays_28 : decode cX7_laysWays 28 = .ok (.iconst 4, 1) := by decide +kernel
theorem dX7_laysWays_29 : decode cX7_laysWays 29 = .ok (.if_icmp .ge 88, 3) := by decide +kernel
theorem dX7_laysWays_32 : decode cX7_laysWays 32 = .ok (.iload_n 1, 1) := by decide +kernel
theorem dX7_laysWays_33 : decode cX7_laysWays 33 = .ok (.ifCond .ne 17, 3) := by decide +kernel
theorem dX7_laysWays_36 : decode cX7_laysWays 36 = .ok (.aload_n 0, 1) := by decide +kernel
theorem dX7_laysWays_37 : decode cX7_laysWays 37 = .ok (.iload 4, 2) := by decide +kernel
theorem dX7_laysWays_39 : decode cX7_laysWays 39 = .ok (.iconst 2, 1) := by decide +kernel
theorem dX7_laysWays_40 : decode cX7_laysWays 40 = .ok (.invokevirtual 132, 3) := by decide +kernel
theorem dX7_laysWays_43 : decode cX7_laysWays 43 = .ok (.ifCond .eq 7, 3) := by decide +kernel
theorem dX7_laysWays_46 : decode cX7_laysWays 46 = .ok (.iconst 1, 1) := by decide +kernel
theorem dX7_laysWays_47 : decode cX7_laysWays 47 = .ok (.goto 4, 3) := by decide +kernel
theorem dX7_laysWays_50 : decode cX7_laysWays 50 = .ok (.iconst 0, 1) := by decide +kernel
theorem dX7_laysWays_51 : decode cX7_laysWays 51 = .ok (.istore 6, 2) := by decide +kernel
theorem dX7_laysWays_53 : decode cX7_laysWays 53 = .ok (.aload_n 0, 1) := by decide +kernel
theorem dX7_laysWays_54 : decode cX7_laysWays 54 = .ok (.getfield 25, 3) := by decide +kernel
theorem dX7_laysWays_57 : decode cX7_laysWays 57 = .ok (.iconst 4, 1) := by decide +kernel
theorem dX7_laysWays_58 : decode cX7_laysWays 58 = .ok (.iload 4, 2) := by decide +kernel
theorem dX7_laysWays_60 : decode cX7_laysWays 60 = .ok (.imul, 1) := by decide +kernel
theorem dX7_laysWays_61 : decode cX7_laysWays 61 = .ok (.iload 5, 2) := by decide +kernel
theorem dX7_laysWays_63 : decode cX7_laysWays 63 = .ok (.iadd, 1) := by decide +kernel
theorem dX7_laysWays_64 : decode cX7_laysWays 64 = .ok (.iload 4, 2) := by decide +kernel
theorem dX7_laysWays_66 : decode cX7_laysWays 66 = .ok (.iload_n 3, 1) := by decide +kernel
theorem dX7_laysWays_67 : decode cX7_laysWays 67 = .ok (.if_icmp .ne 18, 3) := by decide +kernel
theorem dX7_laysWays_70 : decode cX7_laysWays 70 = .ok (.aload_n 0, 1) := by decide +kernel
theorem dX7_laysWays_71 : decode cX7_laysWays 71 = .ok (.getfield 7, 3) := by decide +kernel
theorem dX7_laysWays_74 : decode cX7_laysWays 74 = .ok (.iconst 4, 1) := by decide +kernel
theorem dX7_laysWays_75 : decode cX7_laysWays 75 = .ok (.iaload, 1) := by decide +kernel
theorem dX7_laysWays_76 : decode cX7_laysWays 76 = .ok (.iload 5, 2) := by decide +kernel
theorem dX7_laysWays_78 : decode cX7_laysWays 78 = .ok (.ishr, 1) := by decide +kernel
theorem dX7_laysWays_79 : decode cX7_laysWays 79 = .ok (.iconst 1, 1) := by decide +kernel
theorem dX7_laysWays_80 : decode cX7_laysWays 80 = .ok (.iand, 1) := by decide +kernel
theorem dX7_laysWays_81 : decode cX7_laysWays 81 = .ok (.i2l, 1) := by decide +kernel
theorem dX7_laysWays_82 : decode cX7_laysWays 82 = .ok (.goto 28, 3) := by decide +kernel
theorem dX7_laysWays_85 : decode cX7_laysWays 85 = .ok (.iload 6, 2) := by decide +kernel
theorem dX7_laysWays_87 : decode cX7_laysWays 87 = .ok (.ifCond .eq 7, 3) := by decide +kernel
theorem dX7_laysWays_90 : decode cX7_laysWays 90 = .ok (.lconst 0, 1) := by decide +kernel
theorem dX7_laysWays_91 : decode cX7_laysWays 91 = .ok (.goto 19, 3) := by decide +kernel
theorem dX7_laysWays_94 : decode cX7_laysWays 94 = .ok (.aload_n 0, 1) := by decide +kernel
theorem dX7_laysWays_95 : decode cX7_laysWays 95 = .ok (.iload 4, 2) := by decide +kernel
theorem dX7_laysWays_97 : decode cX7_laysWays 97 = .ok (.aload_n 0, 1) := by decide +kernel
theorem dX7_laysWays_98 : decode cX7_laysWays 98 = .ok (.getfield 7, 3) := by decide +kernel
theorem dX7_laysWays_101 : decode cX7_laysWays 101 = .ok (.iconst 5, 1) := by decide +kernel
theorem dX7_laysWays_102 : decode cX7_laysWays 102 = .ok (.iload 5, 2) := by decide +kernel
theorem dX7_laysWays_104 : decode cX7_laysWays 104 = .ok (.iadd, 1) := by decide +kernel
theorem dX7_laysWays_105 : decode cX7_laysWays 105 = .ok (.iaload, 1) := by decide +kernel
theorem dX7_laysWays_106 : decode cX7_laysWays 106 = .ok (.iload_n 2, 1) := by decide +kernel
theorem dX7_laysWays_107 : decode cX7_laysWays 107 = .ok (.invokevirtual 153, 3) := by decide +kernel
theorem dX7_laysWays_110 : decode cX7_laysWays 110 = .ok (.lastore, 1) := by decide +kernel
theorem dX7_laysWays_111 : decode cX7_laysWays 111 = .ok (.iinc 5 1, 3) := by decide +kernel
theorem dX7_laysWays_114 : decode cX7_laysWays 114 = .ok (.goto (-88), 3) := by decide +kernel
theorem dX7_laysWays_117 : decode cX7_laysWays 117 = .ok (.iinc 4 (-1), 3) := by decide +kernel
theorem dX7_laysWays_120 : decode cX7_laysWays 120 = .ok (.goto (-102), 3) := by decide +kernel
theorem dX7_laysWays_123 : decode cX7_laysWays 123 = .ok (.aload_n 0, 1) := by decide +kernel
theorem dX7_laysWays_124 : decode cX7_laysWays 124 = .ok (.iconst 0, 1) := by decide +kernel
theorem dX7_laysWays_125 : decode cX7_laysWays 125 = .ok (.aload_n 0, 1) := by decide +kernel
theorem dX7_laysWays_126 : decode cX7_laysWays 126 = .ok (.getfield 7, 3) := by decide +kernel
theorem dX7_laysWays_129 : decode cX7_laysWays 129 = .ok (.iconst 3, 1) := by decide +kernel
theorem dX7_laysWays_130 : decode cX7_laysWays 130 = .ok (.iaload, 1) := by decide +kernel
theorem dX7_laysWays_131 : decode cX7_laysWays 131 = .ok (.iload_n 2, 1) := by decide +kernel
theorem dX7_laysWays_132 : decode cX7_laysWays 132 = .ok (.invokevirtual 153, 3) := by decide +kernel
theorem dX7_laysWays_135 : decode cX7_laysWays 135 = .ok (.lreturn, 1) := by decide +kernel
theorem dX7_waysOr_0 : decode cX7_waysOr 0 = .ok (.aload_n 0, 1) := by decide +kernel
theorem dX7_waysOr_1 : decode cX7_waysOr 1 = .ok (.iload_n 1, 1) := by decide +kernel
theorem dX7_waysOr_2 : decode cX7_waysOr 2 = .ok (.iload_n 2, 1) := by decide +kernel
theorem dX7_waysOr_3 : decode cX7_waysOr 3 = .ok (.invokevirtual 157, 3) := by decide +kernel
theorem dX7_waysOr_6 : decode cX7_waysOr 6 = .ok (.lstore_n 3, 1) := by decide +kernel
theorem dX7_waysOr_7 : decode cX7_waysOr 7 = .ok (.aload_n 0, 1) := by decide +kernel
theorem dX7_waysOr_8 : decode cX7_waysOr 8 = .ok (.getfield 137, 3) := by decide +kernel
theorem dX7_waysOr_11 : decode cX7_waysOr 11 = .ok (.ifCond .eq 9, 3) := by decide +kernel
theorem dX7_waysOr_14 : decode cX7_waysOr 14 = .ok (.ldc2_w 161, 3) := by decide +kernel
theorem dX7_waysOr_17 : decode cX7_waysOr 17 = .ok (.goto 4, 3) := by decide +kernel
theorem dX7_waysOr_20 : decode cX7_waysOr 20 = .ok (.lload_n 3, 1) := by decide +kernel
theorem dX7_waysOr_21 : decode cX7_waysOr 21 = .ok (.lreturn, 1) := by decide +kernel
theorem dX7_cuts_0 : decode cX7_cuts 0 = .ok (.aload_n 0, 1) := by decide +kernel
theorem dX7_cuts_1 : decode cX7_cuts 1 = .ok (.iconst 1, 1) := by decide +kernel
theorem dX7_cuts_2 : decode cX7_cuts 2 = .ok (.iconst (-1), 1) := by decide +kernel
theorem dX7_cuts_3 : decode cX7_cuts 3 = .ok (.invokevirtual 163, 3) := by decide +kernel
theorem dX7_cuts_6 : decode cX7_cuts 6 = .ok (.lstore_n 1, 1) := by decide +kernel
theorem dX7_cuts_7 : decode cX7_cuts 7 = .ok (.lload_n 1, 1) := by decide +kernel
theorem dX7_cuts_8 : decode cX7_cuts 8 = .ok (.ldc2_w 161, 3) := by decide +kernel
theorem dX7_cuts_11 : decode cX7_cuts 11 = .ok (.lcmp, 1) := by decide +kernel
theorem dX7_cuts_12 : decode cX7_cuts 12 = .ok (.ifCond .ne 11, 3) := by decide +kernel
theorem dX7_cuts_15 : decode cX7_cuts 15 = .ok (.aload_n 0, 1) := by decide +kernel
theorem dX7_cuts_16 : decode cX7_cuts 16 = .ok (.invokevirtual 166, 3) := by decide +kernel
theorem dX7_cuts_19 : decode cX7_cuts 19 = .ok (.i2l, 1) := by decide +kernel
theorem dX7_cuts_20 : decode cX7_cuts 20 = .ok (.goto 4, 3) := by decide +kernel
theorem dX7_cuts_23 : decode cX7_cuts 23 = .ok (.lload_n 1, 1) := by decide +kernel
theorem dX7_cuts_24 : decode cX7_cuts 24 = .ok (.lreturn, 1) := by decide +kernel
theorem dX7_made_0 : decode cX7_made 0 = .ok (.aload_n 0, 1) := by decide +kernel
theorem dX7_made_1 : decode cX7_made 1 = .ok (.iconst 0, 1) := by decide +kernel
theorem dX7_made_2 : decode cX7_made 2 = .ok (.iconst (-1), 1) := by decide +kernel
theorem dX7_made_3 : decode cX7_made 3 = .ok (.invokevirtual 163, 3) := by decide +kernel
theorem dX7_made_6 : decode cX7_made 6 = .ok (.lstore_n 1, 1) := by decide +kernel
theorem dX7_made_7 : decode cX7_made 7 = .ok (.lload_n 1, 1) := by decide +kernel
theorem dX7_made_8 : decode cX7_made 8 = .ok (.ldc2_w 161, 3) := by decide +kernel
theorem dX7_made_11 : decode cX7_made 11 = .ok (.lcmp, 1) := by decide +kernel
theorem dX7_made_12 : decode cX7_made 12 = .ok (.ifCond .ne 11, 3) := by decide +kernel
theorem dX7_made_15 : decode cX7_made 15 = .ok (.aload_n 0, 1) := by decide +kernel
theorem dX7_made_16 : decode cX7_made 16 = .ok (.invokevirtual 166, 3) := by decide +kernel
theorem dX7_made_19 : decode cX7_made 19 = .ok (.i2l, 1) := by decide +kernel
theorem dX7_made_20 : decode cX7_made 20 = .ok (.goto 4, 3) := by decide +kernel
theorem dX7_made_23 : decode cX7_made 23 = .ok (.lload_n 1, 1) := by decide +kernel
theorem dX7_made_24 : decode cX7_made 24 = .ok (.lreturn, 1) := by decide +kernel
theorem dX7_goes_0 : decode cX7_goes 0 = .ok (.aload_n 0, 1) := by decide +kernel
theorem dX7_goes_1 : decode cX7_goes 1 = .ok (.iconst 0, 1) := by decide +kernel
theorem dX7_goes_2 : decode cX7_goes 2 = .ok (.putfield 169, 3) := by decide +kernel
theorem dX7_goes_5 : decode cX7_goes 5 = .ok (.iconst 0, 1) := by decide +kernel
theorem dX7_goes_6 : decode cX7_goes 6 = .ok (.istore 4, 2) := by decide +kernel
theorem dX7_goes_8 : decode cX7_goes 8 = .ok (.aload_n 0, 1) := by decide +kernel
theorem dX7_goes_9 : decode cX7_goes 9 = .ok (.getfield 7, 3) := by decide +kernel
theorem dX7_goes_12 : decode cX7_goes 12 = .ok (.iconst 3, 1) := by decide +kernel
theorem dX7_goes_13 : decode cX7_goes 13 = .ok (.iaload, 1) := by decide +kernel
theorem dX7_goes_14 : decode cX7_goes 14 = .ok (.istore 5, 2) := by decide +kernel
theorem dX7_goes_16 : decode cX7_goes 16 = .ok (.lload_n 1, 1) := by decide +kernel
theorem dX7_goes_17 : decode cX7_goes 17 = .ok (.lstore 6, 2) := by decide +kernel
theorem dX7_goes_19 : decode cX7_goes 19 = .ok (.iload 4, 2) := by decide +kernel
theorem dX7_goes_21 : decode cX7_goes 21 = .ok (.aload_n 0, 1) := by decide +kernel
theorem dX7_goes_22 : decode cX7_goes 22 = .ok (.getfield 7, 3) := by decide +kernel
theorem dX7_goes_25 : decode cX7_goes 25 = .ok (.iconst 2, 1) := by decide +kernel
theorem dX7_goes_26 : decode cX7_goes 26 = .ok (.iaload, 1) := by decide +kernel
theorem dX7_goes_27 : decode cX7_goes 27 = .ok (.if_icmp .ge 202, 3) := by decide +kernel
theorem dX7_goes_30 : decode cX7_goes 30 = .ok (.iconst 0, 1) := by decide +kernel
theorem dX7_goes_31 : decode cX7_goes 31 = .ok (.istore 8, 2) := by decide +kernel
theorem dX7_goes_33 : decode cX7_goes 33 = .ok (.iconst 1, 1) := by decide +kernel
theorem dX7_goes_34 : decode cX7_goes 34 = .ok (.istore 9, 2) := by decide +kernel
theorem dX7_goes_36 : decode cX7_goes 36 = .ok (.iload 9, 2) := by decide +kernel
theorem dX7_goes_38 : decode cX7_goes 38 = .ok (.ifCond .eq 125, 3) := by decide +kernel
theorem dX7_goes_41 : decode cX7_goes 41 = .ok (.iload 5, 2) := by decide +kernel
theorem dX7_goes_43 : decode cX7_goes 43 = .ok (.aload_n 0, 1) := by decide +kernel
theorem dX7_goes_44 : decode cX7_goes 44 = .ok (.getfield 7, 3) := by decide +kernel
theorem dX7_goes_47 : decode cX7_goes 47 = .ok (.bipush 9, 2) := by decide +kernel
theorem dX7_goes_49 : decode cX7_goes 49 = .ok (.iload 8, 2) := by decide +kernel
theorem dX7_goes_51 : decode cX7_goes 51 = .ok (.iadd, 1) := by decide +kernel
theorem dX7_goes_52 : decode cX7_goes 52 = .ok (.iaload, 1) := by decide +kernel
theorem dX7_goes_53 : decode cX7_goes 53 = .ok (.invokestatic 140, 3) := by decide +kernel
theorem dX7_goes_56 : decode cX7_goes 56 = .ok (.ifCond .eq 14, 3) := by decide +kernel
theorem dX7_goes_59 : decode cX7_goes 59 = .ok (.aload_n 0, 1) := by decide +kernel
theorem dX7_goes_60 : decode cX7_goes 60 = .ok (.iload 8, 2) := by decide +kernel
theorem dX7_goes_62 : decode cX7_goes 62 = .ok (.iload 4, 2) := by decide +kernel
theorem dX7_goes_64 : decode cX7_goes 64 = .ok (.invokevirtual 143, 3) := by decide +kernel
theorem dX7_goes_67 : decode cX7_goes 67 = .ok (.goto 4, 3) := by decide +kernel
theorem dX7_goes_70 : decode cX7_goes 70 = .ok (.iconst (-1), 1) := by decide +kernel
theorem dX7_goes_71 : decode cX7_goes 71 = .ok (.istore 10, 2) := by decide +kernel
theorem dX7_goes_73 : decode cX7_goes 73 = .ok (.iload 10, 2) := by decide +kernel
theorem dX7_goes_75 : decode cX7_goes 75 = .ok (.iconst (-1), 1) := by decide +kernel
theorem dX7_goes_76 : decode cX7_goes 76 = .ok (.if_icmp .ne 7, 3) := by decide +kernel
theorem dX7_goes_79 : decode cX7_goes 79 = .ok (.lconst 0, 1) := by decide +kernel
theorem dX7_goes_80 : decode cX7_goes 80 = .ok (.goto 32, 3) := by decide +kernel
theorem dX7_goes_83 : decode cX7_goes 83 = .ok (.aload_n 0, 1) := by decide +kernel
theorem dX7_goes_84 : decode cX7_goes 84 = .ok (.iload_n 3, 1) := by decide +kernel
theorem dX7_goes_85 : decode cX7_goes 85 = .ok (.iload 8, 2) := by decide +kernel
theorem dX7_goes_87 : decode cX7_goes 87 = .ok (.invokevirtual 146, 3) := by decide +kernel
theorem dX7_goes_90 : decode cX7_goes 90 = .ok (.i2l, 1) := by decide +kernel
theorem dX7_goes_91 : decode cX7_goes 91 = .ok (.aload_n 0, 1) := by decide +kernel
theorem dX7_goes_92 : decode cX7_goes 92 = .ok (.getfield 25, 3) := by decide +kernel
theorem dX7_goes_95 : decode cX7_goes 95 = .ok (.iconst 4, 1) := by decide +kernel
theorem dX7_goes_96 : decode cX7_goes 96 = .ok (.iload 10, 2) := by decide +kernel
theorem dX7_goes_98 : decode cX7_goes 98 = .ok (.imul, 1) := by decide +kernel
theorem dX7_goes_99 : decode cX7_goes 99 = .ok (.aload_n 0, 1) := by decide +kernel
theorem dX7_goes_100 : decode cX7_goes 100 = .ok (.getfield 7, 3) := by decide +kernel
theorem dX7_goes_103 : decode cX7_goes 103 = .ok (.bipush 9, 2) := by decide +kernel
theorem dX7_goes_105 : decode cX7_goes 105 = .ok (.iload 8, 2) := by decide +kernel
theorem dX7_goes_107 : decode cX7_goes 107 = .ok (.iadd, 1) := by decide +kernel
theorem dX7_goes_108 : decode cX7_goes 108 = .ok (.iaload, 1) := by decide +kernel
theorem dX7_goes_109 : decode cX7_goes 109 = .ok (.iadd, 1) := by decide +kernel
theorem dX7_goes_110 : decode cX7_goes 110 = .ok (.laload, 1) := by decide +kernel
theorem dX7_goes_111 : decode cX7_goes 111 = .ok (.lmul, 1) := by decide +kernel
theorem dX7_goes_112 : decode cX7_goes 112 = .ok (.lstore 11, 2) := by decide +kernel
theorem dX7_goes_114 : decode cX7_goes 114 = .ok (.lload 6, 2) := by decide +kernel
theorem dX7_goes_116 : decode cX7_goes 116 = .ok (.lload 11, 2) := by decide +kernel
theorem dX7_goes_118 : decode cX7_goes 118 = .ok (.lcmp, 1) := by decide +kernel
theorem dX7_goes_119 : decode cX7_goes 119 = .ok (.ifCond .lt 7, 3) := by decide +kernel
theorem dX7_goes_122 : decode cX7_goes 122 = .ok (.iconst 1, 1) := by decide +kernel
theorem dX7_goes_123 : decode cX7_goes 123 = .ok (.goto 4, 3) := by decide +kernel
theorem dX7_goes_126 : decode cX7_goes 126 = .ok (.iconst 0, 1) := by decide +kernel
theorem dX7_goes_127 : decode cX7_goes 127 = .ok (.istore 9, 2) := by decide +kernel
theorem dX7_goes_129 : decode cX7_goes 129 = .ok (.lload 6, 2) := by decide +kernel
theorem dX7_goes_131 : decode cX7_goes 131 = .ok (.iload 9, 2) := by decide +kernel
theorem dX7_goes_133 : decode cX7_goes 133 = .ok (.ifCond .eq 8, 3) := by decide +kernel
theorem dX7_goes_136 : decode cX7_goes 136 = .ok (.lload 11, 2) := by decide +kernel
theorem dX7_goes_138 : decode cX7_goes 138 = .ok (.goto 4, 3) := by decide +kernel
theorem dX7_goes_141 : decode cX7_goes 141 = .ok (.lconst 0, 1) := by decide +kernel
theorem dX7_goes_142 : decode cX7_goes 142 = .ok (.lsub, 1) := by decide +kernel
theorem dX7_goes_143 : decode cX7_goes 143 = .ok (.lstore 6, 2) := by decide +kernel
theorem dX7_goes_145 : decode cX7_goes 145 = .ok (.iload 8, 2) := by decide +kernel
theorem dX7_goes_147 : decode cX7_goes 147 = .ok (.iload 9, 2) := by decide +kernel
theorem dX7_goes_149 : decode cX7_goes 149 = .ok (.ifCond .eq 7, 3) := by decide +kernel
theorem dX7_goes_152 : decode cX7_goes 152 = .ok (.iconst 1, 1) := by decide +kernel
theorem dX7_goes_153 : decode cX7_goes 153 = .ok (.goto 4, 3) := by decide +kernel
theorem dX7_goes_156 : decode cX7_goes 156 = .ok (.iconst 0, 1) := by decide +kernel
theorem dX7_goes_157 : decode cX7_goes 157 = .ok (.iadd, 1) := by decide +kernel
theorem dX7_goes_158 : decode cX7_goes 158 = .ok (.istore 8, 2) := by decide +kernel
theorem dX7_goes_160 : decode cX7_goes 160 = .ok (.goto (-124), 3) := by decide +kernel
theorem dX7_goes_163 : decode cX7_goes 163 = .ok (.aload_n 0, 1) := by decide +kernel
theorem dX7_goes_164 : decode cX7_goes 164 = .ok (.getfield 29, 3) := by decide +kernel
theorem dX7_goes_167 : decode cX7_goes 167 = .ok (.aload_n 0, 1) := by decide +kernel
theorem dX7_goes_168 : decode cX7_goes 168 = .ok (.getfield 169, 3) := by decide +kernel
theorem dX7_goes_171 : decode cX7_goes 171 = .ok (.iload 8, 2) := by decide +kernel
theorem dX7_goes_173 : decode cX7_goes 173 = .ok (.iastore, 1) := by decide +kernel
theorem dX7_goes_174 : decode cX7_goes 174 = .ok (.aload_n 0, 1) := by decide +kernel
theorem dX7_goes_175 : decode cX7_goes 175 = .ok (.dup, 1) := by decide +kernel
theorem dX7_goes_176 : decode cX7_goes 176 = .ok (.getfield 169, 3) := by decide +kernel
theorem dX7_goes_179 : decode cX7_goes 179 = .ok (.iconst 1, 1) := by decide +kernel
theorem dX7_goes_180 : decode cX7_goes 180 = .ok (.iadd, 1) := by decide +kernel
theorem dX7_goes_181 : decode cX7_goes 181 = .ok (.putfield 169, 3) := by decide +kernel
theorem dX7_goes_184 : decode cX7_goes 184 = .ok (.lload 6, 2) := by decide +kernel
theorem dX7_goes_186 : decode cX7_goes 186 = .ok (.aload_n 0, 1) := by decide +kernel
theorem dX7_goes_187 : decode cX7_goes 187 = .ok (.iload_n 3, 1) := by decide +kernel
theorem dX7_goes_188 : decode cX7_goes 188 = .ok (.iload 8, 2) := by decide +kernel
theorem dX7_goes_190 : decode cX7_goes 190 = .ok (.invokevirtual 146, 3) := by decide +kernel
theorem dX7_goes_193 : decode cX7_goes 193 = .ok (.i2l, 1) := by decide +kernel
theorem dX7_goes_194 : decode cX7_goes 194 = .ok (.ldiv, 1) := by decide +kernel
theorem dX7_goes_195 : decode cX7_goes 195 = .ok (.lstore 6, 2) := by decide +kernel
theorem dX7_goes_197 : decode cX7_goes 197 = .ok (.aload_n 0, 1) := by decide +kernel
theorem dX7_goes_198 : decode cX7_goes 198 = .ok (.iload 8, 2) := by decide +kernel
theorem dX7_goes_200 : decode cX7_goes 200 = .ok (.iload 4, 2) := by decide +kernel
theorem dX7_goes_202 : decode cX7_goes 202 = .ok (.invokevirtual 143, 3) := by decide +kernel
theorem dX7_goes_205 : decode cX7_goes 205 = .ok (.istore 4, 2) := by decide +kernel
theorem dX7_goes_207 : decode cX7_goes 207 = .ok (.aload_n 0, 1) := by decide +kernel
theorem dX7_goes_208 : decode cX7_goes 208 = .ok (.getfield 7, 3) := by decide +kernel
theorem dX7_goes_211 : decode cX7_goes 211 = .ok (.iconst 5, 1) := by decide +kernel
theorem dX7_goes_212 : decode cX7_goes 212 = .ok (.aload_n 0, 1) := by decide +kernel
theorem dX7_goes_213 : decode cX7_goes 213 = .ok (.getfield 7, 3) := by decide +kernel
theorem dX7_goes_216 : decode cX7_goes 216 = .ok (.bipush 9, 2) := by decide +kernel
theorem dX7_goes_218 : decode cX7_goes 218 = .ok (.iload 8, 2) := by decide +kernel
theorem dX7_goes_220 : decode cX7_goes 220 = .ok (.iadd, 1) := by decide +kernel
theorem dX7_goes_221 : decode cX7_goes 221 = .ok (.iaload, 1) := by decide +kernel
theorem dX7_goes_222 : decode cX7_goes 222 = .ok (.iadd, 1) := by decide +kernel
theorem dX7_goes_223 : decode cX7_goes 223 = .ok (.iaload, 1) := by decide +kernel
theorem dX7_goes_224 : decode cX7_goes 224 = .ok (.istore 5, 2) := by decide +kernel
theorem dX7_goes_226 : decode cX7_goes 226 = .ok (.goto (-207), 3) := by decide +kernel
theorem dX7_goes_229 : decode cX7_goes 229 = .ok (.return_, 1) := by decide +kernel
theorem dX7_tellRow_0 : decode cX7_tellRow 0 = .ok (.iload_n 1, 1) := by decide +kernel
theorem dX7_tellRow_1 : decode cX7_tellRow 1 = .ok (.iconst (-1), 1) := by decide +kernel
theorem dX7_tellRow_2 : decode cX7_tellRow 2 = .ok (.if_icmp .ne 10, 3) := by decide +kernel
theorem dX7_tellRow_5 : decode cX7_tellRow 5 = .ok (.aload_n 0, 1) := by decide +kernel
theorem dX7_tellRow_6 : decode cX7_tellRow 6 = .ok (.getfield 169, 3) := by decide +kernel
theorem dX7_tellRow_9 : decode cX7_tellRow 9 = .ok (.goto 22, 3) := by decide +kernel
theorem dX7_tellRow_12 : decode cX7_tellRow 12 = .ok (.iload_n 1, 1) := by decide +kernel
theorem dX7_tellRow_13 : decode cX7_tellRow 13 = .ok (.aload_n 0, 1) := by decide +kernel
theorem dX7_tellRow_14 : decode cX7_tellRow 14 = .ok (.getfield 169, 3) := by decide +kernel
theorem dX7_tellRow_17 : decode cX7_tellRow 17 = .ok (.if_icmp .ge 12, 3) := by decide +kernel
theorem dX7_tellRow_20 : decode cX7_tellRow 20 = .ok (.aload_n 0, 1) := by decide +kernel
theorem dX7_tellRow_21 : decode cX7_tellRow 21 = .ok (.getfield 29, 3) := by decide +kernel
theorem dX7_tellRow_24 : decode cX7_tellRow 24 = .ok (.iload_n 1, 1) := by decide +kernel
theorem dX7_tellRow_25 : decode cX7_tellRow 25 = .ok (.iaload, 1) := by decide +kernel
theorem dX7_tellRow_26 : decode cX7_tellRow 26 = .ok (.goto 5, 3) := by decide +kernel
theorem dX7_tellRow_29 : decode cX7_tellRow 29 = .ok (.bipush (-10), 2) := by decide +kernel
theorem dX7_tellRow_31 : decode cX7_tellRow 31 = .ok (.ireturn, 1) := by decide +kernel
theorem dX7_row_0 : decode cX7_row 0 = .ok (.lload_n 1, 1) := by decide +kernel
theorem dX7_row_1 : decode cX7_row 1 = .ok (.lconst 0, 1) := by decide +kernel
theorem dX7_row_2 : decode cX7_row 2 = .ok (.lcmp, 1) := by decide +kernel
theorem dX7_row_3 : decode cX7_row 3 = .ok (.ifCond .lt 8, 3) := by decide +kernel
theorem dX7_row_6 : decode cX7_row 6 = .ok (.iload_n 3, 1) := by decide +kernel
theorem dX7_row_7 : decode cX7_row 7 = .ok (.iconst (-1), 1) := by decide +kernel
theorem dX7_row_8 : decode cX7_row 8 = .ok (.if_icmp .ge 8, 3) := by decide +kernel
theorem dX7_row_11 : decode cX7_row 11 = .ok (.aload_n 0, 1) := by decide +kernel
theorem dX7_row_12 : decode cX7_row 12 = .ok (.invokevirtual 65, 3) := by decide +kernel
theorem dX7_row_15 : decode cX7_row 15 = .ok (.ireturn, 1) := by decide +kernel
theorem dX7_row_16 : decode cX7_row 16 = .ok (.aload_n 0, 1) := by decide +kernel
theorem dX7_row_17 : decode cX7_row 17 = .ok (.iconst 0, 1) := by decide +kernel
theorem dX7_row_18 : decode cX7_row 18 = .ok (.iconst (-1), 1) := by decide +kernel
theorem dX7_row_19 : decode cX7_row 19 = .ok (.invokevirtual 163, 3) := by decide +kernel
theorem dX7_row_22 : decode cX7_row 22 = .ok (.lstore 4, 2) := by decide +kernel
theorem dX7_row_24 : decode cX7_row 24 = .ok (.lload 4, 2) := by decide +kernel
theorem dX7_row_26 : decode cX7_row 26 = .ok (.ldc2_w 161, 3) := by decide +kernel
theorem dX7_row_29 : decode cX7_row 29 = .ok (.lcmp, 1) := by decide +kernel
theorem dX7_row_30 : decode cX7_row 30 = .ok (.ifCond .ne 8, 3) := by decide +kernel
theorem dX7_row_33 : decode cX7_row 33 = .ok (.aload_n 0, 1) := by decide +kernel
theorem dX7_row_34 : decode cX7_row 34 = .ok (.invokevirtual 166, 3) := by decide +kernel
theorem dX7_row_37 : decode cX7_row 37 = .ok (.ireturn, 1) := by decide +kernel
theorem dX7_row_38 : decode cX7_row 38 = .ok (.lload_n 1, 1) := by decide +kernel
theorem dX7_row_39 : decode cX7_row 39 = .ok (.lload 4, 2) := by decide +kernel
theorem dX7_row_41 : decode cX7_row 41 = .ok (.lcmp, 1) := by decide +kernel
theorem dX7_row_42 : decode cX7_row 42 = .ok (.ifCond .lt 8, 3) := by decide +kernel
theorem dX7_row_45 : decode cX7_row 45 = .ok (.aload_n 0, 1) := by decide +kernel
theorem dX7_row_46 : decode cX7_row 46 = .ok (.invokevirtual 55, 3) := by decide +kernel
theorem dX7_row_49 : decode cX7_row 49 = .ok (.ireturn, 1) := by decide +kernel
theorem dX7_row_50 : decode cX7_row 50 = .ok (.aload_n 0, 1) := by decide +kernel
theorem dX7_row_51 : decode cX7_row 51 = .ok (.lload_n 1, 1) := by decide +kernel
theorem dX7_row_52 : decode cX7_row 52 = .ok (.iconst (-1), 1) := by decide +kernel
theorem dX7_row_53 : decode cX7_row 53 = .ok (.invokevirtual 172, 3) := by decide +kernel
theorem dX7_row_56 : decode cX7_row 56 = .ok (.aload_n 0, 1) := by decide +kernel
theorem dX7_row_57 : decode cX7_row 57 = .ok (.iload_n 3, 1) := by decide +kernel
end
section
theorem dX7_row_58 : decode cX7_row 58 = .ok (.invokevirtual 176, 3) := by decide +kernel
theorem dX7_row_61 : decode cX7_row 61 = .ok (.ireturn, 1) := by decide +kernel
theorem dX7_isMaker_0 : decode cX7_isMaker 0 = .ok (.iload_n 0, 1) := by decide +kernel
theorem dX7_isMaker_1 : decode cX7_isMaker 1 = .ok (.i2l, 1) := by decide +kernel
theorem dX7_isMaker_2 : decode cX7_isMaker 2 = .ok (.lconst 0, 1) := by decide +kernel
theorem dX7_isMaker_3 : decode cX7_isMaker 3 = .ok (.ldc2_w 179, 3) := by decide +kernel
theorem dX7_isMaker_6 : decode cX7_isMaker 6 = .ok (.invokestatic 47, 3) := by decide +kernel
theorem dX7_isMaker_9 : decode cX7_isMaker 9 = .ok (.ireturn, 1) := by decide +kernel
theorem dX7_weightFrom_0 : decode cX7_weightFrom 0 = .ok (.aload_n 0, 1) := by decide +kernel
theorem dX7_weightFrom_1 : decode cX7_weightFrom 1 = .ok (.getfield 7, 3) := by decide +kernel
theorem dX7_weightFrom_4 : decode cX7_weightFrom 4 = .ok (.iconst 3, 1) := by decide +kernel
theorem dX7_weightFrom_5 : decode cX7_weightFrom 5 = .ok (.iaload, 1) := by decide +kernel
theorem dX7_weightFrom_6 : decode cX7_weightFrom 6 = .ok (.aload_n 0, 1) := by decide +kernel
theorem dX7_weightFrom_7 : decode cX7_weightFrom 7 = .ok (.getfield 7, 3) := by decide +kernel
theorem dX7_weightFrom_10 : decode cX7_weightFrom 10 = .ok (.bipush 9, 2) := by decide +kernel
theorem dX7_weightFrom_12 : decode cX7_weightFrom 12 = .ok (.iload_n 2, 1) := by decide +kernel
theorem dX7_weightFrom_13 : decode cX7_weightFrom 13 = .ok (.iadd, 1) := by decide +kernel
theorem dX7_weightFrom_14 : decode cX7_weightFrom 14 = .ok (.iaload, 1) := by decide +kernel
theorem dX7_weightFrom_15 : decode cX7_weightFrom 15 = .ok (.invokestatic 140, 3) := by decide +kernel
theorem dX7_weightFrom_18 : decode cX7_weightFrom 18 = .ok (.ifCond .eq 12, 3) := by decide +kernel
theorem dX7_weightFrom_21 : decode cX7_weightFrom 21 = .ok (.aload_n 0, 1) := by decide +kernel
theorem dX7_weightFrom_22 : decode cX7_weightFrom 22 = .ok (.iload_n 2, 1) := by decide +kernel
theorem dX7_weightFrom_23 : decode cX7_weightFrom 23 = .ok (.iconst 0, 1) := by decide +kernel
theorem dX7_weightFrom_24 : decode cX7_weightFrom 24 = .ok (.invokevirtual 143, 3) := by decide +kernel
theorem dX7_weightFrom_27 : decode cX7_weightFrom 27 = .ok (.goto 4, 3) := by decide +kernel
theorem dX7_weightFrom_30 : decode cX7_weightFrom 30 = .ok (.iconst (-1), 1) := by decide +kernel
theorem dX7_weightFrom_31 : decode cX7_weightFrom 31 = .ok (.istore_n 3, 1) := by decide +kernel
theorem dX7_weightFrom_32 : decode cX7_weightFrom 32 = .ok (.iload_n 3, 1) := by decide +kernel
theorem dX7_weightFrom_33 : decode cX7_weightFrom 33 = .ok (.iconst (-1), 1) := by decide +kernel
theorem dX7_weightFrom_34 : decode cX7_weightFrom 34 = .ok (.if_icmp .ne 7, 3) := by decide +kernel
theorem dX7_weightFrom_37 : decode cX7_weightFrom 37 = .ok (.lconst 0, 1) := by decide +kernel
theorem dX7_weightFrom_38 : decode cX7_weightFrom 38 = .ok (.goto 29, 3) := by decide +kernel
theorem dX7_weightFrom_41 : decode cX7_weightFrom 41 = .ok (.aload_n 0, 1) := by decide +kernel
theorem dX7_weightFrom_42 : decode cX7_weightFrom 42 = .ok (.iload_n 1, 1) := by decide +kernel
theorem dX7_weightFrom_43 : decode cX7_weightFrom 43 = .ok (.iload_n 2, 1) := by decide +kernel
theorem dX7_weightFrom_44 : decode cX7_weightFrom 44 = .ok (.invokevirtual 146, 3) := by decide +kernel
theorem dX7_weightFrom_47 : decode cX7_weightFrom 47 = .ok (.i2l, 1) := by decide +kernel
theorem dX7_weightFrom_48 : decode cX7_weightFrom 48 = .ok (.aload_n 0, 1) := by decide +kernel
theorem dX7_weightFrom_49 : decode cX7_weightFrom 49 = .ok (.getfield 25, 3) := by decide +kernel
theorem dX7_weightFrom_52 : decode cX7_weightFrom 52 = .ok (.iconst 4, 1) := by decide +kernel
theorem dX7_weightFrom_53 : decode cX7_weightFrom 53 = .ok (.iload_n 3, 1) := by decide +kernel
theorem dX7_weightFrom_54 : decode cX7_weightFrom 54 = .ok (.imul, 1) := by decide +kernel
theorem dX7_weightFrom_55 : decode cX7_weightFrom 55 = .ok (.aload_n 0, 1) := by decide +kernel
theorem dX7_weightFrom_56 : decode cX7_weightFrom 56 = .ok (.getfield 7, 3) := by decide +kernel
theorem dX7_weightFrom_59 : decode cX7_weightFrom 59 = .ok (.bipush 9, 2) := by decide +kernel
theorem dX7_weightFrom_61 : decode cX7_weightFrom 61 = .ok (.iload_n 2, 1) := by decide +kernel
theorem dX7_weightFrom_62 : decode cX7_weightFrom 62 = .ok (.iadd, 1) := by decide +kernel
theorem dX7_weightFrom_63 : decode cX7_weightFrom 63 = .ok (.iaload, 1) := by decide +kernel
theorem dX7_weightFrom_64 : decode cX7_weightFrom 64 = .ok (.iadd, 1) := by decide +kernel
theorem dX7_weightFrom_65 : decode cX7_weightFrom 65 = .ok (.laload, 1) := by decide +kernel
theorem dX7_weightFrom_66 : decode cX7_weightFrom 66 = .ok (.lmul, 1) := by decide +kernel
theorem dX7_weightFrom_67 : decode cX7_weightFrom 67 = .ok (.lreturn, 1) := by decide +kernel
theorem dX7_weight_0 : decode cX7_weight 0 = .ok (.iload_n 1, 1) := by decide +kernel
theorem dX7_weight_1 : decode cX7_weight 1 = .ok (.invokestatic 181, 3) := by decide +kernel
theorem dX7_weight_4 : decode cX7_weight 4 = .ok (.ifCond .eq 23, 3) := by decide +kernel
theorem dX7_weight_7 : decode cX7_weight 7 = .ok (.iload_n 2, 1) := by decide +kernel
theorem dX7_weight_8 : decode cX7_weight 8 = .ok (.i2l, 1) := by decide +kernel
theorem dX7_weight_9 : decode cX7_weight 9 = .ok (.ldc2_w 184, 3) := by decide +kernel
theorem dX7_weight_12 : decode cX7_weight 12 = .ok (.aload_n 0, 1) := by decide +kernel
theorem dX7_weight_13 : decode cX7_weight 13 = .ok (.getfield 7, 3) := by decide +kernel
theorem dX7_weight_16 : decode cX7_weight 16 = .ok (.iconst 0, 1) := by decide +kernel
theorem dX7_weight_17 : decode cX7_weight 17 = .ok (.iaload, 1) := by decide +kernel
theorem dX7_weight_18 : decode cX7_weight 18 = .ok (.iconst 1, 1) := by decide +kernel
theorem dX7_weight_19 : decode cX7_weight 19 = .ok (.isub, 1) := by decide +kernel
theorem dX7_weight_20 : decode cX7_weight 20 = .ok (.i2l, 1) := by decide +kernel
theorem dX7_weight_21 : decode cX7_weight 21 = .ok (.invokestatic 47, 3) := by decide +kernel
theorem dX7_weight_24 : decode cX7_weight 24 = .ok (.ifCond .ne 9, 3) := by decide +kernel
theorem dX7_weight_27 : decode cX7_weight 27 = .ok (.aload_n 0, 1) := by decide +kernel
theorem dX7_weight_28 : decode cX7_weight 28 = .ok (.invokevirtual 65, 3) := by decide +kernel
theorem dX7_weight_31 : decode cX7_weight 31 = .ok (.i2l, 1) := by decide +kernel
theorem dX7_weight_32 : decode cX7_weight 32 = .ok (.lreturn, 1) := by decide +kernel
theorem dX7_weight_33 : decode cX7_weight 33 = .ok (.aload_n 0, 1) := by decide +kernel
theorem dX7_weight_34 : decode cX7_weight 34 = .ok (.iconst 0, 1) := by decide +kernel
theorem dX7_weight_35 : decode cX7_weight 35 = .ok (.iload_n 1, 1) := by decide +kernel
theorem dX7_weight_36 : decode cX7_weight 36 = .ok (.invokevirtual 163, 3) := by decide +kernel
theorem dX7_weight_39 : decode cX7_weight 39 = .ok (.lstore_n 3, 1) := by decide +kernel
theorem dX7_weight_40 : decode cX7_weight 40 = .ok (.lload_n 3, 1) := by decide +kernel
theorem dX7_weight_41 : decode cX7_weight 41 = .ok (.ldc2_w 161, 3) := by decide +kernel
theorem dX7_weight_44 : decode cX7_weight 44 = .ok (.lcmp, 1) := by decide +kernel
theorem dX7_weight_45 : decode cX7_weight 45 = .ok (.ifCond .ne 9, 3) := by decide +kernel
theorem dX7_weight_48 : decode cX7_weight 48 = .ok (.aload_n 0, 1) := by decide +kernel
theorem dX7_weight_49 : decode cX7_weight 49 = .ok (.invokevirtual 166, 3) := by decide +kernel
theorem dX7_weight_52 : decode cX7_weight 52 = .ok (.i2l, 1) := by decide +kernel
theorem dX7_weight_53 : decode cX7_weight 53 = .ok (.lreturn, 1) := by decide +kernel
theorem dX7_weight_54 : decode cX7_weight 54 = .ok (.iload_n 2, 1) := by decide +kernel
theorem dX7_weight_55 : decode cX7_weight 55 = .ok (.iconst (-1), 1) := by decide +kernel
theorem dX7_weight_56 : decode cX7_weight 56 = .ok (.if_icmp .ne 7, 3) := by decide +kernel
theorem dX7_weight_59 : decode cX7_weight 59 = .ok (.lload_n 3, 1) := by decide +kernel
theorem dX7_weight_60 : decode cX7_weight 60 = .ok (.goto 9, 3) := by decide +kernel
theorem dX7_weight_63 : decode cX7_weight 63 = .ok (.aload_n 0, 1) := by decide +kernel
theorem dX7_weight_64 : decode cX7_weight 64 = .ok (.iload_n 1, 1) := by decide +kernel
theorem dX7_weight_65 : decode cX7_weight 65 = .ok (.iload_n 2, 1) := by decide +kernel
theorem dX7_weight_66 : decode cX7_weight 66 = .ok (.invokevirtual 186, 3) := by decide +kernel
theorem dX7_weight_69 : decode cX7_weight 69 = .ok (.lreturn, 1) := by decide +kernel
theorem dX7_picks_0 : decode cX7_picks 0 = .ok (.iload_n 1, 1) := by decide +kernel
theorem dX7_picks_1 : decode cX7_picks 1 = .ok (.invokestatic 181, 3) := by decide +kernel
theorem dX7_picks_4 : decode cX7_picks 4 = .ok (.ifCond .eq 20, 3) := by decide +kernel
theorem dX7_picks_7 : decode cX7_picks 7 = .ok (.iload_n 2, 1) := by decide +kernel
theorem dX7_picks_8 : decode cX7_picks 8 = .ok (.i2l, 1) := by decide +kernel
theorem dX7_picks_9 : decode cX7_picks 9 = .ok (.lconst 0, 1) := by decide +kernel
theorem dX7_picks_10 : decode cX7_picks 10 = .ok (.ldc2_w 190, 3) := by decide +kernel
theorem dX7_picks_13 : decode cX7_picks 13 = .ok (.invokestatic 47, 3) := by decide +kernel
theorem dX7_picks_16 : decode cX7_picks 16 = .ok (.ifCond .eq 8, 3) := by decide +kernel
theorem dX7_picks_19 : decode cX7_picks 19 = .ok (.iload_n 3, 1) := by decide +kernel
theorem dX7_picks_20 : decode cX7_picks 20 = .ok (.iconst (-1), 1) := by decide +kernel
theorem dX7_picks_21 : decode cX7_picks 21 = .ok (.if_icmp .ge 8, 3) := by decide +kernel
theorem dX7_picks_24 : decode cX7_picks 24 = .ok (.aload_n 0, 1) := by decide +kernel
theorem dX7_picks_25 : decode cX7_picks 25 = .ok (.invokevirtual 65, 3) := by decide +kernel
theorem dX7_picks_28 : decode cX7_picks 28 = .ok (.ireturn, 1) := by decide +kernel
theorem dX7_picks_29 : decode cX7_picks 29 = .ok (.aload_n 0, 1) := by decide +kernel
theorem dX7_picks_30 : decode cX7_picks 30 = .ok (.iconst 0, 1) := by decide +kernel
theorem dX7_picks_31 : decode cX7_picks 31 = .ok (.iload_n 1, 1) := by decide +kernel
theorem dX7_picks_32 : decode cX7_picks 32 = .ok (.invokevirtual 163, 3) := by decide +kernel
theorem dX7_picks_35 : decode cX7_picks 35 = .ok (.lstore 4, 2) := by decide +kernel
theorem dX7_picks_37 : decode cX7_picks 37 = .ok (.lload 4, 2) := by decide +kernel
theorem dX7_picks_39 : decode cX7_picks 39 = .ok (.ldc2_w 161, 3) := by decide +kernel
theorem dX7_picks_42 : decode cX7_picks 42 = .ok (.lcmp, 1) := by decide +kernel
theorem dX7_picks_43 : decode cX7_picks 43 = .ok (.ifCond .ne 8, 3) := by decide +kernel
theorem dX7_picks_46 : decode cX7_picks 46 = .ok (.aload_n 0, 1) := by decide +kernel
theorem dX7_picks_47 : decode cX7_picks 47 = .ok (.invokevirtual 166, 3) := by decide +kernel
theorem dX7_picks_50 : decode cX7_picks 50 = .ok (.ireturn, 1) := by decide +kernel
theorem dX7_picks_51 : decode cX7_picks 51 = .ok (.lload 4, 2) := by decide +kernel
theorem dX7_picks_53 : decode cX7_picks 53 = .ok (.lconst 0, 1) := by decide +kernel
theorem dX7_picks_54 : decode cX7_picks 54 = .ok (.lcmp, 1) := by decide +kernel
theorem dX7_picks_55 : decode cX7_picks 55 = .ok (.ifCond .ne 8, 3) := by decide +kernel
theorem dX7_picks_58 : decode cX7_picks 58 = .ok (.aload_n 0, 1) := by decide +kernel
theorem dX7_picks_59 : decode cX7_picks 59 = .ok (.invokevirtual 55, 3) := by decide +kernel
theorem dX7_picks_62 : decode cX7_picks 62 = .ok (.ireturn, 1) := by decide +kernel
theorem dX7_picks_63 : decode cX7_picks 63 = .ok (.iload_n 2, 1) := by decide +kernel
theorem dX7_picks_64 : decode cX7_picks 64 = .ok (.i2l, 1) := by decide +kernel
theorem dX7_picks_65 : decode cX7_picks 65 = .ok (.ldc2_w 192, 3) := by decide +kernel
theorem dX7_picks_68 : decode cX7_picks 68 = .ok (.lmul, 1) := by decide +kernel
theorem dX7_picks_69 : decode cX7_picks 69 = .ok (.ldc2_w 194, 3) := by decide +kernel
theorem dX7_picks_72 : decode cX7_picks 72 = .ok (.ladd, 1) := by decide +kernel
theorem dX7_picks_73 : decode cX7_picks 73 = .ok (.ldc2_w 196, 3) := by decide +kernel
theorem dX7_picks_76 : decode cX7_picks 76 = .ok (.lrem, 1) := by decide +kernel
theorem dX7_picks_77 : decode cX7_picks 77 = .ok (.lstore 6, 2) := by decide +kernel
theorem dX7_picks_79 : decode cX7_picks 79 = .ok (.aload_n 0, 1) := by decide +kernel
theorem dX7_picks_80 : decode cX7_picks 80 = .ok (.lload 6, 2) := by decide +kernel
theorem dX7_picks_82 : decode cX7_picks 82 = .ok (.lload 4, 2) := by decide +kernel
theorem dX7_picks_84 : decode cX7_picks 84 = .ok (.lrem, 1) := by decide +kernel
theorem dX7_picks_85 : decode cX7_picks 85 = .ok (.iload_n 1, 1) := by decide +kernel
theorem dX7_picks_86 : decode cX7_picks 86 = .ok (.invokevirtual 172, 3) := by decide +kernel
theorem dX7_picks_89 : decode cX7_picks 89 = .ok (.aload_n 0, 1) := by decide +kernel
theorem dX7_picks_90 : decode cX7_picks 90 = .ok (.iload_n 3, 1) := by decide +kernel
theorem dX7_picks_91 : decode cX7_picks 91 = .ok (.invokevirtual 176, 3) := by decide +kernel
theorem dX7_picks_94 : decode cX7_picks 94 = .ok (.ireturn, 1) := by decide +kernel
theorem dX7_dearest_0 : decode cX7_dearest 0 = .ok (.iconst (-1), 1) := by decide +kernel
theorem dX7_dearest_1 : decode cX7_dearest 1 = .ok (.istore 4, 2) := by decide +kernel
theorem dX7_dearest_3 : decode cX7_dearest 3 = .ok (.aload_n 0, 1) := by decide +kernel
theorem dX7_dearest_4 : decode cX7_dearest 4 = .ok (.iconst 0, 1) := by decide +kernel
theorem dX7_dearest_5 : decode cX7_dearest 5 = .ok (.putfield 198, 3) := by decide +kernel
theorem dX7_dearest_8 : decode cX7_dearest 8 = .ok (.aload_n 0, 1) := by decide +kernel
theorem dX7_dearest_9 : decode cX7_dearest 9 = .ok (.iconst 0, 1) := by decide +kernel
theorem dX7_dearest_10 : decode cX7_dearest 10 = .ok (.putfield 201, 3) := by decide +kernel
theorem dX7_dearest_13 : decode cX7_dearest 13 = .ok (.iconst 0, 1) := by decide +kernel
theorem dX7_dearest_14 : decode cX7_dearest 14 = .ok (.istore 5, 2) := by decide +kernel
theorem dX7_dearest_16 : decode cX7_dearest 16 = .ok (.iload 5, 2) := by decide +kernel
theorem dX7_dearest_18 : decode cX7_dearest 18 = .ok (.aload_n 0, 1) := by decide +kernel
theorem dX7_dearest_19 : decode cX7_dearest 19 = .ok (.getfield 7, 3) := by decide +kernel
theorem dX7_dearest_22 : decode cX7_dearest 22 = .ok (.iconst 0, 1) := by decide +kernel
theorem dX7_dearest_23 : decode cX7_dearest 23 = .ok (.iaload, 1) := by decide +kernel
theorem dX7_dearest_24 : decode cX7_dearest 24 = .ok (.if_icmp .ge 190, 3) := by decide +kernel
theorem dX7_dearest_27 : decode cX7_dearest 27 = .ok (.iload_n 2, 1) := by decide +kernel
theorem dX7_dearest_28 : decode cX7_dearest 28 = .ok (.aload_n 0, 1) := by decide +kernel
theorem dX7_dearest_29 : decode cX7_dearest 29 = .ok (.getfield 7, 3) := by decide +kernel
theorem dX7_dearest_32 : decode cX7_dearest 32 = .ok (.bipush 9, 2) := by decide +kernel
theorem dX7_dearest_34 : decode cX7_dearest 34 = .ok (.iload 5, 2) := by decide +kernel
theorem dX7_dearest_36 : decode cX7_dearest 36 = .ok (.iadd, 1) := by decide +kernel
theorem dX7_dearest_37 : decode cX7_dearest 37 = .ok (.iaload, 1) := by decide +kernel
theorem dX7_dearest_38 : decode cX7_dearest 38 = .ok (.invokestatic 140, 3) := by decide +kernel
theorem dX7_dearest_41 : decode cX7_dearest 41 = .ok (.ifCond .eq 13, 3) := by decide +kernel
theorem dX7_dearest_44 : decode cX7_dearest 44 = .ok (.aload_n 0, 1) := by decide +kernel
theorem dX7_dearest_45 : decode cX7_dearest 45 = .ok (.iload 5, 2) := by decide +kernel
theorem dX7_dearest_47 : decode cX7_dearest 47 = .ok (.iload_n 1, 1) := by decide +kernel
theorem dX7_dearest_48 : decode cX7_dearest 48 = .ok (.invokevirtual 143, 3) := by decide +kernel
theorem dX7_dearest_51 : decode cX7_dearest 51 = .ok (.goto 4, 3) := by decide +kernel
theorem dX7_dearest_54 : decode cX7_dearest 54 = .ok (.iconst (-1), 1) := by decide +kernel
theorem dX7_dearest_55 : decode cX7_dearest 55 = .ok (.istore 6, 2) := by decide +kernel
theorem dX7_dearest_57 : decode cX7_dearest 57 = .ok (.iconst 4, 1) := by decide +kernel
theorem dX7_dearest_58 : decode cX7_dearest 58 = .ok (.iload 6, 2) := by decide +kernel
theorem dX7_dearest_60 : decode cX7_dearest 60 = .ok (.imul, 1) := by decide +kernel
theorem dX7_dearest_61 : decode cX7_dearest 61 = .ok (.aload_n 0, 1) := by decide +kernel
theorem dX7_dearest_62 : decode cX7_dearest 62 = .ok (.getfield 7, 3) := by decide +kernel
theorem dX7_dearest_65 : decode cX7_dearest 65 = .ok (.bipush 9, 2) := by decide +kernel
theorem dX7_dearest_67 : decode cX7_dearest 67 = .ok (.iload 5, 2) := by decide +kernel
theorem dX7_dearest_69 : decode cX7_dearest 69 = .ok (.iadd, 1) := by decide +kernel
theorem dX7_dearest_70 : decode cX7_dearest 70 = .ok (.iaload, 1) := by decide +kernel
theorem dX7_dearest_71 : decode cX7_dearest 71 = .ok (.iadd, 1) := by decide +kernel
theorem dX7_dearest_72 : decode cX7_dearest 72 = .ok (.istore 7, 2) := by decide +kernel
theorem dX7_dearest_74 : decode cX7_dearest 74 = .ok (.iload 6, 2) := by decide +kernel
theorem dX7_dearest_76 : decode cX7_dearest 76 = .ok (.iconst (-1), 1) := by decide +kernel
theorem dX7_dearest_77 : decode cX7_dearest 77 = .ok (.if_icmp .eq 131, 3) := by decide +kernel
theorem dX7_dearest_80 : decode cX7_dearest 80 = .ok (.aload_n 0, 1) := by decide +kernel
theorem dX7_dearest_81 : decode cX7_dearest 81 = .ok (.getfield 35, 3) := by decide +kernel
theorem dX7_dearest_84 : decode cX7_dearest 84 = .ok (.iload 7, 2) := by decide +kernel
theorem dX7_dearest_86 : decode cX7_dearest 86 = .ok (.iaload, 1) := by decide +kernel
theorem dX7_dearest_87 : decode cX7_dearest 87 = .ok (.ifCond .lt 121, 3) := by decide +kernel
theorem dX7_dearest_90 : decode cX7_dearest 90 = .ok (.aload_n 0, 1) := by decide +kernel
theorem dX7_dearest_91 : decode cX7_dearest 91 = .ok (.getfield 32, 3) := by decide +kernel
theorem dX7_dearest_94 : decode cX7_dearest 94 = .ok (.iload 7, 2) := by decide +kernel
theorem dX7_dearest_96 : decode cX7_dearest 96 = .ok (.iaload, 1) := by decide +kernel
theorem dX7_dearest_97 : decode cX7_dearest 97 = .ok (.aload_n 0, 1) := by decide +kernel
theorem dX7_dearest_98 : decode cX7_dearest 98 = .ok (.iload_n 3, 1) := by decide +kernel
theorem dX7_dearest_99 : decode cX7_dearest 99 = .ok (.iload 5, 2) := by decide +kernel
theorem dX7_dearest_101 : decode cX7_dearest 101 = .ok (.invokevirtual 113, 3) := by decide +kernel
theorem dX7_dearest_104 : decode cX7_dearest 104 = .ok (.iadd, 1) := by decide +kernel
theorem dX7_dearest_105 : decode cX7_dearest 105 = .ok (.istore 8, 2) := by decide +kernel
theorem dX7_dearest_107 : decode cX7_dearest 107 = .ok (.aload_n 0, 1) := by decide +kernel
theorem dX7_dearest_108 : decode cX7_dearest 108 = .ok (.getfield 35, 3) := by decide +kernel
theorem dX7_dearest_111 : decode cX7_dearest 111 = .ok (.iload 7, 2) := by decide +kernel
theorem dX7_dearest_113 : decode cX7_dearest 113 = .ok (.iaload, 1) := by decide +kernel
theorem dX7_dearest_114 : decode cX7_dearest 114 = .ok (.iconst 1, 1) := by decide +kernel
theorem dX7_dearest_115 : decode cX7_dearest 115 = .ok (.iadd, 1) := by decide +kernel
theorem dX7_dearest_116 : decode cX7_dearest 116 = .ok (.istore 9, 2) := by decide +kernel
theorem dX7_dearest_118 : decode cX7_dearest 118 = .ok (.iload 4, 2) := by decide +kernel
theorem dX7_dearest_120 : decode cX7_dearest 120 = .ok (.iconst (-1), 1) := by decide +kernel
theorem dX7_dearest_121 : decode cX7_dearest 121 = .ok (.if_icmp .eq 30, 3) := by decide +kernel
theorem dX7_dearest_124 : decode cX7_dearest 124 = .ok (.iload 8, 2) := by decide +kernel
theorem dX7_dearest_126 : decode cX7_dearest 126 = .ok (.aload_n 0, 1) := by decide +kernel
theorem dX7_dearest_127 : decode cX7_dearest 127 = .ok (.getfield 198, 3) := by decide +kernel
theorem dX7_dearest_130 : decode cX7_dearest 130 = .ok (.if_icmp .gt 21, 3) := by decide +kernel
theorem dX7_dearest_133 : decode cX7_dearest 133 = .ok (.iload 8, 2) := by decide +kernel
theorem dX7_dearest_135 : decode cX7_dearest 135 = .ok (.aload_n 0, 1) := by decide +kernel
theorem dX7_dearest_136 : decode cX7_dearest 136 = .ok (.getfield 198, 3) := by decide +kernel
theorem dX7_dearest_139 : decode cX7_dearest 139 = .ok (.if_icmp .ne 16, 3) := by decide +kernel
theorem dX7_dearest_142 : decode cX7_dearest 142 = .ok (.iload 9, 2) := by decide +kernel
theorem dX7_dearest_144 : decode cX7_dearest 144 = .ok (.aload_n 0, 1) := by decide +kernel
theorem dX7_dearest_145 : decode cX7_dearest 145 = .ok (.getfield 201, 3) := by decide +kernel
theorem dX7_dearest_148 : decode cX7_dearest 148 = .ok (.if_icmp .ge 7, 3) := by decide +kernel
theorem dX7_dearest_151 : decode cX7_dearest 151 = .ok (.iconst 1, 1) := by decide +kernel
theorem dX7_dearest_152 : decode cX7_dearest 152 = .ok (.goto 4, 3) := by decide +kernel
theorem dX7_dearest_155 : decode cX7_dearest 155 = .ok (.iconst 0, 1) := by decide +kernel
theorem dX7_dearest_156 : decode cX7_dearest 156 = .ok (.istore 10, 2) := by decide +kernel
theorem dX7_dearest_158 : decode cX7_dearest 158 = .ok (.iload 10, 2) := by decide +kernel
theorem dX7_dearest_160 : decode cX7_dearest 160 = .ok (.ifCond .eq 8, 3) := by decide +kernel
theorem dX7_dearest_163 : decode cX7_dearest 163 = .ok (.iload 5, 2) := by decide +kernel
theorem dX7_dearest_165 : decode cX7_dearest 165 = .ok (.goto 5, 3) := by decide +kernel
theorem dX7_dearest_168 : decode cX7_dearest 168 = .ok (.iload 4, 2) := by decide +kernel
theorem dX7_dearest_170 : decode cX7_dearest 170 = .ok (.istore 4, 2) := by decide +kernel
theorem dX7_dearest_172 : decode cX7_dearest 172 = .ok (.aload_n 0, 1) := by decide +kernel
theorem dX7_dearest_173 : decode cX7_dearest 173 = .ok (.iload 10, 2) := by decide +kernel
theorem dX7_dearest_175 : decode cX7_dearest 175 = .ok (.ifCond .eq 8, 3) := by decide +kernel
theorem dX7_dearest_178 : decode cX7_dearest 178 = .ok (.iload 8, 2) := by decide +kernel
theorem dX7_dearest_180 : decode cX7_dearest 180 = .ok (.goto 7, 3) := by decide +kernel
theorem dX7_dearest_183 : decode cX7_dearest 183 = .ok (.aload_n 0, 1) := by decide +kernel
theorem dX7_dearest_184 : decode cX7_dearest 184 = .ok (.getfield 198, 3) := by decide +kernel
theorem dX7_dearest_187 : decode cX7_dearest 187 = .ok (.putfield 198, 3) := by decide +kernel
theorem dX7_dearest_190 : decode cX7_dearest 190 = .ok (.aload_n 0, 1) := by decide +kernel
theorem dX7_dearest_191 : decode cX7_dearest 191 = .ok (.iload 10, 2) := by decide +kernel
theorem dX7_dearest_193 : decode cX7_dearest 193 = .ok (.ifCond .eq 8, 3) := by decide +kernel
theorem dX7_dearest_196 : decode cX7_dearest 196 = .ok (.iload 9, 2) := by decide +kernel
theorem dX7_dearest_198 : decode cX7_dearest 198 = .ok (.goto 7, 3) := by decide +kernel
theorem dX7_dearest_201 : decode cX7_dearest 201 = .ok (.aload_n 0, 1) := by decide +kernel
theorem dX7_dearest_202 : decode cX7_dearest 202 = .ok (.getfield 201, 3) := by decide +kernel
theorem dX7_dearest_205 : decode cX7_dearest 205 = .ok (.putfield 201, 3) := by decide +kernel
theorem dX7_dearest_208 : decode cX7_dearest 208 = .ok (.iinc 5 1, 3) := by decide +kernel
theorem dX7_dearest_211 : decode cX7_dearest 211 = .ok (.goto (-195), 3) := by decide +kernel
theorem dX7_dearest_214 : decode cX7_dearest 214 = .ok (.iload 4, 2) := by decide +kernel
theorem dX7_dearest_216 : decode cX7_dearest 216 = .ok (.ireturn, 1) := by decide +kernel
theorem dX7_laysBest_0 : decode cX7_laysBest 0 = .ok (.aload_n 0, 1) := by decide +kernel
theorem dX7_laysBest_1 : decode cX7_laysBest 1 = .ok (.iconst 1, 1) := by decide +kernel
theorem dX7_laysBest_2 : decode cX7_laysBest 2 = .ok (.putfield 121, 3) := by decide +kernel
theorem dX7_laysBest_5 : decode cX7_laysBest 5 = .ok (.aload_n 0, 1) := by decide +kernel
theorem dX7_laysBest_6 : decode cX7_laysBest 6 = .ok (.invokevirtual 125, 3) := by decide +kernel
theorem dX7_laysBest_9 : decode cX7_laysBest 9 = .ok (.istore_n 2, 1) := by decide +kernel
theorem dX7_laysBest_10 : decode cX7_laysBest 10 = .ok (.iload_n 2, 1) := by decide +kernel
theorem dX7_laysBest_11 : decode cX7_laysBest 11 = .ok (.istore_n 3, 1) := by decide +kernel
theorem dX7_laysBest_12 : decode cX7_laysBest 12 = .ok (.iload_n 3, 1) := by decide +kernel
theorem dX7_laysBest_13 : decode cX7_laysBest 13 = .ok (.ifCond .le 154, 3) := by decide +kernel
theorem dX7_laysBest_16 : decode cX7_laysBest 16 = .ok (.iconst 0, 1) := by decide +kernel
theorem dX7_laysBest_17 : decode cX7_laysBest 17 = .ok (.istore 4, 2) := by decide +kernel
theorem dX7_laysBest_19 : decode cX7_laysBest 19 = .ok (.iload 4, 2) := by decide +kernel
theorem dX7_laysBest_21 : decode cX7_laysBest 21 = .ok (.iconst 4, 1) := by decide +kernel
theorem dX7_laysBest_22 : decode cX7_laysBest 22 = .ok (.if_icmp .ge 139, 3) := by decide +kernel
theorem dX7_laysBest_25 : decode cX7_laysBest 25 = .ok (.iconst 4, 1) := by decide +kernel
theorem dX7_laysBest_26 : decode cX7_laysBest 26 = .ok (.iload_n 3, 1) := by decide +kernel
theorem dX7_laysBest_27 : decode cX7_laysBest 27 = .ok (.imul, 1) := by decide +kernel
theorem dX7_laysBest_28 : decode cX7_laysBest 28 = .ok (.iload 4, 2) := by decide +kernel
theorem dX7_laysBest_30 : decode cX7_laysBest 30 = .ok (.iadd, 1) := by decide +kernel
theorem dX7_laysBest_31 : decode cX7_laysBest 31 = .ok (.istore 5, 2) := by decide +kernel
theorem dX7_laysBest_33 : decode cX7_laysBest 33 = .ok (.aload_n 0, 1) := by decide +kernel
theorem dX7_laysBest_34 : decode cX7_laysBest 34 = .ok (.getfield 38, 3) := by decide +kernel
theorem dX7_laysBest_37 : decode cX7_laysBest 37 = .ok (.iload 5, 2) := by decide +kernel
theorem dX7_laysBest_39 : decode cX7_laysBest 39 = .ok (.iload_n 3, 1) := by decide +kernel
theorem dX7_laysBest_40 : decode cX7_laysBest 40 = .ok (.iload_n 2, 1) := by decide +kernel
theorem dX7_laysBest_41 : decode cX7_laysBest 41 = .ok (.if_icmp .ne 7, 3) := by decide +kernel
theorem dX7_laysBest_44 : decode cX7_laysBest 44 = .ok (.iconst (-1), 1) := by decide +kernel
theorem dX7_laysBest_45 : decode cX7_laysBest 45 = .ok (.goto 18, 3) := by decide +kernel
theorem dX7_laysBest_48 : decode cX7_laysBest 48 = .ok (.aload_n 0, 1) := by decide +kernel
theorem dX7_laysBest_49 : decode cX7_laysBest 49 = .ok (.iload_n 3, 1) := by decide +kernel
theorem dX7_laysBest_50 : decode cX7_laysBest 50 = .ok (.aload_n 0, 1) := by decide +kernel
theorem dX7_laysBest_51 : decode cX7_laysBest 51 = .ok (.getfield 7, 3) := by decide +kernel
theorem dX7_laysBest_54 : decode cX7_laysBest 54 = .ok (.iconst 5, 1) := by decide +kernel
theorem dX7_laysBest_55 : decode cX7_laysBest 55 = .ok (.iload 4, 2) := by decide +kernel
theorem dX7_laysBest_57 : decode cX7_laysBest 57 = .ok (.iadd, 1) := by decide +kernel
theorem dX7_laysBest_58 : decode cX7_laysBest 58 = .ok (.iaload, 1) := by decide +kernel
theorem dX7_laysBest_59 : decode cX7_laysBest 59 = .ok (.iload_n 1, 1) := by decide +kernel
theorem dX7_laysBest_60 : decode cX7_laysBest 60 = .ok (.invokevirtual 204, 3) := by decide +kernel
theorem dX7_laysBest_63 : decode cX7_laysBest 63 = .ok (.iastore, 1) := by decide +kernel
theorem dX7_laysBest_64 : decode cX7_laysBest 64 = .ok (.iload_n 3, 1) := by decide +kernel
theorem dX7_laysBest_65 : decode cX7_laysBest 65 = .ok (.iload_n 2, 1) := by decide +kernel
theorem dX7_laysBest_66 : decode cX7_laysBest 66 = .ok (.if_icmp .ne 17, 3) := by decide +kernel
theorem dX7_laysBest_69 : decode cX7_laysBest 69 = .ok (.aload_n 0, 1) := by decide +kernel
theorem dX7_laysBest_70 : decode cX7_laysBest 70 = .ok (.getfield 7, 3) := by decide +kernel
theorem dX7_laysBest_73 : decode cX7_laysBest 73 = .ok (.iconst 4, 1) := by decide +kernel
theorem dX7_laysBest_74 : decode cX7_laysBest 74 = .ok (.iaload, 1) := by decide +kernel
theorem dX7_laysBest_75 : decode cX7_laysBest 75 = .ok (.iload 4, 2) := by decide +kernel
theorem dX7_laysBest_77 : decode cX7_laysBest 77 = .ok (.invokestatic 140, 3) := by decide +kernel
theorem dX7_laysBest_80 : decode cX7_laysBest 80 = .ok (.goto 19, 3) := by decide +kernel
theorem dX7_laysBest_83 : decode cX7_laysBest 83 = .ok (.aload_n 0, 1) := by decide +kernel
theorem dX7_laysBest_84 : decode cX7_laysBest 84 = .ok (.getfield 38, 3) := by decide +kernel
theorem dX7_laysBest_87 : decode cX7_laysBest 87 = .ok (.iload 5, 2) := by decide +kernel
theorem dX7_laysBest_89 : decode cX7_laysBest 89 = .ok (.iaload, 1) := by decide +kernel
theorem dX7_laysBest_90 : decode cX7_laysBest 90 = .ok (.iconst (-1), 1) := by decide +kernel
theorem dX7_laysBest_91 : decode cX7_laysBest 91 = .ok (.if_icmp .eq 7, 3) := by decide +kernel
theorem dX7_laysBest_94 : decode cX7_laysBest 94 = .ok (.iconst 1, 1) := by decide +kernel
theorem dX7_laysBest_95 : decode cX7_laysBest 95 = .ok (.goto 4, 3) := by decide +kernel
theorem dX7_laysBest_98 : decode cX7_laysBest 98 = .ok (.iconst 0, 1) := by decide +kernel
theorem dX7_laysBest_99 : decode cX7_laysBest 99 = .ok (.istore 6, 2) := by decide +kernel
theorem dX7_laysBest_101 : decode cX7_laysBest 101 = .ok (.aload_n 0, 1) := by decide +kernel
theorem dX7_laysBest_102 : decode cX7_laysBest 102 = .ok (.getfield 32, 3) := by decide +kernel
theorem dX7_laysBest_105 : decode cX7_laysBest 105 = .ok (.iload 5, 2) := by decide +kernel
theorem dX7_laysBest_107 : decode cX7_laysBest 107 = .ok (.iload_n 3, 1) := by decide +kernel
theorem dX7_laysBest_108 : decode cX7_laysBest 108 = .ok (.iload_n 2, 1) := by decide +kernel
theorem dX7_laysBest_109 : decode cX7_laysBest 109 = .ok (.if_icmp .eq 8, 3) := by decide +kernel
theorem dX7_laysBest_112 : decode cX7_laysBest 112 = .ok (.iload 6, 2) := by decide +kernel
theorem dX7_laysBest_114 : decode cX7_laysBest 114 = .ok (.ifCond .ne 7, 3) := by decide +kernel
theorem dX7_laysBest_117 : decode cX7_laysBest 117 = .ok (.iconst 0, 1) := by decide +kernel
theorem dX7_laysBest_118 : decode cX7_laysBest 118 = .ok (.goto 7, 3) := by decide +kernel
theorem dX7_laysBest_121 : decode cX7_laysBest 121 = .ok (.aload_n 0, 1) := by decide +kernel
theorem dX7_laysBest_122 : decode cX7_laysBest 122 = .ok (.getfield 198, 3) := by decide +kernel
theorem dX7_laysBest_125 : decode cX7_laysBest 125 = .ok (.iastore, 1) := by decide +kernel
theorem dX7_laysBest_126 : decode cX7_laysBest 126 = .ok (.aload_n 0, 1) := by decide +kernel
theorem dX7_laysBest_127 : decode cX7_laysBest 127 = .ok (.getfield 35, 3) := by decide +kernel
theorem dX7_laysBest_130 : decode cX7_laysBest 130 = .ok (.iload 5, 2) := by decide +kernel
theorem dX7_laysBest_132 : decode cX7_laysBest 132 = .ok (.iload 6, 2) := by decide +kernel
theorem dX7_laysBest_134 : decode cX7_laysBest 134 = .ok (.ifCond .ne 7, 3) := by decide +kernel
theorem dX7_laysBest_137 : decode cX7_laysBest 137 = .ok (.iconst (-1), 1) := by decide +kernel
theorem dX7_laysBest_138 : decode cX7_laysBest 138 = .ok (.goto 16, 3) := by decide +kernel
theorem dX7_laysBest_141 : decode cX7_laysBest 141 = .ok (.iload_n 3, 1) := by decide +kernel
theorem dX7_laysBest_142 : decode cX7_laysBest 142 = .ok (.iload_n 2, 1) := by decide +kernel
theorem dX7_laysBest_143 : decode cX7_laysBest 143 = .ok (.if_icmp .ne 7, 3) := by decide +kernel
theorem dX7_laysBest_146 : decode cX7_laysBest 146 = .ok (.iconst 0, 1) := by decide +kernel
theorem dX7_laysBest_147 : decode cX7_laysBest 147 = .ok (.goto 7, 3) := by decide +kernel
theorem dX7_laysBest_150 : decode cX7_laysBest 150 = .ok (.aload_n 0, 1) := by decide +kernel
theorem dX7_laysBest_151 : decode cX7_laysBest 151 = .ok (.getfield 201, 3) := by decide +kernel
theorem dX7_laysBest_154 : decode cX7_laysBest 154 = .ok (.iastore, 1) := by decide +kernel
theorem dX7_laysBest_155 : decode cX7_laysBest 155 = .ok (.iinc 4 1, 3) := by decide +kernel
theorem dX7_laysBest_158 : decode cX7_laysBest 158 = .ok (.goto (-139), 3) := by decide +kernel
theorem dX7_laysBest_161 : decode cX7_laysBest 161 = .ok (.iinc 3 (-1), 3) := by decide +kernel
theorem dX7_laysBest_164 : decode cX7_laysBest 164 = .ok (.goto (-152), 3) := by decide +kernel
theorem dX7_laysBest_167 : decode cX7_laysBest 167 = .ok (.return_, 1) := by decide +kernel
theorem dX7_findsBest_0 : decode cX7_findsBest 0 = .ok (.aload_n 0, 1) := by decide +kernel
theorem dX7_findsBest_1 : decode cX7_findsBest 1 = .ok (.iload_n 1, 1) := by decide +kernel
theorem dX7_findsBest_2 : decode cX7_findsBest 2 = .ok (.invokevirtual 208, 3) := by decide +kernel
theorem dX7_findsBest_5 : decode cX7_findsBest 5 = .ok (.aload_n 0, 1) := by decide +kernel
theorem dX7_findsBest_6 : decode cX7_findsBest 6 = .ok (.iconst 0, 1) := by decide +kernel
theorem dX7_findsBest_7 : decode cX7_findsBest 7 = .ok (.putfield 169, 3) := by decide +kernel
theorem dX7_findsBest_10 : decode cX7_findsBest 10 = .ok (.aload_n 0, 1) := by decide +kernel
theorem dX7_findsBest_11 : decode cX7_findsBest 11 = .ok (.iconst 0, 1) := by decide +kernel
theorem dX7_findsBest_12 : decode cX7_findsBest 12 = .ok (.aload_n 0, 1) := by decide +kernel
theorem dX7_findsBest_13 : decode cX7_findsBest 13 = .ok (.getfield 7, 3) := by decide +kernel
theorem dX7_findsBest_16 : decode cX7_findsBest 16 = .ok (.iconst 3, 1) := by decide +kernel
theorem dX7_findsBest_17 : decode cX7_findsBest 17 = .ok (.iaload, 1) := by decide +kernel
theorem dX7_findsBest_18 : decode cX7_findsBest 18 = .ok (.iload_n 1, 1) := by decide +kernel
theorem dX7_findsBest_19 : decode cX7_findsBest 19 = .ok (.invokevirtual 204, 3) := by decide +kernel
theorem dX7_findsBest_22 : decode cX7_findsBest 22 = .ok (.istore_n 2, 1) := by decide +kernel
theorem dX7_findsBest_23 : decode cX7_findsBest 23 = .ok (.iload_n 2, 1) := by decide +kernel
theorem dX7_findsBest_24 : decode cX7_findsBest 24 = .ok (.iconst (-1), 1) := by decide +kernel
theorem dX7_findsBest_25 : decode cX7_findsBest 25 = .ok (.if_icmp .ne 5, 3) := by decide +kernel
theorem dX7_findsBest_28 : decode cX7_findsBest 28 = .ok (.iconst (-1), 1) := by decide +kernel
theorem dX7_findsBest_29 : decode cX7_findsBest 29 = .ok (.ireturn, 1) := by decide +kernel
theorem dX7_findsBest_30 : decode cX7_findsBest 30 = .ok (.aload_n 0, 1) := by decide +kernel
theorem dX7_findsBest_31 : decode cX7_findsBest 31 = .ok (.getfield 198, 3) := by decide +kernel
theorem dX7_findsBest_34 : decode cX7_findsBest 34 = .ok (.istore_n 3, 1) := by decide +kernel
theorem dX7_findsBest_35 : decode cX7_findsBest 35 = .ok (.iconst 0, 1) := by decide +kernel
theorem dX7_findsBest_36 : decode cX7_findsBest 36 = .ok (.istore 4, 2) := by decide +kernel
theorem dX7_findsBest_38 : decode cX7_findsBest 38 = .ok (.iload_n 2, 1) := by decide +kernel
theorem dX7_findsBest_39 : decode cX7_findsBest 39 = .ok (.iconst (-1), 1) := by decide +kernel
theorem dX7_findsBest_40 : decode cX7_findsBest 40 = .ok (.if_icmp .eq 55, 3) := by decide +kernel
theorem dX7_findsBest_43 : decode cX7_findsBest 43 = .ok (.aload_n 0, 1) := by decide +kernel
theorem dX7_findsBest_44 : decode cX7_findsBest 44 = .ok (.getfield 29, 3) := by decide +kernel
theorem dX7_findsBest_47 : decode cX7_findsBest 47 = .ok (.aload_n 0, 1) := by decide +kernel
theorem dX7_findsBest_48 : decode cX7_findsBest 48 = .ok (.getfield 169, 3) := by decide +kernel
theorem dX7_findsBest_51 : decode cX7_findsBest 51 = .ok (.iload_n 2, 1) := by decide +kernel
theorem dX7_findsBest_52 : decode cX7_findsBest 52 = .ok (.iastore, 1) := by decide +kernel
theorem dX7_findsBest_53 : decode cX7_findsBest 53 = .ok (.aload_n 0, 1) := by decide +kernel
theorem dX7_findsBest_54 : decode cX7_findsBest 54 = .ok (.dup, 1) := by decide +kernel
theorem dX7_findsBest_55 : decode cX7_findsBest 55 = .ok (.getfield 169, 3) := by decide +kernel
theorem dX7_findsBest_58 : decode cX7_findsBest 58 = .ok (.iconst 1, 1) := by decide +kernel
theorem dX7_findsBest_59 : decode cX7_findsBest 59 = .ok (.iadd, 1) := by decide +kernel
theorem dX7_findsBest_60 : decode cX7_findsBest 60 = .ok (.putfield 169, 3) := by decide +kernel
theorem dX7_findsBest_63 : decode cX7_findsBest 63 = .ok (.aload_n 0, 1) := by decide +kernel
theorem dX7_findsBest_64 : decode cX7_findsBest 64 = .ok (.iload_n 2, 1) := by decide +kernel
theorem dX7_findsBest_65 : decode cX7_findsBest 65 = .ok (.iload 4, 2) := by decide +kernel
theorem dX7_findsBest_67 : decode cX7_findsBest 67 = .ok (.invokevirtual 143, 3) := by decide +kernel
theorem dX7_findsBest_70 : decode cX7_findsBest 70 = .ok (.istore 4, 2) := by decide +kernel
theorem dX7_findsBest_72 : decode cX7_findsBest 72 = .ok (.aload_n 0, 1) := by decide +kernel
theorem dX7_findsBest_73 : decode cX7_findsBest 73 = .ok (.getfield 38, 3) := by decide +kernel
theorem dX7_findsBest_76 : decode cX7_findsBest 76 = .ok (.iconst 4, 1) := by decide +kernel
theorem dX7_findsBest_77 : decode cX7_findsBest 77 = .ok (.iload 4, 2) := by decide +kernel
theorem dX7_findsBest_79 : decode cX7_findsBest 79 = .ok (.imul, 1) := by decide +kernel
theorem dX7_findsBest_80 : decode cX7_findsBest 80 = .ok (.aload_n 0, 1) := by decide +kernel
theorem dX7_findsBest_81 : decode cX7_findsBest 81 = .ok (.getfield 7, 3) := by decide +kernel
theorem dX7_findsBest_84 : decode cX7_findsBest 84 = .ok (.bipush 9, 2) := by decide +kernel
theorem dX7_findsBest_86 : decode cX7_findsBest 86 = .ok (.iload_n 2, 1) := by decide +kernel
theorem dX7_findsBest_87 : decode cX7_findsBest 87 = .ok (.iadd, 1) := by decide +kernel
theorem dX7_findsBest_88 : decode cX7_findsBest 88 = .ok (.iaload, 1) := by decide +kernel
theorem dX7_findsBest_89 : decode cX7_findsBest 89 = .ok (.iadd, 1) := by decide +kernel
theorem dX7_findsBest_90 : decode cX7_findsBest 90 = .ok (.iaload, 1) := by decide +kernel
theorem dX7_findsBest_91 : decode cX7_findsBest 91 = .ok (.istore_n 2, 1) := by decide +kernel
theorem dX7_findsBest_92 : decode cX7_findsBest 92 = .ok (.goto (-54), 3) := by decide +kernel
theorem dX7_findsBest_95 : decode cX7_findsBest 95 = .ok (.iload_n 3, 1) := by decide +kernel
theorem dX7_findsBest_96 : decode cX7_findsBest 96 = .ok (.ireturn, 1) := by decide +kernel
theorem dX7_best_0 : decode cX7_best 0 = .ok (.iload_n 1, 1) := by decide +kernel
theorem dX7_best_1 : decode cX7_best 1 = .ok (.invokestatic 181, 3) := by decide +kernel
theorem dX7_best_4 : decode cX7_best 4 = .ok (.ifCond .eq 9, 3) := by decide +kernel
theorem dX7_best_7 : decode cX7_best 7 = .ok (.iload_n 2, 1) := by decide +kernel
theorem dX7_best_8 : decode cX7_best 8 = .ok (.bipush (-2), 2) := by decide +kernel
theorem dX7_best_10 : decode cX7_best 10 = .ok (.if_icmp .ge 8, 3) := by decide +kernel
theorem dX7_best_13 : decode cX7_best 13 = .ok (.aload_n 0, 1) := by decide +kernel
theorem dX7_best_14 : decode cX7_best 14 = .ok (.invokevirtual 65, 3) := by decide +kernel
theorem dX7_best_17 : decode cX7_best 17 = .ok (.ireturn, 1) := by decide +kernel
theorem dX7_best_18 : decode cX7_best 18 = .ok (.aload_n 0, 1) := by decide +kernel
theorem dX7_best_19 : decode cX7_best 19 = .ok (.iload_n 1, 1) := by decide +kernel
theorem dX7_best_20 : decode cX7_best 20 = .ok (.invokevirtual 212, 3) := by decide +kernel
theorem dX7_best_23 : decode cX7_best 23 = .ok (.istore_n 3, 1) := by decide +kernel
theorem dX7_best_24 : decode cX7_best 24 = .ok (.iload_n 3, 1) := by decide +kernel
theorem dX7_best_25 : decode cX7_best 25 = .ok (.ifCond .ge 8, 3) := by decide +kernel
theorem dX7_best_28 : decode cX7_best 28 = .ok (.aload_n 0, 1) := by decide +kernel
theorem dX7_best_29 : decode cX7_best 29 = .ok (.invokevirtual 55, 3) := by decide +kernel
theorem dX7_best_32 : decode cX7_best 32 = .ok (.ireturn, 1) := by decide +kernel
theorem dX7_best_33 : decode cX7_best 33 = .ok (.iload_n 2, 1) := by decide +kernel
theorem dX7_best_34 : decode cX7_best 34 = .ok (.bipush (-2), 2) := by decide +kernel
theorem dX7_best_36 : decode cX7_best 36 = .ok (.if_icmp .ne 7, 3) := by decide +kernel
theorem dX7_best_39 : decode cX7_best 39 = .ok (.iload_n 3, 1) := by decide +kernel
theorem dX7_best_40 : decode cX7_best 40 = .ok (.goto 8, 3) := by decide +kernel
theorem dX7_best_43 : decode cX7_best 43 = .ok (.aload_n 0, 1) := by decide +kernel
theorem dX7_best_44 : decode cX7_best 44 = .ok (.iload_n 2, 1) := by decide +kernel
theorem dX7_best_45 : decode cX7_best 45 = .ok (.invokevirtual 176, 3) := by decide +kernel
theorem dX7_best_48 : decode cX7_best 48 = .ok (.ireturn, 1) := by decide +kernel
theorem dX7_singsOne_0 : decode cX7_singsOne 0 = .ok (.iload_n 1, 1) := by decide +kernel
theorem dX7_singsOne_1 : decode cX7_singsOne 1 = .ok (.invokestatic 181, 3) := by decide +kernel
theorem dX7_singsOne_4 : decode cX7_singsOne 4 = .ok (.ifCond .ne 6, 3) := by decide +kernel
theorem dX7_singsOne_7 : decode cX7_singsOne 7 = .ok (.bipush (-2), 2) := by decide +kernel
theorem dX7_singsOne_9 : decode cX7_singsOne 9 = .ok (.ireturn, 1) := by decide +kernel
theorem dX7_singsOne_10 : decode cX7_singsOne 10 = .ok (.aload_n 0, 1) := by decide +kernel
theorem dX7_singsOne_11 : decode cX7_singsOne 11 = .ok (.iload_n 1, 1) := by decide +kernel
theorem dX7_singsOne_12 : decode cX7_singsOne 12 = .ok (.invokevirtual 212, 3) := by decide +kernel
theorem dX7_singsOne_15 : decode cX7_singsOne 15 = .ok (.ifCond .ge 6, 3) := by decide +kernel
theorem dX7_singsOne_18 : decode cX7_singsOne 18 = .ok (.bipush (-3), 2) := by decide +kernel
theorem dX7_singsOne_20 : decode cX7_singsOne 20 = .ok (.ireturn, 1) := by decide +kernel
theorem dX7_singsOne_21 : decode cX7_singsOne 21 = .ok (.iconst 0, 1) := by decide +kernel
theorem dX7_singsOne_22 : decode cX7_singsOne 22 = .ok (.istore_n 2, 1) := by decide +kernel
theorem dX7_singsOne_23 : decode cX7_singsOne 23 = .ok (.iload_n 2, 1) := by decide +kernel
theorem dX7_singsOne_24 : decode cX7_singsOne 24 = .ok (.aload_n 0, 1) := by decide +kernel
theorem dX7_singsOne_25 : decode cX7_singsOne 25 = .ok (.getfield 169, 3) := by decide +kernel
theorem dX7_singsOne_28 : decode cX7_singsOne 28 = .ok (.if_icmp .ge 32, 3) := by decide +kernel
theorem dX7_singsOne_31 : decode cX7_singsOne 31 = .ok (.aload_n 0, 1) := by decide +kernel
theorem dX7_singsOne_32 : decode cX7_singsOne 32 = .ok (.getfield 7, 3) := by decide +kernel
theorem dX7_singsOne_35 : decode cX7_singsOne 35 = .ok (.bipush 33, 2) := by decide +kernel
theorem dX7_singsOne_37 : decode cX7_singsOne 37 = .ok (.bipush 12, 2) := by decide +kernel
theorem dX7_singsOne_39 : decode cX7_singsOne 39 = .ok (.iload_n 1, 1) := by decide +kernel
theorem dX7_singsOne_40 : decode cX7_singsOne 40 = .ok (.imul, 1) := by decide +kernel
theorem dX7_singsOne_41 : decode cX7_singsOne 41 = .ok (.iadd, 1) := by decide +kernel
theorem dX7_singsOne_42 : decode cX7_singsOne 42 = .ok (.aload_n 0, 1) := by decide +kernel
theorem dX7_singsOne_43 : decode cX7_singsOne 43 = .ok (.getfield 29, 3) := by decide +kernel
theorem dX7_singsOne_46 : decode cX7_singsOne 46 = .ok (.iload_n 2, 1) := by decide +kernel
theorem dX7_singsOne_47 : decode cX7_singsOne 47 = .ok (.iaload, 1) := by decide +kernel
theorem dX7_singsOne_48 : decode cX7_singsOne 48 = .ok (.iadd, 1) := by decide +kernel
theorem dX7_singsOne_49 : decode cX7_singsOne 49 = .ok (.dup2, 1) := by decide +kernel
theorem dX7_singsOne_50 : decode cX7_singsOne 50 = .ok (.iaload, 1) := by decide +kernel
theorem dX7_singsOne_51 : decode cX7_singsOne 51 = .ok (.iconst 1, 1) := by decide +kernel
theorem dX7_singsOne_52 : decode cX7_singsOne 52 = .ok (.iadd, 1) := by decide +kernel
theorem dX7_singsOne_53 : decode cX7_singsOne 53 = .ok (.iastore, 1) := by decide +kernel
theorem dX7_singsOne_54 : decode cX7_singsOne 54 = .ok (.iinc 2 1, 3) := by decide +kernel
theorem dX7_singsOne_57 : decode cX7_singsOne 57 = .ok (.goto (-34), 3) := by decide +kernel
theorem dX7_singsOne_60 : decode cX7_singsOne 60 = .ok (.aload_n 0, 1) := by decide +kernel
theorem dX7_singsOne_61 : decode cX7_singsOne 61 = .ok (.getfield 169, 3) := by decide +kernel
theorem dX7_singsOne_64 : decode cX7_singsOne 64 = .ok (.ireturn, 1) := by decide +kernel
theorem dX7_sings_0 : decode cX7_sings 0 = .ok (.aload_n 0, 1) := by decide +kernel
theorem dX7_sings_1 : decode cX7_sings 1 = .ok (.invokevirtual 87, 3) := by decide +kernel
theorem dX7_sings_4 : decode cX7_sings 4 = .ok (.aload_n 0, 1) := by decide +kernel
theorem dX7_sings_5 : decode cX7_sings 5 = .ok (.aload_n 0, 1) := by decide +kernel
theorem dX7_sings_6 : decode cX7_sings 6 = .ok (.iload_n 1, 1) := by decide +kernel
theorem dX7_sings_7 : decode cX7_sings 7 = .ok (.invokevirtual 215, 3) := by decide +kernel
theorem dX7_sings_10 : decode cX7_sings 10 = .ok (.invokevirtual 94, 3) := by decide +kernel
theorem dX7_sings_13 : decode cX7_sings 13 = .ok (.ireturn, 1) := by decide +kernel
theorem dX7_fixesTo_0 : decode cX7_fixesTo 0 = .ok (.iconst (-1), 1) := by decide +kernel
theorem dX7_fixesTo_1 : decode cX7_fixesTo 1 = .ok (.istore_n 3, 1) := by decide +kernel
theorem dX7_fixesTo_2 : decode cX7_fixesTo 2 = .ok (.iconst 0, 1) := by decide +kernel
theorem dX7_fixesTo_3 : decode cX7_fixesTo 3 = .ok (.istore 4, 2) := by decide +kernel
theorem dX7_fixesTo_5 : decode cX7_fixesTo 5 = .ok (.iconst 0, 1) := by decide +kernel
theorem dX7_fixesTo_6 : decode cX7_fixesTo 6 = .ok (.istore 5, 2) := by decide +kernel
theorem dX7_fixesTo_8 : decode cX7_fixesTo 8 = .ok (.iload 5, 2) := by decide +kernel
theorem dX7_fixesTo_10 : decode cX7_fixesTo 10 = .ok (.aload_n 0, 1) := by decide +kernel
theorem dX7_fixesTo_11 : decode cX7_fixesTo 11 = .ok (.getfield 7, 3) := by decide +kernel
theorem dX7_fixesTo_14 : decode cX7_fixesTo 14 = .ok (.iconst 0, 1) := by decide +kernel
theorem dX7_fixesTo_15 : decode cX7_fixesTo 15 = .ok (.iaload, 1) := by decide +kernel
theorem dX7_fixesTo_16 : decode cX7_fixesTo 16 = .ok (.if_icmp .ge 67, 3) := by decide +kernel
theorem dX7_fixesTo_19 : decode cX7_fixesTo 19 = .ok (.aload_n 0, 1) := by decide +kernel
theorem dX7_fixesTo_20 : decode cX7_fixesTo 20 = .ok (.getfield 7, 3) := by decide +kernel
theorem dX7_fixesTo_23 : decode cX7_fixesTo 23 = .ok (.bipush 9, 2) := by decide +kernel
theorem dX7_fixesTo_25 : decode cX7_fixesTo 25 = .ok (.iload 5, 2) := by decide +kernel
theorem dX7_fixesTo_27 : decode cX7_fixesTo 27 = .ok (.iadd, 1) := by decide +kernel
theorem dX7_fixesTo_28 : decode cX7_fixesTo 28 = .ok (.iaload, 1) := by decide +kernel
theorem dX7_fixesTo_29 : decode cX7_fixesTo 29 = .ok (.iload_n 2, 1) := by decide +kernel
theorem dX7_fixesTo_30 : decode cX7_fixesTo 30 = .ok (.if_icmp .ne 17, 3) := by decide +kernel
theorem dX7_fixesTo_33 : decode cX7_fixesTo 33 = .ok (.aload_n 0, 1) := by decide +kernel
theorem dX7_fixesTo_34 : decode cX7_fixesTo 34 = .ok (.iload_n 1, 1) := by decide +kernel
theorem dX7_fixesTo_35 : decode cX7_fixesTo 35 = .ok (.iload 5, 2) := by decide +kernel
theorem dX7_fixesTo_37 : decode cX7_fixesTo 37 = .ok (.invokevirtual 113, 3) := by decide +kernel
theorem dX7_fixesTo_40 : decode cX7_fixesTo 40 = .ok (.ifCond .le 7, 3) := by decide +kernel
theorem dX7_fixesTo_43 : decode cX7_fixesTo 43 = .ok (.iconst 1, 1) := by decide +kernel
theorem dX7_fixesTo_44 : decode cX7_fixesTo 44 = .ok (.goto 4, 3) := by decide +kernel
theorem dX7_fixesTo_47 : decode cX7_fixesTo 47 = .ok (.iconst 0, 1) := by decide +kernel
theorem dX7_fixesTo_48 : decode cX7_fixesTo 48 = .ok (.istore 6, 2) := by decide +kernel
theorem dX7_fixesTo_50 : decode cX7_fixesTo 50 = .ok (.iload 6, 2) := by decide +kernel
theorem dX7_fixesTo_52 : decode cX7_fixesTo 52 = .ok (.ifCond .eq 8, 3) := by decide +kernel
theorem dX7_fixesTo_55 : decode cX7_fixesTo 55 = .ok (.iload 5, 2) := by decide +kernel
theorem dX7_fixesTo_57 : decode cX7_fixesTo 57 = .ok (.goto 4, 3) := by decide +kernel
theorem dX7_fixesTo_60 : decode cX7_fixesTo 60 = .ok (.iload_n 3, 1) := by decide +kernel
theorem dX7_fixesTo_61 : decode cX7_fixesTo 61 = .ok (.istore_n 3, 1) := by decide +kernel
theorem dX7_fixesTo_62 : decode cX7_fixesTo 62 = .ok (.iload 4, 2) := by decide +kernel
theorem dX7_fixesTo_64 : decode cX7_fixesTo 64 = .ok (.iload 6, 2) := by decide +kernel
theorem dX7_fixesTo_66 : decode cX7_fixesTo 66 = .ok (.ifCond .eq 7, 3) := by decide +kernel
theorem dX7_fixesTo_69 : decode cX7_fixesTo 69 = .ok (.iconst 1, 1) := by decide +kernel
theorem dX7_fixesTo_70 : decode cX7_fixesTo 70 = .ok (.goto 4, 3) := by decide +kernel
theorem dX7_fixesTo_73 : decode cX7_fixesTo 73 = .ok (.iconst 0, 1) := by decide +kernel
theorem dX7_fixesTo_74 : decode cX7_fixesTo 74 = .ok (.iadd, 1) := by decide +kernel
theorem dX7_fixesTo_75 : decode cX7_fixesTo 75 = .ok (.istore 4, 2) := by decide +kernel
theorem dX7_fixesTo_77 : decode cX7_fixesTo 77 = .ok (.iinc 5 1, 3) := by decide +kernel
theorem dX7_fixesTo_80 : decode cX7_fixesTo 80 = .ok (.goto (-72), 3) := by decide +kernel
theorem dX7_fixesTo_83 : decode cX7_fixesTo 83 = .ok (.iload 4, 2) := by decide +kernel
theorem dX7_fixesTo_85 : decode cX7_fixesTo 85 = .ok (.iconst 1, 1) := by decide +kernel
theorem dX7_fixesTo_86 : decode cX7_fixesTo 86 = .ok (.if_icmp .ne 7, 3) := by decide +kernel
theorem dX7_fixesTo_89 : decode cX7_fixesTo 89 = .ok (.iload_n 3, 1) := by decide +kernel
theorem dX7_fixesTo_90 : decode cX7_fixesTo 90 = .ok (.goto 4, 3) := by decide +kernel
theorem dX7_fixesTo_93 : decode cX7_fixesTo 93 = .ok (.iconst (-1), 1) := by decide +kernel
theorem dX7_fixesTo_94 : decode cX7_fixesTo 94 = .ok (.ireturn, 1) := by decide +kernel
theorem dX7_fixes_0 : decode cX7_fixes 0 = .ok (.iload_n 1, 1) := by decide +kernel
theorem dX7_fixes_1 : decode cX7_fixes 1 = .ok (.invokestatic 181, 3) := by decide +kernel
theorem dX7_fixes_4 : decode cX7_fixes 4 = .ok (.ifCond .eq 24, 3) := by decide +kernel
theorem dX7_fixes_7 : decode cX7_fixes 7 = .ok (.iload_n 2, 1) := by decide +kernel
theorem dX7_fixes_8 : decode cX7_fixes 8 = .ok (.i2l, 1) := by decide +kernel
theorem dX7_fixes_9 : decode cX7_fixes 9 = .ok (.lconst 0, 1) := by decide +kernel
theorem dX7_fixes_10 : decode cX7_fixes 10 = .ok (.ldc2_w 72, 3) := by decide +kernel
theorem dX7_fixes_13 : decode cX7_fixes 13 = .ok (.invokestatic 47, 3) := by decide +kernel
theorem dX7_fixes_16 : decode cX7_fixes 16 = .ok (.ifCond .eq 12, 3) := by decide +kernel
theorem dX7_fixes_19 : decode cX7_fixes 19 = .ok (.aload_n 0, 1) := by decide +kernel
theorem dX7_fixes_20 : decode cX7_fixes 20 = .ok (.iload_n 1, 1) := by decide +kernel
theorem dX7_fixes_21 : decode cX7_fixes 21 = .ok (.iload_n 2, 1) := by decide +kernel
theorem dX7_fixes_22 : decode cX7_fixes 22 = .ok (.invokevirtual 218, 3) := by decide +kernel
theorem dX7_fixes_25 : decode cX7_fixes 25 = .ok (.goto 7, 3) := by decide +kernel
theorem dX7_fixes_28 : decode cX7_fixes 28 = .ok (.aload_n 0, 1) := by decide +kernel
theorem dX7_fixes_29 : decode cX7_fixes 29 = .ok (.invokevirtual 65, 3) := by decide +kernel
theorem dX7_fixes_32 : decode cX7_fixes 32 = .ok (.ireturn, 1) := by decide +kernel
theorem dX7_type_0 : decode cX7_type 0 = .ok (.iload_n 1, 1) := by decide +kernel
theorem dX7_type_1 : decode cX7_type 1 = .ok (.i2l, 1) := by decide +kernel
theorem dX7_type_2 : decode cX7_type 2 = .ok (.lconst 0, 1) := by decide +kernel
theorem dX7_type_3 : decode cX7_type 3 = .ok (.ldc2_w 221, 3) := by decide +kernel
theorem dX7_type_6 : decode cX7_type 6 = .ok (.invokestatic 47, 3) := by decide +kernel
theorem dX7_type_9 : decode cX7_type 9 = .ok (.ifCond .ne 8, 3) := by decide +kernel
theorem dX7_type_12 : decode cX7_type 12 = .ok (.aload_n 0, 1) := by decide +kernel
theorem dX7_type_13 : decode cX7_type 13 = .ok (.invokevirtual 65, 3) := by decide +kernel
theorem dX7_type_16 : decode cX7_type 16 = .ok (.ireturn, 1) := by decide +kernel
theorem dX7_type_17 : decode cX7_type 17 = .ok (.aload_n 0, 1) := by decide +kernel
theorem dX7_type_18 : decode cX7_type 18 = .ok (.getfield 223, 3) := by decide +kernel
theorem dX7_type_21 : decode cX7_type 21 = .ok (.sipush 150, 3) := by decide +kernel
theorem dX7_type_24 : decode cX7_type 24 = .ok (.if_icmp .ne 8, 3) := by decide +kernel
theorem dX7_type_27 : decode cX7_type 27 = .ok (.aload_n 0, 1) := by decide +kernel
theorem dX7_type_28 : decode cX7_type 28 = .ok (.invokevirtual 62, 3) := by decide +kernel
theorem dX7_type_31 : decode cX7_type 31 = .ok (.ireturn, 1) := by decide +kernel
theorem dX7_type_32 : decode cX7_type 32 = .ok (.aload_n 0, 1) := by decide +kernel
theorem dX7_type_33 : decode cX7_type 33 = .ok (.getfield 22, 3) := by decide +kernel
theorem dX7_type_36 : decode cX7_type 36 = .ok (.aload_n 0, 1) := by decide +kernel
theorem dX7_type_37 : decode cX7_type 37 = .ok (.getfield 223, 3) := by decide +kernel
theorem dX7_type_40 : decode cX7_type 40 = .ok (.iload_n 1, 1) := by decide +kernel
theorem dX7_type_41 : decode cX7_type 41 = .ok (.iastore, 1) := by decide +kernel
theorem dX7_type_42 : decode cX7_type 42 = .ok (.aload_n 0, 1) := by decide +kernel
theorem dX7_type_43 : decode cX7_type 43 = .ok (.dup, 1) := by decide +kernel
theorem dX7_type_44 : decode cX7_type 44 = .ok (.getfield 223, 3) := by decide +kernel
theorem dX7_type_47 : decode cX7_type 47 = .ok (.iconst 1, 1) := by decide +kernel
theorem dX7_type_48 : decode cX7_type 48 = .ok (.iadd, 1) := by decide +kernel
theorem dX7_type_49 : decode cX7_type 49 = .ok (.putfield 223, 3) := by decide +kernel
theorem dX7_type_52 : decode cX7_type 52 = .ok (.aload_n 0, 1) := by decide +kernel
theorem dX7_type_53 : decode cX7_type 53 = .ok (.getfield 223, 3) := by decide +kernel
theorem dX7_type_56 : decode cX7_type 56 = .ok (.ireturn, 1) := by decide +kernel
theorem dX7_clear_0 : decode cX7_clear 0 = .ok (.aload_n 0, 1) := by decide +kernel
theorem dX7_clear_1 : decode cX7_clear 1 = .ok (.getfield 223, 3) := by decide +kernel
theorem dX7_clear_4 : decode cX7_clear 4 = .ok (.istore_n 1, 1) := by decide +kernel
theorem dX7_clear_5 : decode cX7_clear 5 = .ok (.aload_n 0, 1) := by decide +kernel
theorem dX7_clear_6 : decode cX7_clear 6 = .ok (.iconst 0, 1) := by decide +kernel
theorem dX7_clear_7 : decode cX7_clear 7 = .ok (.putfield 223, 3) := by decide +kernel
theorem dX7_clear_10 : decode cX7_clear 10 = .ok (.iload_n 1, 1) := by decide +kernel
theorem dX7_clear_11 : decode cX7_clear 11 = .ok (.ireturn, 1) := by decide +kernel
theorem dX7_isAt_0 : decode cX7_isAt 0 = .ok (.aload_n 0, 1) := by decide +kernel
theorem dX7_isAt_1 : decode cX7_isAt 1 = .ok (.getfield 226, 3) := by decide +kernel
theorem dX7_isAt_4 : decode cX7_isAt 4 = .ok (.aload_n 0, 1) := by decide +kernel
theorem dX7_isAt_5 : decode cX7_isAt 5 = .ok (.getfield 223, 3) := by decide +kernel
theorem dX7_isAt_8 : decode cX7_isAt 8 = .ok (.if_icmp .ge 27, 3) := by decide +kernel
theorem dX7_isAt_11 : decode cX7_isAt 11 = .ok (.aload_n 0, 1) := by decide +kernel
theorem dX7_isAt_12 : decode cX7_isAt 12 = .ok (.getfield 22, 3) := by decide +kernel
theorem dX7_isAt_15 : decode cX7_isAt 15 = .ok (.aload_n 0, 1) := by decide +kernel
theorem dX7_isAt_16 : decode cX7_isAt 16 = .ok (.getfield 226, 3) := by decide +kernel
theorem dX7_isAt_19 : decode cX7_isAt 19 = .ok (.iaload, 1) := by decide +kernel
theorem dX7_isAt_20 : decode cX7_isAt 20 = .ok (.i2l, 1) := by decide +kernel
theorem dX7_isAt_21 : decode cX7_isAt 21 = .ok (.iload_n 1, 1) := by decide +kernel
theorem dX7_isAt_22 : decode cX7_isAt 22 = .ok (.i2l, 1) := by decide +kernel
theorem dX7_isAt_23 : decode cX7_isAt 23 = .ok (.iload_n 2, 1) := by decide +kernel
theorem dX7_isAt_24 : decode cX7_isAt 24 = .ok (.i2l, 1) := by decide +kernel
theorem dX7_isAt_25 : decode cX7_isAt 25 = .ok (.invokestatic 47, 3) := by decide +kernel
theorem dX7_isAt_28 : decode cX7_isAt 28 = .ok (.ifCond .eq 7, 3) := by decide +kernel
theorem dX7_isAt_31 : decode cX7_isAt 31 = .ok (.iconst 1, 1) := by decide +kernel
theorem dX7_isAt_32 : decode cX7_isAt 32 = .ok (.goto 4, 3) := by decide +kernel
theorem dX7_isAt_35 : decode cX7_isAt 35 = .ok (.iconst 0, 1) := by decide +kernel
theorem dX7_isAt_36 : decode cX7_isAt 36 = .ok (.ireturn, 1) := by decide +kernel
theorem dX7_blanks_0 : decode cX7_blanks 0 = .ok (.aload_n 0, 1) := by decide +kernel
theorem dX7_blanks_1 : decode cX7_blanks 1 = .ok (.bipush 32, 2) := by decide +kernel
theorem dX7_blanks_3 : decode cX7_blanks 3 = .ok (.bipush 32, 2) := by decide +kernel
theorem dX7_blanks_5 : decode cX7_blanks 5 = .ok (.invokevirtual 229, 3) := by decide +kernel
theorem dX7_blanks_8 : decode cX7_blanks 8 = .ok (.ifCond .eq 16, 3) := by decide +kernel
theorem dX7_blanks_11 : decode cX7_blanks 11 = .ok (.aload_n 0, 1) := by decide +kernel
theorem dX7_blanks_12 : decode cX7_blanks 12 = .ok (.dup, 1) := by decide +kernel
theorem dX7_blanks_13 : decode cX7_blanks 13 = .ok (.getfield 226, 3) := by decide +kernel
theorem dX7_blanks_16 : decode cX7_blanks 16 = .ok (.iconst 1, 1) := by decide +kernel
theorem dX7_blanks_17 : decode cX7_blanks 17 = .ok (.iadd, 1) := by decide +kernel
theorem dX7_blanks_18 : decode cX7_blanks 18 = .ok (.putfield 226, 3) := by decide +kernel
theorem dX7_blanks_21 : decode cX7_blanks 21 = .ok (.goto (-21), 3) := by decide +kernel
theorem dX7_blanks_24 : decode cX7_blanks 24 = .ok (.return_, 1) := by decide +kernel
theorem dX7_number_0 : decode cX7_number 0 = .ok (.aload_n 0, 1) := by decide +kernel
theorem dX7_number_1 : decode cX7_number 1 = .ok (.invokevirtual 232, 3) := by decide +kernel
theorem dX7_number_4 : decode cX7_number 4 = .ok (.iconst 0, 1) := by decide +kernel
theorem dX7_number_5 : decode cX7_number 5 = .ok (.istore_n 1, 1) := by decide +kernel
theorem dX7_number_6 : decode cX7_number 6 = .ok (.iconst 0, 1) := by decide +kernel
theorem dX7_number_7 : decode cX7_number 7 = .ok (.istore_n 2, 1) := by decide +kernel
theorem dX7_number_8 : decode cX7_number 8 = .ok (.aload_n 0, 1) := by decide +kernel
theorem dX7_number_9 : decode cX7_number 9 = .ok (.aload_n 0, 1) := by decide +kernel
theorem dX7_number_10 : decode cX7_number 10 = .ok (.getfield 235, 3) := by decide +kernel
theorem dX7_number_13 : decode cX7_number 13 = .ok (.ifCond .ne 14, 3) := by decide +kernel
theorem dX7_number_16 : decode cX7_number 16 = .ok (.aload_n 0, 1) := by decide +kernel
theorem dX7_number_17 : decode cX7_number 17 = .ok (.bipush 48, 2) := by decide +kernel
theorem dX7_number_19 : decode cX7_number 19 = .ok (.bipush 57, 2) := by decide +kernel
theorem dX7_number_21 : decode cX7_number 21 = .ok (.invokevirtual 229, 3) := by decide +kernel
theorem dX7_number_24 : decode cX7_number 24 = .ok (.ifCond .ne 7, 3) := by decide +kernel
theorem dX7_number_27 : decode cX7_number 27 = .ok (.iconst 1, 1) := by decide +kernel
theorem dX7_number_28 : decode cX7_number 28 = .ok (.goto 4, 3) := by decide +kernel
theorem dX7_number_31 : decode cX7_number 31 = .ok (.iconst 0, 1) := by decide +kernel
theorem dX7_number_32 : decode cX7_number 32 = .ok (.putfield 235, 3) := by decide +kernel
theorem dX7_number_35 : decode cX7_number 35 = .ok (.aload_n 0, 1) := by decide +kernel
theorem dX7_number_36 : decode cX7_number 36 = .ok (.getfield 235, 3) := by decide +kernel
theorem dX7_number_39 : decode cX7_number 39 = .ok (.ifCond .ne 84, 3) := by decide +kernel
theorem dX7_number_42 : decode cX7_number 42 = .ok (.aload_n 0, 1) := by decide +kernel
theorem dX7_number_43 : decode cX7_number 43 = .ok (.bipush 48, 2) := by decide +kernel
theorem dX7_number_45 : decode cX7_number 45 = .ok (.bipush 57, 2) := by decide +kernel
theorem dX7_number_47 : decode cX7_number 47 = .ok (.invokevirtual 229, 3) := by decide +kernel
theorem dX7_number_50 : decode cX7_number 50 = .ok (.ifCond .eq 73, 3) := by decide +kernel
theorem dX7_number_53 : decode cX7_number 53 = .ok (.iinc 2 1, 3) := by decide +kernel
theorem dX7_number_56 : decode cX7_number 56 = .ok (.aload_n 0, 1) := by decide +kernel
theorem dX7_number_57 : decode cX7_number 57 = .ok (.iload_n 2, 1) := by decide +kernel
theorem dX7_number_58 : decode cX7_number 58 = .ok (.iconst 2, 1) := by decide +kernel
theorem dX7_number_59 : decode cX7_number 59 = .ok (.if_icmp .le 7, 3) := by decide +kernel
theorem dX7_number_62 : decode cX7_number 62 = .ok (.iconst 1, 1) := by decide +kernel
theorem dX7_number_63 : decode cX7_number 63 = .ok (.goto 4, 3) := by decide +kernel
theorem dX7_number_66 : decode cX7_number 66 = .ok (.iconst 0, 1) := by decide +kernel
theorem dX7_number_67 : decode cX7_number 67 = .ok (.putfield 235, 3) := by decide +kernel
theorem dX7_number_70 : decode cX7_number 70 = .ok (.aload_n 0, 1) := by decide +kernel
theorem dX7_number_71 : decode cX7_number 71 = .ok (.getfield 235, 3) := by decide +kernel
theorem dX7_number_74 : decode cX7_number 74 = .ok (.ifCond .eq 7, 3) := by decide +kernel
theorem dX7_number_77 : decode cX7_number 77 = .ok (.iload_n 1, 1) := by decide +kernel
theorem dX7_number_78 : decode cX7_number 78 = .ok (.goto 20, 3) := by decide +kernel
theorem dX7_number_81 : decode cX7_number 81 = .ok (.bipush 10, 2) := by decide +kernel
theorem dX7_number_83 : decode cX7_number 83 = .ok (.iload_n 1, 1) := by decide +kernel
theorem dX7_number_84 : decode cX7_number 84 = .ok (.imul, 1) := by decide +kernel
theorem dX7_number_85 : decode cX7_number 85 = .ok (.aload_n 0, 1) := by decide +kernel
theorem dX7_number_86 : decode cX7_number 86 = .ok (.getfield 22, 3) := by decide +kernel
theorem dX7_number_89 : decode cX7_number 89 = .ok (.aload_n 0, 1) := by decide +kernel
theorem dX7_number_90 : decode cX7_number 90 = .ok (.getfield 226, 3) := by decide +kernel
theorem dX7_number_93 : decode cX7_number 93 = .ok (.iaload, 1) := by decide +kernel
theorem dX7_number_94 : decode cX7_number 94 = .ok (.iadd, 1) := by decide +kernel
theorem dX7_number_95 : decode cX7_number 95 = .ok (.bipush 48, 2) := by decide +kernel
theorem dX7_number_97 : decode cX7_number 97 = .ok (.isub, 1) := by decide +kernel
theorem dX7_number_98 : decode cX7_number 98 = .ok (.istore_n 1, 1) := by decide +kernel
theorem dX7_number_99 : decode cX7_number 99 = .ok (.aload_n 0, 1) := by decide +kernel
theorem dX7_number_100 : decode cX7_number 100 = .ok (.dup, 1) := by decide +kernel
theorem dX7_number_101 : decode cX7_number 101 = .ok (.getfield 226, 3) := by decide +kernel
theorem dX7_number_104 : decode cX7_number 104 = .ok (.aload_n 0, 1) := by decide +kernel
theorem dX7_number_105 : decode cX7_number 105 = .ok (.getfield 235, 3) := by decide +kernel
theorem dX7_number_108 : decode cX7_number 108 = .ok (.ifCond .eq 7, 3) := by decide +kernel
theorem dX7_number_111 : decode cX7_number 111 = .ok (.iconst 0, 1) := by decide +kernel
theorem dX7_number_112 : decode cX7_number 112 = .ok (.goto 4, 3) := by decide +kernel
theorem dX7_number_115 : decode cX7_number 115 = .ok (.iconst 1, 1) := by decide +kernel
theorem dX7_number_116 : decode cX7_number 116 = .ok (.iadd, 1) := by decide +kernel
theorem dX7_number_117 : decode cX7_number 117 = .ok (.putfield 226, 3) := by decide +kernel
theorem dX7_number_120 : decode cX7_number 120 = .ok (.goto (-85), 3) := by decide +kernel
theorem dX7_number_123 : decode cX7_number 123 = .ok (.iload_n 1, 1) := by decide +kernel
theorem dX7_number_124 : decode cX7_number 124 = .ok (.ireturn, 1) := by decide +kernel
theorem dX7_passesLetters_0 : decode cX7_passesLetters 0 = .ok (.aload_n 0, 1) := by decide +kernel
theorem dX7_passesLetters_1 : decode cX7_passesLetters 1 = .ok (.invokevirtual 232, 3) := by decide +kernel
theorem dX7_passesLetters_4 : decode cX7_passesLetters 4 = .ok (.aload_n 0, 1) := by decide +kernel
theorem dX7_passesLetters_5 : decode cX7_passesLetters 5 = .ok (.getfield 226, 3) := by decide +kernel
theorem dX7_passesLetters_8 : decode cX7_passesLetters 8 = .ok (.istore_n 3, 1) := by decide +kernel
theorem dX7_passesLetters_9 : decode cX7_passesLetters 9 = .ok (.aload_n 0, 1) := by decide +kernel
theorem dX7_passesLetters_10 : decode cX7_passesLetters 10 = .ok (.bipush 97, 2) := by decide +kernel
theorem dX7_passesLetters_12 : decode cX7_passesLetters 12 = .ok (.bipush 104, 2) := by decide +kernel
theorem dX7_passesLetters_14 : decode cX7_passesLetters 14 = .ok (.invokevirtual 229, 3) := by decide +kernel
theorem dX7_passesLetters_17 : decode cX7_passesLetters 17 = .ok (.ifCond .eq 53, 3) := by decide +kernel
theorem dX7_passesLetters_20 : decode cX7_passesLetters 20 = .ok (.aload_n 0, 1) := by decide +kernel
theorem dX7_passesLetters_21 : decode cX7_passesLetters 21 = .ok (.getfield 235, 3) := by decide +kernel
theorem dX7_passesLetters_24 : decode cX7_passesLetters 24 = .ok (.ifCond .ne 46, 3) := by decide +kernel
theorem dX7_passesLetters_27 : decode cX7_passesLetters 27 = .ok (.aload_n 0, 1) := by decide +kernel
theorem dX7_passesLetters_28 : decode cX7_passesLetters 28 = .ok (.aload_n 0, 1) := by decide +kernel
theorem dX7_passesLetters_29 : decode cX7_passesLetters 29 = .ok (.getfield 226, 3) := by decide +kernel
theorem dX7_passesLetters_32 : decode cX7_passesLetters 32 = .ok (.iload_n 3, 1) := by decide +kernel
theorem dX7_passesLetters_33 : decode cX7_passesLetters 33 = .ok (.isub, 1) := by decide +kernel
theorem dX7_passesLetters_34 : decode cX7_passesLetters 34 = .ok (.iload_n 2, 1) := by decide +kernel
theorem dX7_passesLetters_35 : decode cX7_passesLetters 35 = .ok (.if_icmp .ne 7, 3) := by decide +kernel
theorem dX7_passesLetters_38 : decode cX7_passesLetters 38 = .ok (.iconst 1, 1) := by decide +kernel
theorem dX7_passesLetters_39 : decode cX7_passesLetters 39 = .ok (.goto 4, 3) := by decide +kernel
theorem dX7_passesLetters_42 : decode cX7_passesLetters 42 = .ok (.iconst 0, 1) := by decide +kernel
theorem dX7_passesLetters_43 : decode cX7_passesLetters 43 = .ok (.putfield 235, 3) := by decide +kernel
theorem dX7_passesLetters_46 : decode cX7_passesLetters 46 = .ok (.aload_n 0, 1) := by decide +kernel
theorem dX7_passesLetters_47 : decode cX7_passesLetters 47 = .ok (.dup, 1) := by decide +kernel
theorem dX7_passesLetters_48 : decode cX7_passesLetters 48 = .ok (.getfield 226, 3) := by decide +kernel
theorem dX7_passesLetters_51 : decode cX7_passesLetters 51 = .ok (.aload_n 0, 1) := by decide +kernel
theorem dX7_passesLetters_52 : decode cX7_passesLetters 52 = .ok (.getfield 235, 3) := by decide +kernel
theorem dX7_passesLetters_55 : decode cX7_passesLetters 55 = .ok (.ifCond .eq 7, 3) := by decide +kernel
theorem dX7_passesLetters_58 : decode cX7_passesLetters 58 = .ok (.iconst 0, 1) := by decide +kernel
theorem dX7_passesLetters_59 : decode cX7_passesLetters 59 = .ok (.goto 4, 3) := by decide +kernel
theorem dX7_passesLetters_62 : decode cX7_passesLetters 62 = .ok (.iconst 1, 1) := by decide +kernel
theorem dX7_passesLetters_63 : decode cX7_passesLetters 63 = .ok (.iadd, 1) := by decide +kernel
theorem dX7_passesLetters_64 : decode cX7_passesLetters 64 = .ok (.putfield 226, 3) := by decide +kernel
theorem dX7_passesLetters_67 : decode cX7_passesLetters 67 = .ok (.goto (-58), 3) := by decide +kernel
theorem dX7_passesLetters_70 : decode cX7_passesLetters 70 = .ok (.aload_n 0, 1) := by decide +kernel
theorem dX7_passesLetters_71 : decode cX7_passesLetters 71 = .ok (.aload_n 0, 1) := by decide +kernel
theorem dX7_passesLetters_72 : decode cX7_passesLetters 72 = .ok (.getfield 235, 3) := by decide +kernel
theorem dX7_passesLetters_75 : decode cX7_passesLetters 75 = .ok (.ifCond .ne 13, 3) := by decide +kernel
theorem dX7_passesLetters_78 : decode cX7_passesLetters 78 = .ok (.aload_n 0, 1) := by decide +kernel
theorem dX7_passesLetters_79 : decode cX7_passesLetters 79 = .ok (.getfield 226, 3) := by decide +kernel
theorem dX7_passesLetters_82 : decode cX7_passesLetters 82 = .ok (.iload_n 3, 1) := by decide +kernel
theorem dX7_passesLetters_83 : decode cX7_passesLetters 83 = .ok (.isub, 1) := by decide +kernel
theorem dX7_passesLetters_84 : decode cX7_passesLetters 84 = .ok (.iload_n 1, 1) := by decide +kernel
theorem dX7_passesLetters_85 : decode cX7_passesLetters 85 = .ok (.if_icmp .ge 7, 3) := by decide +kernel
theorem dX7_passesLetters_88 : decode cX7_passesLetters 88 = .ok (.iconst 1, 1) := by decide +kernel
theorem dX7_passesLetters_89 : decode cX7_passesLetters 89 = .ok (.goto 4, 3) := by decide +kernel
theorem dX7_passesLetters_92 : decode cX7_passesLetters 92 = .ok (.iconst 0, 1) := by decide +kernel
theorem dX7_passesLetters_93 : decode cX7_passesLetters 93 = .ok (.putfield 235, 3) := by decide +kernel
theorem dX7_passesLetters_96 : decode cX7_passesLetters 96 = .ok (.iload_n 3, 1) := by decide +kernel
theorem dX7_passesLetters_97 : decode cX7_passesLetters 97 = .ok (.ireturn, 1) := by decide +kernel
theorem dX7_manyOf_0 : decode cX7_manyOf 0 = .ok (.iload_n 0, 1) := by decide +kernel
theorem dX7_manyOf_1 : decode cX7_manyOf 1 = .ok (.tableswitch 113 98 120 #[109, 113, 113, 109, 109, 113, 113, 113, 113, 111, 107, 113, 113, 113, 113, 113, 113, 109, 109, 113, 113, 111, 109], 107) := by decide +kernel
theorem dX7_manyOf_108 : decode cX7_manyOf 108 = .ok (.iconst 0, 1) := by decide +kernel
theorem dX7_manyOf_109 : decode cX7_manyOf 109 = .ok (.ireturn, 1) := by decide +kernel
theorem dX7_manyOf_110 : decode cX7_manyOf 110 = .ok (.iconst 1, 1) := by decide +kernel
theorem dX7_manyOf_111 : decode cX7_manyOf 111 = .ok (.ireturn, 1) := by decide +kernel
theorem dX7_manyOf_112 : decode cX7_manyOf 112 = .ok (.iconst 2, 1) := by decide +kernel
theorem dX7_manyOf_113 : decode cX7_manyOf 113 = .ok (.ireturn, 1) := by decide +kernel
theorem dX7_manyOf_114 : decode cX7_manyOf 114 = .ok (.iconst (-1), 1) := by decide +kernel
theorem dX7_manyOf_115 : decode cX7_manyOf 115 = .ok (.ireturn, 1) := by decide +kernel
theorem dX7_readsParts_0 : decode cX7_readsParts 0 = .ok (.iconst 0, 1) := by decide +kernel
theorem dX7_readsParts_1 : decode cX7_readsParts 1 = .ok (.istore_n 3, 1) := by decide +kernel
theorem dX7_readsParts_2 : decode cX7_readsParts 2 = .ok (.iload_n 3, 1) := by decide +kernel
theorem dX7_readsParts_3 : decode cX7_readsParts 3 = .ok (.iload_n 2, 1) := by decide +kernel
theorem dX7_readsParts_4 : decode cX7_readsParts 4 = .ok (.if_icmp .ge 33, 3) := by decide +kernel
theorem dX7_readsParts_7 : decode cX7_readsParts 7 = .ok (.aload_n 0, 1) := by decide +kernel
theorem dX7_readsParts_8 : decode cX7_readsParts 8 = .ok (.getfield 235, 3) := by decide +kernel
theorem dX7_readsParts_11 : decode cX7_readsParts 11 = .ok (.ifCond .ne 26, 3) := by decide +kernel
theorem dX7_readsParts_14 : decode cX7_readsParts 14 = .ok (.aload_n 0, 1) := by decide +kernel
theorem dX7_readsParts_15 : decode cX7_readsParts 15 = .ok (.getfield 44, 3) := by decide +kernel
theorem dX7_readsParts_18 : decode cX7_readsParts 18 = .ok (.iconst 2, 1) := by decide +kernel
theorem dX7_readsParts_19 : decode cX7_readsParts 19 = .ok (.aload_n 0, 1) := by decide +kernel
theorem dX7_readsParts_20 : decode cX7_readsParts 20 = .ok (.getfield 238, 3) := by decide +kernel
theorem dX7_readsParts_23 : decode cX7_readsParts 23 = .ok (.imul, 1) := by decide +kernel
theorem dX7_readsParts_24 : decode cX7_readsParts 24 = .ok (.iload_n 3, 1) := by decide +kernel
theorem dX7_readsParts_25 : decode cX7_readsParts 25 = .ok (.iadd, 1) := by decide +kernel
theorem dX7_readsParts_26 : decode cX7_readsParts 26 = .ok (.aload_n 0, 1) := by decide +kernel
theorem dX7_readsParts_27 : decode cX7_readsParts 27 = .ok (.invokevirtual 241, 3) := by decide +kernel
theorem dX7_readsParts_30 : decode cX7_readsParts 30 = .ok (.iastore, 1) := by decide +kernel
theorem dX7_readsParts_31 : decode cX7_readsParts 31 = .ok (.iinc 3 1, 3) := by decide +kernel
theorem dX7_readsParts_34 : decode cX7_readsParts 34 = .ok (.goto (-32), 3) := by decide +kernel
theorem dX7_readsParts_37 : decode cX7_readsParts 37 = .ok (.aload_n 0, 1) := by decide +kernel
theorem dX7_readsParts_38 : decode cX7_readsParts 38 = .ok (.getfield 235, 3) := by decide +kernel
theorem dX7_readsParts_41 : decode cX7_readsParts 41 = .ok (.ifCond .ne 32, 3) := by decide +kernel
theorem dX7_readsParts_44 : decode cX7_readsParts 44 = .ok (.iload_n 1, 1) := by decide +kernel
theorem dX7_readsParts_45 : decode cX7_readsParts 45 = .ok (.bipush 102, 2) := by decide +kernel
theorem dX7_readsParts_47 : decode cX7_readsParts 47 = .ok (.if_icmp .ne 26, 3) := by decide +kernel
theorem dX7_readsParts_50 : decode cX7_readsParts 50 = .ok (.aload_n 0, 1) := by decide +kernel
theorem dX7_readsParts_51 : decode cX7_readsParts 51 = .ok (.getfield 44, 3) := by decide +kernel
theorem dX7_readsParts_54 : decode cX7_readsParts 54 = .ok (.iconst 2, 1) := by decide +kernel
theorem dX7_readsParts_55 : decode cX7_readsParts 55 = .ok (.aload_n 0, 1) := by decide +kernel
theorem dX7_readsParts_56 : decode cX7_readsParts 56 = .ok (.getfield 238, 3) := by decide +kernel
theorem dX7_readsParts_59 : decode cX7_readsParts 59 = .ok (.imul, 1) := by decide +kernel
theorem dX7_readsParts_60 : decode cX7_readsParts 60 = .ok (.iconst 1, 1) := by decide +kernel
theorem dX7_readsParts_61 : decode cX7_readsParts 61 = .ok (.iadd, 1) := by decide +kernel
theorem dX7_readsParts_62 : decode cX7_readsParts 62 = .ok (.aload_n 0, 1) := by decide +kernel
theorem dX7_readsParts_63 : decode cX7_readsParts 63 = .ok (.iconst 1, 1) := by decide +kernel
theorem dX7_readsParts_64 : decode cX7_readsParts 64 = .ok (.bipush 6, 2) := by decide +kernel
theorem dX7_readsParts_66 : decode cX7_readsParts 66 = .ok (.invokevirtual 244, 3) := by decide +kernel
theorem dX7_readsParts_69 : decode cX7_readsParts 69 = .ok (.iastore, 1) := by decide +kernel
theorem dX7_readsParts_70 : decode cX7_readsParts 70 = .ok (.goto 34, 3) := by decide +kernel
theorem dX7_readsParts_73 : decode cX7_readsParts 73 = .ok (.aload_n 0, 1) := by decide +kernel
theorem dX7_readsParts_74 : decode cX7_readsParts 74 = .ok (.getfield 235, 3) := by decide +kernel
theorem dX7_readsParts_77 : decode cX7_readsParts 77 = .ok (.ifCond .ne 27, 3) := by decide +kernel
theorem dX7_readsParts_80 : decode cX7_readsParts 80 = .ok (.iload_n 1, 1) := by decide +kernel
theorem dX7_readsParts_81 : decode cX7_readsParts 81 = .ok (.bipush 108, 2) := by decide +kernel
theorem dX7_readsParts_83 : decode cX7_readsParts 83 = .ok (.if_icmp .ne 21, 3) := by decide +kernel
theorem dX7_readsParts_86 : decode cX7_readsParts 86 = .ok (.aload_n 0, 1) := by decide +kernel
theorem dX7_readsParts_87 : decode cX7_readsParts 87 = .ok (.getfield 44, 3) := by decide +kernel
theorem dX7_readsParts_90 : decode cX7_readsParts 90 = .ok (.iconst 2, 1) := by decide +kernel
theorem dX7_readsParts_91 : decode cX7_readsParts 91 = .ok (.aload_n 0, 1) := by decide +kernel
theorem dX7_readsParts_92 : decode cX7_readsParts 92 = .ok (.getfield 238, 3) := by decide +kernel
theorem dX7_readsParts_95 : decode cX7_readsParts 95 = .ok (.imul, 1) := by decide +kernel
theorem dX7_readsParts_96 : decode cX7_readsParts 96 = .ok (.aload_n 0, 1) := by decide +kernel
theorem dX7_readsParts_97 : decode cX7_readsParts 97 = .ok (.iconst 0, 1) := by decide +kernel
theorem dX7_readsParts_98 : decode cX7_readsParts 98 = .ok (.bipush 40, 2) := by decide +kernel
theorem dX7_readsParts_100 : decode cX7_readsParts 100 = .ok (.invokevirtual 244, 3) := by decide +kernel
theorem dX7_readsParts_103 : decode cX7_readsParts 103 = .ok (.iastore, 1) := by decide +kernel
theorem dX7_readsParts_104 : decode cX7_readsParts 104 = .ok (.return_, 1) := by decide +kernel
theorem dX7_readsOrder_0 : decode cX7_readsOrder 0 = .ok (.aload_n 0, 1) := by decide +kernel
theorem dX7_readsOrder_1 : decode cX7_readsOrder 1 = .ok (.getfield 22, 3) := by decide +kernel
theorem dX7_readsOrder_4 : decode cX7_readsOrder 4 = .ok (.aload_n 0, 1) := by decide +kernel
theorem dX7_readsOrder_5 : decode cX7_readsOrder 5 = .ok (.getfield 226, 3) := by decide +kernel
theorem dX7_readsOrder_8 : decode cX7_readsOrder 8 = .ok (.iaload, 1) := by decide +kernel
theorem dX7_readsOrder_9 : decode cX7_readsOrder 9 = .ok (.istore_n 1, 1) := by decide +kernel
theorem dX7_readsOrder_10 : decode cX7_readsOrder 10 = .ok (.iload_n 1, 1) := by decide +kernel
theorem dX7_readsOrder_11 : decode cX7_readsOrder 11 = .ok (.invokestatic 247, 3) := by decide +kernel
theorem dX7_readsOrder_14 : decode cX7_readsOrder 14 = .ok (.istore_n 2, 1) := by decide +kernel
theorem dX7_readsOrder_15 : decode cX7_readsOrder 15 = .ok (.aload_n 0, 1) := by decide +kernel
theorem dX7_readsOrder_16 : decode cX7_readsOrder 16 = .ok (.iload_n 2, 1) := by decide +kernel
theorem dX7_readsOrder_17 : decode cX7_readsOrder 17 = .ok (.ifCond .ge 7, 3) := by decide +kernel
theorem dX7_readsOrder_20 : decode cX7_readsOrder 20 = .ok (.iconst 1, 1) := by decide +kernel
theorem dX7_readsOrder_21 : decode cX7_readsOrder 21 = .ok (.goto 4, 3) := by decide +kernel
theorem dX7_readsOrder_24 : decode cX7_readsOrder 24 = .ok (.iconst 0, 1) := by decide +kernel
theorem dX7_readsOrder_25 : decode cX7_readsOrder 25 = .ok (.putfield 235, 3) := by decide +kernel
theorem dX7_readsOrder_28 : decode cX7_readsOrder 28 = .ok (.aload_n 0, 1) := by decide +kernel
theorem dX7_readsOrder_29 : decode cX7_readsOrder 29 = .ok (.dup, 1) := by decide +kernel
theorem dX7_readsOrder_30 : decode cX7_readsOrder 30 = .ok (.getfield 226, 3) := by decide +kernel
theorem dX7_readsOrder_33 : decode cX7_readsOrder 33 = .ok (.aload_n 0, 1) := by decide +kernel
theorem dX7_readsOrder_34 : decode cX7_readsOrder 34 = .ok (.getfield 235, 3) := by decide +kernel
theorem dX7_readsOrder_37 : decode cX7_readsOrder 37 = .ok (.ifCond .eq 7, 3) := by decide +kernel
theorem dX7_readsOrder_40 : decode cX7_readsOrder 40 = .ok (.iconst 0, 1) := by decide +kernel
theorem dX7_readsOrder_41 : decode cX7_readsOrder 41 = .ok (.goto 4, 3) := by decide +kernel
theorem dX7_readsOrder_44 : decode cX7_readsOrder 44 = .ok (.iconst 1, 1) := by decide +kernel
theorem dX7_readsOrder_45 : decode cX7_readsOrder 45 = .ok (.iadd, 1) := by decide +kernel
theorem dX7_readsOrder_46 : decode cX7_readsOrder 46 = .ok (.putfield 226, 3) := by decide +kernel
theorem dX7_readsOrder_49 : decode cX7_readsOrder 49 = .ok (.aload_n 0, 1) := by decide +kernel
theorem dX7_readsOrder_50 : decode cX7_readsOrder 50 = .ok (.iload_n 1, 1) := by decide +kernel
theorem dX7_readsOrder_51 : decode cX7_readsOrder 51 = .ok (.iload_n 2, 1) := by decide +kernel
theorem dX7_readsOrder_52 : decode cX7_readsOrder 52 = .ok (.invokevirtual 250, 3) := by decide +kernel
theorem dX7_readsOrder_55 : decode cX7_readsOrder 55 = .ok (.aload_n 0, 1) := by decide +kernel
theorem dX7_readsOrder_56 : decode cX7_readsOrder 56 = .ok (.getfield 235, 3) := by decide +kernel
theorem dX7_readsOrder_59 : decode cX7_readsOrder 59 = .ok (.ifCond .ne 48, 3) := by decide +kernel
theorem dX7_readsOrder_62 : decode cX7_readsOrder 62 = .ok (.aload_n 0, 1) := by decide +kernel
theorem dX7_readsOrder_63 : decode cX7_readsOrder 63 = .ok (.invokevirtual 232, 3) := by decide +kernel
theorem dX7_readsOrder_66 : decode cX7_readsOrder 66 = .ok (.aload_n 0, 1) := by decide +kernel
theorem dX7_readsOrder_67 : decode cX7_readsOrder 67 = .ok (.aload_n 0, 1) := by decide +kernel
theorem dX7_readsOrder_68 : decode cX7_readsOrder 68 = .ok (.bipush 59, 2) := by decide +kernel
theorem dX7_readsOrder_70 : decode cX7_readsOrder 70 = .ok (.bipush 59, 2) := by decide +kernel
theorem dX7_readsOrder_72 : decode cX7_readsOrder 72 = .ok (.invokevirtual 229, 3) := by decide +kernel
theorem dX7_readsOrder_75 : decode cX7_readsOrder 75 = .ok (.ifCond .ne 7, 3) := by decide +kernel
theorem dX7_readsOrder_78 : decode cX7_readsOrder 78 = .ok (.iconst 1, 1) := by decide +kernel
theorem dX7_readsOrder_79 : decode cX7_readsOrder 79 = .ok (.goto 4, 3) := by decide +kernel
theorem dX7_readsOrder_82 : decode cX7_readsOrder 82 = .ok (.iconst 0, 1) := by decide +kernel
theorem dX7_readsOrder_83 : decode cX7_readsOrder 83 = .ok (.putfield 235, 3) := by decide +kernel
theorem dX7_readsOrder_86 : decode cX7_readsOrder 86 = .ok (.aload_n 0, 1) := by decide +kernel
theorem dX7_readsOrder_87 : decode cX7_readsOrder 87 = .ok (.dup, 1) := by decide +kernel
theorem dX7_readsOrder_88 : decode cX7_readsOrder 88 = .ok (.getfield 226, 3) := by decide +kernel
theorem dX7_readsOrder_91 : decode cX7_readsOrder 91 = .ok (.aload_n 0, 1) := by decide +kernel
theorem dX7_readsOrder_92 : decode cX7_readsOrder 92 = .ok (.getfield 235, 3) := by decide +kernel
theorem dX7_readsOrder_95 : decode cX7_readsOrder 95 = .ok (.ifCond .eq 7, 3) := by decide +kernel
theorem dX7_readsOrder_98 : decode cX7_readsOrder 98 = .ok (.iconst 0, 1) := by decide +kernel
theorem dX7_readsOrder_99 : decode cX7_readsOrder 99 = .ok (.goto 4, 3) := by decide +kernel
theorem dX7_readsOrder_102 : decode cX7_readsOrder 102 = .ok (.iconst 1, 1) := by decide +kernel
theorem dX7_readsOrder_103 : decode cX7_readsOrder 103 = .ok (.iadd, 1) := by decide +kernel
theorem dX7_readsOrder_104 : decode cX7_readsOrder 104 = .ok (.putfield 226, 3) := by decide +kernel
theorem dX7_readsOrder_107 : decode cX7_readsOrder 107 = .ok (.aload_n 0, 1) := by decide +kernel
theorem dX7_readsOrder_108 : decode cX7_readsOrder 108 = .ok (.getfield 235, 3) := by decide +kernel
theorem dX7_readsOrder_111 : decode cX7_readsOrder 111 = .ok (.ifCond .ne 23, 3) := by decide +kernel
theorem dX7_readsOrder_114 : decode cX7_readsOrder 114 = .ok (.aload_n 0, 1) := by decide +kernel
theorem dX7_readsOrder_115 : decode cX7_readsOrder 115 = .ok (.getfield 41, 3) := by decide +kernel
theorem dX7_readsOrder_118 : decode cX7_readsOrder 118 = .ok (.aload_n 0, 1) := by decide +kernel
theorem dX7_readsOrder_119 : decode cX7_readsOrder 119 = .ok (.getfield 238, 3) := by decide +kernel
theorem dX7_readsOrder_122 : decode cX7_readsOrder 122 = .ok (.iload_n 1, 1) := by decide +kernel
theorem dX7_readsOrder_123 : decode cX7_readsOrder 123 = .ok (.iastore, 1) := by decide +kernel
theorem dX7_readsOrder_124 : decode cX7_readsOrder 124 = .ok (.aload_n 0, 1) := by decide +kernel
theorem dX7_readsOrder_125 : decode cX7_readsOrder 125 = .ok (.dup, 1) := by decide +kernel
theorem dX7_readsOrder_126 : decode cX7_readsOrder 126 = .ok (.getfield 238, 3) := by decide +kernel
theorem dX7_readsOrder_129 : decode cX7_readsOrder 129 = .ok (.iconst 1, 1) := by decide +kernel
theorem dX7_readsOrder_130 : decode cX7_readsOrder 130 = .ok (.iadd, 1) := by decide +kernel
theorem dX7_readsOrder_131 : decode cX7_readsOrder 131 = .ok (.putfield 238, 3) := by decide +kernel
theorem dX7_readsOrder_134 : decode cX7_readsOrder 134 = .ok (.return_, 1) := by decide +kernel
theorem dX7_isRead_0 : decode cX7_isRead 0 = .ok (.aload_n 0, 1) := by decide +kernel
theorem dX7_isRead_1 : decode cX7_isRead 1 = .ok (.iconst 0, 1) := by decide +kernel
theorem dX7_isRead_2 : decode cX7_isRead 2 = .ok (.putfield 226, 3) := by decide +kernel
theorem dX7_isRead_5 : decode cX7_isRead 5 = .ok (.aload_n 0, 1) := by decide +kernel
theorem dX7_isRead_6 : decode cX7_isRead 6 = .ok (.iconst 0, 1) := by decide +kernel
theorem dX7_isRead_7 : decode cX7_isRead 7 = .ok (.putfield 238, 3) := by decide +kernel
theorem dX7_isRead_10 : decode cX7_isRead 10 = .ok (.aload_n 0, 1) := by decide +kernel
theorem dX7_isRead_11 : decode cX7_isRead 11 = .ok (.invokevirtual 232, 3) := by decide +kernel
theorem dX7_isRead_14 : decode cX7_isRead 14 = .ok (.aload_n 0, 1) := by decide +kernel
theorem dX7_isRead_15 : decode cX7_isRead 15 = .ok (.aload_n 0, 1) := by decide +kernel
theorem dX7_isRead_16 : decode cX7_isRead 16 = .ok (.getfield 226, 3) := by decide +kernel
theorem dX7_isRead_19 : decode cX7_isRead 19 = .ok (.aload_n 0, 1) := by decide +kernel
theorem dX7_isRead_20 : decode cX7_isRead 20 = .ok (.getfield 223, 3) := by decide +kernel
theorem dX7_isRead_23 : decode cX7_isRead 23 = .ok (.if_icmp .ne 7, 3) := by decide +kernel
theorem dX7_isRead_26 : decode cX7_isRead 26 = .ok (.iconst 1, 1) := by decide +kernel
theorem dX7_isRead_27 : decode cX7_isRead 27 = .ok (.goto 4, 3) := by decide +kernel
theorem dX7_isRead_30 : decode cX7_isRead 30 = .ok (.iconst 0, 1) := by decide +kernel
theorem dX7_isRead_31 : decode cX7_isRead 31 = .ok (.putfield 235, 3) := by decide +kernel
theorem dX7_isRead_34 : decode cX7_isRead 34 = .ok (.aload_n 0, 1) := by decide +kernel
theorem dX7_isRead_35 : decode cX7_isRead 35 = .ok (.getfield 235, 3) := by decide +kernel
theorem dX7_isRead_38 : decode cX7_isRead 38 = .ok (.ifCond .ne 32, 3) := by decide +kernel
theorem dX7_isRead_41 : decode cX7_isRead 41 = .ok (.aload_n 0, 1) := by decide +kernel
theorem dX7_isRead_42 : decode cX7_isRead 42 = .ok (.getfield 226, 3) := by decide +kernel
theorem dX7_isRead_45 : decode cX7_isRead 45 = .ok (.aload_n 0, 1) := by decide +kernel
theorem dX7_isRead_46 : decode cX7_isRead 46 = .ok (.getfield 223, 3) := by decide +kernel
theorem dX7_isRead_49 : decode cX7_isRead 49 = .ok (.if_icmp .ge 21, 3) := by decide +kernel
theorem dX7_isRead_52 : decode cX7_isRead 52 = .ok (.aload_n 0, 1) := by decide +kernel
theorem dX7_isRead_53 : decode cX7_isRead 53 = .ok (.invokevirtual 254, 3) := by decide +kernel
theorem dX7_isRead_56 : decode cX7_isRead 56 = .ok (.aload_n 0, 1) := by decide +kernel
theorem dX7_isRead_57 : decode cX7_isRead 57 = .ok (.getfield 235, 3) := by decide +kernel
theorem dX7_isRead_60 : decode cX7_isRead 60 = .ok (.ifCond .ne (-26), 3) := by decide +kernel
theorem dX7_isRead_63 : decode cX7_isRead 63 = .ok (.aload_n 0, 1) := by decide +kernel
theorem dX7_isRead_64 : decode cX7_isRead 64 = .ok (.invokevirtual 232, 3) := by decide +kernel
theorem dX7_isRead_67 : decode cX7_isRead 67 = .ok (.goto (-33), 3) := by decide +kernel
theorem dX7_isRead_70 : decode cX7_isRead 70 = .ok (.aload_n 0, 1) := by decide +kernel
theorem dX7_isRead_71 : decode cX7_isRead 71 = .ok (.getfield 235, 3) := by decide +kernel
theorem dX7_isRead_74 : decode cX7_isRead 74 = .ok (.ifCond .ne 7, 3) := by decide +kernel
theorem dX7_isRead_77 : decode cX7_isRead 77 = .ok (.iconst 1, 1) := by decide +kernel
theorem dX7_isRead_78 : decode cX7_isRead 78 = .ok (.goto 4, 3) := by decide +kernel
theorem dX7_isRead_81 : decode cX7_isRead 81 = .ok (.iconst 0, 1) := by decide +kernel
theorem dX7_isRead_82 : decode cX7_isRead 82 = .ok (.ireturn, 1) := by decide +kernel
theorem dX7_isLetter_0 : decode cX7_isLetter 0 = .ok (.iload_n 1, 1) := by decide +kernel
theorem dX7_isLetter_1 : decode cX7_isLetter 1 = .ok (.aload_n 0, 1) := by decide +kernel
theorem dX7_isLetter_2 : decode cX7_isLetter 2 = .ok (.getfield 223, 3) := by decide +kernel
theorem dX7_isLetter_5 : decode cX7_isLetter 5 = .ok (.if_icmp .ge 26, 3) := by decide +kernel
theorem dX7_isLetter_8 : decode cX7_isLetter 8 = .ok (.aload_n 0, 1) := by decide +kernel
theorem dX7_isLetter_9 : decode cX7_isLetter 9 = .ok (.getfield 22, 3) := by decide +kernel
theorem dX7_isLetter_12 : decode cX7_isLetter 12 = .ok (.iload_n 1, 1) := by decide +kernel
theorem dX7_isLetter_13 : decode cX7_isLetter 13 = .ok (.iaload, 1) := by decide +kernel
theorem dX7_isLetter_14 : decode cX7_isLetter 14 = .ok (.i2l, 1) := by decide +kernel
theorem dX7_isLetter_15 : decode cX7_isLetter 15 = .ok (.ldc2_w 257, 3) := by decide +kernel
theorem dX7_isLetter_18 : decode cX7_isLetter 18 = .ok (.ldc2_w 259, 3) := by decide +kernel
theorem dX7_isLetter_21 : decode cX7_isLetter 21 = .ok (.invokestatic 47, 3) := by decide +kernel
theorem dX7_isLetter_24 : decode cX7_isLetter 24 = .ok (.ifCond .eq 7, 3) := by decide +kernel
theorem dX7_isLetter_27 : decode cX7_isLetter 27 = .ok (.iconst 1, 1) := by decide +kernel
theorem dX7_isLetter_28 : decode cX7_isLetter 28 = .ok (.goto 4, 3) := by decide +kernel
theorem dX7_isLetter_31 : decode cX7_isLetter 31 = .ok (.iconst 0, 1) := by decide +kernel
theorem dX7_isLetter_32 : decode cX7_isLetter 32 = .ok (.ireturn, 1) := by decide +kernel
theorem dX7_codeFrom_0 : decode cX7_codeFrom 0 = .ok (.iconst 0, 1) := by decide +kernel
theorem dX7_codeFrom_1 : decode cX7_codeFrom 1 = .ok (.istore_n 2, 1) := by decide +kernel
theorem dX7_codeFrom_2 : decode cX7_codeFrom 2 = .ok (.iload_n 1, 1) := by decide +kernel
theorem dX7_codeFrom_3 : decode cX7_codeFrom 3 = .ok (.istore_n 3, 1) := by decide +kernel
theorem dX7_codeFrom_4 : decode cX7_codeFrom 4 = .ok (.aload_n 0, 1) := by decide +kernel
theorem dX7_codeFrom_5 : decode cX7_codeFrom 5 = .ok (.iload_n 3, 1) := by decide +kernel
theorem dX7_codeFrom_6 : decode cX7_codeFrom 6 = .ok (.invokevirtual 261, 3) := by decide +kernel
theorem dX7_codeFrom_9 : decode cX7_codeFrom 9 = .ok (.ifCond .eq 26, 3) := by decide +kernel
theorem dX7_codeFrom_12 : decode cX7_codeFrom 12 = .ok (.bipush 10, 2) := by decide +kernel
theorem dX7_codeFrom_14 : decode cX7_codeFrom 14 = .ok (.iload_n 2, 1) := by decide +kernel
theorem dX7_codeFrom_15 : decode cX7_codeFrom 15 = .ok (.imul, 1) := by decide +kernel
theorem dX7_codeFrom_16 : decode cX7_codeFrom 16 = .ok (.aload_n 0, 1) := by decide +kernel
theorem dX7_codeFrom_17 : decode cX7_codeFrom 17 = .ok (.getfield 22, 3) := by decide +kernel
theorem dX7_codeFrom_20 : decode cX7_codeFrom 20 = .ok (.iload_n 3, 1) := by decide +kernel
theorem dX7_codeFrom_21 : decode cX7_codeFrom 21 = .ok (.iaload, 1) := by decide +kernel
theorem dX7_codeFrom_22 : decode cX7_codeFrom 22 = .ok (.iadd, 1) := by decide +kernel
theorem dX7_codeFrom_23 : decode cX7_codeFrom 23 = .ok (.bipush 97, 2) := by decide +kernel
theorem dX7_codeFrom_25 : decode cX7_codeFrom 25 = .ok (.isub, 1) := by decide +kernel
theorem dX7_codeFrom_26 : decode cX7_codeFrom 26 = .ok (.iconst 1, 1) := by decide +kernel
theorem dX7_codeFrom_27 : decode cX7_codeFrom 27 = .ok (.iadd, 1) := by decide +kernel
theorem dX7_codeFrom_28 : decode cX7_codeFrom 28 = .ok (.istore_n 2, 1) := by decide +kernel
theorem dX7_codeFrom_29 : decode cX7_codeFrom 29 = .ok (.iinc 3 1, 3) := by decide +kernel
theorem dX7_codeFrom_32 : decode cX7_codeFrom 32 = .ok (.goto (-28), 3) := by decide +kernel
theorem dX7_codeFrom_35 : decode cX7_codeFrom 35 = .ok (.iload_n 2, 1) := by decide +kernel
theorem dX7_codeFrom_36 : decode cX7_codeFrom 36 = .ok (.ireturn, 1) := by decide +kernel
theorem dX7_setsLine_0 : decode cX7_setsLine 0 = .ok (.aload_n 0, 1) := by decide +kernel
theorem dX7_setsLine_1 : decode cX7_setsLine 1 = .ok (.getfield 7, 3) := by decide +kernel
theorem dX7_setsLine_4 : decode cX7_setsLine 4 = .ok (.iconst 1, 1) := by decide +kernel
theorem dX7_setsLine_5 : decode cX7_setsLine 5 = .ok (.iconst 0, 1) := by decide +kernel
theorem dX7_setsLine_6 : decode cX7_setsLine 6 = .ok (.iastore, 1) := by decide +kernel
theorem dX7_setsLine_7 : decode cX7_setsLine 7 = .ok (.iload_n 1, 1) := by decide +kernel
theorem dX7_setsLine_8 : decode cX7_setsLine 8 = .ok (.istore_n 2, 1) := by decide +kernel
theorem dX7_setsLine_9 : decode cX7_setsLine 9 = .ok (.aload_n 0, 1) := by decide +kernel
theorem dX7_setsLine_10 : decode cX7_setsLine 10 = .ok (.iload_n 2, 1) := by decide +kernel
theorem dX7_setsLine_11 : decode cX7_setsLine 11 = .ok (.invokevirtual 261, 3) := by decide +kernel
theorem dX7_setsLine_14 : decode cX7_setsLine 14 = .ok (.ifCond .eq 44, 3) := by decide +kernel
theorem dX7_setsLine_17 : decode cX7_setsLine 17 = .ok (.aload_n 0, 1) := by decide +kernel
theorem dX7_setsLine_18 : decode cX7_setsLine 18 = .ok (.getfield 7, 3) := by decide +kernel
theorem dX7_setsLine_21 : decode cX7_setsLine 21 = .ok (.bipush 69, 2) := by decide +kernel
theorem dX7_setsLine_23 : decode cX7_setsLine 23 = .ok (.aload_n 0, 1) := by decide +kernel
theorem dX7_setsLine_24 : decode cX7_setsLine 24 = .ok (.getfield 7, 3) := by decide +kernel
theorem dX7_setsLine_27 : decode cX7_setsLine 27 = .ok (.iconst 1, 1) := by decide +kernel
theorem dX7_setsLine_28 : decode cX7_setsLine 28 = .ok (.iaload, 1) := by decide +kernel
theorem dX7_setsLine_29 : decode cX7_setsLine 29 = .ok (.iadd, 1) := by decide +kernel
theorem dX7_setsLine_30 : decode cX7_setsLine 30 = .ok (.aload_n 0, 1) := by decide +kernel
theorem dX7_setsLine_31 : decode cX7_setsLine 31 = .ok (.getfield 22, 3) := by decide +kernel
theorem dX7_setsLine_34 : decode cX7_setsLine 34 = .ok (.iload_n 2, 1) := by decide +kernel
theorem dX7_setsLine_35 : decode cX7_setsLine 35 = .ok (.iaload, 1) := by decide +kernel
theorem dX7_setsLine_36 : decode cX7_setsLine 36 = .ok (.bipush 97, 2) := by decide +kernel
theorem dX7_setsLine_38 : decode cX7_setsLine 38 = .ok (.isub, 1) := by decide +kernel
theorem dX7_setsLine_39 : decode cX7_setsLine 39 = .ok (.iconst 1, 1) := by decide +kernel
theorem dX7_setsLine_40 : decode cX7_setsLine 40 = .ok (.iadd, 1) := by decide +kernel
theorem dX7_setsLine_41 : decode cX7_setsLine 41 = .ok (.iastore, 1) := by decide +kernel
theorem dX7_setsLine_42 : decode cX7_setsLine 42 = .ok (.aload_n 0, 1) := by decide +kernel
theorem dX7_setsLine_43 : decode cX7_setsLine 43 = .ok (.getfield 7, 3) := by decide +kernel
theorem dX7_setsLine_46 : decode cX7_setsLine 46 = .ok (.iconst 1, 1) := by decide +kernel
theorem dX7_setsLine_47 : decode cX7_setsLine 47 = .ok (.dup2, 1) := by decide +kernel
theorem dX7_setsLine_48 : decode cX7_setsLine 48 = .ok (.iaload, 1) := by decide +kernel
theorem dX7_setsLine_49 : decode cX7_setsLine 49 = .ok (.iconst 1, 1) := by decide +kernel
theorem dX7_setsLine_50 : decode cX7_setsLine 50 = .ok (.iadd, 1) := by decide +kernel
theorem dX7_setsLine_51 : decode cX7_setsLine 51 = .ok (.iastore, 1) := by decide +kernel
theorem dX7_setsLine_52 : decode cX7_setsLine 52 = .ok (.iinc 2 1, 3) := by decide +kernel
theorem dX7_setsLine_55 : decode cX7_setsLine 55 = .ok (.goto (-46), 3) := by decide +kernel
theorem dX7_setsLine_58 : decode cX7_setsLine 58 = .ok (.aload_n 0, 1) := by decide +kernel
theorem dX7_setsLine_59 : decode cX7_setsLine 59 = .ok (.getfield 7, 3) := by decide +kernel
theorem dX7_setsLine_62 : decode cX7_setsLine 62 = .ok (.iconst 1, 1) := by decide +kernel
theorem dX7_setsLine_63 : decode cX7_setsLine 63 = .ok (.iaload, 1) := by decide +kernel
theorem dX7_setsLine_64 : decode cX7_setsLine 64 = .ok (.ireturn, 1) := by decide +kernel
theorem dX7_doesOrder_0 : decode cX7_doesOrder 0 = .ok (.aload_n 0, 1) := by decide +kernel
theorem dX7_doesOrder_1 : decode cX7_doesOrder 1 = .ok (.getfield 44, 3) := by decide +kernel
theorem dX7_doesOrder_4 : decode cX7_doesOrder 4 = .ok (.iconst 2, 1) := by decide +kernel
theorem dX7_doesOrder_5 : decode cX7_doesOrder 5 = .ok (.iload_n 1, 1) := by decide +kernel
theorem dX7_doesOrder_6 : decode cX7_doesOrder 6 = .ok (.imul, 1) := by decide +kernel
theorem dX7_doesOrder_7 : decode cX7_doesOrder 7 = .ok (.iaload, 1) := by decide +kernel
theorem dX7_doesOrder_8 : decode cX7_doesOrder 8 = .ok (.istore_n 2, 1) := by decide +kernel
theorem dX7_doesOrder_9 : decode cX7_doesOrder 9 = .ok (.aload_n 0, 1) := by decide +kernel
theorem dX7_doesOrder_10 : decode cX7_doesOrder 10 = .ok (.getfield 44, 3) := by decide +kernel
theorem dX7_doesOrder_13 : decode cX7_doesOrder 13 = .ok (.iconst 2, 1) := by decide +kernel
theorem dX7_doesOrder_14 : decode cX7_doesOrder 14 = .ok (.iload_n 1, 1) := by decide +kernel
theorem dX7_doesOrder_15 : decode cX7_doesOrder 15 = .ok (.imul, 1) := by decide +kernel
theorem dX7_doesOrder_16 : decode cX7_doesOrder 16 = .ok (.iconst 1, 1) := by decide +kernel
theorem dX7_doesOrder_17 : decode cX7_doesOrder 17 = .ok (.iadd, 1) := by decide +kernel
theorem dX7_doesOrder_18 : decode cX7_doesOrder 18 = .ok (.iaload, 1) := by decide +kernel
theorem dX7_doesOrder_19 : decode cX7_doesOrder 19 = .ok (.istore_n 3, 1) := by decide +kernel
theorem dX7_doesOrder_20 : decode cX7_doesOrder 20 = .ok (.aload_n 0, 1) := by decide +kernel
theorem dX7_doesOrder_21 : decode cX7_doesOrder 21 = .ok (.getfield 41, 3) := by decide +kernel
theorem dX7_doesOrder_24 : decode cX7_doesOrder 24 = .ok (.iload_n 1, 1) := by decide +kernel
theorem dX7_doesOrder_25 : decode cX7_doesOrder 25 = .ok (.iaload, 1) := by decide +kernel
theorem dX7_doesOrder_26 : decode cX7_doesOrder 26 = .ok (.tableswitch 169 98 119 #[119, 169, 169, 129, 102, 169, 169, 169, 169, 156, 113, 169, 169, 169, 169, 169, 169, 163, 146, 169, 169, 139], 102) := by decide +kernel
theorem dX7_doesOrder_128 : decode cX7_doesOrder 128 = .ok (.aload_n 0, 1) := by decide +kernel
theorem dX7_doesOrder_129 : decode cX7_doesOrder 129 = .ok (.iload_n 2, 1) := by decide +kernel
theorem dX7_doesOrder_130 : decode cX7_doesOrder 130 = .ok (.aload_n 0, 1) := by decide +kernel
theorem dX7_doesOrder_131 : decode cX7_doesOrder 131 = .ok (.iload_n 3, 1) := by decide +kernel
theorem dX7_doesOrder_132 : decode cX7_doesOrder 132 = .ok (.invokevirtual 264, 3) := by decide +kernel
theorem dX7_doesOrder_135 : decode cX7_doesOrder 135 = .ok (.invokevirtual 90, 3) := by decide +kernel
theorem dX7_doesOrder_138 : decode cX7_doesOrder 138 = .ok (.ireturn, 1) := by decide +kernel
theorem dX7_doesOrder_139 : decode cX7_doesOrder 139 = .ok (.aload_n 0, 1) := by decide +kernel
theorem dX7_doesOrder_140 : decode cX7_doesOrder 140 = .ok (.iload_n 2, 1) := by decide +kernel
theorem dX7_doesOrder_141 : decode cX7_doesOrder 141 = .ok (.invokevirtual 267, 3) := by decide +kernel
theorem dX7_doesOrder_144 : decode cX7_doesOrder 144 = .ok (.ireturn, 1) := by decide +kernel
theorem dX7_doesOrder_145 : decode cX7_doesOrder 145 = .ok (.aload_n 0, 1) := by decide +kernel
theorem dX7_doesOrder_146 : decode cX7_doesOrder 146 = .ok (.iconst 3, 1) := by decide +kernel
theorem dX7_doesOrder_147 : decode cX7_doesOrder 147 = .ok (.iload_n 2, 1) := by decide +kernel
theorem dX7_doesOrder_148 : decode cX7_doesOrder 148 = .ok (.iconst 0, 1) := by decide +kernel
theorem dX7_doesOrder_149 : decode cX7_doesOrder 149 = .ok (.bipush 15, 2) := by decide +kernel
theorem dX7_doesOrder_151 : decode cX7_doesOrder 151 = .ok (.invokevirtual 81, 3) := by decide +kernel
theorem dX7_doesOrder_154 : decode cX7_doesOrder 154 = .ok (.ireturn, 1) := by decide +kernel
theorem dX7_doesOrder_155 : decode cX7_doesOrder 155 = .ok (.aload_n 0, 1) := by decide +kernel
theorem dX7_doesOrder_156 : decode cX7_doesOrder 156 = .ok (.iconst 4, 1) := by decide +kernel
theorem dX7_doesOrder_157 : decode cX7_doesOrder 157 = .ok (.iload_n 2, 1) := by decide +kernel
theorem dX7_doesOrder_158 : decode cX7_doesOrder 158 = .ok (.iconst 0, 1) := by decide +kernel
theorem dX7_doesOrder_159 : decode cX7_doesOrder 159 = .ok (.bipush 15, 2) := by decide +kernel
theorem dX7_doesOrder_161 : decode cX7_doesOrder 161 = .ok (.invokevirtual 81, 3) := by decide +kernel
theorem dX7_doesOrder_164 : decode cX7_doesOrder 164 = .ok (.ireturn, 1) := by decide +kernel
theorem dX7_doesOrder_165 : decode cX7_doesOrder 165 = .ok (.aload_n 0, 1) := by decide +kernel
theorem dX7_doesOrder_166 : decode cX7_doesOrder 166 = .ok (.iload_n 2, 1) := by decide +kernel
theorem dX7_doesOrder_167 : decode cX7_doesOrder 167 = .ok (.iload_n 3, 1) := by decide +kernel
theorem dX7_doesOrder_168 : decode cX7_doesOrder 168 = .ok (.invokevirtual 101, 3) := by decide +kernel
theorem dX7_doesOrder_171 : decode cX7_doesOrder 171 = .ok (.ireturn, 1) := by decide +kernel
theorem dX7_doesOrder_172 : decode cX7_doesOrder 172 = .ok (.aload_n 0, 1) := by decide +kernel
theorem dX7_doesOrder_173 : decode cX7_doesOrder 173 = .ok (.iconst 2, 1) := by decide +kernel
theorem dX7_doesOrder_174 : decode cX7_doesOrder 174 = .ok (.iload_n 2, 1) := by decide +kernel
theorem dX7_doesOrder_175 : decode cX7_doesOrder 175 = .ok (.iconst 1, 1) := by decide +kernel
theorem dX7_doesOrder_176 : decode cX7_doesOrder 176 = .ok (.bipush 40, 2) := by decide +kernel
theorem dX7_doesOrder_178 : decode cX7_doesOrder 178 = .ok (.invokevirtual 81, 3) := by decide +kernel
theorem dX7_doesOrder_181 : decode cX7_doesOrder 181 = .ok (.ireturn, 1) := by decide +kernel
theorem dX7_doesOrder_182 : decode cX7_doesOrder 182 = .ok (.aload_n 0, 1) := by decide +kernel
theorem dX7_doesOrder_183 : decode cX7_doesOrder 183 = .ok (.iload_n 2, 1) := by decide +kernel
theorem dX7_doesOrder_184 : decode cX7_doesOrder 184 = .ok (.iload_n 3, 1) := by decide +kernel
theorem dX7_doesOrder_185 : decode cX7_doesOrder 185 = .ok (.invokevirtual 104, 3) := by decide +kernel
theorem dX7_doesOrder_188 : decode cX7_doesOrder 188 = .ok (.ireturn, 1) := by decide +kernel
theorem dX7_doesOrder_189 : decode cX7_doesOrder 189 = .ok (.aload_n 0, 1) := by decide +kernel
theorem dX7_doesOrder_190 : decode cX7_doesOrder 190 = .ok (.iload_n 2, 1) := by decide +kernel
theorem dX7_doesOrder_191 : decode cX7_doesOrder 191 = .ok (.invokevirtual 215, 3) := by decide +kernel
theorem dX7_doesOrder_194 : decode cX7_doesOrder 194 = .ok (.ireturn, 1) := by decide +kernel
theorem dX7_doesOrder_195 : decode cX7_doesOrder 195 = .ok (.aload_n 0, 1) := by decide +kernel
theorem dX7_doesOrder_196 : decode cX7_doesOrder 196 = .ok (.iload_n 2, 1) := by decide +kernel
theorem dX7_doesOrder_197 : decode cX7_doesOrder 197 = .ok (.invokevirtual 98, 3) := by decide +kernel
theorem dX7_doesOrder_200 : decode cX7_doesOrder 200 = .ok (.ireturn, 1) := by decide +kernel
theorem dX7_reads_0 : decode cX7_reads 0 = .ok (.aload_n 0, 1) := by decide +kernel
theorem dX7_reads_1 : decode cX7_reads 1 = .ok (.invokevirtual 270, 3) := by decide +kernel
theorem dX7_reads_4 : decode cX7_reads 4 = .ok (.ifCond .ne 11, 3) := by decide +kernel
theorem dX7_reads_7 : decode cX7_reads 7 = .ok (.bipush (-10), 2) := by decide +kernel
theorem dX7_reads_9 : decode cX7_reads 9 = .ok (.aload_n 0, 1) := by decide +kernel
theorem dX7_reads_10 : decode cX7_reads 10 = .ok (.getfield 226, 3) := by decide +kernel
theorem dX7_reads_13 : decode cX7_reads 13 = .ok (.isub, 1) := by decide +kernel
theorem dX7_reads_14 : decode cX7_reads 14 = .ok (.ireturn, 1) := by decide +kernel
theorem dX7_reads_15 : decode cX7_reads 15 = .ok (.aload_n 0, 1) := by decide +kernel
theorem dX7_reads_16 : decode cX7_reads 16 = .ok (.invokevirtual 87, 3) := by decide +kernel
theorem dX7_reads_19 : decode cX7_reads 19 = .ok (.iconst 0, 1) := by decide +kernel
theorem dX7_reads_20 : decode cX7_reads 20 = .ok (.istore_n 1, 1) := by decide +kernel
theorem dX7_reads_21 : decode cX7_reads 21 = .ok (.iload_n 1, 1) := by decide +kernel
theorem dX7_reads_22 : decode cX7_reads 22 = .ok (.aload_n 0, 1) := by decide +kernel
theorem dX7_reads_23 : decode cX7_reads 23 = .ok (.getfield 238, 3) := by decide +kernel
theorem dX7_reads_26 : decode cX7_reads 26 = .ok (.if_icmp .ge 50, 3) := by decide +kernel
theorem dX7_reads_29 : decode cX7_reads 29 = .ok (.aload_n 0, 1) := by decide +kernel
theorem dX7_reads_30 : decode cX7_reads 30 = .ok (.iload_n 1, 1) := by decide +kernel
theorem dX7_reads_31 : decode cX7_reads 31 = .ok (.invokevirtual 274, 3) := by decide +kernel
theorem dX7_reads_34 : decode cX7_reads 34 = .ok (.ifCond .ge 36, 3) := by decide +kernel
theorem dX7_reads_37 : decode cX7_reads 37 = .ok (.iconst 0, 1) := by decide +kernel
theorem dX7_reads_38 : decode cX7_reads 38 = .ok (.istore_n 2, 1) := by decide +kernel
theorem dX7_reads_39 : decode cX7_reads 39 = .ok (.iload_n 2, 1) := by decide +kernel
theorem dX7_reads_40 : decode cX7_reads 40 = .ok (.sipush 148, 3) := by decide +kernel
theorem dX7_reads_43 : decode cX7_reads 43 = .ok (.if_icmp .ge 21, 3) := by decide +kernel
theorem dX7_reads_46 : decode cX7_reads 46 = .ok (.aload_n 0, 1) := by decide +kernel
theorem dX7_reads_47 : decode cX7_reads 47 = .ok (.getfield 7, 3) := by decide +kernel
theorem dX7_reads_50 : decode cX7_reads 50 = .ok (.iload_n 2, 1) := by decide +kernel
theorem dX7_reads_51 : decode cX7_reads 51 = .ok (.aload_n 0, 1) := by decide +kernel
theorem dX7_reads_52 : decode cX7_reads 52 = .ok (.getfield 13, 3) := by decide +kernel
theorem dX7_reads_55 : decode cX7_reads 55 = .ok (.iload_n 2, 1) := by decide +kernel
theorem dX7_reads_56 : decode cX7_reads 56 = .ok (.iaload, 1) := by decide +kernel
theorem dX7_reads_57 : decode cX7_reads 57 = .ok (.iastore, 1) := by decide +kernel
theorem dX7_reads_58 : decode cX7_reads 58 = .ok (.iinc 2 1, 3) := by decide +kernel
theorem dX7_reads_61 : decode cX7_reads 61 = .ok (.goto (-22), 3) := by decide +kernel
theorem dX7_reads_64 : decode cX7_reads 64 = .ok (.sipush (-1000), 3) := by decide +kernel
theorem dX7_reads_67 : decode cX7_reads 67 = .ok (.iload_n 1, 1) := by decide +kernel
theorem dX7_reads_68 : decode cX7_reads 68 = .ok (.isub, 1) := by decide +kernel
theorem dX7_reads_69 : decode cX7_reads 69 = .ok (.ireturn, 1) := by decide +kernel
theorem dX7_reads_70 : decode cX7_reads 70 = .ok (.iinc 1 1, 3) := by decide +kernel
theorem dX7_reads_73 : decode cX7_reads 73 = .ok (.goto (-52), 3) := by decide +kernel
theorem dX7_reads_76 : decode cX7_reads 76 = .ok (.aload_n 0, 1) := by decide +kernel
theorem dX7_reads_77 : decode cX7_reads 77 = .ok (.invokevirtual 59, 3) := by decide +kernel
theorem dX7_reads_80 : decode cX7_reads 80 = .ok (.aload_n 0, 1) := by decide +kernel
theorem dX7_reads_81 : decode cX7_reads 81 = .ok (.getfield 238, 3) := by decide +kernel
theorem dX7_reads_84 : decode cX7_reads 84 = .ok (.ireturn, 1) := by decide +kernel
theorem dX7_toldOf_0 : decode cX7_toldOf 0 = .ok (.iload_n 1, 1) := by decide +kernel
theorem dX7_toldOf_1 : decode cX7_toldOf 1 = .ok (.iconst 4, 1) := by decide +kernel
theorem dX7_toldOf_2 : decode cX7_toldOf 2 = .ok (.if_icmp .ge 10, 3) := by decide +kernel
theorem dX7_toldOf_5 : decode cX7_toldOf 5 = .ok (.aload_n 0, 1) := by decide +kernel
theorem dX7_toldOf_6 : decode cX7_toldOf 6 = .ok (.getfield 19, 3) := by decide +kernel
theorem dX7_toldOf_9 : decode cX7_toldOf 9 = .ok (.iload_n 1, 1) := by decide +kernel
theorem dX7_toldOf_10 : decode cX7_toldOf 10 = .ok (.iaload, 1) := by decide +kernel
theorem dX7_toldOf_11 : decode cX7_toldOf 11 = .ok (.ireturn, 1) := by decide +kernel
theorem dX7_toldOf_12 : decode cX7_toldOf 12 = .ok (.iload_n 1, 1) := by decide +kernel
theorem dX7_toldOf_13 : decode cX7_toldOf 13 = .ok (.tableswitch 90 4 14 #[59, 64, 71, 78, 90, 90, 90, 90, 90, 90, 85], 59) := by decide +kernel
theorem dX7_toldOf_72 : decode cX7_toldOf 72 = .ok (.aload_n 0, 1) := by decide +kernel
theorem dX7_toldOf_73 : decode cX7_toldOf 73 = .ok (.getfield 223, 3) := by decide +kernel
theorem dX7_toldOf_76 : decode cX7_toldOf 76 = .ok (.ireturn, 1) := by decide +kernel
theorem dX7_toldOf_77 : decode cX7_toldOf 77 = .ok (.aload_n 0, 1) := by decide +kernel
theorem dX7_toldOf_78 : decode cX7_toldOf 78 = .ok (.getfield 7, 3) := by decide +kernel
theorem dX7_toldOf_81 : decode cX7_toldOf 81 = .ok (.iconst 0, 1) := by decide +kernel
theorem dX7_toldOf_82 : decode cX7_toldOf 82 = .ok (.iaload, 1) := by decide +kernel
theorem dX7_toldOf_83 : decode cX7_toldOf 83 = .ok (.ireturn, 1) := by decide +kernel
theorem dX7_toldOf_84 : decode cX7_toldOf 84 = .ok (.aload_n 0, 1) := by decide +kernel
theorem dX7_toldOf_85 : decode cX7_toldOf 85 = .ok (.getfield 7, 3) := by decide +kernel
theorem dX7_toldOf_88 : decode cX7_toldOf 88 = .ok (.iconst 1, 1) := by decide +kernel
theorem dX7_toldOf_89 : decode cX7_toldOf 89 = .ok (.iaload, 1) := by decide +kernel
theorem dX7_toldOf_90 : decode cX7_toldOf 90 = .ok (.ireturn, 1) := by decide +kernel
theorem dX7_toldOf_91 : decode cX7_toldOf 91 = .ok (.aload_n 0, 1) := by decide +kernel
theorem dX7_toldOf_92 : decode cX7_toldOf 92 = .ok (.getfield 7, 3) := by decide +kernel
theorem dX7_toldOf_95 : decode cX7_toldOf 95 = .ok (.iconst 2, 1) := by decide +kernel
theorem dX7_toldOf_96 : decode cX7_toldOf 96 = .ok (.iaload, 1) := by decide +kernel
theorem dX7_toldOf_97 : decode cX7_toldOf 97 = .ok (.ireturn, 1) := by decide +kernel
theorem dX7_toldOf_98 : decode cX7_toldOf 98 = .ok (.aload_n 0, 1) := by decide +kernel
theorem dX7_toldOf_99 : decode cX7_toldOf 99 = .ok (.getfield 51, 3) := by decide +kernel
theorem dX7_toldOf_102 : decode cX7_toldOf 102 = .ok (.ireturn, 1) := by decide +kernel
theorem dX7_toldOf_103 : decode cX7_toldOf 103 = .ok (.aload_n 0, 1) := by decide +kernel
theorem dX7_toldOf_104 : decode cX7_toldOf 104 = .ok (.getfield 7, 3) := by decide +kernel
theorem dX7_toldOf_107 : decode cX7_toldOf 107 = .ok (.iconst 3, 1) := by decide +kernel
theorem dX7_toldOf_108 : decode cX7_toldOf 108 = .ok (.iload_n 1, 1) := by decide +kernel
theorem dX7_toldOf_109 : decode cX7_toldOf 109 = .ok (.iadd, 1) := by decide +kernel
theorem dX7_toldOf_110 : decode cX7_toldOf 110 = .ok (.bipush 8, 2) := by decide +kernel
theorem dX7_toldOf_112 : decode cX7_toldOf 112 = .ok (.isub, 1) := by decide +kernel
theorem dX7_toldOf_113 : decode cX7_toldOf 113 = .ok (.iaload, 1) := by decide +kernel
theorem dX7_toldOf_114 : decode cX7_toldOf 114 = .ok (.ireturn, 1) := by decide +kernel
theorem dX7_told_0 : decode cX7_told 0 = .ok (.iload_n 1, 1) := by decide +kernel
theorem dX7_told_1 : decode cX7_told 1 = .ok (.i2l, 1) := by decide +kernel
theorem dX7_told_2 : decode cX7_told 2 = .ok (.lconst 0, 1) := by decide +kernel
theorem dX7_told_3 : decode cX7_told 3 = .ok (.ldc2_w 277, 3) := by decide +kernel
theorem dX7_told_6 : decode cX7_told 6 = .ok (.invokestatic 47, 3) := by decide +kernel
theorem dX7_told_9 : decode cX7_told 9 = .ok (.ifCond .eq 11, 3) := by decide +kernel
theorem dX7_told_12 : decode cX7_told 12 = .ok (.aload_n 0, 1) := by decide +kernel
theorem dX7_told_13 : decode cX7_told 13 = .ok (.iload_n 1, 1) := by decide +kernel
theorem dX7_told_14 : decode cX7_told 14 = .ok (.invokevirtual 279, 3) := by decide +kernel
theorem dX7_told_17 : decode cX7_told 17 = .ok (.goto 7, 3) := by decide +kernel
theorem dX7_told_20 : decode cX7_told 20 = .ok (.aload_n 0, 1) := by decide +kernel
theorem dX7_told_21 : decode cX7_told 21 = .ok (.invokevirtual 65, 3) := by decide +kernel
theorem dX7_told_24 : decode cX7_told 24 = .ok (.ireturn, 1) := by decide +kernel
theorem dX7_mix_0 : decode cX7_mix 0 = .ok (.aload_n 0, 1) := by decide +kernel
theorem dX7_mix_1 : decode cX7_mix 1 = .ok (.ldc2_w 282, 3) := by decide +kernel
theorem dX7_mix_4 : decode cX7_mix 4 = .ok (.aload_n 0, 1) := by decide +kernel
theorem dX7_mix_5 : decode cX7_mix 5 = .ok (.getfield 284, 3) := by decide +kernel
theorem dX7_mix_8 : decode cX7_mix 8 = .ok (.lmul, 1) := by decide +kernel
theorem dX7_mix_9 : decode cX7_mix 9 = .ok (.lload_n 1, 1) := by decide +kernel
theorem dX7_mix_10 : decode cX7_mix 10 = .ok (.ladd, 1) := by decide +kernel
theorem dX7_mix_11 : decode cX7_mix 11 = .ok (.putfield 284, 3) := by decide +kernel
theorem dX7_mix_14 : decode cX7_mix 14 = .ok (.return_, 1) := by decide +kernel
theorem dX7_digest_0 : decode cX7_digest 0 = .ok (.aload_n 0, 1) := by decide +kernel
theorem dX7_digest_1 : decode cX7_digest 1 = .ok (.ldc2_w 288, 3) := by decide +kernel
theorem dX7_digest_4 : decode cX7_digest 4 = .ok (.putfield 284, 3) := by decide +kernel
theorem dX7_digest_7 : decode cX7_digest 7 = .ok (.iconst 0, 1) := by decide +kernel
theorem dX7_digest_8 : decode cX7_digest 8 = .ok (.istore_n 1, 1) := by decide +kernel
theorem dX7_digest_9 : decode cX7_digest 9 = .ok (.iload_n 1, 1) := by decide +kernel
theorem dX7_digest_10 : decode cX7_digest 10 = .ok (.bipush 15, 2) := by decide +kernel
theorem dX7_digest_12 : decode cX7_digest 12 = .ok (.if_icmp .ge 19, 3) := by decide +kernel
theorem dX7_digest_15 : decode cX7_digest 15 = .ok (.aload_n 0, 1) := by decide +kernel
theorem dX7_digest_16 : decode cX7_digest 16 = .ok (.aload_n 0, 1) := by decide +kernel
theorem dX7_digest_17 : decode cX7_digest 17 = .ok (.iload_n 1, 1) := by decide +kernel
theorem dX7_digest_18 : decode cX7_digest 18 = .ok (.invokevirtual 279, 3) := by decide +kernel
theorem dX7_digest_21 : decode cX7_digest 21 = .ok (.i2l, 1) := by decide +kernel
theorem dX7_digest_22 : decode cX7_digest 22 = .ok (.invokevirtual 290, 3) := by decide +kernel
theorem dX7_digest_25 : decode cX7_digest 25 = .ok (.iinc 1 1, 3) := by decide +kernel
theorem dX7_digest_28 : decode cX7_digest 28 = .ok (.goto (-19), 3) := by decide +kernel
theorem dX7_digest_31 : decode cX7_digest 31 = .ok (.iconst 0, 1) := by decide +kernel
theorem dX7_digest_32 : decode cX7_digest 32 = .ok (.istore_n 1, 1) := by decide +kernel
theorem dX7_digest_33 : decode cX7_digest 33 = .ok (.iload_n 1, 1) := by decide +kernel
theorem dX7_digest_34 : decode cX7_digest 34 = .ok (.bipush 7, 2) := by decide +kernel
theorem dX7_digest_36 : decode cX7_digest 36 = .ok (.aload_n 0, 1) := by decide +kernel
theorem dX7_digest_37 : decode cX7_digest 37 = .ok (.getfield 7, 3) := by decide +kernel
theorem dX7_digest_40 : decode cX7_digest 40 = .ok (.iconst 0, 1) := by decide +kernel
theorem dX7_digest_41 : decode cX7_digest 41 = .ok (.iaload, 1) := by decide +kernel
theorem dX7_digest_42 : decode cX7_digest 42 = .ok (.imul, 1) := by decide +kernel
theorem dX7_digest_43 : decode cX7_digest 43 = .ok (.if_icmp .ge 26, 3) := by decide +kernel
theorem dX7_digest_46 : decode cX7_digest 46 = .ok (.aload_n 0, 1) := by decide +kernel
theorem dX7_digest_47 : decode cX7_digest 47 = .ok (.aload_n 0, 1) := by decide +kernel
theorem dX7_digest_48 : decode cX7_digest 48 = .ok (.iload_n 1, 1) := by decide +kernel
theorem dX7_digest_49 : decode cX7_digest 49 = .ok (.bipush 7, 2) := by decide +kernel
theorem dX7_digest_51 : decode cX7_digest 51 = .ok (.idiv, 1) := by decide +kernel
theorem dX7_digest_52 : decode cX7_digest 52 = .ok (.iload_n 1, 1) := by decide +kernel
theorem dX7_digest_53 : decode cX7_digest 53 = .ok (.bipush 7, 2) := by decide +kernel
theorem dX7_digest_55 : decode cX7_digest 55 = .ok (.irem, 1) := by decide +kernel
theorem dX7_digest_56 : decode cX7_digest 56 = .ok (.invokevirtual 118, 3) := by decide +kernel
theorem dX7_digest_59 : decode cX7_digest 59 = .ok (.i2l, 1) := by decide +kernel
theorem dX7_digest_60 : decode cX7_digest 60 = .ok (.invokevirtual 290, 3) := by decide +kernel
theorem dX7_digest_63 : decode cX7_digest 63 = .ok (.iinc 1 1, 3) := by decide +kernel
theorem dX7_digest_66 : decode cX7_digest 66 = .ok (.goto (-33), 3) := by decide +kernel
theorem dX7_digest_69 : decode cX7_digest 69 = .ok (.iconst 0, 1) := by decide +kernel
theorem dX7_digest_70 : decode cX7_digest 70 = .ok (.istore_n 1, 1) := by decide +kernel
theorem dX7_digest_71 : decode cX7_digest 71 = .ok (.iload_n 1, 1) := by decide +kernel
theorem dX7_digest_72 : decode cX7_digest 72 = .ok (.aload_n 0, 1) := by decide +kernel
theorem dX7_digest_73 : decode cX7_digest 73 = .ok (.getfield 7, 3) := by decide +kernel
theorem dX7_digest_76 : decode cX7_digest 76 = .ok (.iconst 1, 1) := by decide +kernel
theorem dX7_digest_77 : decode cX7_digest 77 = .ok (.iaload, 1) := by decide +kernel
theorem dX7_digest_78 : decode cX7_digest 78 = .ok (.if_icmp .ge 23, 3) := by decide +kernel
theorem dX7_digest_81 : decode cX7_digest 81 = .ok (.aload_n 0, 1) := by decide +kernel
theorem dX7_digest_82 : decode cX7_digest 82 = .ok (.aload_n 0, 1) := by decide +kernel
theorem dX7_digest_83 : decode cX7_digest 83 = .ok (.getfield 7, 3) := by decide +kernel
theorem dX7_digest_86 : decode cX7_digest 86 = .ok (.bipush 69, 2) := by decide +kernel
theorem dX7_digest_88 : decode cX7_digest 88 = .ok (.iload_n 1, 1) := by decide +kernel
theorem dX7_digest_89 : decode cX7_digest 89 = .ok (.iadd, 1) := by decide +kernel
theorem dX7_digest_90 : decode cX7_digest 90 = .ok (.iaload, 1) := by decide +kernel
theorem dX7_digest_91 : decode cX7_digest 91 = .ok (.i2l, 1) := by decide +kernel
theorem dX7_digest_92 : decode cX7_digest 92 = .ok (.invokevirtual 290, 3) := by decide +kernel
theorem dX7_digest_95 : decode cX7_digest 95 = .ok (.iinc 1 1, 3) := by decide +kernel
theorem dX7_digest_98 : decode cX7_digest 98 = .ok (.goto (-27), 3) := by decide +kernel
theorem dX7_digest_101 : decode cX7_digest 101 = .ok (.iconst 1, 1) := by decide +kernel
theorem dX7_digest_102 : decode cX7_digest 102 = .ok (.istore_n 1, 1) := by decide +kernel
theorem dX7_digest_103 : decode cX7_digest 103 = .ok (.iload_n 1, 1) := by decide +kernel
theorem dX7_digest_104 : decode cX7_digest 104 = .ok (.bipush 40, 2) := by decide +kernel
theorem dX7_digest_106 : decode cX7_digest 106 = .ok (.if_icmp .ge 23, 3) := by decide +kernel
theorem dX7_digest_109 : decode cX7_digest 109 = .ok (.aload_n 0, 1) := by decide +kernel
theorem dX7_digest_110 : decode cX7_digest 110 = .ok (.aload_n 0, 1) := by decide +kernel
theorem dX7_digest_111 : decode cX7_digest 111 = .ok (.getfield 7, 3) := by decide +kernel
theorem dX7_digest_114 : decode cX7_digest 114 = .ok (.bipush 108, 2) := by decide +kernel
theorem dX7_digest_116 : decode cX7_digest 116 = .ok (.iload_n 1, 1) := by decide +kernel
theorem dX7_digest_117 : decode cX7_digest 117 = .ok (.iadd, 1) := by decide +kernel
theorem dX7_digest_118 : decode cX7_digest 118 = .ok (.iaload, 1) := by decide +kernel
theorem dX7_digest_119 : decode cX7_digest 119 = .ok (.i2l, 1) := by decide +kernel
theorem dX7_digest_120 : decode cX7_digest 120 = .ok (.invokevirtual 290, 3) := by decide +kernel
theorem dX7_digest_123 : decode cX7_digest 123 = .ok (.iinc 1 1, 3) := by decide +kernel
theorem dX7_digest_126 : decode cX7_digest 126 = .ok (.goto (-23), 3) := by decide +kernel
theorem dX7_digest_129 : decode cX7_digest 129 = .ok (.aload_n 0, 1) := by decide +kernel
theorem dX7_digest_130 : decode cX7_digest 130 = .ok (.aload_n 0, 1) := by decide +kernel
theorem dX7_digest_131 : decode cX7_digest 131 = .ok (.iconst 1, 1) := by decide +kernel
theorem dX7_digest_132 : decode cX7_digest 132 = .ok (.iconst (-1), 1) := by decide +kernel
theorem dX7_digest_133 : decode cX7_digest 133 = .ok (.invokevirtual 163, 3) := by decide +kernel
theorem dX7_digest_136 : decode cX7_digest 136 = .ok (.invokevirtual 290, 3) := by decide +kernel
theorem dX7_digest_139 : decode cX7_digest 139 = .ok (.aload_n 0, 1) := by decide +kernel
theorem dX7_digest_140 : decode cX7_digest 140 = .ok (.aload_n 0, 1) := by decide +kernel
theorem dX7_digest_141 : decode cX7_digest 141 = .ok (.iconst 0, 1) := by decide +kernel
theorem dX7_digest_142 : decode cX7_digest 142 = .ok (.iconst (-1), 1) := by decide +kernel
theorem dX7_digest_143 : decode cX7_digest 143 = .ok (.invokevirtual 163, 3) := by decide +kernel
theorem dX7_digest_146 : decode cX7_digest 146 = .ok (.invokevirtual 290, 3) := by decide +kernel
theorem dX7_digest_149 : decode cX7_digest 149 = .ok (.iconst 0, 1) := by decide +kernel
theorem dX7_digest_150 : decode cX7_digest 150 = .ok (.istore_n 1, 1) := by decide +kernel
theorem dX7_digest_151 : decode cX7_digest 151 = .ok (.iload_n 1, 1) := by decide +kernel
theorem dX7_digest_152 : decode cX7_digest 152 = .ok (.iconst 3, 1) := by decide +kernel
theorem dX7_digest_153 : decode cX7_digest 153 = .ok (.if_icmp .ge 43, 3) := by decide +kernel
theorem dX7_digest_156 : decode cX7_digest 156 = .ok (.aload_n 0, 1) := by decide +kernel
theorem dX7_digest_157 : decode cX7_digest 157 = .ok (.aload_n 0, 1) := by decide +kernel
theorem dX7_digest_158 : decode cX7_digest 158 = .ok (.iconst 0, 1) := by decide +kernel
theorem dX7_digest_159 : decode cX7_digest 159 = .ok (.iload_n 1, 1) := by decide +kernel
theorem dX7_digest_160 : decode cX7_digest 160 = .ok (.invokevirtual 163, 3) := by decide +kernel
theorem dX7_digest_163 : decode cX7_digest 163 = .ok (.invokevirtual 290, 3) := by decide +kernel
theorem dX7_digest_166 : decode cX7_digest 166 = .ok (.iconst 0, 1) := by decide +kernel
theorem dX7_digest_167 : decode cX7_digest 167 = .ok (.istore_n 2, 1) := by decide +kernel
theorem dX7_digest_168 : decode cX7_digest 168 = .ok (.iload_n 2, 1) := by decide +kernel
theorem dX7_digest_169 : decode cX7_digest 169 = .ok (.iconst 4, 1) := by decide +kernel
theorem dX7_digest_170 : decode cX7_digest 170 = .ok (.if_icmp .ge 20, 3) := by decide +kernel
theorem dX7_digest_173 : decode cX7_digest 173 = .ok (.aload_n 0, 1) := by decide +kernel
theorem dX7_digest_174 : decode cX7_digest 174 = .ok (.aload_n 0, 1) := by decide +kernel
theorem dX7_digest_175 : decode cX7_digest 175 = .ok (.iload_n 1, 1) := by decide +kernel
theorem dX7_digest_176 : decode cX7_digest 176 = .ok (.iload_n 2, 1) := by decide +kernel
theorem dX7_digest_177 : decode cX7_digest 177 = .ok (.invokevirtual 218, 3) := by decide +kernel
theorem dX7_digest_180 : decode cX7_digest 180 = .ok (.i2l, 1) := by decide +kernel
theorem dX7_digest_181 : decode cX7_digest 181 = .ok (.invokevirtual 290, 3) := by decide +kernel
theorem dX7_digest_184 : decode cX7_digest 184 = .ok (.iinc 2 1, 3) := by decide +kernel
theorem dX7_digest_187 : decode cX7_digest 187 = .ok (.goto (-19), 3) := by decide +kernel
theorem dX7_digest_190 : decode cX7_digest 190 = .ok (.iinc 1 1, 3) := by decide +kernel
theorem dX7_digest_193 : decode cX7_digest 193 = .ok (.goto (-42), 3) := by decide +kernel
theorem dX7_digest_196 : decode cX7_digest 196 = .ok (.aload_n 0, 1) := by decide +kernel
theorem dX7_digest_197 : decode cX7_digest 197 = .ok (.getfield 284, 3) := by decide +kernel
theorem dX7_digest_200 : decode cX7_digest 200 = .ok (.lreturn, 1) := by decide +kernel
end
section
theorem dL_law_0 : decode cL_law 0 = .ok (.new 7, 3) := by decide +kernel
theorem dL_law_3 : decode cL_law 3 = .ok (.dup, 1) := by decide +kernel
theorem dL_law_4 : decode cL_law 4 = .ok (.invokespecial 9, 3) := by decide +kernel
theorem dL_law_7 : decode cL_law 7 = .ok (.astore_n 1, 1) := by decide +kernel
theorem dL_law_8 : decode cL_law 8 = .ok (.new 10, 3) := by decide +kernel
theorem dL_law_11 : decode cL_law 11 = .ok (.dup, 1) := by decide +kernel
theorem dL_law_12 : decode cL_law 12 = .ok (.invokespecial 12, 3) := by decide +kernel
theorem dL_law_15 : decode cL_law 15 = .ok (.astore_n 2, 1) := by decide +kernel
theorem dL_law_16 : decode cL_law 16 = .ok (.iconst 0, 1) := by decide +kernel
theorem dL_law_17 : decode cL_law 17 = .ok (.istore_n 3, 1) := by decide +kernel
theorem dL_law_18 : decode cL_law 18 = .ok (.iload_n 3, 1) := by decide +kernel
theorem dL_law_19 : decode cL_law 19 = .ok (.aload_n 0, 1) := by decide +kernel
theorem dL_law_20 : decode cL_law 20 = .ok (.arraylength, 1) := by decide +kernel
theorem dL_law_21 : decode cL_law 21 = .ok (.iconst 4, 1) := by decide +kernel
theorem dL_law_22 : decode cL_law 22 = .ok (.isub, 1) := by decide +kernel
theorem dL_law_23 : decode cL_law 23 = .ok (.if_icmp .gt 743, 3) := by decide +kernel
theorem dL_law_26 : decode cL_law 26 = .ok (.aload_n 0, 1) := by decide +kernel
theorem dL_law_27 : decode cL_law 27 = .ok (.iload_n 3, 1) := by decide +kernel
theorem dL_law_28 : decode cL_law 28 = .ok (.iaload, 1) := by decide +kernel
theorem dL_law_29 : decode cL_law 29 = .ok (.bipush 31, 2) := by decide +kernel
theorem dL_law_31 : decode cL_law 31 = .ok (.iand, 1) := by decide +kernel
theorem dL_law_32 : decode cL_law 32 = .ok (.tableswitch 728 0 23 #[112, 145, 168, 191, 214, 247, 280, 303, 316, 330, 363, 386, 419, 442, 475, 489, 552, 586, 629, 652, 665, 678, 691, 714], 112) := by decide +kernel
theorem dL_law_144 : decode cL_law 144 = .ok (.aload_n 1, 1) := by decide +kernel
theorem dL_law_145 : decode cL_law 145 = .ok (.aload_n 0, 1) := by decide +kernel
theorem dL_law_146 : decode cL_law 146 = .ok (.iload_n 3, 1) := by decide +kernel
theorem dL_law_147 : decode cL_law 147 = .ok (.iconst 1, 1) := by decide +kernel
theorem dL_law_148 : decode cL_law 148 = .ok (.iadd, 1) := by decide +kernel
theorem dL_law_149 : decode cL_law 149 = .ok (.iaload, 1) := by decide +kernel
theorem dL_law_150 : decode cL_law 150 = .ok (.aload_n 0, 1) := by decide +kernel
theorem dL_law_151 : decode cL_law 151 = .ok (.iload_n 3, 1) := by decide +kernel
theorem dL_law_152 : decode cL_law 152 = .ok (.iconst 2, 1) := by decide +kernel
theorem dL_law_153 : decode cL_law 153 = .ok (.iadd, 1) := by decide +kernel
theorem dL_law_154 : decode cL_law 154 = .ok (.iaload, 1) := by decide +kernel
theorem dL_law_155 : decode cL_law 155 = .ok (.invokevirtual 13, 3) := by decide +kernel
theorem dL_law_158 : decode cL_law 158 = .ok (.aload_n 2, 1) := by decide +kernel
theorem dL_law_159 : decode cL_law 159 = .ok (.aload_n 0, 1) := by decide +kernel
theorem dL_law_160 : decode cL_law 160 = .ok (.iload_n 3, 1) := by decide +kernel
theorem dL_law_161 : decode cL_law 161 = .ok (.iconst 1, 1) := by decide +kernel
theorem dL_law_162 : decode cL_law 162 = .ok (.iadd, 1) := by decide +kernel
theorem dL_law_163 : decode cL_law 163 = .ok (.iaload, 1) := by decide +kernel
theorem dL_law_164 : decode cL_law 164 = .ok (.aload_n 0, 1) := by decide +kernel
theorem dL_law_165 : decode cL_law 165 = .ok (.iload_n 3, 1) := by decide +kernel
theorem dL_law_166 : decode cL_law 166 = .ok (.iconst 2, 1) := by decide +kernel
theorem dL_law_167 : decode cL_law 167 = .ok (.iadd, 1) := by decide +kernel
theorem dL_law_168 : decode cL_law 168 = .ok (.iaload, 1) := by decide +kernel
theorem dL_law_169 : decode cL_law 169 = .ok (.invokevirtual 17, 3) := by decide +kernel
theorem dL_law_172 : decode cL_law 172 = .ok (.if_icmp .eq 588, 3) := by decide +kernel
theorem dL_law_175 : decode cL_law 175 = .ok (.iconst 0, 1) := by decide +kernel
theorem dL_law_176 : decode cL_law 176 = .ok (.ireturn, 1) := by decide +kernel
theorem dL_law_177 : decode cL_law 177 = .ok (.aload_n 1, 1) := by decide +kernel
theorem dL_law_178 : decode cL_law 178 = .ok (.aload_n 0, 1) := by decide +kernel
theorem dL_law_179 : decode cL_law 179 = .ok (.iload_n 3, 1) := by decide +kernel
theorem dL_law_180 : decode cL_law 180 = .ok (.iconst 1, 1) := by decide +kernel
theorem dL_law_181 : decode cL_law 181 = .ok (.iadd, 1) := by decide +kernel
theorem dL_law_182 : decode cL_law 182 = .ok (.iaload, 1) := by decide +kernel
theorem dL_law_183 : decode cL_law 183 = .ok (.invokevirtual 18, 3) := by decide +kernel
theorem dL_law_186 : decode cL_law 186 = .ok (.aload_n 2, 1) := by decide +kernel
theorem dL_law_187 : decode cL_law 187 = .ok (.aload_n 0, 1) := by decide +kernel
theorem dL_law_188 : decode cL_law 188 = .ok (.iload_n 3, 1) := by decide +kernel
theorem dL_law_189 : decode cL_law 189 = .ok (.iconst 1, 1) := by decide +kernel
theorem dL_law_190 : decode cL_law 190 = .ok (.iadd, 1) := by decide +kernel
theorem dL_law_191 : decode cL_law 191 = .ok (.iaload, 1) := by decide +kernel
theorem dL_law_192 : decode cL_law 192 = .ok (.invokevirtual 22, 3) := by decide +kernel
theorem dL_law_195 : decode cL_law 195 = .ok (.if_icmp .eq 565, 3) := by decide +kernel
theorem dL_law_198 : decode cL_law 198 = .ok (.iconst 0, 1) := by decide +kernel
theorem dL_law_199 : decode cL_law 199 = .ok (.ireturn, 1) := by decide +kernel
theorem dL_law_200 : decode cL_law 200 = .ok (.aload_n 1, 1) := by decide +kernel
theorem dL_law_201 : decode cL_law 201 = .ok (.aload_n 0, 1) := by decide +kernel
theorem dL_law_202 : decode cL_law 202 = .ok (.iload_n 3, 1) := by decide +kernel
theorem dL_law_203 : decode cL_law 203 = .ok (.iconst 1, 1) := by decide +kernel
theorem dL_law_204 : decode cL_law 204 = .ok (.iadd, 1) := by decide +kernel
theorem dL_law_205 : decode cL_law 205 = .ok (.iaload, 1) := by decide +kernel
theorem dL_law_206 : decode cL_law 206 = .ok (.invokevirtual 23, 3) := by decide +kernel
theorem dL_law_209 : decode cL_law 209 = .ok (.aload_n 2, 1) := by decide +kernel
theorem dL_law_210 : decode cL_law 210 = .ok (.aload_n 0, 1) := by decide +kernel
theorem dL_law_211 : decode cL_law 211 = .ok (.iload_n 3, 1) := by decide +kernel
theorem dL_law_212 : decode cL_law 212 = .ok (.iconst 1, 1) := by decide +kernel
theorem dL_law_213 : decode cL_law 213 = .ok (.iadd, 1) := by decide +kernel
theorem dL_law_214 : decode cL_law 214 = .ok (.iaload, 1) := by decide +kernel
theorem dL_law_215 : decode cL_law 215 = .ok (.invokevirtual 26, 3) := by decide +kernel
theorem dL_law_218 : decode cL_law 218 = .ok (.if_icmp .eq 542, 3) := by decide +kernel
theorem dL_law_221 : decode cL_law 221 = .ok (.iconst 0, 1) := by decide +kernel
theorem dL_law_222 : decode cL_law 222 = .ok (.ireturn, 1) := by decide +kernel
theorem dL_law_223 : decode cL_law 223 = .ok (.aload_n 1, 1) := by decide +kernel
theorem dL_law_224 : decode cL_law 224 = .ok (.aload_n 0, 1) := by decide +kernel
theorem dL_law_225 : decode cL_law 225 = .ok (.iload_n 3, 1) := by decide +kernel
theorem dL_law_226 : decode cL_law 226 = .ok (.iconst 1, 1) := by decide +kernel
theorem dL_law_227 : decode cL_law 227 = .ok (.iadd, 1) := by decide +kernel
theorem dL_law_228 : decode cL_law 228 = .ok (.iaload, 1) := by decide +kernel
theorem dL_law_229 : decode cL_law 229 = .ok (.invokevirtual 27, 3) := by decide +kernel
theorem dL_law_232 : decode cL_law 232 = .ok (.aload_n 2, 1) := by decide +kernel
theorem dL_law_233 : decode cL_law 233 = .ok (.aload_n 0, 1) := by decide +kernel
theorem dL_law_234 : decode cL_law 234 = .ok (.iload_n 3, 1) := by decide +kernel
theorem dL_law_235 : decode cL_law 235 = .ok (.iconst 1, 1) := by decide +kernel
theorem dL_law_236 : decode cL_law 236 = .ok (.iadd, 1) := by decide +kernel
theorem dL_law_237 : decode cL_law 237 = .ok (.iaload, 1) := by decide +kernel
theorem dL_law_238 : decode cL_law 238 = .ok (.invokevirtual 30, 3) := by decide +kernel
theorem dL_law_241 : decode cL_law 241 = .ok (.if_icmp .eq 519, 3) := by decide +kernel
theorem dL_law_244 : decode cL_law 244 = .ok (.iconst 0, 1) := by decide +kernel
theorem dL_law_245 : decode cL_law 245 = .ok (.ireturn, 1) := by decide +kernel
theorem dL_law_246 : decode cL_law 246 = .ok (.aload_n 1, 1) := by decide +kernel
theorem dL_law_247 : decode cL_law 247 = .ok (.aload_n 0, 1) := by decide +kernel
theorem dL_law_248 : decode cL_law 248 = .ok (.iload_n 3, 1) := by decide +kernel
theorem dL_law_249 : decode cL_law 249 = .ok (.iconst 1, 1) := by decide +kernel
theorem dL_law_250 : decode cL_law 250 = .ok (.iadd, 1) := by decide +kernel
theorem dL_law_251 : decode cL_law 251 = .ok (.iaload, 1) := by decide +kernel
theorem dL_law_252 : decode cL_law 252 = .ok (.aload_n 0, 1) := by decide +kernel
theorem dL_law_253 : decode cL_law 253 = .ok (.iload_n 3, 1) := by decide +kernel
theorem dL_law_254 : decode cL_law 254 = .ok (.iconst 2, 1) := by decide +kernel
theorem dL_law_255 : decode cL_law 255 = .ok (.iadd, 1) := by decide +kernel
theorem dL_law_256 : decode cL_law 256 = .ok (.iaload, 1) := by decide +kernel
theorem dL_law_257 : decode cL_law 257 = .ok (.invokevirtual 31, 3) := by decide +kernel
theorem dL_law_260 : decode cL_law 260 = .ok (.aload_n 2, 1) := by decide +kernel
theorem dL_law_261 : decode cL_law 261 = .ok (.aload_n 0, 1) := by decide +kernel
theorem dL_law_262 : decode cL_law 262 = .ok (.iload_n 3, 1) := by decide +kernel
theorem dL_law_263 : decode cL_law 263 = .ok (.iconst 1, 1) := by decide +kernel
theorem dL_law_264 : decode cL_law 264 = .ok (.iadd, 1) := by decide +kernel
theorem dL_law_265 : decode cL_law 265 = .ok (.iaload, 1) := by decide +kernel
theorem dL_law_266 : decode cL_law 266 = .ok (.aload_n 0, 1) := by decide +kernel
theorem dL_law_267 : decode cL_law 267 = .ok (.iload_n 3, 1) := by decide +kernel
theorem dL_law_268 : decode cL_law 268 = .ok (.iconst 2, 1) := by decide +kernel
theorem dL_law_269 : decode cL_law 269 = .ok (.iadd, 1) := by decide +kernel
theorem dL_law_270 : decode cL_law 270 = .ok (.iaload, 1) := by decide +kernel
theorem dL_law_271 : decode cL_law 271 = .ok (.invokevirtual 34, 3) := by decide +kernel
theorem dL_law_274 : decode cL_law 274 = .ok (.if_icmp .eq 486, 3) := by decide +kernel
theorem dL_law_277 : decode cL_law 277 = .ok (.iconst 0, 1) := by decide +kernel
theorem dL_law_278 : decode cL_law 278 = .ok (.ireturn, 1) := by decide +kernel
theorem dL_law_279 : decode cL_law 279 = .ok (.aload_n 1, 1) := by decide +kernel
theorem dL_law_280 : decode cL_law 280 = .ok (.aload_n 0, 1) := by decide +kernel
theorem dL_law_281 : decode cL_law 281 = .ok (.iload_n 3, 1) := by decide +kernel
theorem dL_law_282 : decode cL_law 282 = .ok (.iconst 1, 1) := by decide +kernel
theorem dL_law_283 : decode cL_law 283 = .ok (.iadd, 1) := by decide +kernel
theorem dL_law_284 : decode cL_law 284 = .ok (.iaload, 1) := by decide +kernel
theorem dL_law_285 : decode cL_law 285 = .ok (.aload_n 0, 1) := by decide +kernel
theorem dL_law_286 : decode cL_law 286 = .ok (.iload_n 3, 1) := by decide +kernel
theorem dL_law_287 : decode cL_law 287 = .ok (.iconst 2, 1) := by decide +kernel
theorem dL_law_288 : decode cL_law 288 = .ok (.iadd, 1) := by decide +kernel
theorem dL_law_289 : decode cL_law 289 = .ok (.iaload, 1) := by decide +kernel
theorem dL_law_290 : decode cL_law 290 = .ok (.invokevirtual 35, 3) := by decide +kernel
theorem dL_law_293 : decode cL_law 293 = .ok (.aload_n 2, 1) := by decide +kernel
theorem dL_law_294 : decode cL_law 294 = .ok (.aload_n 0, 1) := by decide +kernel
theorem dL_law_295 : decode cL_law 295 = .ok (.iload_n 3, 1) := by decide +kernel
theorem dL_law_296 : decode cL_law 296 = .ok (.iconst 1, 1) := by decide +kernel
theorem dL_law_297 : decode cL_law 297 = .ok (.iadd, 1) := by decide +kernel
theorem dL_law_298 : decode cL_law 298 = .ok (.iaload, 1) := by decide +kernel
theorem dL_law_299 : decode cL_law 299 = .ok (.aload_n 0, 1) := by decide +kernel
theorem dL_law_300 : decode cL_law 300 = .ok (.iload_n 3, 1) := by decide +kernel
theorem dL_law_301 : decode cL_law 301 = .ok (.iconst 2, 1) := by decide +kernel
theorem dL_law_302 : decode cL_law 302 = .ok (.iadd, 1) := by decide +kernel
theorem dL_law_303 : decode cL_law 303 = .ok (.iaload, 1) := by decide +kernel
theorem dL_law_304 : decode cL_law 304 = .ok (.invokevirtual 38, 3) := by decide +kernel
theorem dL_law_307 : decode cL_law 307 = .ok (.if_icmp .eq 453, 3) := by decide +kernel
theorem dL_law_310 : decode cL_law 310 = .ok (.iconst 0, 1) := by decide +kernel
theorem dL_law_311 : decode cL_law 311 = .ok (.ireturn, 1) := by decide +kernel
theorem dL_law_312 : decode cL_law 312 = .ok (.aload_n 1, 1) := by decide +kernel
theorem dL_law_313 : decode cL_law 313 = .ok (.aload_n 0, 1) := by decide +kernel
theorem dL_law_314 : decode cL_law 314 = .ok (.iload_n 3, 1) := by decide +kernel
theorem dL_law_315 : decode cL_law 315 = .ok (.iconst 1, 1) := by decide +kernel
theorem dL_law_316 : decode cL_law 316 = .ok (.iadd, 1) := by decide +kernel
theorem dL_law_317 : decode cL_law 317 = .ok (.iaload, 1) := by decide +kernel
theorem dL_law_318 : decode cL_law 318 = .ok (.invokevirtual 39, 3) := by decide +kernel
theorem dL_law_321 : decode cL_law 321 = .ok (.aload_n 2, 1) := by decide +kernel
theorem dL_law_322 : decode cL_law 322 = .ok (.aload_n 0, 1) := by decide +kernel
theorem dL_law_323 : decode cL_law 323 = .ok (.iload_n 3, 1) := by decide +kernel
theorem dL_law_324 : decode cL_law 324 = .ok (.iconst 1, 1) := by decide +kernel
theorem dL_law_325 : decode cL_law 325 = .ok (.iadd, 1) := by decide +kernel
theorem dL_law_326 : decode cL_law 326 = .ok (.iaload, 1) := by decide +kernel
theorem dL_law_327 : decode cL_law 327 = .ok (.invokevirtual 42, 3) := by decide +kernel
theorem dL_law_330 : decode cL_law 330 = .ok (.if_icmp .eq 430, 3) := by decide +kernel
theorem dL_law_333 : decode cL_law 333 = .ok (.iconst 0, 1) := by decide +kernel
theorem dL_law_334 : decode cL_law 334 = .ok (.ireturn, 1) := by decide +kernel
theorem dL_law_335 : decode cL_law 335 = .ok (.aload_n 1, 1) := by decide +kernel
theorem dL_law_336 : decode cL_law 336 = .ok (.invokevirtual 43, 3) := by decide +kernel
theorem dL_law_339 : decode cL_law 339 = .ok (.aload_n 2, 1) := by decide +kernel
theorem dL_law_340 : decode cL_law 340 = .ok (.invokevirtual 47, 3) := by decide +kernel
theorem dL_law_343 : decode cL_law 343 = .ok (.if_icmp .eq 417, 3) := by decide +kernel
theorem dL_law_346 : decode cL_law 346 = .ok (.iconst 0, 1) := by decide +kernel
theorem dL_law_347 : decode cL_law 347 = .ok (.ireturn, 1) := by decide +kernel
theorem dL_law_348 : decode cL_law 348 = .ok (.aload_n 1, 1) := by decide +kernel
theorem dL_law_349 : decode cL_law 349 = .ok (.invokevirtual 48, 3) := by decide +kernel
theorem dL_law_352 : decode cL_law 352 = .ok (.aload_n 2, 1) := by decide +kernel
theorem dL_law_353 : decode cL_law 353 = .ok (.invokevirtual 52, 3) := by decide +kernel
theorem dL_law_356 : decode cL_law 356 = .ok (.lcmp, 1) := by decide +kernel
theorem dL_law_357 : decode cL_law 357 = .ok (.ifCond .eq 403, 3) := by decide +kernel
theorem dL_law_360 : decode cL_law 360 = .ok (.iconst 0, 1) := by decide +kernel
theorem dL_law_361 : decode cL_law 361 = .ok (.ireturn, 1) := by decide +kernel
theorem dL_law_362 : decode cL_law 362 = .ok (.aload_n 1, 1) := by decide +kernel
theorem dL_law_363 : decode cL_law 363 = .ok (.aload_n 0, 1) := by decide +kernel
theorem dL_law_364 : decode cL_law 364 = .ok (.iload_n 3, 1) := by decide +kernel
theorem dL_law_365 : decode cL_law 365 = .ok (.iconst 1, 1) := by decide +kernel
theorem dL_law_366 : decode cL_law 366 = .ok (.iadd, 1) := by decide +kernel
theorem dL_law_367 : decode cL_law 367 = .ok (.iaload, 1) := by decide +kernel
theorem dL_law_368 : decode cL_law 368 = .ok (.aload_n 0, 1) := by decide +kernel
theorem dL_law_369 : decode cL_law 369 = .ok (.iload_n 3, 1) := by decide +kernel
theorem dL_law_370 : decode cL_law 370 = .ok (.iconst 2, 1) := by decide +kernel
theorem dL_law_371 : decode cL_law 371 = .ok (.iadd, 1) := by decide +kernel
theorem dL_law_372 : decode cL_law 372 = .ok (.iaload, 1) := by decide +kernel
theorem dL_law_373 : decode cL_law 373 = .ok (.invokevirtual 53, 3) := by decide +kernel
theorem dL_law_376 : decode cL_law 376 = .ok (.aload_n 2, 1) := by decide +kernel
theorem dL_law_377 : decode cL_law 377 = .ok (.aload_n 0, 1) := by decide +kernel
theorem dL_law_378 : decode cL_law 378 = .ok (.iload_n 3, 1) := by decide +kernel
theorem dL_law_379 : decode cL_law 379 = .ok (.iconst 1, 1) := by decide +kernel
theorem dL_law_380 : decode cL_law 380 = .ok (.iadd, 1) := by decide +kernel
theorem dL_law_381 : decode cL_law 381 = .ok (.iaload, 1) := by decide +kernel
theorem dL_law_382 : decode cL_law 382 = .ok (.aload_n 0, 1) := by decide +kernel
theorem dL_law_383 : decode cL_law 383 = .ok (.iload_n 3, 1) := by decide +kernel
theorem dL_law_384 : decode cL_law 384 = .ok (.iconst 2, 1) := by decide +kernel
theorem dL_law_385 : decode cL_law 385 = .ok (.iadd, 1) := by decide +kernel
theorem dL_law_386 : decode cL_law 386 = .ok (.iaload, 1) := by decide +kernel
theorem dL_law_387 : decode cL_law 387 = .ok (.invokevirtual 56, 3) := by decide +kernel
theorem dL_law_390 : decode cL_law 390 = .ok (.if_icmp .eq 370, 3) := by decide +kernel
theorem dL_law_393 : decode cL_law 393 = .ok (.iconst 0, 1) := by decide +kernel
theorem dL_law_394 : decode cL_law 394 = .ok (.ireturn, 1) := by decide +kernel
theorem dL_law_395 : decode cL_law 395 = .ok (.aload_n 1, 1) := by decide +kernel
theorem dL_law_396 : decode cL_law 396 = .ok (.aload_n 0, 1) := by decide +kernel
theorem dL_law_397 : decode cL_law 397 = .ok (.iload_n 3, 1) := by decide +kernel
theorem dL_law_398 : decode cL_law 398 = .ok (.iconst 1, 1) := by decide +kernel
theorem dL_law_399 : decode cL_law 399 = .ok (.iadd, 1) := by decide +kernel
theorem dL_law_400 : decode cL_law 400 = .ok (.iaload, 1) := by decide +kernel
theorem dL_law_401 : decode cL_law 401 = .ok (.invokevirtual 57, 3) := by decide +kernel
theorem dL_law_404 : decode cL_law 404 = .ok (.aload_n 2, 1) := by decide +kernel
theorem dL_law_405 : decode cL_law 405 = .ok (.aload_n 0, 1) := by decide +kernel
theorem dL_law_406 : decode cL_law 406 = .ok (.iload_n 3, 1) := by decide +kernel
theorem dL_law_407 : decode cL_law 407 = .ok (.iconst 1, 1) := by decide +kernel
theorem dL_law_408 : decode cL_law 408 = .ok (.iadd, 1) := by decide +kernel
theorem dL_law_409 : decode cL_law 409 = .ok (.iaload, 1) := by decide +kernel
theorem dL_law_410 : decode cL_law 410 = .ok (.invokevirtual 60, 3) := by decide +kernel
theorem dL_law_413 : decode cL_law 413 = .ok (.if_icmp .eq 347, 3) := by decide +kernel
theorem dL_law_416 : decode cL_law 416 = .ok (.iconst 0, 1) := by decide +kernel
theorem dL_law_417 : decode cL_law 417 = .ok (.ireturn, 1) := by decide +kernel
theorem dL_law_418 : decode cL_law 418 = .ok (.aload_n 1, 1) := by decide +kernel
theorem dL_law_419 : decode cL_law 419 = .ok (.aload_n 0, 1) := by decide +kernel
theorem dL_law_420 : decode cL_law 420 = .ok (.iload_n 3, 1) := by decide +kernel
theorem dL_law_421 : decode cL_law 421 = .ok (.iconst 1, 1) := by decide +kernel
theorem dL_law_422 : decode cL_law 422 = .ok (.iadd, 1) := by decide +kernel
theorem dL_law_423 : decode cL_law 423 = .ok (.iaload, 1) := by decide +kernel
theorem dL_law_424 : decode cL_law 424 = .ok (.aload_n 0, 1) := by decide +kernel
theorem dL_law_425 : decode cL_law 425 = .ok (.iload_n 3, 1) := by decide +kernel
theorem dL_law_426 : decode cL_law 426 = .ok (.iconst 2, 1) := by decide +kernel
theorem dL_law_427 : decode cL_law 427 = .ok (.iadd, 1) := by decide +kernel
theorem dL_law_428 : decode cL_law 428 = .ok (.iaload, 1) := by decide +kernel
theorem dL_law_429 : decode cL_law 429 = .ok (.invokevirtual 61, 3) := by decide +kernel
theorem dL_law_432 : decode cL_law 432 = .ok (.aload_n 2, 1) := by decide +kernel
theorem dL_law_433 : decode cL_law 433 = .ok (.aload_n 0, 1) := by decide +kernel
theorem dL_law_434 : decode cL_law 434 = .ok (.iload_n 3, 1) := by decide +kernel
theorem dL_law_435 : decode cL_law 435 = .ok (.iconst 1, 1) := by decide +kernel
theorem dL_law_436 : decode cL_law 436 = .ok (.iadd, 1) := by decide +kernel
theorem dL_law_437 : decode cL_law 437 = .ok (.iaload, 1) := by decide +kernel
theorem dL_law_438 : decode cL_law 438 = .ok (.aload_n 0, 1) := by decide +kernel
theorem dL_law_439 : decode cL_law 439 = .ok (.iload_n 3, 1) := by decide +kernel
theorem dL_law_440 : decode cL_law 440 = .ok (.iconst 2, 1) := by decide +kernel
theorem dL_law_441 : decode cL_law 441 = .ok (.iadd, 1) := by decide +kernel
theorem dL_law_442 : decode cL_law 442 = .ok (.iaload, 1) := by decide +kernel
theorem dL_law_443 : decode cL_law 443 = .ok (.invokevirtual 64, 3) := by decide +kernel
theorem dL_law_446 : decode cL_law 446 = .ok (.if_icmp .eq 314, 3) := by decide +kernel
theorem dL_law_449 : decode cL_law 449 = .ok (.iconst 0, 1) := by decide +kernel
theorem dL_law_450 : decode cL_law 450 = .ok (.ireturn, 1) := by decide +kernel
theorem dL_law_451 : decode cL_law 451 = .ok (.aload_n 1, 1) := by decide +kernel
theorem dL_law_452 : decode cL_law 452 = .ok (.aload_n 0, 1) := by decide +kernel
theorem dL_law_453 : decode cL_law 453 = .ok (.iload_n 3, 1) := by decide +kernel
theorem dL_law_454 : decode cL_law 454 = .ok (.iconst 1, 1) := by decide +kernel
theorem dL_law_455 : decode cL_law 455 = .ok (.iadd, 1) := by decide +kernel
theorem dL_law_456 : decode cL_law 456 = .ok (.iaload, 1) := by decide +kernel
theorem dL_law_457 : decode cL_law 457 = .ok (.invokevirtual 65, 3) := by decide +kernel
theorem dL_law_460 : decode cL_law 460 = .ok (.aload_n 2, 1) := by decide +kernel
theorem dL_law_461 : decode cL_law 461 = .ok (.aload_n 0, 1) := by decide +kernel
theorem dL_law_462 : decode cL_law 462 = .ok (.iload_n 3, 1) := by decide +kernel
theorem dL_law_463 : decode cL_law 463 = .ok (.iconst 1, 1) := by decide +kernel
theorem dL_law_464 : decode cL_law 464 = .ok (.iadd, 1) := by decide +kernel
theorem dL_law_465 : decode cL_law 465 = .ok (.iaload, 1) := by decide +kernel
theorem dL_law_466 : decode cL_law 466 = .ok (.invokevirtual 68, 3) := by decide +kernel
theorem dL_law_469 : decode cL_law 469 = .ok (.if_icmp .eq 291, 3) := by decide +kernel
theorem dL_law_472 : decode cL_law 472 = .ok (.iconst 0, 1) := by decide +kernel
theorem dL_law_473 : decode cL_law 473 = .ok (.ireturn, 1) := by decide +kernel
theorem dL_law_474 : decode cL_law 474 = .ok (.aload_n 1, 1) := by decide +kernel
theorem dL_law_475 : decode cL_law 475 = .ok (.aload_n 0, 1) := by decide +kernel
theorem dL_law_476 : decode cL_law 476 = .ok (.iload_n 3, 1) := by decide +kernel
theorem dL_law_477 : decode cL_law 477 = .ok (.iconst 1, 1) := by decide +kernel
theorem dL_law_478 : decode cL_law 478 = .ok (.iadd, 1) := by decide +kernel
theorem dL_law_479 : decode cL_law 479 = .ok (.iaload, 1) := by decide +kernel
theorem dL_law_480 : decode cL_law 480 = .ok (.aload_n 0, 1) := by decide +kernel
theorem dL_law_481 : decode cL_law 481 = .ok (.iload_n 3, 1) := by decide +kernel
theorem dL_law_482 : decode cL_law 482 = .ok (.iconst 2, 1) := by decide +kernel
theorem dL_law_483 : decode cL_law 483 = .ok (.iadd, 1) := by decide +kernel
theorem dL_law_484 : decode cL_law 484 = .ok (.iaload, 1) := by decide +kernel
theorem dL_law_485 : decode cL_law 485 = .ok (.invokevirtual 69, 3) := by decide +kernel
theorem dL_law_488 : decode cL_law 488 = .ok (.aload_n 2, 1) := by decide +kernel
theorem dL_law_489 : decode cL_law 489 = .ok (.aload_n 0, 1) := by decide +kernel
theorem dL_law_490 : decode cL_law 490 = .ok (.iload_n 3, 1) := by decide +kernel
theorem dL_law_491 : decode cL_law 491 = .ok (.iconst 1, 1) := by decide +kernel
theorem dL_law_492 : decode cL_law 492 = .ok (.iadd, 1) := by decide +kernel
theorem dL_law_493 : decode cL_law 493 = .ok (.iaload, 1) := by decide +kernel
theorem dL_law_494 : decode cL_law 494 = .ok (.aload_n 0, 1) := by decide +kernel
theorem dL_law_495 : decode cL_law 495 = .ok (.iload_n 3, 1) := by decide +kernel
theorem dL_law_496 : decode cL_law 496 = .ok (.iconst 2, 1) := by decide +kernel
theorem dL_law_497 : decode cL_law 497 = .ok (.iadd, 1) := by decide +kernel
theorem dL_law_498 : decode cL_law 498 = .ok (.iaload, 1) := by decide +kernel
theorem dL_law_499 : decode cL_law 499 = .ok (.invokevirtual 72, 3) := by decide +kernel
theorem dL_law_502 : decode cL_law 502 = .ok (.if_icmp .eq 258, 3) := by decide +kernel
theorem dL_law_505 : decode cL_law 505 = .ok (.iconst 0, 1) := by decide +kernel
theorem dL_law_506 : decode cL_law 506 = .ok (.ireturn, 1) := by decide +kernel
theorem dL_law_507 : decode cL_law 507 = .ok (.aload_n 1, 1) := by decide +kernel
theorem dL_law_508 : decode cL_law 508 = .ok (.invokevirtual 73, 3) := by decide +kernel
theorem dL_law_511 : decode cL_law 511 = .ok (.aload_n 2, 1) := by decide +kernel
theorem dL_law_512 : decode cL_law 512 = .ok (.invokevirtual 76, 3) := by decide +kernel
theorem dL_law_515 : decode cL_law 515 = .ok (.lcmp, 1) := by decide +kernel
theorem dL_law_516 : decode cL_law 516 = .ok (.ifCond .eq 244, 3) := by decide +kernel
theorem dL_law_519 : decode cL_law 519 = .ok (.iconst 0, 1) := by decide +kernel
theorem dL_law_520 : decode cL_law 520 = .ok (.ireturn, 1) := by decide +kernel
theorem dL_law_521 : decode cL_law 521 = .ok (.aload_n 1, 1) := by decide +kernel
theorem dL_law_522 : decode cL_law 522 = .ok (.aload_n 0, 1) := by decide +kernel
theorem dL_law_523 : decode cL_law 523 = .ok (.iload_n 3, 1) := by decide +kernel
theorem dL_law_524 : decode cL_law 524 = .ok (.iconst 1, 1) := by decide +kernel
theorem dL_law_525 : decode cL_law 525 = .ok (.iadd, 1) := by decide +kernel
theorem dL_law_526 : decode cL_law 526 = .ok (.iaload, 1) := by decide +kernel
theorem dL_law_527 : decode cL_law 527 = .ok (.i2l, 1) := by decide +kernel
theorem dL_law_528 : decode cL_law 528 = .ok (.bipush 32, 2) := by decide +kernel
theorem dL_law_530 : decode cL_law 530 = .ok (.lshl, 1) := by decide +kernel
theorem dL_law_531 : decode cL_law 531 = .ok (.aload_n 0, 1) := by decide +kernel
theorem dL_law_532 : decode cL_law 532 = .ok (.iload_n 3, 1) := by decide +kernel
theorem dL_law_533 : decode cL_law 533 = .ok (.iconst 2, 1) := by decide +kernel
theorem dL_law_534 : decode cL_law 534 = .ok (.iadd, 1) := by decide +kernel
theorem dL_law_535 : decode cL_law 535 = .ok (.iaload, 1) := by decide +kernel
theorem dL_law_536 : decode cL_law 536 = .ok (.i2l, 1) := by decide +kernel
theorem dL_law_537 : decode cL_law 537 = .ok (.ldc2_w 77, 3) := by decide +kernel
theorem dL_law_540 : decode cL_law 540 = .ok (.land, 1) := by decide +kernel
theorem dL_law_541 : decode cL_law 541 = .ok (.lor, 1) := by decide +kernel
theorem dL_law_542 : decode cL_law 542 = .ok (.aload_n 0, 1) := by decide +kernel
theorem dL_law_543 : decode cL_law 543 = .ok (.iload_n 3, 1) := by decide +kernel
theorem dL_law_544 : decode cL_law 544 = .ok (.iconst 3, 1) := by decide +kernel
theorem dL_law_545 : decode cL_law 545 = .ok (.iadd, 1) := by decide +kernel
theorem dL_law_546 : decode cL_law 546 = .ok (.iaload, 1) := by decide +kernel
theorem dL_law_547 : decode cL_law 547 = .ok (.invokevirtual 79, 3) := by decide +kernel
theorem dL_law_550 : decode cL_law 550 = .ok (.aload_n 2, 1) := by decide +kernel
theorem dL_law_551 : decode cL_law 551 = .ok (.aload_n 0, 1) := by decide +kernel
theorem dL_law_552 : decode cL_law 552 = .ok (.iload_n 3, 1) := by decide +kernel
theorem dL_law_553 : decode cL_law 553 = .ok (.iconst 1, 1) := by decide +kernel
theorem dL_law_554 : decode cL_law 554 = .ok (.iadd, 1) := by decide +kernel
theorem dL_law_555 : decode cL_law 555 = .ok (.iaload, 1) := by decide +kernel
theorem dL_law_556 : decode cL_law 556 = .ok (.i2l, 1) := by decide +kernel
theorem dL_law_557 : decode cL_law 557 = .ok (.bipush 32, 2) := by decide +kernel
theorem dL_law_559 : decode cL_law 559 = .ok (.lshl, 1) := by decide +kernel
theorem dL_law_560 : decode cL_law 560 = .ok (.aload_n 0, 1) := by decide +kernel
theorem dL_law_561 : decode cL_law 561 = .ok (.iload_n 3, 1) := by decide +kernel
theorem dL_law_562 : decode cL_law 562 = .ok (.iconst 2, 1) := by decide +kernel
theorem dL_law_563 : decode cL_law 563 = .ok (.iadd, 1) := by decide +kernel
theorem dL_law_564 : decode cL_law 564 = .ok (.iaload, 1) := by decide +kernel
theorem dL_law_565 : decode cL_law 565 = .ok (.i2l, 1) := by decide +kernel
theorem dL_law_566 : decode cL_law 566 = .ok (.ldc2_w 77, 3) := by decide +kernel
theorem dL_law_569 : decode cL_law 569 = .ok (.land, 1) := by decide +kernel
theorem dL_law_570 : decode cL_law 570 = .ok (.lor, 1) := by decide +kernel
theorem dL_law_571 : decode cL_law 571 = .ok (.aload_n 0, 1) := by decide +kernel
theorem dL_law_572 : decode cL_law 572 = .ok (.iload_n 3, 1) := by decide +kernel
theorem dL_law_573 : decode cL_law 573 = .ok (.iconst 3, 1) := by decide +kernel
theorem dL_law_574 : decode cL_law 574 = .ok (.iadd, 1) := by decide +kernel
theorem dL_law_575 : decode cL_law 575 = .ok (.iaload, 1) := by decide +kernel
theorem dL_law_576 : decode cL_law 576 = .ok (.invokevirtual 83, 3) := by decide +kernel
theorem dL_law_579 : decode cL_law 579 = .ok (.if_icmp .eq 181, 3) := by decide +kernel
theorem dL_law_582 : decode cL_law 582 = .ok (.iconst 0, 1) := by decide +kernel
theorem dL_law_583 : decode cL_law 583 = .ok (.ireturn, 1) := by decide +kernel
theorem dL_law_584 : decode cL_law 584 = .ok (.aload_n 1, 1) := by decide +kernel
theorem dL_law_585 : decode cL_law 585 = .ok (.aload_n 0, 1) := by decide +kernel
theorem dL_law_586 : decode cL_law 586 = .ok (.iload_n 3, 1) := by decide +kernel
theorem dL_law_587 : decode cL_law 587 = .ok (.iconst 1, 1) := by decide +kernel
theorem dL_law_588 : decode cL_law 588 = .ok (.iadd, 1) := by decide +kernel
theorem dL_law_589 : decode cL_law 589 = .ok (.iaload, 1) := by decide +kernel
theorem dL_law_590 : decode cL_law 590 = .ok (.aload_n 0, 1) := by decide +kernel
theorem dL_law_591 : decode cL_law 591 = .ok (.iload_n 3, 1) := by decide +kernel
theorem dL_law_592 : decode cL_law 592 = .ok (.iconst 2, 1) := by decide +kernel
theorem dL_law_593 : decode cL_law 593 = .ok (.iadd, 1) := by decide +kernel
theorem dL_law_594 : decode cL_law 594 = .ok (.iaload, 1) := by decide +kernel
theorem dL_law_595 : decode cL_law 595 = .ok (.invokevirtual 84, 3) := by decide +kernel
theorem dL_law_598 : decode cL_law 598 = .ok (.aload_n 2, 1) := by decide +kernel
theorem dL_law_599 : decode cL_law 599 = .ok (.aload_n 0, 1) := by decide +kernel
theorem dL_law_600 : decode cL_law 600 = .ok (.iload_n 3, 1) := by decide +kernel
theorem dL_law_601 : decode cL_law 601 = .ok (.iconst 1, 1) := by decide +kernel
theorem dL_law_602 : decode cL_law 602 = .ok (.iadd, 1) := by decide +kernel
theorem dL_law_603 : decode cL_law 603 = .ok (.iaload, 1) := by decide +kernel
theorem dL_law_604 : decode cL_law 604 = .ok (.aload_n 0, 1) := by decide +kernel
theorem dL_law_605 : decode cL_law 605 = .ok (.iload_n 3, 1) := by decide +kernel
theorem dL_law_606 : decode cL_law 606 = .ok (.iconst 2, 1) := by decide +kernel
theorem dL_law_607 : decode cL_law 607 = .ok (.iadd, 1) := by decide +kernel
theorem dL_law_608 : decode cL_law 608 = .ok (.iaload, 1) := by decide +kernel
theorem dL_law_609 : decode cL_law 609 = .ok (.invokevirtual 88, 3) := by decide +kernel
theorem dL_law_612 : decode cL_law 612 = .ok (.lcmp, 1) := by decide +kernel
theorem dL_law_613 : decode cL_law 613 = .ok (.ifCond .eq 147, 3) := by decide +kernel
theorem dL_law_616 : decode cL_law 616 = .ok (.iconst 0, 1) := by decide +kernel
theorem dL_law_617 : decode cL_law 617 = .ok (.ireturn, 1) := by decide +kernel
theorem dL_law_618 : decode cL_law 618 = .ok (.aload_n 1, 1) := by decide +kernel
theorem dL_law_619 : decode cL_law 619 = .ok (.aload_n 0, 1) := by decide +kernel
theorem dL_law_620 : decode cL_law 620 = .ok (.iload_n 3, 1) := by decide +kernel
theorem dL_law_621 : decode cL_law 621 = .ok (.iconst 1, 1) := by decide +kernel
theorem dL_law_622 : decode cL_law 622 = .ok (.iadd, 1) := by decide +kernel
theorem dL_law_623 : decode cL_law 623 = .ok (.iaload, 1) := by decide +kernel
theorem dL_law_624 : decode cL_law 624 = .ok (.aload_n 0, 1) := by decide +kernel
theorem dL_law_625 : decode cL_law 625 = .ok (.iload_n 3, 1) := by decide +kernel
theorem dL_law_626 : decode cL_law 626 = .ok (.iconst 2, 1) := by decide +kernel
theorem dL_law_627 : decode cL_law 627 = .ok (.iadd, 1) := by decide +kernel
theorem dL_law_628 : decode cL_law 628 = .ok (.iaload, 1) := by decide +kernel
theorem dL_law_629 : decode cL_law 629 = .ok (.aload_n 0, 1) := by decide +kernel
theorem dL_law_630 : decode cL_law 630 = .ok (.iload_n 3, 1) := by decide +kernel
theorem dL_law_631 : decode cL_law 631 = .ok (.iconst 3, 1) := by decide +kernel
theorem dL_law_632 : decode cL_law 632 = .ok (.iadd, 1) := by decide +kernel
theorem dL_law_633 : decode cL_law 633 = .ok (.iaload, 1) := by decide +kernel
theorem dL_law_634 : decode cL_law 634 = .ok (.invokevirtual 89, 3) := by decide +kernel
theorem dL_law_637 : decode cL_law 637 = .ok (.aload_n 2, 1) := by decide +kernel
theorem dL_law_638 : decode cL_law 638 = .ok (.aload_n 0, 1) := by decide +kernel
theorem dL_law_639 : decode cL_law 639 = .ok (.iload_n 3, 1) := by decide +kernel
theorem dL_law_640 : decode cL_law 640 = .ok (.iconst 1, 1) := by decide +kernel
theorem dL_law_641 : decode cL_law 641 = .ok (.iadd, 1) := by decide +kernel
theorem dL_law_642 : decode cL_law 642 = .ok (.iaload, 1) := by decide +kernel
theorem dL_law_643 : decode cL_law 643 = .ok (.aload_n 0, 1) := by decide +kernel
theorem dL_law_644 : decode cL_law 644 = .ok (.iload_n 3, 1) := by decide +kernel
theorem dL_law_645 : decode cL_law 645 = .ok (.iconst 2, 1) := by decide +kernel
theorem dL_law_646 : decode cL_law 646 = .ok (.iadd, 1) := by decide +kernel
theorem dL_law_647 : decode cL_law 647 = .ok (.iaload, 1) := by decide +kernel
theorem dL_law_648 : decode cL_law 648 = .ok (.aload_n 0, 1) := by decide +kernel
theorem dL_law_649 : decode cL_law 649 = .ok (.iload_n 3, 1) := by decide +kernel
theorem dL_law_650 : decode cL_law 650 = .ok (.iconst 3, 1) := by decide +kernel
theorem dL_law_651 : decode cL_law 651 = .ok (.iadd, 1) := by decide +kernel
theorem dL_law_652 : decode cL_law 652 = .ok (.iaload, 1) := by decide +kernel
theorem dL_law_653 : decode cL_law 653 = .ok (.invokevirtual 93, 3) := by decide +kernel
theorem dL_law_656 : decode cL_law 656 = .ok (.if_icmp .eq 104, 3) := by decide +kernel
theorem dL_law_659 : decode cL_law 659 = .ok (.iconst 0, 1) := by decide +kernel
theorem dL_law_660 : decode cL_law 660 = .ok (.ireturn, 1) := by decide +kernel
theorem dL_law_661 : decode cL_law 661 = .ok (.aload_n 1, 1) := by decide +kernel
theorem dL_law_662 : decode cL_law 662 = .ok (.aload_n 0, 1) := by decide +kernel
theorem dL_law_663 : decode cL_law 663 = .ok (.iload_n 3, 1) := by decide +kernel
theorem dL_law_664 : decode cL_law 664 = .ok (.iconst 1, 1) := by decide +kernel
theorem dL_law_665 : decode cL_law 665 = .ok (.iadd, 1) := by decide +kernel
theorem dL_law_666 : decode cL_law 666 = .ok (.iaload, 1) := by decide +kernel
theorem dL_law_667 : decode cL_law 667 = .ok (.invokevirtual 94, 3) := by decide +kernel
theorem dL_law_670 : decode cL_law 670 = .ok (.aload_n 2, 1) := by decide +kernel
theorem dL_law_671 : decode cL_law 671 = .ok (.aload_n 0, 1) := by decide +kernel
theorem dL_law_672 : decode cL_law 672 = .ok (.iload_n 3, 1) := by decide +kernel
theorem dL_law_673 : decode cL_law 673 = .ok (.iconst 1, 1) := by decide +kernel
theorem dL_law_674 : decode cL_law 674 = .ok (.iadd, 1) := by decide +kernel
theorem dL_law_675 : decode cL_law 675 = .ok (.iaload, 1) := by decide +kernel
theorem dL_law_676 : decode cL_law 676 = .ok (.invokevirtual 97, 3) := by decide +kernel
theorem dL_law_679 : decode cL_law 679 = .ok (.if_icmp .eq 81, 3) := by decide +kernel
theorem dL_law_682 : decode cL_law 682 = .ok (.iconst 0, 1) := by decide +kernel
theorem dL_law_683 : decode cL_law 683 = .ok (.ireturn, 1) := by decide +kernel
theorem dL_law_684 : decode cL_law 684 = .ok (.aload_n 1, 1) := by decide +kernel
theorem dL_law_685 : decode cL_law 685 = .ok (.invokevirtual 98, 3) := by decide +kernel
theorem dL_law_688 : decode cL_law 688 = .ok (.aload_n 2, 1) := by decide +kernel
theorem dL_law_689 : decode cL_law 689 = .ok (.invokevirtual 101, 3) := by decide +kernel
theorem dL_law_692 : decode cL_law 692 = .ok (.if_icmp .eq 68, 3) := by decide +kernel
theorem dL_law_695 : decode cL_law 695 = .ok (.iconst 0, 1) := by decide +kernel
theorem dL_law_696 : decode cL_law 696 = .ok (.ireturn, 1) := by decide +kernel
theorem dL_law_697 : decode cL_law 697 = .ok (.aload_n 1, 1) := by decide +kernel
theorem dL_law_698 : decode cL_law 698 = .ok (.invokevirtual 102, 3) := by decide +kernel
theorem dL_law_701 : decode cL_law 701 = .ok (.aload_n 2, 1) := by decide +kernel
theorem dL_law_702 : decode cL_law 702 = .ok (.invokevirtual 105, 3) := by decide +kernel
theorem dL_law_705 : decode cL_law 705 = .ok (.if_icmp .eq 55, 3) := by decide +kernel
theorem dL_law_708 : decode cL_law 708 = .ok (.iconst 0, 1) := by decide +kernel
theorem dL_law_709 : decode cL_law 709 = .ok (.ireturn, 1) := by decide +kernel
theorem dL_law_710 : decode cL_law 710 = .ok (.aload_n 1, 1) := by decide +kernel
theorem dL_law_711 : decode cL_law 711 = .ok (.invokevirtual 106, 3) := by decide +kernel
theorem dL_law_714 : decode cL_law 714 = .ok (.aload_n 2, 1) := by decide +kernel
theorem dL_law_715 : decode cL_law 715 = .ok (.invokevirtual 109, 3) := by decide +kernel
theorem dL_law_718 : decode cL_law 718 = .ok (.if_icmp .eq 42, 3) := by decide +kernel
theorem dL_law_721 : decode cL_law 721 = .ok (.iconst 0, 1) := by decide +kernel
theorem dL_law_722 : decode cL_law 722 = .ok (.ireturn, 1) := by decide +kernel
theorem dL_law_723 : decode cL_law 723 = .ok (.aload_n 1, 1) := by decide +kernel
theorem dL_law_724 : decode cL_law 724 = .ok (.aload_n 0, 1) := by decide +kernel
theorem dL_law_725 : decode cL_law 725 = .ok (.iload_n 3, 1) := by decide +kernel
theorem dL_law_726 : decode cL_law 726 = .ok (.iconst 1, 1) := by decide +kernel
theorem dL_law_727 : decode cL_law 727 = .ok (.iadd, 1) := by decide +kernel
theorem dL_law_728 : decode cL_law 728 = .ok (.iaload, 1) := by decide +kernel
theorem dL_law_729 : decode cL_law 729 = .ok (.invokevirtual 110, 3) := by decide +kernel
theorem dL_law_732 : decode cL_law 732 = .ok (.aload_n 2, 1) := by decide +kernel
theorem dL_law_733 : decode cL_law 733 = .ok (.aload_n 0, 1) := by decide +kernel
theorem dL_law_734 : decode cL_law 734 = .ok (.iload_n 3, 1) := by decide +kernel
theorem dL_law_735 : decode cL_law 735 = .ok (.iconst 1, 1) := by decide +kernel
theorem dL_law_736 : decode cL_law 736 = .ok (.iadd, 1) := by decide +kernel
theorem dL_law_737 : decode cL_law 737 = .ok (.iaload, 1) := by decide +kernel
theorem dL_law_738 : decode cL_law 738 = .ok (.invokevirtual 113, 3) := by decide +kernel
theorem dL_law_741 : decode cL_law 741 = .ok (.if_icmp .eq 19, 3) := by decide +kernel
theorem dL_law_744 : decode cL_law 744 = .ok (.iconst 0, 1) := by decide +kernel
theorem dL_law_745 : decode cL_law 745 = .ok (.ireturn, 1) := by decide +kernel
theorem dL_law_746 : decode cL_law 746 = .ok (.aload_n 1, 1) := by decide +kernel
theorem dL_law_747 : decode cL_law 747 = .ok (.invokevirtual 114, 3) := by decide +kernel
theorem dL_law_750 : decode cL_law 750 = .ok (.aload_n 2, 1) := by decide +kernel
theorem dL_law_751 : decode cL_law 751 = .ok (.invokevirtual 117, 3) := by decide +kernel
theorem dL_law_754 : decode cL_law 754 = .ok (.lcmp, 1) := by decide +kernel
theorem dL_law_755 : decode cL_law 755 = .ok (.ifCond .eq 5, 3) := by decide +kernel
theorem dL_law_758 : decode cL_law 758 = .ok (.iconst 0, 1) := by decide +kernel
theorem dL_law_759 : decode cL_law 759 = .ok (.ireturn, 1) := by decide +kernel
theorem dL_law_760 : decode cL_law 760 = .ok (.iinc 3 4, 3) := by decide +kernel
theorem dL_law_763 : decode cL_law 763 = .ok (.goto (-745), 3) := by decide +kernel
theorem dL_law_766 : decode cL_law 766 = .ok (.iconst 1, 1) := by decide +kernel
theorem dL_law_767 : decode cL_law 767 = .ok (.ireturn, 1) := by decide +kernel
end
section
/-! The layer Z: a method of the system over a memory of ints and longs by place; a world of a fixed shape; Zw: from here the method comes to its end as the pure value o says -/
def zt : List Cond := lw_tbl.filter goodWord
theorem zt_of {w : Cond} (i : Nat) (h : lw_tbl[i]? = some w) (hg : goodWord w = true) : w ∈ zt := List.mem_filter.mpr ⟨List.mem_of_getElem? h, hg⟩
theorem zt_in {ws : List Cond} (h : ∀ w ∈ ws, w ∈ lw_tbl) (hg : ws.all goodWord = true) : ∀ w ∈ ws, w ∈ zt := fun w hw => List.mem_filter.mpr ⟨h w hw, List.all_eq_true.mp hg w hw⟩
theorem zG {w : Cond} (h : w ∈ zt) : GoodIn zt (w :: zt) := by
  have k : ∀ x ∈ zt, x ∈ zt ∧ ((x.onTables && x.keeps) = true ∨ ∃ ty, x = .arrayClass ty) := fun x hx => ⟨hx, good_of_word (List.mem_filter.mp hx).2⟩
  intro x hx
  rcases List.mem_cons.mp hx with rfl | hx
  · exact k _ h
  · exact k _ hx
def isNest (w : Cond) : Bool := match w with
  | .methodLinkNest _ _ _ _ => true
  | _ => false
def zNs (U : State) : Prop := ∀ w ∈ lw_tbl, isNest w = true → va_Nw w U
theorem zNs.warm {s U : State} (hW : s.WarmedH U.vm) (h : zNs s) : zNs U := by
  intro w hw hn
  have h1 := h w hw hn
  cases w <;> first | exact va_Nw.warmM hW h1 | (simp [isNest] at hn; done)
theorem zNs.same {u U : State} (e : u.vm = U.vm) (h : zNs u) : zNs U := by
  intro w hw hn
  have h1 := h w hw hn
  cases w <;> first | exact va_Nw.same rfl e h1 | (simp [isNest] at hn; done)
abbrev zin (i : Int32) (n : Nat) : Prop := ¬ (i < 0 ∨ n ≤ i.toNatClampNeg)
abbrev Mm : Type := (Nat → Nat → Int32) × (Nat → Nat → Int64)
def si (μ : Mm) (a i : Nat) (v : Int32) : Mm := (va_up μ.1 a (upd (μ.1 a) i v), μ.2)
def sj (μ : Mm) (a i : Nat) (v : Int64) : Mm := (μ.1, va_up μ.2 a (vp_updL (μ.2 a) i v))
def sc (μ : Mm) (a b sp dp n : Nat) : Mm := (va_up μ.1 b (va_cpy (μ.1 a) (μ.1 b) sp dp n), μ.2)
abbrev Ly : Type := Nat × (Nat → Nat × Nat) × (Nat → List (Nat × Nat)) × (Nat → Nat → Nat)
abbrev Gx : Type := Launch × va_G × (Nat → Nat) × (Nat → ClassId)
def zF (g : Gx) (μ : Mm) (k : Nat) (x : (Nat × Nat) × Nat) : Value := match x.1.1 with
  | 0 => .ref (g.2.2.1 x.1.2)
  | 1 => .int (μ.1 k x.2)
  | _ => .long (μ.2 k x.2)
def zE (g : Gx) (Λ : Ly) (μ : Mm) (k : Nat) : va_E := match (Λ.2.1 k).1 with
  | 0 => .inl (g.2.2.2 1, (Λ.2.1 k).2, .inl (μ.1 k))
  | 1 => .inl (g.2.2.2 2, (Λ.2.1 k).2, .inr (.inl (μ.2 k)))
  | 2 => .inl (g.2.2.2 0, (Λ.2.1 k).2, .inl (μ.1 k))
  | 3 => .inl (g.2.2.2 3, (Λ.2.1 k).2, .inr (.inr (.inr (.inr (fun i => some (g.2.2.1 (Λ.2.2.2 k i)))))))
  | _ => .inr ((Λ.2.1 k).2, (Λ.2.2.1 k).zipIdx.map (zF g μ k))
def zW (g : Gx) (Λ : Ly) (μ : Mm) : va_W := (List.range Λ.1).map (fun k => (g.2.2.1 k, zE g Λ μ k))
def zT (g : Gx) : List (ClassId × FieldType) := [(g.2.2.2 0, .byte), (g.2.2.2 1, .int), (g.2.2.2 2, .long), (g.2.2.2 3, .object RX4)]
def zA (g : Gx) (Λ : Ly) : Nat → Prop := fun q => ∃ k, k < Λ.1 ∧ q = g.2.2.1 k
def zI (g : Gx) (Λ : Ly) : Prop := ∀ i j, i < Λ.1 → j < Λ.1 → g.2.2.1 i = g.2.2.1 j → i = j
def enI (v : Int32) : Option Value := some (.int v)
def enJ (v : Int64) : Option Value := some (.long v)
def enV (_ : Unit) : Option Value := none
def bd {α β : Type} (o : Option (α × Mm)) (k : α → Mm → Option (β × Mm)) : Option (β × Mm) := o.bind (fun q => k q.1 q.2)
def zQ (g : Gx) (Λ : Ly) (rv : Option Value) (μ : Mm) : Array Value → State → Outcome → State → Prop := fun _ st oc t => oc = .returned rv ∧ va_P g.2.1 vwCl (zW g Λ μ) t.heap ∧ va_K g.2.1 vwCl (zT g) t ∧ va_F (zA g Λ) st t
def zB (g : Gx) (Λ : Ly) (μ : Mm) (U : State) : Prop := va_P g.2.1 vwCl (zW g Λ μ) U.heap ∧ va_K g.2.1 vwCl (zT g) U ∧ zNs U
def zC (g : Gx) (own : String) (cc : ByteArray) (nL : Nat) (ret : Option FieldType) (p : Program) (s : State) (m : MethodId) (args : Array Value) (meth : Method) (c : Code) : Prop :=
  p.tables.exec = Jvm.exec ∧ c.code = cc ∧ meth.sig.returnType = ret ∧ c.maxLocals = nL ∧ s.vm.findClass own = some m.cls ∧ (∀ w ∈ zt, w.before args s = true) ∧ meth.locks = false ∧ va_K g.2.1 vwCl (zT g) s ∧ zNs s
def Zm {α : Type} (g : Gx) (Λ : Ly) (en : α → Option Value) (y : MethodName) (cc : ByteArray) (nL : Nat) (ret : Option FieldType) (rm : Room) (As : List Value) (μ : Mm) (o : Option (α × Mm)) : Prop :=
  zI g Λ → ∀ r μ', o = some (r, μ') → Met g.1 y (Cond.code y cc nL ret :: zt) rm (va_Pc As (zB g Λ μ)) (zQ g Λ (en r) μ') 0 0 (zA g Λ)
def Zw {α : Type} (g : Gx) (Λ : Ly) (en : α → Option Value) (own : String) (cc : ByteArray) (nL : Nat) (ret : Option FieldType) (R : Room) (pc : Nat) (lv : List (Nat × Value)) (st : List Value) (μ : Mm) (o : Option (α × Mm)) : Prop :=
  zI g Λ → ∀ r μ', o = some (r, μ') → ∀ (p : Program) (e : Env) (s : State) (m : MethodId) (args : Array Value) (below : List Frame) (meth : Method) (c : Code) (H : Heap) (locs : List Loc) (ls : Array Slot),
    zC g own cc nL ret p s m args meth c → va_P g.2.1 vwCl (zW g Λ μ) H → va_S (zA g Λ) s.heap H locs → lv_has ls nL lv →
    W p g.1 e R s m args below meth c H locs 0 0 (MQ below (zQ g Λ (en r) μ') args s 0 0 (zA g Λ)) (F0 m pc ls st)
theorem zW_at {g : Gx} {Λ : Ly} {μ : Mm} {k : Nat} (h : k < Λ.1) : (zW g Λ μ)[k]? = some (g.2.2.1 k, zE g Λ μ k) := by
  simp [zW, List.getElem?_map, List.getElem?_range h]
theorem zW_of {g : Gx} {Λ : Ly} {μ : Mm} {k : Nat} {e : va_E} (h : k < Λ.1) (he : zE g Λ μ k = e) : (zW g Λ μ)[k]? = some (g.2.2.1 k, e) := by rw [← he]; exact zW_at h
theorem zW_lt {g : Gx} {Λ : Ly} {μ : Mm} {k : Nat} {q : Nat × va_E} (h : (zW g Λ μ)[k]? = some q) : k < Λ.1 ∧ q = (g.2.2.1 k, zE g Λ μ k) := by
  have hk : k < Λ.1 := by
    have := (List.getElem?_eq_some_iff.mp h).1
    simpa [zW] using this
  rw [zW_at hk] at h
  exact ⟨hk, (Option.some.inj h).symm⟩
theorem zD {g : Gx} {Λ : Ly} (hI : zI g Λ) (μ : Mm) : va_D (zA g Λ) (zW g Λ μ) := by
  refine ⟨fun i j p q hi hj e => ?_, fun k q hk => ?_⟩
  · obtain ⟨h1, rfl⟩ := zW_lt hi
    obtain ⟨h2, rfl⟩ := zW_lt hj
    exact hI i j h1 h2 e
  · obtain ⟨h1, rfl⟩ := zW_lt hk
    exact ⟨k, h1, rfl⟩
theorem zE_ne {g : Gx} {Λ : Ly} {μ μ' : Mm} {b : Nat} (h1 : μ'.1 b = μ.1 b) (h2 : μ'.2 b = μ.2 b) : zE g Λ μ' b = zE g Λ μ b := by
  have hf : zF g μ' b = zF g μ b := by
    funext x
    unfold zF
    rw [h1, h2]
  unfold zE
  rw [h1, h2, hf]
theorem zW_set {g : Gx} {Λ : Ly} {μ μ' : Mm} {a : Nat} {e : va_E} (ha : a < Λ.1) (he : zE g Λ μ' a = e) (hn : ∀ b, b ≠ a → μ'.1 b = μ.1 b ∧ μ'.2 b = μ.2 b) : (zW g Λ μ).set a (g.2.2.1 a, e) = zW g Λ μ' := by
  apply List.ext_getElem?
  intro k
  by_cases hk : k < Λ.1
  · rw [zW_at hk, List.getElem?_set]
    by_cases hka : a = k
    · subst hka
      rw [if_pos rfl, if_pos (by simpa [zW] using hk), he]
    · rw [if_neg hka, zW_at hk]
      have := hn k (fun q => hka q.symm)
      rw [zE_ne this.1 this.2]
  · have h1 : (zW g Λ μ').length ≤ k := by simp [zW]; omega
    have h2 : ((zW g Λ μ).set a (g.2.2.1 a, e)).length ≤ k := by simp [zW]; omega
    rw [List.getElem?_eq_none h1, List.getElem?_eq_none h2]
theorem si_ne1 {μ : Mm} {a i : Nat} {v : Int32} {b : Nat} (h : b ≠ a) : (si μ a i v).1 b = μ.1 b := by simp [si, va_up, h]
theorem si_ne {μ : Mm} {a i : Nat} {v : Int32} : ∀ b, b ≠ a → (si μ a i v).1 b = μ.1 b ∧ (si μ a i v).2 b = μ.2 b := fun b h => ⟨si_ne1 h, rfl⟩
theorem sj_ne {μ : Mm} {a i : Nat} {v : Int64} : ∀ b, b ≠ a → (sj μ a i v).1 b = μ.1 b ∧ (sj μ a i v).2 b = μ.2 b := fun b h => ⟨rfl, by simp [sj, va_up, h]⟩
theorem sc_ne {μ : Mm} {a b sp dp n : Nat} : ∀ x, x ≠ b → (sc μ a b sp dp n).1 x = μ.1 x ∧ (sc μ a b sp dp n).2 x = μ.2 x := fun x h => ⟨by simp [sc, va_up, h], rfl⟩
theorem si_at {μ : Mm} {a i : Nat} {v : Int32} : (si μ a i v).1 a = upd (μ.1 a) i v := by simp [si, va_up]
theorem sj_at {μ : Mm} {a i : Nat} {v : Int64} : (sj μ a i v).2 a = vp_updL (μ.2 a) i v := by simp [sj, va_up]
theorem sc_at {μ : Mm} {a b sp dp n : Nat} : (sc μ a b sp dp n).1 b = va_cpy (μ.1 a) (μ.1 b) sp dp n := by simp [sc, va_up]
theorem zE_i {g : Gx} {Λ : Ly} {μ : Mm} {a n : Nat} (h : Λ.2.1 a = (0, n)) : zE g Λ μ a = .inl (g.2.2.2 1, n, .inl (μ.1 a)) := by simp [zE, h]
theorem zE_j {g : Gx} {Λ : Ly} {μ : Mm} {a n : Nat} (h : Λ.2.1 a = (1, n)) : zE g Λ μ a = .inl (g.2.2.2 2, n, .inr (.inl (μ.2 a))) := by simp [zE, h]
theorem zE_b {g : Gx} {Λ : Ly} {μ : Mm} {a n : Nat} (h : Λ.2.1 a = (2, n)) : zE g Λ μ a = .inl (g.2.2.2 0, n, .inl (μ.1 a)) := by simp [zE, h]
theorem zE_r {g : Gx} {Λ : Ly} {μ : Mm} {a n : Nat} (h : Λ.2.1 a = (3, n)) : zE g Λ μ a = .inl (g.2.2.2 3, n, .inr (.inr (.inr (.inr (fun i => some (g.2.2.1 (Λ.2.2.2 a i))))))) := by simp [zE, h]
theorem zE_o {g : Gx} {Λ : Ly} {μ : Mm} {a ci : Nat} (h : Λ.2.1 a = (4, ci)) : zE g Λ μ a = .inr (ci, (Λ.2.2.1 a).zipIdx.map (zF g μ a)) := by simp [zE, h]
theorem zo_f {g : Gx} {Λ : Ly} {μ : Mm} {a k : Nat} {x : Nat × Nat} (h : (Λ.2.2.1 a)[k]? = some x) : ((Λ.2.2.1 a).zipIdx.map (zF g μ a))[k]? = some (zF g μ a (x, k)) := by
  simp [List.getElem?_map, List.getElem?_zipIdx, h]
theorem zo_set {g : Gx} {Λ : Ly} {μ μ' : Mm} {a k : Nat} {v : Value} {x : Nat × Nat} (hx : (Λ.2.2.1 a)[k]? = some x) (hv : zF g μ' a (x, k) = v) (hn : ∀ (y : Nat × Nat) (j : Nat), j ≠ k → zF g μ' a (y, j) = zF g μ a (y, j)) :
    ((Λ.2.2.1 a).zipIdx.map (zF g μ a)).set k v = (Λ.2.2.1 a).zipIdx.map (zF g μ' a) := by
  apply List.ext_getElem?
  intro j
  rw [List.getElem?_set]
  by_cases hj : k = j
  · subst hj
    have hlt : k < (Λ.2.2.1 a).length := (List.getElem?_eq_some_iff.mp hx).1
    rw [if_pos rfl, if_pos (by simpa using hlt), zo_f hx, hv]
  · rw [if_neg hj]
    simp only [List.getElem?_map, List.getElem?_zipIdx]
    cases h : (Λ.2.2.1 a)[j]? with
    | none => rfl
    | some y => simp [hn y j (fun q => hj q.symm)]

section Z1
variable {α : Type} {g : Gx} {Λ : Ly} {en : α → Option Value} {own : String} {cc : ByteArray} {nL : Nat} {ret : Option FieldType} {R : Room} {pc : Nat} {lv : List (Nat × Value)} {rest : List Value} {μ : Mm} {o o1 o2 : Option (α × Mm)}
theorem z_none : Zw g Λ en own cc nL ret R (pc) lv (rest) μ none := by
  intro hI r μ2 ho
  cases ho
theorem z_iconst {n : Int} {v : Int32} (hdg : decode cc pc = .ok (.iconst n, 1)) (hv : Int32.ofInt n = v) (k : Zw g Λ en own cc nL ret R (pc + 1) lv (.int v :: rest) μ o) : Zw g Λ en own cc nL ret R (pc) lv (rest) μ o := by
  intro hI r μ2 ho p e s m args below meth c H locs ls C hP hS hl
  exact lv_iconst C.1 C.2.1 hdg hv (k hI r μ2 ho p e s m args below meth c H locs ls C hP hS hl)
theorem z_bipush {n : Int} {v : Int32} (hdg : decode cc pc = .ok (.bipush n, 2)) (hv : (Int8.ofInt n).toInt32 = v) (k : Zw g Λ en own cc nL ret R (pc + 2) lv (.int v :: rest) μ o) : Zw g Λ en own cc nL ret R (pc) lv (rest) μ o := by
  intro hI r μ2 ho p e s m args below meth c H locs ls C hP hS hl
  exact lv_bipush C.1 C.2.1 hdg hv (k hI r μ2 ho p e s m args below meth c H locs ls C hP hS hl)
theorem z_sipush {n : Int} {v : Int32} (hdg : decode cc pc = .ok (.sipush n, 3)) (hv : (Int16.ofInt n).toInt32 = v) (k : Zw g Λ en own cc nL ret R (pc + 3) lv (.int v :: rest) μ o) : Zw g Λ en own cc nL ret R (pc) lv (rest) μ o := by
  intro hI r μ2 ho p e s m args below meth c H locs ls C hP hS hl
  exact lv_sipush C.1 C.2.1 hdg hv (k hI r μ2 ho p e s m args below meth c H locs ls C hP hS hl)
theorem z_lconst {n : Fin 2} {v : Int64} (hdg : decode cc pc = .ok (.lconst n, 1)) (hv : Int64.ofNat (n : Nat) = v) (k : Zw g Λ en own cc nL ret R (pc + 1) lv (.long v :: rest) μ o) : Zw g Λ en own cc nL ret R (pc) lv (rest) μ o := by
  intro hI r μ2 ho p e s m args below meth c H locs ls C hP hS hl
  exact lv_lconst C.1 C.2.1 hdg hv (k hI r μ2 ho p e s m args below meth c H locs ls C hP hS hl)
theorem z_ldc {ix : Nat} {v : Int32} (hw : Cond.constant own ix v ∈ zt) (hdg : decode cc pc = .ok (.ldc ix, 2)) (k : Zw g Λ en own cc nL ret R (pc + 2) lv (.int v :: rest) μ o) : Zw g Λ en own cc nL ret R (pc) lv (rest) μ o := by
  intro hI r μ2 ho p e s m args below meth c H locs ls C hP hS hl
  exact lv_ldc C.1 C.2.1 C.2.2.2.2.1 (C.2.2.2.2.2.1 _ hw) hdg (k hI r μ2 ho p e s m args below meth c H locs ls C hP hS hl)
theorem z_ldc2 {ix : Nat} {v : Int64} (hw : Cond.constantLong own ix v ∈ zt) (hdg : decode cc pc = .ok (.ldc2_w ix, 3)) (k : Zw g Λ en own cc nL ret R (pc + 3) lv (.long v :: rest) μ o) : Zw g Λ en own cc nL ret R (pc) lv (rest) μ o := by
  intro hI r μ2 ho p e s m args below meth c H locs ls C hP hS hl
  exact lv_ldc2 C.1 C.2.1 C.2.2.2.2.1 (C.2.2.2.2.2.1 _ hw) hdg (k hI r μ2 ho p e s m args below meth c H locs ls C hP hS hl)
theorem z_iload_n {k : Fin 4} {i : Nat} {x : Int32} (j : Nat) (hdg : decode cc pc = .ok (.iload_n k, 1)) (hi : (k : Nat) = i) (hj : lv[j]? = some (i, .int x)) (k : Zw g Λ en own cc nL ret R (pc + 1) lv (.int x :: rest) μ o) : Zw g Λ en own cc nL ret R (pc) lv (rest) μ o := by
  intro hI r μ2 ho p e s m args below meth c H locs ls C hP hS hl
  exact lv_iload_n C.1 C.2.1 hdg hi (lv_at hl j hj) (k hI r μ2 ho p e s m args below meth c H locs ls C hP hS hl)
theorem z_iload {i : Nat} {x : Int32} (j : Nat) (hdg : decode cc pc = .ok (.iload i, 2)) (hj : lv[j]? = some (i, .int x)) (k : Zw g Λ en own cc nL ret R (pc + 2) lv (.int x :: rest) μ o) : Zw g Λ en own cc nL ret R (pc) lv (rest) μ o := by
  intro hI r μ2 ho p e s m args below meth c H locs ls C hP hS hl
  exact lv_iload C.1 C.2.1 hdg (lv_at hl j hj) (k hI r μ2 ho p e s m args below meth c H locs ls C hP hS hl)
theorem z_lload_n {k : Fin 4} {i : Nat} {x : Int64} (j : Nat) (hdg : decode cc pc = .ok (.lload_n k, 1)) (hi : (k : Nat) = i) (hj : lv[j]? = some (i, .long x)) (k : Zw g Λ en own cc nL ret R (pc + 1) lv (.long x :: rest) μ o) : Zw g Λ en own cc nL ret R (pc) lv (rest) μ o := by
  intro hI r μ2 ho p e s m args below meth c H locs ls C hP hS hl
  exact lv_lload_n C.1 C.2.1 hdg hi (lv_at hl j hj) (k hI r μ2 ho p e s m args below meth c H locs ls C hP hS hl)
theorem z_lload {i : Nat} {x : Int64} (j : Nat) (hdg : decode cc pc = .ok (.lload i, 2)) (hj : lv[j]? = some (i, .long x)) (k : Zw g Λ en own cc nL ret R (pc + 2) lv (.long x :: rest) μ o) : Zw g Λ en own cc nL ret R (pc) lv (rest) μ o := by
  intro hI r μ2 ho p e s m args below meth c H locs ls C hP hS hl
  exact lv_lload C.1 C.2.1 hdg (lv_at hl j hj) (k hI r μ2 ho p e s m args below meth c H locs ls C hP hS hl)
theorem z_aload_n {k : Fin 4} {i : Nat} {x : Nat} (j : Nat) (hdg : decode cc pc = .ok (.aload_n k, 1)) (hi : (k : Nat) = i) (hj : lv[j]? = some (i, .ref x)) (k : Zw g Λ en own cc nL ret R (pc + 1) lv (.ref x :: rest) μ o) : Zw g Λ en own cc nL ret R (pc) lv (rest) μ o := by
  intro hI r μ2 ho p e s m args below meth c H locs ls C hP hS hl
  exact lv_aload_n C.1 C.2.1 hdg hi (lv_at hl j hj) (k hI r μ2 ho p e s m args below meth c H locs ls C hP hS hl)
theorem z_aload {i : Nat} {x : Nat} (j : Nat) (hdg : decode cc pc = .ok (.aload i, 2)) (hj : lv[j]? = some (i, .ref x)) (k : Zw g Λ en own cc nL ret R (pc + 2) lv (.ref x :: rest) μ o) : Zw g Λ en own cc nL ret R (pc) lv (rest) μ o := by
  intro hI r μ2 ho p e s m args below meth c H locs ls C hP hS hl
  exact lv_aload C.1 C.2.1 hdg (lv_at hl j hj) (k hI r μ2 ho p e s m args below meth c H locs ls C hP hS hl)
theorem z_istore_n {k0 : Fin 4} {i : Nat} {x : Int32} {lv2 : List (Nat × Value)} (ks : List Nat) (hdg : decode cc pc = .ok (.istore_n k0, 1)) (hi : (k0 : Nat) = i) (hn : i < nL) (hl2 : lv_pick ((i, Value.int x) :: lv.filter (fun q => !(q.1 == i) && !(q.1 + 1 == i && q.2.category == 2))) ks = lv2) (k : Zw g Λ en own cc nL ret R (pc + 1) lv2 (rest) μ o) : Zw g Λ en own cc nL ret R (pc) lv (.int x :: rest) μ o := by
  intro hI r μ2 ho p e s m args below meth c H locs ls C hP hS hl
  exact lv_istore_n C.1 C.2.1 hdg hi hl hn rfl (fun ls1 hl1 => k hI r μ2 ho p e s m args below meth c H locs ls1 C hP hS (lv_sub hl1 ks hl2))
theorem z_istore {i : Nat} {x : Int32} {lv2 : List (Nat × Value)} (ks : List Nat) (hdg : decode cc pc = .ok (.istore i, 2)) (hn : i < nL) (hl2 : lv_pick ((i, Value.int x) :: lv.filter (fun q => !(q.1 == i) && !(q.1 + 1 == i && q.2.category == 2))) ks = lv2) (k : Zw g Λ en own cc nL ret R (pc + 2) lv2 (rest) μ o) : Zw g Λ en own cc nL ret R (pc) lv (.int x :: rest) μ o := by
  intro hI r μ2 ho p e s m args below meth c H locs ls C hP hS hl
  exact lv_istore C.1 C.2.1 hdg hl hn rfl (fun ls1 hl1 => k hI r μ2 ho p e s m args below meth c H locs ls1 C hP hS (lv_sub hl1 ks hl2))
theorem z_lstore_n {k0 : Fin 4} {i : Nat} {x : Int64} {lv2 : List (Nat × Value)} (ks : List Nat) (hdg : decode cc pc = .ok (.lstore_n k0, 1)) (hi : (k0 : Nat) = i) (hn : i + 1 < nL) (hl2 : lv_pick ((i, Value.long x) :: lv.filter (fun q => !(q.1 == i) && (!(q.1 == i + 1) && !(q.1 + 1 == i && q.2.category == 2)))) ks = lv2) (k : Zw g Λ en own cc nL ret R (pc + 1) lv2 (rest) μ o) : Zw g Λ en own cc nL ret R (pc) lv (.long x :: rest) μ o := by
  intro hI r μ2 ho p e s m args below meth c H locs ls C hP hS hl
  exact lv_lstore_n C.1 C.2.1 hdg hi hl hn rfl (fun ls1 hl1 => k hI r μ2 ho p e s m args below meth c H locs ls1 C hP hS (lv_sub hl1 ks hl2))
theorem z_lstore {i : Nat} {x : Int64} {lv2 : List (Nat × Value)} (ks : List Nat) (hdg : decode cc pc = .ok (.lstore i, 2)) (hn : i + 1 < nL) (hl2 : lv_pick ((i, Value.long x) :: lv.filter (fun q => !(q.1 == i) && (!(q.1 == i + 1) && !(q.1 + 1 == i && q.2.category == 2)))) ks = lv2) (k : Zw g Λ en own cc nL ret R (pc + 2) lv2 (rest) μ o) : Zw g Λ en own cc nL ret R (pc) lv (.long x :: rest) μ o := by
  intro hI r μ2 ho p e s m args below meth c H locs ls C hP hS hl
  exact lv_lstore C.1 C.2.1 hdg hl hn rfl (fun ls1 hl1 => k hI r μ2 ho p e s m args below meth c H locs ls1 C hP hS (lv_sub hl1 ks hl2))
theorem z_astore_n {k0 : Fin 4} {i : Nat} {x : Nat} {lv2 : List (Nat × Value)} (ks : List Nat) (hdg : decode cc pc = .ok (.astore_n k0, 1)) (hi : (k0 : Nat) = i) (hn : i < nL) (hl2 : lv_pick ((i, Value.ref x) :: lv.filter (fun q => !(q.1 == i) && !(q.1 + 1 == i && q.2.category == 2))) ks = lv2) (k : Zw g Λ en own cc nL ret R (pc + 1) lv2 (rest) μ o) : Zw g Λ en own cc nL ret R (pc) lv (.ref x :: rest) μ o := by
  intro hI r μ2 ho p e s m args below meth c H locs ls C hP hS hl
  exact lv_astore_n C.1 C.2.1 hdg hi hl hn rfl (fun ls1 hl1 => k hI r μ2 ho p e s m args below meth c H locs ls1 C hP hS (lv_sub hl1 ks hl2))
theorem z_astore {i : Nat} {x : Nat} {lv2 : List (Nat × Value)} (ks : List Nat) (hdg : decode cc pc = .ok (.astore i, 2)) (hn : i < nL) (hl2 : lv_pick ((i, Value.ref x) :: lv.filter (fun q => !(q.1 == i) && !(q.1 + 1 == i && q.2.category == 2))) ks = lv2) (k : Zw g Λ en own cc nL ret R (pc + 2) lv2 (rest) μ o) : Zw g Λ en own cc nL ret R (pc) lv (.ref x :: rest) μ o := by
  intro hI r μ2 ho p e s m args below meth c H locs ls C hP hS hl
  exact lv_astore C.1 C.2.1 hdg hl hn rfl (fun ls1 hl1 => k hI r μ2 ho p e s m args below meth c H locs ls1 C hP hS (lv_sub hl1 ks hl2))
theorem z_iinc {i : Nat} {n : Int} {x v : Int32} {lv2 : List (Nat × Value)} (j : Nat) (ks : List Nat) (hdg : decode cc pc = .ok (.iinc i n, 3)) (hj : lv[j]? = some (i, .int x)) (hv : x + Int32.ofInt n = v) (hn : i < nL) (hl2 : lv_pick ((i, Value.int v) :: lv.filter (fun q => !(q.1 == i) && !(q.1 + 1 == i && q.2.category == 2))) ks = lv2) (k : Zw g Λ en own cc nL ret R (pc + 3) lv2 (rest) μ o) : Zw g Λ en own cc nL ret R (pc) lv (rest) μ o := by
  intro hI r μ2 ho p e s m args below meth c H locs ls C hP hS hl
  exact lv_iinc C.1 C.2.1 hdg hl hj hv hn rfl (fun ls1 hl1 => k hI r μ2 ho p e s m args below meth c H locs ls1 C hP hS (lv_sub hl1 ks hl2))
theorem z_iadd {x y : Int32} (hdg : decode cc pc = .ok (.iadd, 1)) (k : Zw g Λ en own cc nL ret R (pc + 1) lv (.int (x + y) :: rest) μ o) : Zw g Λ en own cc nL ret R (pc) lv (.int y :: .int x :: rest) μ o := by
  intro hI r μ2 ho p e s m args below meth c H locs ls C hP hS hl
  exact lv_iadd C.1 C.2.1 hdg (k hI r μ2 ho p e s m args below meth c H locs ls C hP hS hl)
theorem z_isub {x y : Int32} (hdg : decode cc pc = .ok (.isub, 1)) (k : Zw g Λ en own cc nL ret R (pc + 1) lv (.int (x - y) :: rest) μ o) : Zw g Λ en own cc nL ret R (pc) lv (.int y :: .int x :: rest) μ o := by
  intro hI r μ2 ho p e s m args below meth c H locs ls C hP hS hl
  exact lv_isub C.1 C.2.1 hdg (k hI r μ2 ho p e s m args below meth c H locs ls C hP hS hl)
theorem z_imul {x y : Int32} (hdg : decode cc pc = .ok (.imul, 1)) (k : Zw g Λ en own cc nL ret R (pc + 1) lv (.int (x * y) :: rest) μ o) : Zw g Λ en own cc nL ret R (pc) lv (.int y :: .int x :: rest) μ o := by
  intro hI r μ2 ho p e s m args below meth c H locs ls C hP hS hl
  exact lv_imul C.1 C.2.1 hdg (k hI r μ2 ho p e s m args below meth c H locs ls C hP hS hl)
theorem z_iand {x y : Int32} (hdg : decode cc pc = .ok (.iand, 1)) (k : Zw g Λ en own cc nL ret R (pc + 1) lv (.int (x &&& y) :: rest) μ o) : Zw g Λ en own cc nL ret R (pc) lv (.int y :: .int x :: rest) μ o := by
  intro hI r μ2 ho p e s m args below meth c H locs ls C hP hS hl
  exact lv_iand C.1 C.2.1 hdg (k hI r μ2 ho p e s m args below meth c H locs ls C hP hS hl)
theorem z_ishl {x y : Int32} (hdg : decode cc pc = .ok (.ishl, 1)) (k : Zw g Λ en own cc nL ret R (pc + 1) lv (.int (x <<< (y &&& 31)) :: rest) μ o) : Zw g Λ en own cc nL ret R (pc) lv (.int y :: .int x :: rest) μ o := by
  intro hI r μ2 ho p e s m args below meth c H locs ls C hP hS hl
  exact lv_ishl C.1 C.2.1 hdg (k hI r μ2 ho p e s m args below meth c H locs ls C hP hS hl)
theorem z_ishr {x y : Int32} (hdg : decode cc pc = .ok (.ishr, 1)) (k : Zw g Λ en own cc nL ret R (pc + 1) lv (.int (x >>> (y &&& 31)) :: rest) μ o) : Zw g Λ en own cc nL ret R (pc) lv (.int y :: .int x :: rest) μ o := by
  intro hI r μ2 ho p e s m args below meth c H locs ls C hP hS hl
  exact lv_ishr C.1 C.2.1 hdg (k hI r μ2 ho p e s m args below meth c H locs ls C hP hS hl)
theorem z_ladd {x y : Int64} (hdg : decode cc pc = .ok (.ladd, 1)) (k : Zw g Λ en own cc nL ret R (pc + 1) lv (.long (x + y) :: rest) μ o) : Zw g Λ en own cc nL ret R (pc) lv (.long y :: .long x :: rest) μ o := by
  intro hI r μ2 ho p e s m args below meth c H locs ls C hP hS hl
  exact lv_ladd C.1 C.2.1 hdg (k hI r μ2 ho p e s m args below meth c H locs ls C hP hS hl)
theorem z_lsub {x y : Int64} (hdg : decode cc pc = .ok (.lsub, 1)) (k : Zw g Λ en own cc nL ret R (pc + 1) lv (.long (x - y) :: rest) μ o) : Zw g Λ en own cc nL ret R (pc) lv (.long y :: .long x :: rest) μ o := by
  intro hI r μ2 ho p e s m args below meth c H locs ls C hP hS hl
  exact lv_lsub C.1 C.2.1 hdg (k hI r μ2 ho p e s m args below meth c H locs ls C hP hS hl)
theorem z_lmul {x y : Int64} (hdg : decode cc pc = .ok (.lmul, 1)) (k : Zw g Λ en own cc nL ret R (pc + 1) lv (.long (x * y) :: rest) μ o) : Zw g Λ en own cc nL ret R (pc) lv (.long y :: .long x :: rest) μ o := by
  intro hI r μ2 ho p e s m args below meth c H locs ls C hP hS hl
  exact lv_lmul C.1 C.2.1 hdg (k hI r μ2 ho p e s m args below meth c H locs ls C hP hS hl)
theorem z_land {x y : Int64} (hdg : decode cc pc = .ok (.land, 1)) (k : Zw g Λ en own cc nL ret R (pc + 1) lv (.long (x &&& y) :: rest) μ o) : Zw g Λ en own cc nL ret R (pc) lv (.long y :: .long x :: rest) μ o := by
  intro hI r μ2 ho p e s m args below meth c H locs ls C hP hS hl
  exact lv_land C.1 C.2.1 hdg (k hI r μ2 ho p e s m args below meth c H locs ls C hP hS hl)
theorem z_lor {x y : Int64} (hdg : decode cc pc = .ok (.lor, 1)) (k : Zw g Λ en own cc nL ret R (pc + 1) lv (.long (x ||| y) :: rest) μ o) : Zw g Λ en own cc nL ret R (pc) lv (.long y :: .long x :: rest) μ o := by
  intro hI r μ2 ho p e s m args below meth c H locs ls C hP hS hl
  exact lv_lor C.1 C.2.1 hdg (k hI r μ2 ho p e s m args below meth c H locs ls C hP hS hl)
theorem z_idiv_g {x y : Int32} (hdg : decode cc pc = .ok (.idiv, 1)) (k : Zw g Λ en own cc nL ret R (pc + 1) lv (.int (x / y) :: rest) μ o) : Zw g Λ en own cc nL ret R (pc) lv (.int y :: .int x :: rest) μ (if ¬ y = 0 then o else none) := by
  intro hI r μ2 ho p e s m args below meth c H locs ls C hP hS hl
  by_cases hg : ¬ y = 0
  · rw [if_pos hg] at ho
    exact lv_idiv C.1 C.2.1 hdg hg (k hI r μ2 ho p e s m args below meth c H locs ls C hP hS hl)
  · rw [if_neg hg] at ho
    cases ho
theorem z_idiv {x y : Int32} (hdg : decode cc pc = .ok (.idiv, 1)) (hne : ¬ y = 0) (k : Zw g Λ en own cc nL ret R (pc + 1) lv (.int (x / y) :: rest) μ o) : Zw g Λ en own cc nL ret R (pc) lv (.int y :: .int x :: rest) μ o := by
  intro hI r μ2 ho p e s m args below meth c H locs ls C hP hS hl
  exact lv_idiv C.1 C.2.1 hdg hne (k hI r μ2 ho p e s m args below meth c H locs ls C hP hS hl)
theorem z_irem_g {x y : Int32} (hdg : decode cc pc = .ok (.irem, 1)) (k : Zw g Λ en own cc nL ret R (pc + 1) lv (.int (x - x / y * y) :: rest) μ o) : Zw g Λ en own cc nL ret R (pc) lv (.int y :: .int x :: rest) μ (if ¬ y = 0 then o else none) := by
  intro hI r μ2 ho p e s m args below meth c H locs ls C hP hS hl
  by_cases hg : ¬ y = 0
  · rw [if_pos hg] at ho
    exact lv_irem C.1 C.2.1 hdg hg (k hI r μ2 ho p e s m args below meth c H locs ls C hP hS hl)
  · rw [if_neg hg] at ho
    cases ho
theorem z_irem {x y : Int32} (hdg : decode cc pc = .ok (.irem, 1)) (hne : ¬ y = 0) (k : Zw g Λ en own cc nL ret R (pc + 1) lv (.int (x - x / y * y) :: rest) μ o) : Zw g Λ en own cc nL ret R (pc) lv (.int y :: .int x :: rest) μ o := by
  intro hI r μ2 ho p e s m args below meth c H locs ls C hP hS hl
  exact lv_irem C.1 C.2.1 hdg hne (k hI r μ2 ho p e s m args below meth c H locs ls C hP hS hl)
theorem z_ldiv_g {x y : Int64} (hdg : decode cc pc = .ok (.ldiv, 1)) (k : Zw g Λ en own cc nL ret R (pc + 1) lv (.long (x / y) :: rest) μ o) : Zw g Λ en own cc nL ret R (pc) lv (.long y :: .long x :: rest) μ (if ¬ y = 0 then o else none) := by
  intro hI r μ2 ho p e s m args below meth c H locs ls C hP hS hl
  by_cases hg : ¬ y = 0
  · rw [if_pos hg] at ho
    exact lv_ldiv C.1 C.2.1 hdg hg (k hI r μ2 ho p e s m args below meth c H locs ls C hP hS hl)
  · rw [if_neg hg] at ho
    cases ho
theorem z_ldiv {x y : Int64} (hdg : decode cc pc = .ok (.ldiv, 1)) (hne : ¬ y = 0) (k : Zw g Λ en own cc nL ret R (pc + 1) lv (.long (x / y) :: rest) μ o) : Zw g Λ en own cc nL ret R (pc) lv (.long y :: .long x :: rest) μ o := by
  intro hI r μ2 ho p e s m args below meth c H locs ls C hP hS hl
  exact lv_ldiv C.1 C.2.1 hdg hne (k hI r μ2 ho p e s m args below meth c H locs ls C hP hS hl)
theorem z_lrem_g {x y : Int64} (hdg : decode cc pc = .ok (.lrem, 1)) (k : Zw g Λ en own cc nL ret R (pc + 1) lv (.long (x - x / y * y) :: rest) μ o) : Zw g Λ en own cc nL ret R (pc) lv (.long y :: .long x :: rest) μ (if ¬ y = 0 then o else none) := by
  intro hI r μ2 ho p e s m args below meth c H locs ls C hP hS hl
  by_cases hg : ¬ y = 0
  · rw [if_pos hg] at ho
    exact lv_lrem C.1 C.2.1 hdg hg (k hI r μ2 ho p e s m args below meth c H locs ls C hP hS hl)
  · rw [if_neg hg] at ho
    cases ho
theorem z_lrem {x y : Int64} (hdg : decode cc pc = .ok (.lrem, 1)) (hne : ¬ y = 0) (k : Zw g Λ en own cc nL ret R (pc + 1) lv (.long (x - x / y * y) :: rest) μ o) : Zw g Λ en own cc nL ret R (pc) lv (.long y :: .long x :: rest) μ o := by
  intro hI r μ2 ho p e s m args below meth c H locs ls C hP hS hl
  exact lv_lrem C.1 C.2.1 hdg hne (k hI r μ2 ho p e s m args below meth c H locs ls C hP hS hl)
theorem z_i2l {x : Int32} (hdg : decode cc pc = .ok (.i2l, 1)) (k : Zw g Λ en own cc nL ret R (pc + 1) lv (.long x.toInt64 :: rest) μ o) : Zw g Λ en own cc nL ret R (pc) lv (.int x :: rest) μ o := by
  intro hI r μ2 ho p e s m args below meth c H locs ls C hP hS hl
  exact lv_i2l C.1 C.2.1 hdg rfl (k hI r μ2 ho p e s m args below meth c H locs ls C hP hS hl)
theorem z_i2b {x : Int32} (hdg : decode cc pc = .ok (.i2b, 1)) (k : Zw g Λ en own cc nL ret R (pc + 1) lv (.int x.toInt8.toInt32 :: rest) μ o) : Zw g Λ en own cc nL ret R (pc) lv (.int x :: rest) μ o := by
  intro hI r μ2 ho p e s m args below meth c H locs ls C hP hS hl
  exact lv_i2b C.1 C.2.1 hdg rfl (k hI r μ2 ho p e s m args below meth c H locs ls C hP hS hl)
theorem z_lshl {x : Int64} {y : Int32} (hdg : decode cc pc = .ok (.lshl, 1)) (k : Zw g Λ en own cc nL ret R (pc + 1) lv (.long (x <<< (y.toInt64 &&& 63)) :: rest) μ o) : Zw g Λ en own cc nL ret R (pc) lv (.int y :: .long x :: rest) μ o := by
  intro hI r μ2 ho p e s m args below meth c H locs ls C hP hS hl
  exact lv_lshl C.1 C.2.1 hdg rfl (k hI r μ2 ho p e s m args below meth c H locs ls C hP hS hl)
theorem z_dup {va : Value} (hdg : decode cc pc = .ok (.dup, 1)) (hva : va.category = 1) (k : Zw g Λ en own cc nL ret R (pc + 1) lv (va :: va :: rest) μ o) : Zw g Λ en own cc nL ret R (pc) lv (va :: rest) μ o := by
  intro hI r μ2 ho p e s m args below meth c H locs ls C hP hS hl
  exact lv_dup C.1 C.2.1 hdg hva (k hI r μ2 ho p e s m args below meth c H locs ls C hP hS hl)
theorem z_dup_x1 {va vb : Value} (hdg : decode cc pc = .ok (.dup_x1, 1)) (hva : va.category = 1) (hvb : vb.category = 1) (k : Zw g Λ en own cc nL ret R (pc + 1) lv (va :: vb :: va :: rest) μ o) : Zw g Λ en own cc nL ret R (pc) lv (va :: vb :: rest) μ o := by
  intro hI r μ2 ho p e s m args below meth c H locs ls C hP hS hl
  exact lv_dup_x1 C.1 C.2.1 hdg hva hvb (k hI r μ2 ho p e s m args below meth c H locs ls C hP hS hl)
theorem z_dup2 {va vb : Value} (hdg : decode cc pc = .ok (.dup2, 1)) (hva : va.category = 1) (hvb : vb.category = 1) (k : Zw g Λ en own cc nL ret R (pc + 1) lv (va :: vb :: va :: vb :: rest) μ o) : Zw g Λ en own cc nL ret R (pc) lv (va :: vb :: rest) μ o := by
  intro hI r μ2 ho p e s m args below meth c H locs ls C hP hS hl
  exact lv_dup2_11 C.1 C.2.1 hdg hva hvb (k hI r μ2 ho p e s m args below meth c H locs ls C hP hS hl)
theorem z_goto {off : Int} {tgt : Nat} (hdg : decode cc pc = .ok (.goto off, 3)) (ht : (pc : Int) + off = (tgt : Int)) (k : Zw g Λ en own cc nL ret R (tgt) lv (rest) μ o) : Zw g Λ en own cc nL ret R (pc) lv (rest) μ o := by
  intro hI r μ2 ho p e s m args below meth c H locs ls C hP hS hl
  exact lv_goto C.1 C.2.1 hdg ht (k hI r μ2 ho p e s m args below meth c H locs ls C hP hS hl)
theorem z_if_eq {x : Int32} {off : Int} {tgt : Nat} (hdg : decode cc pc = .ok (.ifCond .eq off, 3)) (ht : (pc : Int) + off = (tgt : Int)) (kt : x = 0 → Zw g Λ en own cc nL ret R (tgt) lv (rest) μ o1) (kf : ¬ (x = 0) → Zw g Λ en own cc nL ret R (pc + 3) lv (rest) μ o2) : Zw g Λ en own cc nL ret R (pc) lv (.int x :: rest) μ (if x = 0 then o1 else o2) := by
  intro hI r μ2 ho p e s m args below meth c H locs ls C hP hS hl
  exact lv_if_eq C.1 C.2.1 hdg ht (fun h => kt h hI r μ2 (by rw [if_pos h] at ho; exact ho) p e s m args below meth c H locs ls C hP hS hl) (fun h => kf h hI r μ2 (by rw [if_neg h] at ho; exact ho) p e s m args below meth c H locs ls C hP hS hl)
theorem z_if_eq_y {x : Int32} {off : Int} {tgt : Nat} (hdg : decode cc pc = .ok (.ifCond .eq off, 3)) (ht : (pc : Int) + off = (tgt : Int)) (hc : x = 0) (k : Zw g Λ en own cc nL ret R (tgt) lv (rest) μ o) : Zw g Λ en own cc nL ret R (pc) lv (.int x :: rest) μ o := by
  intro hI r μ2 ho p e s m args below meth c H locs ls C hP hS hl
  exact lv_if_eq C.1 C.2.1 hdg ht (fun _ => k hI r μ2 ho p e s m args below meth c H locs ls C hP hS hl) (fun h => absurd hc h)
theorem z_if_eq_x {x : Int32} {off : Int} {tgt : Nat} (hdg : decode cc pc = .ok (.ifCond .eq off, 3)) (ht : (pc : Int) + off = (tgt : Int)) (hc : ¬ (x = 0)) (k : Zw g Λ en own cc nL ret R (pc + 3) lv (rest) μ o) : Zw g Λ en own cc nL ret R (pc) lv (.int x :: rest) μ o := by
  intro hI r μ2 ho p e s m args below meth c H locs ls C hP hS hl
  exact lv_if_eq C.1 C.2.1 hdg ht (fun h => absurd h hc) (fun _ => k hI r μ2 ho p e s m args below meth c H locs ls C hP hS hl)
theorem z_icmp_eq {x y : Int32} {off : Int} {tgt : Nat} (hdg : decode cc pc = .ok (.if_icmp .eq off, 3)) (ht : (pc : Int) + off = (tgt : Int)) (kt : x = y → Zw g Λ en own cc nL ret R (tgt) lv (rest) μ o1) (kf : ¬ (x = y) → Zw g Λ en own cc nL ret R (pc + 3) lv (rest) μ o2) : Zw g Λ en own cc nL ret R (pc) lv (.int y :: .int x :: rest) μ (if x = y then o1 else o2) := by
  intro hI r μ2 ho p e s m args below meth c H locs ls C hP hS hl
  exact lv_icmp_eq C.1 C.2.1 hdg ht (fun h => kt h hI r μ2 (by rw [if_pos h] at ho; exact ho) p e s m args below meth c H locs ls C hP hS hl) (fun h => kf h hI r μ2 (by rw [if_neg h] at ho; exact ho) p e s m args below meth c H locs ls C hP hS hl)
theorem z_icmp_eq_y {x y : Int32} {off : Int} {tgt : Nat} (hdg : decode cc pc = .ok (.if_icmp .eq off, 3)) (ht : (pc : Int) + off = (tgt : Int)) (hc : x = y) (k : Zw g Λ en own cc nL ret R (tgt) lv (rest) μ o) : Zw g Λ en own cc nL ret R (pc) lv (.int y :: .int x :: rest) μ o := by
  intro hI r μ2 ho p e s m args below meth c H locs ls C hP hS hl
  exact lv_icmp_eq C.1 C.2.1 hdg ht (fun _ => k hI r μ2 ho p e s m args below meth c H locs ls C hP hS hl) (fun h => absurd hc h)
theorem z_icmp_eq_x {x y : Int32} {off : Int} {tgt : Nat} (hdg : decode cc pc = .ok (.if_icmp .eq off, 3)) (ht : (pc : Int) + off = (tgt : Int)) (hc : ¬ (x = y)) (k : Zw g Λ en own cc nL ret R (pc + 3) lv (rest) μ o) : Zw g Λ en own cc nL ret R (pc) lv (.int y :: .int x :: rest) μ o := by
  intro hI r μ2 ho p e s m args below meth c H locs ls C hP hS hl
  exact lv_icmp_eq C.1 C.2.1 hdg ht (fun h => absurd h hc) (fun _ => k hI r μ2 ho p e s m args below meth c H locs ls C hP hS hl)
theorem z_if_ne {x : Int32} {off : Int} {tgt : Nat} (hdg : decode cc pc = .ok (.ifCond .ne off, 3)) (ht : (pc : Int) + off = (tgt : Int)) (kt : ¬ (x = 0) → Zw g Λ en own cc nL ret R (tgt) lv (rest) μ o2) (kf : x = 0 → Zw g Λ en own cc nL ret R (pc + 3) lv (rest) μ o1) : Zw g Λ en own cc nL ret R (pc) lv (.int x :: rest) μ (if x = 0 then o1 else o2) := by
  intro hI r μ2 ho p e s m args below meth c H locs ls C hP hS hl
  exact lv_if_ne C.1 C.2.1 hdg ht (fun h => kt h hI r μ2 (by rw [if_neg h] at ho; exact ho) p e s m args below meth c H locs ls C hP hS hl) (fun h => kf h hI r μ2 (by rw [if_pos h] at ho; exact ho) p e s m args below meth c H locs ls C hP hS hl)
theorem z_if_ne_y {x : Int32} {off : Int} {tgt : Nat} (hdg : decode cc pc = .ok (.ifCond .ne off, 3)) (ht : (pc : Int) + off = (tgt : Int)) (hc : ¬ (x = 0)) (k : Zw g Λ en own cc nL ret R (tgt) lv (rest) μ o) : Zw g Λ en own cc nL ret R (pc) lv (.int x :: rest) μ o := by
  intro hI r μ2 ho p e s m args below meth c H locs ls C hP hS hl
  exact lv_if_ne C.1 C.2.1 hdg ht (fun _ => k hI r μ2 ho p e s m args below meth c H locs ls C hP hS hl) (fun h => absurd h hc)
theorem z_if_ne_x {x : Int32} {off : Int} {tgt : Nat} (hdg : decode cc pc = .ok (.ifCond .ne off, 3)) (ht : (pc : Int) + off = (tgt : Int)) (hc : x = 0) (k : Zw g Λ en own cc nL ret R (pc + 3) lv (rest) μ o) : Zw g Λ en own cc nL ret R (pc) lv (.int x :: rest) μ o := by
  intro hI r μ2 ho p e s m args below meth c H locs ls C hP hS hl
  exact lv_if_ne C.1 C.2.1 hdg ht (fun h => absurd hc h) (fun _ => k hI r μ2 ho p e s m args below meth c H locs ls C hP hS hl)
theorem z_icmp_ne {x y : Int32} {off : Int} {tgt : Nat} (hdg : decode cc pc = .ok (.if_icmp .ne off, 3)) (ht : (pc : Int) + off = (tgt : Int)) (kt : ¬ (x = y) → Zw g Λ en own cc nL ret R (tgt) lv (rest) μ o2) (kf : x = y → Zw g Λ en own cc nL ret R (pc + 3) lv (rest) μ o1) : Zw g Λ en own cc nL ret R (pc) lv (.int y :: .int x :: rest) μ (if x = y then o1 else o2) := by
  intro hI r μ2 ho p e s m args below meth c H locs ls C hP hS hl
  exact lv_icmp_ne C.1 C.2.1 hdg ht (fun h => kt h hI r μ2 (by rw [if_neg h] at ho; exact ho) p e s m args below meth c H locs ls C hP hS hl) (fun h => kf h hI r μ2 (by rw [if_pos h] at ho; exact ho) p e s m args below meth c H locs ls C hP hS hl)
theorem z_icmp_ne_y {x y : Int32} {off : Int} {tgt : Nat} (hdg : decode cc pc = .ok (.if_icmp .ne off, 3)) (ht : (pc : Int) + off = (tgt : Int)) (hc : ¬ (x = y)) (k : Zw g Λ en own cc nL ret R (tgt) lv (rest) μ o) : Zw g Λ en own cc nL ret R (pc) lv (.int y :: .int x :: rest) μ o := by
  intro hI r μ2 ho p e s m args below meth c H locs ls C hP hS hl
  exact lv_icmp_ne C.1 C.2.1 hdg ht (fun _ => k hI r μ2 ho p e s m args below meth c H locs ls C hP hS hl) (fun h => absurd h hc)
theorem z_icmp_ne_x {x y : Int32} {off : Int} {tgt : Nat} (hdg : decode cc pc = .ok (.if_icmp .ne off, 3)) (ht : (pc : Int) + off = (tgt : Int)) (hc : x = y) (k : Zw g Λ en own cc nL ret R (pc + 3) lv (rest) μ o) : Zw g Λ en own cc nL ret R (pc) lv (.int y :: .int x :: rest) μ o := by
  intro hI r μ2 ho p e s m args below meth c H locs ls C hP hS hl
  exact lv_icmp_ne C.1 C.2.1 hdg ht (fun h => absurd hc h) (fun _ => k hI r μ2 ho p e s m args below meth c H locs ls C hP hS hl)
theorem z_if_lt {x : Int32} {off : Int} {tgt : Nat} (hdg : decode cc pc = .ok (.ifCond .lt off, 3)) (ht : (pc : Int) + off = (tgt : Int)) (kt : x < 0 → Zw g Λ en own cc nL ret R (tgt) lv (rest) μ o1) (kf : ¬ (x < 0) → Zw g Λ en own cc nL ret R (pc + 3) lv (rest) μ o2) : Zw g Λ en own cc nL ret R (pc) lv (.int x :: rest) μ (if x < 0 then o1 else o2) := by
  intro hI r μ2 ho p e s m args below meth c H locs ls C hP hS hl
  exact lv_if_lt C.1 C.2.1 hdg ht (fun h => kt h hI r μ2 (by rw [if_pos h] at ho; exact ho) p e s m args below meth c H locs ls C hP hS hl) (fun h => kf h hI r μ2 (by rw [if_neg h] at ho; exact ho) p e s m args below meth c H locs ls C hP hS hl)
theorem z_if_lt_y {x : Int32} {off : Int} {tgt : Nat} (hdg : decode cc pc = .ok (.ifCond .lt off, 3)) (ht : (pc : Int) + off = (tgt : Int)) (hc : x < 0) (k : Zw g Λ en own cc nL ret R (tgt) lv (rest) μ o) : Zw g Λ en own cc nL ret R (pc) lv (.int x :: rest) μ o := by
  intro hI r μ2 ho p e s m args below meth c H locs ls C hP hS hl
  exact lv_if_lt C.1 C.2.1 hdg ht (fun _ => k hI r μ2 ho p e s m args below meth c H locs ls C hP hS hl) (fun h => absurd hc h)
theorem z_if_lt_x {x : Int32} {off : Int} {tgt : Nat} (hdg : decode cc pc = .ok (.ifCond .lt off, 3)) (ht : (pc : Int) + off = (tgt : Int)) (hc : ¬ (x < 0)) (k : Zw g Λ en own cc nL ret R (pc + 3) lv (rest) μ o) : Zw g Λ en own cc nL ret R (pc) lv (.int x :: rest) μ o := by
  intro hI r μ2 ho p e s m args below meth c H locs ls C hP hS hl
  exact lv_if_lt C.1 C.2.1 hdg ht (fun h => absurd h hc) (fun _ => k hI r μ2 ho p e s m args below meth c H locs ls C hP hS hl)
theorem z_icmp_lt {x y : Int32} {off : Int} {tgt : Nat} (hdg : decode cc pc = .ok (.if_icmp .lt off, 3)) (ht : (pc : Int) + off = (tgt : Int)) (kt : x < y → Zw g Λ en own cc nL ret R (tgt) lv (rest) μ o1) (kf : ¬ (x < y) → Zw g Λ en own cc nL ret R (pc + 3) lv (rest) μ o2) : Zw g Λ en own cc nL ret R (pc) lv (.int y :: .int x :: rest) μ (if x < y then o1 else o2) := by
  intro hI r μ2 ho p e s m args below meth c H locs ls C hP hS hl
  exact lv_icmp_lt C.1 C.2.1 hdg ht (fun h => kt h hI r μ2 (by rw [if_pos h] at ho; exact ho) p e s m args below meth c H locs ls C hP hS hl) (fun h => kf h hI r μ2 (by rw [if_neg h] at ho; exact ho) p e s m args below meth c H locs ls C hP hS hl)
theorem z_icmp_lt_y {x y : Int32} {off : Int} {tgt : Nat} (hdg : decode cc pc = .ok (.if_icmp .lt off, 3)) (ht : (pc : Int) + off = (tgt : Int)) (hc : x < y) (k : Zw g Λ en own cc nL ret R (tgt) lv (rest) μ o) : Zw g Λ en own cc nL ret R (pc) lv (.int y :: .int x :: rest) μ o := by
  intro hI r μ2 ho p e s m args below meth c H locs ls C hP hS hl
  exact lv_icmp_lt C.1 C.2.1 hdg ht (fun _ => k hI r μ2 ho p e s m args below meth c H locs ls C hP hS hl) (fun h => absurd hc h)
theorem z_icmp_lt_x {x y : Int32} {off : Int} {tgt : Nat} (hdg : decode cc pc = .ok (.if_icmp .lt off, 3)) (ht : (pc : Int) + off = (tgt : Int)) (hc : ¬ (x < y)) (k : Zw g Λ en own cc nL ret R (pc + 3) lv (rest) μ o) : Zw g Λ en own cc nL ret R (pc) lv (.int y :: .int x :: rest) μ o := by
  intro hI r μ2 ho p e s m args below meth c H locs ls C hP hS hl
  exact lv_icmp_lt C.1 C.2.1 hdg ht (fun h => absurd h hc) (fun _ => k hI r μ2 ho p e s m args below meth c H locs ls C hP hS hl)
theorem z_if_ge {x : Int32} {off : Int} {tgt : Nat} (hdg : decode cc pc = .ok (.ifCond .ge off, 3)) (ht : (pc : Int) + off = (tgt : Int)) (kt : 0 ≤ x → Zw g Λ en own cc nL ret R (tgt) lv (rest) μ o1) (kf : ¬ (0 ≤ x) → Zw g Λ en own cc nL ret R (pc + 3) lv (rest) μ o2) : Zw g Λ en own cc nL ret R (pc) lv (.int x :: rest) μ (if 0 ≤ x then o1 else o2) := by
  intro hI r μ2 ho p e s m args below meth c H locs ls C hP hS hl
  exact lv_if_ge C.1 C.2.1 hdg ht (fun h => kt h hI r μ2 (by rw [if_pos h] at ho; exact ho) p e s m args below meth c H locs ls C hP hS hl) (fun h => kf h hI r μ2 (by rw [if_neg h] at ho; exact ho) p e s m args below meth c H locs ls C hP hS hl)
theorem z_if_ge_y {x : Int32} {off : Int} {tgt : Nat} (hdg : decode cc pc = .ok (.ifCond .ge off, 3)) (ht : (pc : Int) + off = (tgt : Int)) (hc : 0 ≤ x) (k : Zw g Λ en own cc nL ret R (tgt) lv (rest) μ o) : Zw g Λ en own cc nL ret R (pc) lv (.int x :: rest) μ o := by
  intro hI r μ2 ho p e s m args below meth c H locs ls C hP hS hl
  exact lv_if_ge C.1 C.2.1 hdg ht (fun _ => k hI r μ2 ho p e s m args below meth c H locs ls C hP hS hl) (fun h => absurd hc h)
theorem z_if_ge_x {x : Int32} {off : Int} {tgt : Nat} (hdg : decode cc pc = .ok (.ifCond .ge off, 3)) (ht : (pc : Int) + off = (tgt : Int)) (hc : ¬ (0 ≤ x)) (k : Zw g Λ en own cc nL ret R (pc + 3) lv (rest) μ o) : Zw g Λ en own cc nL ret R (pc) lv (.int x :: rest) μ o := by
  intro hI r μ2 ho p e s m args below meth c H locs ls C hP hS hl
  exact lv_if_ge C.1 C.2.1 hdg ht (fun h => absurd h hc) (fun _ => k hI r μ2 ho p e s m args below meth c H locs ls C hP hS hl)
theorem z_icmp_ge {x y : Int32} {off : Int} {tgt : Nat} (hdg : decode cc pc = .ok (.if_icmp .ge off, 3)) (ht : (pc : Int) + off = (tgt : Int)) (kt : y ≤ x → Zw g Λ en own cc nL ret R (tgt) lv (rest) μ o1) (kf : ¬ (y ≤ x) → Zw g Λ en own cc nL ret R (pc + 3) lv (rest) μ o2) : Zw g Λ en own cc nL ret R (pc) lv (.int y :: .int x :: rest) μ (if y ≤ x then o1 else o2) := by
  intro hI r μ2 ho p e s m args below meth c H locs ls C hP hS hl
  exact lv_icmp_ge C.1 C.2.1 hdg ht (fun h => kt h hI r μ2 (by rw [if_pos h] at ho; exact ho) p e s m args below meth c H locs ls C hP hS hl) (fun h => kf h hI r μ2 (by rw [if_neg h] at ho; exact ho) p e s m args below meth c H locs ls C hP hS hl)
theorem z_icmp_ge_y {x y : Int32} {off : Int} {tgt : Nat} (hdg : decode cc pc = .ok (.if_icmp .ge off, 3)) (ht : (pc : Int) + off = (tgt : Int)) (hc : y ≤ x) (k : Zw g Λ en own cc nL ret R (tgt) lv (rest) μ o) : Zw g Λ en own cc nL ret R (pc) lv (.int y :: .int x :: rest) μ o := by
  intro hI r μ2 ho p e s m args below meth c H locs ls C hP hS hl
  exact lv_icmp_ge C.1 C.2.1 hdg ht (fun _ => k hI r μ2 ho p e s m args below meth c H locs ls C hP hS hl) (fun h => absurd hc h)
theorem z_icmp_ge_x {x y : Int32} {off : Int} {tgt : Nat} (hdg : decode cc pc = .ok (.if_icmp .ge off, 3)) (ht : (pc : Int) + off = (tgt : Int)) (hc : ¬ (y ≤ x)) (k : Zw g Λ en own cc nL ret R (pc + 3) lv (rest) μ o) : Zw g Λ en own cc nL ret R (pc) lv (.int y :: .int x :: rest) μ o := by
  intro hI r μ2 ho p e s m args below meth c H locs ls C hP hS hl
  exact lv_icmp_ge C.1 C.2.1 hdg ht (fun h => absurd h hc) (fun _ => k hI r μ2 ho p e s m args below meth c H locs ls C hP hS hl)
theorem z_if_gt {x : Int32} {off : Int} {tgt : Nat} (hdg : decode cc pc = .ok (.ifCond .gt off, 3)) (ht : (pc : Int) + off = (tgt : Int)) (kt : 0 < x → Zw g Λ en own cc nL ret R (tgt) lv (rest) μ o1) (kf : ¬ (0 < x) → Zw g Λ en own cc nL ret R (pc + 3) lv (rest) μ o2) : Zw g Λ en own cc nL ret R (pc) lv (.int x :: rest) μ (if 0 < x then o1 else o2) := by
  intro hI r μ2 ho p e s m args below meth c H locs ls C hP hS hl
  exact lv_if_gt C.1 C.2.1 hdg ht (fun h => kt h hI r μ2 (by rw [if_pos h] at ho; exact ho) p e s m args below meth c H locs ls C hP hS hl) (fun h => kf h hI r μ2 (by rw [if_neg h] at ho; exact ho) p e s m args below meth c H locs ls C hP hS hl)
theorem z_if_gt_y {x : Int32} {off : Int} {tgt : Nat} (hdg : decode cc pc = .ok (.ifCond .gt off, 3)) (ht : (pc : Int) + off = (tgt : Int)) (hc : 0 < x) (k : Zw g Λ en own cc nL ret R (tgt) lv (rest) μ o) : Zw g Λ en own cc nL ret R (pc) lv (.int x :: rest) μ o := by
  intro hI r μ2 ho p e s m args below meth c H locs ls C hP hS hl
  exact lv_if_gt C.1 C.2.1 hdg ht (fun _ => k hI r μ2 ho p e s m args below meth c H locs ls C hP hS hl) (fun h => absurd hc h)
theorem z_if_gt_x {x : Int32} {off : Int} {tgt : Nat} (hdg : decode cc pc = .ok (.ifCond .gt off, 3)) (ht : (pc : Int) + off = (tgt : Int)) (hc : ¬ (0 < x)) (k : Zw g Λ en own cc nL ret R (pc + 3) lv (rest) μ o) : Zw g Λ en own cc nL ret R (pc) lv (.int x :: rest) μ o := by
  intro hI r μ2 ho p e s m args below meth c H locs ls C hP hS hl
  exact lv_if_gt C.1 C.2.1 hdg ht (fun h => absurd h hc) (fun _ => k hI r μ2 ho p e s m args below meth c H locs ls C hP hS hl)
theorem z_icmp_gt {x y : Int32} {off : Int} {tgt : Nat} (hdg : decode cc pc = .ok (.if_icmp .gt off, 3)) (ht : (pc : Int) + off = (tgt : Int)) (kt : y < x → Zw g Λ en own cc nL ret R (tgt) lv (rest) μ o1) (kf : ¬ (y < x) → Zw g Λ en own cc nL ret R (pc + 3) lv (rest) μ o2) : Zw g Λ en own cc nL ret R (pc) lv (.int y :: .int x :: rest) μ (if y < x then o1 else o2) := by
  intro hI r μ2 ho p e s m args below meth c H locs ls C hP hS hl
  exact lv_icmp_gt C.1 C.2.1 hdg ht (fun h => kt h hI r μ2 (by rw [if_pos h] at ho; exact ho) p e s m args below meth c H locs ls C hP hS hl) (fun h => kf h hI r μ2 (by rw [if_neg h] at ho; exact ho) p e s m args below meth c H locs ls C hP hS hl)
theorem z_icmp_gt_y {x y : Int32} {off : Int} {tgt : Nat} (hdg : decode cc pc = .ok (.if_icmp .gt off, 3)) (ht : (pc : Int) + off = (tgt : Int)) (hc : y < x) (k : Zw g Λ en own cc nL ret R (tgt) lv (rest) μ o) : Zw g Λ en own cc nL ret R (pc) lv (.int y :: .int x :: rest) μ o := by
  intro hI r μ2 ho p e s m args below meth c H locs ls C hP hS hl
  exact lv_icmp_gt C.1 C.2.1 hdg ht (fun _ => k hI r μ2 ho p e s m args below meth c H locs ls C hP hS hl) (fun h => absurd hc h)
theorem z_icmp_gt_x {x y : Int32} {off : Int} {tgt : Nat} (hdg : decode cc pc = .ok (.if_icmp .gt off, 3)) (ht : (pc : Int) + off = (tgt : Int)) (hc : ¬ (y < x)) (k : Zw g Λ en own cc nL ret R (pc + 3) lv (rest) μ o) : Zw g Λ en own cc nL ret R (pc) lv (.int y :: .int x :: rest) μ o := by
  intro hI r μ2 ho p e s m args below meth c H locs ls C hP hS hl
  exact lv_icmp_gt C.1 C.2.1 hdg ht (fun h => absurd h hc) (fun _ => k hI r μ2 ho p e s m args below meth c H locs ls C hP hS hl)
theorem z_if_le {x : Int32} {off : Int} {tgt : Nat} (hdg : decode cc pc = .ok (.ifCond .le off, 3)) (ht : (pc : Int) + off = (tgt : Int)) (kt : x ≤ 0 → Zw g Λ en own cc nL ret R (tgt) lv (rest) μ o1) (kf : ¬ (x ≤ 0) → Zw g Λ en own cc nL ret R (pc + 3) lv (rest) μ o2) : Zw g Λ en own cc nL ret R (pc) lv (.int x :: rest) μ (if x ≤ 0 then o1 else o2) := by
  intro hI r μ2 ho p e s m args below meth c H locs ls C hP hS hl
  exact lv_if_le C.1 C.2.1 hdg ht (fun h => kt h hI r μ2 (by rw [if_pos h] at ho; exact ho) p e s m args below meth c H locs ls C hP hS hl) (fun h => kf h hI r μ2 (by rw [if_neg h] at ho; exact ho) p e s m args below meth c H locs ls C hP hS hl)
theorem z_if_le_y {x : Int32} {off : Int} {tgt : Nat} (hdg : decode cc pc = .ok (.ifCond .le off, 3)) (ht : (pc : Int) + off = (tgt : Int)) (hc : x ≤ 0) (k : Zw g Λ en own cc nL ret R (tgt) lv (rest) μ o) : Zw g Λ en own cc nL ret R (pc) lv (.int x :: rest) μ o := by
  intro hI r μ2 ho p e s m args below meth c H locs ls C hP hS hl
  exact lv_if_le C.1 C.2.1 hdg ht (fun _ => k hI r μ2 ho p e s m args below meth c H locs ls C hP hS hl) (fun h => absurd hc h)
theorem z_if_le_x {x : Int32} {off : Int} {tgt : Nat} (hdg : decode cc pc = .ok (.ifCond .le off, 3)) (ht : (pc : Int) + off = (tgt : Int)) (hc : ¬ (x ≤ 0)) (k : Zw g Λ en own cc nL ret R (pc + 3) lv (rest) μ o) : Zw g Λ en own cc nL ret R (pc) lv (.int x :: rest) μ o := by
  intro hI r μ2 ho p e s m args below meth c H locs ls C hP hS hl
  exact lv_if_le C.1 C.2.1 hdg ht (fun h => absurd h hc) (fun _ => k hI r μ2 ho p e s m args below meth c H locs ls C hP hS hl)
theorem z_icmp_le {x y : Int32} {off : Int} {tgt : Nat} (hdg : decode cc pc = .ok (.if_icmp .le off, 3)) (ht : (pc : Int) + off = (tgt : Int)) (kt : x ≤ y → Zw g Λ en own cc nL ret R (tgt) lv (rest) μ o1) (kf : ¬ (x ≤ y) → Zw g Λ en own cc nL ret R (pc + 3) lv (rest) μ o2) : Zw g Λ en own cc nL ret R (pc) lv (.int y :: .int x :: rest) μ (if x ≤ y then o1 else o2) := by
  intro hI r μ2 ho p e s m args below meth c H locs ls C hP hS hl
  exact lv_icmp_le C.1 C.2.1 hdg ht (fun h => kt h hI r μ2 (by rw [if_pos h] at ho; exact ho) p e s m args below meth c H locs ls C hP hS hl) (fun h => kf h hI r μ2 (by rw [if_neg h] at ho; exact ho) p e s m args below meth c H locs ls C hP hS hl)
theorem z_icmp_le_y {x y : Int32} {off : Int} {tgt : Nat} (hdg : decode cc pc = .ok (.if_icmp .le off, 3)) (ht : (pc : Int) + off = (tgt : Int)) (hc : x ≤ y) (k : Zw g Λ en own cc nL ret R (tgt) lv (rest) μ o) : Zw g Λ en own cc nL ret R (pc) lv (.int y :: .int x :: rest) μ o := by
  intro hI r μ2 ho p e s m args below meth c H locs ls C hP hS hl
  exact lv_icmp_le C.1 C.2.1 hdg ht (fun _ => k hI r μ2 ho p e s m args below meth c H locs ls C hP hS hl) (fun h => absurd hc h)
theorem z_icmp_le_x {x y : Int32} {off : Int} {tgt : Nat} (hdg : decode cc pc = .ok (.if_icmp .le off, 3)) (ht : (pc : Int) + off = (tgt : Int)) (hc : ¬ (x ≤ y)) (k : Zw g Λ en own cc nL ret R (pc + 3) lv (rest) μ o) : Zw g Λ en own cc nL ret R (pc) lv (.int y :: .int x :: rest) μ o := by
  intro hI r μ2 ho p e s m args below meth c H locs ls C hP hS hl
  exact lv_icmp_le C.1 C.2.1 hdg ht (fun h => absurd h hc) (fun _ => k hI r μ2 ho p e s m args below meth c H locs ls C hP hS hl)
theorem z_lcmp_eq {x y : Int64} {off : Int} {tgt : Nat} (hdg : decode cc pc = .ok (.lcmp, 1)) (hdg2 : decode cc (pc + 1) = .ok (.ifCond .eq off, 3)) (ht : ((pc + 1 : Nat) : Int) + off = (tgt : Int)) (kt : x = y → Zw g Λ en own cc nL ret R (tgt) lv (rest) μ o1) (kf : ¬ (x = y) → Zw g Λ en own cc nL ret R (pc + 4) lv (rest) μ o2) : Zw g Λ en own cc nL ret R (pc) lv (.long y :: .long x :: rest) μ (if x = y then o1 else o2) := by
  intro hI r μ2 ho p e s m args below meth c H locs ls C hP hS hl
  exact W.lcmp C.1 C.2.1 hdg (lv_if_eq C.1 C.2.1 hdg2 ht (fun h => kt ((lg_cmp_eq x y).mp h) hI r μ2 (by rw [if_pos ((lg_cmp_eq x y).mp h)] at ho; exact ho) p e s m args below meth c H locs ls C hP hS hl) (fun h => kf (fun q => h ((lg_cmp_eq x y).mpr q)) hI r μ2 (by rw [if_neg (fun q => h ((lg_cmp_eq x y).mpr q))] at ho; exact ho) p e s m args below meth c H locs ls C hP hS hl))
theorem z_lcmp_ne {x y : Int64} {off : Int} {tgt : Nat} (hdg : decode cc pc = .ok (.lcmp, 1)) (hdg2 : decode cc (pc + 1) = .ok (.ifCond .ne off, 3)) (ht : ((pc + 1 : Nat) : Int) + off = (tgt : Int)) (kt : ¬ (x = y) → Zw g Λ en own cc nL ret R (tgt) lv (rest) μ o2) (kf : x = y → Zw g Λ en own cc nL ret R (pc + 4) lv (rest) μ o1) : Zw g Λ en own cc nL ret R (pc) lv (.long y :: .long x :: rest) μ (if x = y then o1 else o2) := by
  intro hI r μ2 ho p e s m args below meth c H locs ls C hP hS hl
  exact W.lcmp C.1 C.2.1 hdg (lv_if_ne C.1 C.2.1 hdg2 ht (fun h => kt (fun q => h ((lg_cmp_eq x y).mpr q)) hI r μ2 (by rw [if_neg (fun q => h ((lg_cmp_eq x y).mpr q))] at ho; exact ho) p e s m args below meth c H locs ls C hP hS hl) (fun h => kf ((lg_cmp_eq x y).mp h) hI r μ2 (by rw [if_pos ((lg_cmp_eq x y).mp h)] at ho; exact ho) p e s m args below meth c H locs ls C hP hS hl))
theorem z_lcmp_lt {x y : Int64} {off : Int} {tgt : Nat} (hdg : decode cc pc = .ok (.lcmp, 1)) (hdg2 : decode cc (pc + 1) = .ok (.ifCond .lt off, 3)) (ht : ((pc + 1 : Nat) : Int) + off = (tgt : Int)) (kt : x < y → Zw g Λ en own cc nL ret R (tgt) lv (rest) μ o1) (kf : ¬ (x < y) → Zw g Λ en own cc nL ret R (pc + 4) lv (rest) μ o2) : Zw g Λ en own cc nL ret R (pc) lv (.long y :: .long x :: rest) μ (if x < y then o1 else o2) := by
  intro hI r μ2 ho p e s m args below meth c H locs ls C hP hS hl
  exact W.lcmp C.1 C.2.1 hdg (lv_if_lt C.1 C.2.1 hdg2 ht (fun h => kt ((lg_cmp_lt x y).mp h) hI r μ2 (by rw [if_pos ((lg_cmp_lt x y).mp h)] at ho; exact ho) p e s m args below meth c H locs ls C hP hS hl) (fun h => kf (fun q => h ((lg_cmp_lt x y).mpr q)) hI r μ2 (by rw [if_neg (fun q => h ((lg_cmp_lt x y).mpr q))] at ho; exact ho) p e s m args below meth c H locs ls C hP hS hl))
theorem z_lcmp_ge {x y : Int64} {off : Int} {tgt : Nat} (hdg : decode cc pc = .ok (.lcmp, 1)) (hdg2 : decode cc (pc + 1) = .ok (.ifCond .ge off, 3)) (ht : ((pc + 1 : Nat) : Int) + off = (tgt : Int)) (kt : y ≤ x → Zw g Λ en own cc nL ret R (tgt) lv (rest) μ o1) (kf : ¬ (y ≤ x) → Zw g Λ en own cc nL ret R (pc + 4) lv (rest) μ o2) : Zw g Λ en own cc nL ret R (pc) lv (.long y :: .long x :: rest) μ (if y ≤ x then o1 else o2) := by
  intro hI r μ2 ho p e s m args below meth c H locs ls C hP hS hl
  exact W.lcmp C.1 C.2.1 hdg (lv_if_ge C.1 C.2.1 hdg2 ht (fun h => kt ((lg_cmp_ge x y).mp h) hI r μ2 (by rw [if_pos ((lg_cmp_ge x y).mp h)] at ho; exact ho) p e s m args below meth c H locs ls C hP hS hl) (fun h => kf (fun q => h ((lg_cmp_ge x y).mpr q)) hI r μ2 (by rw [if_neg (fun q => h ((lg_cmp_ge x y).mpr q))] at ho; exact ho) p e s m args below meth c H locs ls C hP hS hl))
theorem z_lcmp_gt {x y : Int64} {off : Int} {tgt : Nat} (hdg : decode cc pc = .ok (.lcmp, 1)) (hdg2 : decode cc (pc + 1) = .ok (.ifCond .gt off, 3)) (ht : ((pc + 1 : Nat) : Int) + off = (tgt : Int)) (kt : y < x → Zw g Λ en own cc nL ret R (tgt) lv (rest) μ o1) (kf : ¬ (y < x) → Zw g Λ en own cc nL ret R (pc + 4) lv (rest) μ o2) : Zw g Λ en own cc nL ret R (pc) lv (.long y :: .long x :: rest) μ (if y < x then o1 else o2) := by
  intro hI r μ2 ho p e s m args below meth c H locs ls C hP hS hl
  exact W.lcmp C.1 C.2.1 hdg (lv_if_gt C.1 C.2.1 hdg2 ht (fun h => kt ((lg_cmp_gt x y).mp h) hI r μ2 (by rw [if_pos ((lg_cmp_gt x y).mp h)] at ho; exact ho) p e s m args below meth c H locs ls C hP hS hl) (fun h => kf (fun q => h ((lg_cmp_gt x y).mpr q)) hI r μ2 (by rw [if_neg (fun q => h ((lg_cmp_gt x y).mpr q))] at ho; exact ho) p e s m args below meth c H locs ls C hP hS hl))
theorem z_lcmp_le {x y : Int64} {off : Int} {tgt : Nat} (hdg : decode cc pc = .ok (.lcmp, 1)) (hdg2 : decode cc (pc + 1) = .ok (.ifCond .le off, 3)) (ht : ((pc + 1 : Nat) : Int) + off = (tgt : Int)) (kt : x ≤ y → Zw g Λ en own cc nL ret R (tgt) lv (rest) μ o1) (kf : ¬ (x ≤ y) → Zw g Λ en own cc nL ret R (pc + 4) lv (rest) μ o2) : Zw g Λ en own cc nL ret R (pc) lv (.long y :: .long x :: rest) μ (if x ≤ y then o1 else o2) := by
  intro hI r μ2 ho p e s m args below meth c H locs ls C hP hS hl
  exact W.lcmp C.1 C.2.1 hdg (lv_if_le C.1 C.2.1 hdg2 ht (fun h => kt ((lg_cmp_le x y).mp h) hI r μ2 (by rw [if_pos ((lg_cmp_le x y).mp h)] at ho; exact ho) p e s m args below meth c H locs ls C hP hS hl) (fun h => kf (fun q => h ((lg_cmp_le x y).mpr q)) hI r μ2 (by rw [if_neg (fun q => h ((lg_cmp_le x y).mpr q))] at ho; exact ho) p e s m args below meth c H locs ls C hP hS hl))
theorem z_get {a ci ix N k : Nat} {C0 : String} {T : u_T} {ref nm ds : String} {v : Value} {x : Nat × Nat} (hw : Cond.fieldLink own ix ref nm ds ∈ zt) (hin : ∀ w ∈ u_ws C0 T N, w ∈ zt) (ha : a < Λ.1) (hk : Λ.2.1 a = (4, ci)) (hc : vwCl[ci]? = some (C0, T, N)) (hkN : k < N) (hT : T k = (ref, nm, ds, (T k).2.2.2)) (hx : (Λ.2.2.1 a)[k]? = some x) (hv : zF g μ a (x, k) = v) (hdg : decode cc pc = .ok (.getfield ix, 3)) (kk : Zw g Λ en own cc nL ret R (pc + 3) lv (v :: rest) μ o) : Zw g Λ en own cc nL ret R (pc) lv (.ref (g.2.2.1 a) :: rest) μ o := by
  intro hI r μ2 ho p e s m args below meth c H locs ls C hP hS hl
  have hq : Cond.fieldLink own ix (T k).1 (T k).2.1 (T k).2.2.1 ∈ zt := by rw [hT]; exact hw
  exact va_get C.1 C.2.1 (own := own) (ref := (T k).1) C.2.2.2.2.2.1 hin C.2.2.2.2.1 C.2.2.2.2.2.2.2.1 hP a (zW_of ha (zE_o hk)) hc k hkN (C.2.2.2.2.2.1 _ hq) (fun _ h => h) (by rw [zo_f hx, hv]) hdg (kk hI r μ2 ho p e s m args below meth c H locs ls C hP hS hl)
theorem z_puti {a ci ix N k : Nat} {C0 : String} {T : u_T} {ref nm ds : String} {v : Int32} {x : Nat × Nat} {ty : FieldType} (hw : Cond.fieldLink own ix ref nm ds ∈ zt) (hin : ∀ w ∈ u_ws C0 T N, w ∈ zt) (ty0 : Nat → FieldType) (hty : ∀ k, k < N → parseFieldDescriptor (T k).2.2.1 = some (ty0 k)) (hnm : ∀ a, a < N → ∀ b, b < N → a ≠ b → (T a).2.1 ≠ (T b).2.1) (ha : a < Λ.1) (hk : Λ.2.1 a = (4, ci)) (hc : vwCl[ci]? = some (C0, T, N)) (hkN : k < N) (hT : T k = (ref, nm, ds, false)) (hx : (Λ.2.2.1 a)[k]? = some (1, 0)) (hd : ty0 k = ty) (hfit : narrow ty (.int v) = .int v ∧ fits ty (.int v) = true) (hdg : decode cc pc = .ok (.putfield ix, 3)) (kk : Zw g Λ en own cc nL ret R (pc + 3) lv (rest) (si μ a k v) o) : Zw g Λ en own cc nL ret R (pc) lv (.int v :: .ref (g.2.2.1 a) :: rest) μ o := by
  intro hI r μ2 ho p e s m args below meth c H locs ls C hP hS hl
  have hq : Cond.fieldLink own ix (T k).1 (T k).2.1 (T k).2.2.1 ∈ zt := by rw [hT]; exact hw
  have hlen : k < ((Λ.2.2.1 a).zipIdx.map (zF g μ a)).length := by
    have := (List.getElem?_eq_some_iff.mp hx).1
    simpa using this
  refine va_put (D := g.2.1) (v := .int v) (ty := ty) C.1 C.2.1 (own := own) (ref := (T k).1) C.2.2.2.2.2.1 hin ty0 hty hnm C.2.2.2.2.1 C.2.2.2.2.2.2.2.1 hP (zD hI μ) hS a (zW_of ha (zE_o hk)) hc k hkN (C.2.2.2.2.2.1 _ hq) (fun _ h => h) (by rw [hT]) (by rw [← hd]; exact hty k hkN) hfit.1 hfit.2 hlen hdg (fun H1 locs1 hP1 _ hS1 => ?_)
  refine kk hI r μ2 ho p e s m args below meth c H1 locs1 ls C ?_ hS1 hl
  have hE : zE g Λ (si μ a k v) a = .inr (ci, ((Λ.2.2.1 a).zipIdx.map (zF g μ a)).set k (.int v)) := by
    rw [zE_o hk, zo_set (μ' := si μ a k v) hx]
    · simp [zF, si_at, upd]
    · intro y j hj
      unfold zF
      rw [si_at]; simp [upd, hj, si]
  rw [zW_set ha hE si_ne] at hP1
  exact hP1
theorem z_putj {a ci ix N k : Nat} {C0 : String} {T : u_T} {ref nm ds : String} {v : Int64} {x : Nat × Nat} {ty : FieldType} (hw : Cond.fieldLink own ix ref nm ds ∈ zt) (hin : ∀ w ∈ u_ws C0 T N, w ∈ zt) (ty0 : Nat → FieldType) (hty : ∀ k, k < N → parseFieldDescriptor (T k).2.2.1 = some (ty0 k)) (hnm : ∀ a, a < N → ∀ b, b < N → a ≠ b → (T a).2.1 ≠ (T b).2.1) (ha : a < Λ.1) (hk : Λ.2.1 a = (4, ci)) (hc : vwCl[ci]? = some (C0, T, N)) (hkN : k < N) (hT : T k = (ref, nm, ds, false)) (hx : (Λ.2.2.1 a)[k]? = some (2, 0)) (hd : ty0 k = ty) (hfit : narrow ty (.long v) = .long v ∧ fits ty (.long v) = true) (hdg : decode cc pc = .ok (.putfield ix, 3)) (kk : Zw g Λ en own cc nL ret R (pc + 3) lv (rest) (sj μ a k v) o) : Zw g Λ en own cc nL ret R (pc) lv (.long v :: .ref (g.2.2.1 a) :: rest) μ o := by
  intro hI r μ2 ho p e s m args below meth c H locs ls C hP hS hl
  have hq : Cond.fieldLink own ix (T k).1 (T k).2.1 (T k).2.2.1 ∈ zt := by rw [hT]; exact hw
  have hlen : k < ((Λ.2.2.1 a).zipIdx.map (zF g μ a)).length := by
    have := (List.getElem?_eq_some_iff.mp hx).1
    simpa using this
  refine va_put (D := g.2.1) (v := .long v) (ty := ty) C.1 C.2.1 (own := own) (ref := (T k).1) C.2.2.2.2.2.1 hin ty0 hty hnm C.2.2.2.2.1 C.2.2.2.2.2.2.2.1 hP (zD hI μ) hS a (zW_of ha (zE_o hk)) hc k hkN (C.2.2.2.2.2.1 _ hq) (fun _ h => h) (by rw [hT]) (by rw [← hd]; exact hty k hkN) hfit.1 hfit.2 hlen hdg (fun H1 locs1 hP1 _ hS1 => ?_)
  refine kk hI r μ2 ho p e s m args below meth c H1 locs1 ls C ?_ hS1 hl
  have hE : zE g Λ (sj μ a k v) a = .inr (ci, ((Λ.2.2.1 a).zipIdx.map (zF g μ a)).set k (.long v)) := by
    rw [zE_o hk, zo_set (μ' := sj μ a k v) hx]
    · simp [zF, sj_at, vp_updL]
    · intro y j hj
      unfold zF
      rw [sj_at]; simp [vp_updL, hj, sj]
  rw [zW_set ha hE sj_ne] at hP1
  exact hP1
theorem vp_in_dec_ok : True := trivial
theorem z_iaload_g {a n : Nat} {i : Int32} (ha : a < Λ.1) (hk : Λ.2.1 a = (0, n)) (hdg : decode cc pc = .ok (.iaload, 1)) (k : Zw g Λ en own cc nL ret R (pc + 1) lv (.int (μ.1 a i.toNatClampNeg) :: rest) μ o) : Zw g Λ en own cc nL ret R (pc) lv (.int i :: .ref (g.2.2.1 a) :: rest) μ (if zin i n then o else none) := by
  intro hI r μ2 ho p e s m args below meth c H locs ls C hP hS hl
  by_cases hg : zin i n
  · rw [if_pos hg] at ho
    exact va_iald C.1 C.2.1 C.2.2.2.2.2.2.2.1 hP a 1 (zW_of ha (zE_i hk)) rfl hg hdg (k hI r μ2 ho p e s m args below meth c H locs ls C hP hS hl)
  · rw [if_neg hg] at ho
    cases ho
theorem z_iaload {a n : Nat} {i : Int32} (ha : a < Λ.1) (hk : Λ.2.1 a = (0, n)) (hin : zin i n) (hdg : decode cc pc = .ok (.iaload, 1)) (k : Zw g Λ en own cc nL ret R (pc + 1) lv (.int (μ.1 a i.toNatClampNeg) :: rest) μ o) : Zw g Λ en own cc nL ret R (pc) lv (.int i :: .ref (g.2.2.1 a) :: rest) μ o := by
  intro hI r μ2 ho p e s m args below meth c H locs ls C hP hS hl
  exact va_iald C.1 C.2.1 C.2.2.2.2.2.2.2.1 hP a 1 (zW_of ha (zE_i hk)) rfl hin hdg (k hI r μ2 ho p e s m args below meth c H locs ls C hP hS hl)
theorem z_laload_g {a n : Nat} {i : Int32} (ha : a < Λ.1) (hk : Λ.2.1 a = (1, n)) (hdg : decode cc pc = .ok (.laload, 1)) (k : Zw g Λ en own cc nL ret R (pc + 1) lv (.long (μ.2 a i.toNatClampNeg) :: rest) μ o) : Zw g Λ en own cc nL ret R (pc) lv (.int i :: .ref (g.2.2.1 a) :: rest) μ (if zin i n then o else none) := by
  intro hI r μ2 ho p e s m args below meth c H locs ls C hP hS hl
  by_cases hg : zin i n
  · rw [if_pos hg] at ho
    exact va_lald C.1 C.2.1 C.2.2.2.2.2.2.2.1 hP a 2 (zW_of ha (zE_j hk)) rfl hg hdg (k hI r μ2 ho p e s m args below meth c H locs ls C hP hS hl)
  · rw [if_neg hg] at ho
    cases ho
theorem z_laload {a n : Nat} {i : Int32} (ha : a < Λ.1) (hk : Λ.2.1 a = (1, n)) (hin : zin i n) (hdg : decode cc pc = .ok (.laload, 1)) (k : Zw g Λ en own cc nL ret R (pc + 1) lv (.long (μ.2 a i.toNatClampNeg) :: rest) μ o) : Zw g Λ en own cc nL ret R (pc) lv (.int i :: .ref (g.2.2.1 a) :: rest) μ o := by
  intro hI r μ2 ho p e s m args below meth c H locs ls C hP hS hl
  exact va_lald C.1 C.2.1 C.2.2.2.2.2.2.2.1 hP a 2 (zW_of ha (zE_j hk)) rfl hin hdg (k hI r μ2 ho p e s m args below meth c H locs ls C hP hS hl)
theorem z_baload_g {a n : Nat} {i : Int32} (ha : a < Λ.1) (hk : Λ.2.1 a = (2, n)) (hdg : decode cc pc = .ok (.baload, 1)) (k : Zw g Λ en own cc nL ret R (pc + 1) lv (.int (μ.1 a i.toNatClampNeg) :: rest) μ o) : Zw g Λ en own cc nL ret R (pc) lv (.int i :: .ref (g.2.2.1 a) :: rest) μ (if zin i n then o else none) := by
  intro hI r μ2 ho p e s m args below meth c H locs ls C hP hS hl
  by_cases hg : zin i n
  · rw [if_pos hg] at ho
    exact va_bald C.1 C.2.1 C.2.2.2.2.2.2.2.1 hP a 0 (zW_of ha (zE_b hk)) rfl hg hdg (k hI r μ2 ho p e s m args below meth c H locs ls C hP hS hl)
  · rw [if_neg hg] at ho
    cases ho
theorem z_baload {a n : Nat} {i : Int32} (ha : a < Λ.1) (hk : Λ.2.1 a = (2, n)) (hin : zin i n) (hdg : decode cc pc = .ok (.baload, 1)) (k : Zw g Λ en own cc nL ret R (pc + 1) lv (.int (μ.1 a i.toNatClampNeg) :: rest) μ o) : Zw g Λ en own cc nL ret R (pc) lv (.int i :: .ref (g.2.2.1 a) :: rest) μ o := by
  intro hI r μ2 ho p e s m args below meth c H locs ls C hP hS hl
  exact va_bald C.1 C.2.1 C.2.2.2.2.2.2.2.1 hP a 0 (zW_of ha (zE_b hk)) rfl hin hdg (k hI r μ2 ho p e s m args below meth c H locs ls C hP hS hl)
theorem z_iastore {a n : Nat} {i : Int32} {x : Int32} (ha : a < Λ.1) (hk : Λ.2.1 a = (0, n)) (hin : zin i n) (hdg : decode cc pc = .ok (.iastore, 1)) (kk : Zw g Λ en own cc nL ret R (pc + 1) lv (rest) (si μ a i.toNatClampNeg x) o) : Zw g Λ en own cc nL ret R (pc) lv (.int x :: .int i :: .ref (g.2.2.1 a) :: rest) μ o := by
  intro hI r μ2 ho p e s m args below meth c H locs ls C hP hS hl
  refine va_iast C.1 C.2.1 C.2.2.2.2.2.2.2.1 hP (zD hI μ) hS a 1 (zW_of ha (zE_i hk)) rfl hin hdg (fun H1 locs1 hP1 _ hS1 => ?_)
  refine kk hI r μ2 ho p e s m args below meth c H1 locs1 ls C ?_ hS1 hl
  rw [zW_set ha (by rw [zE_i hk, si_at]) si_ne] at hP1
  exact hP1
theorem z_iastore_g {a n : Nat} {i : Int32} {x : Int32} (ha : a < Λ.1) (hk : Λ.2.1 a = (0, n)) (hdg : decode cc pc = .ok (.iastore, 1)) (kk : Zw g Λ en own cc nL ret R (pc + 1) lv (rest) (si μ a i.toNatClampNeg x) o) : Zw g Λ en own cc nL ret R (pc) lv (.int x :: .int i :: .ref (g.2.2.1 a) :: rest) μ (if zin i n then o else none) := by
  intro hI r μ2 ho p e s m args below meth c H locs ls C hP hS hl
  by_cases hin : zin i n
  · rw [if_pos hin] at ho
    refine va_iast C.1 C.2.1 C.2.2.2.2.2.2.2.1 hP (zD hI μ) hS a 1 (zW_of ha (zE_i hk)) rfl hin hdg (fun H1 locs1 hP1 _ hS1 => ?_)
    refine kk hI r μ2 ho p e s m args below meth c H1 locs1 ls C ?_ hS1 hl
    rw [zW_set ha (by rw [zE_i hk, si_at]) si_ne] at hP1
    exact hP1
  · rw [if_neg hin] at ho
    cases ho
theorem z_lastore {a n : Nat} {i : Int32} {x : Int64} (ha : a < Λ.1) (hk : Λ.2.1 a = (1, n)) (hin : zin i n) (hdg : decode cc pc = .ok (.lastore, 1)) (kk : Zw g Λ en own cc nL ret R (pc + 1) lv (rest) (sj μ a i.toNatClampNeg x) o) : Zw g Λ en own cc nL ret R (pc) lv (.long x :: .int i :: .ref (g.2.2.1 a) :: rest) μ o := by
  intro hI r μ2 ho p e s m args below meth c H locs ls C hP hS hl
  refine va_last C.1 C.2.1 C.2.2.2.2.2.2.2.1 hP (zD hI μ) hS a 2 (zW_of ha (zE_j hk)) rfl hin hdg (fun H1 locs1 hP1 _ hS1 => ?_)
  refine kk hI r μ2 ho p e s m args below meth c H1 locs1 ls C ?_ hS1 hl
  rw [zW_set ha (by rw [zE_j hk, sj_at]) sj_ne] at hP1
  exact hP1
theorem z_lastore_g {a n : Nat} {i : Int32} {x : Int64} (ha : a < Λ.1) (hk : Λ.2.1 a = (1, n)) (hdg : decode cc pc = .ok (.lastore, 1)) (kk : Zw g Λ en own cc nL ret R (pc + 1) lv (rest) (sj μ a i.toNatClampNeg x) o) : Zw g Λ en own cc nL ret R (pc) lv (.long x :: .int i :: .ref (g.2.2.1 a) :: rest) μ (if zin i n then o else none) := by
  intro hI r μ2 ho p e s m args below meth c H locs ls C hP hS hl
  by_cases hin : zin i n
  · rw [if_pos hin] at ho
    refine va_last C.1 C.2.1 C.2.2.2.2.2.2.2.1 hP (zD hI μ) hS a 2 (zW_of ha (zE_j hk)) rfl hin hdg (fun H1 locs1 hP1 _ hS1 => ?_)
    refine kk hI r μ2 ho p e s m args below meth c H1 locs1 ls C ?_ hS1 hl
    rw [zW_set ha (by rw [zE_j hk, sj_at]) sj_ne] at hP1
    exact hP1
  · rw [if_neg hin] at ho
    cases ho
theorem z_bastore {a n : Nat} {i : Int32} {x : Int32} (ha : a < Λ.1) (hk : Λ.2.1 a = (2, n)) (hin : zin i n) (hdg : decode cc pc = .ok (.bastore, 1)) (kk : Zw g Λ en own cc nL ret R (pc + 1) lv (rest) (si μ a i.toNatClampNeg (vp_nar .byte x)) o) : Zw g Λ en own cc nL ret R (pc) lv (.int x :: .int i :: .ref (g.2.2.1 a) :: rest) μ o := by
  intro hI r μ2 ho p e s m args below meth c H locs ls C hP hS hl
  refine va_bast C.1 C.2.1 C.2.2.2.2.2.2.2.1 hP (zD hI μ) hS a 0 (zW_of ha (zE_b hk)) rfl hin hdg (fun H1 locs1 hP1 _ hS1 => ?_)
  refine kk hI r μ2 ho p e s m args below meth c H1 locs1 ls C ?_ hS1 hl
  rw [zW_set ha (by rw [zE_b hk, si_at]) si_ne] at hP1
  exact hP1
theorem z_bastore_g {a n : Nat} {i : Int32} {x : Int32} (ha : a < Λ.1) (hk : Λ.2.1 a = (2, n)) (hdg : decode cc pc = .ok (.bastore, 1)) (kk : Zw g Λ en own cc nL ret R (pc + 1) lv (rest) (si μ a i.toNatClampNeg (vp_nar .byte x)) o) : Zw g Λ en own cc nL ret R (pc) lv (.int x :: .int i :: .ref (g.2.2.1 a) :: rest) μ (if zin i n then o else none) := by
  intro hI r μ2 ho p e s m args below meth c H locs ls C hP hS hl
  by_cases hin : zin i n
  · rw [if_pos hin] at ho
    refine va_bast C.1 C.2.1 C.2.2.2.2.2.2.2.1 hP (zD hI μ) hS a 0 (zW_of ha (zE_b hk)) rfl hin hdg (fun H1 locs1 hP1 _ hS1 => ?_)
    refine kk hI r μ2 ho p e s m args below meth c H1 locs1 ls C ?_ hS1 hl
    rw [zW_set ha (by rw [zE_b hk, si_at]) si_ne] at hP1
    exact hP1
  · rw [if_neg hin] at ho
    cases ho
theorem z_aaload_g {a n : Nat} {i : Int32} (ha : a < Λ.1) (hk : Λ.2.1 a = (3, n)) (hdg : decode cc pc = .ok (.aaload, 1)) (k : Zw g Λ en own cc nL ret R (pc + 1) lv (.ref (g.2.2.1 (Λ.2.2.2 a i.toNatClampNeg)) :: rest) μ o) : Zw g Λ en own cc nL ret R (pc) lv (.int i :: .ref (g.2.2.1 a) :: rest) μ (if zin i n then o else none) := by
  intro hI r μ2 ho p e s m args below meth c H locs ls C hP hS hl
  by_cases hg : zin i n
  · rw [if_pos hg] at ho
    exact va_aldq C.1 C.2.1 C.2.2.2.2.2.2.2.1 hP a 3 (zW_of ha (zE_r hk)) rfl hg hdg (k hI r μ2 ho p e s m args below meth c H locs ls C hP hS hl)
  · rw [if_neg hg] at ho
    cases ho
theorem z_alen_i {a n : Nat} {v : Int32} (ha : a < Λ.1) (hk : Λ.2.1 a = (0, n)) (hv : Int32.ofNat n = v) (hdg : decode cc pc = .ok (.arraylength, 1)) (k : Zw g Λ en own cc nL ret R (pc + 1) lv (.int v :: rest) μ o) : Zw g Λ en own cc nL ret R (pc) lv (.ref (g.2.2.1 a) :: rest) μ o := by
  intro hI r μ2 ho p e s m args below meth c H locs ls C hP hS hl
  exact va_alen (x := (n, .inl (μ.1 a))) C.1 C.2.1 C.2.2.2.2.2.2.2.1 hP a 1 (zW_of ha (zE_i hk)) rfl hv hdg (k hI r μ2 ho p e s m args below meth c H locs ls C hP hS hl)
theorem z_alen_j {a n : Nat} {v : Int32} (ha : a < Λ.1) (hk : Λ.2.1 a = (1, n)) (hv : Int32.ofNat n = v) (hdg : decode cc pc = .ok (.arraylength, 1)) (k : Zw g Λ en own cc nL ret R (pc + 1) lv (.int v :: rest) μ o) : Zw g Λ en own cc nL ret R (pc) lv (.ref (g.2.2.1 a) :: rest) μ o := by
  intro hI r μ2 ho p e s m args below meth c H locs ls C hP hS hl
  exact va_alen (x := (n, .inr (.inl (μ.2 a)))) C.1 C.2.1 C.2.2.2.2.2.2.2.1 hP a 2 (zW_of ha (zE_j hk)) rfl hv hdg (k hI r μ2 ho p e s m args below meth c H locs ls C hP hS hl)
theorem z_iret {v : Int32} (hdg : decode cc pc = .ok (.ireturn, 1)) : Zw g Λ enI own cc nL (some .int) R pc lv [.int v] μ (some (v, μ)) := by
  intro hI r μ2 ho p e s m args below meth c H locs ls C hP hS hl
  cases ho
  exact W.iret C.1 C.2.1 C.2.2.1 (fun t ht hW => ⟨rfl, by rw [ht]; exact hP, va_K.moved hW.alike C.2.2.2.2.2.2.2.1, hS.F ht⟩) hS.2.2 hdg C.2.2.2.2.2.2.1
theorem z_lret {v : Int64} (hdg : decode cc pc = .ok (.lreturn, 1)) : Zw g Λ enJ own cc nL (some .long) R pc lv [.long v] μ (some (v, μ)) := by
  intro hI r μ2 ho p e s m args below meth c H locs ls C hP hS hl
  cases ho
  exact W.lret C.1 C.2.1 C.2.2.1 (fun t ht hW => ⟨rfl, by rw [ht]; exact hP, va_K.moved hW.alike C.2.2.2.2.2.2.2.1, hS.F ht⟩) hS.2.2 hdg C.2.2.2.2.2.2.1
theorem z_vret (hdg : decode cc pc = .ok (.return_, 1)) : Zw g Λ enV own cc nL none R pc lv [] μ (some ((), μ)) := by
  intro hI r μ2 ho p e s m args below meth c H locs ls C hP hS hl
  cases ho
  exact W.vret C.1 C.2.1 C.2.2.1 (fun t ht hW => ⟨rfl, by rw [ht]; exact hP, va_K.moved hW.alike C.2.2.2.2.2.2.2.1, hS.F ht⟩) hS.2.2 hdg C.2.2.2.2.2.2.1
theorem zb_n {v : Int32} (h : v = 0 ∨ v = 1) : narrow .boolean (.int v) = .int v ∧ fits .boolean (.int v) = true := by
  rcases h with rfl | rfl <;> decide +kernel
theorem z_zret {v : Int32} (hdg : decode cc pc = .ok (.ireturn, 1)) (hv : v = 0 ∨ v = 1) : Zw g Λ enI own cc nL (some .boolean) R pc lv [.int v] μ (some (v, μ)) := by
  intro hI r μ2 ho p e s m args below meth c H locs ls C hP hS hl
  cases ho
  exact W.zret C.1 C.2.1 C.2.2.1 (zb_n hv).1 (fun t ht hW => ⟨rfl, by rw [ht]; exact hP, va_K.moved hW.alike C.2.2.2.2.2.2.2.1, hS.F ht⟩) hS.2.2 hdg C.2.2.2.2.2.2.1
theorem z_zret_g {v : Int32} (hdg : decode cc pc = .ok (.ireturn, 1)) : Zw g Λ enI own cc nL (some .boolean) R pc lv [.int v] μ (if v = 0 ∨ v = 1 then some (v, μ) else none) := by
  by_cases h : v = 0 ∨ v = 1
  · rw [if_pos h]
    exact z_zret hdg h
  · rw [if_neg h]
    exact z_none
end Z1
theorem zB.blind {g : Gx} {Λ : Ly} {μ : Mm} {As : List Value} : FrameBlind (va_Pc As (zB g Λ μ)) := fun a U gf mk q => by
  obtain ⟨q0, qP, qK, qN⟩ := q
  exact ⟨q0, qP, va_K.moved (u := U) (U := U.calling gf mk a) (Vm.Alike.refl U.vm) qK, zNs.same (u := U) (U := U.calling gf mk a) rfl qN⟩
theorem z_met {α : Type} {g : Gx} {Λ : Ly} {en : α → Option Value} {y : MethodName} {cc : ByteArray} {nL : Nat} {ret : Option FieldType} {rm : Room} {As : List Value} {μ : Mm} {o : Option (α × Mm)} (hy : plainName y.cls = true) (hn : (lg_sl As).length ≤ nL)
    (k : Zw g Λ en y.cls cc nL ret rm 0 (lv_args 0 As) [] μ o) : Zm g Λ en y cc nL ret rm As μ o := by
  intro hI r μ2 ho
  refine Met.ofW (cc := cc) (maxL := nL) (ret := ret) hy rfl ?_
  intro p e s m args below meth c s₁ B hml hv
  obtain ⟨rfl, hP, hK, hN⟩ := hv
  have hts := atoms_spec (ws := Cond.code y cc nL ret :: zt) B.pre
  have hown : s.vm.findClass y.cls = some m.cls := findClass_of_methodNamed B.named
  have hl := lv_entry As (n := nL) hn
  rw [lg_entry_eq]
  exact k hI r μ2 ho p e s m As.toArray below meth c s.heap [] _ ⟨B.exec, B.bytes, B.returns, hml, hown, fun w hw => hts w (List.mem_cons_of_mem _ hw), B.notSynchronized, hK, hN⟩ hP va_S.rf hl
theorem z_run {p : Program} {e : Env} {R : Room} {s : State} {m : MethodId} {args : Array Value} {below : List Frame} {meth : Method} {c : Code} {H : Heap} {locs : List Loc} {Q : State → Prop} {g : Gx} {Λ : Ly} {pc : Nat} {ls : Array Slot} {st0 rest : List Value} {rv : Option Value} {μ1 : Mm} {a : Array Value}
    (hr : va_Run p g.1 e R s m args below meth c H locs 0 0 0 0 (F0 m pc ls st0) rest (zQ g Λ rv μ1 a) (zA g Λ)) (hS : va_S (zA g Λ) s.heap H locs)
    (kk : ∀ (H1 : Heap) (locs1 : List Loc), va_P g.2.1 vwCl (zW g Λ μ1) H1 → va_S (zA g Λ) s.heap H1 locs1 → W p g.1 e R s m args below meth c H1 locs1 0 0 Q (F0 m (pc + 3) ls (rv.toList ++ rest))) : W p g.1 e R s m args below meth c H locs 0 0 Q (F0 m pc ls st0) := by
  intro T hT X
  obtain ⟨v, st₀, t, T', L, h0, X', hL, e1, e2, ⟨hv, hP, hK, hz, hk⟩, st⟩ := hr T hT X
  cases hv
  rw [h0] at hz hk
  obtain ⟨t2, a1, b1⟩ := kk T'.heap (locs ++ L) (by rw [e1]; exact hP)
    ⟨Nat.le_trans hS.1 (by rw [e1]; exact hz), fun q h1 h2 => by rw [e1, hk q (Nat.lt_of_lt_of_le h1 hS.1) h2]; exact hS.2.1 q h1 h2, fun q hq => by
      rcases List.mem_append.mp hq with h | h
      · exact hS.2.2 q h
      · exact hL q h⟩ T' rfl X'
  exact ⟨t2, st t2 a1, b1⟩
def ZcB (own : String) (ix : Nat) (y : MethodName) (bytes : ByteArray) (maxL : Nat) (retb : Option FieldType) (n : Nat) : Prop :=
  Cond.code y bytes maxL retb ∈ zt ∧ Cond.initialized y.cls ∈ zt ∧ y.cls ≠ "java/lang/invoke/MethodHandle" ∧ y.cls ≠ "java/lang/invoke/VarHandle" ∧ (parseMethodDescriptor y.desc).map (fun d => d.parameters.length) = some n
def ZcV (own : String) (ix : Nat) (y : MethodName) (bytes : ByteArray) (maxL : Nat) (retb : Option FieldType) (n : Nat) : Prop :=
  ZcB own ix y bytes maxL retb n ∧ Cond.methodLink own ix y ∈ zt ∧ Cond.instanceMethod y ∈ zt ∧ Cond.selects y.cls y y ∈ zt
def ZcS (own : String) (ix : Nat) (y : MethodName) (bytes : ByteArray) (maxL : Nat) (retb : Option FieldType) (n : Nat) : Prop :=
  ZcB own ix y bytes maxL retb n ∧ Cond.methodLink own ix y ∈ zt ∧ Cond.static y ∈ zt
def ZcSN (own : String) (ix : Nat) (y : MethodName) (bytes : ByteArray) (maxL : Nat) (retb : Option FieldType) (n : Nat) (host : String) : Prop :=
  ZcB own ix y bytes maxL retb n ∧ Cond.methodLinkNest own ix y host ∈ lw_tbl ∧ Cond.static y ∈ zt
section Z2
variable {α β : Type} {g : Gx} {Λ : Ly} {en : α → Option Value} {enb : β → Option Value} {own : String} {cc bytes : ByteArray} {nL maxL n ix : Nat} {ret retb : Option FieldType} {R rm : Room} {pc : Nat} {lv : List (Nat × Value)} {st0 rest As : List Value} {μ : Mm} {ob : Option (β × Mm)} {y : MethodName} {k : β → Mm → Option (α × Mm)}
theorem zCB {p : Program} {s : State} {m : MethodId} {args : Array Value} {meth : Method} {c : Code} (C : zC g own cc nL ret p s m args meth c) (hc : ZcB own ix y bytes maxL retb n) (hl : Cond.methodLink own ix y ∈ zt) (hrm : rm.cells = 0 ∧ rm.slots = 0) (hR : rm.frames + 1 ≤ R.frames ∧ 8 + (maxL + 11) + rm.locals ≤ R.locals) : CallB R s args own ix y bytes maxL retb (Cond.code y bytes maxL retb :: zt) rm 0 0 n :=
  callB_of n C.2.2.2.2.2.1 (zG hc.1) rfl hrm.1 hrm.2 (C.2.2.2.2.2.1 _ hc.2.1) (C.2.2.2.2.2.1 _ hl) ⟨hc.2.2.1, hc.2.2.2.1, hc.2.2.2.2⟩ hR
theorem zPre {p : Program} {s : State} {m : MethodId} {args : Array Value} {meth : Method} {c : Code} {H : Heap} (C : zC g own cc nL ret p s m args meth c) (hP : va_P g.2.1 vwCl (zW g Λ μ) H) (U : State) (hU : U.heap = H) (hW : s.WarmedH U.vm) (As : List Value) : va_Pc As (zB g Λ μ) As.toArray U :=
  ⟨rfl, by rw [hU]; exact hP, va_K.moved hW.alike C.2.2.2.2.2.2.2.1, zNs.warm hW C.2.2.2.2.2.2.2.2⟩
theorem z_callV {b ci : Nat} {q : vw_C} (hc : ZcV own ix y bytes maxL retb n) (hM : Zm g Λ enb y bytes maxL retb rm (.ref (g.2.2.1 b) :: As) μ ob) (hb : b < Λ.1) (hk : Λ.2.1 b = (4, ci)) (hq : vwCl[ci]? = some q) (hq1 : q.1 = y.cls)
    (hrm : rm.cells = 0 ∧ rm.slots = 0) (hR : rm.frames + 1 ≤ R.frames ∧ 8 + (maxL + 11) + rm.locals ≤ R.locals) (hroom : (rest.map fun v => v.category).sum ≤ 8) (hst : st0 = As.reverse ++ .ref (g.2.2.1 b) :: rest) (hn : As.length = n) (hdg : decode cc pc = .ok (.invokevirtual ix, 3))
    (kk : ∀ (r : β) (μ1 : Mm), Zw g Λ en own cc nL ret R (pc + 3) lv ((enb r).toList ++ rest) μ1 (k r μ1)) : Zw g Λ en own cc nL ret R pc lv st0 μ (bd ob k) := by
  intro hI r μ2 ho p e s m args below meth c H locs ls C hP hS hl
  cases hob : ob with
  | none => rw [hob] at ho; cases ho
  | some z =>
    obtain ⟨r1, μ1⟩ := z
    rw [hob] at ho
    have ho : k r1 μ1 = some (r, μ2) := ho
    have hMt := hM hI r1 μ1 hob
    have hcell := va_recv C.2.2.2.2.2.2.2.1 hP (ci := ci) (q := q) hq (zW_of hb (zE_o hk))
    rw [hq1] at hcell
    refine z_run (va_runV (As := As) (rest := rest) (b := g.2.2.1 b) (C := y.cls) ⟨C.1, C.2.1, C.2.2.2.1, C.2.2.2.2.1, C.2.2.2.2.2.1⟩ hMt ⟨zCB C hc.1 hc.2.1 hrm hR, C.2.2.2.2.2.1 _ hc.2.2.1, C.2.2.2.2.2.1 _ hc.2.2.2⟩ ⟨zB.blind, hcell, fun U hU hW => zPre C hP U hU hW _⟩ rfl hn hl.1 hst (lv_room hroom) hdg ⟨Nat.zero_le _, Nat.zero_le _⟩) hS (fun H1 locs1 hP1 hS1 => ?_)
    exact kk r1 μ1 hI r μ2 ho p e s m args below meth c H1 locs1 ls C hP1 hS1 hl
theorem z_callS (hc : ZcS own ix y bytes maxL retb n) (hM : Zm g Λ enb y bytes maxL retb rm As μ ob)
    (hrm : rm.cells = 0 ∧ rm.slots = 0) (hR : rm.frames + 1 ≤ R.frames ∧ 8 + (maxL + 11) + rm.locals ≤ R.locals) (hroom : (rest.map fun v => v.category).sum ≤ 8) (hst : st0 = As.reverse ++ rest) (hn : As.length = n) (hdg : decode cc pc = .ok (.invokestatic ix, 3))
    (kk : ∀ (r : β) (μ1 : Mm), Zw g Λ en own cc nL ret R (pc + 3) lv ((enb r).toList ++ rest) μ1 (k r μ1)) : Zw g Λ en own cc nL ret R pc lv st0 μ (bd ob k) := by
  intro hI r μ2 ho p e s m args below meth c H locs ls C hP hS hl
  cases hob : ob with
  | none => rw [hob] at ho; cases ho
  | some z =>
    obtain ⟨r1, μ1⟩ := z
    rw [hob] at ho
    have ho : k r1 μ1 = some (r, μ2) := ho
    have hMt := hM hI r1 μ1 hob
    refine z_run (va_runS (As := As) (rest := rest) ⟨C.1, C.2.1, C.2.2.2.1, C.2.2.2.2.1, C.2.2.2.2.2.1⟩ hMt ⟨zCB C hc.1 hc.2.1 hrm hR, C.2.2.2.2.2.1 _ hc.2.2⟩ ⟨zB.blind, fun U hU hW => zPre C hP U hU hW _⟩ rfl hn hl.1 hst (lv_room hroom) hdg ⟨Nat.zero_le _, Nat.zero_le _⟩) hS (fun H1 locs1 hP1 hS1 => ?_)
    exact kk r1 μ1 hI r μ2 ho p e s m args below meth c H1 locs1 ls C hP1 hS1 hl
theorem z_callSN {host : String} (hc : ZcSN own ix y bytes maxL retb n host) (hM : Zm g Λ enb y bytes maxL retb rm As μ ob)
    (hrm : rm.cells = 0 ∧ rm.slots = 0) (hR : rm.frames + 1 ≤ R.frames ∧ 8 + (maxL + 11) + rm.locals ≤ R.locals) (hroom : (rest.map fun v => v.category).sum ≤ 8) (hst : st0 = As.reverse ++ rest) (hn : As.length = n) (hdg : decode cc pc = .ok (.invokestatic ix, 3))
    (kk : ∀ (r : β) (μ1 : Mm), Zw g Λ en own cc nL ret R (pc + 3) lv ((enb r).toList ++ rest) μ1 (k r μ1)) : Zw g Λ en own cc nL ret R pc lv st0 μ (bd ob k) := by
  intro hI r μ2 ho p e s m args below meth c H locs ls C hP hS hl
  cases hob : ob with
  | none => rw [hob] at ho; cases ho
  | some z =>
    obtain ⟨r1, μ1⟩ := z
    rw [hob] at ho
    have ho : k r1 μ1 = some (r, μ2) := ho
    have hMt := hM hI r1 μ1 hob
    have cn : va_CN R s args own ix y host bytes maxL retb (Cond.code y bytes maxL retb :: zt) rm 0 0 n := va_cnB n C.2.2.2.2.2.1 (zG hc.1.1) rfl hrm.1 hrm.2 (C.2.2.2.2.2.2.2.2 _ hc.2.1 rfl) (C.2.2.2.2.2.1 _ hc.1.2.1) ⟨hc.1.2.2.1, hc.1.2.2.2.1, hc.1.2.2.2.2⟩ hR
    refine z_run (va_runSN (As := As) (rest := rest) ⟨C.1, C.2.1, C.2.2.2.1, C.2.2.2.2.1, C.2.2.2.2.2.1⟩ hMt ⟨cn, C.2.2.2.2.2.1 _ hc.2.2, trivial⟩ ⟨zB.blind, fun U hU hW => zPre C hP U hU hW _⟩ rfl hn hl.1 hst (lv_room hroom) hdg ⟨Nat.zero_le _, Nat.zero_le _⟩) hS (fun H1 locs1 hP1 hS1 => ?_)
    exact kk r1 μ1 hI r μ2 ho p e s m args below meth c H1 locs1 ls C hP1 hS1 hl
end Z2
section Z3
variable {α : Type} {g : Gx} {Λ : Ly} {en : α → Option Value} {own : String} {cc : ByteArray} {nL ix : Nat} {ret : Option FieldType} {R : Room} {pc : Nat} {lv : List (Nat × Value)} {rest : List Value} {μ : Mm} {o : Option (α × Mm)}
theorem z_min {x y : Int32} (hw : Cond.methodLink own ix Lib.Math.min.name ∈ zt ∧ Cond.static Lib.Math.min.name ∈ zt ∧ Cond.initialized "java/lang/Math" ∈ zt ∧ Cond.code Lib.Math.min.name Lib.Math.min.code 2 (some .int) ∈ zt) (hf : 1 ≤ R.frames) (hlo : 21 ≤ R.locals) (hroom : (rest.map fun v => v.category).sum ≤ 8) (hdg : decode cc pc = .ok (.invokestatic ix, 3))
    (kk : Zw g Λ en own cc nL ret R (pc + 3) lv (.int (if y < x then y else x) :: rest) μ o) : Zw g Λ en own cc nL ret R pc lv (.int y :: .int x :: rest) μ o := by
  intro hI r μ2 ho p e s m args below meth c H locs ls C hP hS hl
  exact va_mmin C.1 C.2.1 (by rw [hl.1]; exact C.2.2.2.1) C.2.2.2.2.1 (C.2.2.2.2.2.1 _ hw.1) (C.2.2.2.2.2.1 _ hw.2.1) (C.2.2.2.2.2.1 _ hw.2.2.1) (C.2.2.2.2.2.1 _ hw.2.2.2) hf (by omega) (Nat.zero_le _) (Nat.zero_le _) hdg (kk hI r μ2 ho p e s m args below meth c H locs ls C hP hS hl)
theorem z_maxl {x y : Int64} (hw : Cond.methodLink own ix Lib.MathLoose.max_long.x ∈ zt ∧ Cond.static Lib.MathLoose.max_long.x ∈ zt ∧ Cond.initialized "java/lang/Math" ∈ zt ∧ Cond.code Lib.MathLoose.max_long.x Lib.MathLoose.max_long.code 4 (some .long) ∈ zt) (hf : 1 ≤ R.frames) (hlo : 23 ≤ R.locals) (hroom : (rest.map fun v => v.category).sum ≤ 8) (hdg : decode cc pc = .ok (.invokestatic ix, 3))
    (kk : Zw g Λ en own cc nL ret R (pc + 3) lv (.long (if y < x then x else y) :: rest) μ o) : Zw g Λ en own cc nL ret R pc lv (.long y :: .long x :: rest) μ o := by
  intro hI r μ2 ho p e s m args below meth c H locs ls C hP hS hl
  exact va_mmax_long C.1 C.2.1 (by rw [hl.1]; exact C.2.2.2.1) C.2.2.2.2.1 (C.2.2.2.2.2.1 _ hw.1) (C.2.2.2.2.2.1 _ hw.2.1) (C.2.2.2.2.2.1 _ hw.2.2.1) (C.2.2.2.2.2.1 _ hw.2.2.2) hf (by omega) (Nat.zero_le _) (Nat.zero_le _) hdg (kk hI r μ2 ho p e s m args below meth c H locs ls C hP hS hl)
theorem z_copy {a b n0 n1 : Nat} {sp dp n : Int32} (hw : Cond.methodLink own ix arraycopyName ∈ zt ∧ Cond.native arraycopyName ∈ zt ∧ Cond.static arraycopyName ∈ zt ∧ Cond.initialized "java/lang/System" ∈ zt) (ha : a < Λ.1) (hka : Λ.2.1 a = (0, n0)) (hb : b < Λ.1) (hkb : Λ.2.1 b = (0, n1)) (hf : 1 ≤ R.frames) (hlo : 8 + (nativeFrameWords "java/lang/System" "arraycopy" 5 + 11) ≤ R.locals) (hroom : (rest.map fun v => v.category).sum ≤ 8) (hdg : decode cc pc = .ok (.invokestatic ix, 3))
    (kk : Zw g Λ en own cc nL ret R (pc + 3) lv rest (sc μ a b sp.toNatClampNeg dp.toNatClampNeg n.toNatClampNeg) o) : Zw g Λ en own cc nL ret R pc lv (.int n :: .int dp :: .ref (g.2.2.1 b) :: .int sp :: .ref (g.2.2.1 a) :: rest) μ (if ¬ sp < 0 ∧ ¬ dp < 0 ∧ ¬ n < 0 ∧ sp.toNatClampNeg + n.toNatClampNeg ≤ n0 ∧ dp.toNatClampNeg + n.toNatClampNeg ≤ n1 then o else none) := by
  intro hI r μ2 ho p e s m args below meth c H locs ls C hP hS hl
  by_cases hg : ¬ sp < 0 ∧ ¬ dp < 0 ∧ ¬ n < 0 ∧ sp.toNatClampNeg + n.toNatClampNeg ≤ n0 ∧ dp.toNatClampNeg + n.toNatClampNeg ≤ n1
  · rw [if_pos hg] at ho
    refine va_copyi C.1 C.2.1 (by rw [hl.1]; exact C.2.2.2.1) C.2.2.2.2.1 (C.2.2.2.2.2.1 _ hw.1) (C.2.2.2.2.2.1 _ hw.2.1) (C.2.2.2.2.2.1 _ hw.2.2.1) (C.2.2.2.2.2.1 _ hw.2.2.2) C.2.2.2.2.2.2.2.1 hP (zD hI μ) hS a b 1 1 (zW_of ha (zE_i hka)) (zW_of hb (zE_i hkb)) rfl rfl rfl hg.1 hg.2.1 hg.2.2.1 hg.2.2.2.1 hg.2.2.2.2 (fun _ _ => rfl) hf (by omega) hdg (fun H1 locs1 hP1 _ hS1 => ?_)
    refine kk hI r μ2 ho p e s m args below meth c H1 locs1 ls C ?_ hS1 hl
    rw [zW_set hb (by rw [zE_i hkb, sc_at]) sc_ne] at hP1
    exact hP1
  · rw [if_neg hg] at ho
    cases ho
theorem z_tabIn {dflt lo hi : Int} {offs : Array Int} {len : Nat} {x : Int32} {off : Int} {tgt : Nat} (hdg : decode cc pc = .ok (.tableswitch dflt lo hi offs, len)) (h1 : ¬ x.toInt < lo) (h2 : ¬ hi < x.toInt) (ho1 : offs[(x.toInt - lo).toNat]? = some off) (ht : (pc : Int) + off = (tgt : Int)) (k : Zw g Λ en own cc nL ret R tgt lv rest μ o) : Zw g Λ en own cc nL ret R pc lv (.int x :: rest) μ o := by
  intro hI r μ2 ho p e s m args below meth c H locs ls C hP hS hl
  exact lv_tableIn C.1 C.2.1 hdg h1 h2 ho1 ht (k hI r μ2 ho p e s m args below meth c H locs ls C hP hS hl)
theorem z_tabOut {dflt lo hi : Int} {offs : Array Int} {len : Nat} {x : Int32} {tgt : Nat} (hdg : decode cc pc = .ok (.tableswitch dflt lo hi offs, len)) (h : x.toInt < lo ∨ hi < x.toInt) (ht : (pc : Int) + dflt = (tgt : Int)) (k : Zw g Λ en own cc nL ret R tgt lv rest μ o) : Zw g Λ en own cc nL ret R pc lv (.int x :: rest) μ o := by
  intro hI r μ2 ho p e s m args below meth c H locs ls C hP hS hl
  exact lv_tableOut C.1 C.2.1 hdg h ht (k hI r μ2 ho p e s m args below meth c H locs ls C hP hS hl)
end Z3
end
