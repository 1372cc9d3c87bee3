-- ===== PART A: goes FIRST, ahead of the names: the tables' words, and 'selects' of the private methods out of them =====
/-- a private method of a class that the tables say can be made, by its rows of tables_1 -/
def lw_okq (q : MethodName × Nat) : Prop := (q.1.cls ≠ "java/lang/invoke/MethodHandle" ∧ q.1.cls ≠ "java/lang/invoke/VarHandle") ∧ Cond.instantiable q.1.cls q.2 ∈ tables_1 ∧ Cond.privateMethod q.1 ∈ tables_1 ∧ Cond.instanceMethod q.1 ∈ tables_1
theorem lw_p0 : lw_okq (⟨"OddBank$Page", "fitsPeople", "(I)Z"⟩, 2) := ⟨⟨by decide +kernel, by decide +kernel⟩, List.mem_of_getElem? (i := 28) (by decide +kernel), List.mem_of_getElem? (i := 241) (by decide +kernel), List.mem_of_getElem? (i := 242) (by decide +kernel)⟩
theorem lw_p1 : lw_okq (⟨"OddBank$Page", "fitsMatters", "(II)Z"⟩, 2) := ⟨⟨by decide +kernel, by decide +kernel⟩, List.mem_of_getElem? (i := 28) (by decide +kernel), List.mem_of_getElem? (i := 335) (by decide +kernel), List.mem_of_getElem? (i := 336) (by decide +kernel)⟩
theorem lw_p2 : lw_okq (⟨"OddBank$Page", "peopleTold", "()I"⟩, 2) := ⟨⟨by decide +kernel, by decide +kernel⟩, List.mem_of_getElem? (i := 28) (by decide +kernel), List.mem_of_getElem? (i := 349) (by decide +kernel), List.mem_of_getElem? (i := 350) (by decide +kernel)⟩
theorem lw_p3 : lw_okq (⟨"OddBank$World", "speaksWith", "(III)Z"⟩, 13) := ⟨⟨by decide +kernel, by decide +kernel⟩, List.mem_of_getElem? (i := 44) (by decide +kernel), List.mem_of_getElem? (i := 391) (by decide +kernel), List.mem_of_getElem? (i := 392) (by decide +kernel)⟩
theorem lw_p4 : lw_okq (⟨"OddBank$Plan", "keepIfBetter", "(LOddBank$World;II)V"⟩, 8) := ⟨⟨by decide +kernel, by decide +kernel⟩, List.mem_of_getElem? (i := 144) (by decide +kernel), List.mem_of_getElem? (i := 536) (by decide +kernel), List.mem_of_getElem? (i := 537) (by decide +kernel)⟩
theorem lw_p5 : lw_okq (⟨"OddBank$Plan", "howManyAsked", "(I)I"⟩, 8) := ⟨⟨by decide +kernel, by decide +kernel⟩, List.mem_of_getElem? (i := 144) (by decide +kernel), List.mem_of_getElem? (i := 540) (by decide +kernel), List.mem_of_getElem? (i := 541) (by decide +kernel)⟩
theorem lw_p6 : lw_okq (⟨"OddBank$Course", "passDay", "(LOddBank$World;I)V"⟩, 4) := ⟨⟨by decide +kernel, by decide +kernel⟩, List.mem_of_getElem? (i := 177) (by decide +kernel), List.mem_of_getElem? (i := 596) (by decide +kernel), List.mem_of_getElem? (i := 597) (by decide +kernel)⟩
theorem lw_p7 : lw_okq (⟨"OddBank$Course", "draw", "(I)I"⟩, 4) := ⟨⟨by decide +kernel, by decide +kernel⟩, List.mem_of_getElem? (i := 177) (by decide +kernel), List.mem_of_getElem? (i := 600) (by decide +kernel), List.mem_of_getElem? (i := 601) (by decide +kernel)⟩
theorem lw_p8 : lw_okq (⟨"OddBank", "withDates", "(J)J"⟩, 7) := ⟨⟨by decide +kernel, by decide +kernel⟩, List.mem_of_getElem? (i := 20) (by decide +kernel), List.mem_of_getElem? (i := 645) (by decide +kernel), List.mem_of_getElem? (i := 646) (by decide +kernel)⟩
theorem lw_p9 : lw_okq (⟨"OddBankModel", "faultOf", "()I"⟩, 39) := ⟨⟨by decide +kernel, by decide +kernel⟩, List.mem_of_getElem? (i := 652) (by decide +kernel), List.mem_of_getElem? (i := 792) (by decide +kernel), List.mem_of_getElem? (i := 793) (by decide +kernel)⟩
theorem lw_p10 : lw_okq (⟨"OddBankModel", "isPersonLetter", "(I)Z"⟩, 39) := ⟨⟨by decide +kernel, by decide +kernel⟩, List.mem_of_getElem? (i := 652) (by decide +kernel), List.mem_of_getElem? (i := 796) (by decide +kernel), List.mem_of_getElem? (i := 797) (by decide +kernel)⟩
theorem lw_p11 : lw_okq (⟨"OddBankModel", "isMatterLetter", "(I)Z"⟩, 39) := ⟨⟨by decide +kernel, by decide +kernel⟩, List.mem_of_getElem? (i := 652) (by decide +kernel), List.mem_of_getElem? (i := 805) (by decide +kernel), List.mem_of_getElem? (i := 806) (by decide +kernel)⟩
theorem lw_p12 : lw_okq (⟨"OddBankModel", "isPersonDigit", "(I)Z"⟩, 39) := ⟨⟨by decide +kernel, by decide +kernel⟩, List.mem_of_getElem? (i := 652) (by decide +kernel), List.mem_of_getElem? (i := 809) (by decide +kernel), List.mem_of_getElem? (i := 810) (by decide +kernel)⟩
theorem lw_p13 : lw_okq (⟨"OddBankModel", "isPerson", "(I)Z"⟩, 39) := ⟨⟨by decide +kernel, by decide +kernel⟩, List.mem_of_getElem? (i := 652) (by decide +kernel), List.mem_of_getElem? (i := 822) (by decide +kernel), List.mem_of_getElem? (i := 823) (by decide +kernel)⟩
theorem lw_p14 : lw_okq (⟨"OddBankModel", "tellPerson", "(II)I"⟩, 39) := ⟨⟨by decide +kernel, by decide +kernel⟩, List.mem_of_getElem? (i := 652) (by decide +kernel), List.mem_of_getElem? (i := 826) (by decide +kernel), List.mem_of_getElem? (i := 827) (by decide +kernel)⟩
theorem lw_p15 : lw_okq (⟨"OddBankModel", "maySpeak", "(II)Z"⟩, 39) := ⟨⟨by decide +kernel, by decide +kernel⟩, List.mem_of_getElem? (i := 652) (by decide +kernel), List.mem_of_getElem? (i := 830) (by decide +kernel), List.mem_of_getElem? (i := 831) (by decide +kernel)⟩
def lw_privs_1 : List (MethodName × Nat) := [(⟨"OddBank$Page", "fitsPeople", "(I)Z"⟩, 2), (⟨"OddBank$Page", "fitsMatters", "(II)Z"⟩, 2), (⟨"OddBank$Page", "peopleTold", "()I"⟩, 2), (⟨"OddBank$World", "speaksWith", "(III)Z"⟩, 13), (⟨"OddBank$Plan", "keepIfBetter", "(LOddBank$World;II)V"⟩, 8), (⟨"OddBank$Plan", "howManyAsked", "(I)I"⟩, 8), (⟨"OddBank$Course", "passDay", "(LOddBank$World;I)V"⟩, 4), (⟨"OddBank$Course", "draw", "(I)I"⟩, 4), (⟨"OddBank", "withDates", "(J)J"⟩, 7), (⟨"OddBankModel", "faultOf", "()I"⟩, 39), (⟨"OddBankModel", "isPersonLetter", "(I)Z"⟩, 39), (⟨"OddBankModel", "isMatterLetter", "(I)Z"⟩, 39), (⟨"OddBankModel", "isPersonDigit", "(I)Z"⟩, 39), (⟨"OddBankModel", "isPerson", "(I)Z"⟩, 39), (⟨"OddBankModel", "tellPerson", "(II)I"⟩, 39), (⟨"OddBankModel", "maySpeak", "(II)Z"⟩, 39)]
theorem lw_r1 : ∀ q ∈ lw_privs_1, lw_okq q := List.forall_mem_cons.mpr ⟨lw_p0, List.forall_mem_cons.mpr ⟨lw_p1, List.forall_mem_cons.mpr ⟨lw_p2, List.forall_mem_cons.mpr ⟨lw_p3, List.forall_mem_cons.mpr ⟨lw_p4, List.forall_mem_cons.mpr ⟨lw_p5, List.forall_mem_cons.mpr ⟨lw_p6, List.forall_mem_cons.mpr ⟨lw_p7, List.forall_mem_cons.mpr ⟨lw_p8, List.forall_mem_cons.mpr ⟨lw_p9, List.forall_mem_cons.mpr ⟨lw_p10, List.forall_mem_cons.mpr ⟨lw_p11, List.forall_mem_cons.mpr ⟨lw_p12, List.forall_mem_cons.mpr ⟨lw_p13, List.forall_mem_cons.mpr ⟨lw_p14, List.forall_mem_cons.mpr ⟨lw_p15, fun _ h => absurd h List.not_mem_nil⟩⟩⟩⟩⟩⟩⟩⟩⟩⟩⟩⟩⟩⟩⟩⟩
theorem lw_p16 : lw_okq (⟨"OddBankModel", "layDate", "(I)V"⟩, 39) := ⟨⟨by decide +kernel, by decide +kernel⟩, List.mem_of_getElem? (i := 652) (by decide +kernel), List.mem_of_getElem? (i := 834) (by decide +kernel), List.mem_of_getElem? (i := 835) (by decide +kernel)⟩
theorem lw_p17 : lw_okq (⟨"OddBankModel", "isSpeaking", "(III)Z"⟩, 39) := ⟨⟨by decide +kernel, by decide +kernel⟩, List.mem_of_getElem? (i := 652) (by decide +kernel), List.mem_of_getElem? (i := 841) (by decide +kernel), List.mem_of_getElem? (i := 842) (by decide +kernel)⟩
theorem lw_p18 : lw_okq (⟨"OddBankModel", "isBankOn", "(I)Z"⟩, 39) := ⟨⟨by decide +kernel, by decide +kernel⟩, List.mem_of_getElem? (i := 652) (by decide +kernel), List.mem_of_getElem? (i := 845) (by decide +kernel), List.mem_of_getElem? (i := 846) (by decide +kernel)⟩
theorem lw_p19 : lw_okq (⟨"OddBankModel", "speakingDays", "(I)I"⟩, 39) := ⟨⟨by decide +kernel, by decide +kernel⟩, List.mem_of_getElem? (i := 652) (by decide +kernel), List.mem_of_getElem? (i := 849) (by decide +kernel), List.mem_of_getElem? (i := 850) (by decide +kernel)⟩
theorem lw_p20 : lw_okq (⟨"OddBankModel", "sortsOf", "(I)I"⟩, 39) := ⟨⟨by decide +kernel, by decide +kernel⟩, List.mem_of_getElem? (i := 652) (by decide +kernel), List.mem_of_getElem? (i := 853) (by decide +kernel), List.mem_of_getElem? (i := 854) (by decide +kernel)⟩
theorem lw_p21 : lw_okq (⟨"OddBankModel", "speakingSorts", "(II)I"⟩, 39) := ⟨⟨by decide +kernel, by decide +kernel⟩, List.mem_of_getElem? (i := 652) (by decide +kernel), List.mem_of_getElem? (i := 857) (by decide +kernel), List.mem_of_getElem? (i := 858) (by decide +kernel)⟩
theorem lw_p22 : lw_okq (⟨"OddBankModel", "listenOf", "(I)I"⟩, 39) := ⟨⟨by decide +kernel, by decide +kernel⟩, List.mem_of_getElem? (i := 652) (by decide +kernel), List.mem_of_getElem? (i := 861) (by decide +kernel), List.mem_of_getElem? (i := 862) (by decide +kernel)⟩
theorem lw_p23 : lw_okq (⟨"OddBankModel", "isMatter", "(I)Z"⟩, 39) := ⟨⟨by decide +kernel, by decide +kernel⟩, List.mem_of_getElem? (i := 652) (by decide +kernel), List.mem_of_getElem? (i := 877) (by decide +kernel), List.mem_of_getElem? (i := 878) (by decide +kernel)⟩
theorem lw_p24 : lw_okq (⟨"OddBankModel", "tellMatter", "(II)I"⟩, 39) := ⟨⟨by decide +kernel, by decide +kernel⟩, List.mem_of_getElem? (i := 652) (by decide +kernel), List.mem_of_getElem? (i := 881) (by decide +kernel), List.mem_of_getElem? (i := 882) (by decide +kernel)⟩
theorem lw_p25 : lw_okq (⟨"OddBankModel", "begin", "()V"⟩, 39) := ⟨⟨by decide +kernel, by decide +kernel⟩, List.mem_of_getElem? (i := 652) (by decide +kernel), List.mem_of_getElem? (i := 885) (by decide +kernel), List.mem_of_getElem? (i := 886) (by decide +kernel)⟩
theorem lw_p26 : lw_okq (⟨"OddBankModel", "canThen", "(II)Z"⟩, 39) := ⟨⟨by decide +kernel, by decide +kernel⟩, List.mem_of_getElem? (i := 652) (by decide +kernel), List.mem_of_getElem? (i := 892) (by decide +kernel), List.mem_of_getElem? (i := 893) (by decide +kernel)⟩
theorem lw_p27 : lw_okq (⟨"OddBankModel", "valueOf", "(II)I"⟩, 39) := ⟨⟨by decide +kernel, by decide +kernel⟩, List.mem_of_getElem? (i := 652) (by decide +kernel), List.mem_of_getElem? (i := 896) (by decide +kernel), List.mem_of_getElem? (i := 897) (by decide +kernel)⟩
theorem lw_p28 : lw_okq (⟨"OddBankModel", "soonOf", "(I)I"⟩, 39) := ⟨⟨by decide +kernel, by decide +kernel⟩, List.mem_of_getElem? (i := 652) (by decide +kernel), List.mem_of_getElem? (i := 900) (by decide +kernel), List.mem_of_getElem? (i := 901) (by decide +kernel)⟩
theorem lw_p29 : lw_okq (⟨"OddBankModel", "sayThen", "(II)I"⟩, 39) := ⟨⟨by decide +kernel, by decide +kernel⟩, List.mem_of_getElem? (i := 652) (by decide +kernel), List.mem_of_getElem? (i := 904) (by decide +kernel), List.mem_of_getElem? (i := 905) (by decide +kernel)⟩
theorem lw_p30 : lw_okq (⟨"OddBankModel", "lacks", "()Z"⟩, 39) := ⟨⟨by decide +kernel, by decide +kernel⟩, List.mem_of_getElem? (i := 652) (by decide +kernel), List.mem_of_getElem? (i := 914) (by decide +kernel), List.mem_of_getElem? (i := 915) (by decide +kernel)⟩
theorem lw_p31 : lw_okq (⟨"OddBankModel", "tellDate", "(II)I"⟩, 39) := ⟨⟨by decide +kernel, by decide +kernel⟩, List.mem_of_getElem? (i := 652) (by decide +kernel), List.mem_of_getElem? (i := 918) (by decide +kernel), List.mem_of_getElem? (i := 919) (by decide +kernel)⟩
def lw_privs_2 : List (MethodName × Nat) := [(⟨"OddBankModel", "layDate", "(I)V"⟩, 39), (⟨"OddBankModel", "isSpeaking", "(III)Z"⟩, 39), (⟨"OddBankModel", "isBankOn", "(I)Z"⟩, 39), (⟨"OddBankModel", "speakingDays", "(I)I"⟩, 39), (⟨"OddBankModel", "sortsOf", "(I)I"⟩, 39), (⟨"OddBankModel", "speakingSorts", "(II)I"⟩, 39), (⟨"OddBankModel", "listenOf", "(I)I"⟩, 39), (⟨"OddBankModel", "isMatter", "(I)Z"⟩, 39), (⟨"OddBankModel", "tellMatter", "(II)I"⟩, 39), (⟨"OddBankModel", "begin", "()V"⟩, 39), (⟨"OddBankModel", "canThen", "(II)Z"⟩, 39), (⟨"OddBankModel", "valueOf", "(II)I"⟩, 39), (⟨"OddBankModel", "soonOf", "(I)I"⟩, 39), (⟨"OddBankModel", "sayThen", "(II)I"⟩, 39), (⟨"OddBankModel", "lacks", "()Z"⟩, 39), (⟨"OddBankModel", "tellDate", "(II)I"⟩, 39)]
theorem lw_r2 : ∀ q ∈ lw_privs_2, lw_okq q := List.forall_mem_cons.mpr ⟨lw_p16, List.forall_mem_cons.mpr ⟨lw_p17, List.forall_mem_cons.mpr ⟨lw_p18, List.forall_mem_cons.mpr ⟨lw_p19, List.forall_mem_cons.mpr ⟨lw_p20, List.forall_mem_cons.mpr ⟨lw_p21, List.forall_mem_cons.mpr ⟨lw_p22, List.forall_mem_cons.mpr ⟨lw_p23, List.forall_mem_cons.mpr ⟨lw_p24, List.forall_mem_cons.mpr ⟨lw_p25, List.forall_mem_cons.mpr ⟨lw_p26, List.forall_mem_cons.mpr ⟨lw_p27, List.forall_mem_cons.mpr ⟨lw_p28, List.forall_mem_cons.mpr ⟨lw_p29, List.forall_mem_cons.mpr ⟨lw_p30, List.forall_mem_cons.mpr ⟨lw_p31, fun _ h => absurd h List.not_mem_nil⟩⟩⟩⟩⟩⟩⟩⟩⟩⟩⟩⟩⟩⟩⟩⟩
theorem lw_p32 : lw_okq (⟨"OddBankModel", "speakers", "(I)I"⟩, 39) := ⟨⟨by decide +kernel, by decide +kernel⟩, List.mem_of_getElem? (i := 652) (by decide +kernel), List.mem_of_getElem? (i := 922) (by decide +kernel), List.mem_of_getElem? (i := 923) (by decide +kernel)⟩
theorem lw_p33 : lw_okq (⟨"OddBankModel", "keep", "()V"⟩, 39) := ⟨⟨by decide +kernel, by decide +kernel⟩, List.mem_of_getElem? (i := 652) (by decide +kernel), List.mem_of_getElem? (i := 930) (by decide +kernel), List.mem_of_getElem? (i := 931) (by decide +kernel)⟩
theorem lw_p34 : lw_okq (⟨"OddBankModel", "bestOf", "(II)I"⟩, 39) := ⟨⟨by decide +kernel, by decide +kernel⟩, List.mem_of_getElem? (i := 652) (by decide +kernel), List.mem_of_getElem? (i := 958) (by decide +kernel), List.mem_of_getElem? (i := 959) (by decide +kernel)⟩
theorem lw_p35 : lw_okq (⟨"OddBankModel", "worthBy", "(II)I"⟩, 39) := ⟨⟨by decide +kernel, by decide +kernel⟩, List.mem_of_getElem? (i := 652) (by decide +kernel), List.mem_of_getElem? (i := 962) (by decide +kernel), List.mem_of_getElem? (i := 963) (by decide +kernel)⟩
theorem lw_p36 : lw_okq (⟨"OddBankModel", "liveOf", "(I)I"⟩, 39) := ⟨⟨by decide +kernel, by decide +kernel⟩, List.mem_of_getElem? (i := 652) (by decide +kernel), List.mem_of_getElem? (i := 973) (by decide +kernel), List.mem_of_getElem? (i := 974) (by decide +kernel)⟩
theorem lw_p37 : lw_okq (⟨"OddBankModel", "settledBy", "(I)I"⟩, 39) := ⟨⟨by decide +kernel, by decide +kernel⟩, List.mem_of_getElem? (i := 652) (by decide +kernel), List.mem_of_getElem? (i := 977) (by decide +kernel), List.mem_of_getElem? (i := 978) (by decide +kernel)⟩
theorem lw_p38 : lw_okq (⟨"OddBankModel", "fogOf", "(IIII)I"⟩, 39) := ⟨⟨by decide +kernel, by decide +kernel⟩, List.mem_of_getElem? (i := 652) (by decide +kernel), List.mem_of_getElem? (i := 986) (by decide +kernel), List.mem_of_getElem? (i := 987) (by decide +kernel)⟩
theorem lw_p39 : lw_okq (⟨"OddBankModel", "draw", "(I)I"⟩, 39) := ⟨⟨by decide +kernel, by decide +kernel⟩, List.mem_of_getElem? (i := 652) (by decide +kernel), List.mem_of_getElem? (i := 1005) (by decide +kernel), List.mem_of_getElem? (i := 1006) (by decide +kernel)⟩
theorem lw_p40 : lw_okq (⟨"OddBankModel", "countOf", "(I)I"⟩, 39) := ⟨⟨by decide +kernel, by decide +kernel⟩, List.mem_of_getElem? (i := 652) (by decide +kernel), List.mem_of_getElem? (i := 1025) (by decide +kernel), List.mem_of_getElem? (i := 1026) (by decide +kernel)⟩
theorem lw_p41 : lw_okq (⟨"OddBankModel", "onRight", "()I"⟩, 39) := ⟨⟨by decide +kernel, by decide +kernel⟩, List.mem_of_getElem? (i := 652) (by decide +kernel), List.mem_of_getElem? (i := 1029) (by decide +kernel), List.mem_of_getElem? (i := 1030) (by decide +kernel)⟩
theorem lw_p42 : lw_okq (⟨"OddBankModel", "standing", "(I)I"⟩, 39) := ⟨⟨by decide +kernel, by decide +kernel⟩, List.mem_of_getElem? (i := 652) (by decide +kernel), List.mem_of_getElem? (i := 1033) (by decide +kernel), List.mem_of_getElem? (i := 1034) (by decide +kernel)⟩
theorem lw_p43 : lw_okq (⟨"OddBankModel", "mix", "(J)V"⟩, 39) := ⟨⟨by decide +kernel, by decide +kernel⟩, List.mem_of_getElem? (i := 652) (by decide +kernel), List.mem_of_getElem? (i := 1042) (by decide +kernel), List.mem_of_getElem? (i := 1043) (by decide +kernel)⟩
theorem lw_p44 : lw_okq (⟨"OddBankModel", "sayRiver", "()V"⟩, 39) := ⟨⟨by decide +kernel, by decide +kernel⟩, List.mem_of_getElem? (i := 652) (by decide +kernel), List.mem_of_getElem? (i := 1046) (by decide +kernel), List.mem_of_getElem? (i := 1047) (by decide +kernel)⟩
def lw_privs_3 : List (MethodName × Nat) := [(⟨"OddBankModel", "speakers", "(I)I"⟩, 39), (⟨"OddBankModel", "keep", "()V"⟩, 39), (⟨"OddBankModel", "bestOf", "(II)I"⟩, 39), (⟨"OddBankModel", "worthBy", "(II)I"⟩, 39), (⟨"OddBankModel", "liveOf", "(I)I"⟩, 39), (⟨"OddBankModel", "settledBy", "(I)I"⟩, 39), (⟨"OddBankModel", "fogOf", "(IIII)I"⟩, 39), (⟨"OddBankModel", "draw", "(I)I"⟩, 39), (⟨"OddBankModel", "countOf", "(I)I"⟩, 39), (⟨"OddBankModel", "onRight", "()I"⟩, 39), (⟨"OddBankModel", "standing", "(I)I"⟩, 39), (⟨"OddBankModel", "mix", "(J)V"⟩, 39), (⟨"OddBankModel", "sayRiver", "()V"⟩, 39)]
theorem lw_r3 : ∀ q ∈ lw_privs_3, lw_okq q := List.forall_mem_cons.mpr ⟨lw_p32, List.forall_mem_cons.mpr ⟨lw_p33, List.forall_mem_cons.mpr ⟨lw_p34, List.forall_mem_cons.mpr ⟨lw_p35, List.forall_mem_cons.mpr ⟨lw_p36, List.forall_mem_cons.mpr ⟨lw_p37, List.forall_mem_cons.mpr ⟨lw_p38, List.forall_mem_cons.mpr ⟨lw_p39, List.forall_mem_cons.mpr ⟨lw_p40, List.forall_mem_cons.mpr ⟨lw_p41, List.forall_mem_cons.mpr ⟨lw_p42, List.forall_mem_cons.mpr ⟨lw_p43, List.forall_mem_cons.mpr ⟨lw_p44, fun _ h => absurd h List.not_mem_nil⟩⟩⟩⟩⟩⟩⟩⟩⟩⟩⟩⟩⟩
def lw_privs : List (MethodName × Nat) := lw_privs_1 ++ (lw_privs_2 ++ (lw_privs_3))
def lw_tbl : List Cond := k2_sels lw_privs ++ tables_1
theorem lw_privs_ok : ∀ q ∈ lw_privs, lw_okq q := by
  show ∀ q ∈ lw_privs_1 ++ (lw_privs_2 ++ (lw_privs_3)), lw_okq q
  exact List.forall_mem_append.mpr ⟨lw_r1, List.forall_mem_append.mpr ⟨lw_r2, lw_r3⟩⟩
-- ===== end of PART A; then your names; then what follows =====
/-! ===== BEGIN words of one list among another's, by their places ===== -/
theorem goodIn_r {big : List Cond} (ws : List Cond) (ps : List Nat) (hp : ws = ps.filterMap (fun i => big[i]?)) (h : ws.all goodWord = true) : GoodIn big ws := by
  intro w hw
  have h1 := List.all_eq_true.mp h w hw
  rw [hp] at hw
  obtain ⟨i, -, hi⟩ := List.mem_filterMap.mp hw
  have hm : w ∈ big := by first | exact List.mem_of_getElem? hi | exact List.getElem?_mem hi
  exact ⟨hm, good_of_word h1⟩
theorem goodIn_app {big a b : List Cond} (ha : GoodIn big a) (hb : GoodIn big b) : GoodIn big (a ++ b) := fun w h => (List.mem_append.mp h).elim (ha w) (hb w)
theorem goodIn_ca {big a b : List Cond} {c : Cond} (ha : GoodIn big (c :: a)) (hb : GoodIn big b) : GoodIn big (c :: (a ++ b)) := fun w h => (List.mem_cons.mp h).elim (fun e => ha w (List.mem_cons.mpr (Or.inl e))) (fun h => (List.mem_append.mp h).elim (fun h => ha w (List.mem_cons.mpr (Or.inr h))) (hb w))
theorem goodIn_sub {big ws : List Cond} (hm : ∀ w ∈ ws, w ∈ big) (h : ws.all goodWord = true) : GoodIn big ws := fun w hw => ⟨hm w hw, good_of_word (List.all_eq_true.mp h w hw)⟩
/-! ===== END ===== -/

/-! ===== BEGIN printed: names, fields, word lists, decode rows ===== -/
def RX0 : String := "OddBank$Calendar"
def TX0 : u_T := fun k => match k with
  | _ => ("", "", "", false)
def tyX0 : Nat → FieldType := fun k => match k with
  | _ => .int
abbrev wsX00 : List Cond := u_ws RX0 TX0 0
theorem nmX0 : ∀ a, a < 0 → ∀ b, b < 0 → a ≠ b → (TX0 a).2.1 ≠ (TX0 b).2.1 := by decide +kernel
theorem tyX0_ok : ∀ k, k < 0 → parseFieldDescriptor (TX0 k).2.2.1 = some (tyX0 k) := by decide +kernel
abbrev cX0_yearOf : ByteArray := prog_2_method_2_code
def yX0_yearOf : MethodName := ⟨RX0, "yearOf", "(I)I"⟩
abbrev cX0_monthOf : ByteArray := prog_2_method_3_code
def yX0_monthOf : MethodName := ⟨RX0, "monthOf", "(I)I"⟩
abbrev cX0_dateOf : ByteArray := prog_2_method_4_code
def yX0_dateOf : MethodName := ⟨RX0, "dateOf", "(I)I"⟩
abbrev cX0_voicesOn : ByteArray := prog_2_method_5_code
def yX0_voicesOn : MethodName := ⟨RX0, "voicesOn", "(I)I"⟩
abbrev cX0_monthAndDate : ByteArray := prog_2_method_6_code
def yX0_monthAndDate : MethodName := ⟨RX0, "monthAndDate", "(I)I"⟩
def RX1 : String := "OddBank$Course"
def TX1 : u_T := fun k => match k with
  | 0 => ("OddBank$Course", "asked", "[I", true)
  | 1 => ("OddBank$Course", "worth", "I", false)
  | 2 => ("OddBank$Course", "settled", "I", false)
  | _ => ("OddBank$Course", "seed", "I", false)
def tyX1 : Nat → FieldType := fun k => match k with
  | 0 => .array .int
  | 1 => .int
  | 2 => .int
  | _ => .int
abbrev wsX10 : List Cond := u_ws RX1 TX1 4
theorem nmX1 : ∀ a, a < 4 → ∀ b, b < 4 → a ≠ b → (TX1 a).2.1 ≠ (TX1 b).2.1 := by decide +kernel
theorem tyX1_ok : ∀ k, k < 4 → parseFieldDescriptor (TX1 k).2.2.1 = some (tyX1 k) := by decide +kernel
abbrev cX1_init : ByteArray := prog_3_method_1_code
def yX1_init : MethodName := ⟨RX1, "<init>", "()V"⟩
abbrev cX1_run : ByteArray := prog_3_method_2_code
def yX1_run : MethodName := ⟨RX1, "run", "(LOddBank$World;II)V"⟩
abbrev cX1_passDay : ByteArray := prog_3_method_3_code
def yX1_passDay : MethodName := ⟨RX1, "passDay", "(LOddBank$World;I)V"⟩
abbrev cX1_draw : ByteArray := prog_3_method_4_code
def yX1_draw : MethodName := ⟨RX1, "draw", "(I)I"⟩
def RX2 : String := "OddBank$Outlook"
def TX2 : u_T := fun k => match k with
  | _ => ("", "", "", false)
def tyX2 : Nat → FieldType := fun k => match k with
  | _ => .int
abbrev wsX20 : List Cond := u_ws RX2 TX2 0
theorem nmX2 : ∀ a, a < 0 → ∀ b, b < 0 → a ≠ b → (TX2 a).2.1 ≠ (TX2 b).2.1 := by decide +kernel
theorem tyX2_ok : ∀ k, k < 0 → parseFieldDescriptor (TX2 k).2.2.1 = some (tyX2 k) := by decide +kernel
abbrev cX2_soonest : ByteArray := prog_4_method_2_code
def yX2_soonest : MethodName := ⟨RX2, "soonest", "(LOddBank$World;I)I"⟩
abbrev cX2_bestHomes : ByteArray := prog_4_method_3_code
def yX2_bestHomes : MethodName := ⟨RX2, "bestHomes", "(LOddBank$World;)I"⟩
abbrev cX2_settledByTomorrow : ByteArray := prog_4_method_4_code
def yX2_settledByTomorrow : MethodName := ⟨RX2, "settledByTomorrow", "(LOddBank$World;I)I"⟩
abbrev cX2_settledBy : ByteArray := prog_4_method_5_code
def yX2_settledBy : MethodName := ⟨RX2, "settledBy", "(LOddBank$World;II)I"⟩
abbrev cX2_partsSettled : ByteArray := prog_4_method_6_code
def yX2_partsSettled : MethodName := ⟨RX2, "partsSettled", "(LOddBank$World;III)I"⟩
abbrev cX2_lowestTerms : ByteArray := prog_4_method_7_code
def yX2_lowestTerms : MethodName := ⟨RX2, "lowestTerms", "(IIZ)I"⟩
def RX3 : String := "OddBank$Page"
def TX3 : u_T := fun k => match k with
  | 0 => ("OddBank$Page", "letters", "[I", true)
  | _ => ("OddBank$Page", "length", "I", false)
def tyX3 : Nat → FieldType := fun k => match k with
  | 0 => .array .int
  | _ => .int
abbrev wsX30 : List Cond := u_ws RX3 TX3 2
theorem nmX3 : ∀ a, a < 2 → ∀ b, b < 2 → a ≠ b → (TX3 a).2.1 ≠ (TX3 b).2.1 := by decide +kernel
theorem tyX3_ok : ∀ k, k < 2 → parseFieldDescriptor (TX3 k).2.2.1 = some (tyX3 k) := by decide +kernel
abbrev cX3_init : ByteArray := prog_5_method_1_code
def yX3_init : MethodName := ⟨RX3, "<init>", "()V"⟩
abbrev cX3_append : ByteArray := prog_5_method_2_code
def yX3_append : MethodName := ⟨RX3, "append", "(I)Z"⟩
abbrev cX3_firstFault : ByteArray := prog_5_method_3_code
def yX3_firstFault : MethodName := ⟨RX3, "firstFault", "()I"⟩
abbrev cX3_fitsPeople : ByteArray := prog_5_method_4_code
def yX3_fitsPeople : MethodName := ⟨RX3, "fitsPeople", "(I)Z"⟩
abbrev cX3_fitsMatters : ByteArray := prog_5_method_5_code
def yX3_fitsMatters : MethodName := ⟨RX3, "fitsMatters", "(II)Z"⟩
abbrev cX3_isWhole : ByteArray := prog_5_method_6_code
def yX3_isWhole : MethodName := ⟨RX3, "isWhole", "()Z"⟩
abbrev cX3_peopleTold : ByteArray := prog_5_method_7_code
def yX3_peopleTold : MethodName := ⟨RX3, "peopleTold", "()I"⟩
abbrev cX3_readInto : ByteArray := prog_5_method_8_code
def yX3_readInto : MethodName := ⟨RX3, "readInto", "(LOddBank$World;)V"⟩
abbrev cX3_kindOf : ByteArray := prog_5_method_9_code
def yX3_kindOf : MethodName := ⟨RX3, "kindOf", "(I)I"⟩
def RX4 : String := "OddBank$Plan"
def TX4 : u_T := fun k => match k with
  | 0 => ("OddBank$Plan", "speakers", "[I", true)
  | 1 => ("OddBank$Plan", "tried", "[I", true)
  | 2 => ("OddBank$Plan", "chosen", "[I", true)
  | 3 => ("OddBank$Plan", "asked", "[I", true)
  | 4 => ("OddBank$Plan", "days", "I", false)
  | 5 => ("OddBank$Plan", "stillAsked", "I", false)
  | 6 => ("OddBank$Plan", "worth", "I", false)
  | _ => ("OddBank$Plan", "settled", "I", false)
def tyX4 : Nat → FieldType := fun k => match k with
  | 0 => .array .int
  | 1 => .array .int
  | 2 => .array .int
  | 3 => .array .int
  | 4 => .int
  | 5 => .int
  | 6 => .int
  | _ => .int
abbrev wsX40 : List Cond := u_ws RX4 TX4 8
theorem nmX4 : ∀ a, a < 8 → ∀ b, b < 8 → a ≠ b → (TX4 a).2.1 ≠ (TX4 b).2.1 := by decide +kernel
theorem tyX4_ok : ∀ k, k < 8 → parseFieldDescriptor (TX4 k).2.2.1 = some (tyX4 k) := by decide +kernel
abbrev cX4_init : ByteArray := prog_6_method_1_code
def yX4_init : MethodName := ⟨RX4, "<init>", "()V"⟩
abbrev cX4_make : ByteArray := prog_6_method_2_code
def yX4_make : MethodName := ⟨RX4, "make", "(LOddBank$World;I)V"⟩
abbrev cX4_matterOn : ByteArray := prog_6_method_3_code
def yX4_matterOn : MethodName := ⟨RX4, "matterOn", "(I)I"⟩
abbrev cX4_search : ByteArray := prog_6_method_4_code
def yX4_search : MethodName := ⟨RX4, "search", "(LOddBank$Plan;LOddBank$World;III)V"⟩
abbrev cX4_keepIfBetter : ByteArray := prog_6_method_5_code
def yX4_keepIfBetter : MethodName := ⟨RX4, "keepIfBetter", "(LOddBank$World;II)V"⟩
abbrev cX4_howManyAsked : ByteArray := prog_6_method_6_code
def yX4_howManyAsked : MethodName := ⟨RX4, "howManyAsked", "(I)I"⟩
def RX5 : String := "OddBank$Sightings"
def TX5 : u_T := fun k => match k with
  | 0 => ("OddBank$Sightings", "who", "[I", true)
  | 1 => ("OddBank$Sightings", "days", "[I", true)
  | 2 => ("OddBank$Sightings", "spoke", "[Z", true)
  | _ => ("OddBank$Sightings", "size", "I", false)
def tyX5 : Nat → FieldType := fun k => match k with
  | 0 => .array .int
  | 1 => .array .int
  | 2 => .array .boolean
  | _ => .int
abbrev wsX50 : List Cond := u_ws RX5 TX5 4
theorem nmX5 : ∀ a, a < 4 → ∀ b, b < 4 → a ≠ b → (TX5 a).2.1 ≠ (TX5 b).2.1 := by decide +kernel
theorem tyX5_ok : ∀ k, k < 4 → parseFieldDescriptor (TX5 k).2.2.1 = some (tyX5 k) := by decide +kernel
abbrev cX5_init : ByteArray := prog_7_method_1_code
def yX5_init : MethodName := ⟨RX5, "<init>", "()V"⟩
abbrev cX5_add : ByteArray := prog_7_method_2_code
def yX5_add : MethodName := ⟨RX5, "add", "(IIZ)Z"⟩
abbrev cX5_sortsLeft : ByteArray := prog_7_method_3_code
def yX5_sortsLeft : MethodName := ⟨RX5, "sortsLeft", "(III)I"⟩
abbrev cX5_copyFrom : ByteArray := prog_7_method_4_code
def yX5_copyFrom : MethodName := ⟨RX5, "copyFrom", "(LOddBank$Sightings;)V"⟩
def RX6 : String := "OddBank$Sort"
def TX6 : u_T := fun k => match k with
  | _ => ("", "", "", false)
def tyX6 : Nat → FieldType := fun k => match k with
  | _ => .int
abbrev wsX60 : List Cond := u_ws RX6 TX6 0
theorem nmX6 : ∀ a, a < 0 → ∀ b, b < 0 → a ≠ b → (TX6 a).2.1 ≠ (TX6 b).2.1 := by decide +kernel
theorem tyX6_ok : ∀ k, k < 0 → parseFieldDescriptor (TX6 k).2.2.1 = some (tyX6 k) := by decide +kernel
abbrev cX6_isKind : ByteArray := prog_8_method_2_code
def yX6_isKind : MethodName := ⟨RX6, "isKind", "(II)Z"⟩
abbrev cX6_speaking : ByteArray := prog_8_method_3_code
def yX6_speaking : MethodName := ⟨RX6, "speaking", "(II)I"⟩
def RX7 : String := "OddBank$World"
def TX7 : u_T := fun k => match k with
  | 0 => ("OddBank$World", "kind", "[I", true)
  | 1 => ("OddBank$World", "born", "[I", true)
  | 2 => ("OddBank$World", "memory", "[I", true)
  | 3 => ("OddBank$World", "asks", "[I", true)
  | 4 => ("OddBank$World", "answers", "[I", true)
  | 5 => ("OddBank$World", "worth", "[I", true)
  | 6 => ("OddBank$World", "asked", "[I", true)
  | 7 => ("OddBank$World", "seen", "LOddBank$Sightings;", true)
  | 8 => ("OddBank$World", "people", "I", false)
  | 9 => ("OddBank$World", "matters", "I", false)
  | 10 => ("OddBank$World", "right", "I", false)
  | 11 => ("OddBank$World", "today", "I", false)
  | _ => ("OddBank$World", "total", "I", false)
def tyX7 : Nat → FieldType := fun k => match k with
  | 0 => .array .int
  | 1 => .array .int
  | 2 => .array .int
  | 3 => .array .int
  | 4 => .array .int
  | 5 => .array .int
  | 6 => .array .int
  | 7 => .object "OddBank$Sightings"
  | 8 => .int
  | 9 => .int
  | 10 => .int
  | 11 => .int
  | _ => .int
abbrev wsX70 : List Cond := u_ws RX7 TX7 13
theorem nmX7 : ∀ a, a < 13 → ∀ b, b < 13 → a ≠ b → (TX7 a).2.1 ≠ (TX7 b).2.1 := by decide +kernel
theorem tyX7_ok : ∀ k, k < 13 → parseFieldDescriptor (TX7 k).2.2.1 = some (tyX7 k) := by decide +kernel
abbrev cX7_init : ByteArray := prog_9_method_1_code
def yX7_init : MethodName := ⟨RX7, "<init>", "()V"⟩
abbrev cX7_hasRiver : ByteArray := prog_9_method_2_code
def yX7_hasRiver : MethodName := ⟨RX7, "hasRiver", "()Z"⟩
abbrev cX7_knowsPerson : ByteArray := prog_9_method_3_code
def yX7_knowsPerson : MethodName := ⟨RX7, "knowsPerson", "(I)Z"⟩
abbrev cX7_knowsMatter : ByteArray := prog_9_method_4_code
def yX7_knowsMatter : MethodName := ⟨RX7, "knowsMatter", "(I)Z"⟩
abbrev cX7_begin : ByteArray := prog_9_method_5_code
def yX7_begin : MethodName := ⟨RX7, "begin", "(II)V"⟩
abbrev cX7_place : ByteArray := prog_9_method_6_code
def yX7_place : MethodName := ⟨RX7, "place", "(IIZI)V"⟩
abbrev cX7_bankOf : ByteArray := prog_9_method_7_code
def yX7_bankOf : MethodName := ⟨RX7, "bankOf", "(I)I"⟩
abbrev cX7_speaks : ByteArray := prog_9_method_8_code
def yX7_speaks : MethodName := ⟨RX7, "speaks", "(II)Z"⟩
abbrev cX7_speaksWith : ByteArray := prog_9_method_9_code
def yX7_speaksWith : MethodName := ⟨RX7, "speaksWith", "(III)Z"⟩
abbrev cX7_speakersOn : ByteArray := prog_9_method_10_code
def yX7_speakersOn : MethodName := ⟨RX7, "speakersOn", "(I)I"⟩
abbrev cX7_speakersIf : ByteArray := prog_9_method_11_code
def yX7_speakersIf : MethodName := ⟨RX7, "speakersIf", "(II)I"⟩
abbrev cX7_speakingDays : ByteArray := prog_9_method_12_code
def yX7_speakingDays : MethodName := ⟨RX7, "speakingDays", "(I)I"⟩
abbrev cX7_possibleSorts : ByteArray := prog_9_method_13_code
def yX7_possibleSorts : MethodName := ⟨RX7, "possibleSorts", "(I)I"⟩
abbrev cX7_dayToListen : ByteArray := prog_9_method_14_code
def yX7_dayToListen : MethodName := ⟨RX7, "dayToListen", "(I)I"⟩
abbrev cX7_standing : ByteArray := prog_9_method_15_code
def yX7_standing : MethodName := ⟨RX7, "standing", "(I)I"⟩
abbrev cX7_howManyStand : ByteArray := prog_9_method_16_code
def yX7_howManyStand : MethodName := ⟨RX7, "howManyStand", "(I)I"⟩
abbrev cX7_askedSince : ByteArray := prog_9_method_17_code
def yX7_askedSince : MethodName := ⟨RX7, "askedSince", "(I)I"⟩
abbrev cX7_worthToday : ByteArray := prog_9_method_18_code
def yX7_worthToday : MethodName := ⟨RX7, "worthToday", "(I)I"⟩
abbrev cX7_canBeSaid : ByteArray := prog_9_method_19_code
def yX7_canBeSaid : MethodName := ⟨RX7, "canBeSaid", "(IIII)Z"⟩
abbrev cX7_settledFor : ByteArray := prog_9_method_20_code
def yX7_settledFor : MethodName := ⟨RX7, "settledFor", "(III)I"⟩
abbrev cX7_reopenAskedBy : ByteArray := prog_9_method_21_code
def yX7_reopenAskedBy : MethodName := ⟨RX7, "reopenAskedBy", "(I)I"⟩
abbrev cX7_copyFrom : ByteArray := prog_9_method_22_code
def yX7_copyFrom : MethodName := ⟨RX7, "copyFrom", "(LOddBank$World;)V"⟩
def RX8 : String := "OddBank"
def TX8 : u_T := fun k => match k with
  | 0 => ("OddBank", "page", "LOddBank$Page;", true)
  | 1 => ("OddBank", "world", "LOddBank$World;", true)
  | 2 => ("OddBank", "kept", "LOddBank$World;", true)
  | 3 => ("OddBank", "plan", "LOddBank$Plan;", true)
  | 4 => ("OddBank", "course", "LOddBank$Course;", true)
  | 5 => ("OddBank", "readings", "I", false)
  | _ => ("OddBank", "plans", "I", false)
def tyX8 : Nat → FieldType := fun k => match k with
  | 0 => .object "OddBank$Page"
  | 1 => .object "OddBank$World"
  | 2 => .object "OddBank$World"
  | 3 => .object "OddBank$Plan"
  | 4 => .object "OddBank$Course"
  | 5 => .int
  | _ => .int
abbrev wsX80 : List Cond := u_ws RX8 TX8 7
theorem nmX8 : ∀ a, a < 7 → ∀ b, b < 7 → a ≠ b → (TX8 a).2.1 ≠ (TX8 b).2.1 := by decide +kernel
theorem tyX8_ok : ∀ k, k < 7 → parseFieldDescriptor (TX8 k).2.2.1 = some (tyX8 k) := by decide +kernel
abbrev cX8_init : ByteArray := prog_1_method_1_code
def yX8_init : MethodName := ⟨RX8, "<init>", "()V"⟩
abbrev cX8_letter : ByteArray := prog_1_method_2_code
def yX8_letter : MethodName := ⟨RX8, "letter", "(I)I"⟩
abbrev cX8_blank : ByteArray := prog_1_method_3_code
def yX8_blank : MethodName := ⟨RX8, "blank", "()I"⟩
abbrev cX8_fault : ByteArray := prog_1_method_4_code
def yX8_fault : MethodName := ⟨RX8, "fault", "()I"⟩
abbrev cX8_river : ByteArray := prog_1_method_5_code
def yX8_river : MethodName := ⟨RX8, "river", "()I"⟩
abbrev cX8_person : ByteArray := prog_1_method_6_code
def yX8_person : MethodName := ⟨RX8, "person", "(II)I"⟩
abbrev cX8_as : ByteArray := prog_1_method_7_code
def yX8_as : MethodName := ⟨RX8, "as", "(II)I"⟩
abbrev cX8_matter : ByteArray := prog_1_method_8_code
def yX8_matter : MethodName := ⟨RX8, "matter", "(II)I"⟩
abbrev cX8_date : ByteArray := prog_1_method_9_code
def yX8_date : MethodName := ⟨RX8, "date", "(II)I"⟩
abbrev cX8_say : ByteArray := prog_1_method_10_code
def yX8_say : MethodName := ⟨RX8, "say", "(I)I"⟩
abbrev cX8_day : ByteArray := prog_1_method_11_code
def yX8_day : MethodName := ⟨RX8, "day", "()I"⟩
abbrev cX8_cross : ByteArray := prog_1_method_12_code
def yX8_cross : MethodName := ⟨RX8, "cross", "(I)I"⟩
abbrev cX8_open : ByteArray := prog_1_method_13_code
def yX8_open : MethodName := ⟨RX8, "open", "(II)I"⟩
abbrev cX8_change : ByteArray := prog_1_method_14_code
def yX8_change : MethodName := ⟨RX8, "change", "(III)I"⟩
abbrev cX8_best : ByteArray := prog_1_method_15_code
def yX8_best : MethodName := ⟨RX8, "best", "(II)I"⟩
abbrev cX8_live : ByteArray := prog_1_method_16_code
def yX8_live : MethodName := ⟨RX8, "live", "(I)I"⟩
abbrev cX8_fog : ByteArray := prog_1_method_17_code
def yX8_fog : MethodName := ⟨RX8, "fog", "(IIII)I"⟩
abbrev cX8_see : ByteArray := prog_1_method_18_code
def yX8_see : MethodName := ⟨RX8, "see", "(IIZ)I"⟩
abbrev cX8_forget : ByteArray := prog_1_method_19_code
def yX8_forget : MethodName := ⟨RX8, "forget", "()I"⟩
abbrev cX8_years : ByteArray := prog_1_method_20_code
def yX8_years : MethodName := ⟨RX8, "years", "(III)I"⟩
abbrev cX8_image : ByteArray := prog_1_method_21_code
def yX8_image : MethodName := ⟨RX8, "image", "()I"⟩
abbrev cX8_restore : ByteArray := prog_1_method_22_code
def yX8_restore : MethodName := ⟨RX8, "restore", "()I"⟩
abbrev cX8_count : ByteArray := prog_1_method_23_code
def yX8_count : MethodName := ⟨RX8, "count", "(I)I"⟩
abbrev cX8_digest : ByteArray := prog_1_method_24_code
def yX8_digest : MethodName := ⟨RX8, "digest", "()J"⟩
abbrev cX8_withDates : ByteArray := prog_1_method_25_code
def yX8_withDates : MethodName := ⟨RX8, "withDates", "(J)J"⟩
def RX9 : String := "OddBankModel"
def TX9 : u_T := fun k => match k with
  | 0 => ("OddBankModel", "page", "[I", true)
  | 1 => ("OddBankModel", "pageMany", "I", false)
  | 2 => ("OddBankModel", "end", "I", false)
  | 3 => ("OddBankModel", "people", "I", false)
  | 4 => ("OddBankModel", "matters", "I", false)
  | 5 => ("OddBankModel", "today", "I", false)
  | 6 => ("OddBankModel", "settledFor", "I", false)
  | 7 => ("OddBankModel", "riversRead", "I", false)
  | 8 => ("OddBankModel", "kinds", "[I", true)
  | 9 => ("OddBankModel", "born", "[I", true)
  | 10 => ("OddBankModel", "bank", "[I", true)
  | 11 => ("OddBankModel", "memory", "[I", true)
  | 12 => ("OddBankModel", "askers", "[I", true)
  | 13 => ("OddBankModel", "answerers", "[I", true)
  | 14 => ("OddBankModel", "worths", "[I", true)
  | 15 => ("OddBankModel", "stands", "[I", true)
  | 16 => ("OddBankModel", "askedOn", "[I", true)
  | 17 => ("OddBankModel", "dateOf", "I", false)
  | 18 => ("OddBankModel", "monthOf", "I", false)
  | 19 => ("OddBankModel", "yearOf", "I", false)
  | 20 => ("OddBankModel", "standsThen", "[I", true)
  | 21 => ("OddBankModel", "askedThen", "[I", true)
  | 22 => ("OddBankModel", "bestDone", "I", false)
  | 23 => ("OddBankModel", "bankNow", "[I", true)
  | 24 => ("OddBankModel", "seenMany", "I", false)
  | 25 => ("OddBankModel", "sights", "[I", true)
  | 26 => ("OddBankModel", "seedNow", "I", false)
  | 27 => ("OddBankModel", "keptRiver", "I", false)
  | 28 => ("OddBankModel", "keptToday", "I", false)
  | 29 => ("OddBankModel", "keptFor", "I", false)
  | 30 => ("OddBankModel", "keptSeen", "I", false)
  | 31 => ("OddBankModel", "keptKinds", "[I", true)
  | 32 => ("OddBankModel", "keptBank", "[I", true)
  | 33 => ("OddBankModel", "keptMemory", "[I", true)
  | 34 => ("OddBankModel", "keptWorths", "[I", true)
  | 35 => ("OddBankModel", "keptStands", "[I", true)
  | 36 => ("OddBankModel", "keptAsked", "[I", true)
  | 37 => ("OddBankModel", "keptSights", "[I", true)
  | _ => ("OddBankModel", "hash", "J", false)
def tyX9 : Nat → FieldType := fun k => match k with
  | 0 => .array .int
  | 1 => .int
  | 2 => .int
  | 3 => .int
  | 4 => .int
  | 5 => .int
  | 6 => .int
  | 7 => .int
  | 8 => .array .int
  | 9 => .array .int
  | 10 => .array .int
  | 11 => .array .int
  | 12 => .array .int
  | 13 => .array .int
  | 14 => .array .int
  | 15 => .array .int
  | 16 => .array .int
  | 17 => .int
  | 18 => .int
  | 19 => .int
  | 20 => .array .int
  | 21 => .array .int
  | 22 => .int
  | 23 => .array .int
  | 24 => .int
  | 25 => .array .int
  | 26 => .int
  | 27 => .int
  | 28 => .int
  | 29 => .int
  | 30 => .int
  | 31 => .array .int
  | 32 => .array .int
  | 33 => .array .int
  | 34 => .array .int
  | 35 => .array .int
  | 36 => .array .int
  | 37 => .array .int
  | _ => .long
abbrev wsX90 : List Cond := u_ws RX9 TX9 39
theorem nmX9 : ∀ a, a < 39 → ∀ b, b < 39 → a ≠ b → (TX9 a).2.1 ≠ (TX9 b).2.1 := by decide +kernel
theorem tyX9_ok : ∀ k, k < 39 → parseFieldDescriptor (TX9 k).2.2.1 = some (tyX9 k) := by decide +kernel
abbrev cX9_init : ByteArray := prog_11_method_1_code
def yX9_init : MethodName := ⟨RX9, "<init>", "()V"⟩
abbrev cX9_in : ByteArray := prog_11_method_2_code
def yX9_in : MethodName := ⟨RX9, "in", "(JJJ)Z"⟩
abbrev cX9_copy : ByteArray := prog_11_method_3_code
def yX9_copy : MethodName := ⟨RX9, "copy", "([I[I)V"⟩
abbrev cX9_letter : ByteArray := prog_11_method_4_code
def yX9_letter : MethodName := ⟨RX9, "letter", "(I)I"⟩
abbrev cX9_blank : ByteArray := prog_11_method_5_code
def yX9_blank : MethodName := ⟨RX9, "blank", "()I"⟩
abbrev cX9_kindBy : ByteArray := prog_11_method_6_code
def yX9_kindBy : MethodName := ⟨RX9, "kindBy", "(I)I"⟩
abbrev cX9_isPersonLetter : ByteArray := prog_11_method_7_code
def yX9_isPersonLetter : MethodName := ⟨RX9, "isPersonLetter", "(I)Z"⟩
abbrev cX9_isPersonDigit : ByteArray := prog_11_method_8_code
def yX9_isPersonDigit : MethodName := ⟨RX9, "isPersonDigit", "(I)Z"⟩
abbrev cX9_isMatterLetter : ByteArray := prog_11_method_9_code
def yX9_isMatterLetter : MethodName := ⟨RX9, "isMatterLetter", "(I)Z"⟩
abbrev cX9_faultOf : ByteArray := prog_11_method_10_code
def yX9_faultOf : MethodName := ⟨RX9, "faultOf", "()I"⟩
abbrev cX9_fault : ByteArray := prog_11_method_11_code
def yX9_fault : MethodName := ⟨RX9, "fault", "()I"⟩
abbrev cX9_river : ByteArray := prog_11_method_12_code
def yX9_river : MethodName := ⟨RX9, "river", "()I"⟩
abbrev cX9_lacks : ByteArray := prog_11_method_13_code
def yX9_lacks : MethodName := ⟨RX9, "lacks", "()Z"⟩
abbrev cX9_isPerson : ByteArray := prog_11_method_14_code
def yX9_isPerson : MethodName := ⟨RX9, "isPerson", "(I)Z"⟩
abbrev cX9_isMatter : ByteArray := prog_11_method_15_code
def yX9_isMatter : MethodName := ⟨RX9, "isMatter", "(I)Z"⟩
abbrev cX9_daysOf : ByteArray := prog_11_method_16_code
def yX9_daysOf : MethodName := ⟨RX9, "daysOf", "(II)I"⟩
abbrev cX9_layDate : ByteArray := prog_11_method_17_code
def yX9_layDate : MethodName := ⟨RX9, "layDate", "(I)V"⟩
abbrev cX9_isBankOn : ByteArray := prog_11_method_18_code
def yX9_isBankOn : MethodName := ⟨RX9, "isBankOn", "(I)Z"⟩
abbrev cX9_isSpeaking : ByteArray := prog_11_method_19_code
def yX9_isSpeaking : MethodName := ⟨RX9, "isSpeaking", "(III)Z"⟩
abbrev cX9_maySpeak : ByteArray := prog_11_method_20_code
def yX9_maySpeak : MethodName := ⟨RX9, "maySpeak", "(II)Z"⟩
abbrev cX9_speakers : ByteArray := prog_11_method_21_code
def yX9_speakers : MethodName := ⟨RX9, "speakers", "(I)I"⟩
abbrev cX9_ones : ByteArray := prog_11_method_22_code
def yX9_ones : MethodName := ⟨RX9, "ones", "(I)I"⟩
abbrev cX9_begin : ByteArray := prog_11_method_23_code
def yX9_begin : MethodName := ⟨RX9, "begin", "()V"⟩
abbrev cX9_keep : ByteArray := prog_11_method_24_code
def yX9_keep : MethodName := ⟨RX9, "keep", "()V"⟩
abbrev cX9_valueOf : ByteArray := prog_11_method_25_code
def yX9_valueOf : MethodName := ⟨RX9, "valueOf", "(II)I"⟩
abbrev cX9_canThen : ByteArray := prog_11_method_26_code
def yX9_canThen : MethodName := ⟨RX9, "canThen", "(II)Z"⟩
abbrev cX9_sayThen : ByteArray := prog_11_method_27_code
def yX9_sayThen : MethodName := ⟨RX9, "sayThen", "(II)I"⟩
abbrev cX9_speakingDays : ByteArray := prog_11_method_28_code
def yX9_speakingDays : MethodName := ⟨RX9, "speakingDays", "(I)I"⟩
abbrev cX9_tellPerson : ByteArray := prog_11_method_29_code
def yX9_tellPerson : MethodName := ⟨RX9, "tellPerson", "(II)I"⟩
abbrev cX9_person : ByteArray := prog_11_method_30_code
def yX9_person : MethodName := ⟨RX9, "person", "(II)I"⟩
abbrev cX9_as : ByteArray := prog_11_method_31_code
def yX9_as : MethodName := ⟨RX9, "as", "(II)I"⟩
abbrev cX9_soonOf : ByteArray := prog_11_method_32_code
def yX9_soonOf : MethodName := ⟨RX9, "soonOf", "(I)I"⟩
abbrev cX9_tellMatter : ByteArray := prog_11_method_33_code
def yX9_tellMatter : MethodName := ⟨RX9, "tellMatter", "(II)I"⟩
abbrev cX9_matter : ByteArray := prog_11_method_34_code
def yX9_matter : MethodName := ⟨RX9, "matter", "(II)I"⟩
abbrev cX9_tellDate : ByteArray := prog_11_method_35_code
def yX9_tellDate : MethodName := ⟨RX9, "tellDate", "(II)I"⟩
abbrev cX9_date : ByteArray := prog_11_method_36_code
def yX9_date : MethodName := ⟨RX9, "date", "(II)I"⟩
abbrev cX9_say : ByteArray := prog_11_method_37_code
def yX9_say : MethodName := ⟨RX9, "say", "(I)I"⟩
abbrev cX9_day : ByteArray := prog_11_method_38_code
def yX9_day : MethodName := ⟨RX9, "day", "()I"⟩
abbrev cX9_cross : ByteArray := prog_11_method_39_code
def yX9_cross : MethodName := ⟨RX9, "cross", "(I)I"⟩
abbrev cX9_open : ByteArray := prog_11_method_40_code
def yX9_open : MethodName := ⟨RX9, "open", "(II)I"⟩
abbrev cX9_change : ByteArray := prog_11_method_41_code
def yX9_change : MethodName := ⟨RX9, "change", "(III)I"⟩
abbrev cX9_figure : ByteArray := prog_11_method_42_code
def yX9_figure : MethodName := ⟨RX9, "figure", "(III)I"⟩
abbrev cX9_worthBy : ByteArray := prog_11_method_43_code
def yX9_worthBy : MethodName := ⟨RX9, "worthBy", "(II)I"⟩
abbrev cX9_bestOf : ByteArray := prog_11_method_44_code
def yX9_bestOf : MethodName := ⟨RX9, "bestOf", "(II)I"⟩
abbrev cX9_best : ByteArray := prog_11_method_45_code
def yX9_best : MethodName := ⟨RX9, "best", "(II)I"⟩
abbrev cX9_settledBy : ByteArray := prog_11_method_46_code
def yX9_settledBy : MethodName := ⟨RX9, "settledBy", "(I)I"⟩
abbrev cX9_liveOf : ByteArray := prog_11_method_47_code
def yX9_liveOf : MethodName := ⟨RX9, "liveOf", "(I)I"⟩
abbrev cX9_live : ByteArray := prog_11_method_48_code
def yX9_live : MethodName := ⟨RX9, "live", "(I)I"⟩
abbrev cX9_fogOf : ByteArray := prog_11_method_49_code
def yX9_fogOf : MethodName := ⟨RX9, "fogOf", "(IIII)I"⟩
abbrev cX9_fog : ByteArray := prog_11_method_50_code
def yX9_fog : MethodName := ⟨RX9, "fog", "(IIII)I"⟩
abbrev cX9_see : ByteArray := prog_11_method_51_code
def yX9_see : MethodName := ⟨RX9, "see", "(IIZ)I"⟩
abbrev cX9_forget : ByteArray := prog_11_method_52_code
def yX9_forget : MethodName := ⟨RX9, "forget", "()I"⟩
abbrev cX9_speakingSorts : ByteArray := prog_11_method_53_code
def yX9_speakingSorts : MethodName := ⟨RX9, "speakingSorts", "(II)I"⟩
abbrev cX9_sortsOf : ByteArray := prog_11_method_54_code
def yX9_sortsOf : MethodName := ⟨RX9, "sortsOf", "(I)I"⟩
abbrev cX9_listenOf : ByteArray := prog_11_method_55_code
def yX9_listenOf : MethodName := ⟨RX9, "listenOf", "(I)I"⟩
abbrev cX9_draw : ByteArray := prog_11_method_56_code
def yX9_draw : MethodName := ⟨RX9, "draw", "(I)I"⟩
abbrev cX9_years : ByteArray := prog_11_method_57_code
def yX9_years : MethodName := ⟨RX9, "years", "(III)I"⟩
abbrev cX9_image : ByteArray := prog_11_method_58_code
def yX9_image : MethodName := ⟨RX9, "image", "()I"⟩
abbrev cX9_restore : ByteArray := prog_11_method_59_code
def yX9_restore : MethodName := ⟨RX9, "restore", "()I"⟩
abbrev cX9_standing : ByteArray := prog_11_method_60_code
def yX9_standing : MethodName := ⟨RX9, "standing", "(I)I"⟩
abbrev cX9_onRight : ByteArray := prog_11_method_61_code
def yX9_onRight : MethodName := ⟨RX9, "onRight", "()I"⟩
abbrev cX9_countOf : ByteArray := prog_11_method_62_code
def yX9_countOf : MethodName := ⟨RX9, "countOf", "(I)I"⟩
abbrev cX9_count : ByteArray := prog_11_method_63_code
def yX9_count : MethodName := ⟨RX9, "count", "(I)I"⟩
abbrev cX9_mix : ByteArray := prog_11_method_64_code
def yX9_mix : MethodName := ⟨RX9, "mix", "(J)V"⟩
abbrev cX9_sayRiver : ByteArray := prog_11_method_65_code
def yX9_sayRiver : MethodName := ⟨RX9, "sayRiver", "()V"⟩
abbrev cX9_digest : ByteArray := prog_11_method_66_code
def yX9_digest : MethodName := ⟨RX9, "digest", "()J"⟩
def RJ11 : String := "java/lang/Character"
def TJ11 : u_T := fun k => match k with
  | _ => ("", "", "", false)
def tyJ11 : Nat → FieldType := fun k => match k with
  | _ => .int
abbrev wsJ110 : List Cond := u_ws RJ11 TJ11 0
theorem nmJ11 : ∀ a, a < 0 → ∀ b, b < 0 → a ≠ b → (TJ11 a).2.1 ≠ (TJ11 b).2.1 := by decide +kernel
theorem tyJ11_ok : ∀ k, k < 0 → parseFieldDescriptor (TJ11 k).2.2.1 = some (tyJ11 k) := by decide +kernel
abbrev cJ11_isValidCodePoint_9a6ad : ByteArray := prog_12_method_11_code
def yJ11_isValidCodePoint_9a6ad : MethodName := ⟨RJ11, "isValidCodePoint", "(I)Z"⟩
abbrev cJ11_highSurrogate_5068e : ByteArray := prog_12_method_28_code
def yJ11_highSurrogate_5068e : MethodName := ⟨RJ11, "highSurrogate", "(I)C"⟩
abbrev cJ11_lowSurrogate_5068e : ByteArray := prog_12_method_29_code
def yJ11_lowSurrogate_5068e : MethodName := ⟨RJ11, "lowSurrogate", "(I)C"⟩
def RJ6 : String := "java/lang/Integer"
def TJ6 : u_T := fun k => match k with
  | _ => ("", "", "", false)
def tyJ6 : Nat → FieldType := fun k => match k with
  | _ => .int
abbrev wsJ60 : List Cond := u_ws RJ6 TJ6 0
theorem nmJ6 : ∀ a, a < 0 → ∀ b, b < 0 → a ≠ b → (TJ6 a).2.1 ≠ (TJ6 b).2.1 := by decide +kernel
theorem tyJ6_ok : ∀ k, k < 0 → parseFieldDescriptor (TJ6 k).2.2.1 = some (tyJ6 k) := by decide +kernel
abbrev cJ6_bitCount_0f7a4 : ByteArray := prog_13_method_49_code
def yJ6_bitCount_0f7a4 : MethodName := ⟨RJ6, "bitCount", "(I)I"⟩
def RJ9 : String := "java/lang/Math"
def TJ9 : u_T := fun k => match k with
  | _ => ("", "", "", false)
def tyJ9 : Nat → FieldType := fun k => match k with
  | _ => .int
abbrev wsJ90 : List Cond := u_ws RJ9 TJ9 0
theorem nmJ9 : ∀ a, a < 0 → ∀ b, b < 0 → a ≠ b → (TJ9 a).2.1 ≠ (TJ9 b).2.1 := by decide +kernel
theorem tyJ9_ok : ∀ k, k < 0 → parseFieldDescriptor (TJ9 k).2.2.1 = some (tyJ9 k) := by decide +kernel
abbrev cJ9_max_7cf53 : ByteArray := prog_14_method_65_code
def yJ9_max_7cf53 : MethodName := ⟨RJ9, "max", "(II)I"⟩
abbrev cJ9_min_7cf53 : ByteArray := prog_14_method_69_code
def yJ9_min_7cf53 : MethodName := ⟨RJ9, "min", "(II)I"⟩
def RJ0 : String := "java/lang/String"
def TJ0 : u_T := fun k => match k with
  | _ => ("", "", "", false)
def tyJ0 : Nat → FieldType := fun k => match k with
  | _ => .int
abbrev wsJ00 : List Cond := u_ws RJ0 TJ0 0
theorem nmJ0 : ∀ a, a < 0 → ∀ b, b < 0 → a ≠ b → (TJ0 a).2.1 ≠ (TJ0 b).2.1 := by decide +kernel
theorem tyJ0_ok : ∀ k, k < 0 → parseFieldDescriptor (TJ0 k).2.2.1 = some (tyJ0 k) := by decide +kernel
abbrev cJ0_length_8abf5 : ByteArray := prog_15_method_54_code
def yJ0_length_8abf5 : MethodName := ⟨RJ0, "length", "()I"⟩
abbrev cJ0_indexOf_0f7a4 : ByteArray := prog_15_method_79_code
def yJ0_indexOf_0f7a4 : MethodName := ⟨RJ0, "indexOf", "(I)I"⟩
abbrev cJ0_indexOf_7cf53 : ByteArray := prog_15_method_80_code
def yJ0_indexOf_7cf53 : MethodName := ⟨RJ0, "indexOf", "(II)I"⟩
abbrev cJ0_coder_7d493 : ByteArray := prog_15_method_152_code
def yJ0_coder_7d493 : MethodName := ⟨RJ0, "coder", "()B"⟩
abbrev cJ0_isLatin1_aae02 : ByteArray := prog_15_method_154_code
def yJ0_isLatin1_aae02 : MethodName := ⟨RJ0, "isLatin1", "()Z"⟩
abbrev cJ0_checkBoundsBeginEnd_23922 : ByteArray := prog_15_method_158_code
def yJ0_checkBoundsBeginEnd_23922 : MethodName := ⟨RJ0, "checkBoundsBeginEnd", "(III)V"⟩
def RJ1 : String := "java/lang/StringLatin1"
def TJ1 : u_T := fun k => match k with
  | _ => ("", "", "", false)
def tyJ1 : Nat → FieldType := fun k => match k with
  | _ => .int
abbrev wsJ10 : List Cond := u_ws RJ1 TJ1 0
theorem nmJ1 : ∀ a, a < 0 → ∀ b, b < 0 → a ≠ b → (TJ1 a).2.1 ≠ (TJ1 b).2.1 := by decide +kernel
theorem tyJ1_ok : ∀ k, k < 0 → parseFieldDescriptor (TJ1 k).2.2.1 = some (tyJ1 k) := by decide +kernel
abbrev cJ1_canEncode_9a6ad : ByteArray := prog_16_method_4_code
def yJ1_canEncode_9a6ad : MethodName := ⟨RJ1, "canEncode", "(I)Z"⟩
abbrev cJ1_indexOf_4cfef : ByteArray := prog_16_method_22_code
def yJ1_indexOf_4cfef : MethodName := ⟨RJ1, "indexOf", "([BIII)I"⟩
abbrev cJ1_indexOfChar_4cfef : ByteArray := prog_16_method_23_code
def yJ1_indexOfChar_4cfef : MethodName := ⟨RJ1, "indexOfChar", "([BIII)I"⟩
def RJ2 : String := "java/lang/StringUTF16"
def TJ2 : u_T := fun k => match k with
  | _ => ("", "", "", false)
def tyJ2 : Nat → FieldType := fun k => match k with
  | _ => .int
abbrev wsJ20 : List Cond := u_ws RJ2 TJ2 0
theorem nmJ2 : ∀ a, a < 0 → ∀ b, b < 0 → a ≠ b → (TJ2 a).2.1 ≠ (TJ2 b).2.1 := by decide +kernel
theorem tyJ2_ok : ∀ k, k < 0 → parseFieldDescriptor (TJ2 k).2.2.1 = some (tyJ2 k) := by decide +kernel
abbrev cJ2_getChar_3b067 : ByteArray := prog_17_method_5_code
def yJ2_getChar_3b067 : MethodName := ⟨RJ2, "getChar", "([BI)C"⟩
abbrev cJ2_length_9d52b : ByteArray := prog_17_method_6_code
def yJ2_length_9d52b : MethodName := ⟨RJ2, "length", "([B)I"⟩
abbrev cJ2_indexOf_4cfef : ByteArray := prog_17_method_40_code
def yJ2_indexOf_4cfef : MethodName := ⟨RJ2, "indexOf", "([BIII)I"⟩
abbrev cJ2_indexOfChar_4cfef : ByteArray := prog_17_method_47_code
def yJ2_indexOfChar_4cfef : MethodName := ⟨RJ2, "indexOfChar", "([BIII)I"⟩
abbrev cJ2_indexOfCharUnsafe_4cfef : ByteArray := prog_17_method_48_code
def yJ2_indexOfCharUnsafe_4cfef : MethodName := ⟨RJ2, "indexOfCharUnsafe", "([BIII)I"⟩
abbrev cJ2_indexOfSupplementary_4cfef : ByteArray := prog_17_method_49_code
def yJ2_indexOfSupplementary_4cfef : MethodName := ⟨RJ2, "indexOfSupplementary", "([BIII)I"⟩
abbrev cJ2_checkBoundsBeginEnd_d044e : ByteArray := prog_17_method_93_code
def yJ2_checkBoundsBeginEnd_d044e : MethodName := ⟨RJ2, "checkBoundsBeginEnd", "(II[B)V"⟩
def RJ10 : String := "java/lang/System"
def TJ10 : u_T := fun k => match k with
  | _ => ("", "", "", false)
def tyJ10 : Nat → FieldType := fun k => match k with
  | _ => .int
abbrev wsJ100 : List Cond := u_ws RJ10 TJ10 0
theorem nmJ10 : ∀ a, a < 0 → ∀ b, b < 0 → a ≠ b → (TJ10 a).2.1 ≠ (TJ10 b).2.1 := by decide +kernel
theorem tyJ10_ok : ∀ k, k < 0 → parseFieldDescriptor (TJ10 k).2.2.1 = some (tyJ10 k) := by decide +kernel
def RJ3 : String := "jdk/internal/util/Preconditions"
def TJ3 : u_T := fun k => match k with
  | _ => ("", "", "", false)
def tyJ3 : Nat → FieldType := fun k => match k with
  | _ => .int
abbrev wsJ30 : List Cond := u_ws RJ3 TJ3 0
theorem nmJ3 : ∀ a, a < 0 → ∀ b, b < 0 → a ≠ b → (TJ3 a).2.1 ≠ (TJ3 b).2.1 := by decide +kernel
theorem tyJ3_ok : ∀ k, k < 0 → parseFieldDescriptor (TJ3 k).2.2.1 = some (tyJ3 k) := by decide +kernel
abbrev cJ3_checkFromToIndex_8c36e : ByteArray := prog_19_method_12_code
def yJ3_checkFromToIndex_8c36e : MethodName := ⟨RJ3, "checkFromToIndex", "(IIILjava/util/function/BiFunction;)I"⟩
def RL : String := "OddBankLaw"
abbrev cL_law : ByteArray := code
def yL_law : MethodName := ⟨RL, "law", "([I)Z"⟩
