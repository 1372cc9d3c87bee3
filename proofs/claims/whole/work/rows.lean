section
-- ===== PART A: goes FIRST, ahead of the names: the tables' words, and 'selects' of the private methods out of them =====
/-- a private method of a class that the tables say can be made, by its rows of tables_1 -/
def lw_okq (q : MethodName × Nat) : Prop := (q.1.cls ≠ "java/lang/invoke/MethodHandle" ∧ q.1.cls ≠ "java/lang/invoke/VarHandle") ∧ Cond.instantiable q.1.cls q.2 ∈ tables_1 ∧ Cond.privateMethod q.1 ∈ tables_1 ∧ Cond.instanceMethod q.1 ∈ tables_1
theorem lw_p0 : lw_okq (⟨"OddBank$Page", "fitsPeople", "(I)Z"⟩, 2) := ⟨⟨by decide +kernel, by decide +kernel⟩, List.mem_of_getElem? (i := 28) (by decide +kernel), List.mem_of_getElem? (i := 241) (by decide +kernel), List.mem_of_getElem? (i := 242) (by decide +kernel)⟩
theorem lw_p1 : lw_okq (⟨"OddBank$Page", "fitsMatters", "(II)Z"⟩, 2) := ⟨⟨by decide +kernel, by decide +kernel⟩, List.mem_of_getElem? (i := 28) (by decide +kernel), List.mem_of_getElem? (i := 335) (by decide +kernel), List.mem_of_getElem? (i := 336) (by decide +kernel)⟩
theorem lw_p2 : lw_okq (⟨"OddBank$Page", "peopleTold", "()I"⟩, 2) := ⟨⟨by decide +kernel, by decide +kernel⟩, List.mem_of_getElem? (i := 28) (by decide +kernel), List.mem_of_getElem? (i := 349) (by decide +kernel), List.mem_of_getElem? (i := 350) (by decide +kernel)⟩
theorem lw_p3 : lw_okq (⟨"OddBank$World", "speaksWith", "(III)Z"⟩, 13) := ⟨⟨by decide +kernel, by decide +kernel⟩, List.mem_of_getElem? (i := 44) (by decide +kernel), List.mem_of_getElem? (i := 391) (by decide +kernel), List.mem_of_getElem? (i := 392) (by decide +kernel)⟩
theorem lw_p4 : lw_okq (⟨"OddBank$Plan", "keepIfBetter", "(LOddBank$World;II)V"⟩, 8) := ⟨⟨by decide +kernel, by decide +kernel⟩, List.mem_of_getElem? (i := 144) (by decide +kernel), List.mem_of_getElem? (i := 536) (by decide +kernel), List.mem_of_getElem? (i := 537) (by decide +kernel)⟩
theorem lw_p5 : lw_okq (⟨"OddBank$Plan", "howManyAsked", "(I)I"⟩, 8) := ⟨⟨by decide +kernel, by decide +kernel⟩, List.mem_of_getElem? (i := 144) (by decide +kernel), List.mem_of_getElem? (i := 540) (by decide +kernel), List.mem_of_getElem? (i := 541) (by decide +kernel)⟩
theorem lw_p6 : lw_okq (⟨"OddBank$Course", "passDay", "(LOddBank$World;I)V"⟩, 4) := ⟨⟨by decide +kernel, by decide +kernel⟩, List.mem_of_getElem? (i := 177) (by decide +kernel), List.mem_of_getElem? (i := 596) (by decide +kernel), List.mem_of_getElem? (i := 597) (by decide +kernel)⟩
theorem lw_p7 : lw_okq (⟨"OddBank$Course", "draw", "(I)I"⟩, 4) := ⟨⟨by decide +kernel, by decide +kernel⟩, List.mem_of_getElem? (i := 177) (by decide +kernel), List.mem_of_getElem? (i := 600) (by decide +kernel), List.mem_of_getElem? (i := 601) (by decide +kernel)⟩
theorem lw_p8 : lw_okq (⟨"OddBank", "withDates", "(J)J"⟩, 7) := ⟨⟨by decide +kernel, by decide +kernel⟩, List.mem_of_getElem? (i := 20) (by decide +kernel), List.mem_of_getElem? (i := 645) (by decide +kernel), List.mem_of_getElem? (i := 646) (by decide +kernel)⟩
theorem lw_p9 : lw_okq (⟨"OddBankModel", "faultOf", "()I"⟩, 39) := ⟨⟨by decide +kernel, by decide +kernel⟩, List.mem_of_getElem? (i := 652) (by decide +kernel), List.mem_of_getElem? (i := 792) (by decide +kernel), List.mem_of_getElem? (i := 793) (by decide +kernel)⟩
theorem lw_p10 : lw_okq (⟨"OddBankModel", "isPersonLetter", "(I)Z"⟩, 39) := ⟨⟨by decide +kernel, by decide +kernel⟩, List.mem_of_getElem? (i := 652) (by decide +kernel), List.mem_of_getElem? (i := 796) (by decide +kernel), List.mem_of_getElem? (i := 797) (by decide +kernel)⟩
theorem lw_p11 : lw_okq (⟨"OddBankModel", "isMatterLetter", "(I)Z"⟩, 39) := ⟨⟨by decide +kernel, by decide +kernel⟩, List.mem_of_getElem? (i := 652) (by decide +kernel), List.mem_of_getElem? (i := 805) (by decide +kernel), List.mem_of_getElem? (i := 806) (by decide +kernel)⟩
theorem lw_p12 : lw_okq (⟨"OddBankModel", "isPersonDigit", "(I)Z"⟩, 39) := ⟨⟨by decide +kernel, by decide +kernel⟩, List.mem_of_getElem? (i := 652) (by decide +kernel), List.mem_of_getElem? (i := 809) (by decide +kernel), List.mem_of_getElem? (i := 810) (by decide +kernel)⟩
theorem lw_p13 : lw_okq (⟨"OddBankModel", "isPerson", "(I)Z"⟩, 39) := ⟨⟨by decide +kernel, by decide +kernel⟩, List.mem_of_getElem? (i := 652) (by decide +kernel), List.mem_of_getElem? (i := 822) (by decide +kernel), List.mem_of_getElem? (i := 823) (by decide +kernel)⟩
theorem lw_p14 : lw_okq (⟨"OddBankModel", "tellPerson", "(II)I"⟩, 39) := ⟨⟨by decide +kernel, by decide +kernel⟩, List.mem_of_getElem? (i := 652) (by decide +kernel), List.mem_of_getElem? (i := 826) (by decide +kernel), List.mem_of_getElem? (i := 827) (by decide +kernel)⟩
theorem lw_p15 : lw_okq (⟨"OddBankModel", "maySpeak", "(II)Z"⟩, 39) := ⟨⟨by decide +kernel, by decide +kernel⟩, List.mem_of_getElem? (i := 652) (by decide +kernel), List.mem_of_getElem? (i := 830) (by decide +kernel), List.mem_of_getElem? (i := 831) (by decide +kernel)⟩
def lw_privs_1 : List (MethodName × Nat) := [(⟨"OddBank$Page", "fitsPeople", "(I)Z"⟩, 2), (⟨"OddBank$Page", "fitsMatters", "(II)Z"⟩, 2), (⟨"OddBank$Page", "peopleTold", "()I"⟩, 2), (⟨"OddBank$World", "speaksWith", "(III)Z"⟩, 13), (⟨"OddBank$Plan", "keepIfBetter", "(LOddBank$World;II)V"⟩, 8), (⟨"OddBank$Plan", "howManyAsked", "(I)I"⟩, 8), (⟨"OddBank$Course", "passDay", "(LOddBank$World;I)V"⟩, 4), (⟨"OddBank$Course", "draw", "(I)I"⟩, 4), (⟨"OddBank", "withDates", "(J)J"⟩, 7), (⟨"OddBankModel", "faultOf", "()I"⟩, 39), (⟨"OddBankModel", "isPersonLetter", "(I)Z"⟩, 39), (⟨"OddBankModel", "isMatterLetter", "(I)Z"⟩, 39), (⟨"OddBankModel", "isPersonDigit", "(I)Z"⟩, 39), (⟨"OddBankModel", "isPerson", "(I)Z"⟩, 39), (⟨"OddBankModel", "tellPerson", "(II)I"⟩, 39), (⟨"OddBankModel", "maySpeak", "(II)Z"⟩, 39)]
theorem lw_r1 : ∀ q ∈ lw_privs_1, lw_okq q := List.forall_mem_cons.mpr ⟨lw_p0, List.forall_mem_cons.mpr ⟨lw_p1, List.forall_mem_cons.mpr ⟨lw_p2, List.forall_mem_cons.mpr ⟨lw_p3, List.forall_mem_cons.mpr ⟨lw_p4, List.forall_mem_cons.mpr ⟨lw_p5, List.forall_mem_cons.mpr ⟨lw_p6, List.forall_mem_cons.mpr ⟨lw_p7, List.forall_mem_cons.mpr ⟨lw_p8, List.forall_mem_cons.mpr ⟨lw_p9, List.forall_mem_cons.mpr ⟨lw_p10, List.forall_mem_cons.mpr ⟨lw_p11, List.forall_mem_cons.mpr ⟨lw_p12, List.forall_mem_cons.mpr ⟨lw_p13, List.forall_mem_cons.mpr ⟨lw_p14, List.forall_mem_cons.mpr ⟨lw_p15, fun _ h => absurd h List.not_mem_nil⟩⟩⟩⟩⟩⟩⟩⟩⟩⟩⟩⟩⟩⟩⟩⟩
theorem lw_p16 : lw_okq (⟨"OddBankModel", "layDate", "(I)V"⟩, 39) := ⟨⟨by decide +kernel, by decide +kernel⟩, List.mem_of_getElem? (i := 652) (by decide +kernel), List.mem_of_getElem? (i := 834) (by decide +kernel), List.mem_of_getElem? (i := 835) (by decide +kernel)⟩
theorem lw_p17 : lw_okq (⟨"OddBankModel", "isSpeaking", "(III)Z"⟩, 39) := ⟨⟨by decide +kernel, by decide +kernel⟩, List.mem_of_getElem? (i := 652) (by decide +kernel), List.mem_of_getElem? (i := 841) (by decide +kernel), List.mem_of_getElem? (i := 842) (by decide +kernel)⟩
theorem lw_p18 : lw_okq (⟨"OddBankModel", "isBankOn", "(I)Z"⟩, 39) := ⟨⟨by decide +kernel, by decide +kernel⟩, List.mem_of_getElem? (i := 652) (by decide +kernel), List.mem_of_getElem? (i := 845) (by decide +kernel), List.mem_of_getElem? (i := 846) (by decide +kernel)⟩
theorem lw_p19 : lw_okq (⟨"OddBankModel", "speakingDays", "(I)I"⟩, 39) := ⟨⟨by decide +kernel, by decide +kernel⟩, List.mem_of_getElem? (i := 652) (by decide +kernel), List.mem_of_getElem? (i := 849) (by decide +kernel), List.mem_of_getElem? (i := 850) (by decide +kernel)⟩
theorem lw_p20 : lw_okq (⟨"OddBankModel", "sortsOf", "(I)I"⟩, 39) := ⟨⟨by decide +kernel, by decide +kernel⟩, List.mem_of_getElem? (i := 652) (by decide +kernel), List.mem_of_getElem? (i := 853) (by decide +kernel), List.mem_of_getElem? (i := 854) (by decide +kernel)⟩
theorem lw_p21 : lw_okq (⟨"OddBankModel", "speakingSorts", "(II)I"⟩, 39) := ⟨⟨by decide +kernel, by decide +kernel⟩, List.mem_of_getElem? (i := 652) (by decide +kernel), List.mem_of_getElem? (i := 857) (by decide +kernel), List.mem_of_getElem? (i := 858) (by decide +kernel)⟩
theorem lw_p22 : lw_okq (⟨"OddBankModel", "listenOf", "(I)I"⟩, 39) := ⟨⟨by decide +kernel, by decide +kernel⟩, List.mem_of_getElem? (i := 652) (by decide +kernel), List.mem_of_getElem? (i := 861) (by decide +kernel), List.mem_of_getElem? (i := 862) (by decide +kernel)⟩
theorem lw_p23 : lw_okq (⟨"OddBankModel", "isMatter", "(I)Z"⟩, 39) := ⟨⟨by decide +kernel, by decide +kernel⟩, List.mem_of_getElem? (i := 652) (by decide +kernel), List.mem_of_getElem? (i := 877) (by decide +kernel), List.mem_of_getElem? (i := 878) (by decide +kernel)⟩
theorem lw_p24 : lw_okq (⟨"OddBankModel", "tellMatter", "(II)I"⟩, 39) := ⟨⟨by decide +kernel, by decide +kernel⟩, List.mem_of_getElem? (i := 652) (by decide +kernel), List.mem_of_getElem? (i := 881) (by decide +kernel), List.mem_of_getElem? (i := 882) (by decide +kernel)⟩
theorem lw_p25 : lw_okq (⟨"OddBankModel", "begin", "()V"⟩, 39) := ⟨⟨by decide +kernel, by decide +kernel⟩, List.mem_of_getElem? (i := 652) (by decide +kernel), List.mem_of_getElem? (i := 885) (by decide +kernel), List.mem_of_getElem? (i := 886) (by decide +kernel)⟩
theorem lw_p26 : lw_okq (⟨"OddBankModel", "canThen", "(II)Z"⟩, 39) := ⟨⟨by decide +kernel, by decide +kernel⟩, List.mem_of_getElem? (i := 652) (by decide +kernel), List.mem_of_getElem? (i := 892) (by decide +kernel), List.mem_of_getElem? (i := 893) (by decide +kernel)⟩
theorem lw_p27 : lw_okq (⟨"OddBankModel", "valueOf", "(II)I"⟩, 39) := ⟨⟨by decide +kernel, by decide +kernel⟩, List.mem_of_getElem? (i := 652) (by decide +kernel), List.mem_of_getElem? (i := 896) (by decide +kernel), List.mem_of_getElem? (i := 897) (by decide +kernel)⟩
theorem lw_p28 : lw_okq (⟨"OddBankModel", "soonOf", "(I)I"⟩, 39) := ⟨⟨by decide +kernel, by decide +kernel⟩, List.mem_of_getElem? (i := 652) (by decide +kernel), List.mem_of_getElem? (i := 900) (by decide +kernel), List.mem_of_getElem? (i := 901) (by decide +kernel)⟩
theorem lw_p29 : lw_okq (⟨"OddBankModel", "sayThen", "(II)I"⟩, 39) := ⟨⟨by decide +kernel, by decide +kernel⟩, List.mem_of_getElem? (i := 652) (by decide +kernel), List.mem_of_getElem? (i := 904) (by decide +kernel), List.mem_of_getElem? (i := 905) (by decide +kernel)⟩
theorem lw_p30 : lw_okq (⟨"OddBankModel", "lacks", "()Z"⟩, 39) := ⟨⟨by decide +kernel, by decide +kernel⟩, List.mem_of_getElem? (i := 652) (by decide +kernel), List.mem_of_getElem? (i := 914) (by decide +kernel), List.mem_of_getElem? (i := 915) (by decide +kernel)⟩
theorem lw_p31 : lw_okq (⟨"OddBankModel", "tellDate", "(II)I"⟩, 39) := ⟨⟨by decide +kernel, by decide +kernel⟩, List.mem_of_getElem? (i := 652) (by decide +kernel), List.mem_of_getElem? (i := 918) (by decide +kernel), List.mem_of_getElem? (i := 919) (by decide +kernel)⟩
def lw_privs_2 : List (MethodName × Nat) := [(⟨"OddBankModel", "layDate", "(I)V"⟩, 39), (⟨"OddBankModel", "isSpeaking", "(III)Z"⟩, 39), (⟨"OddBankModel", "isBankOn", "(I)Z"⟩, 39), (⟨"OddBankModel", "speakingDays", "(I)I"⟩, 39), (⟨"OddBankModel", "sortsOf", "(I)I"⟩, 39), (⟨"OddBankModel", "speakingSorts", "(II)I"⟩, 39), (⟨"OddBankModel", "listenOf", "(I)I"⟩, 39), (⟨"OddBankModel", "isMatter", "(I)Z"⟩, 39), (⟨"OddBankModel", "tellMatter", "(II)I"⟩, 39), (⟨"OddBankModel", "begin", "()V"⟩, 39), (⟨"OddBankModel", "canThen", "(II)Z"⟩, 39), (⟨"OddBankModel", "valueOf", "(II)I"⟩, 39), (⟨"OddBankModel", "soonOf", "(I)I"⟩, 39), (⟨"OddBankModel", "sayThen", "(II)I"⟩, 39), (⟨"OddBankModel", "lacks", "()Z"⟩, 39), (⟨"OddBankModel", "tellDate", "(II)I"⟩, 39)]
theorem lw_r2 : ∀ q ∈ lw_privs_2, lw_okq q := List.forall_mem_cons.mpr ⟨lw_p16, List.forall_mem_cons.mpr ⟨lw_p17, List.forall_mem_cons.mpr ⟨lw_p18, List.forall_mem_cons.mpr ⟨lw_p19, List.forall_mem_cons.mpr ⟨lw_p20, List.forall_mem_cons.mpr ⟨lw_p21, List.forall_mem_cons.mpr ⟨lw_p22, List.forall_mem_cons.mpr ⟨lw_p23, List.forall_mem_cons.mpr ⟨lw_p24, List.forall_mem_cons.mpr ⟨lw_p25, List.forall_mem_cons.mpr ⟨lw_p26, List.forall_mem_cons.mpr ⟨lw_p27, List.forall_mem_cons.mpr ⟨lw_p28, List.forall_mem_cons.mpr ⟨lw_p29, List.forall_mem_cons.mpr ⟨lw_p30, List.forall_mem_cons.mpr ⟨lw_p31, fun _ h => absurd h List.not_mem_nil⟩⟩⟩⟩⟩⟩⟩⟩⟩⟩⟩⟩⟩⟩⟩⟩
theorem lw_p32 : lw_okq (⟨"OddBankModel", "speakers", "(I)I"⟩, 39) := ⟨⟨by decide +kernel, by decide +kernel⟩, List.mem_of_getElem? (i := 652) (by decide +kernel), List.mem_of_getElem? (i := 922) (by decide +kernel), List.mem_of_getElem? (i := 923) (by decide +kernel)⟩
theorem lw_p33 : lw_okq (⟨"OddBankModel", "keep", "()V"⟩, 39) := ⟨⟨by decide +kernel, by decide +kernel⟩, List.mem_of_getElem? (i := 652) (by decide +kernel), List.mem_of_getElem? (i := 930) (by decide +kernel), List.mem_of_getElem? (i := 931) (by decide +kernel)⟩
theorem lw_p34 : lw_okq (⟨"OddBankModel", "bestOf", "(II)I"⟩, 39) := ⟨⟨by decide +kernel, by decide +kernel⟩, List.mem_of_getElem? (i := 652) (by decide +kernel), List.mem_of_getElem? (i := 958) (by decide +kernel), List.mem_of_getElem? (i := 959) (by decide +kernel)⟩
theorem lw_p35 : lw_okq (⟨"OddBankModel", "worthBy", "(II)I"⟩, 39) := ⟨⟨by decide +kernel, by decide +kernel⟩, List.mem_of_getElem? (i := 652) (by decide +kernel), List.mem_of_getElem? (i := 962) (by decide +kernel), List.mem_of_getElem? (i := 963) (by decide +kernel)⟩
theorem lw_p36 : lw_okq (⟨"OddBankModel", "liveOf", "(I)I"⟩, 39) := ⟨⟨by decide +kernel, by decide +kernel⟩, List.mem_of_getElem? (i := 652) (by decide +kernel), List.mem_of_getElem? (i := 973) (by decide +kernel), List.mem_of_getElem? (i := 974) (by decide +kernel)⟩
theorem lw_p37 : lw_okq (⟨"OddBankModel", "settledBy", "(I)I"⟩, 39) := ⟨⟨by decide +kernel, by decide +kernel⟩, List.mem_of_getElem? (i := 652) (by decide +kernel), List.mem_of_getElem? (i := 977) (by decide +kernel), List.mem_of_getElem? (i := 978) (by decide +kernel)⟩
theorem lw_p38 : lw_okq (⟨"OddBankModel", "fogOf", "(IIII)I"⟩, 39) := ⟨⟨by decide +kernel, by decide +kernel⟩, List.mem_of_getElem? (i := 652) (by decide +kernel), List.mem_of_getElem? (i := 986) (by decide +kernel), List.mem_of_getElem? (i := 987) (by decide +kernel)⟩
theorem lw_p39 : lw_okq (⟨"OddBankModel", "draw", "(I)I"⟩, 39) := ⟨⟨by decide +kernel, by decide +kernel⟩, List.mem_of_getElem? (i := 652) (by decide +kernel), List.mem_of_getElem? (i := 1005) (by decide +kernel), List.mem_of_getElem? (i := 1006) (by decide +kernel)⟩
theorem lw_p40 : lw_okq (⟨"OddBankModel", "countOf", "(I)I"⟩, 39) := ⟨⟨by decide +kernel, by decide +kernel⟩, List.mem_of_getElem? (i := 652) (by decide +kernel), List.mem_of_getElem? (i := 1025) (by decide +kernel), List.mem_of_getElem? (i := 1026) (by decide +kernel)⟩
theorem lw_p41 : lw_okq (⟨"OddBankModel", "onRight", "()I"⟩, 39) := ⟨⟨by decide +kernel, by decide +kernel⟩, List.mem_of_getElem? (i := 652) (by decide +kernel), List.mem_of_getElem? (i := 1029) (by decide +kernel), List.mem_of_getElem? (i := 1030) (by decide +kernel)⟩
theorem lw_p42 : lw_okq (⟨"OddBankModel", "standing", "(I)I"⟩, 39) := ⟨⟨by decide +kernel, by decide +kernel⟩, List.mem_of_getElem? (i := 652) (by decide +kernel), List.mem_of_getElem? (i := 1033) (by decide +kernel), List.mem_of_getElem? (i := 1034) (by decide +kernel)⟩
theorem lw_p43 : lw_okq (⟨"OddBankModel", "mix", "(J)V"⟩, 39) := ⟨⟨by decide +kernel, by decide +kernel⟩, List.mem_of_getElem? (i := 652) (by decide +kernel), List.mem_of_getElem? (i := 1042) (by decide +kernel), List.mem_of_getElem? (i := 1043) (by decide +kernel)⟩
theorem lw_p44 : lw_okq (⟨"OddBankModel", "sayRiver", "()V"⟩, 39) := ⟨⟨by decide +kernel, by decide +kernel⟩, List.mem_of_getElem? (i := 652) (by decide +kernel), List.mem_of_getElem? (i := 1046) (by decide +kernel), List.mem_of_getElem? (i := 1047) (by decide +kernel)⟩
def lw_privs_3 : List (MethodName × Nat) := [(⟨"OddBankModel", "speakers", "(I)I"⟩, 39), (⟨"OddBankModel", "keep", "()V"⟩, 39), (⟨"OddBankModel", "bestOf", "(II)I"⟩, 39), (⟨"OddBankModel", "worthBy", "(II)I"⟩, 39), (⟨"OddBankModel", "liveOf", "(I)I"⟩, 39), (⟨"OddBankModel", "settledBy", "(I)I"⟩, 39), (⟨"OddBankModel", "fogOf", "(IIII)I"⟩, 39), (⟨"OddBankModel", "draw", "(I)I"⟩, 39), (⟨"OddBankModel", "countOf", "(I)I"⟩, 39), (⟨"OddBankModel", "onRight", "()I"⟩, 39), (⟨"OddBankModel", "standing", "(I)I"⟩, 39), (⟨"OddBankModel", "mix", "(J)V"⟩, 39), (⟨"OddBankModel", "sayRiver", "()V"⟩, 39)]
theorem lw_r3 : ∀ q ∈ lw_privs_3, lw_okq q := List.forall_mem_cons.mpr ⟨lw_p32, List.forall_mem_cons.mpr ⟨lw_p33, List.forall_mem_cons.mpr ⟨lw_p34, List.forall_mem_cons.mpr ⟨lw_p35, List.forall_mem_cons.mpr ⟨lw_p36, List.forall_mem_cons.mpr ⟨lw_p37, List.forall_mem_cons.mpr ⟨lw_p38, List.forall_mem_cons.mpr ⟨lw_p39, List.forall_mem_cons.mpr ⟨lw_p40, List.forall_mem_cons.mpr ⟨lw_p41, List.forall_mem_cons.mpr ⟨lw_p42, List.forall_mem_cons.mpr ⟨lw_p43, List.forall_mem_cons.mpr ⟨lw_p44, fun _ h => absurd h List.not_mem_nil⟩⟩⟩⟩⟩⟩⟩⟩⟩⟩⟩⟩⟩
def lw_privs : List (MethodName × Nat) := lw_privs_1 ++ (lw_privs_2 ++ (lw_privs_3))
def lw_tbl : List Cond := k2_sels lw_privs ++ tables_1
theorem lw_privs_ok : ∀ q ∈ lw_privs, lw_okq q := by
  show ∀ q ∈ lw_privs_1 ++ (lw_privs_2 ++ (lw_privs_3)), lw_okq q
  exact List.forall_mem_append.mpr ⟨lw_r1, List.forall_mem_append.mpr ⟨lw_r2, lw_r3⟩⟩
-- ===== end of PART A; then your names; then what follows =====
/-! ===== BEGIN words of one list among another's, by their places ===== -/
theorem goodIn_r {big : List Cond} (ws : List Cond) (ps : List Nat) (hp : ws = ps.filterMap (fun i => big[i]?)) (h : ws.all goodWord = true) : GoodIn big ws := by
  intro w hw
  have h1 := List.all_eq_true.mp h w hw
  rw [hp] at hw
  obtain ⟨i, -, hi⟩ := List.mem_filterMap.mp hw
  have hm : w ∈ big := by first | exact List.mem_of_getElem? hi | exact List.getElem?_mem hi
  exact ⟨hm, good_of_word h1⟩
theorem goodIn_app {big a b : List Cond} (ha : GoodIn big a) (hb : GoodIn big b) : GoodIn big (a ++ b) := fun w h => (List.mem_append.mp h).elim (ha w) (hb w)
theorem goodIn_ca {big a b : List Cond} {c : Cond} (ha : GoodIn big (c :: a)) (hb : GoodIn big b) : GoodIn big (c :: (a ++ b)) := fun w h => (List.mem_cons.mp h).elim (fun e => ha w (List.mem_cons.mpr (Or.inl e))) (fun h => (List.mem_append.mp h).elim (fun h => ha w (List.mem_cons.mpr (Or.inr h))) (hb w))
theorem goodIn_sub {big ws : List Cond} (hm : ∀ w ∈ ws, w ∈ big) (h : ws.all goodWord = true) : GoodIn big ws := fun w hw => ⟨hm w hw, good_of_word (List.all_eq_true.mp h w hw)⟩
/-! ===== END ===== -/

/-! ===== BEGIN printed: names, fields, word lists, decode rows ===== -/
def RX0 : String := "OddBank$Calendar"
def TX0 : u_T := fun k => match k with
  | _ => ("", "", "", false)
def tyX0 : Nat → FieldType := fun k => match k with
  | _ => .int
abbrev wsX00 : List Cond := u_ws RX0 TX0 0
theorem nmX0 : ∀ a, a < 0 → ∀ b, b < 0 → a ≠ b → (TX0 a).2.1 ≠ (TX0 b).2.1 := by decide +kernel
theorem tyX0_ok : ∀ k, k < 0 → parseFieldDescriptor (TX0 k).2.2.1 = some (tyX0 k) := by decide +kernel
abbrev cX0_yearOf : ByteArray := prog_2_method_2_code
def yX0_yearOf : MethodName := ⟨RX0, "yearOf", "(I)I"⟩
abbrev cX0_monthOf : ByteArray := prog_2_method_3_code
def yX0_monthOf : MethodName := ⟨RX0, "monthOf", "(I)I"⟩
abbrev cX0_dateOf : ByteArray := prog_2_method_4_code
def yX0_dateOf : MethodName := ⟨RX0, "dateOf", "(I)I"⟩
abbrev cX0_voicesOn : ByteArray := prog_2_method_5_code
def yX0_voicesOn : MethodName := ⟨RX0, "voicesOn", "(I)I"⟩
abbrev cX0_monthAndDate : ByteArray := prog_2_method_6_code
def yX0_monthAndDate : MethodName := ⟨RX0, "monthAndDate", "(I)I"⟩
def RX1 : String := "OddBank$Course"
def TX1 : u_T := fun k => match k with
  | 0 => ("OddBank$Course", "asked", "[I", true)
  | 1 => ("OddBank$Course", "worth", "I", false)
  | 2 => ("OddBank$Course", "settled", "I", false)
  | _ => ("OddBank$Course", "seed", "I", false)
def tyX1 : Nat → FieldType := fun k => match k with
  | 0 => .array .int
  | 1 => .int
  | 2 => .int
  | _ => .int
abbrev wsX10 : List Cond := u_ws RX1 TX1 4
theorem nmX1 : ∀ a, a < 4 → ∀ b, b < 4 → a ≠ b → (TX1 a).2.1 ≠ (TX1 b).2.1 := by decide +kernel
theorem tyX1_ok : ∀ k, k < 4 → parseFieldDescriptor (TX1 k).2.2.1 = some (tyX1 k) := by decide +kernel
abbrev cX1_init : ByteArray := prog_3_method_1_code
def yX1_init : MethodName := ⟨RX1, "<init>", "()V"⟩
abbrev cX1_run : ByteArray := prog_3_method_2_code
def yX1_run : MethodName := ⟨RX1, "run", "(LOddBank$World;II)V"⟩
abbrev cX1_passDay : ByteArray := prog_3_method_3_code
def yX1_passDay : MethodName := ⟨RX1, "passDay", "(LOddBank$World;I)V"⟩
abbrev cX1_draw : ByteArray := prog_3_method_4_code
def yX1_draw : MethodName := ⟨RX1, "draw", "(I)I"⟩
def RX2 : String := "OddBank$Outlook"
def TX2 : u_T := fun k => match k with
  | _ => ("", "", "", false)
def tyX2 : Nat → FieldType := fun k => match k with
  | _ => .int
abbrev wsX20 : List Cond := u_ws RX2 TX2 0
theorem nmX2 : ∀ a, a < 0 → ∀ b, b < 0 → a ≠ b → (TX2 a).2.1 ≠ (TX2 b).2.1 := by decide +kernel
theorem tyX2_ok : ∀ k, k < 0 → parseFieldDescriptor (TX2 k).2.2.1 = some (tyX2 k) := by decide +kernel
abbrev cX2_soonest : ByteArray := prog_4_method_2_code
def yX2_soonest : MethodName := ⟨RX2, "soonest", "(LOddBank$World;I)I"⟩
abbrev cX2_bestHomes : ByteArray := prog_4_method_3_code
def yX2_bestHomes : MethodName := ⟨RX2, "bestHomes", "(LOddBank$World;)I"⟩
abbrev cX2_settledByTomorrow : ByteArray := prog_4_method_4_code
def yX2_settledByTomorrow : MethodName := ⟨RX2, "settledByTomorrow", "(LOddBank$World;I)I"⟩
abbrev cX2_settledBy : ByteArray := prog_4_method_5_code
def yX2_settledBy : MethodName := ⟨RX2, "settledBy", "(LOddBank$World;II)I"⟩
abbrev cX2_partsSettled : ByteArray := prog_4_method_6_code
def yX2_partsSettled : MethodName := ⟨RX2, "partsSettled", "(LOddBank$World;III)I"⟩
abbrev cX2_lowestTerms : ByteArray := prog_4_method_7_code
def yX2_lowestTerms : MethodName := ⟨RX2, "lowestTerms", "(IIZ)I"⟩
def RX3 : String := "OddBank$Page"
def TX3 : u_T := fun k => match k with
  | 0 => ("OddBank$Page", "letters", "[I", true)
  | _ => ("OddBank$Page", "length", "I", false)
def tyX3 : Nat → FieldType := fun k => match k with
  | 0 => .array .int
  | _ => .int
abbrev wsX30 : List Cond := u_ws RX3 TX3 2
theorem nmX3 : ∀ a, a < 2 → ∀ b, b < 2 → a ≠ b → (TX3 a).2.1 ≠ (TX3 b).2.1 := by decide +kernel
theorem tyX3_ok : ∀ k, k < 2 → parseFieldDescriptor (TX3 k).2.2.1 = some (tyX3 k) := by decide +kernel
abbrev cX3_init : ByteArray := prog_5_method_1_code
def yX3_init : MethodName := ⟨RX3, "<init>", "()V"⟩
abbrev cX3_append : ByteArray := prog_5_method_2_code
def yX3_append : MethodName := ⟨RX3, "append", "(I)Z"⟩
abbrev cX3_firstFault : ByteArray := prog_5_method_3_code
def yX3_firstFault : MethodName := ⟨RX3, "firstFault", "()I"⟩
abbrev cX3_fitsPeople : ByteArray := prog_5_method_4_code
def yX3_fitsPeople : MethodName := ⟨RX3, "fitsPeople", "(I)Z"⟩
abbrev cX3_fitsMatters : ByteArray := prog_5_method_5_code
def yX3_fitsMatters : MethodName := ⟨RX3, "fitsMatters", "(II)Z"⟩
abbrev cX3_isWhole : ByteArray := prog_5_method_6_code
def yX3_isWhole : MethodName := ⟨RX3, "isWhole", "()Z"⟩
abbrev cX3_peopleTold : ByteArray := prog_5_method_7_code
def yX3_peopleTold : MethodName := ⟨RX3, "peopleTold", "()I"⟩
abbrev cX3_readInto : ByteArray := prog_5_method_8_code
def yX3_readInto : MethodName := ⟨RX3, "readInto", "(LOddBank$World;)V"⟩
abbrev cX3_kindOf : ByteArray := prog_5_method_9_code
def yX3_kindOf : MethodName := ⟨RX3, "kindOf", "(I)I"⟩
def RX4 : String := "OddBank$Plan"
def TX4 : u_T := fun k => match k with
  | 0 => ("OddBank$Plan", "speakers", "[I", true)
  | 1 => ("OddBank$Plan", "tried", "[I", true)
  | 2 => ("OddBank$Plan", "chosen", "[I", true)
  | 3 => ("OddBank$Plan", "asked", "[I", true)
  | 4 => ("OddBank$Plan", "days", "I", false)
  | 5 => ("OddBank$Plan", "stillAsked", "I", false)
  | 6 => ("OddBank$Plan", "worth", "I", false)
  | _ => ("OddBank$Plan", "settled", "I", false)
def tyX4 : Nat → FieldType := fun k => match k with
  | 0 => .array .int
  | 1 => .array .int
  | 2 => .array .int
  | 3 => .array .int
  | 4 => .int
  | 5 => .int
  | 6 => .int
  | _ => .int
abbrev wsX40 : List Cond := u_ws RX4 TX4 8
theorem nmX4 : ∀ a, a < 8 → ∀ b, b < 8 → a ≠ b → (TX4 a).2.1 ≠ (TX4 b).2.1 := by decide +kernel
theorem tyX4_ok : ∀ k, k < 8 → parseFieldDescriptor (TX4 k).2.2.1 = some (tyX4 k) := by decide +kernel
abbrev cX4_init : ByteArray := prog_6_method_1_code
def yX4_init : MethodName := ⟨RX4, "<init>", "()V"⟩
abbrev cX4_make : ByteArray := prog_6_method_2_code
def yX4_make : MethodName := ⟨RX4, "make", "(LOddBank$World;I)V"⟩
abbrev cX4_matterOn : ByteArray := prog_6_method_3_code
def yX4_matterOn : MethodName := ⟨RX4, "matterOn", "(I)I"⟩
abbrev cX4_search : ByteArray := prog_6_method_4_code
def yX4_search : MethodName := ⟨RX4, "search", "(LOddBank$Plan;LOddBank$World;III)V"⟩
abbrev cX4_keepIfBetter : ByteArray := prog_6_method_5_code
def yX4_keepIfBetter : MethodName := ⟨RX4, "keepIfBetter", "(LOddBank$World;II)V"⟩
abbrev cX4_howManyAsked : ByteArray := prog_6_method_6_code
def yX4_howManyAsked : MethodName := ⟨RX4, "howManyAsked", "(I)I"⟩
def RX5 : String := "OddBank$Sightings"
def TX5 : u_T := fun k => match k with
  | 0 => ("OddBank$Sightings", "who", "[I", true)
  | 1 => ("OddBank$Sightings", "days", "[I", true)
  | 2 => ("OddBank$Sightings", "spoke", "[Z", true)
  | _ => ("OddBank$Sightings", "size", "I", false)
def tyX5 : Nat → FieldType := fun k => match k with
  | 0 => .array .int
  | 1 => .array .int
  | 2 => .array .boolean
  | _ => .int
abbrev wsX50 : List Cond := u_ws RX5 TX5 4
theorem nmX5 : ∀ a, a < 4 → ∀ b, b < 4 → a ≠ b → (TX5 a).2.1 ≠ (TX5 b).2.1 := by decide +kernel
theorem tyX5_ok : ∀ k, k < 4 → parseFieldDescriptor (TX5 k).2.2.1 = some (tyX5 k) := by decide +kernel
abbrev cX5_init : ByteArray := prog_7_method_1_code
def yX5_init : MethodName := ⟨RX5, "<init>", "()V"⟩
abbrev cX5_add : ByteArray := prog_7_method_2_code
def yX5_add : MethodName := ⟨RX5, "add", "(IIZ)Z"⟩
abbrev cX5_sortsLeft : ByteArray := prog_7_method_3_code
def yX5_sortsLeft : MethodName := ⟨RX5, "sortsLeft", "(III)I"⟩
abbrev cX5_copyFrom : ByteArray := prog_7_method_4_code
def yX5_copyFrom : MethodName := ⟨RX5, "copyFrom", "(LOddBank$Sightings;)V"⟩
def RX6 : String := "OddBank$Sort"
def TX6 : u_T := fun k => match k with
  | _ => ("", "", "", false)
def tyX6 : Nat → FieldType := fun k => match k with
  | _ => .int
abbrev wsX60 : List Cond := u_ws RX6 TX6 0
theorem nmX6 : ∀ a, a < 0 → ∀ b, b < 0 → a ≠ b → (TX6 a).2.1 ≠ (TX6 b).2.1 := by decide +kernel
theorem tyX6_ok : ∀ k, k < 0 → parseFieldDescriptor (TX6 k).2.2.1 = some (tyX6 k) := by decide +kernel
abbrev cX6_isKind : ByteArray := prog_8_method_2_code
def yX6_isKind : MethodName := ⟨RX6, "isKind", "(II)Z"⟩
abbrev cX6_speaking : ByteArray := prog_8_method_3_code
def yX6_speaking : MethodName := ⟨RX6, "speaking", "(II)I"⟩
def RX7 : String := "OddBank$World"
def TX7 : u_T := fun k => match k with
  | 0 => ("OddBank$World", "kind", "[I", true)
  | 1 => ("OddBank$World", "born", "[I", true)
  | 2 => ("OddBank$World", "memory", "[I", true)
  | 3 => ("OddBank$World", "asks", "[I", true)
  | 4 => ("OddBank$World", "answers", "[I", true)
  | 5 => ("OddBank$World", "worth", "[I", true)
  | 6 => ("OddBank$World", "asked", "[I", true)
  | 7 => ("OddBank$World", "seen", "LOddBank$Sightings;", true)
  | 8 => ("OddBank$World", "people", "I", false)
  | 9 => ("OddBank$World", "matters", "I", false)
  | 10 => ("OddBank$World", "right", "I", false)
  | 11 => ("OddBank$World", "today", "I", false)
  | _ => ("OddBank$World", "total", "I", false)
def tyX7 : Nat → FieldType := fun k => match k with
  | 0 => .array .int
  | 1 => .array .int
  | 2 => .array .int
  | 3 => .array .int
  | 4 => .array .int
  | 5 => .array .int
  | 6 => .array .int
  | 7 => .object "OddBank$Sightings"
  | 8 => .int
  | 9 => .int
  | 10 => .int
  | 11 => .int
  | _ => .int
abbrev wsX70 : List Cond := u_ws RX7 TX7 13
theorem nmX7 : ∀ a, a < 13 → ∀ b, b < 13 → a ≠ b → (TX7 a).2.1 ≠ (TX7 b).2.1 := by decide +kernel
theorem tyX7_ok : ∀ k, k < 13 → parseFieldDescriptor (TX7 k).2.2.1 = some (tyX7 k) := by decide +kernel
abbrev cX7_init : ByteArray := prog_9_method_1_code
def yX7_init : MethodName := ⟨RX7, "<init>", "()V"⟩
abbrev cX7_hasRiver : ByteArray := prog_9_method_2_code
def yX7_hasRiver : MethodName := ⟨RX7, "hasRiver", "()Z"⟩
abbrev cX7_knowsPerson : ByteArray := prog_9_method_3_code
def yX7_knowsPerson : MethodName := ⟨RX7, "knowsPerson", "(I)Z"⟩
abbrev cX7_knowsMatter : ByteArray := prog_9_method_4_code
def yX7_knowsMatter : MethodName := ⟨RX7, "knowsMatter", "(I)Z"⟩
abbrev cX7_begin : ByteArray := prog_9_method_5_code
def yX7_begin : MethodName := ⟨RX7, "begin", "(II)V"⟩
abbrev cX7_place : ByteArray := prog_9_method_6_code
def yX7_place : MethodName := ⟨RX7, "place", "(IIZI)V"⟩
abbrev cX7_bankOf : ByteArray := prog_9_method_7_code
def yX7_bankOf : MethodName := ⟨RX7, "bankOf", "(I)I"⟩
abbrev cX7_speaks : ByteArray := prog_9_method_8_code
def yX7_speaks : MethodName := ⟨RX7, "speaks", "(II)Z"⟩
abbrev cX7_speaksWith : ByteArray := prog_9_method_9_code
def yX7_speaksWith : MethodName := ⟨RX7, "speaksWith", "(III)Z"⟩
abbrev cX7_speakersOn : ByteArray := prog_9_method_10_code
def yX7_speakersOn : MethodName := ⟨RX7, "speakersOn", "(I)I"⟩
abbrev cX7_speakersIf : ByteArray := prog_9_method_11_code
def yX7_speakersIf : MethodName := ⟨RX7, "speakersIf", "(II)I"⟩
abbrev cX7_speakingDays : ByteArray := prog_9_method_12_code
def yX7_speakingDays : MethodName := ⟨RX7, "speakingDays", "(I)I"⟩
abbrev cX7_possibleSorts : ByteArray := prog_9_method_13_code
def yX7_possibleSorts : MethodName := ⟨RX7, "possibleSorts", "(I)I"⟩
abbrev cX7_dayToListen : ByteArray := prog_9_method_14_code
def yX7_dayToListen : MethodName := ⟨RX7, "dayToListen", "(I)I"⟩
abbrev cX7_standing : ByteArray := prog_9_method_15_code
def yX7_standing : MethodName := ⟨RX7, "standing", "(I)I"⟩
abbrev cX7_howManyStand : ByteArray := prog_9_method_16_code
def yX7_howManyStand : MethodName := ⟨RX7, "howManyStand", "(I)I"⟩
abbrev cX7_askedSince : ByteArray := prog_9_method_17_code
def yX7_askedSince : MethodName := ⟨RX7, "askedSince", "(I)I"⟩
abbrev cX7_worthToday : ByteArray := prog_9_method_18_code
def yX7_worthToday : MethodName := ⟨RX7, "worthToday", "(I)I"⟩
abbrev cX7_canBeSaid : ByteArray := prog_9_method_19_code
def yX7_canBeSaid : MethodName := ⟨RX7, "canBeSaid", "(IIII)Z"⟩
abbrev cX7_settledFor : ByteArray := prog_9_method_20_code
def yX7_settledFor : MethodName := ⟨RX7, "settledFor", "(III)I"⟩
abbrev cX7_reopenAskedBy : ByteArray := prog_9_method_21_code
def yX7_reopenAskedBy : MethodName := ⟨RX7, "reopenAskedBy", "(I)I"⟩
abbrev cX7_copyFrom : ByteArray := prog_9_method_22_code
def yX7_copyFrom : MethodName := ⟨RX7, "copyFrom", "(LOddBank$World;)V"⟩
def RX8 : String := "OddBank"
def TX8 : u_T := fun k => match k with
  | 0 => ("OddBank", "page", "LOddBank$Page;", true)
  | 1 => ("OddBank", "world", "LOddBank$World;", true)
  | 2 => ("OddBank", "kept", "LOddBank$World;", true)
  | 3 => ("OddBank", "plan", "LOddBank$Plan;", true)
  | 4 => ("OddBank", "course", "LOddBank$Course;", true)
  | 5 => ("OddBank", "readings", "I", false)
  | _ => ("OddBank", "plans", "I", false)
def tyX8 : Nat → FieldType := fun k => match k with
  | 0 => .object "OddBank$Page"
  | 1 => .object "OddBank$World"
  | 2 => .object "OddBank$World"
  | 3 => .object "OddBank$Plan"
  | 4 => .object "OddBank$Course"
  | 5 => .int
  | _ => .int
abbrev wsX80 : List Cond := u_ws RX8 TX8 7
theorem nmX8 : ∀ a, a < 7 → ∀ b, b < 7 → a ≠ b → (TX8 a).2.1 ≠ (TX8 b).2.1 := by decide +kernel
theorem tyX8_ok : ∀ k, k < 7 → parseFieldDescriptor (TX8 k).2.2.1 = some (tyX8 k) := by decide +kernel
abbrev cX8_init : ByteArray := prog_1_method_1_code
def yX8_init : MethodName := ⟨RX8, "<init>", "()V"⟩
abbrev cX8_letter : ByteArray := prog_1_method_2_code
def yX8_letter : MethodName := ⟨RX8, "letter", "(I)I"⟩
abbrev cX8_blank : ByteArray := prog_1_method_3_code
def yX8_blank : MethodName := ⟨RX8, "blank", "()I"⟩
abbrev cX8_fault : ByteArray := prog_1_method_4_code
def yX8_fault : MethodName := ⟨RX8, "fault", "()I"⟩
abbrev cX8_river : ByteArray := prog_1_method_5_code
def yX8_river : MethodName := ⟨RX8, "river", "()I"⟩
abbrev cX8_person : ByteArray := prog_1_method_6_code
def yX8_person : MethodName := ⟨RX8, "person", "(II)I"⟩
abbrev cX8_as : ByteArray := prog_1_method_7_code
def yX8_as : MethodName := ⟨RX8, "as", "(II)I"⟩
abbrev cX8_matter : ByteArray := prog_1_method_8_code
def yX8_matter : MethodName := ⟨RX8, "matter", "(II)I"⟩
abbrev cX8_date : ByteArray := prog_1_method_9_code
def yX8_date : MethodName := ⟨RX8, "date", "(II)I"⟩
abbrev cX8_say : ByteArray := prog_1_method_10_code
def yX8_say : MethodName := ⟨RX8, "say", "(I)I"⟩
abbrev cX8_day : ByteArray := prog_1_method_11_code
def yX8_day : MethodName := ⟨RX8, "day", "()I"⟩
abbrev cX8_cross : ByteArray := prog_1_method_12_code
def yX8_cross : MethodName := ⟨RX8, "cross", "(I)I"⟩
abbrev cX8_open : ByteArray := prog_1_method_13_code
def yX8_open : MethodName := ⟨RX8, "open", "(II)I"⟩
abbrev cX8_change : ByteArray := prog_1_method_14_code
def yX8_change : MethodName := ⟨RX8, "change", "(III)I"⟩
abbrev cX8_best : ByteArray := prog_1_method_15_code
def yX8_best : MethodName := ⟨RX8, "best", "(II)I"⟩
abbrev cX8_live : ByteArray := prog_1_method_16_code
def yX8_live : MethodName := ⟨RX8, "live", "(I)I"⟩
abbrev cX8_fog : ByteArray := prog_1_method_17_code
def yX8_fog : MethodName := ⟨RX8, "fog", "(IIII)I"⟩
abbrev cX8_see : ByteArray := prog_1_method_18_code
def yX8_see : MethodName := ⟨RX8, "see", "(IIZ)I"⟩
abbrev cX8_forget : ByteArray := prog_1_method_19_code
def yX8_forget : MethodName := ⟨RX8, "forget", "()I"⟩
abbrev cX8_years : ByteArray := prog_1_method_20_code
def yX8_years : MethodName := ⟨RX8, "years", "(III)I"⟩
abbrev cX8_image : ByteArray := prog_1_method_21_code
def yX8_image : MethodName := ⟨RX8, "image", "()I"⟩
abbrev cX8_restore : ByteArray := prog_1_method_22_code
def yX8_restore : MethodName := ⟨RX8, "restore", "()I"⟩
abbrev cX8_count : ByteArray := prog_1_method_23_code
def yX8_count : MethodName := ⟨RX8, "count", "(I)I"⟩
abbrev cX8_digest : ByteArray := prog_1_method_24_code
def yX8_digest : MethodName := ⟨RX8, "digest", "()J"⟩
abbrev cX8_withDates : ByteArray := prog_1_method_25_code
def yX8_withDates : MethodName := ⟨RX8, "withDates", "(J)J"⟩
def RX9 : String := "OddBankModel"
def TX9 : u_T := fun k => match k with
  | 0 => ("OddBankModel", "page", "[I", true)
  | 1 => ("OddBankModel", "pageMany", "I", false)
  | 2 => ("OddBankModel", "end", "I", false)
  | 3 => ("OddBankModel", "people", "I", false)
  | 4 => ("OddBankModel", "matters", "I", false)
  | 5 => ("OddBankModel", "today", "I", false)
  | 6 => ("OddBankModel", "settledFor", "I", false)
  | 7 => ("OddBankModel", "riversRead", "I", false)
  | 8 => ("OddBankModel", "kinds", "[I", true)
  | 9 => ("OddBankModel", "born", "[I", true)
  | 10 => ("OddBankModel", "bank", "[I", true)
  | 11 => ("OddBankModel", "memory", "[I", true)
  | 12 => ("OddBankModel", "askers", "[I", true)
  | 13 => ("OddBankModel", "answerers", "[I", true)
  | 14 => ("OddBankModel", "worths", "[I", true)
  | 15 => ("OddBankModel", "stands", "[I", true)
  | 16 => ("OddBankModel", "askedOn", "[I", true)
  | 17 => ("OddBankModel", "dateOf", "I", false)
  | 18 => ("OddBankModel", "monthOf", "I", false)
  | 19 => ("OddBankModel", "yearOf", "I", false)
  | 20 => ("OddBankModel", "standsThen", "[I", true)
  | 21 => ("OddBankModel", "askedThen", "[I", true)
  | 22 => ("OddBankModel", "bestDone", "I", false)
  | 23 => ("OddBankModel", "bankNow", "[I", true)
  | 24 => ("OddBankModel", "seenMany", "I", false)
  | 25 => ("OddBankModel", "sights", "[I", true)
  | 26 => ("OddBankModel", "seedNow", "I", false)
  | 27 => ("OddBankModel", "keptRiver", "I", false)
  | 28 => ("OddBankModel", "keptToday", "I", false)
  | 29 => ("OddBankModel", "keptFor", "I", false)
  | 30 => ("OddBankModel", "keptSeen", "I", false)
  | 31 => ("OddBankModel", "keptKinds", "[I", true)
  | 32 => ("OddBankModel", "keptBank", "[I", true)
  | 33 => ("OddBankModel", "keptMemory", "[I", true)
  | 34 => ("OddBankModel", "keptWorths", "[I", true)
  | 35 => ("OddBankModel", "keptStands", "[I", true)
  | 36 => ("OddBankModel", "keptAsked", "[I", true)
  | 37 => ("OddBankModel", "keptSights", "[I", true)
  | _ => ("OddBankModel", "hash", "J", false)
def tyX9 : Nat → FieldType := fun k => match k with
  | 0 => .array .int
  | 1 => .int
  | 2 => .int
  | 3 => .int
  | 4 => .int
  | 5 => .int
  | 6 => .int
  | 7 => .int
  | 8 => .array .int
  | 9 => .array .int
  | 10 => .array .int
  | 11 => .array .int
  | 12 => .array .int
  | 13 => .array .int
  | 14 => .array .int
  | 15 => .array .int
  | 16 => .array .int
  | 17 => .int
  | 18 => .int
  | 19 => .int
  | 20 => .array .int
  | 21 => .array .int
  | 22 => .int
  | 23 => .array .int
  | 24 => .int
  | 25 => .array .int
  | 26 => .int
  | 27 => .int
  | 28 => .int
  | 29 => .int
  | 30 => .int
  | 31 => .array .int
  | 32 => .array .int
  | 33 => .array .int
  | 34 => .array .int
  | 35 => .array .int
  | 36 => .array .int
  | 37 => .array .int
  | _ => .long
abbrev wsX90 : List Cond := u_ws RX9 TX9 39
theorem nmX9 : ∀ a, a < 39 → ∀ b, b < 39 → a ≠ b → (TX9 a).2.1 ≠ (TX9 b).2.1 := by decide +kernel
theorem tyX9_ok : ∀ k, k < 39 → parseFieldDescriptor (TX9 k).2.2.1 = some (tyX9 k) := by decide +kernel
abbrev cX9_init : ByteArray := prog_11_method_1_code
def yX9_init : MethodName := ⟨RX9, "<init>", "()V"⟩
abbrev cX9_in : ByteArray := prog_11_method_2_code
def yX9_in : MethodName := ⟨RX9, "in", "(JJJ)Z"⟩
abbrev cX9_copy : ByteArray := prog_11_method_3_code
def yX9_copy : MethodName := ⟨RX9, "copy", "([I[I)V"⟩
abbrev cX9_letter : ByteArray := prog_11_method_4_code
def yX9_letter : MethodName := ⟨RX9, "letter", "(I)I"⟩
abbrev cX9_blank : ByteArray := prog_11_method_5_code
def yX9_blank : MethodName := ⟨RX9, "blank", "()I"⟩
abbrev cX9_kindBy : ByteArray := prog_11_method_6_code
def yX9_kindBy : MethodName := ⟨RX9, "kindBy", "(I)I"⟩
abbrev cX9_isPersonLetter : ByteArray := prog_11_method_7_code
def yX9_isPersonLetter : MethodName := ⟨RX9, "isPersonLetter", "(I)Z"⟩
abbrev cX9_isPersonDigit : ByteArray := prog_11_method_8_code
def yX9_isPersonDigit : MethodName := ⟨RX9, "isPersonDigit", "(I)Z"⟩
abbrev cX9_isMatterLetter : ByteArray := prog_11_method_9_code
def yX9_isMatterLetter : MethodName := ⟨RX9, "isMatterLetter", "(I)Z"⟩
abbrev cX9_faultOf : ByteArray := prog_11_method_10_code
def yX9_faultOf : MethodName := ⟨RX9, "faultOf", "()I"⟩
abbrev cX9_fault : ByteArray := prog_11_method_11_code
def yX9_fault : MethodName := ⟨RX9, "fault", "()I"⟩
abbrev cX9_river : ByteArray := prog_11_method_12_code
def yX9_river : MethodName := ⟨RX9, "river", "()I"⟩
abbrev cX9_lacks : ByteArray := prog_11_method_13_code
def yX9_lacks : MethodName := ⟨RX9, "lacks", "()Z"⟩
abbrev cX9_isPerson : ByteArray := prog_11_method_14_code
def yX9_isPerson : MethodName := ⟨RX9, "isPerson", "(I)Z"⟩
abbrev cX9_isMatter : ByteArray := prog_11_method_15_code
def yX9_isMatter : MethodName := ⟨RX9, "isMatter", "(I)Z"⟩
abbrev cX9_daysOf : ByteArray := prog_11_method_16_code
def yX9_daysOf : MethodName := ⟨RX9, "daysOf", "(II)I"⟩
abbrev cX9_layDate : ByteArray := prog_11_method_17_code
def yX9_layDate : MethodName := ⟨RX9, "layDate", "(I)V"⟩
abbrev cX9_isBankOn : ByteArray := prog_11_method_18_code
def yX9_isBankOn : MethodName := ⟨RX9, "isBankOn", "(I)Z"⟩
abbrev cX9_isSpeaking : ByteArray := prog_11_method_19_code
def yX9_isSpeaking : MethodName := ⟨RX9, "isSpeaking", "(III)Z"⟩
abbrev cX9_maySpeak : ByteArray := prog_11_method_20_code
def yX9_maySpeak : MethodName := ⟨RX9, "maySpeak", "(II)Z"⟩
abbrev cX9_speakers : ByteArray := prog_11_method_21_code
def yX9_speakers : MethodName := ⟨RX9, "speakers", "(I)I"⟩
abbrev cX9_ones : ByteArray := prog_11_method_22_code
def yX9_ones : MethodName := ⟨RX9, "ones", "(I)I"⟩
abbrev cX9_begin : ByteArray := prog_11_method_23_code
def yX9_begin : MethodName := ⟨RX9, "begin", "()V"⟩
abbrev cX9_keep : ByteArray := prog_11_method_24_code
def yX9_keep : MethodName := ⟨RX9, "keep", "()V"⟩
abbrev cX9_valueOf : ByteArray := prog_11_method_25_code
def yX9_valueOf : MethodName := ⟨RX9, "valueOf", "(II)I"⟩
abbrev cX9_canThen : ByteArray := prog_11_method_26_code
def yX9_canThen : MethodName := ⟨RX9, "canThen", "(II)Z"⟩
abbrev cX9_sayThen : ByteArray := prog_11_method_27_code
def yX9_sayThen : MethodName := ⟨RX9, "sayThen", "(II)I"⟩
abbrev cX9_speakingDays : ByteArray := prog_11_method_28_code
def yX9_speakingDays : MethodName := ⟨RX9, "speakingDays", "(I)I"⟩
abbrev cX9_tellPerson : ByteArray := prog_11_method_29_code
def yX9_tellPerson : MethodName := ⟨RX9, "tellPerson", "(II)I"⟩
abbrev cX9_person : ByteArray := prog_11_method_30_code
def yX9_person : MethodName := ⟨RX9, "person", "(II)I"⟩
abbrev cX9_as : ByteArray := prog_11_method_31_code
def yX9_as : MethodName := ⟨RX9, "as", "(II)I"⟩
abbrev cX9_soonOf : ByteArray := prog_11_method_32_code
def yX9_soonOf : MethodName := ⟨RX9, "soonOf", "(I)I"⟩
abbrev cX9_tellMatter : ByteArray := prog_11_method_33_code
def yX9_tellMatter : MethodName := ⟨RX9, "tellMatter", "(II)I"⟩
abbrev cX9_matter : ByteArray := prog_11_method_34_code
def yX9_matter : MethodName := ⟨RX9, "matter", "(II)I"⟩
abbrev cX9_tellDate : ByteArray := prog_11_method_35_code
def yX9_tellDate : MethodName := ⟨RX9, "tellDate", "(II)I"⟩
abbrev cX9_date : ByteArray := prog_11_method_36_code
def yX9_date : MethodName := ⟨RX9, "date", "(II)I"⟩
abbrev cX9_say : ByteArray := prog_11_method_37_code
def yX9_say : MethodName := ⟨RX9, "say", "(I)I"⟩
abbrev cX9_day : ByteArray := prog_11_method_38_code
def yX9_day : MethodName := ⟨RX9, "day", "()I"⟩
abbrev cX9_cross : ByteArray := prog_11_method_39_code
def yX9_cross : MethodName := ⟨RX9, "cross", "(I)I"⟩
abbrev cX9_open : ByteArray := prog_11_method_40_code
def yX9_open : MethodName := ⟨RX9, "open", "(II)I"⟩
abbrev cX9_change : ByteArray := prog_11_method_41_code
def yX9_change : MethodName := ⟨RX9, "change", "(III)I"⟩
abbrev cX9_figure : ByteArray := prog_11_method_42_code
def yX9_figure : MethodName := ⟨RX9, "figure", "(III)I"⟩
abbrev cX9_worthBy : ByteArray := prog_11_method_43_code
def yX9_worthBy : MethodName := ⟨RX9, "worthBy", "(II)I"⟩
abbrev cX9_bestOf : ByteArray := prog_11_method_44_code
def yX9_bestOf : MethodName := ⟨RX9, "bestOf", "(II)I"⟩
abbrev cX9_best : ByteArray := prog_11_method_45_code
def yX9_best : MethodName := ⟨RX9, "best", "(II)I"⟩
abbrev cX9_settledBy : ByteArray := prog_11_method_46_code
def yX9_settledBy : MethodName := ⟨RX9, "settledBy", "(I)I"⟩
abbrev cX9_liveOf : ByteArray := prog_11_method_47_code
def yX9_liveOf : MethodName := ⟨RX9, "liveOf", "(I)I"⟩
abbrev cX9_live : ByteArray := prog_11_method_48_code
def yX9_live : MethodName := ⟨RX9, "live", "(I)I"⟩
abbrev cX9_fogOf : ByteArray := prog_11_method_49_code
def yX9_fogOf : MethodName := ⟨RX9, "fogOf", "(IIII)I"⟩
abbrev cX9_fog : ByteArray := prog_11_method_50_code
def yX9_fog : MethodName := ⟨RX9, "fog", "(IIII)I"⟩
abbrev cX9_see : ByteArray := prog_11_method_51_code
def yX9_see : MethodName := ⟨RX9, "see", "(IIZ)I"⟩
abbrev cX9_forget : ByteArray := prog_11_method_52_code
def yX9_forget : MethodName := ⟨RX9, "forget", "()I"⟩
abbrev cX9_speakingSorts : ByteArray := prog_11_method_53_code
def yX9_speakingSorts : MethodName := ⟨RX9, "speakingSorts", "(II)I"⟩
abbrev cX9_sortsOf : ByteArray := prog_11_method_54_code
def yX9_sortsOf : MethodName := ⟨RX9, "sortsOf", "(I)I"⟩
abbrev cX9_listenOf : ByteArray := prog_11_method_55_code
def yX9_listenOf : MethodName := ⟨RX9, "listenOf", "(I)I"⟩
abbrev cX9_draw : ByteArray := prog_11_method_56_code
def yX9_draw : MethodName := ⟨RX9, "draw", "(I)I"⟩
abbrev cX9_years : ByteArray := prog_11_method_57_code
def yX9_years : MethodName := ⟨RX9, "years", "(III)I"⟩
abbrev cX9_image : ByteArray := prog_11_method_58_code
def yX9_image : MethodName := ⟨RX9, "image", "()I"⟩
abbrev cX9_restore : ByteArray := prog_11_method_59_code
def yX9_restore : MethodName := ⟨RX9, "restore", "()I"⟩
abbrev cX9_standing : ByteArray := prog_11_method_60_code
def yX9_standing : MethodName := ⟨RX9, "standing", "(I)I"⟩
abbrev cX9_onRight : ByteArray := prog_11_method_61_code
def yX9_onRight : MethodName := ⟨RX9, "onRight", "()I"⟩
abbrev cX9_countOf : ByteArray := prog_11_method_62_code
def yX9_countOf : MethodName := ⟨RX9, "countOf", "(I)I"⟩
abbrev cX9_count : ByteArray := prog_11_method_63_code
def yX9_count : MethodName := ⟨RX9, "count", "(I)I"⟩
abbrev cX9_mix : ByteArray := prog_11_method_64_code
def yX9_mix : MethodName := ⟨RX9, "mix", "(J)V"⟩
abbrev cX9_sayRiver : ByteArray := prog_11_method_65_code
def yX9_sayRiver : MethodName := ⟨RX9, "sayRiver", "()V"⟩
abbrev cX9_digest : ByteArray := prog_11_method_66_code
def yX9_digest : MethodName := ⟨RX9, "digest", "()J"⟩
def RJ11 : String := "java/lang/Character"
def TJ11 : u_T := fun k => match k with
  | _ => ("", "", "", false)
def tyJ11 : Nat → FieldType := fun k => match k with
  | _ => .int
abbrev wsJ110 : List Cond := u_ws RJ11 TJ11 0
theorem nmJ11 : ∀ a, a < 0 → ∀ b, b < 0 → a ≠ b → (TJ11 a).2.1 ≠ (TJ11 b).2.1 := by decide +kernel
theorem tyJ11_ok : ∀ k, k < 0 → parseFieldDescriptor (TJ11 k).2.2.1 = some (tyJ11 k) := by decide +kernel
abbrev cJ11_isValidCodePoint_9a6ad : ByteArray := prog_12_method_11_code
def yJ11_isValidCodePoint_9a6ad : MethodName := ⟨RJ11, "isValidCodePoint", "(I)Z"⟩
abbrev cJ11_highSurrogate_5068e : ByteArray := prog_12_method_28_code
def yJ11_highSurrogate_5068e : MethodName := ⟨RJ11, "highSurrogate", "(I)C"⟩
abbrev cJ11_lowSurrogate_5068e : ByteArray := prog_12_method_29_code
def yJ11_lowSurrogate_5068e : MethodName := ⟨RJ11, "lowSurrogate", "(I)C"⟩
def RJ6 : String := "java/lang/Integer"
def TJ6 : u_T := fun k => match k with
  | _ => ("", "", "", false)
def tyJ6 : Nat → FieldType := fun k => match k with
  | _ => .int
abbrev wsJ60 : List Cond := u_ws RJ6 TJ6 0
theorem nmJ6 : ∀ a, a < 0 → ∀ b, b < 0 → a ≠ b → (TJ6 a).2.1 ≠ (TJ6 b).2.1 := by decide +kernel
theorem tyJ6_ok : ∀ k, k < 0 → parseFieldDescriptor (TJ6 k).2.2.1 = some (tyJ6 k) := by decide +kernel
abbrev cJ6_bitCount_0f7a4 : ByteArray := prog_13_method_49_code
def yJ6_bitCount_0f7a4 : MethodName := ⟨RJ6, "bitCount", "(I)I"⟩
def RJ9 : String := "java/lang/Math"
def TJ9 : u_T := fun k => match k with
  | _ => ("", "", "", false)
def tyJ9 : Nat → FieldType := fun k => match k with
  | _ => .int
abbrev wsJ90 : List Cond := u_ws RJ9 TJ9 0
theorem nmJ9 : ∀ a, a < 0 → ∀ b, b < 0 → a ≠ b → (TJ9 a).2.1 ≠ (TJ9 b).2.1 := by decide +kernel
theorem tyJ9_ok : ∀ k, k < 0 → parseFieldDescriptor (TJ9 k).2.2.1 = some (tyJ9 k) := by decide +kernel
abbrev cJ9_max_7cf53 : ByteArray := prog_14_method_65_code
def yJ9_max_7cf53 : MethodName := ⟨RJ9, "max", "(II)I"⟩
abbrev cJ9_min_7cf53 : ByteArray := prog_14_method_69_code
def yJ9_min_7cf53 : MethodName := ⟨RJ9, "min", "(II)I"⟩
def RJ0 : String := "java/lang/String"
def TJ0 : u_T := fun k => match k with
  | _ => ("", "", "", false)
def tyJ0 : Nat → FieldType := fun k => match k with
  | _ => .int
abbrev wsJ00 : List Cond := u_ws RJ0 TJ0 0
theorem nmJ0 : ∀ a, a < 0 → ∀ b, b < 0 → a ≠ b → (TJ0 a).2.1 ≠ (TJ0 b).2.1 := by decide +kernel
theorem tyJ0_ok : ∀ k, k < 0 → parseFieldDescriptor (TJ0 k).2.2.1 = some (tyJ0 k) := by decide +kernel
abbrev cJ0_length_8abf5 : ByteArray := prog_15_method_54_code
def yJ0_length_8abf5 : MethodName := ⟨RJ0, "length", "()I"⟩
abbrev cJ0_indexOf_0f7a4 : ByteArray := prog_15_method_79_code
def yJ0_indexOf_0f7a4 : MethodName := ⟨RJ0, "indexOf", "(I)I"⟩
abbrev cJ0_indexOf_7cf53 : ByteArray := prog_15_method_80_code
def yJ0_indexOf_7cf53 : MethodName := ⟨RJ0, "indexOf", "(II)I"⟩
abbrev cJ0_coder_7d493 : ByteArray := prog_15_method_152_code
def yJ0_coder_7d493 : MethodName := ⟨RJ0, "coder", "()B"⟩
abbrev cJ0_isLatin1_aae02 : ByteArray := prog_15_method_154_code
def yJ0_isLatin1_aae02 : MethodName := ⟨RJ0, "isLatin1", "()Z"⟩
abbrev cJ0_checkBoundsBeginEnd_23922 : ByteArray := prog_15_method_158_code
def yJ0_checkBoundsBeginEnd_23922 : MethodName := ⟨RJ0, "checkBoundsBeginEnd", "(III)V"⟩
def RJ1 : String := "java/lang/StringLatin1"
def TJ1 : u_T := fun k => match k with
  | _ => ("", "", "", false)
def tyJ1 : Nat → FieldType := fun k => match k with
  | _ => .int
abbrev wsJ10 : List Cond := u_ws RJ1 TJ1 0
theorem nmJ1 : ∀ a, a < 0 → ∀ b, b < 0 → a ≠ b → (TJ1 a).2.1 ≠ (TJ1 b).2.1 := by decide +kernel
theorem tyJ1_ok : ∀ k, k < 0 → parseFieldDescriptor (TJ1 k).2.2.1 = some (tyJ1 k) := by decide +kernel
abbrev cJ1_canEncode_9a6ad : ByteArray := prog_16_method_4_code
def yJ1_canEncode_9a6ad : MethodName := ⟨RJ1, "canEncode", "(I)Z"⟩
abbrev cJ1_indexOf_4cfef : ByteArray := prog_16_method_22_code
def yJ1_indexOf_4cfef : MethodName := ⟨RJ1, "indexOf", "([BIII)I"⟩
abbrev cJ1_indexOfChar_4cfef : ByteArray := prog_16_method_23_code
def yJ1_indexOfChar_4cfef : MethodName := ⟨RJ1, "indexOfChar", "([BIII)I"⟩
def RJ2 : String := "java/lang/StringUTF16"
def TJ2 : u_T := fun k => match k with
  | _ => ("", "", "", false)
def tyJ2 : Nat → FieldType := fun k => match k with
  | _ => .int
abbrev wsJ20 : List Cond := u_ws RJ2 TJ2 0
theorem nmJ2 : ∀ a, a < 0 → ∀ b, b < 0 → a ≠ b → (TJ2 a).2.1 ≠ (TJ2 b).2.1 := by decide +kernel
theorem tyJ2_ok : ∀ k, k < 0 → parseFieldDescriptor (TJ2 k).2.2.1 = some (tyJ2 k) := by decide +kernel
abbrev cJ2_getChar_3b067 : ByteArray := prog_17_method_5_code
def yJ2_getChar_3b067 : MethodName := ⟨RJ2, "getChar", "([BI)C"⟩
abbrev cJ2_length_9d52b : ByteArray := prog_17_method_6_code
def yJ2_length_9d52b : MethodName := ⟨RJ2, "length", "([B)I"⟩
abbrev cJ2_indexOf_4cfef : ByteArray := prog_17_method_40_code
def yJ2_indexOf_4cfef : MethodName := ⟨RJ2, "indexOf", "([BIII)I"⟩
abbrev cJ2_indexOfChar_4cfef : ByteArray := prog_17_method_47_code
def yJ2_indexOfChar_4cfef : MethodName := ⟨RJ2, "indexOfChar", "([BIII)I"⟩
abbrev cJ2_indexOfCharUnsafe_4cfef : ByteArray := prog_17_method_48_code
def yJ2_indexOfCharUnsafe_4cfef : MethodName := ⟨RJ2, "indexOfCharUnsafe", "([BIII)I"⟩
abbrev cJ2_indexOfSupplementary_4cfef : ByteArray := prog_17_method_49_code
def yJ2_indexOfSupplementary_4cfef : MethodName := ⟨RJ2, "indexOfSupplementary", "([BIII)I"⟩
abbrev cJ2_checkBoundsBeginEnd_d044e : ByteArray := prog_17_method_93_code
def yJ2_checkBoundsBeginEnd_d044e : MethodName := ⟨RJ2, "checkBoundsBeginEnd", "(II[B)V"⟩
def RJ10 : String := "java/lang/System"
def TJ10 : u_T := fun k => match k with
  | _ => ("", "", "", false)
def tyJ10 : Nat → FieldType := fun k => match k with
  | _ => .int
abbrev wsJ100 : List Cond := u_ws RJ10 TJ10 0
theorem nmJ10 : ∀ a, a < 0 → ∀ b, b < 0 → a ≠ b → (TJ10 a).2.1 ≠ (TJ10 b).2.1 := by decide +kernel
theorem tyJ10_ok : ∀ k, k < 0 → parseFieldDescriptor (TJ10 k).2.2.1 = some (tyJ10 k) := by decide +kernel
def RJ3 : String := "jdk/internal/util/Preconditions"
def TJ3 : u_T := fun k => match k with
  | _ => ("", "", "", false)
def tyJ3 : Nat → FieldType := fun k => match k with
  | _ => .int
abbrev wsJ30 : List Cond := u_ws RJ3 TJ3 0
theorem nmJ3 : ∀ a, a < 0 → ∀ b, b < 0 → a ≠ b → (TJ3 a).2.1 ≠ (TJ3 b).2.1 := by decide +kernel
theorem tyJ3_ok : ∀ k, k < 0 → parseFieldDescriptor (TJ3 k).2.2.1 = some (tyJ3 k) := by decide +kernel
abbrev cJ3_checkFromToIndex_8c36e : ByteArray := prog_19_method_12_code
def yJ3_checkFromToIndex_8c36e : MethodName := ⟨RJ3, "checkFromToIndex", "(IIILjava/util/function/BiFunction;)I"⟩
def RL : String := "OddBankLaw"
abbrev cL_law : ByteArray := code
def yL_law : MethodName := ⟨RL, "law", "([I)Z"⟩
end
section
/-! the tables of the little machine; printed by wip/whole/gen.py: methods, instructions with their links resolved, cells -/
abbrev jE : Type := Instr × Nat × Nat × Nat × Nat
abbrev jM : Type := MethodName × ByteArray × Nat × Option FieldType × Nat × Nat × Nat × List Nat
abbrev jSh : Type := (Nat × FieldType) ⊕ (Nat × List Nat)
def jp_L_law : List (Option jE) := [none, none, none, some (.dup, 4, 0, 0, 0), none, none, none, some (.astore_n 1, 8, 0, 0, 0), none, none, none, some (.dup, 12, 0, 0, 0), none, none, none, some (.astore_n 2, 16, 0, 0, 0), some (.iconst 0, 17, 0, 0, 0), some (.istore_n 3, 18, 0, 0, 0), some (.iload_n 3, 19, 0, 0, 0), some (.aload_n 0, 20, 0, 0, 0), some (.arraylength, 21, 0, 0, 0), some (.iconst 5, 22, 0, 0, 0), some (.isub, 23, 0, 0, 0), some (.if_icmp .gt 739, 26, 762, 0, 0), none, none, some (.aload_n 0, 27, 0, 0, 0), some (.iload_n 3, 28, 0, 0, 0), some (.iaload, 29, 0, 0, 0), some (.bipush 31, 31, 0, 0, 0), none, some (.iand, 32, 0, 0, 0), some (.tableswitch 724 0 22 #[108, 131, 144, 157, 170, 203, 236, 269, 302, 325, 338, 361, 394, 437, 470, 493, 546, 605, 618, 661, 674, 687, 710], 140, 0, 0, 0), none, none, none, none, none, none, none, none, none, none, none, none, none, none, none, none, none, none, none, none, none, none, none, none, none, none, none, none, none, none, none, none, none, none, none, none, none, none, none, none, none, none, none, none, none, none, none, none, none, none, none, none, none, none, none, none, none, none, none, none, none, none, none, none, none, none, none, none, none, none, none, none, none, none, none, none, none, none, none, none, none, none, none, none, none, none, none, none, none, none, none, none, none, none, none, none, none, none, none, none, none, none, none, none, none, none, none, some (.aload_n 1, 141, 0, 0, 0), some (.aload_n 0, 142, 0, 0, 0), some (.iload_n 3, 143, 0, 0, 0), some (.iconst 1, 144, 0, 0, 0), some (.iadd, 145, 0, 0, 0), some (.iaload, 146, 0, 0, 0), some (.invokevirtual 13, 149, 54, 0, 265), none, none, some (.aload_n 2, 150, 0, 0, 0), some (.aload_n 0, 151, 0, 0, 0), some (.iload_n 3, 152, 0, 0, 0), some (.iconst 1, 153, 0, 0, 0), some (.iadd, 154, 0, 0, 0), some (.iaload, 155, 0, 0, 0), some (.invokevirtual 17, 158, 80, 0, 820), none, none, some (.if_icmp .eq 598, 161, 756, 0, 0), none, none, some (.iconst 0, 162, 0, 0, 0), some (.ireturn, 163, 0, 0, 0), some (.aload_n 1, 164, 0, 0, 0), some (.invokevirtual 18, 167, 55, 0, 273), none, none, some (.aload_n 2, 168, 0, 0, 0), some (.invokevirtual 22, 171, 81, 0, 828), none, none, some (.if_icmp .eq 585, 174, 756, 0, 0), none, none, some (.iconst 0, 175, 0, 0, 0), some (.ireturn, 176, 0, 0, 0), some (.aload_n 1, 177, 0, 0, 0), some (.invokevirtual 23, 180, 56, 0, 277), none, none, some (.aload_n 2, 181, 0, 0, 0), some (.invokevirtual 26, 184, 87, 0, 832), none, none, some (.if_icmp .eq 572, 187, 756, 0, 0), none, none, some (.iconst 0, 188, 0, 0, 0), some (.ireturn, 189, 0, 0, 0), some (.aload_n 1, 190, 0, 0, 0), some (.invokevirtual 27, 193, 57, 0, 384), none, none, some (.aload_n 2, 194, 0, 0, 0), some (.invokevirtual 30, 197, 88, 0, 858), none, none, some (.if_icmp .eq 559, 200, 756, 0, 0), none, none, some (.iconst 0, 201, 0, 0, 0), some (.ireturn, 202, 0, 0, 0), some (.aload_n 1, 203, 0, 0, 0), some (.aload_n 0, 204, 0, 0, 0), some (.iload_n 3, 205, 0, 0, 0), some (.iconst 1, 206, 0, 0, 0), some (.iadd, 207, 0, 0, 0), some (.iaload, 208, 0, 0, 0), some (.aload_n 0, 209, 0, 0, 0), some (.iload_n 3, 210, 0, 0, 0), some (.iconst 2, 211, 0, 0, 0), some (.iadd, 212, 0, 0, 0), some (.iaload, 213, 0, 0, 0), some (.invokevirtual 31, 216, 58, 0, 410), none, none, some (.aload_n 2, 217, 0, 0, 0), some (.aload_n 0, 218, 0, 0, 0), some (.iload_n 3, 219, 0, 0, 0), some (.iconst 1, 220, 0, 0, 0), some (.iadd, 221, 0, 0, 0), some (.iaload, 222, 0, 0, 0), some (.aload_n 0, 223, 0, 0, 0), some (.iload_n 3, 224, 0, 0, 0), some (.iconst 2, 225, 0, 0, 0), some (.iadd, 226, 0, 0, 0), some (.iaload, 227, 0, 0, 0), some (.invokevirtual 35, 230, 106, 0, 862), none, none, some (.if_icmp .eq 526, 233, 756, 0, 0), none, none, some (.iconst 0, 234, 0, 0, 0), some (.ireturn, 235, 0, 0, 0), some (.aload_n 1, 236, 0, 0, 0), some (.aload_n 0, 237, 0, 0, 0), some (.iload_n 3, 238, 0, 0, 0), some (.iconst 1, 239, 0, 0, 0), some (.iadd, 240, 0, 0, 0), some (.iaload, 241, 0, 0, 0), some (.aload_n 0, 242, 0, 0, 0), some (.iload_n 3, 243, 0, 0, 0), some (.iconst 2, 244, 0, 0, 0), some (.iadd, 245, 0, 0, 0), some (.iaload, 246, 0, 0, 0), some (.invokevirtual 36, 249, 59, 0, 469), none, none, some (.aload_n 2, 250, 0, 0, 0), some (.aload_n 0, 251, 0, 0, 0), some (.iload_n 3, 252, 0, 0, 0), some (.iconst 1, 253, 0, 0, 0), some (.iadd, 254, 0, 0, 0), some (.iaload, 255, 0, 0, 0), some (.aload_n 0, 256, 0, 0, 0), some (.iload_n 3, 257, 0, 0, 0), some (.iconst 2, 258, 0, 0, 0), some (.iadd, 259, 0, 0, 0), some (.iaload, 260, 0, 0, 0), some (.invokevirtual 39, 263, 107, 0, 912), none, none, some (.if_icmp .eq 493, 266, 756, 0, 0), none, none, some (.iconst 0, 267, 0, 0, 0), some (.ireturn, 268, 0, 0, 0), some (.aload_n 1, 269, 0, 0, 0), some (.aload_n 0, 270, 0, 0, 0), some (.iload_n 3, 271, 0, 0, 0), some (.iconst 1, 272, 0, 0, 0), some (.iadd, 273, 0, 0, 0), some (.iaload, 274, 0, 0, 0), some (.aload_n 0, 275, 0, 0, 0), some (.iload_n 3, 276, 0, 0, 0), some (.iconst 2, 277, 0, 0, 0), some (.iadd, 278, 0, 0, 0), some (.iaload, 279, 0, 0, 0), some (.invokevirtual 40, 282, 60, 0, 476), none, none, some (.aload_n 2, 283, 0, 0, 0), some (.aload_n 0, 284, 0, 0, 0), some (.iload_n 3, 285, 0, 0, 0), some (.iconst 1, 286, 0, 0, 0), some (.iadd, 287, 0, 0, 0), some (.iaload, 288, 0, 0, 0), some (.aload_n 0, 289, 0, 0, 0), some (.iload_n 3, 290, 0, 0, 0), some (.iconst 2, 291, 0, 0, 0), some (.iadd, 292, 0, 0, 0), some (.iaload, 293, 0, 0, 0), some (.invokevirtual 43, 296, 110, 0, 917), none, none, some (.if_icmp .eq 460, 299, 756, 0, 0), none, none, some (.iconst 0, 300, 0, 0, 0), some (.ireturn, 301, 0, 0, 0), some (.aload_n 1, 302, 0, 0, 0), some (.aload_n 0, 303, 0, 0, 0), some (.iload_n 3, 304, 0, 0, 0), some (.iconst 1, 305, 0, 0, 0), some (.iadd, 306, 0, 0, 0), some (.iaload, 307, 0, 0, 0), some (.aload_n 0, 308, 0, 0, 0), some (.iload_n 3, 309, 0, 0, 0), some (.iconst 2, 310, 0, 0, 0), some (.iadd, 311, 0, 0, 0), some (.iaload, 312, 0, 0, 0), some (.invokevirtual 44, 315, 61, 0, 519), none, none, some (.aload_n 2, 316, 0, 0, 0), some (.aload_n 0, 317, 0, 0, 0), some (.iload_n 3, 318, 0, 0, 0), some (.iconst 1, 319, 0, 0, 0), some (.iadd, 320, 0, 0, 0), some (.iaload, 321, 0, 0, 0), some (.aload_n 0, 322, 0, 0, 0), some (.iload_n 3, 323, 0, 0, 0), some (.iconst 2, 324, 0, 0, 0), some (.iadd, 325, 0, 0, 0), some (.iaload, 326, 0, 0, 0), some (.invokevirtual 47, 329, 112, 0, 952), none, none, some (.if_icmp .eq 427, 332, 756, 0, 0), none, none, some (.iconst 0, 333, 0, 0, 0), some (.ireturn, 334, 0, 0, 0), some (.aload_n 1, 335, 0, 0, 0), some (.aload_n 0, 336, 0, 0, 0), some (.iload_n 3, 337, 0, 0, 0), some (.iconst 1, 338, 0, 0, 0), some (.iadd, 339, 0, 0, 0), some (.iaload, 340, 0, 0, 0), some (.invokevirtual 48, 343, 62, 0, 538), none, none, some (.aload_n 2, 344, 0, 0, 0), some (.aload_n 0, 345, 0, 0, 0), some (.iload_n 3, 346, 0, 0, 0), some (.iconst 1, 347, 0, 0, 0), some (.iadd, 348, 0, 0, 0), some (.iaload, 349, 0, 0, 0), some (.invokevirtual 51, 352, 113, 0, 970), none, none, some (.if_icmp .eq 404, 355, 756, 0, 0), none, none, some (.iconst 0, 356, 0, 0, 0), some (.ireturn, 357, 0, 0, 0), some (.aload_n 1, 358, 0, 0, 0), some (.invokevirtual 52, 361, 63, 0, 544), none, none, some (.aload_n 2, 362, 0, 0, 0), some (.invokevirtual 55, 365, 114, 0, 978), none, none, some (.if_icmp .eq 391, 368, 756, 0, 0), none, none, some (.iconst 0, 369, 0, 0, 0), some (.ireturn, 370, 0, 0, 0), some (.aload_n 1, 371, 0, 0, 0), some (.aload_n 0, 372, 0, 0, 0), some (.iload_n 3, 373, 0, 0, 0), some (.iconst 1, 374, 0, 0, 0), some (.iadd, 375, 0, 0, 0), some (.iaload, 376, 0, 0, 0), some (.invokevirtual 56, 379, 64, 0, 548), none, none, some (.aload_n 2, 380, 0, 0, 0), some (.aload_n 0, 381, 0, 0, 0), some (.iload_n 3, 382, 0, 0, 0), some (.iconst 1, 383, 0, 0, 0), some (.iadd, 384, 0, 0, 0), some (.iaload, 385, 0, 0, 0), some (.invokevirtual 59, 388, 115, 0, 982), none, none, some (.if_icmp .eq 368, 391, 756, 0, 0), none, none, some (.iconst 0, 392, 0, 0, 0), some (.ireturn, 393, 0, 0, 0), some (.aload_n 1, 394, 0, 0, 0), some (.aload_n 0, 395, 0, 0, 0), some (.iload_n 3, 396, 0, 0, 0), some (.iconst 1, 397, 0, 0, 0), some (.iadd, 398, 0, 0, 0), some (.iaload, 399, 0, 0, 0), some (.aload_n 0, 400, 0, 0, 0), some (.iload_n 3, 401, 0, 0, 0), some (.iconst 2, 402, 0, 0, 0), some (.iadd, 403, 0, 0, 0), some (.iaload, 404, 0, 0, 0), some (.invokevirtual 60, 407, 65, 0, 556), none, none, some (.aload_n 2, 408, 0, 0, 0), some (.aload_n 0, 409, 0, 0, 0), some (.iload_n 3, 410, 0, 0, 0), some (.iconst 1, 411, 0, 0, 0), some (.iadd, 412, 0, 0, 0), some (.iaload, 413, 0, 0, 0), some (.aload_n 0, 414, 0, 0, 0), some (.iload_n 3, 415, 0, 0, 0), some (.iconst 2, 416, 0, 0, 0), some (.iadd, 417, 0, 0, 0), some (.iaload, 418, 0, 0, 0), some (.invokevirtual 63, 421, 116, 0, 986), none, none, some (.if_icmp .eq 335, 424, 756, 0, 0), none, none, some (.iconst 0, 425, 0, 0, 0), some (.ireturn, 426, 0, 0, 0), some (.aload_n 1, 427, 0, 0, 0), some (.aload_n 0, 428, 0, 0, 0), some (.iload_n 3, 429, 0, 0, 0), some (.iconst 1, 430, 0, 0, 0), some (.iadd, 431, 0, 0, 0), some (.iaload, 432, 0, 0, 0), some (.aload_n 0, 433, 0, 0, 0), some (.iload_n 3, 434, 0, 0, 0), some (.iconst 2, 435, 0, 0, 0), some (.iadd, 436, 0, 0, 0), some (.iaload, 437, 0, 0, 0), some (.aload_n 0, 438, 0, 0, 0), some (.iload_n 3, 439, 0, 0, 0), some (.iconst 3, 440, 0, 0, 0), some (.iadd, 441, 0, 0, 0), some (.iaload, 442, 0, 0, 0), some (.invokevirtual 64, 445, 66, 0, 560), none, none, some (.aload_n 2, 446, 0, 0, 0), some (.aload_n 0, 447, 0, 0, 0), some (.iload_n 3, 448, 0, 0, 0), some (.iconst 1, 449, 0, 0, 0), some (.iadd, 450, 0, 0, 0), some (.iaload, 451, 0, 0, 0), some (.aload_n 0, 452, 0, 0, 0), some (.iload_n 3, 453, 0, 0, 0), some (.iconst 2, 454, 0, 0, 0), some (.iadd, 455, 0, 0, 0), some (.iaload, 456, 0, 0, 0), some (.aload_n 0, 457, 0, 0, 0), some (.iload_n 3, 458, 0, 0, 0), some (.iconst 3, 459, 0, 0, 0), some (.iadd, 460, 0, 0, 0), some (.iaload, 461, 0, 0, 0), some (.invokevirtual 68, 464, 117, 0, 991), none, none, some (.if_icmp .eq 292, 467, 756, 0, 0), none, none, some (.iconst 0, 468, 0, 0, 0), some (.ireturn, 469, 0, 0, 0), some (.aload_n 1, 470, 0, 0, 0), some (.aload_n 0, 471, 0, 0, 0), some (.iload_n 3, 472, 0, 0, 0), some (.iconst 1, 473, 0, 0, 0), some (.iadd, 474, 0, 0, 0), some (.iaload, 475, 0, 0, 0), some (.aload_n 0, 476, 0, 0, 0), some (.iload_n 3, 477, 0, 0, 0), some (.iconst 2, 478, 0, 0, 0), some (.iadd, 479, 0, 0, 0), some (.iaload, 480, 0, 0, 0), some (.invokevirtual 69, 483, 67, 0, 564), none, none, some (.aload_n 2, 484, 0, 0, 0), some (.aload_n 0, 485, 0, 0, 0), some (.iload_n 3, 486, 0, 0, 0), some (.iconst 1, 487, 0, 0, 0), some (.iadd, 488, 0, 0, 0), some (.iaload, 489, 0, 0, 0), some (.aload_n 0, 490, 0, 0, 0), some (.iload_n 3, 491, 0, 0, 0), some (.iconst 2, 492, 0, 0, 0), some (.iadd, 493, 0, 0, 0), some (.iaload, 494, 0, 0, 0), some (.invokevirtual 72, 497, 121, 0, 995), none, none, some (.if_icmp .eq 259, 500, 756, 0, 0), none, none, some (.iconst 0, 501, 0, 0, 0), some (.ireturn, 502, 0, 0, 0), some (.aload_n 1, 503, 0, 0, 0), some (.aload_n 0, 504, 0, 0, 0), some (.iload_n 3, 505, 0, 0, 0), some (.iconst 1, 506, 0, 0, 0), some (.iadd, 507, 0, 0, 0), some (.iaload, 508, 0, 0, 0), some (.invokevirtual 73, 511, 68, 0, 594), none, none, some (.aload_n 2, 512, 0, 0, 0), some (.aload_n 0, 513, 0, 0, 0), some (.iload_n 3, 514, 0, 0, 0), some (.iconst 1, 515, 0, 0, 0), some (.iadd, 516, 0, 0, 0), some (.iaload, 517, 0, 0, 0), some (.invokevirtual 76, 520, 124, 0, 1013), none, none, some (.if_icmp .eq 236, 523, 756, 0, 0), none, none, some (.iconst 0, 524, 0, 0, 0), some (.ireturn, 525, 0, 0, 0), some (.aload_n 1, 526, 0, 0, 0), some (.aload_n 0, 527, 0, 0, 0), some (.iload_n 3, 528, 0, 0, 0), some (.iconst 1, 529, 0, 0, 0), some (.iadd, 530, 0, 0, 0), some (.iaload, 531, 0, 0, 0), some (.aload_n 0, 532, 0, 0, 0), some (.iload_n 3, 533, 0, 0, 0), some (.iconst 2, 534, 0, 0, 0), some (.iadd, 535, 0, 0, 0), some (.iaload, 536, 0, 0, 0), some (.aload_n 0, 537, 0, 0, 0), some (.iload_n 3, 538, 0, 0, 0), some (.iconst 3, 539, 0, 0, 0), some (.iadd, 540, 0, 0, 0), some (.iaload, 541, 0, 0, 0), some (.aload_n 0, 542, 0, 0, 0), some (.iload_n 3, 543, 0, 0, 0), some (.iconst 4, 544, 0, 0, 0), some (.iadd, 545, 0, 0, 0), some (.iaload, 546, 0, 0, 0), some (.invokevirtual 77, 549, 69, 0, 609), none, none, some (.aload_n 2, 550, 0, 0, 0), some (.aload_n 0, 551, 0, 0, 0), some (.iload_n 3, 552, 0, 0, 0), some (.iconst 1, 553, 0, 0, 0), some (.iadd, 554, 0, 0, 0), some (.iaload, 555, 0, 0, 0), some (.aload_n 0, 556, 0, 0, 0), some (.iload_n 3, 557, 0, 0, 0), some (.iconst 2, 558, 0, 0, 0), some (.iadd, 559, 0, 0, 0), some (.iaload, 560, 0, 0, 0), some (.aload_n 0, 561, 0, 0, 0), some (.iload_n 3, 562, 0, 0, 0), some (.iconst 3, 563, 0, 0, 0), some (.iadd, 564, 0, 0, 0), some (.iaload, 565, 0, 0, 0), some (.aload_n 0, 566, 0, 0, 0), some (.iload_n 3, 567, 0, 0, 0), some (.iconst 4, 568, 0, 0, 0), some (.iadd, 569, 0, 0, 0), some (.iaload, 570, 0, 0, 0), some (.invokevirtual 81, 573, 126, 0, 1025), none, none, some (.if_icmp .eq 183, 576, 756, 0, 0), none, none, some (.iconst 0, 577, 0, 0, 0), some (.ireturn, 578, 0, 0, 0), some (.aload_n 1, 579, 0, 0, 0), some (.aload_n 0, 580, 0, 0, 0), some (.iload_n 3, 581, 0, 0, 0), some (.iconst 1, 582, 0, 0, 0), some (.iadd, 583, 0, 0, 0), some (.iaload, 584, 0, 0, 0), some (.aload_n 0, 585, 0, 0, 0), some (.iload_n 3, 586, 0, 0, 0), some (.iconst 2, 587, 0, 0, 0), some (.iadd, 588, 0, 0, 0), some (.iaload, 589, 0, 0, 0), some (.aload_n 0, 590, 0, 0, 0), some (.iload_n 3, 591, 0, 0, 0), some (.iconst 3, 592, 0, 0, 0), some (.iadd, 593, 0, 0, 0), some (.iaload, 594, 0, 0, 0), some (.ifCond .eq 7, 597, 601, 0, 0), none, none, some (.iconst 1, 598, 0, 0, 0), some (.goto 4, 601, 602, 0, 0), none, none, some (.iconst 0, 602, 0, 0, 0), some (.invokevirtual 82, 605, 70, 0, 619), none, none, some (.aload_n 2, 606, 0, 0, 0), some (.aload_n 0, 607, 0, 0, 0), some (.iload_n 3, 608, 0, 0, 0), some (.iconst 1, 609, 0, 0, 0), some (.iadd, 610, 0, 0, 0), some (.iaload, 611, 0, 0, 0), some (.aload_n 0, 612, 0, 0, 0), some (.iload_n 3, 613, 0, 0, 0), some (.iconst 2, 614, 0, 0, 0), some (.iadd, 615, 0, 0, 0), some (.iaload, 616, 0, 0, 0), some (.aload_n 0, 617, 0, 0, 0), some (.iload_n 3, 618, 0, 0, 0), some (.iconst 3, 619, 0, 0, 0), some (.iadd, 620, 0, 0, 0), some (.iaload, 621, 0, 0, 0), some (.ifCond .eq 7, 624, 628, 0, 0), none, none, some (.iconst 1, 625, 0, 0, 0), some (.goto 4, 628, 629, 0, 0), none, none, some (.iconst 0, 629, 0, 0, 0), some (.invokevirtual 86, 632, 127, 0, 1034), none, none, some (.if_icmp .eq 124, 635, 756, 0, 0), none, none, some (.iconst 0, 636, 0, 0, 0), some (.ireturn, 637, 0, 0, 0), some (.aload_n 1, 638, 0, 0, 0), some (.invokevirtual 87, 641, 71, 0, 627), none, none, some (.aload_n 2, 642, 0, 0, 0), some (.invokevirtual 90, 645, 128, 0, 1039), none, none, some (.if_icmp .eq 111, 648, 756, 0, 0), none, none, some (.iconst 0, 649, 0, 0, 0), some (.ireturn, 650, 0, 0, 0), some (.aload_n 1, 651, 0, 0, 0), some (.aload_n 0, 652, 0, 0, 0), some (.iload_n 3, 653, 0, 0, 0), some (.iconst 1, 654, 0, 0, 0), some (.iadd, 655, 0, 0, 0), some (.iaload, 656, 0, 0, 0), some (.aload_n 0, 657, 0, 0, 0), some (.iload_n 3, 658, 0, 0, 0), some (.iconst 2, 659, 0, 0, 0), some (.iadd, 660, 0, 0, 0), some (.iaload, 661, 0, 0, 0), some (.aload_n 0, 662, 0, 0, 0), some (.iload_n 3, 663, 0, 0, 0), some (.iconst 3, 664, 0, 0, 0), some (.iadd, 665, 0, 0, 0), some (.iaload, 666, 0, 0, 0), some (.invokevirtual 91, 669, 72, 0, 631), none, none, some (.aload_n 2, 670, 0, 0, 0), some (.aload_n 0, 671, 0, 0, 0), some (.iload_n 3, 672, 0, 0, 0), some (.iconst 1, 673, 0, 0, 0), some (.iadd, 674, 0, 0, 0), some (.iaload, 675, 0, 0, 0), some (.aload_n 0, 676, 0, 0, 0), some (.iload_n 3, 677, 0, 0, 0), some (.iconst 2, 678, 0, 0, 0), some (.iadd, 679, 0, 0, 0), some (.iaload, 680, 0, 0, 0), some (.aload_n 0, 681, 0, 0, 0), some (.iload_n 3, 682, 0, 0, 0), some (.iconst 3, 683, 0, 0, 0), some (.iadd, 684, 0, 0, 0), some (.iaload, 685, 0, 0, 0), some (.invokevirtual 94, 688, 133, 0, 1043), none, none, some (.if_icmp .eq 68, 691, 756, 0, 0), none, none, some (.iconst 0, 692, 0, 0, 0), some (.ireturn, 693, 0, 0, 0), some (.aload_n 1, 694, 0, 0, 0), some (.invokevirtual 95, 697, 73, 0, 655), none, none, some (.aload_n 2, 698, 0, 0, 0), some (.invokevirtual 98, 701, 134, 0, 1057), none, none, some (.if_icmp .eq 55, 704, 756, 0, 0), none, none, some (.iconst 0, 705, 0, 0, 0), some (.ireturn, 706, 0, 0, 0), some (.aload_n 1, 707, 0, 0, 0), some (.invokevirtual 99, 710, 74, 0, 668), none, none, some (.aload_n 2, 711, 0, 0, 0), some (.invokevirtual 102, 714, 135, 0, 1061), none, none, some (.if_icmp .eq 42, 717, 756, 0, 0), none, none, some (.iconst 0, 718, 0, 0, 0), some (.ireturn, 719, 0, 0, 0), some (.aload_n 1, 720, 0, 0, 0), some (.aload_n 0, 721, 0, 0, 0), some (.iload_n 3, 722, 0, 0, 0), some (.iconst 1, 723, 0, 0, 0), some (.iadd, 724, 0, 0, 0), some (.iaload, 725, 0, 0, 0), some (.invokevirtual 103, 728, 75, 0, 672), none, none, some (.aload_n 2, 729, 0, 0, 0), some (.aload_n 0, 730, 0, 0, 0), some (.iload_n 3, 731, 0, 0, 0), some (.iconst 1, 732, 0, 0, 0), some (.iadd, 733, 0, 0, 0), some (.iaload, 734, 0, 0, 0), some (.invokevirtual 106, 737, 139, 0, 1065), none, none, some (.if_icmp .eq 19, 740, 756, 0, 0), none, none, some (.iconst 0, 741, 0, 0, 0), some (.ireturn, 742, 0, 0, 0), some (.aload_n 1, 743, 0, 0, 0), some (.invokevirtual 107, 746, 76, 0, 681), none, none, some (.aload_n 2, 747, 0, 0, 0), some (.invokevirtual 111, 750, 142, 0, 1081), none, none, some (.lcmp, 751, 0, 0, 0), some (.ifCond .eq 5, 754, 756, 0, 0), none, none, some (.iconst 0, 755, 0, 0, 0), some (.ireturn, 756, 0, 0, 0), some (.iinc 3 5, 759, 0, 0, 0), none, none, some (.goto (-741), 762, 18, 0, 0), none, none, some (.iconst 1, 763, 0, 0, 0), some (.ireturn, 764, 0, 0, 0)]
def jp_X0_yearOf : List (Option jE) := [some (.iload_n 0, 1, 0, 0, 0), some (.sipush 1461, 4, 0, 0, 0), none, none, some (.idiv, 5, 0, 0, 0), some (.iconst 4, 6, 0, 0, 0), some (.imul, 7, 0, 0, 0), some (.iload_n 0, 8, 0, 0, 0), some (.sipush 1461, 11, 0, 0, 0), none, none, some (.irem, 12, 0, 0, 0), some (.sipush 365, 15, 0, 0, 0), none, none, some (.idiv, 16, 0, 0, 0), some (.iconst 3, 17, 0, 0, 0), some (.invokestatic 9, 20, 1001, 0, 536), none, none, some (.iadd, 21, 0, 0, 0), some (.ireturn, 22, 0, 0, 0)]
def jp_X0_monthOf : List (Option jE) := [some (.iload_n 0, 1, 0, 0, 0), some (.invokestatic 15, 4, 5, 0, 429), none, none, some (.bipush 32, 6, 0, 0, 0), none, some (.idiv, 7, 0, 0, 0), some (.ireturn, 8, 0, 0, 0)]
def jp_X0_dateOf : List (Option jE) := [some (.iload_n 0, 1, 0, 0, 0), some (.invokestatic 15, 4, 5, 0, 429), none, none, some (.bipush 32, 6, 0, 0, 0), none, some (.irem, 7, 0, 0, 0), some (.ireturn, 8, 0, 0, 0)]
def jp_X0_voicesOn : List (Option jE) := [some (.iload_n 0, 1, 0, 0, 0), some (.invokestatic 15, 4, 5, 0, 429), none, none, some (.istore_n 1, 5, 0, 0, 0), some (.iload_n 1, 6, 0, 0, 0), some (.bipush 93, 8, 0, 0, 0), none, some (.if_icmp .ne 5, 11, 13, 0, 0), none, none, some (.iconst 3, 12, 0, 0, 0), some (.ireturn, 13, 0, 0, 0), some (.iload_n 1, 14, 0, 0, 0), some (.bipush 32, 16, 0, 0, 0), none, some (.irem, 17, 0, 0, 0), some (.istore_n 2, 18, 0, 0, 0), some (.iload_n 2, 19, 0, 0, 0), some (.iconst 2, 20, 0, 0, 0), some (.irem, 21, 0, 0, 0), some (.iconst 1, 22, 0, 0, 0), some (.if_icmp .ne 7, 25, 29, 0, 0), none, none, some (.iconst 1, 26, 0, 0, 0), some (.goto 4, 29, 30, 0, 0), none, none, some (.iconst 2, 30, 0, 0, 0), some (.istore_n 3, 31, 0, 0, 0), some (.iload_n 2, 32, 0, 0, 0), some (.iconst 1, 33, 0, 0, 0), some (.if_icmp .ne 9, 36, 42, 0, 0), none, none, some (.iload_n 3, 37, 0, 0, 0), some (.iconst 4, 38, 0, 0, 0), some (.ior, 39, 0, 0, 0), some (.goto 4, 42, 43, 0, 0), none, none, some (.iload_n 3, 43, 0, 0, 0), some (.ireturn, 44, 0, 0, 0)]
def jp_X0_monthAndDate : List (Option jE) := [some (.iload_n 0, 1, 0, 0, 0), some (.sipush 1461, 4, 0, 0, 0), none, none, some (.irem, 5, 0, 0, 0), some (.istore_n 1, 6, 0, 0, 0), some (.iload_n 1, 7, 0, 0, 0), some (.sipush 1095, 10, 0, 0, 0), none, none, some (.if_icmp .lt 7, 13, 17, 0, 0), none, none, some (.iconst 1, 14, 0, 0, 0), some (.goto 4, 17, 18, 0, 0), none, none, some (.iconst 0, 18, 0, 0, 0), some (.istore_n 2, 19, 0, 0, 0), some (.iload_n 2, 20, 0, 0, 0), some (.ifCond .eq 11, 23, 31, 0, 0), none, none, some (.iload_n 1, 24, 0, 0, 0), some (.sipush 1095, 27, 0, 0, 0), none, none, some (.isub, 28, 0, 0, 0), some (.goto 8, 31, 36, 0, 0), none, none, some (.iload_n 1, 32, 0, 0, 0), some (.sipush 365, 35, 0, 0, 0), none, none, some (.irem, 36, 0, 0, 0), some (.istore_n 3, 37, 0, 0, 0), some (.iconst 0, 38, 0, 0, 0), some (.istore 4, 40, 0, 0, 0), none, some (.iconst 0, 41, 0, 0, 0), some (.istore 5, 43, 0, 0, 0), none, some (.iload 5, 45, 0, 0, 0), none, some (.getstatic 19, 48, 0, 0, 432), none, none, some (.arraylength, 49, 0, 0, 0), some (.if_icmp .ge 56, 52, 105, 0, 0), none, none, some (.iload 5, 54, 0, 0, 0), none, some (.iconst 1, 55, 0, 0, 0), some (.if_icmp .ne 18, 58, 73, 0, 0), none, none, some (.iload_n 2, 59, 0, 0, 0), some (.ifCond .eq 14, 62, 73, 0, 0), none, none, some (.getstatic 19, 65, 0, 0, 432), none, none, some (.iload 5, 67, 0, 0, 0), none, some (.iaload, 68, 0, 0, 0), some (.iconst 1, 69, 0, 0, 0), some (.iadd, 70, 0, 0, 0), some (.goto 9, 73, 79, 0, 0), none, none, some (.getstatic 19, 76, 0, 0, 432), none, none, some (.iload 5, 78, 0, 0, 0), none, some (.iaload, 79, 0, 0, 0), some (.istore 6, 81, 0, 0, 0), none, some (.iload_n 3, 82, 0, 0, 0), some (.iload 6, 84, 0, 0, 0), none, some (.if_icmp .ge 10, 87, 94, 0, 0), none, none, some (.iload 5, 89, 0, 0, 0), none, some (.istore 4, 91, 0, 0, 0), none, some (.goto 14, 94, 105, 0, 0), none, none, some (.iload_n 3, 95, 0, 0, 0), some (.iload 6, 97, 0, 0, 0), none, some (.isub, 98, 0, 0, 0), some (.istore_n 3, 99, 0, 0, 0), some (.iinc 5 1, 102, 0, 0, 0), none, none, some (.goto (-59), 105, 43, 0, 0), none, none, some (.iload 4, 107, 0, 0, 0), none, some (.iconst 1, 108, 0, 0, 0), some (.iadd, 109, 0, 0, 0), some (.bipush 32, 111, 0, 0, 0), none, some (.imul, 112, 0, 0, 0), some (.iload_n 3, 113, 0, 0, 0), some (.iadd, 114, 0, 0, 0), some (.iconst 1, 115, 0, 0, 0), some (.iadd, 116, 0, 0, 0), some (.ireturn, 117, 0, 0, 0)]
def jp_X1_run : List (Option jE) := [some (.aload_n 1, 1, 0, 0, 0), some (.getfield 15, 4, 2, 6, 135), none, none, some (.iconst 0, 5, 0, 0, 0), some (.aload_n 0, 6, 0, 0, 0), some (.getfield 9, 9, 5, 0, 227), none, none, some (.iconst 0, 10, 0, 0, 0), some (.iconst 5, 11, 0, 0, 0), some (.invokestatic 16, 14, 1002, 0, 639), none, none, some (.aload_n 0, 15, 0, 0, 0), some (.iconst 0, 16, 0, 0, 0), some (.putfield 22, 19, 5, 1, 228), none, none, some (.aload_n 0, 20, 0, 0, 0), some (.iconst 0, 21, 0, 0, 0), some (.putfield 26, 24, 5, 2, 230), none, none, some (.aload_n 0, 25, 0, 0, 0), some (.iload_n 3, 26, 0, 0, 0), some (.putfield 29, 29, 5, 3, 232), none, none, some (.iconst 0, 30, 0, 0, 0), some (.istore 4, 32, 0, 0, 0), none, some (.iload 4, 34, 0, 0, 0), none, some (.iload_n 2, 35, 0, 0, 0), some (.if_icmp .ge 21, 38, 56, 0, 0), none, none, some (.aload_n 0, 39, 0, 0, 0), some (.aload_n 1, 40, 0, 0, 0), some (.aload_n 1, 41, 0, 0, 0), some (.getfield 32, 44, 2, 11, 156), none, none, some (.iload 4, 46, 0, 0, 0), none, some (.iadd, 47, 0, 0, 0), some (.invokevirtual 35, 50, 7, 0, 640), none, none, some (.iinc 4 1, 53, 0, 0, 0), none, none, some (.goto (-21), 56, 32, 0, 0), none, none, some (.return_, 57, 0, 0, 0)]
def jp_X1_passDay : List (Option jE) := [some (.aload_n 0, 1, 0, 0, 0), some (.aload_n 1, 2, 0, 0, 0), some (.getfield 39, 5, 2, 9, 145), none, none, some (.invokevirtual 42, 8, 8, 0, 644), none, none, some (.istore_n 3, 9, 0, 0, 0), some (.aload_n 0, 10, 0, 0, 0), some (.getfield 9, 13, 5, 0, 227), none, none, some (.iload_n 3, 14, 0, 0, 0), some (.iaload, 15, 0, 0, 0), some (.istore 4, 17, 0, 0, 0), none, some (.aload_n 1, 18, 0, 0, 0), some (.iload_n 3, 19, 0, 0, 0), some (.iload 4, 21, 0, 0, 0), none, some (.iload_n 2, 22, 0, 0, 0), some (.aload_n 1, 23, 0, 0, 0), some (.iload_n 2, 24, 0, 0, 0), some (.invokevirtual 46, 27, 41, 0, 652), none, none, some (.invokevirtual 49, 30, 50, 0, 653), none, none, some (.ifCond .ne 4, 33, 34, 0, 0), none, none, some (.return_, 34, 0, 0, 0), some (.iload 4, 36, 0, 0, 0), none, some (.iconst (-1), 37, 0, 0, 0), some (.if_icmp .ne 11, 40, 48, 0, 0), none, none, some (.aload_n 0, 41, 0, 0, 0), some (.getfield 9, 44, 5, 0, 227), none, none, some (.iload_n 3, 45, 0, 0, 0), some (.iload_n 2, 46, 0, 0, 0), some (.iastore, 47, 0, 0, 0), some (.return_, 48, 0, 0, 0), some (.aload_n 0, 49, 0, 0, 0), some (.dup, 50, 0, 0, 0), some (.getfield 22, 53, 5, 1, 228), none, none, some (.aload_n 1, 54, 0, 0, 0), some (.iload_n 3, 55, 0, 0, 0), some (.iload 4, 57, 0, 0, 0), none, some (.iload_n 2, 58, 0, 0, 0), some (.invokevirtual 53, 61, 51, 0, 654), none, none, some (.iadd, 62, 0, 0, 0), some (.putfield 22, 65, 5, 1, 228), none, none, some (.aload_n 0, 66, 0, 0, 0), some (.dup, 67, 0, 0, 0), some (.getfield 26, 70, 5, 2, 230), none, none, some (.iconst 1, 71, 0, 0, 0), some (.iadd, 72, 0, 0, 0), some (.putfield 26, 75, 5, 2, 230), none, none, some (.aload_n 0, 76, 0, 0, 0), some (.getfield 9, 79, 5, 0, 227), none, none, some (.iload_n 3, 80, 0, 0, 0), some (.iconst (-1), 81, 0, 0, 0), some (.iastore, 82, 0, 0, 0), some (.return_, 83, 0, 0, 0)]
def jp_X1_draw : List (Option jE) := [some (.aload_n 0, 1, 0, 0, 0), some (.ldc2_w 57, 4, 1103515245, 0, 648), none, none, some (.aload_n 0, 5, 0, 0, 0), some (.getfield 29, 8, 5, 3, 232), none, none, some (.i2l, 9, 0, 0, 0), some (.lmul, 10, 0, 0, 0), some (.ldc2_w 59, 13, 12345, 0, 649), none, none, some (.ladd, 14, 0, 0, 0), some (.ldc2_w 63, 17, 2147483647, 0, 650), none, none, some (.land, 18, 0, 0, 0), some (.l2i, 19, 0, 0, 0), some (.putfield 29, 22, 5, 3, 232), none, none, some (.iload_n 1, 23, 0, 0, 0), some (.ifCond .le 15, 26, 38, 0, 0), none, none, some (.aload_n 0, 27, 0, 0, 0), some (.getfield 29, 30, 5, 3, 232), none, none, some (.ldc 65, 32, 65536, 0, 651), none, some (.idiv, 33, 0, 0, 0), some (.iload_n 1, 34, 0, 0, 0), some (.irem, 35, 0, 0, 0), some (.goto 4, 38, 39, 0, 0), none, none, some (.iconst 0, 39, 0, 0, 0), some (.ireturn, 40, 0, 0, 0)]
def jp_X2_soonest : List (Option jE) := [some (.aload_n 0, 1, 0, 0, 0), some (.getfield 9, 4, 2, 6, 134), none, none, some (.iload_n 1, 5, 0, 0, 0), some (.iaload, 6, 0, 0, 0), some (.istore_n 2, 7, 0, 0, 0), some (.iconst 0, 8, 0, 0, 0), some (.istore_n 3, 9, 0, 0, 0), some (.iload_n 3, 10, 0, 0, 0), some (.bipush 70, 12, 0, 0, 0), none, some (.if_icmp .gt 50, 15, 62, 0, 0), none, none, some (.iload_n 2, 16, 0, 0, 0), some (.bipush (-2), 18, 0, 0, 0), none, some (.if_icmp .eq 44, 21, 62, 0, 0), none, none, some (.aload_n 0, 22, 0, 0, 0), some (.getfield 17, 25, 2, 11, 154), none, none, some (.iload_n 3, 26, 0, 0, 0), some (.iadd, 27, 0, 0, 0), some (.istore 4, 29, 0, 0, 0), none, some (.aload_n 0, 30, 0, 0, 0), some (.iload_n 1, 31, 0, 0, 0), some (.iload_n 2, 32, 0, 0, 0), some (.iload 4, 34, 0, 0, 0), none, some (.aload_n 0, 35, 0, 0, 0), some (.iload 4, 37, 0, 0, 0), none, some (.invokevirtual 21, 40, 41, 0, 517), none, none, some (.invokevirtual 25, 43, 50, 0, 518), none, none, some (.ifCond .eq 13, 46, 56, 0, 0), none, none, some (.iload_n 2, 47, 0, 0, 0), some (.iconst (-1), 48, 0, 0, 0), some (.if_icmp .eq 5, 51, 53, 0, 0), none, none, some (.iload_n 3, 52, 0, 0, 0), some (.ireturn, 53, 0, 0, 0), some (.iload 4, 55, 0, 0, 0), none, some (.istore_n 2, 56, 0, 0, 0), some (.iinc 3 1, 59, 0, 0, 0), none, none, some (.goto (-50), 62, 9, 0, 0), none, none, some (.iconst (-1), 63, 0, 0, 0), some (.ireturn, 64, 0, 0, 0)]
def jp_X2_bestHomes : List (Option jE) := [some (.iconst 1, 1, 0, 0, 0), some (.aload_n 0, 2, 0, 0, 0), some (.getfield 29, 5, 2, 8, 142), none, none, some (.ishl, 6, 0, 0, 0), some (.iconst 1, 7, 0, 0, 0), some (.isub, 8, 0, 0, 0), some (.istore_n 1, 9, 0, 0, 0), some (.aload_n 0, 10, 0, 0, 0), some (.aload_n 0, 11, 0, 0, 0), some (.getfield 17, 14, 2, 11, 154), none, none, some (.iconst 0, 15, 0, 0, 0), some (.invokevirtual 32, 18, 42, 0, 601), none, none, some (.istore_n 2, 19, 0, 0, 0), some (.aload_n 0, 20, 0, 0, 0), some (.aload_n 0, 21, 0, 0, 0), some (.getfield 17, 24, 2, 11, 154), none, none, some (.iload_n 1, 25, 0, 0, 0), some (.invokevirtual 32, 28, 42, 0, 601), none, none, some (.istore_n 3, 29, 0, 0, 0), some (.aload_n 0, 30, 0, 0, 0), some (.aload_n 0, 31, 0, 0, 0), some (.getfield 17, 34, 2, 11, 154), none, none, some (.iconst 1, 35, 0, 0, 0), some (.iadd, 36, 0, 0, 0), some (.iconst 0, 37, 0, 0, 0), some (.invokevirtual 32, 40, 42, 0, 601), none, none, some (.istore 4, 42, 0, 0, 0), none, some (.aload_n 0, 43, 0, 0, 0), some (.aload_n 0, 44, 0, 0, 0), some (.getfield 17, 47, 2, 11, 154), none, none, some (.iconst 1, 48, 0, 0, 0), some (.iadd, 49, 0, 0, 0), some (.iload_n 1, 50, 0, 0, 0), some (.invokevirtual 32, 53, 42, 0, 601), none, none, some (.istore 5, 55, 0, 0, 0), none, some (.aload_n 0, 56, 0, 0, 0), some (.getfield 36, 59, 2, 10, 151), none, none, some (.istore 6, 61, 0, 0, 0), none, some (.iconst (-1), 62, 0, 0, 0), some (.istore 7, 64, 0, 0, 0), none, some (.iconst 0, 65, 0, 0, 0), some (.istore 8, 67, 0, 0, 0), none, some (.iconst 0, 68, 0, 0, 0), some (.istore 9, 70, 0, 0, 0), none, some (.iload 9, 72, 0, 0, 0), none, some (.iload_n 1, 73, 0, 0, 0), some (.if_icmp .gt 92, 76, 165, 0, 0), none, none, some (.iload_n 2, 77, 0, 0, 0), some (.iload 9, 79, 0, 0, 0), none, some (.iconst (-1), 80, 0, 0, 0), some (.ixor, 81, 0, 0, 0), some (.iand, 82, 0, 0, 0), some (.iload_n 3, 83, 0, 0, 0), some (.iload 9, 85, 0, 0, 0), none, some (.iand, 86, 0, 0, 0), some (.ior, 87, 0, 0, 0), some (.istore 10, 89, 0, 0, 0), none, some (.iload 4, 91, 0, 0, 0), none, some (.iload 9, 93, 0, 0, 0), none, some (.iconst (-1), 94, 0, 0, 0), some (.ixor, 95, 0, 0, 0), some (.iand, 96, 0, 0, 0), some (.iload 5, 98, 0, 0, 0), none, some (.iload 9, 100, 0, 0, 0), none, some (.iand, 101, 0, 0, 0), some (.ior, 102, 0, 0, 0), some (.istore 11, 104, 0, 0, 0), none, some (.aload_n 0, 105, 0, 0, 0), some (.iload 10, 107, 0, 0, 0), none, some (.iload 11, 109, 0, 0, 0), none, some (.invokestatic 39, 112, 12, 0, 602), none, none, some (.istore 12, 114, 0, 0, 0), none, some (.iload 9, 116, 0, 0, 0), none, some (.aload_n 0, 117, 0, 0, 0), some (.getfield 36, 120, 2, 10, 151), none, none, some (.ixor, 121, 0, 0, 0), some (.invokestatic 43, 124, 143, 0, 605), none, none, some (.istore 13, 126, 0, 0, 0), none, some (.iload 12, 128, 0, 0, 0), none, some (.iload 7, 130, 0, 0, 0), none, some (.if_icmp .gt 17, 133, 147, 0, 0), none, none, some (.iload 12, 135, 0, 0, 0), none, some (.iload 7, 137, 0, 0, 0), none, some (.if_icmp .ne 22, 140, 159, 0, 0), none, none, some (.iload 13, 142, 0, 0, 0), none, some (.iload 8, 144, 0, 0, 0), none, some (.if_icmp .ge 15, 147, 159, 0, 0), none, none, some (.iload 12, 149, 0, 0, 0), none, some (.istore 7, 151, 0, 0, 0), none, some (.iload 13, 153, 0, 0, 0), none, some (.istore 8, 155, 0, 0, 0), none, some (.iload 9, 157, 0, 0, 0), none, some (.istore 6, 159, 0, 0, 0), none, some (.iinc 9 1, 162, 0, 0, 0), none, none, some (.goto (-92), 165, 70, 0, 0), none, none, some (.iload 6, 167, 0, 0, 0), none, some (.ireturn, 168, 0, 0, 0)]
def jp_X2_settledByTomorrow : List (Option jE) := [some (.aload_n 0, 1, 0, 0, 0), some (.aload_n 0, 2, 0, 0, 0), some (.aload_n 0, 3, 0, 0, 0), some (.getfield 17, 6, 2, 11, 154), none, none, some (.iload_n 1, 7, 0, 0, 0), some (.invokevirtual 32, 10, 42, 0, 601), none, none, some (.aload_n 0, 11, 0, 0, 0), some (.aload_n 0, 12, 0, 0, 0), some (.getfield 17, 15, 2, 11, 154), none, none, some (.iconst 1, 16, 0, 0, 0), some (.iadd, 17, 0, 0, 0), some (.iload_n 1, 18, 0, 0, 0), some (.invokevirtual 32, 21, 42, 0, 601), none, none, some (.invokestatic 39, 24, 12, 0, 602), none, none, some (.ireturn, 25, 0, 0, 0)]
def jp_X2_settledBy : List (Option jE) := [some (.iconst 0, 1, 0, 0, 0), some (.istore_n 3, 2, 0, 0, 0), some (.iconst 0, 3, 0, 0, 0), some (.istore 4, 5, 0, 0, 0), none, some (.iload 4, 7, 0, 0, 0), none, some (.aload_n 0, 8, 0, 0, 0), some (.getfield 48, 11, 2, 9, 148), none, none, some (.if_icmp .ge 65, 14, 76, 0, 0), none, none, some (.aload_n 0, 15, 0, 0, 0), some (.getfield 9, 18, 2, 6, 134), none, none, some (.iload 4, 20, 0, 0, 0), none, some (.iaload, 21, 0, 0, 0), some (.iconst (-1), 22, 0, 0, 0), some (.if_icmp .ne 22, 25, 44, 0, 0), none, none, some (.iload_n 1, 26, 0, 0, 0), some (.aload_n 0, 27, 0, 0, 0), some (.getfield 51, 30, 2, 3, 123), none, none, some (.iload 4, 32, 0, 0, 0), none, some (.iaload, 33, 0, 0, 0), some (.ishr, 34, 0, 0, 0), some (.iconst 1, 35, 0, 0, 0), some (.iand, 36, 0, 0, 0), some (.iconst 1, 37, 0, 0, 0), some (.if_icmp .ne 7, 40, 44, 0, 0), none, none, some (.iconst 1, 41, 0, 0, 0), some (.goto 4, 44, 45, 0, 0), none, none, some (.iconst 0, 45, 0, 0, 0), some (.istore 5, 47, 0, 0, 0), none, some (.iload 5, 49, 0, 0, 0), none, some (.ifCond .eq 21, 52, 70, 0, 0), none, none, some (.iload_n 2, 53, 0, 0, 0), some (.aload_n 0, 54, 0, 0, 0), some (.getfield 54, 57, 2, 4, 127), none, none, some (.iload 4, 59, 0, 0, 0), none, some (.iaload, 60, 0, 0, 0), some (.ishr, 61, 0, 0, 0), some (.iconst 1, 62, 0, 0, 0), some (.iand, 63, 0, 0, 0), some (.iconst 1, 64, 0, 0, 0), some (.if_icmp .ne 6, 67, 70, 0, 0), none, none, some (.iinc 3 1, 70, 0, 0, 0), none, none, some (.iinc 4 1, 73, 0, 0, 0), none, none, some (.goto (-68), 76, 5, 0, 0), none, none, some (.iload_n 3, 77, 0, 0, 0), some (.ireturn, 78, 0, 0, 0)]
def jp_X2_partsSettled : List (Option jE) := [some (.aload_n 0, 1, 0, 0, 0), some (.getfield 9, 4, 2, 6, 134), none, none, some (.iload_n 1, 5, 0, 0, 0), some (.iaload, 6, 0, 0, 0), some (.istore 4, 8, 0, 0, 0), none, some (.bipush 10, 10, 0, 0, 0), none, some (.iload_n 3, 11, 0, 0, 0), some (.isub, 12, 0, 0, 0), some (.istore 5, 14, 0, 0, 0), none, some (.iload 4, 16, 0, 0, 0), none, some (.iconst (-1), 17, 0, 0, 0), some (.if_icmp .ne 7, 20, 24, 0, 0), none, none, some (.iconst 1, 21, 0, 0, 0), some (.goto 4, 24, 25, 0, 0), none, none, some (.iconst 0, 25, 0, 0, 0), some (.istore 6, 27, 0, 0, 0), none, some (.iconst 1, 28, 0, 0, 0), some (.iload 6, 30, 0, 0, 0), none, some (.isub, 31, 0, 0, 0), some (.istore 7, 33, 0, 0, 0), none, some (.iconst 0, 34, 0, 0, 0), some (.istore 8, 36, 0, 0, 0), none, some (.iconst 0, 37, 0, 0, 0), some (.istore 9, 39, 0, 0, 0), none, some (.iload 9, 41, 0, 0, 0), none, some (.iload_n 2, 42, 0, 0, 0), some (.if_icmp .ge 129, 45, 171, 0, 0), none, none, some (.aload_n 0, 46, 0, 0, 0), some (.getfield 17, 49, 2, 11, 154), none, none, some (.iload 9, 51, 0, 0, 0), none, some (.iadd, 52, 0, 0, 0), some (.istore 10, 54, 0, 0, 0), none, some (.aload_n 0, 55, 0, 0, 0), some (.iload 10, 57, 0, 0, 0), none, some (.invokevirtual 21, 60, 41, 0, 517), none, none, some (.istore 11, 62, 0, 0, 0), none, some (.aload_n 0, 63, 0, 0, 0), some (.iload_n 1, 64, 0, 0, 0), some (.iconst (-1), 65, 0, 0, 0), some (.iload 10, 67, 0, 0, 0), none, some (.iload 11, 69, 0, 0, 0), none, some (.invokevirtual 25, 72, 50, 0, 518), none, none, some (.ifCond .eq 11, 75, 83, 0, 0), none, none, some (.iload 6, 77, 0, 0, 0), none, some (.iload 5, 79, 0, 0, 0), none, some (.imul, 80, 0, 0, 0), some (.goto 4, 83, 84, 0, 0), none, none, some (.iconst 0, 84, 0, 0, 0), some (.istore 12, 86, 0, 0, 0), none, some (.iload 9, 88, 0, 0, 0), none, some (.ifCond .ne 8, 91, 96, 0, 0), none, none, some (.iload 4, 93, 0, 0, 0), none, some (.goto 7, 96, 100, 0, 0), none, none, some (.iload 10, 98, 0, 0, 0), none, some (.iconst 1, 99, 0, 0, 0), some (.isub, 100, 0, 0, 0), some (.istore 13, 102, 0, 0, 0), none, some (.iload 7, 104, 0, 0, 0), none, some (.ifCond .le 25, 107, 129, 0, 0), none, none, some (.aload_n 0, 108, 0, 0, 0), some (.iload_n 1, 109, 0, 0, 0), some (.iload 13, 111, 0, 0, 0), none, some (.iload 10, 113, 0, 0, 0), none, some (.iload 11, 115, 0, 0, 0), none, some (.invokevirtual 25, 118, 50, 0, 518), none, none, some (.ifCond .eq 11, 121, 129, 0, 0), none, none, some (.iload 7, 123, 0, 0, 0), none, some (.iload 5, 125, 0, 0, 0), none, some (.imul, 126, 0, 0, 0), some (.goto 4, 129, 130, 0, 0), none, none, some (.iconst 0, 130, 0, 0, 0), some (.istore 14, 132, 0, 0, 0), none, some (.iload 6, 134, 0, 0, 0), none, some (.bipush 10, 136, 0, 0, 0), none, some (.imul, 137, 0, 0, 0), some (.iload 12, 139, 0, 0, 0), none, some (.isub, 140, 0, 0, 0), some (.istore 6, 142, 0, 0, 0), none, some (.iload 7, 144, 0, 0, 0), none, some (.bipush 10, 146, 0, 0, 0), none, some (.imul, 147, 0, 0, 0), some (.iload 12, 149, 0, 0, 0), none, some (.iadd, 150, 0, 0, 0), some (.iload 14, 152, 0, 0, 0), none, some (.isub, 153, 0, 0, 0), some (.istore 7, 155, 0, 0, 0), none, some (.iload 8, 157, 0, 0, 0), none, some (.bipush 10, 159, 0, 0, 0), none, some (.imul, 160, 0, 0, 0), some (.iload 14, 162, 0, 0, 0), none, some (.iadd, 163, 0, 0, 0), some (.istore 8, 165, 0, 0, 0), none, some (.iinc 9 1, 168, 0, 0, 0), none, none, some (.goto (-129), 171, 39, 0, 0), none, none, some (.iload 8, 173, 0, 0, 0), none, some (.ireturn, 174, 0, 0, 0)]
def jp_X2_lowestTerms : List (Option jE) := [some (.iload_n 0, 1, 0, 0, 0), some (.istore_n 3, 2, 0, 0, 0), some (.iconst 1, 3, 0, 0, 0), some (.istore 4, 5, 0, 0, 0), none, some (.iconst 0, 6, 0, 0, 0), some (.istore 5, 8, 0, 0, 0), none, some (.iload 5, 10, 0, 0, 0), none, some (.iload_n 1, 11, 0, 0, 0), some (.if_icmp .ge 16, 14, 27, 0, 0), none, none, some (.iload 4, 16, 0, 0, 0), none, some (.bipush 10, 18, 0, 0, 0), none, some (.imul, 19, 0, 0, 0), some (.istore 4, 21, 0, 0, 0), none, some (.iinc 5 1, 24, 0, 0, 0), none, none, some (.goto (-16), 27, 8, 0, 0), none, none, some (.iconst 0, 28, 0, 0, 0), some (.istore 5, 30, 0, 0, 0), none, some (.iload 5, 32, 0, 0, 0), none, some (.iload_n 1, 33, 0, 0, 0), some (.if_icmp .ge 41, 36, 74, 0, 0), none, none, some (.iload_n 3, 37, 0, 0, 0), some (.iconst 2, 38, 0, 0, 0), some (.irem, 39, 0, 0, 0), some (.ifCond .ne 13, 42, 52, 0, 0), none, none, some (.iload_n 3, 43, 0, 0, 0), some (.iconst 2, 44, 0, 0, 0), some (.idiv, 45, 0, 0, 0), some (.istore_n 3, 46, 0, 0, 0), some (.iload 4, 48, 0, 0, 0), none, some (.iconst 2, 49, 0, 0, 0), some (.idiv, 50, 0, 0, 0), some (.istore 4, 52, 0, 0, 0), none, some (.iload_n 3, 53, 0, 0, 0), some (.iconst 5, 54, 0, 0, 0), some (.irem, 55, 0, 0, 0), some (.ifCond .ne 13, 58, 68, 0, 0), none, none, some (.iload_n 3, 59, 0, 0, 0), some (.iconst 5, 60, 0, 0, 0), some (.idiv, 61, 0, 0, 0), some (.istore_n 3, 62, 0, 0, 0), some (.iload 4, 64, 0, 0, 0), none, some (.iconst 5, 65, 0, 0, 0), some (.idiv, 66, 0, 0, 0), some (.istore 4, 68, 0, 0, 0), none, some (.iinc 5 1, 71, 0, 0, 0), none, none, some (.goto (-41), 74, 30, 0, 0), none, none, some (.iload_n 2, 75, 0, 0, 0), some (.ifCond .eq 7, 78, 82, 0, 0), none, none, some (.iload_n 3, 79, 0, 0, 0), some (.goto 5, 82, 84, 0, 0), none, none, some (.iload 4, 84, 0, 0, 0), none, some (.ireturn, 85, 0, 0, 0)]
def jp_X3_append : List (Option jE) := [some (.aload_n 0, 1, 0, 0, 0), some (.getfield 13, 4, 1, 1, 80), none, none, some (.bipush 44, 6, 0, 0, 0), none, some (.if_icmp .lt 5, 9, 11, 0, 0), none, none, some (.iconst 0, 10, 0, 0, 0), some (.ireturn, 11, 0, 0, 0), some (.aload_n 0, 12, 0, 0, 0), some (.getfield 9, 15, 1, 0, 78), none, none, some (.aload_n 0, 16, 0, 0, 0), some (.getfield 13, 19, 1, 1, 80), none, none, some (.iload_n 1, 20, 0, 0, 0), some (.iastore, 21, 0, 0, 0), some (.aload_n 0, 22, 0, 0, 0), some (.dup, 23, 0, 0, 0), some (.getfield 13, 26, 1, 1, 80), none, none, some (.iconst 1, 27, 0, 0, 0), some (.iadd, 28, 0, 0, 0), some (.putfield 13, 31, 1, 1, 80), none, none, some (.iconst 1, 32, 0, 0, 0), some (.ireturn, 33, 0, 0, 0)]
def jp_X3_firstFault : List (Option jE) := [some (.iconst 0, 1, 0, 0, 0), some (.istore_n 1, 2, 0, 0, 0), some (.iconst 0, 3, 0, 0, 0), some (.istore_n 2, 4, 0, 0, 0), some (.iload_n 2, 5, 0, 0, 0), some (.aload_n 0, 6, 0, 0, 0), some (.getfield 13, 9, 1, 1, 80), none, none, some (.if_icmp .ge 51, 12, 60, 0, 0), none, none, some (.iload_n 1, 13, 0, 0, 0), some (.ifCond .ne 11, 16, 24, 0, 0), none, none, some (.aload_n 0, 17, 0, 0, 0), some (.iload_n 2, 18, 0, 0, 0), some (.invokevirtual 17, 21, 17, 0, 285), none, none, some (.goto 9, 24, 30, 0, 0), none, none, some (.aload_n 0, 25, 0, 0, 0), some (.iload_n 2, 26, 0, 0, 0), some (.iload_n 1, 27, 0, 0, 0), some (.invokevirtual 21, 30, 18, 0, 379), none, none, some (.istore_n 3, 31, 0, 0, 0), some (.iload_n 3, 32, 0, 0, 0), some (.ifCond .ne 5, 35, 37, 0, 0), none, none, some (.iload_n 2, 36, 0, 0, 0), some (.ireturn, 37, 0, 0, 0), some (.aload_n 0, 38, 0, 0, 0), some (.getfield 9, 41, 1, 0, 78), none, none, some (.iload_n 2, 42, 0, 0, 0), some (.iaload, 43, 0, 0, 0), some (.bipush 59, 45, 0, 0, 0), none, some (.if_icmp .ne 9, 48, 54, 0, 0), none, none, some (.iload_n 2, 49, 0, 0, 0), some (.iconst 4, 50, 0, 0, 0), some (.idiv, 51, 0, 0, 0), some (.iconst 1, 52, 0, 0, 0), some (.iadd, 53, 0, 0, 0), some (.istore_n 1, 54, 0, 0, 0), some (.iinc 2 1, 57, 0, 0, 0), none, none, some (.goto (-53), 60, 4, 0, 0), none, none, some (.aload_n 0, 61, 0, 0, 0), some (.getfield 13, 64, 1, 1, 80), none, none, some (.ireturn, 65, 0, 0, 0)]
def jp_X3_fitsPeople : List (Option jE) := [some (.aload_n 0, 1, 0, 0, 0), some (.getfield 9, 4, 1, 0, 78), none, none, some (.iload_n 1, 5, 0, 0, 0), some (.iaload, 6, 0, 0, 0), some (.istore_n 2, 7, 0, 0, 0), some (.iload_n 1, 8, 0, 0, 0), some (.iconst 4, 9, 0, 0, 0), some (.idiv, 10, 0, 0, 0), some (.iconst 1, 11, 0, 0, 0), some (.iadd, 12, 0, 0, 0), some (.istore_n 3, 13, 0, 0, 0), some (.iload_n 1, 14, 0, 0, 0), some (.iconst 4, 15, 0, 0, 0), some (.irem, 16, 0, 0, 0), some (.tableswitch 77 0 2 #[28, 41, 59], 44, 0, 0, 0), none, none, none, none, none, none, none, none, none, none, none, none, none, none, none, none, none, none, none, none, none, none, none, none, none, none, none, some (.iload_n 2, 45, 0, 0, 0), some (.invokestatic 25, 48, 22, 0, 289), none, none, some (.ifCond .lt 7, 51, 55, 0, 0), none, none, some (.iconst 1, 52, 0, 0, 0), some (.goto 4, 55, 56, 0, 0), none, none, some (.iconst 0, 56, 0, 0, 0), some (.ireturn, 57, 0, 0, 0), some (.iload_n 2, 58, 0, 0, 0), some (.bipush 108, 60, 0, 0, 0), none, some (.if_icmp .eq 9, 63, 69, 0, 0), none, none, some (.iload_n 2, 64, 0, 0, 0), some (.bipush 114, 66, 0, 0, 0), none, some (.if_icmp .ne 7, 69, 73, 0, 0), none, none, some (.iconst 1, 70, 0, 0, 0), some (.goto 4, 73, 74, 0, 0), none, none, some (.iconst 0, 74, 0, 0, 0), some (.ireturn, 75, 0, 0, 0), some (.iload_n 2, 76, 0, 0, 0), some (.bipush 48, 78, 0, 0, 0), none, some (.if_icmp .lt 13, 81, 91, 0, 0), none, none, some (.iload_n 2, 82, 0, 0, 0), some (.bipush 57, 84, 0, 0, 0), none, some (.if_icmp .gt 7, 87, 91, 0, 0), none, none, some (.iconst 1, 88, 0, 0, 0), some (.goto 4, 91, 92, 0, 0), none, none, some (.iconst 0, 92, 0, 0, 0), some (.ireturn, 93, 0, 0, 0), some (.iload_n 2, 94, 0, 0, 0), some (.bipush 44, 96, 0, 0, 0), none, some (.if_icmp .ne 9, 99, 105, 0, 0), none, none, some (.iload_n 3, 100, 0, 0, 0), some (.bipush 6, 102, 0, 0, 0), none, some (.if_icmp .lt 14, 105, 116, 0, 0), none, none, some (.iload_n 2, 106, 0, 0, 0), some (.bipush 59, 108, 0, 0, 0), none, some (.if_icmp .ne 12, 111, 120, 0, 0), none, none, some (.iload_n 3, 112, 0, 0, 0), some (.iconst 2, 113, 0, 0, 0), some (.if_icmp .lt 7, 116, 120, 0, 0), none, none, some (.iconst 1, 117, 0, 0, 0), some (.goto 4, 120, 121, 0, 0), none, none, some (.iconst 0, 121, 0, 0, 0), some (.ireturn, 122, 0, 0, 0)]
def jp_X3_fitsMatters : List (Option jE) := [some (.aload_n 0, 1, 0, 0, 0), some (.getfield 9, 4, 1, 0, 78), none, none, some (.iload_n 1, 5, 0, 0, 0), some (.iaload, 6, 0, 0, 0), some (.istore_n 3, 7, 0, 0, 0), some (.iload_n 1, 8, 0, 0, 0), some (.iconst 4, 9, 0, 0, 0), some (.idiv, 10, 0, 0, 0), some (.iconst 1, 11, 0, 0, 0), some (.iadd, 12, 0, 0, 0), some (.iload_n 2, 13, 0, 0, 0), some (.isub, 14, 0, 0, 0), some (.istore 4, 16, 0, 0, 0), none, some (.iload_n 3, 17, 0, 0, 0), some (.bipush 48, 19, 0, 0, 0), none, some (.if_icmp .lt 15, 22, 34, 0, 0), none, none, some (.iload_n 3, 23, 0, 0, 0), some (.bipush 48, 25, 0, 0, 0), none, some (.iload_n 2, 26, 0, 0, 0), some (.iadd, 27, 0, 0, 0), some (.if_icmp .ge 7, 30, 34, 0, 0), none, none, some (.iconst 1, 31, 0, 0, 0), some (.goto 4, 34, 35, 0, 0), none, none, some (.iconst 0, 35, 0, 0, 0), some (.istore 5, 37, 0, 0, 0), none, some (.iload_n 1, 38, 0, 0, 0), some (.iconst 4, 39, 0, 0, 0), some (.irem, 40, 0, 0, 0), some (.tableswitch 72 0 2 #[28, 31, 54], 68, 0, 0, 0), none, none, none, none, none, none, none, none, none, none, none, none, none, none, none, none, none, none, none, none, none, none, none, none, none, none, none, some (.iload 5, 70, 0, 0, 0), none, some (.ireturn, 71, 0, 0, 0), some (.iload 5, 73, 0, 0, 0), none, some (.ifCond .eq 19, 76, 92, 0, 0), none, none, some (.iload_n 3, 77, 0, 0, 0), some (.aload_n 0, 78, 0, 0, 0), some (.getfield 9, 81, 1, 0, 78), none, none, some (.iload_n 1, 82, 0, 0, 0), some (.iconst 1, 83, 0, 0, 0), some (.isub, 84, 0, 0, 0), some (.iaload, 85, 0, 0, 0), some (.if_icmp .eq 7, 88, 92, 0, 0), none, none, some (.iconst 1, 89, 0, 0, 0), some (.goto 4, 92, 93, 0, 0), none, none, some (.iconst 0, 93, 0, 0, 0), some (.ireturn, 94, 0, 0, 0), some (.iload_n 3, 95, 0, 0, 0), some (.bipush 49, 97, 0, 0, 0), none, some (.if_icmp .lt 13, 100, 110, 0, 0), none, none, some (.iload_n 3, 101, 0, 0, 0), some (.bipush 57, 103, 0, 0, 0), none, some (.if_icmp .gt 7, 106, 110, 0, 0), none, none, some (.iconst 1, 107, 0, 0, 0), some (.goto 4, 110, 111, 0, 0), none, none, some (.iconst 0, 111, 0, 0, 0), some (.ireturn, 112, 0, 0, 0), some (.iload_n 3, 113, 0, 0, 0), some (.bipush 44, 115, 0, 0, 0), none, some (.if_icmp .ne 13, 118, 128, 0, 0), none, none, some (.iload 4, 120, 0, 0, 0), none, some (.iconst 5, 121, 0, 0, 0), some (.if_icmp .ge 7, 124, 128, 0, 0), none, none, some (.iconst 1, 125, 0, 0, 0), some (.goto 4, 128, 129, 0, 0), none, none, some (.iconst 0, 129, 0, 0, 0), some (.ireturn, 130, 0, 0, 0)]
def jp_X3_isWhole : List (Option jE) := [some (.aload_n 0, 1, 0, 0, 0), some (.getfield 13, 4, 1, 1, 80), none, none, some (.iconst 4, 5, 0, 0, 0), some (.irem, 6, 0, 0, 0), some (.iconst 3, 7, 0, 0, 0), some (.if_icmp .ne 25, 10, 32, 0, 0), none, none, some (.aload_n 0, 11, 0, 0, 0), some (.invokevirtual 31, 14, 16, 0, 392), none, none, some (.aload_n 0, 15, 0, 0, 0), some (.getfield 13, 18, 1, 1, 80), none, none, some (.if_icmp .ne 14, 21, 32, 0, 0), none, none, some (.aload_n 0, 22, 0, 0, 0), some (.invokevirtual 35, 25, 20, 0, 393), none, none, some (.ifCond .le 7, 28, 32, 0, 0), none, none, some (.iconst 1, 29, 0, 0, 0), some (.goto 4, 32, 33, 0, 0), none, none, some (.iconst 0, 33, 0, 0, 0), some (.ireturn, 34, 0, 0, 0)]
def jp_X3_peopleTold : List (Option jE) := [some (.iconst 3, 1, 0, 0, 0), some (.istore_n 1, 2, 0, 0, 0), some (.iload_n 1, 3, 0, 0, 0), some (.aload_n 0, 4, 0, 0, 0), some (.getfield 13, 7, 1, 1, 80), none, none, some (.if_icmp .ge 26, 10, 33, 0, 0), none, none, some (.aload_n 0, 11, 0, 0, 0), some (.getfield 9, 14, 1, 0, 78), none, none, some (.iload_n 1, 15, 0, 0, 0), some (.iaload, 16, 0, 0, 0), some (.bipush 59, 18, 0, 0, 0), none, some (.if_icmp .ne 9, 21, 27, 0, 0), none, none, some (.iload_n 1, 22, 0, 0, 0), some (.iconst 4, 23, 0, 0, 0), some (.idiv, 24, 0, 0, 0), some (.iconst 1, 25, 0, 0, 0), some (.iadd, 26, 0, 0, 0), some (.ireturn, 27, 0, 0, 0), some (.iinc 1 4, 30, 0, 0, 0), none, none, some (.goto (-28), 33, 2, 0, 0), none, none, some (.iconst 0, 34, 0, 0, 0), some (.ireturn, 35, 0, 0, 0)]
def jp_X3_readInto : List (Option jE) := [some (.aload_n 0, 1, 0, 0, 0), some (.invokevirtual 35, 4, 20, 0, 393), none, none, some (.istore_n 2, 5, 0, 0, 0), some (.aload_n 0, 6, 0, 0, 0), some (.getfield 13, 9, 1, 1, 80), none, none, some (.iconst 1, 10, 0, 0, 0), some (.iadd, 11, 0, 0, 0), some (.iconst 4, 12, 0, 0, 0), some (.idiv, 13, 0, 0, 0), some (.istore_n 3, 14, 0, 0, 0), some (.aload_n 1, 15, 0, 0, 0), some (.iload_n 2, 16, 0, 0, 0), some (.iload_n 3, 17, 0, 0, 0), some (.iload_n 2, 18, 0, 0, 0), some (.isub, 19, 0, 0, 0), some (.invokevirtual 38, 22, 36, 0, 401), none, none, some (.iconst 0, 23, 0, 0, 0), some (.istore 4, 25, 0, 0, 0), none, some (.iload 4, 27, 0, 0, 0), none, some (.aload_n 1, 28, 0, 0, 0), some (.getfield 42, 31, 2, 8, 144), none, none, some (.if_icmp .ge 62, 34, 93, 0, 0), none, none, some (.iload 4, 36, 0, 0, 0), none, some (.iconst 4, 37, 0, 0, 0), some (.imul, 38, 0, 0, 0), some (.istore 5, 40, 0, 0, 0), none, some (.aload_n 1, 41, 0, 0, 0), some (.iload 4, 43, 0, 0, 0), none, some (.aload_n 0, 44, 0, 0, 0), some (.getfield 9, 47, 1, 0, 78), none, none, some (.iload 5, 49, 0, 0, 0), none, some (.iaload, 50, 0, 0, 0), some (.invokestatic 25, 53, 22, 0, 289), none, none, some (.aload_n 0, 54, 0, 0, 0), some (.getfield 9, 57, 1, 0, 78), none, none, some (.iload 5, 59, 0, 0, 0), none, some (.iconst 1, 60, 0, 0, 0), some (.iadd, 61, 0, 0, 0), some (.iaload, 62, 0, 0, 0), some (.bipush 114, 64, 0, 0, 0), none, some (.if_icmp .ne 7, 67, 71, 0, 0), none, none, some (.iconst 1, 68, 0, 0, 0), some (.goto 4, 71, 72, 0, 0), none, none, some (.iconst 0, 72, 0, 0, 0), some (.aload_n 0, 73, 0, 0, 0), some (.getfield 9, 76, 1, 0, 78), none, none, some (.iload 5, 78, 0, 0, 0), none, some (.iconst 2, 79, 0, 0, 0), some (.iadd, 80, 0, 0, 0), some (.iaload, 81, 0, 0, 0), some (.bipush 48, 83, 0, 0, 0), none, some (.isub, 84, 0, 0, 0), some (.invokevirtual 45, 87, 37, 0, 406), none, none, some (.iinc 4 1, 90, 0, 0, 0), none, none, some (.goto (-65), 93, 25, 0, 0), none, none, some (.iconst 0, 94, 0, 0, 0), some (.istore 4, 96, 0, 0, 0), none, some (.iload 4, 98, 0, 0, 0), none, some (.aload_n 1, 99, 0, 0, 0), some (.getfield 49, 102, 2, 9, 149), none, none, some (.if_icmp .ge 80, 105, 182, 0, 0), none, none, some (.iload_n 2, 106, 0, 0, 0), some (.iload 4, 108, 0, 0, 0), none, some (.iadd, 109, 0, 0, 0), some (.iconst 4, 110, 0, 0, 0), some (.imul, 111, 0, 0, 0), some (.istore 5, 113, 0, 0, 0), none, some (.aload_n 1, 114, 0, 0, 0), some (.getfield 52, 117, 2, 3, 125), none, none, some (.iload 4, 119, 0, 0, 0), none, some (.aload_n 0, 120, 0, 0, 0), some (.getfield 9, 123, 1, 0, 78), none, none, some (.iload 5, 125, 0, 0, 0), none, some (.iaload, 126, 0, 0, 0), some (.bipush 48, 128, 0, 0, 0), none, some (.isub, 129, 0, 0, 0), some (.iastore, 130, 0, 0, 0), some (.aload_n 1, 131, 0, 0, 0), some (.getfield 55, 134, 2, 4, 129), none, none, some (.iload 4, 136, 0, 0, 0), none, some (.aload_n 0, 137, 0, 0, 0), some (.getfield 9, 140, 1, 0, 78), none, none, some (.iload 5, 142, 0, 0, 0), none, some (.iconst 1, 143, 0, 0, 0), some (.iadd, 144, 0, 0, 0), some (.iaload, 145, 0, 0, 0), some (.bipush 48, 147, 0, 0, 0), none, some (.isub, 148, 0, 0, 0), some (.iastore, 149, 0, 0, 0), some (.aload_n 1, 150, 0, 0, 0), some (.getfield 58, 153, 2, 5, 132), none, none, some (.iload 4, 155, 0, 0, 0), none, some (.aload_n 0, 156, 0, 0, 0), some (.getfield 9, 159, 1, 0, 78), none, none, some (.iload 5, 161, 0, 0, 0), none, some (.iconst 2, 162, 0, 0, 0), some (.iadd, 163, 0, 0, 0), some (.iaload, 164, 0, 0, 0), some (.bipush 48, 166, 0, 0, 0), none, some (.isub, 167, 0, 0, 0), some (.iastore, 168, 0, 0, 0), some (.aload_n 1, 169, 0, 0, 0), some (.getfield 61, 172, 2, 6, 137), none, none, some (.iload 4, 174, 0, 0, 0), none, some (.iconst (-1), 175, 0, 0, 0), some (.iastore, 176, 0, 0, 0), some (.iinc 4 1, 179, 0, 0, 0), none, none, some (.goto (-83), 182, 96, 0, 0), none, none, some (.return_, 183, 0, 0, 0)]
def jp_X3_kindOf : List (Option jE) := [some (.ldc 64, 2, 0, 1, 292), none, some (.iload_n 0, 3, 0, 0, 0), some (.i2c, 4, 0, 0, 0), some (.invokevirtual 66, 7, 144, 0, 293), none, none, some (.ireturn, 8, 0, 0, 0)]
def jp_X4_make : List (Option jE) := [some (.aload_n 0, 1, 0, 0, 0), some (.iload_n 2, 2, 0, 0, 0), some (.iconst 5, 3, 0, 0, 0), some (.invokestatic 26, 6, 1001, 0, 572), none, none, some (.putfield 32, 9, 4, 4, 198), none, none, some (.aload_n 0, 10, 0, 0, 0), some (.iconst (-1), 11, 0, 0, 0), some (.putfield 36, 14, 4, 6, 200), none, none, some (.aload_n 0, 15, 0, 0, 0), some (.iconst (-1), 16, 0, 0, 0), some (.putfield 39, 19, 4, 7, 202), none, none, some (.aload_n 0, 20, 0, 0, 0), some (.iconst (-1), 21, 0, 0, 0), some (.putfield 42, 24, 4, 5, 199), none, none, some (.iconst 0, 25, 0, 0, 0), some (.istore_n 3, 26, 0, 0, 0), some (.iload_n 3, 27, 0, 0, 0), some (.aload_n 0, 28, 0, 0, 0), some (.getfield 32, 31, 4, 4, 198), none, none, some (.if_icmp .ge 25, 34, 56, 0, 0), none, none, some (.aload_n 0, 35, 0, 0, 0), some (.getfield 11, 38, 4, 0, 194), none, none, some (.iload_n 3, 39, 0, 0, 0), some (.aload_n 1, 40, 0, 0, 0), some (.aload_n 1, 41, 0, 0, 0), some (.getfield 45, 44, 2, 11, 155), none, none, some (.iload_n 3, 45, 0, 0, 0), some (.iadd, 46, 0, 0, 0), some (.invokevirtual 48, 49, 41, 0, 573), none, none, some (.iastore, 50, 0, 0, 0), some (.iinc 3 1, 53, 0, 0, 0), none, none, some (.goto (-27), 56, 26, 0, 0), none, none, some (.aload_n 1, 57, 0, 0, 0), some (.getfield 52, 60, 2, 6, 136), none, none, some (.iconst 0, 61, 0, 0, 0), some (.aload_n 0, 62, 0, 0, 0), some (.getfield 23, 65, 4, 3, 197), none, none, some (.iconst 0, 66, 0, 0, 0), some (.iconst 5, 67, 0, 0, 0), some (.invokestatic 53, 70, 1002, 0, 574), none, none, some (.aload_n 0, 71, 0, 0, 0), some (.aload_n 1, 72, 0, 0, 0), some (.iconst 0, 73, 0, 0, 0), some (.iconst 0, 74, 0, 0, 0), some (.iconst 0, 75, 0, 0, 0), some (.invokestatic 59, 78, 25, 0, 577), none, none, some (.return_, 79, 0, 0, 0)]
def jp_X4_matterOn : List (Option jE) := [some (.iload_n 1, 1, 0, 0, 0), some (.ifCond .lt 20, 4, 21, 0, 0), none, none, some (.iload_n 1, 5, 0, 0, 0), some (.aload_n 0, 6, 0, 0, 0), some (.getfield 32, 9, 4, 4, 198), none, none, some (.if_icmp .ge 12, 12, 21, 0, 0), none, none, some (.aload_n 0, 13, 0, 0, 0), some (.getfield 18, 16, 4, 2, 196), none, none, some (.iload_n 1, 17, 0, 0, 0), some (.iaload, 18, 0, 0, 0), some (.goto 4, 21, 22, 0, 0), none, none, some (.iconst (-1), 22, 0, 0, 0), some (.ireturn, 23, 0, 0, 0)]
def jp_X4_search : List (Option jE) := [some (.iload_n 2, 1, 0, 0, 0), some (.aload_n 0, 2, 0, 0, 0), some (.getfield 32, 5, 4, 4, 198), none, none, some (.if_icmp .lt 12, 8, 17, 0, 0), none, none, some (.aload_n 0, 9, 0, 0, 0), some (.aload_n 1, 10, 0, 0, 0), some (.iload_n 3, 11, 0, 0, 0), some (.iload 4, 13, 0, 0, 0), none, some (.invokevirtual 63, 16, 26, 0, 580), none, none, some (.return_, 17, 0, 0, 0), some (.aload_n 1, 18, 0, 0, 0), some (.getfield 45, 21, 2, 11, 155), none, none, some (.iload_n 2, 22, 0, 0, 0), some (.iadd, 23, 0, 0, 0), some (.istore 5, 25, 0, 0, 0), none, some (.iconst 0, 26, 0, 0, 0), some (.istore 6, 28, 0, 0, 0), none, some (.iload 6, 30, 0, 0, 0), none, some (.aload_n 1, 31, 0, 0, 0), some (.getfield 67, 34, 2, 9, 147), none, none, some (.if_icmp .ge 119, 37, 153, 0, 0), none, none, some (.aload_n 0, 38, 0, 0, 0), some (.getfield 23, 41, 4, 3, 197), none, none, some (.iload 6, 43, 0, 0, 0), none, some (.iaload, 44, 0, 0, 0), some (.istore 7, 46, 0, 0, 0), none, some (.aload_n 1, 47, 0, 0, 0), some (.iload 6, 49, 0, 0, 0), none, some (.iload 7, 51, 0, 0, 0), none, some (.iload 5, 53, 0, 0, 0), none, some (.aload_n 0, 54, 0, 0, 0), some (.getfield 11, 57, 4, 0, 194), none, none, some (.iload_n 2, 58, 0, 0, 0), some (.iaload, 59, 0, 0, 0), some (.invokevirtual 70, 62, 50, 0, 588), none, none, some (.ifCond .ne 6, 65, 68, 0, 0), none, none, some (.goto 82, 68, 147, 0, 0), none, none, some (.aload_n 0, 69, 0, 0, 0), some (.getfield 15, 72, 4, 1, 195), none, none, some (.iload_n 2, 73, 0, 0, 0), some (.iload 6, 75, 0, 0, 0), none, some (.iastore, 76, 0, 0, 0), some (.iload 7, 78, 0, 0, 0), none, some (.iconst (-1), 79, 0, 0, 0), some (.if_icmp .ne 26, 82, 105, 0, 0), none, none, some (.aload_n 0, 83, 0, 0, 0), some (.getfield 23, 86, 4, 3, 197), none, none, some (.iload 6, 88, 0, 0, 0), none, some (.iload 5, 90, 0, 0, 0), none, some (.iastore, 91, 0, 0, 0), some (.aload_n 0, 92, 0, 0, 0), some (.aload_n 1, 93, 0, 0, 0), some (.iload_n 2, 94, 0, 0, 0), some (.iconst 1, 95, 0, 0, 0), some (.iadd, 96, 0, 0, 0), some (.iload_n 3, 97, 0, 0, 0), some (.iload 4, 99, 0, 0, 0), none, some (.invokestatic 59, 102, 25, 0, 577), none, none, some (.goto 36, 105, 138, 0, 0), none, none, some (.aload_n 0, 106, 0, 0, 0), some (.getfield 23, 109, 4, 3, 197), none, none, some (.iload 6, 111, 0, 0, 0), none, some (.bipush (-2), 113, 0, 0, 0), none, some (.iastore, 114, 0, 0, 0), some (.aload_n 0, 115, 0, 0, 0), some (.aload_n 1, 116, 0, 0, 0), some (.iload_n 2, 117, 0, 0, 0), some (.iconst 1, 118, 0, 0, 0), some (.iadd, 119, 0, 0, 0), some (.iload_n 3, 120, 0, 0, 0), some (.aload_n 1, 121, 0, 0, 0), some (.iload 6, 123, 0, 0, 0), none, some (.iload 7, 125, 0, 0, 0), none, some (.iload 5, 127, 0, 0, 0), none, some (.invokevirtual 74, 130, 51, 0, 589), none, none, some (.iadd, 131, 0, 0, 0), some (.iload 4, 133, 0, 0, 0), none, some (.iconst 1, 134, 0, 0, 0), some (.iadd, 135, 0, 0, 0), some (.invokestatic 59, 138, 25, 0, 577), none, none, some (.aload_n 0, 139, 0, 0, 0), some (.getfield 23, 142, 4, 3, 197), none, none, some (.iload 6, 144, 0, 0, 0), none, some (.iload 7, 146, 0, 0, 0), none, some (.iastore, 147, 0, 0, 0), some (.iinc 6 1, 150, 0, 0, 0), none, none, some (.goto (-122), 153, 28, 0, 0), none, none, some (.aload_n 0, 154, 0, 0, 0), some (.getfield 15, 157, 4, 1, 195), none, none, some (.iload_n 2, 158, 0, 0, 0), some (.bipush 7, 160, 0, 0, 0), none, some (.iastore, 161, 0, 0, 0), some (.aload_n 0, 162, 0, 0, 0), some (.aload_n 1, 163, 0, 0, 0), some (.iload_n 2, 164, 0, 0, 0), some (.iconst 1, 165, 0, 0, 0), some (.iadd, 166, 0, 0, 0), some (.iload_n 3, 167, 0, 0, 0), some (.iload 4, 169, 0, 0, 0), none, some (.invokestatic 59, 172, 25, 0, 577), none, none, some (.return_, 173, 0, 0, 0)]
def jp_X4_keepIfBetter : List (Option jE) := [some (.iload_n 2, 1, 0, 0, 0), some (.aload_n 0, 2, 0, 0, 0), some (.getfield 36, 5, 4, 6, 200), none, none, some (.if_icmp .lt 19, 8, 24, 0, 0), none, none, some (.iload_n 2, 9, 0, 0, 0), some (.aload_n 0, 10, 0, 0, 0), some (.getfield 36, 13, 4, 6, 200), none, none, some (.if_icmp .ne 12, 16, 25, 0, 0), none, none, some (.iload_n 3, 17, 0, 0, 0), some (.aload_n 0, 18, 0, 0, 0), some (.getfield 39, 21, 4, 7, 202), none, none, some (.if_icmp .ge 4, 24, 25, 0, 0), none, none, some (.return_, 25, 0, 0, 0), some (.aload_n 0, 26, 0, 0, 0), some (.aload_n 1, 27, 0, 0, 0), some (.getfield 67, 30, 2, 9, 147), none, none, some (.invokevirtual 78, 33, 27, 0, 584), none, none, some (.istore 4, 35, 0, 0, 0), none, some (.iload_n 2, 36, 0, 0, 0), some (.aload_n 0, 37, 0, 0, 0), some (.getfield 36, 40, 4, 6, 200), none, none, some (.if_icmp .ne 21, 43, 61, 0, 0), none, none, some (.iload_n 3, 44, 0, 0, 0), some (.aload_n 0, 45, 0, 0, 0), some (.getfield 39, 48, 4, 7, 202), none, none, some (.if_icmp .ne 13, 51, 61, 0, 0), none, none, some (.iload 4, 53, 0, 0, 0), none, some (.aload_n 0, 54, 0, 0, 0), some (.getfield 42, 57, 4, 5, 199), none, none, some (.if_icmp .gt 4, 60, 61, 0, 0), none, none, some (.return_, 61, 0, 0, 0), some (.aload_n 0, 62, 0, 0, 0), some (.iload_n 2, 63, 0, 0, 0), some (.putfield 36, 66, 4, 6, 200), none, none, some (.aload_n 0, 67, 0, 0, 0), some (.iload_n 3, 68, 0, 0, 0), some (.putfield 39, 71, 4, 7, 202), none, none, some (.aload_n 0, 72, 0, 0, 0), some (.iload 4, 74, 0, 0, 0), none, some (.putfield 42, 77, 4, 5, 199), none, none, some (.aload_n 0, 78, 0, 0, 0), some (.getfield 15, 81, 4, 1, 195), none, none, some (.iconst 0, 82, 0, 0, 0), some (.aload_n 0, 83, 0, 0, 0), some (.getfield 18, 86, 4, 2, 196), none, none, some (.iconst 0, 87, 0, 0, 0), some (.iconst 5, 88, 0, 0, 0), some (.invokestatic 53, 91, 1002, 0, 574), none, none, some (.return_, 92, 0, 0, 0)]
def jp_X4_howManyAsked : List (Option jE) := [some (.iconst 0, 1, 0, 0, 0), some (.istore_n 2, 2, 0, 0, 0), some (.iconst 0, 3, 0, 0, 0), some (.istore_n 3, 4, 0, 0, 0), some (.iload_n 3, 5, 0, 0, 0), some (.iload_n 1, 6, 0, 0, 0), some (.if_icmp .ge 21, 9, 27, 0, 0), none, none, some (.aload_n 0, 10, 0, 0, 0), some (.getfield 23, 13, 4, 3, 197), none, none, some (.iload_n 3, 14, 0, 0, 0), some (.iaload, 15, 0, 0, 0), some (.ifCond .lt 6, 18, 21, 0, 0), none, none, some (.iinc 2 1, 21, 0, 0, 0), none, none, some (.iinc 3 1, 24, 0, 0, 0), none, none, some (.goto (-20), 27, 4, 0, 0), none, none, some (.iload_n 2, 28, 0, 0, 0), some (.ireturn, 29, 0, 0, 0)]
def jp_X5_add : List (Option jE) := [some (.aload_n 0, 1, 0, 0, 0), some (.getfield 20, 4, 3, 3, 103), none, none, some (.bipush 6, 6, 0, 0, 0), none, some (.if_icmp .lt 5, 9, 11, 0, 0), none, none, some (.iconst 0, 10, 0, 0, 0), some (.ireturn, 11, 0, 0, 0), some (.aload_n 0, 12, 0, 0, 0), some (.getfield 9, 15, 3, 0, 100), none, none, some (.aload_n 0, 16, 0, 0, 0), some (.getfield 20, 19, 3, 3, 103), none, none, some (.iload_n 1, 20, 0, 0, 0), some (.iastore, 21, 0, 0, 0), some (.aload_n 0, 22, 0, 0, 0), some (.getfield 13, 25, 3, 1, 101), none, none, some (.aload_n 0, 26, 0, 0, 0), some (.getfield 20, 29, 3, 3, 103), none, none, some (.iload_n 2, 30, 0, 0, 0), some (.iastore, 31, 0, 0, 0), some (.aload_n 0, 32, 0, 0, 0), some (.getfield 16, 35, 3, 2, 102), none, none, some (.aload_n 0, 36, 0, 0, 0), some (.getfield 20, 39, 3, 3, 103), none, none, some (.iload_n 3, 40, 0, 0, 0), some (.bastore, 41, 0, 0, 0), some (.aload_n 0, 42, 0, 0, 0), some (.dup, 43, 0, 0, 0), some (.getfield 20, 46, 3, 3, 103), none, none, some (.iconst 1, 47, 0, 0, 0), some (.iadd, 48, 0, 0, 0), some (.putfield 20, 51, 3, 3, 103), none, none, some (.iconst 1, 52, 0, 0, 0), some (.ireturn, 53, 0, 0, 0)]
def jp_X5_sortsLeft : List (Option jE) := [some (.sipush 1023, 3, 0, 0, 0), none, none, some (.istore 4, 5, 0, 0, 0), none, some (.iconst 0, 6, 0, 0, 0), some (.istore 5, 8, 0, 0, 0), none, some (.iload 5, 10, 0, 0, 0), none, some (.aload_n 0, 11, 0, 0, 0), some (.getfield 20, 14, 3, 3, 103), none, none, some (.if_icmp .ge 62, 17, 76, 0, 0), none, none, some (.aload_n 0, 18, 0, 0, 0), some (.getfield 9, 21, 3, 0, 100), none, none, some (.iload 5, 23, 0, 0, 0), none, some (.iaload, 24, 0, 0, 0), some (.iload_n 1, 25, 0, 0, 0), some (.if_icmp .ne 45, 28, 70, 0, 0), none, none, some (.iload_n 3, 29, 0, 0, 0), some (.aload_n 0, 30, 0, 0, 0), some (.getfield 13, 33, 3, 1, 101), none, none, some (.iload 5, 35, 0, 0, 0), none, some (.iaload, 36, 0, 0, 0), some (.iadd, 37, 0, 0, 0), some (.invokestatic 26, 40, 4, 0, 455), none, none, some (.iload_n 2, 41, 0, 0, 0), some (.invokestatic 32, 44, 32, 0, 456), none, none, some (.istore 6, 46, 0, 0, 0), none, some (.iload 4, 48, 0, 0, 0), none, some (.aload_n 0, 49, 0, 0, 0), some (.getfield 16, 52, 3, 2, 102), none, none, some (.iload 5, 54, 0, 0, 0), none, some (.baload, 55, 0, 0, 0), some (.ifCond .eq 8, 58, 63, 0, 0), none, none, some (.iload 6, 60, 0, 0, 0), none, some (.goto 7, 63, 67, 0, 0), none, none, some (.iload 6, 65, 0, 0, 0), none, some (.iconst (-1), 66, 0, 0, 0), some (.ixor, 67, 0, 0, 0), some (.iand, 68, 0, 0, 0), some (.istore 4, 70, 0, 0, 0), none, some (.iinc 5 1, 73, 0, 0, 0), none, none, some (.goto (-65), 76, 8, 0, 0), none, none, some (.iload 4, 78, 0, 0, 0), none, some (.ireturn, 79, 0, 0, 0)]
def jp_X5_copyFrom : List (Option jE) := [some (.aload_n 0, 1, 0, 0, 0), some (.aload_n 1, 2, 0, 0, 0), some (.getfield 20, 5, 3, 3, 103), none, none, some (.putfield 20, 8, 3, 3, 103), none, none, some (.iconst 0, 9, 0, 0, 0), some (.istore_n 2, 10, 0, 0, 0), some (.iload_n 2, 11, 0, 0, 0), some (.bipush 6, 13, 0, 0, 0), none, some (.if_icmp .ge 45, 16, 58, 0, 0), none, none, some (.aload_n 0, 17, 0, 0, 0), some (.getfield 9, 20, 3, 0, 100), none, none, some (.iload_n 2, 21, 0, 0, 0), some (.aload_n 1, 22, 0, 0, 0), some (.getfield 9, 25, 3, 0, 100), none, none, some (.iload_n 2, 26, 0, 0, 0), some (.iaload, 27, 0, 0, 0), some (.iastore, 28, 0, 0, 0), some (.aload_n 0, 29, 0, 0, 0), some (.getfield 13, 32, 3, 1, 101), none, none, some (.iload_n 2, 33, 0, 0, 0), some (.aload_n 1, 34, 0, 0, 0), some (.getfield 13, 37, 3, 1, 101), none, none, some (.iload_n 2, 38, 0, 0, 0), some (.iaload, 39, 0, 0, 0), some (.iastore, 40, 0, 0, 0), some (.aload_n 0, 41, 0, 0, 0), some (.getfield 16, 44, 3, 2, 102), none, none, some (.iload_n 2, 45, 0, 0, 0), some (.aload_n 1, 46, 0, 0, 0), some (.getfield 16, 49, 3, 2, 102), none, none, some (.iload_n 2, 50, 0, 0, 0), some (.baload, 51, 0, 0, 0), some (.bastore, 52, 0, 0, 0), some (.iinc 2 1, 55, 0, 0, 0), none, none, some (.goto (-45), 58, 10, 0, 0), none, none, some (.return_, 59, 0, 0, 0)]
def jp_X6_isKind : List (Option jE) := [some (.iload_n 1, 1, 0, 0, 0), some (.ifCond .eq 18, 4, 19, 0, 0), none, none, some (.iload_n 0, 5, 0, 0, 0), some (.iload_n 1, 6, 0, 0, 0), some (.if_icmp .eq 13, 9, 19, 0, 0), none, none, some (.iload_n 0, 10, 0, 0, 0), some (.iconst 4, 11, 0, 0, 0), some (.if_icmp .ne 12, 14, 23, 0, 0), none, none, some (.iload_n 1, 15, 0, 0, 0), some (.iconst 1, 16, 0, 0, 0), some (.if_icmp .ne 7, 19, 23, 0, 0), none, none, some (.iconst 1, 20, 0, 0, 0), some (.goto 4, 23, 24, 0, 0), none, none, some (.iconst 0, 24, 0, 0, 0), some (.ireturn, 25, 0, 0, 0)]
def jp_X6_speaking : List (Option jE) := [some (.iload_n 0, 1, 0, 0, 0), some (.iload_n 1, 2, 0, 0, 0), some (.ishr, 3, 0, 0, 0), some (.iconst 1, 4, 0, 0, 0), some (.iand, 5, 0, 0, 0), some (.iconst 1, 6, 0, 0, 0), some (.if_icmp .ne 7, 9, 13, 0, 0), none, none, some (.iconst 1, 10, 0, 0, 0), some (.goto 4, 13, 14, 0, 0), none, none, some (.iconst 0, 14, 0, 0, 0), some (.istore_n 2, 15, 0, 0, 0), some (.sipush 594, 18, 0, 0, 0), none, none, some (.istore_n 3, 19, 0, 0, 0), some (.iload_n 2, 20, 0, 0, 0), some (.ifCond .eq 8, 23, 28, 0, 0), none, none, some (.iload_n 3, 24, 0, 0, 0), some (.bipush 33, 26, 0, 0, 0), none, some (.ior, 27, 0, 0, 0), some (.istore_n 3, 28, 0, 0, 0), some (.iload_n 2, 29, 0, 0, 0), some (.ifCond .ne 9, 32, 38, 0, 0), none, none, some (.iload_n 0, 33, 0, 0, 0), some (.iconst 4, 34, 0, 0, 0), some (.iand, 35, 0, 0, 0), some (.ifCond .eq 9, 38, 44, 0, 0), none, none, some (.iload_n 3, 39, 0, 0, 0), some (.sipush 132, 42, 0, 0, 0), none, none, some (.ior, 43, 0, 0, 0), some (.istore_n 3, 44, 0, 0, 0), some (.iload_n 0, 45, 0, 0, 0), some (.iconst 1, 46, 0, 0, 0), some (.iand, 47, 0, 0, 0), some (.ifCond .eq 8, 50, 55, 0, 0), none, none, some (.iload_n 3, 51, 0, 0, 0), some (.bipush 8, 53, 0, 0, 0), none, some (.ior, 54, 0, 0, 0), some (.istore_n 3, 55, 0, 0, 0), some (.iload_n 0, 56, 0, 0, 0), some (.iconst 2, 57, 0, 0, 0), some (.iand, 58, 0, 0, 0), some (.ifCond .eq 9, 61, 67, 0, 0), none, none, some (.iload_n 3, 62, 0, 0, 0), some (.sipush 256, 65, 0, 0, 0), none, none, some (.ior, 66, 0, 0, 0), some (.istore_n 3, 67, 0, 0, 0), some (.iload_n 3, 68, 0, 0, 0), some (.ireturn, 69, 0, 0, 0)]
def jp_X7_hasRiver : List (Option jE) := [some (.aload_n 0, 1, 0, 0, 0), some (.getfield 40, 4, 2, 8, 141), none, none, some (.ifCond .le 7, 7, 11, 0, 0), none, none, some (.iconst 1, 8, 0, 0, 0), some (.goto 4, 11, 12, 0, 0), none, none, some (.iconst 0, 12, 0, 0, 0), some (.ireturn, 13, 0, 0, 0)]
def jp_X7_knowsPerson : List (Option jE) := [some (.iload_n 1, 1, 0, 0, 0), some (.ifCond .lt 15, 4, 16, 0, 0), none, none, some (.iload_n 1, 5, 0, 0, 0), some (.aload_n 0, 6, 0, 0, 0), some (.getfield 40, 9, 2, 8, 141), none, none, some (.if_icmp .ge 7, 12, 16, 0, 0), none, none, some (.iconst 1, 13, 0, 0, 0), some (.goto 4, 16, 17, 0, 0), none, none, some (.iconst 0, 17, 0, 0, 0), some (.ireturn, 18, 0, 0, 0)]
def jp_X7_knowsMatter : List (Option jE) := [some (.iload_n 1, 1, 0, 0, 0), some (.ifCond .lt 15, 4, 16, 0, 0), none, none, some (.iload_n 1, 5, 0, 0, 0), some (.aload_n 0, 6, 0, 0, 0), some (.getfield 44, 9, 2, 9, 146), none, none, some (.if_icmp .ge 7, 12, 16, 0, 0), none, none, some (.iconst 1, 13, 0, 0, 0), some (.goto 4, 16, 17, 0, 0), none, none, some (.iconst 0, 17, 0, 0, 0), some (.ireturn, 18, 0, 0, 0)]
def jp_X7_begin : List (Option jE) := [some (.aload_n 0, 1, 0, 0, 0), some (.iload_n 1, 2, 0, 0, 0), some (.bipush 6, 4, 0, 0, 0), none, some (.invokestatic 47, 7, 1001, 0, 405), none, none, some (.putfield 40, 10, 2, 8, 141), none, none, some (.aload_n 0, 11, 0, 0, 0), some (.iload_n 2, 12, 0, 0, 0), some (.iconst 5, 13, 0, 0, 0), some (.invokestatic 47, 16, 1001, 0, 405), none, none, some (.putfield 44, 19, 2, 9, 146), none, none, some (.aload_n 0, 20, 0, 0, 0), some (.iconst 0, 21, 0, 0, 0), some (.putfield 53, 24, 2, 10, 152), none, none, some (.aload_n 0, 25, 0, 0, 0), some (.iconst 0, 26, 0, 0, 0), some (.putfield 56, 29, 2, 11, 157), none, none, some (.aload_n 0, 30, 0, 0, 0), some (.iconst 0, 31, 0, 0, 0), some (.putfield 59, 34, 2, 12, 159), none, none, some (.aload_n 0, 35, 0, 0, 0), some (.getfield 36, 38, 2, 7, 139), none, none, some (.iconst 0, 39, 0, 0, 0), some (.putfield 62, 42, 3, 3, 104), none, none, some (.return_, 43, 0, 0, 0)]
def jp_X7_place : List (Option jE) := [some (.aload_n 0, 1, 0, 0, 0), some (.getfield 11, 4, 2, 0, 116), none, none, some (.iload_n 1, 5, 0, 0, 0), some (.iload_n 2, 6, 0, 0, 0), some (.iastore, 7, 0, 0, 0), some (.aload_n 0, 8, 0, 0, 0), some (.getfield 15, 11, 2, 1, 118), none, none, some (.iload_n 1, 12, 0, 0, 0), some (.iload_n 3, 13, 0, 0, 0), some (.ifCond .eq 7, 16, 20, 0, 0), none, none, some (.iconst 1, 17, 0, 0, 0), some (.goto 4, 20, 21, 0, 0), none, none, some (.iconst 0, 21, 0, 0, 0), some (.iastore, 22, 0, 0, 0), some (.aload_n 0, 23, 0, 0, 0), some (.getfield 18, 26, 2, 2, 120), none, none, some (.iload_n 1, 27, 0, 0, 0), some (.iload 4, 29, 0, 0, 0), none, some (.iastore, 30, 0, 0, 0), some (.aload_n 0, 31, 0, 0, 0), some (.dup, 32, 0, 0, 0), some (.getfield 53, 35, 2, 10, 152), none, none, some (.aload_n 0, 36, 0, 0, 0), some (.getfield 15, 39, 2, 1, 118), none, none, some (.iload_n 1, 40, 0, 0, 0), some (.iaload, 41, 0, 0, 0), some (.iload_n 1, 42, 0, 0, 0), some (.ishl, 43, 0, 0, 0), some (.ior, 44, 0, 0, 0), some (.putfield 53, 47, 2, 10, 152), none, none, some (.return_, 48, 0, 0, 0)]
def jp_X7_bankOf : List (Option jE) := [some (.aload_n 0, 1, 0, 0, 0), some (.getfield 53, 4, 2, 10, 152), none, none, some (.iload_n 1, 5, 0, 0, 0), some (.ishr, 6, 0, 0, 0), some (.iconst 1, 7, 0, 0, 0), some (.iand, 8, 0, 0, 0), some (.ireturn, 9, 0, 0, 0)]
def jp_X7_speaks : List (Option jE) := [some (.aload_n 0, 1, 0, 0, 0), some (.iload_n 2, 2, 0, 0, 0), some (.invokestatic 65, 5, 4, 0, 426), none, none, some (.iload_n 1, 6, 0, 0, 0), some (.aload_n 0, 7, 0, 0, 0), some (.iload_n 1, 8, 0, 0, 0), some (.invokevirtual 71, 11, 38, 0, 434), none, none, some (.invokevirtual 74, 14, 40, 0, 435), none, none, some (.ireturn, 15, 0, 0, 0)]
def jp_X7_speaksWith : List (Option jE) := [some (.aload_n 0, 1, 0, 0, 0), some (.getfield 11, 4, 2, 0, 116), none, none, some (.iload_n 2, 5, 0, 0, 0), some (.iaload, 6, 0, 0, 0), some (.iconst 5, 7, 0, 0, 0), some (.aload_n 0, 8, 0, 0, 0), some (.getfield 15, 11, 2, 1, 118), none, none, some (.iload_n 2, 12, 0, 0, 0), some (.iaload, 13, 0, 0, 0), some (.imul, 14, 0, 0, 0), some (.iadd, 15, 0, 0, 0), some (.istore 4, 17, 0, 0, 0), none, some (.iload_n 1, 18, 0, 0, 0), some (.iload_n 3, 19, 0, 0, 0), some (.invokestatic 80, 22, 32, 0, 439), none, none, some (.iload 4, 24, 0, 0, 0), none, some (.ishr, 25, 0, 0, 0), some (.iconst 1, 26, 0, 0, 0), some (.iand, 27, 0, 0, 0), some (.iconst 1, 28, 0, 0, 0), some (.if_icmp .ne 7, 31, 35, 0, 0), none, none, some (.iconst 1, 32, 0, 0, 0), some (.goto 4, 35, 36, 0, 0), none, none, some (.iconst 0, 36, 0, 0, 0), some (.ireturn, 37, 0, 0, 0)]
def jp_X7_speakersOn : List (Option jE) := [some (.aload_n 0, 1, 0, 0, 0), some (.iload_n 1, 2, 0, 0, 0), some (.aload_n 0, 3, 0, 0, 0), some (.getfield 53, 6, 2, 10, 152), none, none, some (.invokevirtual 83, 9, 42, 0, 501), none, none, some (.ireturn, 10, 0, 0, 0)]
def jp_X7_speakersIf : List (Option jE) := [some (.iload_n 1, 1, 0, 0, 0), some (.invokestatic 65, 4, 4, 0, 426), none, none, some (.istore_n 3, 5, 0, 0, 0), some (.iconst 0, 6, 0, 0, 0), some (.istore 4, 8, 0, 0, 0), none, some (.iconst 0, 9, 0, 0, 0), some (.istore 5, 11, 0, 0, 0), none, some (.iload 5, 13, 0, 0, 0), none, some (.aload_n 0, 14, 0, 0, 0), some (.getfield 40, 17, 2, 8, 141), none, none, some (.if_icmp .ge 34, 20, 51, 0, 0), none, none, some (.aload_n 0, 21, 0, 0, 0), some (.iload_n 3, 22, 0, 0, 0), some (.iload 5, 24, 0, 0, 0), none, some (.iload_n 2, 25, 0, 0, 0), some (.iload 5, 27, 0, 0, 0), none, some (.ishr, 28, 0, 0, 0), some (.iconst 1, 29, 0, 0, 0), some (.iand, 30, 0, 0, 0), some (.invokevirtual 74, 33, 40, 0, 435), none, none, some (.ifCond .eq 12, 36, 45, 0, 0), none, none, some (.iload 4, 38, 0, 0, 0), none, some (.iconst 1, 39, 0, 0, 0), some (.iload 5, 41, 0, 0, 0), none, some (.ishl, 42, 0, 0, 0), some (.ior, 43, 0, 0, 0), some (.istore 4, 45, 0, 0, 0), none, some (.iinc 5 1, 48, 0, 0, 0), none, none, some (.goto (-37), 51, 11, 0, 0), none, none, some (.iload 4, 53, 0, 0, 0), none, some (.ireturn, 54, 0, 0, 0)]
def jp_X7_speakingDays : List (Option jE) := [some (.iconst 0, 1, 0, 0, 0), some (.istore_n 2, 2, 0, 0, 0), some (.iconst 0, 3, 0, 0, 0), some (.istore_n 3, 4, 0, 0, 0), some (.iload_n 3, 5, 0, 0, 0), some (.bipush 31, 7, 0, 0, 0), none, some (.if_icmp .ge 26, 10, 33, 0, 0), none, none, some (.aload_n 0, 11, 0, 0, 0), some (.iload_n 1, 12, 0, 0, 0), some (.aload_n 0, 13, 0, 0, 0), some (.getfield 56, 16, 2, 11, 157), none, none, some (.iload_n 3, 17, 0, 0, 0), some (.iadd, 18, 0, 0, 0), some (.invokevirtual 86, 21, 39, 0, 446), none, none, some (.ifCond .eq 6, 24, 27, 0, 0), none, none, some (.iinc 2 1, 27, 0, 0, 0), none, none, some (.iinc 3 1, 30, 0, 0, 0), none, none, some (.goto (-26), 33, 4, 0, 0), none, none, some (.iload_n 2, 34, 0, 0, 0), some (.ireturn, 35, 0, 0, 0)]
def jp_X7_possibleSorts : List (Option jE) := [some (.aload_n 0, 1, 0, 0, 0), some (.getfield 36, 4, 2, 7, 139), none, none, some (.iload_n 1, 5, 0, 0, 0), some (.aload_n 0, 6, 0, 0, 0), some (.iload_n 1, 7, 0, 0, 0), some (.invokevirtual 71, 10, 38, 0, 434), none, none, some (.aload_n 0, 11, 0, 0, 0), some (.getfield 56, 14, 2, 11, 157), none, none, some (.invokevirtual 90, 17, 29, 0, 451), none, none, some (.ireturn, 18, 0, 0, 0)]
def jp_X7_dayToListen : List (Option jE) := [some (.aload_n 0, 1, 0, 0, 0), some (.iload_n 1, 2, 0, 0, 0), some (.invokevirtual 94, 5, 44, 0, 461), none, none, some (.istore_n 2, 6, 0, 0, 0), some (.iload_n 2, 7, 0, 0, 0), some (.ifCond .ne 5, 10, 12, 0, 0), none, none, some (.iconst (-1), 11, 0, 0, 0), some (.ireturn, 12, 0, 0, 0), some (.aload_n 0, 13, 0, 0, 0), some (.iload_n 1, 14, 0, 0, 0), some (.invokevirtual 71, 17, 38, 0, 434), none, none, some (.istore_n 3, 18, 0, 0, 0), some (.sipush 1023, 21, 0, 0, 0), none, none, some (.istore 4, 23, 0, 0, 0), none, some (.iconst 0, 24, 0, 0, 0), some (.istore 5, 26, 0, 0, 0), none, some (.iconst 0, 27, 0, 0, 0), some (.istore 6, 29, 0, 0, 0), none, some (.iload 6, 31, 0, 0, 0), none, some (.bipush 31, 33, 0, 0, 0), none, some (.if_icmp .gt 61, 36, 94, 0, 0), none, none, some (.aload_n 0, 37, 0, 0, 0), some (.getfield 56, 40, 2, 11, 157), none, none, some (.iload 6, 42, 0, 0, 0), none, some (.iadd, 43, 0, 0, 0), some (.invokestatic 65, 46, 4, 0, 426), none, none, some (.iload_n 3, 47, 0, 0, 0), some (.invokestatic 80, 50, 32, 0, 439), none, none, some (.istore 7, 52, 0, 0, 0), none, some (.iload_n 2, 53, 0, 0, 0), some (.iload 7, 55, 0, 0, 0), none, some (.iand, 56, 0, 0, 0), some (.invokestatic 97, 59, 143, 0, 462), none, none, some (.iload_n 2, 60, 0, 0, 0), some (.iload 7, 62, 0, 0, 0), none, some (.iconst (-1), 63, 0, 0, 0), some (.ixor, 64, 0, 0, 0), some (.iand, 65, 0, 0, 0), some (.invokestatic 97, 68, 143, 0, 462), none, none, some (.invokestatic 102, 71, 1000, 0, 468), none, none, some (.istore 8, 73, 0, 0, 0), none, some (.iload 8, 75, 0, 0, 0), none, some (.iload 4, 77, 0, 0, 0), none, some (.if_icmp .ge 11, 80, 88, 0, 0), none, none, some (.iload 8, 82, 0, 0, 0), none, some (.istore 4, 84, 0, 0, 0), none, some (.iload 6, 86, 0, 0, 0), none, some (.istore 5, 88, 0, 0, 0), none, some (.iinc 6 1, 91, 0, 0, 0), none, none, some (.goto (-62), 94, 29, 0, 0), none, none, some (.iload 5, 96, 0, 0, 0), none, some (.ireturn, 97, 0, 0, 0)]
def jp_X7_standing : List (Option jE) := [some (.aload_n 0, 1, 0, 0, 0), some (.getfield 30, 4, 2, 6, 133), none, none, some (.iload_n 1, 5, 0, 0, 0), some (.iaload, 6, 0, 0, 0), some (.bipush (-2), 8, 0, 0, 0), none, some (.if_icmp .ne 5, 11, 13, 0, 0), none, none, some (.iconst 2, 12, 0, 0, 0), some (.ireturn, 13, 0, 0, 0), some (.aload_n 0, 14, 0, 0, 0), some (.getfield 30, 17, 2, 6, 133), none, none, some (.iload_n 1, 18, 0, 0, 0), some (.iaload, 19, 0, 0, 0), some (.iconst (-1), 20, 0, 0, 0), some (.if_icmp .ne 7, 23, 27, 0, 0), none, none, some (.iconst 0, 24, 0, 0, 0), some (.goto 4, 27, 28, 0, 0), none, none, some (.iconst 1, 28, 0, 0, 0), some (.ireturn, 29, 0, 0, 0)]
def jp_X7_howManyStand : List (Option jE) := [some (.iconst 0, 1, 0, 0, 0), some (.istore_n 2, 2, 0, 0, 0), some (.iconst 0, 3, 0, 0, 0), some (.istore_n 3, 4, 0, 0, 0), some (.iload_n 3, 5, 0, 0, 0), some (.aload_n 0, 6, 0, 0, 0), some (.getfield 44, 9, 2, 9, 146), none, none, some (.if_icmp .ge 21, 12, 30, 0, 0), none, none, some (.aload_n 0, 13, 0, 0, 0), some (.iload_n 3, 14, 0, 0, 0), some (.invokevirtual 105, 17, 46, 0, 492), none, none, some (.iload_n 1, 18, 0, 0, 0), some (.if_icmp .ne 6, 21, 24, 0, 0), none, none, some (.iinc 2 1, 24, 0, 0, 0), none, none, some (.iinc 3 1, 27, 0, 0, 0), none, none, some (.goto (-23), 30, 4, 0, 0), none, none, some (.iload_n 2, 31, 0, 0, 0), some (.ireturn, 32, 0, 0, 0)]
def jp_X7_askedSince : List (Option jE) := [some (.aload_n 0, 1, 0, 0, 0), some (.iload_n 1, 2, 0, 0, 0), some (.invokevirtual 105, 5, 46, 0, 492), none, none, some (.iconst 1, 6, 0, 0, 0), some (.if_icmp .ne 17, 9, 23, 0, 0), none, none, some (.aload_n 0, 10, 0, 0, 0), some (.getfield 56, 13, 2, 11, 157), none, none, some (.aload_n 0, 14, 0, 0, 0), some (.getfield 30, 17, 2, 6, 133), none, none, some (.iload_n 1, 18, 0, 0, 0), some (.iaload, 19, 0, 0, 0), some (.isub, 20, 0, 0, 0), some (.goto 4, 23, 24, 0, 0), none, none, some (.iconst (-1), 24, 0, 0, 0), some (.ireturn, 25, 0, 0, 0)]
def jp_X7_worthToday : List (Option jE) := [some (.aload_n 0, 1, 0, 0, 0), some (.iload_n 1, 2, 0, 0, 0), some (.invokevirtual 105, 5, 46, 0, 492), none, none, some (.iconst 1, 6, 0, 0, 0), some (.if_icmp .ne 33, 9, 39, 0, 0), none, none, some (.aload_n 0, 10, 0, 0, 0), some (.iload_n 1, 11, 0, 0, 0), some (.aload_n 0, 12, 0, 0, 0), some (.getfield 30, 15, 2, 6, 133), none, none, some (.iload_n 1, 16, 0, 0, 0), some (.iaload, 17, 0, 0, 0), some (.aload_n 0, 18, 0, 0, 0), some (.getfield 56, 21, 2, 11, 157), none, none, some (.aload_n 0, 22, 0, 0, 0), some (.aload_n 0, 23, 0, 0, 0), some (.getfield 56, 26, 2, 11, 157), none, none, some (.invokevirtual 108, 29, 41, 0, 497), none, none, some (.invokevirtual 111, 32, 50, 0, 505), none, none, some (.ifCond .eq 7, 35, 39, 0, 0), none, none, some (.iconst 1, 36, 0, 0, 0), some (.goto 4, 39, 40, 0, 0), none, none, some (.iconst 0, 40, 0, 0, 0), some (.istore_n 2, 41, 0, 0, 0), some (.iload_n 2, 42, 0, 0, 0), some (.ifCond .eq 21, 45, 63, 0, 0), none, none, some (.aload_n 0, 46, 0, 0, 0), some (.iload_n 1, 47, 0, 0, 0), some (.aload_n 0, 48, 0, 0, 0), some (.getfield 30, 51, 2, 6, 133), none, none, some (.iload_n 1, 52, 0, 0, 0), some (.iaload, 53, 0, 0, 0), some (.aload_n 0, 54, 0, 0, 0), some (.getfield 56, 57, 2, 11, 157), none, none, some (.invokevirtual 115, 60, 51, 0, 509), none, none, some (.goto 4, 63, 64, 0, 0), none, none, some (.iconst (-1), 64, 0, 0, 0), some (.ireturn, 65, 0, 0, 0)]
def jp_X7_canBeSaid : List (Option jE) := [some (.iload_n 2, 1, 0, 0, 0), some (.bipush (-2), 3, 0, 0, 0), none, some (.if_icmp .ne 5, 6, 8, 0, 0), none, none, some (.iconst 0, 7, 0, 0, 0), some (.ireturn, 8, 0, 0, 0), some (.iload_n 2, 9, 0, 0, 0), some (.iconst (-1), 10, 0, 0, 0), some (.if_icmp .ne 24, 13, 34, 0, 0), none, none, some (.iload 4, 15, 0, 0, 0), none, some (.aload_n 0, 16, 0, 0, 0), some (.getfield 21, 19, 2, 3, 122), none, none, some (.iload_n 1, 20, 0, 0, 0), some (.iaload, 21, 0, 0, 0), some (.ishr, 22, 0, 0, 0), some (.iconst 1, 23, 0, 0, 0), some (.iand, 24, 0, 0, 0), some (.iconst 1, 25, 0, 0, 0), some (.if_icmp .ne 7, 28, 32, 0, 0), none, none, some (.iconst 1, 29, 0, 0, 0), some (.goto 4, 32, 33, 0, 0), none, none, some (.iconst 0, 33, 0, 0, 0), some (.ireturn, 34, 0, 0, 0), some (.iload_n 2, 35, 0, 0, 0), some (.iload_n 3, 36, 0, 0, 0), some (.if_icmp .ge 22, 39, 58, 0, 0), none, none, some (.iload 4, 41, 0, 0, 0), none, some (.aload_n 0, 42, 0, 0, 0), some (.getfield 24, 45, 2, 4, 126), none, none, some (.iload_n 1, 46, 0, 0, 0), some (.iaload, 47, 0, 0, 0), some (.ishr, 48, 0, 0, 0), some (.iconst 1, 49, 0, 0, 0), some (.iand, 50, 0, 0, 0), some (.iconst 1, 51, 0, 0, 0), some (.if_icmp .ne 7, 54, 58, 0, 0), none, none, some (.iconst 1, 55, 0, 0, 0), some (.goto 4, 58, 59, 0, 0), none, none, some (.iconst 0, 59, 0, 0, 0), some (.ireturn, 60, 0, 0, 0)]
def jp_X7_settledFor : List (Option jE) := [some (.aload_n 0, 1, 0, 0, 0), some (.getfield 21, 4, 2, 3, 122), none, none, some (.iload_n 1, 5, 0, 0, 0), some (.iaload, 6, 0, 0, 0), some (.istore 4, 8, 0, 0, 0), none, some (.aload_n 0, 9, 0, 0, 0), some (.getfield 24, 12, 2, 4, 126), none, none, some (.iload_n 1, 13, 0, 0, 0), some (.iaload, 14, 0, 0, 0), some (.istore 5, 16, 0, 0, 0), none, some (.aload_n 0, 17, 0, 0, 0), some (.iload 4, 19, 0, 0, 0), none, some (.invokevirtual 118, 22, 34, 0, 513), none, none, some (.ifCond .eq 12, 25, 34, 0, 0), none, none, some (.aload_n 0, 26, 0, 0, 0), some (.iload 5, 28, 0, 0, 0), none, some (.invokevirtual 118, 31, 34, 0, 513), none, none, some (.ifCond .ne 5, 34, 36, 0, 0), none, none, some (.iconst 0, 35, 0, 0, 0), some (.ireturn, 36, 0, 0, 0), some (.iload_n 3, 37, 0, 0, 0), some (.iload_n 2, 38, 0, 0, 0), some (.isub, 39, 0, 0, 0), some (.aload_n 0, 40, 0, 0, 0), some (.getfield 18, 43, 2, 2, 120), none, none, some (.iload 4, 45, 0, 0, 0), none, some (.iaload, 46, 0, 0, 0), some (.isub, 47, 0, 0, 0), some (.iconst 0, 48, 0, 0, 0), some (.invokestatic 102, 51, 1000, 0, 468), none, none, some (.istore 6, 53, 0, 0, 0), none, some (.aload_n 0, 54, 0, 0, 0), some (.getfield 27, 57, 2, 5, 130), none, none, some (.iload_n 1, 58, 0, 0, 0), some (.iaload, 59, 0, 0, 0), some (.iload 6, 61, 0, 0, 0), none, some (.isub, 62, 0, 0, 0), some (.iconst 0, 63, 0, 0, 0), some (.invokestatic 102, 66, 1000, 0, 468), none, none, some (.istore 7, 68, 0, 0, 0), none, some (.aload_n 0, 69, 0, 0, 0), some (.getfield 11, 72, 2, 0, 116), none, none, some (.iload 5, 74, 0, 0, 0), none, some (.iaload, 75, 0, 0, 0), some (.iconst 4, 76, 0, 0, 0), some (.if_icmp .ne 12, 79, 88, 0, 0), none, none, some (.iload 7, 81, 0, 0, 0), none, some (.iconst 1, 82, 0, 0, 0), some (.isub, 83, 0, 0, 0), some (.iconst 0, 84, 0, 0, 0), some (.invokestatic 102, 87, 1000, 0, 468), none, none, some (.ireturn, 88, 0, 0, 0), some (.aload_n 0, 89, 0, 0, 0), some (.getfield 11, 92, 2, 0, 116), none, none, some (.iload 5, 94, 0, 0, 0), none, some (.iaload, 95, 0, 0, 0), some (.iconst 1, 96, 0, 0, 0), some (.if_icmp .ne 10, 99, 106, 0, 0), none, none, some (.iload 7, 101, 0, 0, 0), none, some (.iconst 2, 102, 0, 0, 0), some (.idiv, 103, 0, 0, 0), some (.goto 5, 106, 108, 0, 0), none, none, some (.iload 7, 108, 0, 0, 0), none, some (.ireturn, 109, 0, 0, 0)]
def jp_X7_reopenAskedBy : List (Option jE) := [some (.iconst 0, 1, 0, 0, 0), some (.istore_n 2, 2, 0, 0, 0), some (.iconst 0, 3, 0, 0, 0), some (.istore_n 3, 4, 0, 0, 0), some (.iload_n 3, 5, 0, 0, 0), some (.aload_n 0, 6, 0, 0, 0), some (.getfield 44, 9, 2, 9, 146), none, none, some (.if_icmp .ge 38, 12, 47, 0, 0), none, none, some (.aload_n 0, 13, 0, 0, 0), some (.getfield 21, 16, 2, 3, 122), none, none, some (.iload_n 3, 17, 0, 0, 0), some (.iaload, 18, 0, 0, 0), some (.iload_n 1, 19, 0, 0, 0), some (.if_icmp .ne 22, 22, 41, 0, 0), none, none, some (.aload_n 0, 23, 0, 0, 0), some (.iload_n 3, 24, 0, 0, 0), some (.invokevirtual 105, 27, 46, 0, 492), none, none, some (.iconst 1, 28, 0, 0, 0), some (.if_icmp .ne 13, 31, 41, 0, 0), none, none, some (.aload_n 0, 32, 0, 0, 0), some (.getfield 30, 35, 2, 6, 133), none, none, some (.iload_n 3, 36, 0, 0, 0), some (.iconst (-1), 37, 0, 0, 0), some (.iastore, 38, 0, 0, 0), some (.iinc 2 1, 41, 0, 0, 0), none, none, some (.iinc 3 1, 44, 0, 0, 0), none, none, some (.goto (-40), 47, 4, 0, 0), none, none, some (.iload_n 2, 48, 0, 0, 0), some (.ireturn, 49, 0, 0, 0)]
def jp_X7_copyFrom : List (Option jE) := [some (.aload_n 1, 1, 0, 0, 0), some (.getfield 11, 4, 2, 0, 116), none, none, some (.iconst 0, 5, 0, 0, 0), some (.aload_n 0, 6, 0, 0, 0), some (.getfield 11, 9, 2, 0, 116), none, none, some (.iconst 0, 10, 0, 0, 0), some (.bipush 6, 12, 0, 0, 0), none, some (.invokestatic 122, 15, 1002, 0, 663), none, none, some (.aload_n 1, 16, 0, 0, 0), some (.getfield 15, 19, 2, 1, 118), none, none, some (.iconst 0, 20, 0, 0, 0), some (.aload_n 0, 21, 0, 0, 0), some (.getfield 15, 24, 2, 1, 118), none, none, some (.iconst 0, 25, 0, 0, 0), some (.bipush 6, 27, 0, 0, 0), none, some (.invokestatic 122, 30, 1002, 0, 663), none, none, some (.aload_n 1, 31, 0, 0, 0), some (.getfield 18, 34, 2, 2, 120), none, none, some (.iconst 0, 35, 0, 0, 0), some (.aload_n 0, 36, 0, 0, 0), some (.getfield 18, 39, 2, 2, 120), none, none, some (.iconst 0, 40, 0, 0, 0), some (.bipush 6, 42, 0, 0, 0), none, some (.invokestatic 122, 45, 1002, 0, 663), none, none, some (.aload_n 1, 46, 0, 0, 0), some (.getfield 21, 49, 2, 3, 122), none, none, some (.iconst 0, 50, 0, 0, 0), some (.aload_n 0, 51, 0, 0, 0), some (.getfield 21, 54, 2, 3, 122), none, none, some (.iconst 0, 55, 0, 0, 0), some (.iconst 5, 56, 0, 0, 0), some (.invokestatic 122, 59, 1002, 0, 663), none, none, some (.aload_n 1, 60, 0, 0, 0), some (.getfield 24, 63, 2, 4, 126), none, none, some (.iconst 0, 64, 0, 0, 0), some (.aload_n 0, 65, 0, 0, 0), some (.getfield 24, 68, 2, 4, 126), none, none, some (.iconst 0, 69, 0, 0, 0), some (.iconst 5, 70, 0, 0, 0), some (.invokestatic 122, 73, 1002, 0, 663), none, none, some (.aload_n 1, 74, 0, 0, 0), some (.getfield 27, 77, 2, 5, 130), none, none, some (.iconst 0, 78, 0, 0, 0), some (.aload_n 0, 79, 0, 0, 0), some (.getfield 27, 82, 2, 5, 130), none, none, some (.iconst 0, 83, 0, 0, 0), some (.iconst 5, 84, 0, 0, 0), some (.invokestatic 122, 87, 1002, 0, 663), none, none, some (.aload_n 1, 88, 0, 0, 0), some (.getfield 30, 91, 2, 6, 133), none, none, some (.iconst 0, 92, 0, 0, 0), some (.aload_n 0, 93, 0, 0, 0), some (.getfield 30, 96, 2, 6, 133), none, none, some (.iconst 0, 97, 0, 0, 0), some (.iconst 5, 98, 0, 0, 0), some (.invokestatic 122, 101, 1002, 0, 663), none, none, some (.aload_n 0, 102, 0, 0, 0), some (.getfield 36, 105, 2, 7, 139), none, none, some (.aload_n 1, 106, 0, 0, 0), some (.getfield 36, 109, 2, 7, 139), none, none, some (.invokevirtual 128, 112, 30, 0, 664), none, none, some (.aload_n 0, 113, 0, 0, 0), some (.aload_n 1, 114, 0, 0, 0), some (.getfield 40, 117, 2, 8, 141), none, none, some (.putfield 40, 120, 2, 8, 141), none, none, some (.aload_n 0, 121, 0, 0, 0), some (.aload_n 1, 122, 0, 0, 0), some (.getfield 44, 125, 2, 9, 146), none, none, some (.putfield 44, 128, 2, 9, 146), none, none, some (.aload_n 0, 129, 0, 0, 0), some (.aload_n 1, 130, 0, 0, 0), some (.getfield 53, 133, 2, 10, 152), none, none, some (.putfield 53, 136, 2, 10, 152), none, none, some (.aload_n 0, 137, 0, 0, 0), some (.aload_n 1, 138, 0, 0, 0), some (.getfield 56, 141, 2, 11, 157), none, none, some (.putfield 56, 144, 2, 11, 157), none, none, some (.aload_n 0, 145, 0, 0, 0), some (.aload_n 1, 146, 0, 0, 0), some (.getfield 59, 149, 2, 12, 159), none, none, some (.putfield 59, 152, 2, 12, 159), none, none, some (.return_, 153, 0, 0, 0)]
def jp_X8_letter : List (Option jE) := [some (.iload_n 1, 1, 0, 0, 0), some (.iconst 1, 2, 0, 0, 0), some (.if_icmp .lt 9, 5, 11, 0, 0), none, none, some (.iload_n 1, 6, 0, 0, 0), some (.bipush 126, 8, 0, 0, 0), none, some (.if_icmp .le 6, 11, 14, 0, 0), none, none, some (.bipush (-102), 13, 0, 0, 0), none, some (.ireturn, 14, 0, 0, 0), some (.aload_n 0, 15, 0, 0, 0), some (.getfield 10, 18, 0, 0, 243), none, none, some (.iload_n 1, 19, 0, 0, 0), some (.invokevirtual 40, 22, 15, 0, 269), none, none, some (.ifCond .eq 13, 25, 35, 0, 0), none, none, some (.aload_n 0, 26, 0, 0, 0), some (.getfield 10, 29, 0, 0, 243), none, none, some (.getfield 44, 32, 1, 1, 81), none, none, some (.goto 5, 35, 37, 0, 0), none, none, some (.bipush (-104), 37, 0, 0, 0), none, some (.ireturn, 38, 0, 0, 0)]
def jp_X8_blank : List (Option jE) := [some (.aload_n 0, 1, 0, 0, 0), some (.getfield 10, 4, 0, 0, 243), none, none, some (.getfield 44, 7, 1, 1, 81), none, none, some (.istore_n 1, 8, 0, 0, 0), some (.aload_n 0, 9, 0, 0, 0), some (.getfield 10, 12, 0, 0, 243), none, none, some (.iconst 0, 13, 0, 0, 0), some (.putfield 44, 16, 1, 1, 81), none, none, some (.iload_n 1, 17, 0, 0, 0), some (.ireturn, 18, 0, 0, 0)]
def jp_X8_fault : List (Option jE) := [some (.aload_n 0, 1, 0, 0, 0), some (.getfield 10, 4, 0, 0, 243), none, none, some (.invokevirtual 48, 7, 16, 0, 281), none, none, some (.ireturn, 8, 0, 0, 0)]
def jp_X8_river : List (Option jE) := [some (.aload_n 0, 1, 0, 0, 0), some (.getfield 10, 4, 0, 0, 243), none, none, some (.invokevirtual 52, 7, 19, 0, 388), none, none, some (.ifCond .ne 6, 10, 13, 0, 0), none, none, some (.bipush (-103), 12, 0, 0, 0), none, some (.ireturn, 13, 0, 0, 0), some (.aload_n 0, 14, 0, 0, 0), some (.getfield 10, 17, 0, 0, 243), none, none, some (.aload_n 0, 18, 0, 0, 0), some (.getfield 19, 21, 0, 1, 244), none, none, some (.invokevirtual 56, 24, 21, 0, 397), none, none, some (.aload_n 0, 25, 0, 0, 0), some (.getfield 10, 28, 0, 0, 243), none, none, some (.iconst 0, 29, 0, 0, 0), some (.putfield 44, 32, 1, 1, 81), none, none, some (.aload_n 0, 33, 0, 0, 0), some (.getfield 23, 36, 0, 2, 245), none, none, some (.iconst 0, 37, 0, 0, 0), some (.putfield 60, 40, 2, 8, 143), none, none, some (.aload_n 0, 41, 0, 0, 0), some (.dup, 42, 0, 0, 0), some (.getfield 63, 45, 0, 5, 248), none, none, some (.iconst 1, 46, 0, 0, 0), some (.iadd, 47, 0, 0, 0), some (.putfield 63, 50, 0, 5, 248), none, none, some (.aload_n 0, 51, 0, 0, 0), some (.getfield 19, 54, 0, 1, 244), none, none, some (.getfield 60, 57, 2, 8, 143), none, none, some (.ireturn, 58, 0, 0, 0)]
def jp_X8_person : List (Option jE) := [some (.aload_n 0, 1, 0, 0, 0), some (.getfield 19, 4, 0, 1, 244), none, none, some (.iload_n 1, 5, 0, 0, 0), some (.invokevirtual 66, 8, 34, 0, 414), none, none, some (.ifCond .ne 6, 11, 14, 0, 0), none, none, some (.bipush (-101), 13, 0, 0, 0), none, some (.ireturn, 14, 0, 0, 0), some (.iload_n 2, 15, 0, 0, 0), some (.tableswitch 135 0 7 #[45, 55, 65, 74, 84, 108, 117, 126], 60, 0, 0, 0), none, none, none, none, none, none, none, none, none, none, none, none, none, none, none, none, none, none, none, none, none, none, none, none, none, none, none, none, none, none, none, none, none, none, none, none, none, none, none, none, none, none, none, none, some (.aload_n 0, 61, 0, 0, 0), some (.getfield 19, 64, 0, 1, 244), none, none, some (.getfield 69, 67, 2, 0, 117), none, none, some (.iload_n 1, 68, 0, 0, 0), some (.iaload, 69, 0, 0, 0), some (.ireturn, 70, 0, 0, 0), some (.aload_n 0, 71, 0, 0, 0), some (.getfield 19, 74, 0, 1, 244), none, none, some (.getfield 73, 77, 2, 1, 119), none, none, some (.iload_n 1, 78, 0, 0, 0), some (.iaload, 79, 0, 0, 0), some (.ireturn, 80, 0, 0, 0), some (.aload_n 0, 81, 0, 0, 0), some (.getfield 19, 84, 0, 1, 244), none, none, some (.iload_n 1, 85, 0, 0, 0), some (.invokevirtual 76, 88, 38, 0, 418), none, none, some (.ireturn, 89, 0, 0, 0), some (.aload_n 0, 90, 0, 0, 0), some (.getfield 19, 93, 0, 1, 244), none, none, some (.getfield 80, 96, 2, 2, 121), none, none, some (.iload_n 1, 97, 0, 0, 0), some (.iaload, 98, 0, 0, 0), some (.ireturn, 99, 0, 0, 0), some (.aload_n 0, 100, 0, 0, 0), some (.getfield 19, 103, 0, 1, 244), none, none, some (.iload_n 1, 104, 0, 0, 0), some (.aload_n 0, 105, 0, 0, 0), some (.getfield 19, 108, 0, 1, 244), none, none, some (.getfield 83, 111, 2, 11, 158), none, none, some (.invokevirtual 86, 114, 39, 0, 422), none, none, some (.ifCond .eq 7, 117, 121, 0, 0), none, none, some (.iconst 1, 118, 0, 0, 0), some (.goto 4, 121, 122, 0, 0), none, none, some (.iconst 0, 122, 0, 0, 0), some (.ireturn, 123, 0, 0, 0), some (.aload_n 0, 124, 0, 0, 0), some (.getfield 19, 127, 0, 1, 244), none, none, some (.iload_n 1, 128, 0, 0, 0), some (.invokevirtual 90, 131, 43, 0, 442), none, none, some (.ireturn, 132, 0, 0, 0), some (.aload_n 0, 133, 0, 0, 0), some (.getfield 19, 136, 0, 1, 244), none, none, some (.iload_n 1, 137, 0, 0, 0), some (.invokevirtual 93, 140, 44, 0, 447), none, none, some (.ireturn, 141, 0, 0, 0), some (.aload_n 0, 142, 0, 0, 0), some (.getfield 19, 145, 0, 1, 244), none, none, some (.iload_n 1, 146, 0, 0, 0), some (.invokevirtual 96, 149, 45, 0, 457), none, none, some (.ireturn, 150, 0, 0, 0), some (.bipush (-102), 152, 0, 0, 0), none, some (.ireturn, 153, 0, 0, 0)]
def jp_X8_as : List (Option jE) := [some (.aload_n 0, 1, 0, 0, 0), some (.getfield 19, 4, 0, 1, 244), none, none, some (.iload_n 1, 5, 0, 0, 0), some (.invokevirtual 66, 8, 34, 0, 414), none, none, some (.ifCond .ne 6, 11, 14, 0, 0), none, none, some (.bipush (-101), 13, 0, 0, 0), none, some (.ireturn, 14, 0, 0, 0), some (.iload_n 2, 15, 0, 0, 0), some (.ifCond .lt 8, 18, 23, 0, 0), none, none, some (.iload_n 2, 19, 0, 0, 0), some (.iconst 5, 20, 0, 0, 0), some (.if_icmp .lt 6, 23, 26, 0, 0), none, none, some (.bipush (-102), 25, 0, 0, 0), none, some (.ireturn, 26, 0, 0, 0), some (.aload_n 0, 27, 0, 0, 0), some (.getfield 19, 30, 0, 1, 244), none, none, some (.getfield 69, 33, 2, 0, 117), none, none, some (.iload_n 1, 34, 0, 0, 0), some (.iaload, 35, 0, 0, 0), some (.iload_n 2, 36, 0, 0, 0), some (.invokestatic 101, 39, 31, 0, 473), none, none, some (.ifCond .eq 7, 42, 46, 0, 0), none, none, some (.iload_n 1, 43, 0, 0, 0), some (.goto 4, 46, 47, 0, 0), none, none, some (.iconst (-1), 47, 0, 0, 0), some (.ireturn, 48, 0, 0, 0)]
def jp_X8_matter : List (Option jE) := [some (.aload_n 0, 1, 0, 0, 0), some (.getfield 19, 4, 0, 1, 244), none, none, some (.iload_n 1, 5, 0, 0, 0), some (.invokevirtual 104, 8, 35, 0, 480), none, none, some (.ifCond .ne 6, 11, 14, 0, 0), none, none, some (.bipush (-101), 13, 0, 0, 0), none, some (.ireturn, 14, 0, 0, 0), some (.iload_n 2, 15, 0, 0, 0), some (.tableswitch 107 0 6 #[41, 51, 61, 71, 80, 89, 98], 56, 0, 0, 0), none, none, none, none, none, none, none, none, none, none, none, none, none, none, none, none, none, none, none, none, none, none, none, none, none, none, none, none, none, none, none, none, none, none, none, none, none, none, none, none, some (.aload_n 0, 57, 0, 0, 0), some (.getfield 19, 60, 0, 1, 244), none, none, some (.getfield 107, 63, 2, 3, 124), none, none, some (.iload_n 1, 64, 0, 0, 0), some (.iaload, 65, 0, 0, 0), some (.ireturn, 66, 0, 0, 0), some (.aload_n 0, 67, 0, 0, 0), some (.getfield 19, 70, 0, 1, 244), none, none, some (.getfield 110, 73, 2, 4, 128), none, none, some (.iload_n 1, 74, 0, 0, 0), some (.iaload, 75, 0, 0, 0), some (.ireturn, 76, 0, 0, 0), some (.aload_n 0, 77, 0, 0, 0), some (.getfield 19, 80, 0, 1, 244), none, none, some (.getfield 113, 83, 2, 5, 131), none, none, some (.iload_n 1, 84, 0, 0, 0), some (.iaload, 85, 0, 0, 0), some (.ireturn, 86, 0, 0, 0), some (.aload_n 0, 87, 0, 0, 0), some (.getfield 19, 90, 0, 1, 244), none, none, some (.iload_n 1, 91, 0, 0, 0), some (.invokevirtual 116, 94, 46, 0, 484), none, none, some (.ireturn, 95, 0, 0, 0), some (.aload_n 0, 96, 0, 0, 0), some (.getfield 19, 99, 0, 1, 244), none, none, some (.iload_n 1, 100, 0, 0, 0), some (.invokevirtual 119, 103, 48, 0, 488), none, none, some (.ireturn, 104, 0, 0, 0), some (.aload_n 0, 105, 0, 0, 0), some (.getfield 19, 108, 0, 1, 244), none, none, some (.iload_n 1, 109, 0, 0, 0), some (.invokevirtual 122, 112, 49, 0, 493), none, none, some (.ireturn, 113, 0, 0, 0), some (.aload_n 0, 114, 0, 0, 0), some (.getfield 19, 117, 0, 1, 244), none, none, some (.iload_n 1, 118, 0, 0, 0), some (.invokestatic 125, 121, 9, 0, 514), none, none, some (.ireturn, 122, 0, 0, 0), some (.bipush (-102), 124, 0, 0, 0), none, some (.ireturn, 125, 0, 0, 0)]
def jp_X8_date : List (Option jE) := [some (.iload_n 1, 1, 0, 0, 0), some (.ifCond .lt 19, 4, 20, 0, 0), none, none, some (.iload_n 1, 5, 0, 0, 0), some (.sipush 366, 8, 0, 0, 0), none, none, some (.if_icmp .gt 12, 11, 20, 0, 0), none, none, some (.iload_n 2, 12, 0, 0, 0), some (.ifCond .lt 8, 15, 20, 0, 0), none, none, some (.iload_n 2, 16, 0, 0, 0), some (.iconst 3, 17, 0, 0, 0), some (.if_icmp .le 6, 20, 23, 0, 0), none, none, some (.bipush (-102), 22, 0, 0, 0), none, some (.ireturn, 23, 0, 0, 0), some (.aload_n 0, 24, 0, 0, 0), some (.getfield 19, 27, 0, 1, 244), none, none, some (.invokevirtual 131, 30, 33, 0, 523), none, none, some (.ifCond .ne 6, 33, 36, 0, 0), none, none, some (.bipush (-103), 35, 0, 0, 0), none, some (.ireturn, 36, 0, 0, 0), some (.aload_n 0, 37, 0, 0, 0), some (.getfield 19, 40, 0, 1, 244), none, none, some (.getfield 83, 43, 2, 11, 158), none, none, some (.iload_n 1, 44, 0, 0, 0), some (.iadd, 45, 0, 0, 0), some (.istore_n 3, 46, 0, 0, 0), some (.iload_n 2, 47, 0, 0, 0), some (.tableswitch 40 0 2 #[25, 30, 35], 72, 0, 0, 0), none, none, none, none, none, none, none, none, none, none, none, none, none, none, none, none, none, none, none, none, none, none, none, none, some (.iload_n 3, 73, 0, 0, 0), some (.invokestatic 134, 76, 3, 0, 527), none, none, some (.ireturn, 77, 0, 0, 0), some (.iload_n 3, 78, 0, 0, 0), some (.invokestatic 139, 81, 2, 0, 530), none, none, some (.ireturn, 82, 0, 0, 0), some (.iload_n 3, 83, 0, 0, 0), some (.invokestatic 142, 86, 1, 0, 533), none, none, some (.ireturn, 87, 0, 0, 0), some (.aload_n 0, 88, 0, 0, 0), some (.getfield 19, 91, 0, 1, 244), none, none, some (.iload_n 3, 92, 0, 0, 0), some (.invokevirtual 145, 95, 41, 0, 537), none, none, some (.ireturn, 96, 0, 0, 0)]
def jp_X8_say : List (Option jE) := [some (.aload_n 0, 1, 0, 0, 0), some (.getfield 19, 4, 0, 1, 244), none, none, some (.iload_n 1, 5, 0, 0, 0), some (.invokevirtual 104, 8, 35, 0, 480), none, none, some (.ifCond .ne 6, 11, 14, 0, 0), none, none, some (.bipush (-101), 13, 0, 0, 0), none, some (.ireturn, 14, 0, 0, 0), some (.aload_n 0, 15, 0, 0, 0), some (.getfield 19, 18, 0, 1, 244), none, none, some (.getfield 148, 21, 2, 6, 138), none, none, some (.iload_n 1, 22, 0, 0, 0), some (.iaload, 23, 0, 0, 0), some (.istore_n 2, 24, 0, 0, 0), some (.aload_n 0, 25, 0, 0, 0), some (.getfield 19, 28, 0, 1, 244), none, none, some (.iload_n 1, 29, 0, 0, 0), some (.iload_n 2, 30, 0, 0, 0), some (.aload_n 0, 31, 0, 0, 0), some (.getfield 19, 34, 0, 1, 244), none, none, some (.getfield 83, 37, 2, 11, 158), none, none, some (.aload_n 0, 38, 0, 0, 0), some (.getfield 19, 41, 0, 1, 244), none, none, some (.aload_n 0, 42, 0, 0, 0), some (.getfield 19, 45, 0, 1, 244), none, none, some (.getfield 83, 48, 2, 11, 158), none, none, some (.invokevirtual 145, 51, 41, 0, 537), none, none, some (.invokevirtual 151, 54, 50, 0, 542), none, none, some (.ifCond .ne 6, 57, 60, 0, 0), none, none, some (.bipush (-103), 59, 0, 0, 0), none, some (.ireturn, 60, 0, 0, 0), some (.iload_n 2, 61, 0, 0, 0), some (.iconst (-1), 62, 0, 0, 0), some (.if_icmp .ne 21, 65, 83, 0, 0), none, none, some (.aload_n 0, 66, 0, 0, 0), some (.getfield 19, 69, 0, 1, 244), none, none, some (.getfield 148, 72, 2, 6, 138), none, none, some (.iload_n 1, 73, 0, 0, 0), some (.aload_n 0, 74, 0, 0, 0), some (.getfield 19, 77, 0, 1, 244), none, none, some (.getfield 83, 80, 2, 11, 158), none, none, some (.iastore, 81, 0, 0, 0), some (.iconst (-1), 82, 0, 0, 0), some (.ireturn, 83, 0, 0, 0), some (.aload_n 0, 84, 0, 0, 0), some (.getfield 19, 87, 0, 1, 244), none, none, some (.iload_n 1, 88, 0, 0, 0), some (.iload_n 2, 89, 0, 0, 0), some (.aload_n 0, 90, 0, 0, 0), some (.getfield 19, 93, 0, 1, 244), none, none, some (.getfield 83, 96, 2, 11, 158), none, none, some (.invokevirtual 155, 99, 51, 0, 543), none, none, some (.istore_n 3, 100, 0, 0, 0), some (.aload_n 0, 101, 0, 0, 0), some (.getfield 19, 104, 0, 1, 244), none, none, some (.getfield 148, 107, 2, 6, 138), none, none, some (.iload_n 1, 108, 0, 0, 0), some (.bipush (-2), 110, 0, 0, 0), none, some (.iastore, 111, 0, 0, 0), some (.aload_n 0, 112, 0, 0, 0), some (.getfield 19, 115, 0, 1, 244), none, none, some (.dup, 116, 0, 0, 0), some (.getfield 159, 119, 2, 12, 160), none, none, some (.iload_n 3, 120, 0, 0, 0), some (.iadd, 121, 0, 0, 0), some (.putfield 159, 124, 2, 12, 160), none, none, some (.iload_n 3, 125, 0, 0, 0), some (.ireturn, 126, 0, 0, 0)]
def jp_X8_day : List (Option jE) := [some (.aload_n 0, 1, 0, 0, 0), some (.getfield 19, 4, 0, 1, 244), none, none, some (.invokevirtual 131, 7, 33, 0, 523), none, none, some (.ifCond .ne 6, 10, 13, 0, 0), none, none, some (.bipush (-103), 12, 0, 0, 0), none, some (.ireturn, 13, 0, 0, 0), some (.aload_n 0, 14, 0, 0, 0), some (.getfield 19, 17, 0, 1, 244), none, none, some (.getfield 83, 20, 2, 11, 158), none, none, some (.sipush 1460, 23, 0, 0, 0), none, none, some (.if_icmp .lt 6, 26, 29, 0, 0), none, none, some (.bipush (-104), 28, 0, 0, 0), none, some (.ireturn, 29, 0, 0, 0), some (.aload_n 0, 30, 0, 0, 0), some (.getfield 19, 33, 0, 1, 244), none, none, some (.dup, 34, 0, 0, 0), some (.getfield 83, 37, 2, 11, 158), none, none, some (.iconst 1, 38, 0, 0, 0), some (.iadd, 39, 0, 0, 0), some (.putfield 83, 42, 2, 11, 158), none, none, some (.aload_n 0, 43, 0, 0, 0), some (.getfield 19, 46, 0, 1, 244), none, none, some (.getfield 83, 49, 2, 11, 158), none, none, some (.ireturn, 50, 0, 0, 0)]
def jp_X8_cross : List (Option jE) := [some (.aload_n 0, 1, 0, 0, 0), some (.getfield 19, 4, 0, 1, 244), none, none, some (.iload_n 1, 5, 0, 0, 0), some (.invokevirtual 66, 8, 34, 0, 414), none, none, some (.ifCond .ne 6, 11, 14, 0, 0), none, none, some (.bipush (-101), 13, 0, 0, 0), none, some (.ireturn, 14, 0, 0, 0), some (.aload_n 0, 15, 0, 0, 0), some (.getfield 19, 18, 0, 1, 244), none, none, some (.dup, 19, 0, 0, 0), some (.getfield 162, 22, 2, 10, 153), none, none, some (.iconst 1, 23, 0, 0, 0), some (.iload_n 1, 24, 0, 0, 0), some (.ishl, 25, 0, 0, 0), some (.ixor, 26, 0, 0, 0), some (.putfield 162, 29, 2, 10, 153), none, none, some (.aload_n 0, 30, 0, 0, 0), some (.getfield 19, 33, 0, 1, 244), none, none, some (.iload_n 1, 34, 0, 0, 0), some (.invokevirtual 165, 37, 52, 0, 552), none, none, some (.ireturn, 38, 0, 0, 0)]
def jp_X8_open : List (Option jE) := [some (.aload_n 0, 1, 0, 0, 0), some (.getfield 19, 4, 0, 1, 244), none, none, some (.iload_n 1, 5, 0, 0, 0), some (.invokevirtual 104, 8, 35, 0, 480), none, none, some (.ifCond .ne 6, 11, 14, 0, 0), none, none, some (.bipush (-101), 13, 0, 0, 0), none, some (.ireturn, 14, 0, 0, 0), some (.iload_n 2, 15, 0, 0, 0), some (.iconst 1, 16, 0, 0, 0), some (.if_icmp .lt 9, 19, 25, 0, 0), none, none, some (.iload_n 2, 20, 0, 0, 0), some (.bipush 9, 22, 0, 0, 0), none, some (.if_icmp .le 6, 25, 28, 0, 0), none, none, some (.bipush (-102), 27, 0, 0, 0), none, some (.ireturn, 28, 0, 0, 0), some (.aload_n 0, 29, 0, 0, 0), some (.getfield 19, 32, 0, 1, 244), none, none, some (.iload_n 1, 33, 0, 0, 0), some (.invokevirtual 116, 36, 46, 0, 484), none, none, some (.istore_n 3, 37, 0, 0, 0), some (.aload_n 0, 38, 0, 0, 0), some (.getfield 19, 41, 0, 1, 244), none, none, some (.getfield 148, 44, 2, 6, 138), none, none, some (.iload_n 1, 45, 0, 0, 0), some (.iconst (-1), 46, 0, 0, 0), some (.iastore, 47, 0, 0, 0), some (.aload_n 0, 48, 0, 0, 0), some (.getfield 19, 51, 0, 1, 244), none, none, some (.getfield 113, 54, 2, 5, 131), none, none, some (.iload_n 1, 55, 0, 0, 0), some (.iload_n 2, 56, 0, 0, 0), some (.iastore, 57, 0, 0, 0), some (.iload_n 3, 58, 0, 0, 0), some (.ireturn, 59, 0, 0, 0)]
def jp_X8_change : List (Option jE) := [some (.aload_n 0, 1, 0, 0, 0), some (.getfield 19, 4, 0, 1, 244), none, none, some (.iload_n 1, 5, 0, 0, 0), some (.invokevirtual 66, 8, 34, 0, 414), none, none, some (.ifCond .ne 6, 11, 14, 0, 0), none, none, some (.bipush (-101), 13, 0, 0, 0), none, some (.ireturn, 14, 0, 0, 0), some (.iload_n 2, 15, 0, 0, 0), some (.ifCond .lt 18, 18, 33, 0, 0), none, none, some (.iload_n 2, 19, 0, 0, 0), some (.iconst 5, 20, 0, 0, 0), some (.if_icmp .ge 13, 23, 33, 0, 0), none, none, some (.iload_n 3, 24, 0, 0, 0), some (.ifCond .lt 9, 27, 33, 0, 0), none, none, some (.iload_n 3, 28, 0, 0, 0), some (.bipush 9, 30, 0, 0, 0), none, some (.if_icmp .le 6, 33, 36, 0, 0), none, none, some (.bipush (-102), 35, 0, 0, 0), none, some (.ireturn, 36, 0, 0, 0), some (.aload_n 0, 37, 0, 0, 0), some (.getfield 19, 40, 0, 1, 244), none, none, some (.getfield 69, 43, 2, 0, 117), none, none, some (.iload_n 1, 44, 0, 0, 0), some (.iaload, 45, 0, 0, 0), some (.istore 4, 47, 0, 0, 0), none, some (.aload_n 0, 48, 0, 0, 0), some (.getfield 19, 51, 0, 1, 244), none, none, some (.getfield 69, 54, 2, 0, 117), none, none, some (.iload_n 1, 55, 0, 0, 0), some (.iload_n 2, 56, 0, 0, 0), some (.iastore, 57, 0, 0, 0), some (.aload_n 0, 58, 0, 0, 0), some (.getfield 19, 61, 0, 1, 244), none, none, some (.getfield 80, 64, 2, 2, 121), none, none, some (.iload_n 1, 65, 0, 0, 0), some (.iload_n 3, 66, 0, 0, 0), some (.iastore, 67, 0, 0, 0), some (.iload 4, 69, 0, 0, 0), none, some (.ireturn, 70, 0, 0, 0)]
def jp_X8_best : List (Option jE) := [some (.iload_n 2, 1, 0, 0, 0), some (.ifCond .eq 20, 4, 21, 0, 0), none, none, some (.iload_n 2, 5, 0, 0, 0), some (.iconst 1, 6, 0, 0, 0), some (.if_icmp .eq 15, 9, 21, 0, 0), none, none, some (.iload_n 2, 10, 0, 0, 0), some (.bipush 10, 12, 0, 0, 0), none, some (.if_icmp .lt 13, 15, 25, 0, 0), none, none, some (.iload_n 2, 16, 0, 0, 0), some (.bipush 15, 18, 0, 0, 0), none, some (.if_icmp .ge 7, 21, 25, 0, 0), none, none, some (.iconst 1, 22, 0, 0, 0), some (.goto 4, 25, 26, 0, 0), none, none, some (.iconst 0, 26, 0, 0, 0), some (.istore_n 3, 27, 0, 0, 0), some (.iload_n 1, 28, 0, 0, 0), some (.iconst 1, 29, 0, 0, 0), some (.if_icmp .lt 12, 32, 41, 0, 0), none, none, some (.iload_n 1, 33, 0, 0, 0), some (.iconst 5, 34, 0, 0, 0), some (.if_icmp .gt 7, 37, 41, 0, 0), none, none, some (.iload_n 3, 38, 0, 0, 0), some (.ifCond .ne 6, 41, 44, 0, 0), none, none, some (.bipush (-102), 43, 0, 0, 0), none, some (.ireturn, 44, 0, 0, 0), some (.aload_n 0, 45, 0, 0, 0), some (.getfield 19, 48, 0, 1, 244), none, none, some (.invokevirtual 131, 51, 33, 0, 523), none, none, some (.ifCond .eq 12, 54, 63, 0, 0), none, none, some (.aload_n 0, 55, 0, 0, 0), some (.getfield 168, 58, 0, 6, 249), none, none, some (.bipush 20, 60, 0, 0, 0), none, some (.if_icmp .lt 6, 63, 66, 0, 0), none, none, some (.bipush (-103), 65, 0, 0, 0), none, some (.ireturn, 66, 0, 0, 0), some (.aload_n 0, 67, 0, 0, 0), some (.dup, 68, 0, 0, 0), some (.getfield 168, 71, 0, 6, 249), none, none, some (.iconst 1, 72, 0, 0, 0), some (.iadd, 73, 0, 0, 0), some (.putfield 168, 76, 0, 6, 249), none, none, some (.aload_n 0, 77, 0, 0, 0), some (.getfield 29, 80, 0, 3, 246), none, none, some (.aload_n 0, 81, 0, 0, 0), some (.getfield 19, 84, 0, 1, 244), none, none, some (.iload_n 1, 85, 0, 0, 0), some (.invokevirtual 171, 88, 23, 0, 568), none, none, some (.iload_n 2, 89, 0, 0, 0), some (.lookupswitch 43 #[(0, 27), (1, 35)], 116, 0, 0, 0), none, none, none, none, none, none, none, none, none, none, none, none, none, none, none, none, none, none, none, none, none, none, none, none, none, none, some (.aload_n 0, 117, 0, 0, 0), some (.getfield 29, 120, 0, 3, 246), none, none, some (.getfield 175, 123, 4, 6, 201), none, none, some (.ireturn, 124, 0, 0, 0), some (.aload_n 0, 125, 0, 0, 0), some (.getfield 29, 128, 0, 3, 246), none, none, some (.getfield 177, 131, 4, 7, 203), none, none, some (.ireturn, 132, 0, 0, 0), some (.aload_n 0, 133, 0, 0, 0), some (.getfield 29, 136, 0, 3, 246), none, none, some (.iload_n 2, 137, 0, 0, 0), some (.bipush 10, 139, 0, 0, 0), none, some (.isub, 140, 0, 0, 0), some (.invokevirtual 180, 143, 24, 0, 590), none, none, some (.ireturn, 144, 0, 0, 0)]
def jp_X8_live : List (Option jE) := [some (.iload_n 1, 1, 0, 0, 0), some (.ifCond .lt 8, 4, 9, 0, 0), none, none, some (.iload_n 1, 5, 0, 0, 0), some (.iconst 1, 6, 0, 0, 0), some (.if_icmp .le 6, 9, 12, 0, 0), none, none, some (.bipush (-102), 11, 0, 0, 0), none, some (.ireturn, 12, 0, 0, 0), some (.aload_n 0, 13, 0, 0, 0), some (.getfield 19, 16, 0, 1, 244), none, none, some (.invokevirtual 131, 19, 33, 0, 523), none, none, some (.ifCond .ne 6, 22, 25, 0, 0), none, none, some (.bipush (-103), 24, 0, 0, 0), none, some (.ireturn, 25, 0, 0, 0), some (.aload_n 0, 26, 0, 0, 0), some (.getfield 19, 29, 0, 1, 244), none, none, some (.invokestatic 183, 32, 10, 0, 598), none, none, some (.istore_n 2, 33, 0, 0, 0), some (.iload_n 1, 34, 0, 0, 0), some (.ifCond .ne 14, 37, 48, 0, 0), none, none, some (.aload_n 0, 38, 0, 0, 0), some (.getfield 19, 41, 0, 1, 244), none, none, some (.iload_n 2, 42, 0, 0, 0), some (.invokestatic 187, 45, 11, 0, 606), none, none, some (.goto 4, 48, 49, 0, 0), none, none, some (.iload_n 2, 49, 0, 0, 0), some (.ireturn, 50, 0, 0, 0)]
def jp_X8_fog : List (Option jE) := [some (.aload_n 0, 1, 0, 0, 0), some (.getfield 19, 4, 0, 1, 244), none, none, some (.iload_n 1, 5, 0, 0, 0), some (.invokevirtual 104, 8, 35, 0, 480), none, none, some (.ifCond .ne 6, 11, 14, 0, 0), none, none, some (.bipush (-101), 13, 0, 0, 0), none, some (.ireturn, 14, 0, 0, 0), some (.iload_n 2, 15, 0, 0, 0), some (.iconst 1, 16, 0, 0, 0), some (.if_icmp .lt 30, 19, 46, 0, 0), none, none, some (.iload_n 2, 20, 0, 0, 0), some (.bipush 8, 22, 0, 0, 0), none, some (.if_icmp .gt 24, 25, 46, 0, 0), none, none, some (.iload_n 3, 26, 0, 0, 0), some (.ifCond .lt 20, 29, 46, 0, 0), none, none, some (.iload_n 3, 30, 0, 0, 0), some (.bipush 10, 32, 0, 0, 0), none, some (.if_icmp .gt 14, 35, 46, 0, 0), none, none, some (.iload 4, 37, 0, 0, 0), none, some (.ifCond .lt 9, 40, 46, 0, 0), none, none, some (.iload 4, 42, 0, 0, 0), none, some (.iconst 1, 43, 0, 0, 0), some (.if_icmp .le 6, 46, 49, 0, 0), none, none, some (.bipush (-102), 48, 0, 0, 0), none, some (.ireturn, 49, 0, 0, 0), some (.aload_n 0, 50, 0, 0, 0), some (.getfield 19, 53, 0, 1, 244), none, none, some (.getfield 148, 56, 2, 6, 138), none, none, some (.iload_n 1, 57, 0, 0, 0), some (.iaload, 58, 0, 0, 0), some (.bipush (-2), 60, 0, 0, 0), none, some (.if_icmp .ne 6, 63, 66, 0, 0), none, none, some (.bipush (-103), 65, 0, 0, 0), none, some (.ireturn, 66, 0, 0, 0), some (.aload_n 0, 67, 0, 0, 0), some (.getfield 19, 70, 0, 1, 244), none, none, some (.iload_n 1, 71, 0, 0, 0), some (.iload_n 2, 72, 0, 0, 0), some (.iload_n 3, 73, 0, 0, 0), some (.invokestatic 190, 76, 13, 0, 613), none, none, some (.istore 5, 78, 0, 0, 0), none, some (.iload 5, 80, 0, 0, 0), none, some (.iload_n 2, 81, 0, 0, 0), some (.iload 4, 83, 0, 0, 0), none, some (.ifCond .ne 7, 86, 90, 0, 0), none, none, some (.iconst 1, 87, 0, 0, 0), some (.goto 4, 90, 91, 0, 0), none, none, some (.iconst 0, 91, 0, 0, 0), some (.invokestatic 194, 94, 14, 0, 616), none, none, some (.ireturn, 95, 0, 0, 0)]
def jp_X8_see : List (Option jE) := [some (.aload_n 0, 1, 0, 0, 0), some (.getfield 19, 4, 0, 1, 244), none, none, some (.iload_n 1, 5, 0, 0, 0), some (.invokevirtual 66, 8, 34, 0, 414), none, none, some (.ifCond .ne 6, 11, 14, 0, 0), none, none, some (.bipush (-101), 13, 0, 0, 0), none, some (.ireturn, 14, 0, 0, 0), some (.iload_n 2, 15, 0, 0, 0), some (.ifCond .lt 9, 18, 24, 0, 0), none, none, some (.iload_n 2, 19, 0, 0, 0), some (.bipush 31, 21, 0, 0, 0), none, some (.if_icmp .le 6, 24, 27, 0, 0), none, none, some (.bipush (-102), 26, 0, 0, 0), none, some (.ireturn, 27, 0, 0, 0), some (.aload_n 0, 28, 0, 0, 0), some (.getfield 19, 31, 0, 1, 244), none, none, some (.getfield 198, 34, 2, 7, 140), none, none, some (.iload_n 1, 35, 0, 0, 0), some (.iload_n 2, 36, 0, 0, 0), some (.iload_n 3, 37, 0, 0, 0), some (.invokevirtual 202, 40, 28, 0, 623), none, none, some (.ifCond .eq 16, 43, 56, 0, 0), none, none, some (.aload_n 0, 44, 0, 0, 0), some (.getfield 19, 47, 0, 1, 244), none, none, some (.getfield 198, 50, 2, 7, 140), none, none, some (.getfield 208, 53, 3, 3, 105), none, none, some (.goto 5, 56, 58, 0, 0), none, none, some (.bipush (-104), 58, 0, 0, 0), none, some (.ireturn, 59, 0, 0, 0)]
def jp_X8_forget : List (Option jE) := [some (.aload_n 0, 1, 0, 0, 0), some (.getfield 19, 4, 0, 1, 244), none, none, some (.getfield 198, 7, 2, 7, 140), none, none, some (.getfield 208, 10, 3, 3, 105), none, none, some (.istore_n 1, 11, 0, 0, 0), some (.aload_n 0, 12, 0, 0, 0), some (.getfield 19, 15, 0, 1, 244), none, none, some (.getfield 198, 18, 2, 7, 140), none, none, some (.iconst 0, 19, 0, 0, 0), some (.putfield 208, 22, 3, 3, 105), none, none, some (.iload_n 1, 23, 0, 0, 0), some (.ireturn, 24, 0, 0, 0)]
def jp_X8_years : List (Option jE) := [some (.iload_n 1, 1, 0, 0, 0), some (.iconst 1, 2, 0, 0, 0), some (.if_icmp .lt 22, 5, 24, 0, 0), none, none, some (.iload_n 1, 6, 0, 0, 0), some (.bipush 60, 8, 0, 0, 0), none, some (.if_icmp .gt 16, 11, 24, 0, 0), none, none, some (.iload_n 2, 12, 0, 0, 0), some (.ifCond .lt 12, 15, 24, 0, 0), none, none, some (.iload_n 3, 16, 0, 0, 0), some (.ifCond .lt 8, 19, 24, 0, 0), none, none, some (.iload_n 3, 20, 0, 0, 0), some (.iconst 2, 21, 0, 0, 0), some (.if_icmp .le 6, 24, 27, 0, 0), none, none, some (.bipush (-102), 26, 0, 0, 0), none, some (.ireturn, 27, 0, 0, 0), some (.aload_n 0, 28, 0, 0, 0), some (.getfield 19, 31, 0, 1, 244), none, none, some (.invokevirtual 131, 34, 33, 0, 523), none, none, some (.ifCond .ne 6, 37, 40, 0, 0), none, none, some (.bipush (-103), 39, 0, 0, 0), none, some (.ireturn, 40, 0, 0, 0), some (.aload_n 0, 41, 0, 0, 0), some (.getfield 36, 44, 0, 4, 247), none, none, some (.aload_n 0, 45, 0, 0, 0), some (.getfield 19, 48, 0, 1, 244), none, none, some (.iload_n 1, 49, 0, 0, 0), some (.iload_n 2, 50, 0, 0, 0), some (.invokevirtual 211, 53, 6, 0, 635), none, none, some (.iload_n 3, 54, 0, 0, 0), some (.lookupswitch 42 #[(0, 26), (1, 34)], 80, 0, 0, 0), none, none, none, none, none, none, none, none, none, none, none, none, none, none, none, none, none, none, none, none, none, none, none, none, none, some (.aload_n 0, 81, 0, 0, 0), some (.getfield 36, 84, 0, 4, 247), none, none, some (.getfield 215, 87, 5, 1, 229), none, none, some (.ireturn, 88, 0, 0, 0), some (.aload_n 0, 89, 0, 0, 0), some (.getfield 36, 92, 0, 4, 247), none, none, some (.getfield 216, 95, 5, 2, 231), none, none, some (.ireturn, 96, 0, 0, 0), some (.aload_n 0, 97, 0, 0, 0), some (.getfield 36, 100, 0, 4, 247), none, none, some (.getfield 217, 103, 5, 3, 233), none, none, some (.ireturn, 104, 0, 0, 0)]
def jp_X8_image : List (Option jE) := [some (.aload_n 0, 1, 0, 0, 0), some (.getfield 19, 4, 0, 1, 244), none, none, some (.invokevirtual 131, 7, 33, 0, 523), none, none, some (.ifCond .ne 6, 10, 13, 0, 0), none, none, some (.bipush (-103), 12, 0, 0, 0), none, some (.ireturn, 13, 0, 0, 0), some (.aload_n 0, 14, 0, 0, 0), some (.getfield 23, 17, 0, 2, 245), none, none, some (.aload_n 0, 18, 0, 0, 0), some (.getfield 19, 21, 0, 1, 244), none, none, some (.invokevirtual 220, 24, 53, 0, 659), none, none, some (.aload_n 0, 25, 0, 0, 0), some (.getfield 19, 28, 0, 1, 244), none, none, some (.getfield 83, 31, 2, 11, 158), none, none, some (.ireturn, 32, 0, 0, 0)]
def jp_X8_restore : List (Option jE) := [some (.aload_n 0, 1, 0, 0, 0), some (.getfield 23, 4, 0, 2, 245), none, none, some (.invokevirtual 131, 7, 33, 0, 523), none, none, some (.ifCond .ne 6, 10, 13, 0, 0), none, none, some (.bipush (-103), 12, 0, 0, 0), none, some (.ireturn, 13, 0, 0, 0), some (.aload_n 0, 14, 0, 0, 0), some (.getfield 19, 17, 0, 1, 244), none, none, some (.aload_n 0, 18, 0, 0, 0), some (.getfield 23, 21, 0, 2, 245), none, none, some (.invokevirtual 220, 24, 53, 0, 659), none, none, some (.aload_n 0, 25, 0, 0, 0), some (.getfield 19, 28, 0, 1, 244), none, none, some (.getfield 83, 31, 2, 11, 158), none, none, some (.ireturn, 32, 0, 0, 0)]
def jp_X8_count : List (Option jE) := [some (.iload_n 1, 1, 0, 0, 0), some (.tableswitch 171 0 11 #[63, 71, 79, 87, 105, 116, 125, 134, 142, 153, 161, 166], 64, 0, 0, 0), none, none, none, none, none, none, none, none, none, none, none, none, none, none, none, none, none, none, none, none, none, none, none, none, none, none, none, none, none, none, none, none, none, none, none, none, none, none, none, none, none, none, none, none, none, none, none, none, none, none, none, none, none, none, none, none, none, none, none, none, none, none, some (.aload_n 0, 65, 0, 0, 0), some (.getfield 19, 68, 0, 1, 244), none, none, some (.getfield 60, 71, 2, 8, 143), none, none, some (.ireturn, 72, 0, 0, 0), some (.aload_n 0, 73, 0, 0, 0), some (.getfield 19, 76, 0, 1, 244), none, none, some (.getfield 223, 79, 2, 9, 150), none, none, some (.ireturn, 80, 0, 0, 0), some (.aload_n 0, 81, 0, 0, 0), some (.getfield 19, 84, 0, 1, 244), none, none, some (.getfield 83, 87, 2, 11, 158), none, none, some (.ireturn, 88, 0, 0, 0), some (.aload_n 0, 89, 0, 0, 0), some (.getfield 19, 92, 0, 1, 244), none, none, some (.aload_n 0, 93, 0, 0, 0), some (.getfield 19, 96, 0, 1, 244), none, none, some (.getfield 83, 99, 2, 11, 158), none, none, some (.invokevirtual 145, 102, 41, 0, 537), none, none, some (.invokestatic 226, 105, 143, 0, 676), none, none, some (.ireturn, 106, 0, 0, 0), some (.aload_n 0, 107, 0, 0, 0), some (.getfield 19, 110, 0, 1, 244), none, none, some (.getfield 162, 113, 2, 10, 153), none, none, some (.invokestatic 226, 116, 143, 0, 676), none, none, some (.ireturn, 117, 0, 0, 0), some (.aload_n 0, 118, 0, 0, 0), some (.getfield 19, 121, 0, 1, 244), none, none, some (.iconst 1, 122, 0, 0, 0), some (.invokevirtual 231, 125, 47, 0, 677), none, none, some (.ireturn, 126, 0, 0, 0), some (.aload_n 0, 127, 0, 0, 0), some (.getfield 19, 130, 0, 1, 244), none, none, some (.iconst 2, 131, 0, 0, 0), some (.invokevirtual 231, 134, 47, 0, 677), none, none, some (.ireturn, 135, 0, 0, 0), some (.aload_n 0, 136, 0, 0, 0), some (.getfield 19, 139, 0, 1, 244), none, none, some (.getfield 159, 142, 2, 12, 160), none, none, some (.ireturn, 143, 0, 0, 0), some (.aload_n 0, 144, 0, 0, 0), some (.getfield 19, 147, 0, 1, 244), none, none, some (.getfield 198, 150, 2, 7, 140), none, none, some (.getfield 208, 153, 3, 3, 105), none, none, some (.ireturn, 154, 0, 0, 0), some (.aload_n 0, 155, 0, 0, 0), some (.getfield 10, 158, 0, 0, 243), none, none, some (.getfield 44, 161, 1, 1, 81), none, none, some (.ireturn, 162, 0, 0, 0), some (.aload_n 0, 163, 0, 0, 0), some (.getfield 63, 166, 0, 5, 248), none, none, some (.ireturn, 167, 0, 0, 0), some (.aload_n 0, 168, 0, 0, 0), some (.getfield 168, 171, 0, 6, 249), none, none, some (.ireturn, 172, 0, 0, 0), some (.bipush (-102), 174, 0, 0, 0), none, some (.ireturn, 175, 0, 0, 0)]
def jp_X8_digest : List (Option jE) := [some (.ldc2_w 234, 3, 1279, 0, 685), none, none, some (.lstore_n 1, 4, 0, 0, 0), some (.iconst 0, 5, 0, 0, 0), some (.istore_n 3, 6, 0, 0, 0), some (.iload_n 3, 7, 0, 0, 0), some (.aload_n 0, 8, 0, 0, 0), some (.getfield 19, 11, 0, 1, 244), none, none, some (.getfield 60, 14, 2, 8, 143), none, none, some (.if_icmp .ge 40, 17, 54, 0, 0), none, none, some (.iconst 0, 18, 0, 0, 0), some (.istore 4, 20, 0, 0, 0), none, some (.iload 4, 22, 0, 0, 0), none, some (.bipush 7, 24, 0, 0, 0), none, some (.if_icmp .gt 24, 27, 48, 0, 0), none, none, some (.ldc2_w 236, 30, 31, 0, 686), none, none, some (.lload_n 1, 31, 0, 0, 0), some (.lmul, 32, 0, 0, 0), some (.aload_n 0, 33, 0, 0, 0), some (.iload_n 3, 34, 0, 0, 0), some (.iload 4, 36, 0, 0, 0), none, some (.invokevirtual 238, 39, 58, 0, 687), none, none, some (.i2l, 40, 0, 0, 0), some (.ladd, 41, 0, 0, 0), some (.lstore_n 1, 42, 0, 0, 0), some (.iinc 4 1, 45, 0, 0, 0), none, none, some (.goto (-25), 48, 20, 0, 0), none, none, some (.iinc 3 1, 51, 0, 0, 0), none, none, some (.goto (-45), 54, 6, 0, 0), none, none, some (.iconst 0, 55, 0, 0, 0), some (.istore_n 3, 56, 0, 0, 0), some (.iload_n 3, 57, 0, 0, 0), some (.aload_n 0, 58, 0, 0, 0), some (.getfield 19, 61, 0, 1, 244), none, none, some (.getfield 223, 64, 2, 9, 150), none, none, some (.if_icmp .ge 40, 67, 104, 0, 0), none, none, some (.iconst 0, 68, 0, 0, 0), some (.istore 4, 70, 0, 0, 0), none, some (.iload 4, 72, 0, 0, 0), none, some (.bipush 6, 74, 0, 0, 0), none, some (.if_icmp .gt 24, 77, 98, 0, 0), none, none, some (.ldc2_w 236, 80, 31, 0, 686), none, none, some (.lload_n 1, 81, 0, 0, 0), some (.lmul, 82, 0, 0, 0), some (.aload_n 0, 83, 0, 0, 0), some (.iload_n 3, 84, 0, 0, 0), some (.iload 4, 86, 0, 0, 0), none, some (.invokevirtual 242, 89, 60, 0, 688), none, none, some (.i2l, 90, 0, 0, 0), some (.ladd, 91, 0, 0, 0), some (.lstore_n 1, 92, 0, 0, 0), some (.iinc 4 1, 95, 0, 0, 0), none, none, some (.goto (-25), 98, 70, 0, 0), none, none, some (.iinc 3 1, 101, 0, 0, 0), none, none, some (.goto (-45), 104, 56, 0, 0), none, none, some (.aload_n 0, 105, 0, 0, 0), some (.getfield 19, 108, 0, 1, 244), none, none, some (.invokevirtual 131, 111, 33, 0, 523), none, none, some (.ifCond .eq 35, 114, 146, 0, 0), none, none, some (.aload_n 0, 115, 0, 0, 0), some (.lload_n 1, 116, 0, 0, 0), some (.invokevirtual 245, 119, 77, 0, 689), none, none, some (.lstore_n 1, 120, 0, 0, 0), some (.ldc2_w 236, 123, 31, 0, 686), none, none, some (.lload_n 1, 124, 0, 0, 0), some (.lmul, 125, 0, 0, 0), some (.aload_n 0, 126, 0, 0, 0), some (.iconst 0, 127, 0, 0, 0), some (.invokevirtual 249, 130, 68, 0, 694), none, none, some (.i2l, 131, 0, 0, 0), some (.ladd, 132, 0, 0, 0), some (.lstore_n 1, 133, 0, 0, 0), some (.ldc2_w 236, 136, 31, 0, 686), none, none, some (.lload_n 1, 137, 0, 0, 0), some (.lmul, 138, 0, 0, 0), some (.aload_n 0, 139, 0, 0, 0), some (.iconst 1, 140, 0, 0, 0), some (.invokevirtual 249, 143, 68, 0, 694), none, none, some (.i2l, 144, 0, 0, 0), some (.ladd, 145, 0, 0, 0), some (.lstore_n 1, 146, 0, 0, 0), some (.iconst 0, 147, 0, 0, 0), some (.istore_n 3, 148, 0, 0, 0), some (.iload_n 3, 149, 0, 0, 0), some (.aload_n 0, 150, 0, 0, 0), some (.getfield 10, 153, 0, 0, 243), none, none, some (.getfield 44, 156, 1, 1, 81), none, none, some (.if_icmp .ge 26, 159, 182, 0, 0), none, none, some (.ldc2_w 236, 162, 31, 0, 686), none, none, some (.lload_n 1, 163, 0, 0, 0), some (.lmul, 164, 0, 0, 0), some (.aload_n 0, 165, 0, 0, 0), some (.getfield 10, 168, 0, 0, 243), none, none, some (.getfield 252, 171, 1, 0, 79), none, none, some (.iload_n 3, 172, 0, 0, 0), some (.iaload, 173, 0, 0, 0), some (.i2l, 174, 0, 0, 0), some (.ladd, 175, 0, 0, 0), some (.lstore_n 1, 176, 0, 0, 0), some (.iinc 3 1, 179, 0, 0, 0), none, none, some (.goto (-31), 182, 148, 0, 0), none, none, some (.iconst 0, 183, 0, 0, 0), some (.istore_n 3, 184, 0, 0, 0), some (.iload_n 3, 185, 0, 0, 0), some (.bipush 11, 187, 0, 0, 0), none, some (.if_icmp .gt 22, 190, 209, 0, 0), none, none, some (.ldc2_w 236, 193, 31, 0, 686), none, none, some (.lload_n 1, 194, 0, 0, 0), some (.lmul, 195, 0, 0, 0), some (.aload_n 0, 196, 0, 0, 0), some (.iload_n 3, 197, 0, 0, 0), some (.invokevirtual 255, 200, 75, 0, 695), none, none, some (.i2l, 201, 0, 0, 0), some (.ladd, 202, 0, 0, 0), some (.lstore_n 1, 203, 0, 0, 0), some (.iinc 3 1, 206, 0, 0, 0), none, none, some (.goto (-22), 209, 184, 0, 0), none, none, some (.lload_n 1, 210, 0, 0, 0), some (.lreturn, 211, 0, 0, 0)]
def jp_X8_withDates : List (Option jE) := [some (.lload_n 1, 1, 0, 0, 0), some (.lstore_n 3, 2, 0, 0, 0), some (.iconst 0, 3, 0, 0, 0), some (.istore 5, 5, 0, 0, 0), none, some (.iload 5, 7, 0, 0, 0), none, some (.bipush 40, 9, 0, 0, 0), none, some (.if_icmp .gt 40, 12, 49, 0, 0), none, none, some (.iconst 0, 13, 0, 0, 0), some (.istore 6, 15, 0, 0, 0), none, some (.iload 6, 17, 0, 0, 0), none, some (.iconst 3, 18, 0, 0, 0), some (.if_icmp .gt 25, 21, 43, 0, 0), none, none, some (.ldc2_w 236, 24, 31, 0, 686), none, none, some (.lload_n 3, 25, 0, 0, 0), some (.lmul, 26, 0, 0, 0), some (.aload_n 0, 27, 0, 0, 0), some (.iload 5, 29, 0, 0, 0), none, some (.iload 6, 31, 0, 0, 0), none, some (.invokevirtual 258, 34, 61, 0, 693), none, none, some (.i2l, 35, 0, 0, 0), some (.ladd, 36, 0, 0, 0), some (.lstore_n 3, 37, 0, 0, 0), some (.iinc 6 1, 40, 0, 0, 0), none, none, some (.goto (-25), 43, 15, 0, 0), none, none, some (.iinc 5 40, 46, 0, 0, 0), none, none, some (.goto (-41), 49, 5, 0, 0), none, none, some (.lload_n 3, 50, 0, 0, 0), some (.lreturn, 51, 0, 0, 0)]
def jp_X9_in : List (Option jE) := [some (.lload_n 0, 1, 0, 0, 0), some (.lload_n 2, 2, 0, 0, 0), some (.lcmp, 3, 0, 0, 0), some (.ifCond .lt 14, 6, 17, 0, 0), none, none, some (.lload_n 0, 7, 0, 0, 0), some (.lload 4, 9, 0, 0, 0), none, some (.lcmp, 10, 0, 0, 0), some (.ifCond .gt 7, 13, 17, 0, 0), none, none, some (.iconst 1, 14, 0, 0, 0), some (.goto 4, 17, 18, 0, 0), none, none, some (.iconst 0, 18, 0, 0, 0), some (.ireturn, 19, 0, 0, 0)]
def jp_X9_copy : List (Option jE) := [some (.iconst 0, 1, 0, 0, 0), some (.istore_n 2, 2, 0, 0, 0), some (.iload_n 2, 3, 0, 0, 0), some (.aload_n 0, 4, 0, 0, 0), some (.arraylength, 5, 0, 0, 0), some (.if_icmp .ge 15, 8, 20, 0, 0), none, none, some (.aload_n 1, 9, 0, 0, 0), some (.iload_n 2, 10, 0, 0, 0), some (.aload_n 0, 11, 0, 0, 0), some (.iload_n 2, 12, 0, 0, 0), some (.iaload, 13, 0, 0, 0), some (.iastore, 14, 0, 0, 0), some (.iinc 2 1, 17, 0, 0, 0), none, none, some (.goto (-15), 20, 2, 0, 0), none, none, some (.return_, 21, 0, 0, 0)]
def jp_X9_letter : List (Option jE) := [some (.iload_n 1, 1, 0, 0, 0), some (.i2l, 2, 0, 0, 0), some (.lconst 1, 3, 0, 0, 0), some (.ldc2_w 77, 6, 126, 0, 824), none, none, some (.invokestatic 79, 9, 78, 0, 825), none, none, some (.ifCond .ne 6, 12, 15, 0, 0), none, none, some (.bipush (-102), 14, 0, 0, 0), none, some (.ireturn, 15, 0, 0, 0), some (.aload_n 0, 16, 0, 0, 0), some (.getfield 83, 19, 6, 1, 703), none, none, some (.bipush 44, 21, 0, 0, 0), none, some (.if_icmp .ne 6, 24, 27, 0, 0), none, none, some (.bipush (-104), 26, 0, 0, 0), none, some (.ireturn, 27, 0, 0, 0), some (.aload_n 0, 28, 0, 0, 0), some (.getfield 7, 31, 6, 0, 702), none, none, some (.aload_n 0, 32, 0, 0, 0), some (.getfield 83, 35, 6, 1, 703), none, none, some (.iload_n 1, 36, 0, 0, 0), some (.iastore, 37, 0, 0, 0), some (.aload_n 0, 38, 0, 0, 0), some (.dup, 39, 0, 0, 0), some (.getfield 83, 42, 6, 1, 703), none, none, some (.iconst 1, 43, 0, 0, 0), some (.iadd, 44, 0, 0, 0), some (.putfield 83, 47, 6, 1, 703), none, none, some (.aload_n 0, 48, 0, 0, 0), some (.getfield 83, 51, 6, 1, 703), none, none, some (.ireturn, 52, 0, 0, 0)]
def jp_X9_blank : List (Option jE) := [some (.aload_n 0, 1, 0, 0, 0), some (.getfield 83, 4, 6, 1, 703), none, none, some (.istore_n 1, 5, 0, 0, 0), some (.aload_n 0, 6, 0, 0, 0), some (.iconst 0, 7, 0, 0, 0), some (.putfield 83, 10, 6, 1, 703), none, none, some (.iload_n 1, 11, 0, 0, 0), some (.ireturn, 12, 0, 0, 0)]
def jp_X9_kindBy : List (Option jE) := [some (.iload_n 0, 1, 0, 0, 0), some (.lookupswitch 61 #[(100, 57), (102, 59), (109, 53), (112, 51), (116, 55)], 52, 0, 0, 0), none, none, none, none, none, none, none, none, none, none, none, none, none, none, none, none, none, none, none, none, none, none, none, none, none, none, none, none, none, none, none, none, none, none, none, none, none, none, none, none, none, none, none, none, none, none, none, none, none, none, some (.iconst 0, 53, 0, 0, 0), some (.ireturn, 54, 0, 0, 0), some (.iconst 1, 55, 0, 0, 0), some (.ireturn, 56, 0, 0, 0), some (.iconst 2, 57, 0, 0, 0), some (.ireturn, 58, 0, 0, 0), some (.iconst 3, 59, 0, 0, 0), some (.ireturn, 60, 0, 0, 0), some (.iconst 4, 61, 0, 0, 0), some (.ireturn, 62, 0, 0, 0), some (.iconst (-1), 63, 0, 0, 0), some (.ireturn, 64, 0, 0, 0)]
def jp_X9_isPersonLetter : List (Option jE) := [some (.aload_n 0, 1, 0, 0, 0), some (.getfield 7, 4, 6, 0, 702), none, none, some (.iload_n 1, 5, 0, 0, 0), some (.iaload, 6, 0, 0, 0), some (.istore_n 2, 7, 0, 0, 0), some (.iload_n 1, 8, 0, 0, 0), some (.iconst 4, 9, 0, 0, 0), some (.irem, 10, 0, 0, 0), some (.tableswitch 70 0 2 #[26, 40, 58], 36, 0, 0, 0), none, none, none, none, none, none, none, none, none, none, none, none, none, none, none, none, none, none, none, none, none, none, none, none, none, some (.iload_n 2, 37, 0, 0, 0), some (.invokestatic 86, 40, 82, 0, 844), none, none, some (.iconst (-1), 41, 0, 0, 0), some (.if_icmp .eq 7, 44, 48, 0, 0), none, none, some (.iconst 1, 45, 0, 0, 0), some (.goto 4, 48, 49, 0, 0), none, none, some (.iconst 0, 49, 0, 0, 0), some (.ireturn, 50, 0, 0, 0), some (.iload_n 2, 51, 0, 0, 0), some (.bipush 108, 53, 0, 0, 0), none, some (.if_icmp .eq 9, 56, 62, 0, 0), none, none, some (.iload_n 2, 57, 0, 0, 0), some (.bipush 114, 59, 0, 0, 0), none, some (.if_icmp .ne 7, 62, 66, 0, 0), none, none, some (.iconst 1, 63, 0, 0, 0), some (.goto 4, 66, 67, 0, 0), none, none, some (.iconst 0, 67, 0, 0, 0), some (.ireturn, 68, 0, 0, 0), some (.iload_n 2, 69, 0, 0, 0), some (.i2l, 70, 0, 0, 0), some (.ldc2_w 90, 73, 48, 0, 847), none, none, some (.ldc2_w 92, 76, 57, 0, 848), none, none, some (.invokestatic 79, 79, 78, 0, 825), none, none, some (.ireturn, 80, 0, 0, 0), some (.iload_n 2, 81, 0, 0, 0), some (.bipush 59, 83, 0, 0, 0), none, some (.if_icmp .ne 15, 86, 98, 0, 0), none, none, some (.iload_n 1, 87, 0, 0, 0), some (.iconst 3, 88, 0, 0, 0), some (.if_icmp .le 10, 91, 98, 0, 0), none, none, some (.aload_n 0, 92, 0, 0, 0), some (.iload_n 1, 93, 0, 0, 0), some (.putfield 94, 96, 6, 2, 704), none, none, some (.iconst 1, 97, 0, 0, 0), some (.ireturn, 98, 0, 0, 0), some (.iload_n 2, 99, 0, 0, 0), some (.bipush 44, 101, 0, 0, 0), none, some (.if_icmp .ne 13, 104, 114, 0, 0), none, none, some (.iload_n 1, 105, 0, 0, 0), some (.bipush 23, 107, 0, 0, 0), none, some (.if_icmp .ge 7, 110, 114, 0, 0), none, none, some (.iconst 1, 111, 0, 0, 0), some (.goto 4, 114, 115, 0, 0), none, none, some (.iconst 0, 115, 0, 0, 0), some (.ireturn, 116, 0, 0, 0)]
def jp_X9_isPersonDigit : List (Option jE) := [some (.iload_n 1, 1, 0, 0, 0), some (.i2l, 2, 0, 0, 0), some (.ldc2_w 90, 5, 48, 0, 847), none, none, some (.bipush 48, 7, 0, 0, 0), none, some (.aload_n 0, 8, 0, 0, 0), some (.getfield 94, 11, 6, 2, 704), none, none, some (.iconst 1, 12, 0, 0, 0), some (.iadd, 13, 0, 0, 0), some (.iconst 4, 14, 0, 0, 0), some (.idiv, 15, 0, 0, 0), some (.iadd, 16, 0, 0, 0), some (.iconst 1, 17, 0, 0, 0), some (.isub, 18, 0, 0, 0), some (.i2l, 19, 0, 0, 0), some (.invokestatic 79, 22, 78, 0, 825), none, none, some (.ireturn, 23, 0, 0, 0)]
def jp_X9_isMatterLetter : List (Option jE) := [some (.aload_n 0, 1, 0, 0, 0), some (.getfield 7, 4, 6, 0, 702), none, none, some (.iload_n 1, 5, 0, 0, 0), some (.iaload, 6, 0, 0, 0), some (.istore_n 2, 7, 0, 0, 0), some (.iload_n 1, 8, 0, 0, 0), some (.aload_n 0, 9, 0, 0, 0), some (.getfield 94, 12, 6, 2, 704), none, none, some (.isub, 13, 0, 0, 0), some (.iconst 1, 14, 0, 0, 0), some (.isub, 15, 0, 0, 0), some (.istore_n 3, 16, 0, 0, 0), some (.iload_n 3, 17, 0, 0, 0), some (.iconst 4, 18, 0, 0, 0), some (.irem, 19, 0, 0, 0), some (.tableswitch 69 0 2 #[25, 31, 57], 44, 0, 0, 0), none, none, none, none, none, none, none, none, none, none, none, none, none, none, none, none, none, none, none, none, none, none, none, none, some (.aload_n 0, 45, 0, 0, 0), some (.iload_n 2, 46, 0, 0, 0), some (.invokevirtual 97, 49, 84, 0, 853), none, none, some (.ireturn, 50, 0, 0, 0), some (.aload_n 0, 51, 0, 0, 0), some (.iload_n 2, 52, 0, 0, 0), some (.invokevirtual 97, 55, 84, 0, 853), none, none, some (.ifCond .eq 19, 58, 74, 0, 0), none, none, some (.iload_n 2, 59, 0, 0, 0), some (.aload_n 0, 60, 0, 0, 0), some (.getfield 7, 63, 6, 0, 702), none, none, some (.iload_n 1, 64, 0, 0, 0), some (.iconst 1, 65, 0, 0, 0), some (.isub, 66, 0, 0, 0), some (.iaload, 67, 0, 0, 0), some (.if_icmp .eq 7, 70, 74, 0, 0), none, none, some (.iconst 1, 71, 0, 0, 0), some (.goto 4, 74, 75, 0, 0), none, none, some (.iconst 0, 75, 0, 0, 0), some (.ireturn, 76, 0, 0, 0), some (.iload_n 2, 77, 0, 0, 0), some (.i2l, 78, 0, 0, 0), some (.ldc2_w 101, 81, 49, 0, 857), none, none, some (.ldc2_w 92, 84, 57, 0, 848), none, none, some (.invokestatic 79, 87, 78, 0, 825), none, none, some (.ireturn, 88, 0, 0, 0), some (.iload_n 2, 89, 0, 0, 0), some (.bipush 44, 91, 0, 0, 0), none, some (.if_icmp .ne 13, 94, 104, 0, 0), none, none, some (.iload_n 3, 95, 0, 0, 0), some (.bipush 19, 97, 0, 0, 0), none, some (.if_icmp .ge 7, 100, 104, 0, 0), none, none, some (.iconst 1, 101, 0, 0, 0), some (.goto 4, 104, 105, 0, 0), none, none, some (.iconst 0, 105, 0, 0, 0), some (.ireturn, 106, 0, 0, 0)]
def jp_X9_faultOf : List (Option jE) := [some (.aload_n 0, 1, 0, 0, 0), some (.iconst 0, 2, 0, 0, 0), some (.putfield 94, 5, 6, 2, 704), none, none, some (.iconst 0, 6, 0, 0, 0), some (.istore_n 1, 7, 0, 0, 0), some (.iload_n 1, 8, 0, 0, 0), some (.aload_n 0, 9, 0, 0, 0), some (.getfield 83, 12, 6, 1, 703), none, none, some (.if_icmp .ge 35, 15, 47, 0, 0), none, none, some (.aload_n 0, 16, 0, 0, 0), some (.getfield 94, 19, 6, 2, 704), none, none, some (.ifCond .ne 14, 22, 33, 0, 0), none, none, some (.aload_n 0, 23, 0, 0, 0), some (.iload_n 1, 24, 0, 0, 0), some (.invokevirtual 103, 27, 83, 0, 840), none, none, some (.ifCond .eq 20, 30, 47, 0, 0), none, none, some (.goto 11, 33, 41, 0, 0), none, none, some (.aload_n 0, 34, 0, 0, 0), some (.iload_n 1, 35, 0, 0, 0), some (.invokevirtual 106, 38, 85, 0, 849), none, none, some (.ifCond .eq 9, 41, 47, 0, 0), none, none, some (.iinc 1 1, 44, 0, 0, 0), none, none, some (.goto (-37), 47, 7, 0, 0), none, none, some (.iload_n 1, 48, 0, 0, 0), some (.ireturn, 49, 0, 0, 0)]
def jp_X9_fault : List (Option jE) := [some (.aload_n 0, 1, 0, 0, 0), some (.invokevirtual 109, 4, 86, 0, 836), none, none, some (.ireturn, 5, 0, 0, 0)]
def jp_X9_river : List (Option jE) := [some (.aload_n 0, 1, 0, 0, 0), some (.invokevirtual 109, 4, 86, 0, 836), none, none, some (.aload_n 0, 5, 0, 0, 0), some (.getfield 83, 8, 6, 1, 703), none, none, some (.if_icmp .lt 24, 11, 32, 0, 0), none, none, some (.aload_n 0, 12, 0, 0, 0), some (.getfield 94, 15, 6, 2, 704), none, none, some (.ifCond .eq 17, 18, 32, 0, 0), none, none, some (.aload_n 0, 19, 0, 0, 0), some (.getfield 83, 22, 6, 1, 703), none, none, some (.aload_n 0, 23, 0, 0, 0), some (.getfield 94, 26, 6, 2, 704), none, none, some (.isub, 27, 0, 0, 0), some (.iconst 4, 28, 0, 0, 0), some (.irem, 29, 0, 0, 0), some (.ifCond .eq 6, 32, 35, 0, 0), none, none, some (.bipush (-103), 34, 0, 0, 0), none, some (.ireturn, 35, 0, 0, 0), some (.aload_n 0, 36, 0, 0, 0), some (.aload_n 0, 37, 0, 0, 0), some (.getfield 94, 40, 6, 2, 704), none, none, some (.iconst 1, 41, 0, 0, 0), some (.iadd, 42, 0, 0, 0), some (.iconst 4, 43, 0, 0, 0), some (.idiv, 44, 0, 0, 0), some (.putfield 113, 47, 6, 3, 705), none, none, some (.aload_n 0, 48, 0, 0, 0), some (.aload_n 0, 49, 0, 0, 0), some (.getfield 83, 52, 6, 1, 703), none, none, some (.aload_n 0, 53, 0, 0, 0), some (.getfield 94, 56, 6, 2, 704), none, none, some (.isub, 57, 0, 0, 0), some (.iconst 4, 58, 0, 0, 0), some (.idiv, 59, 0, 0, 0), some (.putfield 116, 62, 6, 4, 706), none, none, some (.iconst 0, 63, 0, 0, 0), some (.istore_n 1, 64, 0, 0, 0), some (.iload_n 1, 65, 0, 0, 0), some (.aload_n 0, 66, 0, 0, 0), some (.getfield 113, 69, 6, 3, 705), none, none, some (.if_icmp .ge 83, 72, 152, 0, 0), none, none, some (.aload_n 0, 73, 0, 0, 0), some (.getfield 13, 76, 6, 8, 710), none, none, some (.iload_n 1, 77, 0, 0, 0), some (.aload_n 0, 78, 0, 0, 0), some (.getfield 7, 81, 6, 0, 702), none, none, some (.iconst 4, 82, 0, 0, 0), some (.iload_n 1, 83, 0, 0, 0), some (.imul, 84, 0, 0, 0), some (.iaload, 85, 0, 0, 0), some (.invokestatic 86, 88, 82, 0, 844), none, none, some (.iastore, 89, 0, 0, 0), some (.aload_n 0, 90, 0, 0, 0), some (.getfield 16, 93, 6, 9, 711), none, none, some (.iload_n 1, 94, 0, 0, 0), some (.aload_n 0, 95, 0, 0, 0), some (.getfield 7, 98, 6, 0, 702), none, none, some (.iconst 4, 99, 0, 0, 0), some (.iload_n 1, 100, 0, 0, 0), some (.imul, 101, 0, 0, 0), some (.iconst 1, 102, 0, 0, 0), some (.iadd, 103, 0, 0, 0), some (.iaload, 104, 0, 0, 0), some (.bipush 108, 106, 0, 0, 0), none, some (.if_icmp .ne 7, 109, 113, 0, 0), none, none, some (.iconst 0, 110, 0, 0, 0), some (.goto 4, 113, 114, 0, 0), none, none, some (.iconst 1, 114, 0, 0, 0), some (.iastore, 115, 0, 0, 0), some (.aload_n 0, 116, 0, 0, 0), some (.getfield 19, 119, 6, 10, 712), none, none, some (.iload_n 1, 120, 0, 0, 0), some (.aload_n 0, 121, 0, 0, 0), some (.getfield 16, 124, 6, 9, 711), none, none, some (.iload_n 1, 125, 0, 0, 0), some (.iaload, 126, 0, 0, 0), some (.iastore, 127, 0, 0, 0), some (.aload_n 0, 128, 0, 0, 0), some (.getfield 22, 131, 6, 11, 713), none, none, some (.iload_n 1, 132, 0, 0, 0), some (.aload_n 0, 133, 0, 0, 0), some (.getfield 7, 136, 6, 0, 702), none, none, some (.iconst 4, 137, 0, 0, 0), some (.iload_n 1, 138, 0, 0, 0), some (.imul, 139, 0, 0, 0), some (.iconst 2, 140, 0, 0, 0), some (.iadd, 141, 0, 0, 0), some (.iaload, 142, 0, 0, 0), some (.bipush 48, 144, 0, 0, 0), none, some (.isub, 145, 0, 0, 0), some (.iastore, 146, 0, 0, 0), some (.iinc 1 1, 149, 0, 0, 0), none, none, some (.goto (-85), 152, 64, 0, 0), none, none, some (.iconst 0, 153, 0, 0, 0), some (.istore_n 1, 154, 0, 0, 0), some (.iload_n 1, 155, 0, 0, 0), some (.aload_n 0, 156, 0, 0, 0), some (.getfield 116, 159, 6, 4, 706), none, none, some (.if_icmp .ge 83, 162, 242, 0, 0), none, none, some (.aload_n 0, 163, 0, 0, 0), some (.getfield 94, 166, 6, 2, 704), none, none, some (.iconst 1, 167, 0, 0, 0), some (.iadd, 168, 0, 0, 0), some (.iconst 4, 169, 0, 0, 0), some (.iload_n 1, 170, 0, 0, 0), some (.imul, 171, 0, 0, 0), some (.iadd, 172, 0, 0, 0), some (.istore_n 2, 173, 0, 0, 0), some (.aload_n 0, 174, 0, 0, 0), some (.getfield 25, 177, 6, 12, 714), none, none, some (.iload_n 1, 178, 0, 0, 0), some (.aload_n 0, 179, 0, 0, 0), some (.getfield 7, 182, 6, 0, 702), none, none, some (.iload_n 2, 183, 0, 0, 0), some (.iaload, 184, 0, 0, 0), some (.bipush 48, 186, 0, 0, 0), none, some (.isub, 187, 0, 0, 0), some (.iastore, 188, 0, 0, 0), some (.aload_n 0, 189, 0, 0, 0), some (.getfield 28, 192, 6, 13, 715), none, none, some (.iload_n 1, 193, 0, 0, 0), some (.aload_n 0, 194, 0, 0, 0), some (.getfield 7, 197, 6, 0, 702), none, none, some (.iload_n 2, 198, 0, 0, 0), some (.iconst 1, 199, 0, 0, 0), some (.iadd, 200, 0, 0, 0), some (.iaload, 201, 0, 0, 0), some (.bipush 48, 203, 0, 0, 0), none, some (.isub, 204, 0, 0, 0), some (.iastore, 205, 0, 0, 0), some (.aload_n 0, 206, 0, 0, 0), some (.getfield 31, 209, 6, 14, 716), none, none, some (.iload_n 1, 210, 0, 0, 0), some (.aload_n 0, 211, 0, 0, 0), some (.getfield 7, 214, 6, 0, 702), none, none, some (.iload_n 2, 215, 0, 0, 0), some (.iconst 2, 216, 0, 0, 0), some (.iadd, 217, 0, 0, 0), some (.iaload, 218, 0, 0, 0), some (.bipush 48, 220, 0, 0, 0), none, some (.isub, 221, 0, 0, 0), some (.iastore, 222, 0, 0, 0), some (.aload_n 0, 223, 0, 0, 0), some (.getfield 34, 226, 6, 15, 717), none, none, some (.iload_n 1, 227, 0, 0, 0), some (.iconst 0, 228, 0, 0, 0), some (.iastore, 229, 0, 0, 0), some (.aload_n 0, 230, 0, 0, 0), some (.getfield 37, 233, 6, 16, 718), none, none, some (.iload_n 1, 234, 0, 0, 0), some (.iconst 0, 235, 0, 0, 0), some (.iastore, 236, 0, 0, 0), some (.iinc 1 1, 239, 0, 0, 0), none, none, some (.goto (-85), 242, 154, 0, 0), none, none, some (.aload_n 0, 243, 0, 0, 0), some (.iconst 0, 244, 0, 0, 0), some (.putfield 119, 247, 6, 5, 707), none, none, some (.aload_n 0, 248, 0, 0, 0), some (.iconst 0, 249, 0, 0, 0), some (.putfield 122, 252, 6, 6, 708), none, none, some (.aload_n 0, 253, 0, 0, 0), some (.iconst 0, 254, 0, 0, 0), some (.putfield 125, 257, 6, 24, 726), none, none, some (.aload_n 0, 258, 0, 0, 0), some (.dup, 259, 0, 0, 0), some (.getfield 128, 262, 6, 7, 709), none, none, some (.iconst 1, 263, 0, 0, 0), some (.iadd, 264, 0, 0, 0), some (.putfield 128, 267, 6, 7, 709), none, none, some (.aload_n 0, 268, 0, 0, 0), some (.iconst 0, 269, 0, 0, 0), some (.putfield 83, 272, 6, 1, 703), none, none, some (.aload_n 0, 273, 0, 0, 0), some (.getfield 113, 276, 6, 3, 705), none, none, some (.ireturn, 277, 0, 0, 0)]
def jp_X9_lacks : List (Option jE) := [some (.aload_n 0, 1, 0, 0, 0), some (.getfield 113, 4, 6, 3, 705), none, none, some (.ifCond .ne 7, 7, 11, 0, 0), none, none, some (.iconst 1, 8, 0, 0, 0), some (.goto 4, 11, 12, 0, 0), none, none, some (.iconst 0, 12, 0, 0, 0), some (.ireturn, 13, 0, 0, 0)]
def jp_X9_isPerson : List (Option jE) := [some (.iload_n 1, 1, 0, 0, 0), some (.i2l, 2, 0, 0, 0), some (.lconst 0, 3, 0, 0, 0), some (.aload_n 0, 4, 0, 0, 0), some (.getfield 113, 7, 6, 3, 705), none, none, some (.iconst 1, 8, 0, 0, 0), some (.isub, 9, 0, 0, 0), some (.i2l, 10, 0, 0, 0), some (.invokestatic 79, 13, 78, 0, 825), none, none, some (.ireturn, 14, 0, 0, 0)]
def jp_X9_isMatter : List (Option jE) := [some (.iload_n 1, 1, 0, 0, 0), some (.i2l, 2, 0, 0, 0), some (.lconst 0, 3, 0, 0, 0), some (.aload_n 0, 4, 0, 0, 0), some (.getfield 116, 7, 6, 4, 706), none, none, some (.iconst 1, 8, 0, 0, 0), some (.isub, 9, 0, 0, 0), some (.i2l, 10, 0, 0, 0), some (.invokestatic 79, 13, 78, 0, 825), none, none, some (.ireturn, 14, 0, 0, 0)]
def jp_X9_daysOf : List (Option jE) := [some (.iload_n 0, 1, 0, 0, 0), some (.tableswitch 73 2 11 #[55, 73, 70, 73, 70, 73, 73, 70, 73, 70], 56, 0, 0, 0), none, none, none, none, none, none, none, none, none, none, none, none, none, none, none, none, none, none, none, none, none, none, none, none, none, none, none, none, none, none, none, none, none, none, none, none, none, none, none, none, none, none, none, none, none, none, none, none, none, none, none, none, none, none, some (.iload_n 1, 57, 0, 0, 0), some (.iconst 4, 58, 0, 0, 0), some (.irem, 59, 0, 0, 0), some (.iconst 3, 60, 0, 0, 0), some (.if_icmp .ne 8, 63, 68, 0, 0), none, none, some (.bipush 29, 65, 0, 0, 0), none, some (.goto 5, 68, 70, 0, 0), none, none, some (.bipush 28, 70, 0, 0, 0), none, some (.ireturn, 71, 0, 0, 0), some (.bipush 30, 73, 0, 0, 0), none, some (.ireturn, 74, 0, 0, 0), some (.bipush 31, 76, 0, 0, 0), none, some (.ireturn, 77, 0, 0, 0)]
def jp_X9_layDate : List (Option jE) := [some (.iload_n 1, 1, 0, 0, 0), some (.sipush 1461, 4, 0, 0, 0), none, none, some (.irem, 5, 0, 0, 0), some (.istore_n 2, 6, 0, 0, 0), some (.aload_n 0, 7, 0, 0, 0), some (.iconst 4, 8, 0, 0, 0), some (.iload_n 1, 9, 0, 0, 0), some (.sipush 1461, 12, 0, 0, 0), none, none, some (.idiv, 13, 0, 0, 0), some (.imul, 14, 0, 0, 0), some (.putfield 131, 17, 6, 19, 721), none, none, some (.aload_n 0, 18, 0, 0, 0), some (.iconst 1, 19, 0, 0, 0), some (.putfield 134, 22, 6, 18, 720), none, none, some (.iload_n 2, 23, 0, 0, 0), some (.aload_n 0, 24, 0, 0, 0), some (.getfield 134, 27, 6, 18, 720), none, none, some (.aload_n 0, 28, 0, 0, 0), some (.getfield 131, 31, 6, 19, 721), none, none, some (.invokestatic 137, 34, 92, 0, 882), none, none, some (.if_icmp .lt 74, 37, 108, 0, 0), none, none, some (.iload_n 2, 38, 0, 0, 0), some (.aload_n 0, 39, 0, 0, 0), some (.getfield 134, 42, 6, 18, 720), none, none, some (.aload_n 0, 43, 0, 0, 0), some (.getfield 131, 46, 6, 19, 721), none, none, some (.invokestatic 137, 49, 92, 0, 882), none, none, some (.isub, 50, 0, 0, 0), some (.istore_n 2, 51, 0, 0, 0), some (.aload_n 0, 52, 0, 0, 0), some (.dup, 53, 0, 0, 0), some (.getfield 134, 56, 6, 18, 720), none, none, some (.iconst 1, 57, 0, 0, 0), some (.iadd, 58, 0, 0, 0), some (.putfield 134, 61, 6, 18, 720), none, none, some (.aload_n 0, 62, 0, 0, 0), some (.dup, 63, 0, 0, 0), some (.getfield 131, 66, 6, 19, 721), none, none, some (.aload_n 0, 67, 0, 0, 0), some (.getfield 134, 70, 6, 18, 720), none, none, some (.bipush 13, 72, 0, 0, 0), none, some (.if_icmp .ne 7, 75, 79, 0, 0), none, none, some (.iconst 1, 76, 0, 0, 0), some (.goto 4, 79, 80, 0, 0), none, none, some (.iconst 0, 80, 0, 0, 0), some (.iadd, 81, 0, 0, 0), some (.putfield 131, 84, 6, 19, 721), none, none, some (.aload_n 0, 85, 0, 0, 0), some (.aload_n 0, 86, 0, 0, 0), some (.getfield 134, 89, 6, 18, 720), none, none, some (.bipush 13, 91, 0, 0, 0), none, some (.if_icmp .ne 7, 94, 98, 0, 0), none, none, some (.iconst 1, 95, 0, 0, 0), some (.goto 7, 98, 102, 0, 0), none, none, some (.aload_n 0, 99, 0, 0, 0), some (.getfield 134, 102, 6, 18, 720), none, none, some (.putfield 134, 105, 6, 18, 720), none, none, some (.goto (-83), 108, 22, 0, 0), none, none, some (.aload_n 0, 109, 0, 0, 0), some (.iload_n 2, 110, 0, 0, 0), some (.iconst 1, 111, 0, 0, 0), some (.iadd, 112, 0, 0, 0), some (.putfield 141, 115, 6, 17, 719), none, none, some (.return_, 116, 0, 0, 0)]
def jp_X9_isBankOn : List (Option jE) := [some (.aload_n 0, 1, 0, 0, 0), some (.getfield 141, 4, 6, 17, 719), none, none, some (.bipush 29, 6, 0, 0, 0), none, some (.if_icmp .ne 15, 9, 21, 0, 0), none, none, some (.aload_n 0, 10, 0, 0, 0), some (.getfield 134, 13, 6, 18, 720), none, none, some (.iconst 2, 14, 0, 0, 0), some (.if_icmp .ne 7, 17, 21, 0, 0), none, none, some (.iconst 1, 18, 0, 0, 0), some (.goto 4, 21, 22, 0, 0), none, none, some (.iconst 0, 22, 0, 0, 0), some (.istore_n 2, 23, 0, 0, 0), some (.iload_n 2, 24, 0, 0, 0), some (.ifCond .ne 15, 27, 39, 0, 0), none, none, some (.aload_n 0, 28, 0, 0, 0), some (.getfield 141, 31, 6, 17, 719), none, none, some (.iconst 2, 32, 0, 0, 0), some (.irem, 33, 0, 0, 0), some (.iconst 1, 34, 0, 0, 0), some (.iload_n 1, 35, 0, 0, 0), some (.isub, 36, 0, 0, 0), some (.if_icmp .ne 7, 39, 43, 0, 0), none, none, some (.iconst 1, 40, 0, 0, 0), some (.goto 4, 43, 44, 0, 0), none, none, some (.iconst 0, 44, 0, 0, 0), some (.ireturn, 45, 0, 0, 0)]
def jp_X9_isSpeaking : List (Option jE) := [some (.iload_n 1, 1, 0, 0, 0), some (.tableswitch 61 1 4 #[31, 33, 55, 31], 32, 0, 0, 0), none, none, none, none, none, none, none, none, none, none, none, none, none, none, none, none, none, none, none, none, none, none, none, none, none, none, none, none, none, none, some (.iconst 1, 33, 0, 0, 0), some (.ireturn, 34, 0, 0, 0), some (.aload_n 0, 35, 0, 0, 0), some (.iload_n 3, 36, 0, 0, 0), some (.invokevirtual 144, 39, 94, 0, 889), none, none, some (.ifCond .ne 11, 42, 50, 0, 0), none, none, some (.aload_n 0, 43, 0, 0, 0), some (.getfield 141, 46, 6, 17, 719), none, none, some (.iconst 1, 47, 0, 0, 0), some (.if_icmp .ne 7, 50, 54, 0, 0), none, none, some (.iconst 1, 51, 0, 0, 0), some (.goto 4, 54, 55, 0, 0), none, none, some (.iconst 0, 55, 0, 0, 0), some (.ireturn, 56, 0, 0, 0), some (.aload_n 0, 57, 0, 0, 0), some (.iload_n 2, 58, 0, 0, 0), some (.invokevirtual 144, 61, 94, 0, 889), none, none, some (.ireturn, 62, 0, 0, 0), some (.aload_n 0, 63, 0, 0, 0), some (.iload_n 3, 64, 0, 0, 0), some (.invokevirtual 144, 67, 94, 0, 889), none, none, some (.ireturn, 68, 0, 0, 0)]
def jp_X9_maySpeak : List (Option jE) := [some (.aload_n 0, 1, 0, 0, 0), some (.iload_n 2, 2, 0, 0, 0), some (.invokevirtual 147, 5, 93, 0, 878), none, none, some (.aload_n 0, 6, 0, 0, 0), some (.aload_n 0, 7, 0, 0, 0), some (.getfield 13, 10, 6, 8, 710), none, none, some (.iload_n 1, 11, 0, 0, 0), some (.iaload, 12, 0, 0, 0), some (.aload_n 0, 13, 0, 0, 0), some (.getfield 16, 16, 6, 9, 711), none, none, some (.iload_n 1, 17, 0, 0, 0), some (.iaload, 18, 0, 0, 0), some (.aload_n 0, 19, 0, 0, 0), some (.getfield 19, 22, 6, 10, 712), none, none, some (.iload_n 1, 23, 0, 0, 0), some (.iaload, 24, 0, 0, 0), some (.invokevirtual 151, 27, 95, 0, 885), none, none, some (.ireturn, 28, 0, 0, 0)]
def jp_X9_speakers : List (Option jE) := [some (.iconst 0, 1, 0, 0, 0), some (.istore_n 2, 2, 0, 0, 0), some (.iconst 0, 3, 0, 0, 0), some (.istore_n 3, 4, 0, 0, 0), some (.iload_n 3, 5, 0, 0, 0), some (.aload_n 0, 6, 0, 0, 0), some (.getfield 113, 9, 6, 3, 705), none, none, some (.if_icmp .ge 28, 12, 37, 0, 0), none, none, some (.iload_n 2, 13, 0, 0, 0), some (.aload_n 0, 14, 0, 0, 0), some (.iload_n 3, 15, 0, 0, 0), some (.iload_n 1, 16, 0, 0, 0), some (.invokevirtual 155, 19, 96, 0, 874), none, none, some (.ifCond .eq 9, 22, 28, 0, 0), none, none, some (.iconst 1, 23, 0, 0, 0), some (.iload_n 3, 24, 0, 0, 0), some (.ishl, 25, 0, 0, 0), some (.goto 4, 28, 29, 0, 0), none, none, some (.iconst 0, 29, 0, 0, 0), some (.ior, 30, 0, 0, 0), some (.istore_n 2, 31, 0, 0, 0), some (.iinc 3 1, 34, 0, 0, 0), none, none, some (.goto (-30), 37, 4, 0, 0), none, none, some (.iload_n 2, 38, 0, 0, 0), some (.ireturn, 39, 0, 0, 0)]
def jp_X9_ones : List (Option jE) := [some (.iconst 0, 1, 0, 0, 0), some (.istore_n 1, 2, 0, 0, 0), some (.iconst 0, 3, 0, 0, 0), some (.istore_n 2, 4, 0, 0, 0), some (.iload_n 2, 5, 0, 0, 0), some (.bipush 12, 7, 0, 0, 0), none, some (.if_icmp .ge 17, 10, 24, 0, 0), none, none, some (.iload_n 1, 11, 0, 0, 0), some (.iload_n 0, 12, 0, 0, 0), some (.iload_n 2, 13, 0, 0, 0), some (.ishr, 14, 0, 0, 0), some (.iconst 1, 15, 0, 0, 0), some (.iand, 16, 0, 0, 0), some (.iadd, 17, 0, 0, 0), some (.istore_n 1, 18, 0, 0, 0), some (.iinc 2 1, 21, 0, 0, 0), none, none, some (.goto (-17), 24, 4, 0, 0), none, none, some (.iload_n 1, 25, 0, 0, 0), some (.ireturn, 26, 0, 0, 0)]
def jp_X9_begin : List (Option jE) := [some (.aload_n 0, 1, 0, 0, 0), some (.getfield 34, 4, 6, 15, 717), none, none, some (.aload_n 0, 5, 0, 0, 0), some (.getfield 40, 8, 6, 20, 722), none, none, some (.invokestatic 159, 11, 79, 0, 933), none, none, some (.aload_n 0, 12, 0, 0, 0), some (.getfield 37, 15, 6, 16, 718), none, none, some (.aload_n 0, 16, 0, 0, 0), some (.getfield 43, 19, 6, 21, 723), none, none, some (.invokestatic 159, 22, 79, 0, 933), none, none, some (.return_, 23, 0, 0, 0)]
def jp_X9_keep : List (Option jE) := [some (.aload_n 0, 1, 0, 0, 0), some (.getfield 40, 4, 6, 20, 722), none, none, some (.aload_n 0, 5, 0, 0, 0), some (.getfield 34, 8, 6, 15, 717), none, none, some (.invokestatic 159, 11, 79, 0, 933), none, none, some (.aload_n 0, 12, 0, 0, 0), some (.getfield 43, 15, 6, 21, 723), none, none, some (.aload_n 0, 16, 0, 0, 0), some (.getfield 37, 19, 6, 16, 718), none, none, some (.invokestatic 159, 22, 79, 0, 933), none, none, some (.return_, 23, 0, 0, 0)]
def jp_X9_valueOf : List (Option jE) := [some (.iload_n 2, 1, 0, 0, 0), some (.aload_n 0, 2, 0, 0, 0), some (.getfield 43, 5, 6, 21, 723), none, none, some (.iload_n 1, 6, 0, 0, 0), some (.iaload, 7, 0, 0, 0), some (.isub, 8, 0, 0, 0), some (.aload_n 0, 9, 0, 0, 0), some (.getfield 22, 12, 6, 11, 713), none, none, some (.aload_n 0, 13, 0, 0, 0), some (.getfield 25, 16, 6, 12, 714), none, none, some (.iload_n 1, 17, 0, 0, 0), some (.iaload, 18, 0, 0, 0), some (.iaload, 19, 0, 0, 0), some (.isub, 20, 0, 0, 0), some (.istore_n 3, 21, 0, 0, 0), some (.iload_n 3, 22, 0, 0, 0), some (.ifCond .le 14, 25, 36, 0, 0), none, none, some (.aload_n 0, 26, 0, 0, 0), some (.getfield 31, 29, 6, 14, 716), none, none, some (.iload_n 1, 30, 0, 0, 0), some (.iaload, 31, 0, 0, 0), some (.iload_n 3, 32, 0, 0, 0), some (.isub, 33, 0, 0, 0), some (.goto 9, 36, 42, 0, 0), none, none, some (.aload_n 0, 37, 0, 0, 0), some (.getfield 31, 40, 6, 14, 716), none, none, some (.iload_n 1, 41, 0, 0, 0), some (.iaload, 42, 0, 0, 0), some (.istore 4, 44, 0, 0, 0), none, some (.iload 4, 46, 0, 0, 0), none, some (.ifCond .le 8, 49, 54, 0, 0), none, none, some (.iload 4, 51, 0, 0, 0), none, some (.goto 4, 54, 55, 0, 0), none, none, some (.iconst 0, 55, 0, 0, 0), some (.istore 4, 57, 0, 0, 0), none, some (.aload_n 0, 58, 0, 0, 0), some (.getfield 13, 61, 6, 8, 710), none, none, some (.aload_n 0, 62, 0, 0, 0), some (.getfield 28, 65, 6, 13, 715), none, none, some (.iload_n 1, 66, 0, 0, 0), some (.iaload, 67, 0, 0, 0), some (.iaload, 68, 0, 0, 0), some (.istore 5, 70, 0, 0, 0), none, some (.iload 5, 72, 0, 0, 0), none, some (.iconst 1, 73, 0, 0, 0), some (.if_icmp .ne 8, 76, 81, 0, 0), none, none, some (.iload 4, 78, 0, 0, 0), none, some (.iconst 2, 79, 0, 0, 0), some (.idiv, 80, 0, 0, 0), some (.ireturn, 81, 0, 0, 0), some (.iload 5, 83, 0, 0, 0), none, some (.iconst 4, 84, 0, 0, 0), some (.if_icmp .ne 15, 87, 99, 0, 0), none, none, some (.iload 4, 89, 0, 0, 0), none, some (.ifCond .le 10, 92, 99, 0, 0), none, none, some (.iload 4, 94, 0, 0, 0), none, some (.iconst 1, 95, 0, 0, 0), some (.isub, 96, 0, 0, 0), some (.goto 5, 99, 101, 0, 0), none, none, some (.iload 4, 101, 0, 0, 0), none, some (.ireturn, 102, 0, 0, 0)]
def jp_X9_canThen : List (Option jE) := [some (.aload_n 0, 1, 0, 0, 0), some (.getfield 40, 4, 6, 20, 722), none, none, some (.iload_n 1, 5, 0, 0, 0), some (.iaload, 6, 0, 0, 0), some (.lookupswitch 68 #[(0, 26), (1, 38)], 32, 0, 0, 0), none, none, none, none, none, none, none, none, none, none, none, none, none, none, none, none, none, none, none, none, none, none, none, none, none, some (.aload_n 0, 33, 0, 0, 0), some (.aload_n 0, 34, 0, 0, 0), some (.getfield 25, 37, 6, 12, 714), none, none, some (.iload_n 1, 38, 0, 0, 0), some (.iaload, 39, 0, 0, 0), some (.iload_n 2, 40, 0, 0, 0), some (.invokevirtual 155, 43, 96, 0, 874), none, none, some (.ireturn, 44, 0, 0, 0), some (.iload_n 2, 45, 0, 0, 0), some (.aload_n 0, 46, 0, 0, 0), some (.getfield 43, 49, 6, 21, 723), none, none, some (.iload_n 1, 50, 0, 0, 0), some (.iaload, 51, 0, 0, 0), some (.if_icmp .le 21, 54, 72, 0, 0), none, none, some (.aload_n 0, 55, 0, 0, 0), some (.aload_n 0, 56, 0, 0, 0), some (.getfield 28, 59, 6, 13, 715), none, none, some (.iload_n 1, 60, 0, 0, 0), some (.iaload, 61, 0, 0, 0), some (.iload_n 2, 62, 0, 0, 0), some (.invokevirtual 155, 65, 96, 0, 874), none, none, some (.ifCond .eq 7, 68, 72, 0, 0), none, none, some (.iconst 1, 69, 0, 0, 0), some (.goto 4, 72, 73, 0, 0), none, none, some (.iconst 0, 73, 0, 0, 0), some (.ireturn, 74, 0, 0, 0), some (.iconst 0, 75, 0, 0, 0), some (.ireturn, 76, 0, 0, 0)]
def jp_X9_sayThen : List (Option jE) := [some (.aload_n 0, 1, 0, 0, 0), some (.getfield 40, 4, 6, 20, 722), none, none, some (.iload_n 1, 5, 0, 0, 0), some (.iaload, 6, 0, 0, 0), some (.ifCond .ne 19, 9, 25, 0, 0), none, none, some (.aload_n 0, 10, 0, 0, 0), some (.getfield 40, 13, 6, 20, 722), none, none, some (.iload_n 1, 14, 0, 0, 0), some (.iconst 1, 15, 0, 0, 0), some (.iastore, 16, 0, 0, 0), some (.aload_n 0, 17, 0, 0, 0), some (.getfield 43, 20, 6, 21, 723), none, none, some (.iload_n 1, 21, 0, 0, 0), some (.iload_n 2, 22, 0, 0, 0), some (.iastore, 23, 0, 0, 0), some (.iconst (-1), 24, 0, 0, 0), some (.ireturn, 25, 0, 0, 0), some (.aload_n 0, 26, 0, 0, 0), some (.getfield 40, 29, 6, 20, 722), none, none, some (.iload_n 1, 30, 0, 0, 0), some (.iconst 2, 31, 0, 0, 0), some (.iastore, 32, 0, 0, 0), some (.aload_n 0, 33, 0, 0, 0), some (.iload_n 1, 34, 0, 0, 0), some (.iload_n 2, 35, 0, 0, 0), some (.invokevirtual 163, 38, 101, 0, 940), none, none, some (.ireturn, 39, 0, 0, 0)]
def jp_X9_speakingDays : List (Option jE) := [some (.iconst 0, 1, 0, 0, 0), some (.istore_n 2, 2, 0, 0, 0), some (.iconst 0, 3, 0, 0, 0), some (.istore_n 3, 4, 0, 0, 0), some (.iload_n 3, 5, 0, 0, 0), some (.bipush 31, 7, 0, 0, 0), none, some (.if_icmp .ge 31, 10, 38, 0, 0), none, none, some (.iload_n 2, 11, 0, 0, 0), some (.aload_n 0, 12, 0, 0, 0), some (.iload_n 1, 13, 0, 0, 0), some (.aload_n 0, 14, 0, 0, 0), some (.getfield 119, 17, 6, 5, 707), none, none, some (.iload_n 3, 18, 0, 0, 0), some (.iadd, 19, 0, 0, 0), some (.invokevirtual 155, 22, 96, 0, 874), none, none, some (.ifCond .eq 7, 25, 29, 0, 0), none, none, some (.iconst 1, 26, 0, 0, 0), some (.goto 4, 29, 30, 0, 0), none, none, some (.iconst 0, 30, 0, 0, 0), some (.iadd, 31, 0, 0, 0), some (.istore_n 2, 32, 0, 0, 0), some (.iinc 3 1, 35, 0, 0, 0), none, none, some (.goto (-31), 38, 4, 0, 0), none, none, some (.iload_n 2, 39, 0, 0, 0), some (.ireturn, 40, 0, 0, 0)]
def jp_X9_tellPerson : List (Option jE) := [some (.iload_n 2, 1, 0, 0, 0), some (.tableswitch 111 0 7 #[47, 54, 61, 68, 75, 93, 99, 105], 48, 0, 0, 0), none, none, none, none, none, none, none, none, none, none, none, none, none, none, none, none, none, none, none, none, none, none, none, none, none, none, none, none, none, none, none, none, none, none, none, none, none, none, none, none, none, none, none, none, none, none, some (.aload_n 0, 49, 0, 0, 0), some (.getfield 13, 52, 6, 8, 710), none, none, some (.iload_n 1, 53, 0, 0, 0), some (.iaload, 54, 0, 0, 0), some (.ireturn, 55, 0, 0, 0), some (.aload_n 0, 56, 0, 0, 0), some (.getfield 16, 59, 6, 9, 711), none, none, some (.iload_n 1, 60, 0, 0, 0), some (.iaload, 61, 0, 0, 0), some (.ireturn, 62, 0, 0, 0), some (.aload_n 0, 63, 0, 0, 0), some (.getfield 19, 66, 6, 10, 712), none, none, some (.iload_n 1, 67, 0, 0, 0), some (.iaload, 68, 0, 0, 0), some (.ireturn, 69, 0, 0, 0), some (.aload_n 0, 70, 0, 0, 0), some (.getfield 22, 73, 6, 11, 713), none, none, some (.iload_n 1, 74, 0, 0, 0), some (.iaload, 75, 0, 0, 0), some (.ireturn, 76, 0, 0, 0), some (.aload_n 0, 77, 0, 0, 0), some (.iload_n 1, 78, 0, 0, 0), some (.aload_n 0, 79, 0, 0, 0), some (.getfield 119, 82, 6, 5, 707), none, none, some (.invokevirtual 155, 85, 96, 0, 874), none, none, some (.ifCond .eq 7, 88, 92, 0, 0), none, none, some (.iconst 1, 89, 0, 0, 0), some (.goto 4, 92, 93, 0, 0), none, none, some (.iconst 0, 93, 0, 0, 0), some (.ireturn, 94, 0, 0, 0), some (.aload_n 0, 95, 0, 0, 0), some (.iload_n 1, 96, 0, 0, 0), some (.invokevirtual 166, 99, 104, 0, 893), none, none, some (.ireturn, 100, 0, 0, 0), some (.aload_n 0, 101, 0, 0, 0), some (.iload_n 1, 102, 0, 0, 0), some (.invokevirtual 169, 105, 130, 0, 897), none, none, some (.ireturn, 106, 0, 0, 0), some (.aload_n 0, 107, 0, 0, 0), some (.iload_n 1, 108, 0, 0, 0), some (.invokevirtual 172, 111, 131, 0, 905), none, none, some (.ireturn, 112, 0, 0, 0), some (.bipush (-102), 114, 0, 0, 0), none, some (.ireturn, 115, 0, 0, 0)]
def jp_X9_person : List (Option jE) := [some (.aload_n 0, 1, 0, 0, 0), some (.iload_n 1, 2, 0, 0, 0), some (.invokevirtual 175, 5, 90, 0, 866), none, none, some (.ifCond .eq 12, 8, 17, 0, 0), none, none, some (.aload_n 0, 9, 0, 0, 0), some (.iload_n 1, 10, 0, 0, 0), some (.iload_n 2, 11, 0, 0, 0), some (.invokevirtual 178, 14, 105, 0, 870), none, none, some (.goto 5, 17, 19, 0, 0), none, none, some (.bipush (-101), 19, 0, 0, 0), none, some (.ireturn, 20, 0, 0, 0)]
def jp_X9_as : List (Option jE) := [some (.aload_n 0, 1, 0, 0, 0), some (.iload_n 1, 2, 0, 0, 0), some (.invokevirtual 175, 5, 90, 0, 866), none, none, some (.ifCond .ne 6, 8, 11, 0, 0), none, none, some (.bipush (-101), 10, 0, 0, 0), none, some (.ireturn, 11, 0, 0, 0), some (.iload_n 2, 12, 0, 0, 0), some (.i2l, 13, 0, 0, 0), some (.lconst 0, 14, 0, 0, 0), some (.ldc2_w 181, 17, 4, 0, 916), none, none, some (.invokestatic 79, 20, 78, 0, 825), none, none, some (.ifCond .ne 6, 23, 26, 0, 0), none, none, some (.bipush (-102), 25, 0, 0, 0), none, some (.ireturn, 26, 0, 0, 0), some (.iload_n 2, 27, 0, 0, 0), some (.ifCond .eq 28, 30, 55, 0, 0), none, none, some (.iload_n 2, 31, 0, 0, 0), some (.aload_n 0, 32, 0, 0, 0), some (.getfield 13, 35, 6, 8, 710), none, none, some (.iload_n 1, 36, 0, 0, 0), some (.iaload, 37, 0, 0, 0), some (.if_icmp .eq 18, 40, 55, 0, 0), none, none, some (.iload_n 2, 41, 0, 0, 0), some (.iconst 1, 42, 0, 0, 0), some (.if_icmp .ne 17, 45, 59, 0, 0), none, none, some (.aload_n 0, 46, 0, 0, 0), some (.getfield 13, 49, 6, 8, 710), none, none, some (.iload_n 1, 50, 0, 0, 0), some (.iaload, 51, 0, 0, 0), some (.iconst 4, 52, 0, 0, 0), some (.if_icmp .ne 7, 55, 59, 0, 0), none, none, some (.iconst 1, 56, 0, 0, 0), some (.goto 4, 59, 60, 0, 0), none, none, some (.iconst 0, 60, 0, 0, 0), some (.istore_n 3, 61, 0, 0, 0), some (.iload_n 3, 62, 0, 0, 0), some (.ifCond .eq 7, 65, 69, 0, 0), none, none, some (.iload_n 1, 66, 0, 0, 0), some (.goto 4, 69, 70, 0, 0), none, none, some (.iconst (-1), 70, 0, 0, 0), some (.ireturn, 71, 0, 0, 0)]
def jp_X9_soonOf : List (Option jE) := [some (.aload_n 0, 1, 0, 0, 0), some (.invokevirtual 183, 4, 99, 0, 929), none, none, some (.iconst 0, 5, 0, 0, 0), some (.istore_n 2, 6, 0, 0, 0), some (.iload_n 2, 7, 0, 0, 0), some (.bipush 71, 9, 0, 0, 0), none, some (.if_icmp .ge 47, 12, 56, 0, 0), none, none, some (.aload_n 0, 13, 0, 0, 0), some (.iload_n 1, 14, 0, 0, 0), some (.aload_n 0, 15, 0, 0, 0), some (.getfield 119, 18, 6, 5, 707), none, none, some (.iload_n 2, 19, 0, 0, 0), some (.iadd, 20, 0, 0, 0), some (.invokevirtual 186, 23, 102, 0, 936), none, none, some (.ifCond .eq 27, 26, 50, 0, 0), none, none, some (.aload_n 0, 27, 0, 0, 0), some (.iload_n 1, 28, 0, 0, 0), some (.aload_n 0, 29, 0, 0, 0), some (.getfield 119, 32, 6, 5, 707), none, none, some (.iload_n 2, 33, 0, 0, 0), some (.iadd, 34, 0, 0, 0), some (.invokevirtual 189, 37, 103, 0, 948), none, none, some (.pop, 38, 0, 0, 0), some (.aload_n 0, 39, 0, 0, 0), some (.getfield 40, 42, 6, 20, 722), none, none, some (.iload_n 1, 43, 0, 0, 0), some (.iaload, 44, 0, 0, 0), some (.iconst 2, 45, 0, 0, 0), some (.if_icmp .ne 5, 48, 50, 0, 0), none, none, some (.iload_n 2, 49, 0, 0, 0), some (.ireturn, 50, 0, 0, 0), some (.iinc 2 1, 53, 0, 0, 0), none, none, some (.goto (-47), 56, 6, 0, 0), none, none, some (.iconst (-1), 57, 0, 0, 0), some (.ireturn, 58, 0, 0, 0)]
def jp_X9_tellMatter : List (Option jE) := [some (.aload_n 0, 1, 0, 0, 0), some (.invokevirtual 183, 4, 99, 0, 929), none, none, some (.iload_n 2, 5, 0, 0, 0), some (.tableswitch 139 0 6 #[43, 50, 57, 64, 71, 97, 133], 48, 0, 0, 0), none, none, none, none, none, none, none, none, none, none, none, none, none, none, none, none, none, none, none, none, none, none, none, none, none, none, none, none, none, none, none, none, none, none, none, none, none, none, none, none, none, none, some (.aload_n 0, 49, 0, 0, 0), some (.getfield 25, 52, 6, 12, 714), none, none, some (.iload_n 1, 53, 0, 0, 0), some (.iaload, 54, 0, 0, 0), some (.ireturn, 55, 0, 0, 0), some (.aload_n 0, 56, 0, 0, 0), some (.getfield 28, 59, 6, 13, 715), none, none, some (.iload_n 1, 60, 0, 0, 0), some (.iaload, 61, 0, 0, 0), some (.ireturn, 62, 0, 0, 0), some (.aload_n 0, 63, 0, 0, 0), some (.getfield 31, 66, 6, 14, 716), none, none, some (.iload_n 1, 67, 0, 0, 0), some (.iaload, 68, 0, 0, 0), some (.ireturn, 69, 0, 0, 0), some (.aload_n 0, 70, 0, 0, 0), some (.getfield 34, 73, 6, 15, 717), none, none, some (.iload_n 1, 74, 0, 0, 0), some (.iaload, 75, 0, 0, 0), some (.ireturn, 76, 0, 0, 0), some (.aload_n 0, 77, 0, 0, 0), some (.getfield 34, 80, 6, 15, 717), none, none, some (.iload_n 1, 81, 0, 0, 0), some (.iaload, 82, 0, 0, 0), some (.iconst 1, 83, 0, 0, 0), some (.if_icmp .ne 17, 86, 100, 0, 0), none, none, some (.aload_n 0, 87, 0, 0, 0), some (.getfield 119, 90, 6, 5, 707), none, none, some (.aload_n 0, 91, 0, 0, 0), some (.getfield 37, 94, 6, 16, 718), none, none, some (.iload_n 1, 95, 0, 0, 0), some (.iaload, 96, 0, 0, 0), some (.isub, 97, 0, 0, 0), some (.goto 4, 100, 101, 0, 0), none, none, some (.iconst (-1), 101, 0, 0, 0), some (.ireturn, 102, 0, 0, 0), some (.aload_n 0, 103, 0, 0, 0), some (.getfield 34, 106, 6, 15, 717), none, none, some (.iload_n 1, 107, 0, 0, 0), some (.iaload, 108, 0, 0, 0), some (.iconst 1, 109, 0, 0, 0), some (.if_icmp .ne 27, 112, 136, 0, 0), none, none, some (.aload_n 0, 113, 0, 0, 0), some (.iload_n 1, 114, 0, 0, 0), some (.aload_n 0, 115, 0, 0, 0), some (.getfield 119, 118, 6, 5, 707), none, none, some (.invokevirtual 186, 121, 102, 0, 936), none, none, some (.ifCond .eq 15, 124, 136, 0, 0), none, none, some (.aload_n 0, 125, 0, 0, 0), some (.iload_n 1, 126, 0, 0, 0), some (.aload_n 0, 127, 0, 0, 0), some (.getfield 119, 130, 6, 5, 707), none, none, some (.invokevirtual 163, 133, 101, 0, 940), none, none, some (.goto 4, 136, 137, 0, 0), none, none, some (.iconst (-1), 137, 0, 0, 0), some (.ireturn, 138, 0, 0, 0), some (.aload_n 0, 139, 0, 0, 0), some (.iload_n 1, 140, 0, 0, 0), some (.invokevirtual 192, 143, 108, 0, 944), none, none, some (.ireturn, 144, 0, 0, 0), some (.bipush (-102), 146, 0, 0, 0), none, some (.ireturn, 147, 0, 0, 0)]
def jp_X9_matter : List (Option jE) := [some (.aload_n 0, 1, 0, 0, 0), some (.iload_n 1, 2, 0, 0, 0), some (.invokevirtual 195, 5, 91, 0, 921), none, none, some (.ifCond .eq 12, 8, 17, 0, 0), none, none, some (.aload_n 0, 9, 0, 0, 0), some (.iload_n 1, 10, 0, 0, 0), some (.iload_n 2, 11, 0, 0, 0), some (.invokevirtual 198, 14, 109, 0, 925), none, none, some (.goto 5, 17, 19, 0, 0), none, none, some (.bipush (-101), 19, 0, 0, 0), none, some (.ireturn, 20, 0, 0, 0)]
def jp_X9_tellDate : List (Option jE) := [some (.iload_n 2, 1, 0, 0, 0), some (.iconst 3, 2, 0, 0, 0), some (.if_icmp .ne 9, 5, 11, 0, 0), none, none, some (.aload_n 0, 6, 0, 0, 0), some (.iload_n 1, 7, 0, 0, 0), some (.invokevirtual 201, 10, 97, 0, 966), none, none, some (.ireturn, 11, 0, 0, 0), some (.aload_n 0, 12, 0, 0, 0), some (.iload_n 1, 13, 0, 0, 0), some (.invokevirtual 147, 16, 93, 0, 878), none, none, some (.iload_n 2, 17, 0, 0, 0), some (.ifCond .ne 10, 20, 27, 0, 0), none, none, some (.aload_n 0, 21, 0, 0, 0), some (.getfield 141, 24, 6, 17, 719), none, none, some (.goto 19, 27, 43, 0, 0), none, none, some (.iload_n 2, 28, 0, 0, 0), some (.iconst 1, 29, 0, 0, 0), some (.if_icmp .ne 10, 32, 39, 0, 0), none, none, some (.aload_n 0, 33, 0, 0, 0), some (.getfield 134, 36, 6, 18, 720), none, none, some (.goto 7, 39, 43, 0, 0), none, none, some (.aload_n 0, 40, 0, 0, 0), some (.getfield 131, 43, 6, 19, 721), none, none, some (.ireturn, 44, 0, 0, 0)]
def jp_X9_date : List (Option jE) := [some (.iload_n 1, 1, 0, 0, 0), some (.i2l, 2, 0, 0, 0), some (.lconst 0, 3, 0, 0, 0), some (.ldc2_w 204, 6, 366, 0, 956), none, none, some (.invokestatic 79, 9, 78, 0, 825), none, none, some (.ifCond .eq 15, 12, 24, 0, 0), none, none, some (.iload_n 2, 13, 0, 0, 0), some (.i2l, 14, 0, 0, 0), some (.lconst 0, 15, 0, 0, 0), some (.ldc2_w 206, 18, 3, 0, 957), none, none, some (.invokestatic 79, 21, 78, 0, 825), none, none, some (.ifCond .ne 6, 24, 27, 0, 0), none, none, some (.bipush (-102), 26, 0, 0, 0), none, some (.ireturn, 27, 0, 0, 0), some (.aload_n 0, 28, 0, 0, 0), some (.invokevirtual 208, 31, 89, 0, 958), none, none, some (.ifCond .eq 8, 34, 39, 0, 0), none, none, some (.bipush (-103), 36, 0, 0, 0), none, some (.goto 14, 39, 50, 0, 0), none, none, some (.aload_n 0, 40, 0, 0, 0), some (.aload_n 0, 41, 0, 0, 0), some (.getfield 119, 44, 6, 5, 707), none, none, some (.iload_n 1, 45, 0, 0, 0), some (.iadd, 46, 0, 0, 0), some (.iload_n 2, 47, 0, 0, 0), some (.invokevirtual 212, 50, 111, 0, 962), none, none, some (.ireturn, 51, 0, 0, 0)]
def jp_X9_say : List (Option jE) := [some (.aload_n 0, 1, 0, 0, 0), some (.iload_n 1, 2, 0, 0, 0), some (.invokevirtual 195, 5, 91, 0, 921), none, none, some (.ifCond .ne 6, 8, 11, 0, 0), none, none, some (.bipush (-101), 10, 0, 0, 0), none, some (.ireturn, 11, 0, 0, 0), some (.aload_n 0, 12, 0, 0, 0), some (.invokevirtual 183, 15, 99, 0, 929), none, none, some (.aload_n 0, 16, 0, 0, 0), some (.iload_n 1, 17, 0, 0, 0), some (.aload_n 0, 18, 0, 0, 0), some (.getfield 119, 21, 6, 5, 707), none, none, some (.invokevirtual 186, 24, 102, 0, 936), none, none, some (.ifCond .ne 6, 27, 30, 0, 0), none, none, some (.bipush (-103), 29, 0, 0, 0), none, some (.ireturn, 30, 0, 0, 0), some (.aload_n 0, 31, 0, 0, 0), some (.iload_n 1, 32, 0, 0, 0), some (.aload_n 0, 33, 0, 0, 0), some (.getfield 119, 36, 6, 5, 707), none, none, some (.invokevirtual 189, 39, 103, 0, 948), none, none, some (.istore_n 2, 40, 0, 0, 0), some (.aload_n 0, 41, 0, 0, 0), some (.invokevirtual 215, 44, 100, 0, 974), none, none, some (.aload_n 0, 45, 0, 0, 0), some (.dup, 46, 0, 0, 0), some (.getfield 122, 49, 6, 6, 708), none, none, some (.iload_n 2, 50, 0, 0, 0), some (.ifCond .le 7, 53, 57, 0, 0), none, none, some (.iload_n 2, 54, 0, 0, 0), some (.goto 4, 57, 58, 0, 0), none, none, some (.iconst 0, 58, 0, 0, 0), some (.iadd, 59, 0, 0, 0), some (.putfield 122, 62, 6, 6, 708), none, none, some (.iload_n 2, 63, 0, 0, 0), some (.ireturn, 64, 0, 0, 0)]
def jp_X9_day : List (Option jE) := [some (.aload_n 0, 1, 0, 0, 0), some (.invokevirtual 208, 4, 89, 0, 958), none, none, some (.ifCond .eq 6, 7, 10, 0, 0), none, none, some (.bipush (-103), 9, 0, 0, 0), none, some (.ireturn, 10, 0, 0, 0), some (.aload_n 0, 11, 0, 0, 0), some (.getfield 119, 14, 6, 5, 707), none, none, some (.sipush 1460, 17, 0, 0, 0), none, none, some (.if_icmp .ne 6, 20, 23, 0, 0), none, none, some (.bipush (-104), 22, 0, 0, 0), none, some (.ireturn, 23, 0, 0, 0), some (.aload_n 0, 24, 0, 0, 0), some (.dup, 25, 0, 0, 0), some (.getfield 119, 28, 6, 5, 707), none, none, some (.iconst 1, 29, 0, 0, 0), some (.iadd, 30, 0, 0, 0), some (.putfield 119, 33, 6, 5, 707), none, none, some (.aload_n 0, 34, 0, 0, 0), some (.getfield 119, 37, 6, 5, 707), none, none, some (.ireturn, 38, 0, 0, 0)]
def jp_X9_cross : List (Option jE) := [some (.aload_n 0, 1, 0, 0, 0), some (.iload_n 1, 2, 0, 0, 0), some (.invokevirtual 175, 5, 90, 0, 866), none, none, some (.ifCond .ne 6, 8, 11, 0, 0), none, none, some (.bipush (-101), 10, 0, 0, 0), none, some (.ireturn, 11, 0, 0, 0), some (.aload_n 0, 12, 0, 0, 0), some (.getfield 19, 15, 6, 10, 712), none, none, some (.iload_n 1, 16, 0, 0, 0), some (.iconst 1, 17, 0, 0, 0), some (.aload_n 0, 18, 0, 0, 0), some (.getfield 19, 21, 6, 10, 712), none, none, some (.iload_n 1, 22, 0, 0, 0), some (.iaload, 23, 0, 0, 0), some (.isub, 24, 0, 0, 0), some (.iastore, 25, 0, 0, 0), some (.iconst 0, 26, 0, 0, 0), some (.istore_n 2, 27, 0, 0, 0), some (.iconst 0, 28, 0, 0, 0), some (.istore_n 3, 29, 0, 0, 0), some (.iload_n 3, 30, 0, 0, 0), some (.aload_n 0, 31, 0, 0, 0), some (.getfield 116, 34, 6, 4, 706), none, none, some (.if_icmp .ge 39, 37, 73, 0, 0), none, none, some (.aload_n 0, 38, 0, 0, 0), some (.getfield 25, 41, 6, 12, 714), none, none, some (.iload_n 3, 42, 0, 0, 0), some (.iaload, 43, 0, 0, 0), some (.iload_n 1, 44, 0, 0, 0), some (.if_icmp .ne 23, 47, 67, 0, 0), none, none, some (.aload_n 0, 48, 0, 0, 0), some (.getfield 34, 51, 6, 15, 717), none, none, some (.iload_n 3, 52, 0, 0, 0), some (.iaload, 53, 0, 0, 0), some (.iconst 1, 54, 0, 0, 0), some (.if_icmp .ne 13, 57, 67, 0, 0), none, none, some (.aload_n 0, 58, 0, 0, 0), some (.getfield 34, 61, 6, 15, 717), none, none, some (.iload_n 3, 62, 0, 0, 0), some (.iconst 0, 63, 0, 0, 0), some (.iastore, 64, 0, 0, 0), some (.iinc 2 1, 67, 0, 0, 0), none, none, some (.iinc 3 1, 70, 0, 0, 0), none, none, some (.goto (-41), 73, 29, 0, 0), none, none, some (.iload_n 2, 74, 0, 0, 0), some (.ireturn, 75, 0, 0, 0)]
def jp_X9_open : List (Option jE) := [some (.aload_n 0, 1, 0, 0, 0), some (.iload_n 1, 2, 0, 0, 0), some (.invokevirtual 195, 5, 91, 0, 921), none, none, some (.ifCond .ne 6, 8, 11, 0, 0), none, none, some (.bipush (-101), 10, 0, 0, 0), none, some (.ireturn, 11, 0, 0, 0), some (.iload_n 2, 12, 0, 0, 0), some (.i2l, 13, 0, 0, 0), some (.lconst 1, 14, 0, 0, 0), some (.ldc2_w 218, 17, 9, 0, 990), none, none, some (.invokestatic 79, 20, 78, 0, 825), none, none, some (.ifCond .ne 6, 23, 26, 0, 0), none, none, some (.bipush (-102), 25, 0, 0, 0), none, some (.ireturn, 26, 0, 0, 0), some (.aload_n 0, 27, 0, 0, 0), some (.getfield 34, 30, 6, 15, 717), none, none, some (.iload_n 1, 31, 0, 0, 0), some (.iaload, 32, 0, 0, 0), some (.istore_n 3, 33, 0, 0, 0), some (.aload_n 0, 34, 0, 0, 0), some (.getfield 34, 37, 6, 15, 717), none, none, some (.iload_n 1, 38, 0, 0, 0), some (.iconst 0, 39, 0, 0, 0), some (.iastore, 40, 0, 0, 0), some (.aload_n 0, 41, 0, 0, 0), some (.getfield 31, 44, 6, 14, 716), none, none, some (.iload_n 1, 45, 0, 0, 0), some (.iload_n 2, 46, 0, 0, 0), some (.iastore, 47, 0, 0, 0), some (.iload_n 3, 48, 0, 0, 0), some (.ireturn, 49, 0, 0, 0)]
def jp_X9_change : List (Option jE) := [some (.aload_n 0, 1, 0, 0, 0), some (.iload_n 1, 2, 0, 0, 0), some (.invokevirtual 175, 5, 90, 0, 866), none, none, some (.ifCond .ne 6, 8, 11, 0, 0), none, none, some (.bipush (-101), 10, 0, 0, 0), none, some (.ireturn, 11, 0, 0, 0), some (.iload_n 2, 12, 0, 0, 0), some (.i2l, 13, 0, 0, 0), some (.lconst 0, 14, 0, 0, 0), some (.ldc2_w 181, 17, 4, 0, 916), none, none, some (.invokestatic 79, 20, 78, 0, 825), none, none, some (.ifCond .eq 15, 23, 35, 0, 0), none, none, some (.iload_n 3, 24, 0, 0, 0), some (.i2l, 25, 0, 0, 0), some (.lconst 0, 26, 0, 0, 0), some (.ldc2_w 218, 29, 9, 0, 990), none, none, some (.invokestatic 79, 32, 78, 0, 825), none, none, some (.ifCond .ne 6, 35, 38, 0, 0), none, none, some (.bipush (-102), 37, 0, 0, 0), none, some (.ireturn, 38, 0, 0, 0), some (.aload_n 0, 39, 0, 0, 0), some (.getfield 13, 42, 6, 8, 710), none, none, some (.iload_n 1, 43, 0, 0, 0), some (.iaload, 44, 0, 0, 0), some (.istore 4, 46, 0, 0, 0), none, some (.aload_n 0, 47, 0, 0, 0), some (.getfield 13, 50, 6, 8, 710), none, none, some (.iload_n 1, 51, 0, 0, 0), some (.iload_n 2, 52, 0, 0, 0), some (.iastore, 53, 0, 0, 0), some (.aload_n 0, 54, 0, 0, 0), some (.getfield 22, 57, 6, 11, 713), none, none, some (.iload_n 1, 58, 0, 0, 0), some (.iload_n 3, 59, 0, 0, 0), some (.iastore, 60, 0, 0, 0), some (.iload 4, 62, 0, 0, 0), none, some (.ireturn, 63, 0, 0, 0)]
def jp_X9_figure : List (Option jE) := [some (.iload_n 0, 1, 0, 0, 0), some (.iconst 3, 2, 0, 0, 0), some (.iload_n 1, 3, 0, 0, 0), some (.iconst 1, 4, 0, 0, 0), some (.isub, 5, 0, 0, 0), some (.iload_n 2, 6, 0, 0, 0), some (.isub, 7, 0, 0, 0), some (.imul, 8, 0, 0, 0), some (.ishr, 9, 0, 0, 0), some (.bipush 7, 11, 0, 0, 0), none, some (.iand, 12, 0, 0, 0), some (.ireturn, 13, 0, 0, 0)]
def jp_X9_worthBy : List (Option jE) := [some (.aload_n 0, 1, 0, 0, 0), some (.invokevirtual 183, 4, 99, 0, 929), none, none, some (.iconst 0, 5, 0, 0, 0), some (.istore_n 3, 6, 0, 0, 0), some (.iconst 0, 7, 0, 0, 0), some (.istore 4, 9, 0, 0, 0), none, some (.iload 4, 11, 0, 0, 0), none, some (.iload_n 2, 12, 0, 0, 0), some (.if_icmp .ge 95, 15, 107, 0, 0), none, none, some (.iload_n 1, 16, 0, 0, 0), some (.iload_n 2, 17, 0, 0, 0), some (.iload 4, 19, 0, 0, 0), none, some (.invokestatic 220, 22, 118, 0, 1010), none, none, some (.istore 5, 24, 0, 0, 0), none, some (.iload 5, 26, 0, 0, 0), none, some (.bipush 7, 28, 0, 0, 0), none, some (.if_icmp .ge 30, 31, 58, 0, 0), none, none, some (.iload 5, 33, 0, 0, 0), none, some (.aload_n 0, 34, 0, 0, 0), some (.getfield 116, 37, 6, 4, 706), none, none, some (.if_icmp .ge 19, 40, 56, 0, 0), none, none, some (.aload_n 0, 41, 0, 0, 0), some (.iload 5, 43, 0, 0, 0), none, some (.aload_n 0, 44, 0, 0, 0), some (.getfield 119, 47, 6, 5, 707), none, none, some (.iload 4, 49, 0, 0, 0), none, some (.iadd, 50, 0, 0, 0), some (.invokevirtual 186, 53, 102, 0, 936), none, none, some (.ifCond .ne 5, 56, 58, 0, 0), none, none, some (.iconst (-1), 57, 0, 0, 0), some (.ireturn, 58, 0, 0, 0), some (.iload 5, 60, 0, 0, 0), none, some (.bipush 7, 62, 0, 0, 0), none, some (.if_icmp .ge 39, 65, 101, 0, 0), none, none, some (.aload_n 0, 66, 0, 0, 0), some (.iload 5, 68, 0, 0, 0), none, some (.aload_n 0, 69, 0, 0, 0), some (.getfield 119, 72, 6, 5, 707), none, none, some (.iload 4, 74, 0, 0, 0), none, some (.iadd, 75, 0, 0, 0), some (.invokevirtual 189, 78, 103, 0, 948), none, none, some (.istore 6, 80, 0, 0, 0), none, some (.iload_n 3, 81, 0, 0, 0), some (.iload 6, 83, 0, 0, 0), none, some (.iconst (-1), 84, 0, 0, 0), some (.if_icmp .ne 7, 87, 91, 0, 0), none, none, some (.iconst 0, 88, 0, 0, 0), some (.goto 11, 91, 99, 0, 0), none, none, some (.bipush 100, 93, 0, 0, 0), none, some (.iload 6, 95, 0, 0, 0), none, some (.imul, 96, 0, 0, 0), some (.bipush 10, 98, 0, 0, 0), none, some (.iadd, 99, 0, 0, 0), some (.iadd, 100, 0, 0, 0), some (.istore_n 3, 101, 0, 0, 0), some (.iinc 4 1, 104, 0, 0, 0), none, none, some (.goto (-95), 107, 9, 0, 0), none, none, some (.iconst 0, 108, 0, 0, 0), some (.istore 4, 110, 0, 0, 0), none, some (.iload 4, 112, 0, 0, 0), none, some (.aload_n 0, 113, 0, 0, 0), some (.getfield 116, 116, 6, 4, 706), none, none, some (.if_icmp .ge 28, 119, 144, 0, 0), none, none, some (.iload_n 3, 120, 0, 0, 0), some (.aload_n 0, 121, 0, 0, 0), some (.getfield 40, 124, 6, 20, 722), none, none, some (.iload 4, 126, 0, 0, 0), none, some (.iaload, 127, 0, 0, 0), some (.iconst 1, 128, 0, 0, 0), some (.if_icmp .ne 7, 131, 135, 0, 0), none, none, some (.iconst 1, 132, 0, 0, 0), some (.goto 4, 135, 136, 0, 0), none, none, some (.iconst 0, 136, 0, 0, 0), some (.iadd, 137, 0, 0, 0), some (.istore_n 3, 138, 0, 0, 0), some (.iinc 4 1, 141, 0, 0, 0), none, none, some (.goto (-31), 144, 110, 0, 0), none, none, some (.iload_n 3, 145, 0, 0, 0), some (.ireturn, 146, 0, 0, 0)]
def jp_X9_bestOf : List (Option jE) := [some (.iconst 0, 1, 0, 0, 0), some (.istore_n 3, 2, 0, 0, 0), some (.iconst (-1), 3, 0, 0, 0), some (.istore 4, 5, 0, 0, 0), none, some (.iconst 0, 6, 0, 0, 0), some (.istore 5, 8, 0, 0, 0), none, some (.iload 5, 10, 0, 0, 0), none, some (.iconst 1, 11, 0, 0, 0), some (.iconst 3, 12, 0, 0, 0), some (.iload_n 1, 13, 0, 0, 0), some (.imul, 14, 0, 0, 0), some (.ishl, 15, 0, 0, 0), some (.if_icmp .ge 48, 18, 63, 0, 0), none, none, some (.aload_n 0, 19, 0, 0, 0), some (.iload 5, 21, 0, 0, 0), none, some (.iload_n 1, 22, 0, 0, 0), some (.invokevirtual 224, 25, 119, 0, 1006), none, none, some (.istore 6, 27, 0, 0, 0), none, some (.iload 6, 29, 0, 0, 0), none, some (.iload 4, 31, 0, 0, 0), none, some (.if_icmp .le 8, 34, 39, 0, 0), none, none, some (.iload 5, 36, 0, 0, 0), none, some (.goto 4, 39, 40, 0, 0), none, none, some (.iload_n 3, 40, 0, 0, 0), some (.istore_n 3, 41, 0, 0, 0), some (.iload 6, 43, 0, 0, 0), none, some (.iload 4, 45, 0, 0, 0), none, some (.if_icmp .le 8, 48, 53, 0, 0), none, none, some (.iload 6, 50, 0, 0, 0), none, some (.goto 5, 53, 55, 0, 0), none, none, some (.iload 4, 55, 0, 0, 0), none, some (.istore 4, 57, 0, 0, 0), none, some (.iinc 5 1, 60, 0, 0, 0), none, none, some (.goto (-52), 63, 8, 0, 0), none, none, some (.iload_n 2, 64, 0, 0, 0), some (.iconst 2, 65, 0, 0, 0), some (.if_icmp .ge 24, 68, 89, 0, 0), none, none, some (.iload_n 2, 69, 0, 0, 0), some (.ifCond .ne 11, 72, 80, 0, 0), none, none, some (.iload 4, 74, 0, 0, 0), none, some (.bipush 100, 76, 0, 0, 0), none, some (.idiv, 77, 0, 0, 0), some (.goto 11, 80, 88, 0, 0), none, none, some (.iload 4, 82, 0, 0, 0), none, some (.bipush 10, 84, 0, 0, 0), none, some (.idiv, 85, 0, 0, 0), some (.bipush 10, 87, 0, 0, 0), none, some (.irem, 88, 0, 0, 0), some (.ireturn, 89, 0, 0, 0), some (.iload_n 2, 90, 0, 0, 0), some (.bipush 10, 92, 0, 0, 0), none, some (.isub, 93, 0, 0, 0), some (.iload_n 1, 94, 0, 0, 0), some (.if_icmp .ge 15, 97, 109, 0, 0), none, none, some (.iload_n 3, 98, 0, 0, 0), some (.iload_n 1, 99, 0, 0, 0), some (.iload_n 2, 100, 0, 0, 0), some (.bipush 10, 102, 0, 0, 0), none, some (.isub, 103, 0, 0, 0), some (.invokestatic 220, 106, 118, 0, 1010), none, none, some (.goto 4, 109, 110, 0, 0), none, none, some (.iconst (-1), 110, 0, 0, 0), some (.ireturn, 111, 0, 0, 0)]
def jp_X9_best : List (Option jE) := [some (.iload_n 1, 1, 0, 0, 0), some (.i2l, 2, 0, 0, 0), some (.lconst 1, 3, 0, 0, 0), some (.ldc2_w 227, 6, 5, 0, 999), none, none, some (.invokestatic 79, 9, 78, 0, 825), none, none, some (.ifCond .eq 27, 12, 36, 0, 0), none, none, some (.iload_n 2, 13, 0, 0, 0), some (.i2l, 14, 0, 0, 0), some (.lconst 0, 15, 0, 0, 0), some (.lconst 1, 16, 0, 0, 0), some (.invokestatic 79, 19, 78, 0, 825), none, none, some (.ifCond .ne 20, 22, 39, 0, 0), none, none, some (.iload_n 2, 23, 0, 0, 0), some (.i2l, 24, 0, 0, 0), some (.ldc2_w 229, 27, 10, 0, 1000), none, none, some (.ldc2_w 231, 30, 14, 0, 1001), none, none, some (.invokestatic 79, 33, 78, 0, 825), none, none, some (.ifCond .ne 6, 36, 39, 0, 0), none, none, some (.bipush (-102), 38, 0, 0, 0), none, some (.ireturn, 39, 0, 0, 0), some (.aload_n 0, 40, 0, 0, 0), some (.invokevirtual 208, 43, 89, 0, 958), none, none, some (.ifCond .ne 12, 46, 55, 0, 0), none, none, some (.aload_n 0, 47, 0, 0, 0), some (.getfield 233, 50, 6, 22, 724), none, none, some (.bipush 20, 52, 0, 0, 0), none, some (.if_icmp .ne 6, 55, 58, 0, 0), none, none, some (.bipush (-103), 57, 0, 0, 0), none, some (.ireturn, 58, 0, 0, 0), some (.aload_n 0, 59, 0, 0, 0), some (.dup, 60, 0, 0, 0), some (.getfield 233, 63, 6, 22, 724), none, none, some (.iconst 1, 64, 0, 0, 0), some (.iadd, 65, 0, 0, 0), some (.putfield 233, 68, 6, 22, 724), none, none, some (.aload_n 0, 69, 0, 0, 0), some (.iload_n 1, 70, 0, 0, 0), some (.iload_n 2, 71, 0, 0, 0), some (.invokevirtual 236, 74, 120, 0, 1002), none, none, some (.ireturn, 75, 0, 0, 0)]
def jp_X9_settledBy : List (Option jE) := [some (.iconst 0, 1, 0, 0, 0), some (.istore_n 2, 2, 0, 0, 0), some (.iload_n 2, 3, 0, 0, 0), some (.aload_n 0, 4, 0, 0, 0), some (.getfield 113, 7, 6, 3, 705), none, none, some (.if_icmp .ge 20, 10, 27, 0, 0), none, none, some (.aload_n 0, 11, 0, 0, 0), some (.getfield 19, 14, 6, 10, 712), none, none, some (.iload_n 2, 15, 0, 0, 0), some (.iload_n 1, 16, 0, 0, 0), some (.iload_n 2, 17, 0, 0, 0), some (.ishr, 18, 0, 0, 0), some (.iconst 1, 19, 0, 0, 0), some (.iand, 20, 0, 0, 0), some (.iastore, 21, 0, 0, 0), some (.iinc 2 1, 24, 0, 0, 0), none, none, some (.goto (-22), 27, 2, 0, 0), none, none, some (.iconst 0, 28, 0, 0, 0), some (.istore_n 2, 29, 0, 0, 0), some (.iconst 0, 30, 0, 0, 0), some (.istore_n 3, 31, 0, 0, 0), some (.iload_n 3, 32, 0, 0, 0), some (.aload_n 0, 33, 0, 0, 0), some (.getfield 116, 36, 6, 4, 706), none, none, some (.if_icmp .ge 62, 39, 98, 0, 0), none, none, some (.iload_n 2, 40, 0, 0, 0), some (.aload_n 0, 41, 0, 0, 0), some (.getfield 34, 44, 6, 15, 717), none, none, some (.iload_n 3, 45, 0, 0, 0), some (.iaload, 46, 0, 0, 0), some (.ifCond .ne 43, 49, 89, 0, 0), none, none, some (.aload_n 0, 50, 0, 0, 0), some (.aload_n 0, 51, 0, 0, 0), some (.getfield 25, 54, 6, 12, 714), none, none, some (.iload_n 3, 55, 0, 0, 0), some (.iaload, 56, 0, 0, 0), some (.aload_n 0, 57, 0, 0, 0), some (.getfield 119, 60, 6, 5, 707), none, none, some (.invokevirtual 155, 63, 96, 0, 874), none, none, some (.ifCond .eq 26, 66, 89, 0, 0), none, none, some (.aload_n 0, 67, 0, 0, 0), some (.aload_n 0, 68, 0, 0, 0), some (.getfield 28, 71, 6, 13, 715), none, none, some (.iload_n 3, 72, 0, 0, 0), some (.iaload, 73, 0, 0, 0), some (.aload_n 0, 74, 0, 0, 0), some (.getfield 119, 77, 6, 5, 707), none, none, some (.iconst 1, 78, 0, 0, 0), some (.iadd, 79, 0, 0, 0), some (.invokevirtual 155, 82, 96, 0, 874), none, none, some (.ifCond .eq 7, 85, 89, 0, 0), none, none, some (.iconst 1, 86, 0, 0, 0), some (.goto 4, 89, 90, 0, 0), none, none, some (.iconst 0, 90, 0, 0, 0), some (.iadd, 91, 0, 0, 0), some (.istore_n 2, 92, 0, 0, 0), some (.iinc 3 1, 95, 0, 0, 0), none, none, some (.goto (-64), 98, 31, 0, 0), none, none, some (.iload_n 2, 99, 0, 0, 0), some (.ireturn, 100, 0, 0, 0)]
def jp_X9_liveOf : List (Option jE) := [some (.aload_n 0, 1, 0, 0, 0), some (.getfield 19, 4, 6, 10, 712), none, none, some (.aload_n 0, 5, 0, 0, 0), some (.getfield 46, 8, 6, 23, 725), none, none, some (.invokestatic 159, 11, 79, 0, 933), none, none, some (.iconst 0, 12, 0, 0, 0), some (.istore_n 2, 13, 0, 0, 0), some (.iconst 0, 14, 0, 0, 0), some (.istore_n 3, 15, 0, 0, 0), some (.iload_n 3, 16, 0, 0, 0), some (.aload_n 0, 17, 0, 0, 0), some (.getfield 113, 20, 6, 3, 705), none, none, some (.if_icmp .ge 20, 23, 40, 0, 0), none, none, some (.iload_n 2, 24, 0, 0, 0), some (.aload_n 0, 25, 0, 0, 0), some (.getfield 19, 28, 6, 10, 712), none, none, some (.iload_n 3, 29, 0, 0, 0), some (.iaload, 30, 0, 0, 0), some (.iload_n 3, 31, 0, 0, 0), some (.ishl, 32, 0, 0, 0), some (.ior, 33, 0, 0, 0), some (.istore_n 2, 34, 0, 0, 0), some (.iinc 3 1, 37, 0, 0, 0), none, none, some (.goto (-22), 40, 15, 0, 0), none, none, some (.iconst 0, 41, 0, 0, 0), some (.istore_n 3, 42, 0, 0, 0), some (.iconst (-1), 43, 0, 0, 0), some (.istore 4, 45, 0, 0, 0), none, some (.iconst 0, 46, 0, 0, 0), some (.istore 5, 48, 0, 0, 0), none, some (.iload 5, 50, 0, 0, 0), none, some (.iconst 1, 51, 0, 0, 0), some (.aload_n 0, 52, 0, 0, 0), some (.getfield 113, 55, 6, 3, 705), none, none, some (.ishl, 56, 0, 0, 0), some (.if_icmp .ge 61, 59, 117, 0, 0), none, none, some (.bipush 10, 61, 0, 0, 0), none, some (.aload_n 0, 62, 0, 0, 0), some (.iload 5, 64, 0, 0, 0), none, some (.invokevirtual 239, 67, 122, 0, 1021), none, none, some (.imul, 68, 0, 0, 0), some (.bipush 6, 70, 0, 0, 0), none, some (.iadd, 71, 0, 0, 0), some (.iload 5, 73, 0, 0, 0), none, some (.iload_n 2, 74, 0, 0, 0), some (.ixor, 75, 0, 0, 0), some (.invokestatic 242, 78, 98, 0, 909), none, none, some (.isub, 79, 0, 0, 0), some (.istore 6, 81, 0, 0, 0), none, some (.iload 6, 83, 0, 0, 0), none, some (.iload 4, 85, 0, 0, 0), none, some (.if_icmp .le 8, 88, 93, 0, 0), none, none, some (.iload 5, 90, 0, 0, 0), none, some (.goto 4, 93, 94, 0, 0), none, none, some (.iload_n 3, 94, 0, 0, 0), some (.istore_n 3, 95, 0, 0, 0), some (.iload 6, 97, 0, 0, 0), none, some (.iload 4, 99, 0, 0, 0), none, some (.if_icmp .le 8, 102, 107, 0, 0), none, none, some (.iload 6, 104, 0, 0, 0), none, some (.goto 5, 107, 109, 0, 0), none, none, some (.iload 4, 109, 0, 0, 0), none, some (.istore 4, 111, 0, 0, 0), none, some (.iinc 5 1, 114, 0, 0, 0), none, none, some (.goto (-66), 117, 48, 0, 0), none, none, some (.aload_n 0, 118, 0, 0, 0), some (.getfield 46, 121, 6, 23, 725), none, none, some (.aload_n 0, 122, 0, 0, 0), some (.getfield 19, 125, 6, 10, 712), none, none, some (.invokestatic 159, 128, 79, 0, 933), none, none, some (.iload_n 1, 129, 0, 0, 0), some (.ifCond .ne 11, 132, 140, 0, 0), none, none, some (.iload 4, 134, 0, 0, 0), none, some (.bipush 10, 136, 0, 0, 0), none, some (.idiv, 137, 0, 0, 0), some (.goto 4, 140, 141, 0, 0), none, none, some (.iload_n 3, 141, 0, 0, 0), some (.ireturn, 142, 0, 0, 0)]
def jp_X9_live : List (Option jE) := [some (.iload_n 1, 1, 0, 0, 0), some (.i2l, 2, 0, 0, 0), some (.lconst 0, 3, 0, 0, 0), some (.lconst 1, 4, 0, 0, 0), some (.invokestatic 79, 7, 78, 0, 825), none, none, some (.ifCond .ne 6, 10, 13, 0, 0), none, none, some (.bipush (-102), 12, 0, 0, 0), none, some (.ireturn, 13, 0, 0, 0), some (.aload_n 0, 14, 0, 0, 0), some (.invokevirtual 208, 17, 89, 0, 958), none, none, some (.ifCond .eq 8, 20, 25, 0, 0), none, none, some (.bipush (-103), 22, 0, 0, 0), none, some (.goto 8, 25, 30, 0, 0), none, none, some (.aload_n 0, 26, 0, 0, 0), some (.iload_n 1, 27, 0, 0, 0), some (.invokevirtual 245, 30, 123, 0, 1017), none, none, some (.ireturn, 31, 0, 0, 0)]
def jp_X9_fogOf : List (Option jE) := [some (.iconst 0, 1, 0, 0, 0), some (.istore 5, 3, 0, 0, 0), none, some (.iconst 1, 4, 0, 0, 0), some (.istore 6, 6, 0, 0, 0), none, some (.iconst 0, 7, 0, 0, 0), some (.istore 7, 9, 0, 0, 0), none, some (.iload 7, 11, 0, 0, 0), none, some (.iload_n 2, 12, 0, 0, 0), some (.if_icmp .ge 16, 15, 28, 0, 0), none, none, some (.iload 6, 17, 0, 0, 0), none, some (.bipush 10, 19, 0, 0, 0), none, some (.imul, 20, 0, 0, 0), some (.istore 6, 22, 0, 0, 0), none, some (.iinc 7 1, 25, 0, 0, 0), none, none, some (.goto (-16), 28, 9, 0, 0), none, none, some (.iconst 0, 29, 0, 0, 0), some (.istore 7, 31, 0, 0, 0), none, some (.iload 7, 33, 0, 0, 0), none, some (.iconst 1, 34, 0, 0, 0), some (.iload_n 2, 35, 0, 0, 0), some (.ishl, 36, 0, 0, 0), some (.if_icmp .ge 121, 39, 157, 0, 0), none, none, some (.aload_n 0, 40, 0, 0, 0), some (.invokevirtual 183, 43, 99, 0, 929), none, none, some (.iconst 1, 44, 0, 0, 0), some (.istore 8, 46, 0, 0, 0), none, some (.iconst 0, 47, 0, 0, 0), some (.istore 9, 49, 0, 0, 0), none, some (.iload 9, 51, 0, 0, 0), none, some (.iload_n 2, 52, 0, 0, 0), some (.if_icmp .ge 78, 55, 130, 0, 0), none, none, some (.iload 7, 57, 0, 0, 0), none, some (.iload 9, 59, 0, 0, 0), none, some (.ishr, 60, 0, 0, 0), some (.iconst 1, 61, 0, 0, 0), some (.iand, 62, 0, 0, 0), some (.iconst 1, 63, 0, 0, 0), some (.if_icmp .ne 7, 66, 70, 0, 0), none, none, some (.iconst 1, 67, 0, 0, 0), some (.goto 4, 70, 71, 0, 0), none, none, some (.iconst 0, 71, 0, 0, 0), some (.istore 10, 73, 0, 0, 0), none, some (.iload 8, 75, 0, 0, 0), none, some (.iload 10, 77, 0, 0, 0), none, some (.ifCond .eq 7, 80, 84, 0, 0), none, none, some (.iload_n 3, 81, 0, 0, 0), some (.goto 7, 84, 88, 0, 0), none, none, some (.bipush 10, 86, 0, 0, 0), none, some (.iload_n 3, 87, 0, 0, 0), some (.isub, 88, 0, 0, 0), some (.imul, 89, 0, 0, 0), some (.istore 8, 91, 0, 0, 0), none, some (.iload 10, 93, 0, 0, 0), none, some (.ifCond .ne 31, 96, 124, 0, 0), none, none, some (.aload_n 0, 97, 0, 0, 0), some (.iload_n 1, 98, 0, 0, 0), some (.aload_n 0, 99, 0, 0, 0), some (.getfield 119, 102, 6, 5, 707), none, none, some (.iload 9, 104, 0, 0, 0), none, some (.iadd, 105, 0, 0, 0), some (.invokevirtual 186, 108, 102, 0, 936), none, none, some (.ifCond .eq 16, 111, 124, 0, 0), none, none, some (.aload_n 0, 112, 0, 0, 0), some (.iload_n 1, 113, 0, 0, 0), some (.aload_n 0, 114, 0, 0, 0), some (.getfield 119, 117, 6, 5, 707), none, none, some (.iload 9, 119, 0, 0, 0), none, some (.iadd, 120, 0, 0, 0), some (.invokevirtual 189, 123, 103, 0, 948), none, none, some (.pop, 124, 0, 0, 0), some (.iinc 9 1, 127, 0, 0, 0), none, none, some (.goto (-78), 130, 49, 0, 0), none, none, some (.iload 5, 132, 0, 0, 0), none, some (.aload_n 0, 133, 0, 0, 0), some (.getfield 40, 136, 6, 20, 722), none, none, some (.iload_n 1, 137, 0, 0, 0), some (.iaload, 138, 0, 0, 0), some (.iconst 2, 139, 0, 0, 0), some (.if_icmp .ne 8, 142, 147, 0, 0), none, none, some (.iload 8, 144, 0, 0, 0), none, some (.goto 4, 147, 148, 0, 0), none, none, some (.iconst 0, 148, 0, 0, 0), some (.iadd, 149, 0, 0, 0), some (.istore 5, 151, 0, 0, 0), none, some (.iinc 7 1, 154, 0, 0, 0), none, none, some (.goto (-123), 157, 31, 0, 0), none, none, some (.iload 6, 159, 0, 0, 0), none, some (.istore 7, 161, 0, 0, 0), none, some (.iload 5, 163, 0, 0, 0), none, some (.istore 8, 165, 0, 0, 0), none, some (.iload 8, 167, 0, 0, 0), none, some (.ifCond .le 21, 170, 188, 0, 0), none, none, some (.iload 7, 172, 0, 0, 0), none, some (.iload 8, 174, 0, 0, 0), none, some (.irem, 175, 0, 0, 0), some (.istore 9, 177, 0, 0, 0), none, some (.iload 8, 179, 0, 0, 0), none, some (.istore 7, 181, 0, 0, 0), none, some (.iload 9, 183, 0, 0, 0), none, some (.istore 8, 185, 0, 0, 0), none, some (.goto (-20), 188, 165, 0, 0), none, none, some (.iload 4, 190, 0, 0, 0), none, some (.ifCond .ne 11, 193, 201, 0, 0), none, none, some (.iload 5, 195, 0, 0, 0), none, some (.iload 7, 197, 0, 0, 0), none, some (.idiv, 198, 0, 0, 0), some (.goto 8, 201, 206, 0, 0), none, none, some (.iload 6, 203, 0, 0, 0), none, some (.iload 7, 205, 0, 0, 0), none, some (.idiv, 206, 0, 0, 0), some (.ireturn, 207, 0, 0, 0)]
def jp_X9_fog : List (Option jE) := [some (.aload_n 0, 1, 0, 0, 0), some (.iload_n 1, 2, 0, 0, 0), some (.invokevirtual 195, 5, 91, 0, 921), none, none, some (.ifCond .ne 6, 8, 11, 0, 0), none, none, some (.bipush (-101), 10, 0, 0, 0), none, some (.ireturn, 11, 0, 0, 0), some (.iload_n 2, 12, 0, 0, 0), some (.i2l, 13, 0, 0, 0), some (.lconst 1, 14, 0, 0, 0), some (.ldc2_w 248, 17, 8, 0, 1029), none, none, some (.invokestatic 79, 20, 78, 0, 825), none, none, some (.ifCond .eq 26, 23, 46, 0, 0), none, none, some (.iload_n 3, 24, 0, 0, 0), some (.i2l, 25, 0, 0, 0), some (.lconst 0, 26, 0, 0, 0), some (.ldc2_w 229, 29, 10, 0, 1000), none, none, some (.invokestatic 79, 32, 78, 0, 825), none, none, some (.ifCond .eq 14, 35, 46, 0, 0), none, none, some (.iload 4, 37, 0, 0, 0), none, some (.i2l, 38, 0, 0, 0), some (.lconst 0, 39, 0, 0, 0), some (.lconst 1, 40, 0, 0, 0), some (.invokestatic 79, 43, 78, 0, 825), none, none, some (.ifCond .ne 6, 46, 49, 0, 0), none, none, some (.bipush (-102), 48, 0, 0, 0), none, some (.ireturn, 49, 0, 0, 0), some (.aload_n 0, 50, 0, 0, 0), some (.getfield 34, 53, 6, 15, 717), none, none, some (.iload_n 1, 54, 0, 0, 0), some (.iaload, 55, 0, 0, 0), some (.iconst 2, 56, 0, 0, 0), some (.if_icmp .ne 8, 59, 64, 0, 0), none, none, some (.bipush (-103), 61, 0, 0, 0), none, some (.goto 12, 64, 73, 0, 0), none, none, some (.aload_n 0, 65, 0, 0, 0), some (.iload_n 1, 66, 0, 0, 0), some (.iload_n 2, 67, 0, 0, 0), some (.iload_n 3, 68, 0, 0, 0), some (.iload 4, 70, 0, 0, 0), none, some (.invokevirtual 250, 73, 125, 0, 1030), none, none, some (.ireturn, 74, 0, 0, 0)]
def jp_X9_see : List (Option jE) := [some (.aload_n 0, 1, 0, 0, 0), some (.iload_n 1, 2, 0, 0, 0), some (.invokevirtual 175, 5, 90, 0, 866), none, none, some (.ifCond .ne 6, 8, 11, 0, 0), none, none, some (.bipush (-101), 10, 0, 0, 0), none, some (.ireturn, 11, 0, 0, 0), some (.iload_n 2, 12, 0, 0, 0), some (.i2l, 13, 0, 0, 0), some (.lconst 0, 14, 0, 0, 0), some (.ldc2_w 254, 17, 31, 0, 1038), none, none, some (.invokestatic 79, 20, 78, 0, 825), none, none, some (.ifCond .ne 6, 23, 26, 0, 0), none, none, some (.bipush (-102), 25, 0, 0, 0), none, some (.ireturn, 26, 0, 0, 0), some (.aload_n 0, 27, 0, 0, 0), some (.getfield 125, 30, 6, 24, 726), none, none, some (.bipush 6, 32, 0, 0, 0), none, some (.if_icmp .ne 6, 35, 38, 0, 0), none, none, some (.bipush (-104), 37, 0, 0, 0), none, some (.ireturn, 38, 0, 0, 0), some (.aload_n 0, 39, 0, 0, 0), some (.getfield 49, 42, 6, 25, 727), none, none, some (.iconst 3, 43, 0, 0, 0), some (.aload_n 0, 44, 0, 0, 0), some (.getfield 125, 47, 6, 24, 726), none, none, some (.imul, 48, 0, 0, 0), some (.iload_n 1, 49, 0, 0, 0), some (.iastore, 50, 0, 0, 0), some (.aload_n 0, 51, 0, 0, 0), some (.getfield 49, 54, 6, 25, 727), none, none, some (.iconst 3, 55, 0, 0, 0), some (.aload_n 0, 56, 0, 0, 0), some (.getfield 125, 59, 6, 24, 726), none, none, some (.imul, 60, 0, 0, 0), some (.iconst 1, 61, 0, 0, 0), some (.iadd, 62, 0, 0, 0), some (.iload_n 2, 63, 0, 0, 0), some (.iastore, 64, 0, 0, 0), some (.aload_n 0, 65, 0, 0, 0), some (.getfield 49, 68, 6, 25, 727), none, none, some (.iconst 3, 69, 0, 0, 0), some (.aload_n 0, 70, 0, 0, 0), some (.getfield 125, 73, 6, 24, 726), none, none, some (.imul, 74, 0, 0, 0), some (.iconst 2, 75, 0, 0, 0), some (.iadd, 76, 0, 0, 0), some (.iload_n 3, 77, 0, 0, 0), some (.ifCond .eq 7, 80, 84, 0, 0), none, none, some (.iconst 1, 81, 0, 0, 0), some (.goto 4, 84, 85, 0, 0), none, none, some (.iconst 0, 85, 0, 0, 0), some (.iastore, 86, 0, 0, 0), some (.aload_n 0, 87, 0, 0, 0), some (.dup, 88, 0, 0, 0), some (.getfield 125, 91, 6, 24, 726), none, none, some (.iconst 1, 92, 0, 0, 0), some (.iadd, 93, 0, 0, 0), some (.putfield 125, 96, 6, 24, 726), none, none, some (.aload_n 0, 97, 0, 0, 0), some (.getfield 125, 100, 6, 24, 726), none, none, some (.ireturn, 101, 0, 0, 0)]
def jp_X9_forget : List (Option jE) := [some (.aload_n 0, 1, 0, 0, 0), some (.getfield 125, 4, 6, 24, 726), none, none, some (.istore_n 1, 5, 0, 0, 0), some (.aload_n 0, 6, 0, 0, 0), some (.iconst 0, 7, 0, 0, 0), some (.putfield 125, 10, 6, 24, 726), none, none, some (.iload_n 1, 11, 0, 0, 0), some (.ireturn, 12, 0, 0, 0)]
def jp_X9_speakingSorts : List (Option jE) := [some (.aload_n 0, 1, 0, 0, 0), some (.aload_n 0, 2, 0, 0, 0), some (.getfield 119, 5, 6, 5, 707), none, none, some (.iload_n 2, 6, 0, 0, 0), some (.iadd, 7, 0, 0, 0), some (.invokevirtual 147, 10, 93, 0, 878), none, none, some (.iconst 0, 11, 0, 0, 0), some (.istore_n 3, 12, 0, 0, 0), some (.iconst 0, 13, 0, 0, 0), some (.istore 4, 15, 0, 0, 0), none, some (.iload 4, 17, 0, 0, 0), none, some (.bipush 10, 19, 0, 0, 0), none, some (.if_icmp .ge 41, 22, 60, 0, 0), none, none, some (.iload_n 3, 23, 0, 0, 0), some (.aload_n 0, 24, 0, 0, 0), some (.iload 4, 26, 0, 0, 0), none, some (.iconst 5, 27, 0, 0, 0), some (.irem, 28, 0, 0, 0), some (.iload 4, 30, 0, 0, 0), none, some (.iconst 5, 31, 0, 0, 0), some (.idiv, 32, 0, 0, 0), some (.aload_n 0, 33, 0, 0, 0), some (.getfield 19, 36, 6, 10, 712), none, none, some (.iload_n 1, 37, 0, 0, 0), some (.iaload, 38, 0, 0, 0), some (.invokevirtual 151, 41, 95, 0, 885), none, none, some (.ifCond .eq 10, 44, 51, 0, 0), none, none, some (.iconst 1, 45, 0, 0, 0), some (.iload 4, 47, 0, 0, 0), none, some (.ishl, 48, 0, 0, 0), some (.goto 4, 51, 52, 0, 0), none, none, some (.iconst 0, 52, 0, 0, 0), some (.ior, 53, 0, 0, 0), some (.istore_n 3, 54, 0, 0, 0), some (.iinc 4 1, 57, 0, 0, 0), none, none, some (.goto (-42), 60, 15, 0, 0), none, none, some (.iload_n 3, 61, 0, 0, 0), some (.ireturn, 62, 0, 0, 0)]
def jp_X9_sortsOf : List (Option jE) := [some (.sipush 1023, 3, 0, 0, 0), none, none, some (.istore_n 2, 4, 0, 0, 0), some (.iconst 0, 5, 0, 0, 0), some (.istore_n 3, 6, 0, 0, 0), some (.iload_n 3, 7, 0, 0, 0), some (.iconst 3, 8, 0, 0, 0), some (.aload_n 0, 9, 0, 0, 0), some (.getfield 125, 12, 6, 24, 726), none, none, some (.imul, 13, 0, 0, 0), some (.if_icmp .ge 60, 16, 73, 0, 0), none, none, some (.aload_n 0, 17, 0, 0, 0), some (.iload_n 1, 18, 0, 0, 0), some (.aload_n 0, 19, 0, 0, 0), some (.getfield 49, 22, 6, 25, 727), none, none, some (.iload_n 3, 23, 0, 0, 0), some (.iconst 1, 24, 0, 0, 0), some (.iadd, 25, 0, 0, 0), some (.iaload, 26, 0, 0, 0), some (.invokevirtual 256, 29, 129, 0, 901), none, none, some (.istore 4, 31, 0, 0, 0), none, some (.aload_n 0, 32, 0, 0, 0), some (.getfield 49, 35, 6, 25, 727), none, none, some (.iload_n 3, 36, 0, 0, 0), some (.iaload, 37, 0, 0, 0), some (.iload_n 1, 38, 0, 0, 0), some (.if_icmp .ne 29, 41, 67, 0, 0), none, none, some (.iload_n 2, 42, 0, 0, 0), some (.aload_n 0, 43, 0, 0, 0), some (.getfield 49, 46, 6, 25, 727), none, none, some (.iload_n 3, 47, 0, 0, 0), some (.iconst 2, 48, 0, 0, 0), some (.iadd, 49, 0, 0, 0), some (.iaload, 50, 0, 0, 0), some (.iconst 1, 51, 0, 0, 0), some (.if_icmp .ne 8, 54, 59, 0, 0), none, none, some (.iload 4, 56, 0, 0, 0), none, some (.goto 9, 59, 65, 0, 0), none, none, some (.sipush 1023, 62, 0, 0, 0), none, none, some (.iload 4, 64, 0, 0, 0), none, some (.isub, 65, 0, 0, 0), some (.iand, 66, 0, 0, 0), some (.istore_n 2, 67, 0, 0, 0), some (.iinc 3 3, 70, 0, 0, 0), none, none, some (.goto (-64), 73, 6, 0, 0), none, none, some (.iload_n 2, 74, 0, 0, 0), some (.ireturn, 75, 0, 0, 0)]
def jp_X9_listenOf : List (Option jE) := [some (.aload_n 0, 1, 0, 0, 0), some (.iload_n 1, 2, 0, 0, 0), some (.invokevirtual 169, 5, 130, 0, 897), none, none, some (.istore_n 2, 6, 0, 0, 0), some (.iconst (-1), 7, 0, 0, 0), some (.istore_n 3, 8, 0, 0, 0), some (.bipush 11, 10, 0, 0, 0), none, some (.istore 4, 12, 0, 0, 0), none, some (.iconst 0, 13, 0, 0, 0), some (.istore 5, 15, 0, 0, 0), none, some (.iload 5, 17, 0, 0, 0), none, some (.bipush 32, 19, 0, 0, 0), none, some (.if_icmp .ge 82, 22, 101, 0, 0), none, none, some (.iload_n 2, 23, 0, 0, 0), some (.ifCond .eq 78, 26, 101, 0, 0), none, none, some (.iload_n 2, 27, 0, 0, 0), some (.aload_n 0, 28, 0, 0, 0), some (.iload_n 1, 29, 0, 0, 0), some (.iload 5, 31, 0, 0, 0), none, some (.invokevirtual 256, 34, 129, 0, 901), none, none, some (.iand, 35, 0, 0, 0), some (.invokestatic 242, 38, 98, 0, 909), none, none, some (.istore 6, 40, 0, 0, 0), none, some (.iload_n 2, 41, 0, 0, 0), some (.invokestatic 242, 44, 98, 0, 909), none, none, some (.iload 6, 46, 0, 0, 0), none, some (.isub, 47, 0, 0, 0), some (.istore 7, 49, 0, 0, 0), none, some (.iload 6, 51, 0, 0, 0), none, some (.iload 7, 53, 0, 0, 0), none, some (.if_icmp .le 8, 56, 61, 0, 0), none, none, some (.iload 6, 58, 0, 0, 0), none, some (.goto 5, 61, 63, 0, 0), none, none, some (.iload 7, 63, 0, 0, 0), none, some (.istore 8, 65, 0, 0, 0), none, some (.iload 8, 67, 0, 0, 0), none, some (.iload 4, 69, 0, 0, 0), none, some (.if_icmp .ge 8, 72, 77, 0, 0), none, none, some (.iload 5, 74, 0, 0, 0), none, some (.goto 4, 77, 78, 0, 0), none, none, some (.iload_n 3, 78, 0, 0, 0), some (.istore_n 3, 79, 0, 0, 0), some (.iload 8, 81, 0, 0, 0), none, some (.iload 4, 83, 0, 0, 0), none, some (.if_icmp .ge 8, 86, 91, 0, 0), none, none, some (.iload 8, 88, 0, 0, 0), none, some (.goto 5, 91, 93, 0, 0), none, none, some (.iload 4, 93, 0, 0, 0), none, some (.istore 4, 95, 0, 0, 0), none, some (.iinc 5 1, 98, 0, 0, 0), none, none, some (.goto (-83), 101, 15, 0, 0), none, none, some (.iload_n 3, 102, 0, 0, 0), some (.ireturn, 103, 0, 0, 0)]
def jp_X9_draw : List (Option jE) := [some (.aload_n 0, 1, 0, 0, 0), some (.ldc2_w 259, 4, 1103515245, 0, 1053), none, none, some (.aload_n 0, 5, 0, 0, 0), some (.getfield 261, 8, 6, 26, 728), none, none, some (.i2l, 9, 0, 0, 0), some (.lmul, 10, 0, 0, 0), some (.ldc2_w 264, 13, 12345, 0, 1054), none, none, some (.ladd, 14, 0, 0, 0), some (.ldc2_w 266, 17, 2147483647, 0, 1055), none, none, some (.land, 18, 0, 0, 0), some (.l2i, 19, 0, 0, 0), some (.putfield 261, 22, 6, 26, 728), none, none, some (.aload_n 0, 23, 0, 0, 0), some (.getfield 261, 26, 6, 26, 728), none, none, some (.ldc_w 268, 29, 65536, 0, 1056), none, none, some (.idiv, 30, 0, 0, 0), some (.iload_n 1, 31, 0, 0, 0), some (.irem, 32, 0, 0, 0), some (.ireturn, 33, 0, 0, 0)]
def jp_X9_years : List (Option jE) := [some (.iload_n 1, 1, 0, 0, 0), some (.i2l, 2, 0, 0, 0), some (.lconst 1, 3, 0, 0, 0), some (.ldc2_w 269, 6, 60, 0, 1047), none, none, some (.invokestatic 79, 9, 78, 0, 825), none, none, some (.ifCond .eq 19, 12, 28, 0, 0), none, none, some (.iload_n 2, 13, 0, 0, 0), some (.ifCond .lt 15, 16, 28, 0, 0), none, none, some (.iload_n 3, 17, 0, 0, 0), some (.i2l, 18, 0, 0, 0), some (.lconst 0, 19, 0, 0, 0), some (.ldc2_w 271, 22, 2, 0, 1048), none, none, some (.invokestatic 79, 25, 78, 0, 825), none, none, some (.ifCond .ne 6, 28, 31, 0, 0), none, none, some (.bipush (-102), 30, 0, 0, 0), none, some (.ireturn, 31, 0, 0, 0), some (.aload_n 0, 32, 0, 0, 0), some (.invokevirtual 208, 35, 89, 0, 958), none, none, some (.ifCond .eq 6, 38, 41, 0, 0), none, none, some (.bipush (-103), 40, 0, 0, 0), none, some (.ireturn, 41, 0, 0, 0), some (.aload_n 0, 42, 0, 0, 0), some (.iload_n 2, 43, 0, 0, 0), some (.putfield 261, 46, 6, 26, 728), none, none, some (.aload_n 0, 47, 0, 0, 0), some (.invokevirtual 183, 50, 99, 0, 929), none, none, some (.iconst 0, 51, 0, 0, 0), some (.istore 4, 53, 0, 0, 0), none, some (.iconst 0, 54, 0, 0, 0), some (.istore 5, 56, 0, 0, 0), none, some (.iconst 0, 57, 0, 0, 0), some (.istore 6, 59, 0, 0, 0), none, some (.iload 6, 61, 0, 0, 0), none, some (.iload_n 1, 62, 0, 0, 0), some (.if_icmp .ge 78, 65, 140, 0, 0), none, none, some (.aload_n 0, 66, 0, 0, 0), some (.aload_n 0, 67, 0, 0, 0), some (.getfield 116, 70, 6, 4, 706), none, none, some (.invokevirtual 273, 73, 132, 0, 1049), none, none, some (.istore 7, 75, 0, 0, 0), none, some (.aload_n 0, 76, 0, 0, 0), some (.iload 7, 78, 0, 0, 0), none, some (.aload_n 0, 79, 0, 0, 0), some (.getfield 119, 82, 6, 5, 707), none, none, some (.iload 6, 84, 0, 0, 0), none, some (.iadd, 85, 0, 0, 0), some (.invokevirtual 186, 88, 102, 0, 936), none, none, some (.ifCond .eq 19, 91, 107, 0, 0), none, none, some (.aload_n 0, 92, 0, 0, 0), some (.iload 7, 94, 0, 0, 0), none, some (.aload_n 0, 95, 0, 0, 0), some (.getfield 119, 98, 6, 5, 707), none, none, some (.iload 6, 100, 0, 0, 0), none, some (.iadd, 101, 0, 0, 0), some (.invokevirtual 189, 104, 103, 0, 948), none, none, some (.goto 4, 107, 108, 0, 0), none, none, some (.iconst (-1), 108, 0, 0, 0), some (.istore 8, 110, 0, 0, 0), none, some (.iload 8, 112, 0, 0, 0), none, some (.iconst (-1), 113, 0, 0, 0), some (.if_icmp .eq 21, 116, 134, 0, 0), none, none, some (.iload 4, 118, 0, 0, 0), none, some (.iload 8, 120, 0, 0, 0), none, some (.iadd, 121, 0, 0, 0), some (.istore 4, 123, 0, 0, 0), none, some (.iinc 5 1, 126, 0, 0, 0), none, none, some (.aload_n 0, 127, 0, 0, 0), some (.getfield 40, 130, 6, 20, 722), none, none, some (.iload 7, 132, 0, 0, 0), none, some (.iconst 0, 133, 0, 0, 0), some (.iastore, 134, 0, 0, 0), some (.iinc 6 1, 137, 0, 0, 0), none, none, some (.goto (-78), 140, 59, 0, 0), none, none, some (.iload_n 3, 141, 0, 0, 0), some (.ifCond .ne 8, 144, 149, 0, 0), none, none, some (.iload 4, 146, 0, 0, 0), none, some (.goto 17, 149, 163, 0, 0), none, none, some (.iload_n 3, 150, 0, 0, 0), some (.iconst 1, 151, 0, 0, 0), some (.if_icmp .ne 8, 154, 159, 0, 0), none, none, some (.iload 5, 156, 0, 0, 0), none, some (.goto 7, 159, 163, 0, 0), none, none, some (.aload_n 0, 160, 0, 0, 0), some (.getfield 261, 163, 6, 26, 728), none, none, some (.ireturn, 164, 0, 0, 0)]
def jp_X9_image : List (Option jE) := [some (.aload_n 0, 1, 0, 0, 0), some (.invokevirtual 208, 4, 89, 0, 958), none, none, some (.ifCond .eq 6, 7, 10, 0, 0), none, none, some (.bipush (-103), 9, 0, 0, 0), none, some (.ireturn, 10, 0, 0, 0), some (.aload_n 0, 11, 0, 0, 0), some (.getfield 13, 14, 6, 8, 710), none, none, some (.aload_n 0, 15, 0, 0, 0), some (.getfield 52, 18, 6, 31, 733), none, none, some (.invokestatic 159, 21, 79, 0, 933), none, none, some (.aload_n 0, 22, 0, 0, 0), some (.getfield 19, 25, 6, 10, 712), none, none, some (.aload_n 0, 26, 0, 0, 0), some (.getfield 55, 29, 6, 32, 734), none, none, some (.invokestatic 159, 32, 79, 0, 933), none, none, some (.aload_n 0, 33, 0, 0, 0), some (.getfield 22, 36, 6, 11, 713), none, none, some (.aload_n 0, 37, 0, 0, 0), some (.getfield 58, 40, 6, 33, 735), none, none, some (.invokestatic 159, 43, 79, 0, 933), none, none, some (.aload_n 0, 44, 0, 0, 0), some (.getfield 31, 47, 6, 14, 716), none, none, some (.aload_n 0, 48, 0, 0, 0), some (.getfield 61, 51, 6, 34, 736), none, none, some (.invokestatic 159, 54, 79, 0, 933), none, none, some (.aload_n 0, 55, 0, 0, 0), some (.getfield 34, 58, 6, 15, 717), none, none, some (.aload_n 0, 59, 0, 0, 0), some (.getfield 64, 62, 6, 35, 737), none, none, some (.invokestatic 159, 65, 79, 0, 933), none, none, some (.aload_n 0, 66, 0, 0, 0), some (.getfield 37, 69, 6, 16, 718), none, none, some (.aload_n 0, 70, 0, 0, 0), some (.getfield 67, 73, 6, 36, 738), none, none, some (.invokestatic 159, 76, 79, 0, 933), none, none, some (.aload_n 0, 77, 0, 0, 0), some (.getfield 49, 80, 6, 25, 727), none, none, some (.aload_n 0, 81, 0, 0, 0), some (.getfield 70, 84, 6, 37, 739), none, none, some (.invokestatic 159, 87, 79, 0, 933), none, none, some (.aload_n 0, 88, 0, 0, 0), some (.aload_n 0, 89, 0, 0, 0), some (.getfield 119, 92, 6, 5, 707), none, none, some (.putfield 276, 95, 6, 28, 730), none, none, some (.aload_n 0, 96, 0, 0, 0), some (.aload_n 0, 97, 0, 0, 0), some (.getfield 122, 100, 6, 6, 708), none, none, some (.putfield 279, 103, 6, 29, 731), none, none, some (.aload_n 0, 104, 0, 0, 0), some (.aload_n 0, 105, 0, 0, 0), some (.getfield 125, 108, 6, 24, 726), none, none, some (.putfield 282, 111, 6, 30, 732), none, none, some (.aload_n 0, 112, 0, 0, 0), some (.aload_n 0, 113, 0, 0, 0), some (.getfield 128, 116, 6, 7, 709), none, none, some (.putfield 73, 119, 6, 27, 729), none, none, some (.aload_n 0, 120, 0, 0, 0), some (.getfield 119, 123, 6, 5, 707), none, none, some (.ireturn, 124, 0, 0, 0)]
def jp_X9_restore : List (Option jE) := [some (.aload_n 0, 1, 0, 0, 0), some (.getfield 73, 4, 6, 27, 729), none, none, some (.aload_n 0, 5, 0, 0, 0), some (.getfield 128, 8, 6, 7, 709), none, none, some (.if_icmp .eq 6, 11, 14, 0, 0), none, none, some (.bipush (-103), 13, 0, 0, 0), none, some (.ireturn, 14, 0, 0, 0), some (.aload_n 0, 15, 0, 0, 0), some (.getfield 52, 18, 6, 31, 733), none, none, some (.aload_n 0, 19, 0, 0, 0), some (.getfield 13, 22, 6, 8, 710), none, none, some (.invokestatic 159, 25, 79, 0, 933), none, none, some (.aload_n 0, 26, 0, 0, 0), some (.getfield 55, 29, 6, 32, 734), none, none, some (.aload_n 0, 30, 0, 0, 0), some (.getfield 19, 33, 6, 10, 712), none, none, some (.invokestatic 159, 36, 79, 0, 933), none, none, some (.aload_n 0, 37, 0, 0, 0), some (.getfield 58, 40, 6, 33, 735), none, none, some (.aload_n 0, 41, 0, 0, 0), some (.getfield 22, 44, 6, 11, 713), none, none, some (.invokestatic 159, 47, 79, 0, 933), none, none, some (.aload_n 0, 48, 0, 0, 0), some (.getfield 61, 51, 6, 34, 736), none, none, some (.aload_n 0, 52, 0, 0, 0), some (.getfield 31, 55, 6, 14, 716), none, none, some (.invokestatic 159, 58, 79, 0, 933), none, none, some (.aload_n 0, 59, 0, 0, 0), some (.getfield 64, 62, 6, 35, 737), none, none, some (.aload_n 0, 63, 0, 0, 0), some (.getfield 34, 66, 6, 15, 717), none, none, some (.invokestatic 159, 69, 79, 0, 933), none, none, some (.aload_n 0, 70, 0, 0, 0), some (.getfield 67, 73, 6, 36, 738), none, none, some (.aload_n 0, 74, 0, 0, 0), some (.getfield 37, 77, 6, 16, 718), none, none, some (.invokestatic 159, 80, 79, 0, 933), none, none, some (.aload_n 0, 81, 0, 0, 0), some (.getfield 70, 84, 6, 37, 739), none, none, some (.aload_n 0, 85, 0, 0, 0), some (.getfield 49, 88, 6, 25, 727), none, none, some (.invokestatic 159, 91, 79, 0, 933), none, none, some (.aload_n 0, 92, 0, 0, 0), some (.aload_n 0, 93, 0, 0, 0), some (.getfield 276, 96, 6, 28, 730), none, none, some (.putfield 119, 99, 6, 5, 707), none, none, some (.aload_n 0, 100, 0, 0, 0), some (.aload_n 0, 101, 0, 0, 0), some (.getfield 279, 104, 6, 29, 731), none, none, some (.putfield 122, 107, 6, 6, 708), none, none, some (.aload_n 0, 108, 0, 0, 0), some (.aload_n 0, 109, 0, 0, 0), some (.getfield 282, 112, 6, 30, 732), none, none, some (.putfield 125, 115, 6, 24, 726), none, none, some (.aload_n 0, 116, 0, 0, 0), some (.getfield 119, 119, 6, 5, 707), none, none, some (.ireturn, 120, 0, 0, 0)]
def jp_X9_standing : List (Option jE) := [some (.iconst 0, 1, 0, 0, 0), some (.istore_n 2, 2, 0, 0, 0), some (.iconst 0, 3, 0, 0, 0), some (.istore_n 3, 4, 0, 0, 0), some (.iload_n 3, 5, 0, 0, 0), some (.aload_n 0, 6, 0, 0, 0), some (.getfield 116, 9, 6, 4, 706), none, none, some (.if_icmp .ge 27, 12, 36, 0, 0), none, none, some (.iload_n 2, 13, 0, 0, 0), some (.aload_n 0, 14, 0, 0, 0), some (.getfield 34, 17, 6, 15, 717), none, none, some (.iload_n 3, 18, 0, 0, 0), some (.iaload, 19, 0, 0, 0), some (.iload_n 1, 20, 0, 0, 0), some (.if_icmp .ne 7, 23, 27, 0, 0), none, none, some (.iconst 1, 24, 0, 0, 0), some (.goto 4, 27, 28, 0, 0), none, none, some (.iconst 0, 28, 0, 0, 0), some (.iadd, 29, 0, 0, 0), some (.istore_n 2, 30, 0, 0, 0), some (.iinc 3 1, 33, 0, 0, 0), none, none, some (.goto (-29), 36, 4, 0, 0), none, none, some (.iload_n 2, 37, 0, 0, 0), some (.ireturn, 38, 0, 0, 0)]
def jp_X9_onRight : List (Option jE) := [some (.iconst 0, 1, 0, 0, 0), some (.istore_n 1, 2, 0, 0, 0), some (.iconst 0, 3, 0, 0, 0), some (.istore_n 2, 4, 0, 0, 0), some (.iload_n 2, 5, 0, 0, 0), some (.aload_n 0, 6, 0, 0, 0), some (.getfield 113, 9, 6, 3, 705), none, none, some (.if_icmp .ge 18, 12, 27, 0, 0), none, none, some (.iload_n 1, 13, 0, 0, 0), some (.aload_n 0, 14, 0, 0, 0), some (.getfield 19, 17, 6, 10, 712), none, none, some (.iload_n 2, 18, 0, 0, 0), some (.iaload, 19, 0, 0, 0), some (.iadd, 20, 0, 0, 0), some (.istore_n 1, 21, 0, 0, 0), some (.iinc 2 1, 24, 0, 0, 0), none, none, some (.goto (-20), 27, 4, 0, 0), none, none, some (.iload_n 1, 28, 0, 0, 0), some (.ireturn, 29, 0, 0, 0)]
def jp_X9_countOf : List (Option jE) := [some (.iload_n 1, 1, 0, 0, 0), some (.tableswitch 132 0 11 #[63, 68, 73, 78, 90, 95, 101, 107, 112, 117, 122, 127], 64, 0, 0, 0), none, none, none, none, none, none, none, none, none, none, none, none, none, none, none, none, none, none, none, none, none, none, none, none, none, none, none, none, none, none, none, none, none, none, none, none, none, none, none, none, none, none, none, none, none, none, none, none, none, none, none, none, none, none, none, none, none, none, none, none, none, none, some (.aload_n 0, 65, 0, 0, 0), some (.getfield 113, 68, 6, 3, 705), none, none, some (.ireturn, 69, 0, 0, 0), some (.aload_n 0, 70, 0, 0, 0), some (.getfield 116, 73, 6, 4, 706), none, none, some (.ireturn, 74, 0, 0, 0), some (.aload_n 0, 75, 0, 0, 0), some (.getfield 119, 78, 6, 5, 707), none, none, some (.ireturn, 79, 0, 0, 0), some (.aload_n 0, 80, 0, 0, 0), some (.aload_n 0, 81, 0, 0, 0), some (.getfield 119, 84, 6, 5, 707), none, none, some (.invokevirtual 201, 87, 97, 0, 966), none, none, some (.invokestatic 242, 90, 98, 0, 909), none, none, some (.ireturn, 91, 0, 0, 0), some (.aload_n 0, 92, 0, 0, 0), some (.invokevirtual 285, 95, 137, 0, 1073), none, none, some (.ireturn, 96, 0, 0, 0), some (.aload_n 0, 97, 0, 0, 0), some (.iconst 1, 98, 0, 0, 0), some (.invokevirtual 288, 101, 136, 0, 1077), none, none, some (.ireturn, 102, 0, 0, 0), some (.aload_n 0, 103, 0, 0, 0), some (.iconst 2, 104, 0, 0, 0), some (.invokevirtual 288, 107, 136, 0, 1077), none, none, some (.ireturn, 108, 0, 0, 0), some (.aload_n 0, 109, 0, 0, 0), some (.getfield 122, 112, 6, 6, 708), none, none, some (.ireturn, 113, 0, 0, 0), some (.aload_n 0, 114, 0, 0, 0), some (.getfield 125, 117, 6, 24, 726), none, none, some (.ireturn, 118, 0, 0, 0), some (.aload_n 0, 119, 0, 0, 0), some (.getfield 83, 122, 6, 1, 703), none, none, some (.ireturn, 123, 0, 0, 0), some (.aload_n 0, 124, 0, 0, 0), some (.getfield 128, 127, 6, 7, 709), none, none, some (.ireturn, 128, 0, 0, 0), some (.aload_n 0, 129, 0, 0, 0), some (.getfield 233, 132, 6, 22, 724), none, none, some (.ireturn, 133, 0, 0, 0), some (.bipush (-102), 135, 0, 0, 0), none, some (.ireturn, 136, 0, 0, 0)]
def jp_X9_count : List (Option jE) := [some (.aload_n 0, 1, 0, 0, 0), some (.iload_n 1, 2, 0, 0, 0), some (.invokevirtual 291, 5, 138, 0, 1069), none, none, some (.ireturn, 6, 0, 0, 0)]
def jp_X9_mix : List (Option jE) := [some (.aload_n 0, 1, 0, 0, 0), some (.ldc2_w 254, 4, 31, 0, 1038), none, none, some (.aload_n 0, 5, 0, 0, 0), some (.getfield 294, 8, 6, 38, 740), none, none, some (.lmul, 9, 0, 0, 0), some (.lload_n 1, 10, 0, 0, 0), some (.ladd, 11, 0, 0, 0), some (.putfield 294, 14, 6, 38, 740), none, none, some (.return_, 15, 0, 0, 0)]
def jp_X9_sayRiver : List (Option jE) := [some (.iconst 0, 1, 0, 0, 0), some (.istore_n 1, 2, 0, 0, 0), some (.iload_n 1, 3, 0, 0, 0), some (.iconst 4, 4, 0, 0, 0), some (.if_icmp .ge 23, 7, 27, 0, 0), none, none, some (.aload_n 0, 8, 0, 0, 0), some (.aload_n 0, 9, 0, 0, 0), some (.aload_n 0, 10, 0, 0, 0), some (.getfield 119, 13, 6, 5, 707), none, none, some (.iload_n 1, 14, 0, 0, 0), some (.invokevirtual 212, 17, 111, 0, 962), none, none, some (.i2l, 18, 0, 0, 0), some (.invokevirtual 298, 21, 140, 0, 1086), none, none, some (.iinc 1 1, 24, 0, 0, 0), none, none, some (.goto (-22), 27, 2, 0, 0), none, none, some (.iconst 0, 28, 0, 0, 0), some (.istore_n 1, 29, 0, 0, 0), some (.iload_n 1, 30, 0, 0, 0), some (.iconst 4, 31, 0, 0, 0), some (.if_icmp .ge 26, 34, 57, 0, 0), none, none, some (.aload_n 0, 35, 0, 0, 0), some (.aload_n 0, 36, 0, 0, 0), some (.aload_n 0, 37, 0, 0, 0), some (.getfield 119, 40, 6, 5, 707), none, none, some (.bipush 40, 42, 0, 0, 0), none, some (.iadd, 43, 0, 0, 0), some (.iload_n 1, 44, 0, 0, 0), some (.invokevirtual 212, 47, 111, 0, 962), none, none, some (.i2l, 48, 0, 0, 0), some (.invokevirtual 298, 51, 140, 0, 1086), none, none, some (.iinc 1 1, 54, 0, 0, 0), none, none, some (.goto (-25), 57, 29, 0, 0), none, none, some (.aload_n 0, 58, 0, 0, 0), some (.aload_n 0, 59, 0, 0, 0), some (.iconst 0, 60, 0, 0, 0), some (.invokevirtual 245, 63, 123, 0, 1017), none, none, some (.i2l, 64, 0, 0, 0), some (.invokevirtual 298, 67, 140, 0, 1086), none, none, some (.aload_n 0, 68, 0, 0, 0), some (.aload_n 0, 69, 0, 0, 0), some (.iconst 1, 70, 0, 0, 0), some (.invokevirtual 245, 73, 123, 0, 1017), none, none, some (.i2l, 74, 0, 0, 0), some (.invokevirtual 298, 77, 140, 0, 1086), none, none, some (.return_, 78, 0, 0, 0)]
def jp_X9_digest : List (Option jE) := [some (.aload_n 0, 1, 0, 0, 0), some (.ldc2_w 302, 4, 1279, 0, 1085), none, none, some (.putfield 294, 7, 6, 38, 740), none, none, some (.iconst 0, 8, 0, 0, 0), some (.istore_n 1, 9, 0, 0, 0), some (.iload_n 1, 10, 0, 0, 0), some (.aload_n 0, 11, 0, 0, 0), some (.getfield 113, 14, 6, 3, 705), none, none, some (.if_icmp .ge 34, 17, 48, 0, 0), none, none, some (.iconst 0, 18, 0, 0, 0), some (.istore_n 2, 19, 0, 0, 0), some (.iload_n 2, 20, 0, 0, 0), some (.bipush 8, 22, 0, 0, 0), none, some (.if_icmp .ge 20, 25, 42, 0, 0), none, none, some (.aload_n 0, 26, 0, 0, 0), some (.aload_n 0, 27, 0, 0, 0), some (.iload_n 1, 28, 0, 0, 0), some (.iload_n 2, 29, 0, 0, 0), some (.invokevirtual 178, 32, 105, 0, 870), none, none, some (.i2l, 33, 0, 0, 0), some (.invokevirtual 298, 36, 140, 0, 1086), none, none, some (.iinc 2 1, 39, 0, 0, 0), none, none, some (.goto (-20), 42, 19, 0, 0), none, none, some (.iinc 1 1, 45, 0, 0, 0), none, none, some (.goto (-36), 48, 9, 0, 0), none, none, some (.iconst 0, 49, 0, 0, 0), some (.istore_n 1, 50, 0, 0, 0), some (.iload_n 1, 51, 0, 0, 0), some (.aload_n 0, 52, 0, 0, 0), some (.getfield 116, 55, 6, 4, 706), none, none, some (.if_icmp .ge 34, 58, 89, 0, 0), none, none, some (.iconst 0, 59, 0, 0, 0), some (.istore_n 2, 60, 0, 0, 0), some (.iload_n 2, 61, 0, 0, 0), some (.bipush 7, 63, 0, 0, 0), none, some (.if_icmp .ge 20, 66, 83, 0, 0), none, none, some (.aload_n 0, 67, 0, 0, 0), some (.aload_n 0, 68, 0, 0, 0), some (.iload_n 1, 69, 0, 0, 0), some (.iload_n 2, 70, 0, 0, 0), some (.invokevirtual 198, 73, 109, 0, 925), none, none, some (.i2l, 74, 0, 0, 0), some (.invokevirtual 298, 77, 140, 0, 1086), none, none, some (.iinc 2 1, 80, 0, 0, 0), none, none, some (.goto (-20), 83, 60, 0, 0), none, none, some (.iinc 1 1, 86, 0, 0, 0), none, none, some (.goto (-36), 89, 50, 0, 0), none, none, some (.aload_n 0, 90, 0, 0, 0), some (.invokevirtual 208, 93, 89, 0, 958), none, none, some (.ifCond .ne 7, 96, 100, 0, 0), none, none, some (.aload_n 0, 97, 0, 0, 0), some (.invokevirtual 304, 100, 141, 0, 1090), none, none, some (.iconst 0, 101, 0, 0, 0), some (.istore_n 1, 102, 0, 0, 0), some (.iload_n 1, 103, 0, 0, 0), some (.aload_n 0, 104, 0, 0, 0), some (.getfield 83, 107, 6, 1, 703), none, none, some (.if_icmp .ge 20, 110, 127, 0, 0), none, none, some (.aload_n 0, 111, 0, 0, 0), some (.aload_n 0, 112, 0, 0, 0), some (.getfield 7, 115, 6, 0, 702), none, none, some (.iload_n 1, 116, 0, 0, 0), some (.iaload, 117, 0, 0, 0), some (.i2l, 118, 0, 0, 0), some (.invokevirtual 298, 121, 140, 0, 1086), none, none, some (.iinc 1 1, 124, 0, 0, 0), none, none, some (.goto (-22), 127, 102, 0, 0), none, none, some (.iconst 0, 128, 0, 0, 0), some (.istore_n 1, 129, 0, 0, 0), some (.iload_n 1, 130, 0, 0, 0), some (.bipush 12, 132, 0, 0, 0), none, some (.if_icmp .ge 19, 135, 151, 0, 0), none, none, some (.aload_n 0, 136, 0, 0, 0), some (.aload_n 0, 137, 0, 0, 0), some (.iload_n 1, 138, 0, 0, 0), some (.invokevirtual 291, 141, 138, 0, 1069), none, none, some (.i2l, 142, 0, 0, 0), some (.invokevirtual 298, 145, 140, 0, 1086), none, none, some (.iinc 1 1, 148, 0, 0, 0), none, none, some (.goto (-19), 151, 129, 0, 0), none, none, some (.aload_n 0, 152, 0, 0, 0), some (.getfield 294, 155, 6, 38, 740), none, none, some (.lreturn, 156, 0, 0, 0)]
def jp_J6_bitCount_0f7a4 : List (Option jE) := [some (.iload_n 0, 1, 0, 0, 0), some (.iload_n 0, 2, 0, 0, 0), some (.iconst 1, 3, 0, 0, 0), some (.iushr, 4, 0, 0, 0), some (.ldc_w 265, 7, 1431655765, 0, 465), none, none, some (.iand, 8, 0, 0, 0), some (.isub, 9, 0, 0, 0), some (.istore_n 0, 10, 0, 0, 0), some (.iload_n 0, 11, 0, 0, 0), some (.ldc_w 266, 14, 858993459, 0, 466), none, none, some (.iand, 15, 0, 0, 0), some (.iload_n 0, 16, 0, 0, 0), some (.iconst 2, 17, 0, 0, 0), some (.iushr, 18, 0, 0, 0), some (.ldc_w 266, 21, 858993459, 0, 466), none, none, some (.iand, 22, 0, 0, 0), some (.iadd, 23, 0, 0, 0), some (.istore_n 0, 24, 0, 0, 0), some (.iload_n 0, 25, 0, 0, 0), some (.iload_n 0, 26, 0, 0, 0), some (.iconst 4, 27, 0, 0, 0), some (.iushr, 28, 0, 0, 0), some (.iadd, 29, 0, 0, 0), some (.ldc_w 267, 32, 252645135, 0, 467), none, none, some (.iand, 33, 0, 0, 0), some (.istore_n 0, 34, 0, 0, 0), some (.iload_n 0, 35, 0, 0, 0), some (.iload_n 0, 36, 0, 0, 0), some (.bipush 8, 38, 0, 0, 0), none, some (.iushr, 39, 0, 0, 0), some (.iadd, 40, 0, 0, 0), some (.istore_n 0, 41, 0, 0, 0), some (.iload_n 0, 42, 0, 0, 0), some (.iload_n 0, 43, 0, 0, 0), some (.bipush 16, 45, 0, 0, 0), none, some (.iushr, 46, 0, 0, 0), some (.iadd, 47, 0, 0, 0), some (.istore_n 0, 48, 0, 0, 0), some (.iload_n 0, 49, 0, 0, 0), some (.bipush 63, 51, 0, 0, 0), none, some (.iand, 52, 0, 0, 0), some (.ireturn, 53, 0, 0, 0)]
def jp_J0_indexOf_0f7a4 : List (Option jE) := [some (.aload_n 0, 1, 0, 0, 0), some (.iload_n 1, 2, 0, 0, 0), some (.iconst 0, 3, 0, 0, 0), some (.invokevirtual 633, 6, 145, 0, 297), none, none, some (.ireturn, 7, 0, 0, 0)]
def jp_J0_indexOf_7cf53 : List (Option jE) := [some (.aload_n 0, 1, 0, 0, 0), some (.invokevirtual 492, 4, 146, 0, 301), none, none, some (.ifCond .eq 19, 7, 23, 0, 0), none, none, some (.aload_n 0, 8, 0, 0, 0), some (.getfield 9, 11, 7, 0, 1095), none, none, some (.iload_n 1, 12, 0, 0, 0), some (.iload_n 2, 13, 0, 0, 0), some (.aload_n 0, 14, 0, 0, 0), some (.invokevirtual 505, 17, 147, 0, 307), none, none, some (.invokestatic 637, 20, 149, 0, 315), none, none, some (.goto 16, 23, 36, 0, 0), none, none, some (.aload_n 0, 24, 0, 0, 0), some (.getfield 9, 27, 7, 0, 1095), none, none, some (.iload_n 1, 28, 0, 0, 0), some (.iload_n 2, 29, 0, 0, 0), some (.aload_n 0, 30, 0, 0, 0), some (.invokevirtual 505, 33, 147, 0, 307), none, none, none, none, none, some (.ireturn, 37, 0, 0, 0)]
def jp_J0_isLatin1_aae02 : List (Option jE) := [some (.getstatic 38, 3, 1, 0, 305), none, none, some (.ifCond .eq 14, 6, 17, 0, 0), none, none, some (.aload_n 0, 7, 0, 0, 0), some (.getfield 15, 10, 7, 1, 1094), none, none, some (.ifCond .ne 7, 13, 17, 0, 0), none, none, some (.iconst 1, 14, 0, 0, 0), some (.goto 4, 17, 18, 0, 0), none, none, some (.iconst 0, 18, 0, 0, 0), some (.ireturn, 19, 0, 0, 0)]
def jp_J0_length_8abf5 : List (Option jE) := [some (.aload_n 0, 1, 0, 0, 0), some (.getfield 9, 4, 7, 0, 1095), none, none, some (.arraylength, 5, 0, 0, 0), some (.aload_n 0, 6, 0, 0, 0), some (.invokevirtual 335, 9, 148, 0, 311), none, none, some (.ishr, 10, 0, 0, 0), some (.ireturn, 11, 0, 0, 0)]
def jp_J0_coder_7d493 : List (Option jE) := [some (.getstatic 38, 3, 1, 0, 305), none, none, some (.ifCond .eq 10, 6, 13, 0, 0), none, none, some (.aload_n 0, 7, 0, 0, 0), some (.getfield 15, 10, 7, 1, 1094), none, none, some (.goto 4, 13, 14, 0, 0), none, none, some (.iconst 1, 14, 0, 0, 0), some (.ireturn, 15, 0, 0, 0)]
def jp_J1_indexOf_4cfef : List (Option jE) := [some (.iload_n 1, 1, 0, 0, 0), some (.invokestatic 88, 4, 151, 0, 318), none, none, some (.ifCond .ne 5, 7, 9, 0, 0), none, none, some (.iconst (-1), 8, 0, 0, 0), some (.ireturn, 9, 0, 0, 0), some (.iload_n 2, 10, 0, 0, 0), some (.iconst 0, 11, 0, 0, 0), some (.invokestatic 92, 14, 1000, 0, 321), none, none, some (.istore_n 2, 15, 0, 0, 0), some (.iload_n 3, 16, 0, 0, 0), some (.aload_n 0, 17, 0, 0, 0), some (.arraylength, 18, 0, 0, 0), some (.invokestatic 38, 21, 1001, 0, 324), none, none, some (.istore_n 3, 22, 0, 0, 0), some (.iload_n 2, 23, 0, 0, 0), some (.iload_n 3, 24, 0, 0, 0), some (.if_icmp .lt 5, 27, 29, 0, 0), none, none, some (.iconst (-1), 28, 0, 0, 0), some (.ireturn, 29, 0, 0, 0), some (.aload_n 0, 30, 0, 0, 0), some (.iload_n 1, 31, 0, 0, 0), some (.iload_n 2, 32, 0, 0, 0), some (.iload_n 3, 33, 0, 0, 0), some (.invokestatic 95, 36, 150, 0, 327), none, none, some (.ireturn, 37, 0, 0, 0)]
def jp_J1_indexOfChar_4cfef : List (Option jE) := [some (.iload_n 1, 1, 0, 0, 0), some (.i2b, 2, 0, 0, 0), some (.istore 4, 4, 0, 0, 0), none, some (.iload_n 2, 5, 0, 0, 0), some (.istore 5, 7, 0, 0, 0), none, some (.iload 5, 9, 0, 0, 0), none, some (.iload_n 3, 10, 0, 0, 0), some (.if_icmp .ge 21, 13, 31, 0, 0), none, none, some (.aload_n 0, 14, 0, 0, 0), some (.iload 5, 16, 0, 0, 0), none, some (.baload, 17, 0, 0, 0), some (.iload 4, 19, 0, 0, 0), none, some (.if_icmp .ne 6, 22, 25, 0, 0), none, none, some (.iload 5, 24, 0, 0, 0), none, some (.ireturn, 25, 0, 0, 0), some (.iinc 5 1, 28, 0, 0, 0), none, none, some (.goto (-21), 31, 7, 0, 0), none, none, some (.iconst (-1), 32, 0, 0, 0), some (.ireturn, 33, 0, 0, 0)]
def jp_J1_canEncode_9a6ad : List (Option jE) := [some (.iload_n 0, 1, 0, 0, 0), some (.ifCond .lt 14, 4, 15, 0, 0), none, none, some (.iload_n 0, 5, 0, 0, 0), some (.sipush 255, 8, 0, 0, 0), none, none, some (.if_icmp .gt 7, 11, 15, 0, 0), none, none, some (.iconst 1, 12, 0, 0, 0), some (.goto 4, 15, 16, 0, 0), none, none, some (.iconst 0, 16, 0, 0, 0), some (.ireturn, 17, 0, 0, 0)]
def jv_mt : List jM := [
  (yL_law, cL_law, 4, (some .boolean), 1, 0, 0, []),
  (yX0_yearOf, cX0_yearOf, 1, (some .int), 1, 0, 7, [535, 534, 0, 59]),
  (yX0_monthOf, cX0_monthOf, 1, (some .int), 1, 0, 7, [532, 531, 0, 59]),
  (yX0_dateOf, cX0_dateOf, 1, (some .int), 1, 0, 7, [529, 528, 0, 59]),
  (yX0_voicesOn, cX0_voicesOn, 4, (some .int), 1, 0, 7, [428, 427, 0, 59]),
  (yX0_monthAndDate, cX0_monthAndDate, 7, (some .int), 1, 0, 7, [431, 430, 0, 59]),
  (yX1_run, cX1_run, 5, none, 4, 1, 5, [638, 636, 637, 51]),
  (yX1_passDay, cX1_passDay, 5, none, 3, 1, 5, [643, 642, 6, 51]),
  (yX1_draw, cX1_draw, 2, (some .int), 2, 1, 5, [647, 646, 7, 51]),
  (yX2_soonest, cX2_soonest, 5, (some .int), 2, 0, 7, [516, 515, 0, 62]),
  (yX2_bestHomes, cX2_bestHomes, 14, (some .int), 1, 0, 7, [600, 599, 0, 62]),
  (yX2_settledByTomorrow, cX2_settledByTomorrow, 2, (some .int), 2, 0, 7, [608, 607, 0, 62]),
  (yX2_settledBy, cX2_settledBy, 6, (some .int), 3, 0, 7, [604, 603, 0, 62]),
  (yX2_partsSettled, cX2_partsSettled, 15, (some .int), 4, 0, 7, [615, 614, 0, 62]),
  (yX2_lowestTerms, cX2_lowestTerms, 6, (some .int), 3, 0, 7, [618, 617, 0, 62]),
  (yX3_append, cX3_append, 2, (some .boolean), 2, 1, 1, [272, 270, 271, 47]),
  (yX3_firstFault, cX3_firstFault, 4, (some .int), 1, 1, 1, [284, 282, 283, 47]),
  (yX3_fitsPeople, cX3_fitsPeople, 4, (some .boolean), 2, 1, 1, [288, 287, 0, 47]),
  (yX3_fitsMatters, cX3_fitsMatters, 6, (some .boolean), 3, 1, 1, [382, 381, 1, 47]),
  (yX3_isWhole, cX3_isWhole, 1, (some .boolean), 1, 1, 1, [391, 389, 390, 47]),
  (yX3_peopleTold, cX3_peopleTold, 2, (some .int), 1, 1, 1, [396, 395, 2, 47]),
  (yX3_readInto, cX3_readInto, 6, none, 2, 1, 1, [400, 398, 399, 47]),
  (yX3_kindOf, cX3_kindOf, 1, (some .int), 1, 0, 1, [291, 290, 0, 47]),
  (yX4_make, cX4_make, 4, none, 3, 1, 4, [571, 569, 570, 50]),
  (yX4_matterOn, cX4_matterOn, 2, (some .int), 2, 1, 4, [593, 591, 592, 50]),
  (yX4_search, cX4_search, 8, none, 5, 0, 4, [579, 578, 0, 50]),
  (yX4_keepIfBetter, cX4_keepIfBetter, 5, none, 4, 1, 4, [583, 582, 4, 50]),
  (yX4_howManyAsked, cX4_howManyAsked, 4, (some .int), 2, 1, 4, [587, 586, 5, 50]),
  (yX5_add, cX5_add, 4, (some .boolean), 4, 1, 3, [626, 624, 625, 49]),
  (yX5_sortsLeft, cX5_sortsLeft, 7, (some .int), 4, 1, 3, [454, 452, 453, 49]),
  (yX5_copyFrom, cX5_copyFrom, 3, none, 2, 1, 3, [667, 665, 666, 49]),
  (yX6_isKind, cX6_isKind, 2, (some .boolean), 2, 0, 7, [475, 474, 0, 60]),
  (yX6_speaking, cX6_speaking, 4, (some .int), 2, 0, 7, [441, 440, 0, 60]),
  (yX7_hasRiver, cX7_hasRiver, 1, (some .boolean), 1, 1, 2, [526, 524, 525, 48]),
  (yX7_knowsPerson, cX7_knowsPerson, 2, (some .boolean), 2, 1, 2, [417, 415, 416, 48]),
  (yX7_knowsMatter, cX7_knowsMatter, 2, (some .boolean), 2, 1, 2, [483, 481, 482, 48]),
  (yX7_begin, cX7_begin, 3, none, 3, 1, 2, [404, 402, 403, 48]),
  (yX7_place, cX7_place, 5, none, 5, 1, 2, [409, 407, 408, 48]),
  (yX7_bankOf, cX7_bankOf, 2, (some .int), 2, 1, 2, [421, 419, 420, 48]),
  (yX7_speaks, cX7_speaks, 3, (some .boolean), 3, 1, 2, [425, 423, 424, 48]),
  (yX7_speaksWith, cX7_speaksWith, 5, (some .boolean), 4, 1, 2, [438, 437, 3, 48]),
  (yX7_speakersOn, cX7_speakersOn, 2, (some .int), 2, 1, 2, [500, 498, 499, 48]),
  (yX7_speakersIf, cX7_speakersIf, 6, (some .int), 3, 1, 2, [504, 502, 503, 48]),
  (yX7_speakingDays, cX7_speakingDays, 4, (some .int), 2, 1, 2, [445, 443, 444, 48]),
  (yX7_possibleSorts, cX7_possibleSorts, 2, (some .int), 2, 1, 2, [450, 448, 449, 48]),
  (yX7_dayToListen, cX7_dayToListen, 9, (some .int), 2, 1, 2, [460, 458, 459, 48]),
  (yX7_standing, cX7_standing, 2, (some .int), 2, 1, 2, [487, 485, 486, 48]),
  (yX7_howManyStand, cX7_howManyStand, 4, (some .int), 2, 1, 2, [680, 678, 679, 48]),
  (yX7_askedSince, cX7_askedSince, 2, (some .int), 2, 1, 2, [491, 489, 490, 48]),
  (yX7_worthToday, cX7_worthToday, 3, (some .int), 2, 1, 2, [496, 494, 495, 48]),
  (yX7_canBeSaid, cX7_canBeSaid, 5, (some .boolean), 5, 1, 2, [508, 506, 507, 48]),
  (yX7_settledFor, cX7_settledFor, 8, (some .int), 4, 1, 2, [512, 510, 511, 48]),
  (yX7_reopenAskedBy, cX7_reopenAskedBy, 4, (some .int), 2, 1, 2, [555, 553, 554, 48]),
  (yX7_copyFrom, cX7_copyFrom, 2, none, 2, 1, 2, [662, 660, 661, 48]),
  (yX8_letter, cX8_letter, 2, (some .int), 2, 1, 0, [268, 266, 267, 46]),
  (yX8_blank, cX8_blank, 2, (some .int), 1, 1, 0, [276, 274, 275, 46]),
  (yX8_fault, cX8_fault, 1, (some .int), 1, 1, 0, [280, 278, 279, 46]),
  (yX8_river, cX8_river, 1, (some .int), 1, 1, 0, [387, 385, 386, 46]),
  (yX8_person, cX8_person, 3, (some .int), 3, 1, 0, [413, 411, 412, 46]),
  (yX8_as, cX8_as, 3, (some .int), 3, 1, 0, [472, 470, 471, 46]),
  (yX8_matter, cX8_matter, 3, (some .int), 3, 1, 0, [479, 477, 478, 46]),
  (yX8_date, cX8_date, 4, (some .int), 3, 1, 0, [522, 520, 521, 46]),
  (yX8_say, cX8_say, 4, (some .int), 2, 1, 0, [541, 539, 540, 46]),
  (yX8_day, cX8_day, 1, (some .int), 1, 1, 0, [547, 545, 546, 46]),
  (yX8_cross, cX8_cross, 2, (some .int), 2, 1, 0, [551, 549, 550, 46]),
  (yX8_open, cX8_open, 4, (some .int), 3, 1, 0, [559, 557, 558, 46]),
  (yX8_change, cX8_change, 5, (some .int), 4, 1, 0, [563, 561, 562, 46]),
  (yX8_best, cX8_best, 4, (some .int), 3, 1, 0, [567, 565, 566, 46]),
  (yX8_live, cX8_live, 3, (some .int), 2, 1, 0, [597, 595, 596, 46]),
  (yX8_fog, cX8_fog, 6, (some .int), 5, 1, 0, [612, 610, 611, 46]),
  (yX8_see, cX8_see, 4, (some .int), 4, 1, 0, [622, 620, 621, 46]),
  (yX8_forget, cX8_forget, 2, (some .int), 1, 1, 0, [630, 628, 629, 46]),
  (yX8_years, cX8_years, 4, (some .int), 4, 1, 0, [634, 632, 633, 46]),
  (yX8_image, cX8_image, 1, (some .int), 1, 1, 0, [658, 656, 657, 46]),
  (yX8_restore, cX8_restore, 1, (some .int), 1, 1, 0, [671, 669, 670, 46]),
  (yX8_count, cX8_count, 2, (some .int), 2, 1, 0, [675, 673, 674, 46]),
  (yX8_digest, cX8_digest, 5, (some .long), 1, 1, 0, [684, 682, 683, 46]),
  (yX8_withDates, cX8_withDates, 7, (some .long), 2, 1, 0, [692, 691, 8, 46]),
  (yX9_in, cX9_in, 6, (some .boolean), 3, 0, 6, [827, 826, 0, 52]),
  (yX9_copy, cX9_copy, 3, none, 2, 0, 6, [935, 934, 0, 52]),
  (yX9_letter, cX9_letter, 2, (some .int), 2, 1, 6, [823, 821, 822, 52]),
  (yX9_blank, cX9_blank, 2, (some .int), 1, 1, 6, [831, 829, 830, 52]),
  (yX9_kindBy, cX9_kindBy, 1, (some .int), 1, 0, 6, [846, 845, 0, 52]),
  (yX9_isPersonLetter, cX9_isPersonLetter, 3, (some .boolean), 2, 1, 6, [843, 842, 10, 52]),
  (yX9_isPersonDigit, cX9_isPersonDigit, 2, (some .boolean), 2, 1, 6, [856, 855, 12, 52]),
  (yX9_isMatterLetter, cX9_isMatterLetter, 4, (some .boolean), 2, 1, 6, [852, 851, 11, 52]),
  (yX9_faultOf, cX9_faultOf, 2, (some .int), 1, 1, 6, [839, 838, 9, 52]),
  (yX9_fault, cX9_fault, 1, (some .int), 1, 1, 6, [835, 833, 834, 52]),
  (yX9_river, cX9_river, 3, (some .int), 1, 1, 6, [861, 859, 860, 52]),
  (yX9_lacks, cX9_lacks, 1, (some .boolean), 1, 1, 6, [961, 960, 30, 52]),
  (yX9_isPerson, cX9_isPerson, 2, (some .boolean), 2, 1, 6, [869, 868, 13, 52]),
  (yX9_isMatter, cX9_isMatter, 2, (some .boolean), 2, 1, 6, [924, 923, 23, 52]),
  (yX9_daysOf, cX9_daysOf, 2, (some .int), 2, 0, 6, [884, 883, 0, 52]),
  (yX9_layDate, cX9_layDate, 3, none, 2, 1, 6, [881, 880, 16, 52]),
  (yX9_isBankOn, cX9_isBankOn, 3, (some .boolean), 2, 1, 6, [892, 891, 18, 52]),
  (yX9_isSpeaking, cX9_isSpeaking, 4, (some .boolean), 4, 1, 6, [888, 887, 17, 52]),
  (yX9_maySpeak, cX9_maySpeak, 3, (some .boolean), 3, 1, 6, [877, 876, 15, 52]),
  (yX9_speakers, cX9_speakers, 4, (some .int), 2, 1, 6, [969, 968, 32, 52]),
  (yX9_ones, cX9_ones, 3, (some .int), 1, 0, 6, [911, 910, 0, 52]),
  (yX9_begin, cX9_begin, 1, none, 1, 1, 6, [932, 931, 25, 52]),
  (yX9_keep, cX9_keep, 1, none, 1, 1, 6, [977, 976, 33, 52]),
  (yX9_valueOf, cX9_valueOf, 6, (some .int), 3, 1, 6, [943, 942, 27, 52]),
  (yX9_canThen, cX9_canThen, 3, (some .boolean), 3, 1, 6, [939, 938, 26, 52]),
  (yX9_sayThen, cX9_sayThen, 3, (some .int), 3, 1, 6, [951, 950, 29, 52]),
  (yX9_speakingDays, cX9_speakingDays, 4, (some .int), 2, 1, 6, [896, 895, 19, 52]),
  (yX9_tellPerson, cX9_tellPerson, 3, (some .int), 3, 1, 6, [873, 872, 14, 52]),
  (yX9_person, cX9_person, 3, (some .int), 3, 1, 6, [865, 863, 864, 52]),
  (yX9_as, cX9_as, 4, (some .int), 3, 1, 6, [915, 913, 914, 52]),
  (yX9_soonOf, cX9_soonOf, 3, (some .int), 2, 1, 6, [947, 946, 28, 52]),
  (yX9_tellMatter, cX9_tellMatter, 3, (some .int), 3, 1, 6, [928, 927, 24, 52]),
  (yX9_matter, cX9_matter, 3, (some .int), 3, 1, 6, [920, 918, 919, 52]),
  (yX9_tellDate, cX9_tellDate, 3, (some .int), 3, 1, 6, [965, 964, 31, 52]),
  (yX9_date, cX9_date, 3, (some .int), 3, 1, 6, [955, 953, 954, 52]),
  (yX9_say, cX9_say, 3, (some .int), 2, 1, 6, [973, 971, 972, 52]),
  (yX9_day, cX9_day, 1, (some .int), 1, 1, 6, [981, 979, 980, 52]),
  (yX9_cross, cX9_cross, 4, (some .int), 2, 1, 6, [985, 983, 984, 52]),
  (yX9_open, cX9_open, 4, (some .int), 3, 1, 6, [989, 987, 988, 52]),
  (yX9_change, cX9_change, 5, (some .int), 4, 1, 6, [994, 992, 993, 52]),
  (yX9_figure, cX9_figure, 3, (some .int), 3, 0, 6, [1012, 1011, 0, 52]),
  (yX9_worthBy, cX9_worthBy, 7, (some .int), 3, 1, 6, [1009, 1008, 35, 52]),
  (yX9_bestOf, cX9_bestOf, 7, (some .int), 3, 1, 6, [1005, 1004, 34, 52]),
  (yX9_best, cX9_best, 3, (some .int), 3, 1, 6, [998, 996, 997, 52]),
  (yX9_settledBy, cX9_settledBy, 4, (some .int), 2, 1, 6, [1024, 1023, 37, 52]),
  (yX9_liveOf, cX9_liveOf, 7, (some .int), 2, 1, 6, [1020, 1019, 36, 52]),
  (yX9_live, cX9_live, 2, (some .int), 2, 1, 6, [1016, 1014, 1015, 52]),
  (yX9_fogOf, cX9_fogOf, 11, (some .int), 5, 1, 6, [1033, 1032, 38, 52]),
  (yX9_fog, cX9_fog, 5, (some .int), 5, 1, 6, [1028, 1026, 1027, 52]),
  (yX9_see, cX9_see, 4, (some .int), 4, 1, 6, [1037, 1035, 1036, 52]),
  (yX9_forget, cX9_forget, 2, (some .int), 1, 1, 6, [1042, 1040, 1041, 52]),
  (yX9_speakingSorts, cX9_speakingSorts, 5, (some .int), 3, 1, 6, [904, 903, 21, 52]),
  (yX9_sortsOf, cX9_sortsOf, 5, (some .int), 2, 1, 6, [900, 899, 20, 52]),
  (yX9_listenOf, cX9_listenOf, 9, (some .int), 2, 1, 6, [908, 907, 22, 52]),
  (yX9_draw, cX9_draw, 2, (some .int), 2, 1, 6, [1052, 1051, 39, 52]),
  (yX9_years, cX9_years, 9, (some .int), 4, 1, 6, [1046, 1044, 1045, 52]),
  (yX9_image, cX9_image, 1, (some .int), 1, 1, 6, [1060, 1058, 1059, 52]),
  (yX9_restore, cX9_restore, 1, (some .int), 1, 1, 6, [1064, 1062, 1063, 52]),
  (yX9_standing, cX9_standing, 4, (some .int), 2, 1, 6, [1080, 1079, 42, 52]),
  (yX9_onRight, cX9_onRight, 3, (some .int), 1, 1, 6, [1076, 1075, 41, 52]),
  (yX9_countOf, cX9_countOf, 2, (some .int), 2, 1, 6, [1072, 1071, 40, 52]),
  (yX9_count, cX9_count, 2, (some .int), 2, 1, 6, [1068, 1066, 1067, 52]),
  (yX9_mix, cX9_mix, 3, none, 2, 1, 6, [1089, 1088, 43, 52]),
  (yX9_sayRiver, cX9_sayRiver, 2, none, 1, 1, 6, [1093, 1092, 44, 52]),
  (yX9_digest, cX9_digest, 3, (some .long), 1, 1, 6, [1084, 1082, 1083, 52]),
  (yJ6_bitCount_0f7a4, cJ6_bitCount_0f7a4, 1, (some .int), 1, 0, 7, [464, 463, 0, 61]),
  (yJ0_indexOf_0f7a4, cJ0_indexOf_0f7a4, 2, (some .int), 2, 1, 7, [296, 294, 295, 53]),
  (yJ0_indexOf_7cf53, cJ0_indexOf_7cf53, 3, (some .int), 3, 1, 7, [300, 298, 299, 53]),
  (yJ0_isLatin1_aae02, cJ0_isLatin1_aae02, 1, (some .boolean), 1, 1, 7, [304, 302, 303, 53]),
  (yJ0_length_8abf5, cJ0_length_8abf5, 1, (some .int), 1, 1, 7, [310, 308, 309, 53]),
  (yJ0_coder_7d493, cJ0_coder_7d493, 1, (some .byte), 1, 1, 7, [314, 312, 313, 53]),
  (yJ1_indexOf_4cfef, cJ1_indexOf_4cfef, 4, (some .int), 4, 0, 7, [317, 316, 0, 54]),
  (yJ1_indexOfChar_4cfef, cJ1_indexOfChar_4cfef, 6, (some .int), 4, 0, 7, [329, 328, 0, 54]),
  (yJ1_canEncode_9a6ad, cJ1_canEncode_9a6ad, 1, (some .boolean), 1, 0, 7, [320, 319, 0, 54])]
def jv_pt : List (List (Option jE)) := [jp_L_law, jp_X0_yearOf, jp_X0_monthOf, jp_X0_dateOf, jp_X0_voicesOn, jp_X0_monthAndDate, jp_X1_run, jp_X1_passDay, jp_X1_draw, jp_X2_soonest, jp_X2_bestHomes, jp_X2_settledByTomorrow, jp_X2_settledBy, jp_X2_partsSettled, jp_X2_lowestTerms, jp_X3_append, jp_X3_firstFault, jp_X3_fitsPeople, jp_X3_fitsMatters, jp_X3_isWhole, jp_X3_peopleTold, jp_X3_readInto, jp_X3_kindOf, jp_X4_make, jp_X4_matterOn, jp_X4_search, jp_X4_keepIfBetter, jp_X4_howManyAsked, jp_X5_add, jp_X5_sortsLeft, jp_X5_copyFrom, jp_X6_isKind, jp_X6_speaking, jp_X7_hasRiver, jp_X7_knowsPerson, jp_X7_knowsMatter, jp_X7_begin, jp_X7_place, jp_X7_bankOf, jp_X7_speaks, jp_X7_speaksWith, jp_X7_speakersOn, jp_X7_speakersIf, jp_X7_speakingDays, jp_X7_possibleSorts, jp_X7_dayToListen, jp_X7_standing, jp_X7_howManyStand, jp_X7_askedSince, jp_X7_worthToday, jp_X7_canBeSaid, jp_X7_settledFor, jp_X7_reopenAskedBy, jp_X7_copyFrom, jp_X8_letter, jp_X8_blank, jp_X8_fault, jp_X8_river, jp_X8_person, jp_X8_as, jp_X8_matter, jp_X8_date, jp_X8_say, jp_X8_day, jp_X8_cross, jp_X8_open, jp_X8_change, jp_X8_best, jp_X8_live, jp_X8_fog, jp_X8_see, jp_X8_forget, jp_X8_years, jp_X8_image, jp_X8_restore, jp_X8_count, jp_X8_digest, jp_X8_withDates, jp_X9_in, jp_X9_copy, jp_X9_letter, jp_X9_blank, jp_X9_kindBy, jp_X9_isPersonLetter, jp_X9_isPersonDigit, jp_X9_isMatterLetter, jp_X9_faultOf, jp_X9_fault, jp_X9_river, jp_X9_lacks, jp_X9_isPerson, jp_X9_isMatter, jp_X9_daysOf, jp_X9_layDate, jp_X9_isBankOn, jp_X9_isSpeaking, jp_X9_maySpeak, jp_X9_speakers, jp_X9_ones, jp_X9_begin, jp_X9_keep, jp_X9_valueOf, jp_X9_canThen, jp_X9_sayThen, jp_X9_speakingDays, jp_X9_tellPerson, jp_X9_person, jp_X9_as, jp_X9_soonOf, jp_X9_tellMatter, jp_X9_matter, jp_X9_tellDate, jp_X9_date, jp_X9_say, jp_X9_day, jp_X9_cross, jp_X9_open, jp_X9_change, jp_X9_figure, jp_X9_worthBy, jp_X9_bestOf, jp_X9_best, jp_X9_settledBy, jp_X9_liveOf, jp_X9_live, jp_X9_fogOf, jp_X9_fog, jp_X9_see, jp_X9_forget, jp_X9_speakingSorts, jp_X9_sortsOf, jp_X9_listenOf, jp_X9_draw, jp_X9_years, jp_X9_image, jp_X9_restore, jp_X9_standing, jp_X9_onRight, jp_X9_countOf, jp_X9_count, jp_X9_mix, jp_X9_sayRiver, jp_X9_digest, jp_J6_bitCount_0f7a4, jp_J0_indexOf_0f7a4, jp_J0_indexOf_7cf53, jp_J0_isLatin1_aae02, jp_J0_length_8abf5, jp_J0_coder_7d493, jp_J1_indexOf_4cfef, jp_J1_indexOfChar_4cfef, jp_J1_canEncode_9a6ad]
def jv_cls : List vw_C := [(RX8, TX8, 7), (RX3, TX3, 2), (RX7, TX7, 13), (RX5, TX5, 4), (RX4, TX4, 8), (RX1, TX1, 4), (RX9, TX9, 39)]
def jv_shp : List jSh := [.inr (0, [3, 5, 17, 29, 34, 0, 0]), .inr (1, [4, 0]), .inl (44, .int), .inr (2, [6, 7, 8, 9, 10, 11, 12, 13, 0, 0, 0, 0, 0]), .inl (6, .int), .inl (6, .int), .inl (6, .int), .inl (5, .int), .inl (5, .int), .inl (5, .int), .inl (5, .int), .inr (3, [14, 15, 16, 0]), .inl (6, .int), .inl (6, .int), .inl (6, .boolean), .inr (2, [18, 19, 20, 21, 22, 23, 24, 25, 0, 0, 0, 0, 0]), .inl (6, .int), .inl (6, .int), .inl (6, .int), .inl (5, .int), .inl (5, .int), .inl (5, .int), .inl (5, .int), .inr (3, [26, 27, 28, 0]), .inl (6, .int), .inl (6, .int), .inl (6, .boolean), .inr (4, [30, 31, 32, 33, 0, 0, 0, 0]), .inl (5, .int), .inl (5, .int), .inl (5, .int), .inl (5, .int), .inr (5, [35, 0, 0, 0]), .inl (5, .int), .inr (6, [37, 0, 0, 0, 0, 0, 0, 0, 38, 39, 40, 41, 42, 43, 44, 45, 46, 0, 0, 0, 47, 48, 0, 49, 0, 50, 0, 0, 0, 0, 0, 51, 52, 53, 54, 55, 56, 57, 1]), .inl (44, .int), .inl (6, .int), .inl (6, .int), .inl (6, .int), .inl (6, .int), .inl (5, .int), .inl (5, .int), .inl (5, .int), .inl (5, .int), .inl (5, .int), .inl (5, .int), .inl (5, .int), .inl (6, .int), .inl (18, .int), .inl (6, .int), .inl (6, .int), .inl (6, .int), .inl (5, .int), .inl (5, .int), .inl (5, .int), .inl (18, .int)]
abbrev jv_NC : Nat := 56
theorem jv_layX8 : u_ws RX8 TX8 7 = ([250, 252, 254, 256, 258, 260, 262] : List Nat).filterMap (fun i => lw_tbl[i]?) := by decide +kernel
theorem jv_layX3 : u_ws RX3 TX3 2 = ([82, 84] : List Nat).filterMap (fun i => lw_tbl[i]?) := by decide +kernel
theorem jv_layX7 : u_ws RX7 TX7 13 = ([161, 163, 165, 167, 169, 171, 173, 175, 177, 179, 181, 183, 185] : List Nat).filterMap (fun i => lw_tbl[i]?) := by decide +kernel
theorem jv_layX5 : u_ws RX5 TX5 4 = ([106, 108, 110, 112] : List Nat).filterMap (fun i => lw_tbl[i]?) := by decide +kernel
theorem jv_layX4 : u_ws RX4 TX4 8 = ([204, 206, 208, 210, 212, 214, 216, 218] : List Nat).filterMap (fun i => lw_tbl[i]?) := by decide +kernel
theorem jv_layX1 : u_ws RX1 TX1 4 = ([234, 236, 238, 240] : List Nat).filterMap (fun i => lw_tbl[i]?) := by decide +kernel
theorem jv_layX9 : u_ws RX9 TX9 39 = ([741, 743, 745, 747, 749, 751, 753, 755, 757, 759, 761, 763, 765, 767, 769, 771, 773, 775, 777, 779, 781, 783, 785, 787, 789, 791, 793, 795, 797, 799, 801, 803, 805, 807, 809, 811, 813, 815, 817] : List Nat).filterMap (fun i => lw_tbl[i]?) := by decide +kernel
end
section
/-! the little machine: its tables are the program's -/
abbrev iI (n : Int) : Int32 := Int32.ofInt n
/-- how long an instruction is (0: a switch) -/
def jv_len : Instr → Nat
  | .bipush _ => 2 | .sipush _ => 3 | .iload _ => 2 | .lload _ => 2 | .aload _ => 2 | .istore _ => 2 | .lstore _ => 2 | .iinc _ _ => 3
  | .getfield _ => 3 | .putfield _ => 3 | .getstatic _ => 3 | .goto _ => 3 | .ifCond _ _ => 3 | .if_icmp _ _ => 3
  | .invokevirtual _ => 3 | .invokestatic _ => 3 | .ldc _ => 2 | .ldc_w _ => 3 | .ldc2_w _ => 3
  | .tableswitch _ _ _ _ => 0 | .lookupswitch _ _ => 0 | _ => 1
def jv_fl (own : String) (i ci k p : Nat) : Bool :=
  match jv_cls[ci]? with
  | some (_, T, n) => decide (k < n) && decide (lw_tbl[p]? = some (.fieldLink own i (T k).1 (T k).2.1 (T k).2.2.1))
  | none => decide (ci = 7) && decide (lw_tbl[p]? = some (.fieldLink own i "java/lang/String" (if k = 0 then "value" else "coder") (if k = 0 then "[B" else "B")))
def jv_ml (own : String) (i a p : Nat) : Bool :=
  if a = 1000 then decide (lw_tbl[p]? = some (.methodLink own i Lib.Math.max.name))
  else if a = 1001 then decide (lw_tbl[p]? = some (.methodLink own i Lib.Math.min.name))
  else if a = 1002 then decide (lw_tbl[p]? = some (.methodLink own i arraycopyName))
  else match jv_mt[a]? with
    | some m => decide (lw_tbl[p]? = some (.methodLink own i m.1))
    | none => false
def jv_chk (m : jM) (pc : Nat) (e : jE) : Bool :=
  let l := if jv_len e.1 = 0 then e.2.1 - pc else jv_len e.1
  decide (decode m.2.1 pc = .ok (e.1, l)) && decide (e.2.1 = pc + l) &&
  match e.1 with
  | .getfield i => jv_fl m.1.cls i e.2.2.1 e.2.2.2.1 e.2.2.2.2
  | .putfield i => jv_fl m.1.cls i e.2.2.1 e.2.2.2.1 e.2.2.2.2
  | .goto o => decide ((pc : Int) + o = (e.2.2.1 : Int))
  | .ifCond _ o => decide ((pc : Int) + o = (e.2.2.1 : Int))
  | .if_icmp _ o => decide ((pc : Int) + o = (e.2.2.1 : Int))
  | .invokevirtual i => jv_ml m.1.cls i e.2.2.1 e.2.2.2.2
  | .invokestatic i => jv_ml m.1.cls i e.2.2.1 e.2.2.2.2
  | .ldc i => if e.2.2.2.1 = 1 then decide (m.1.cls = "OddBank$Page" ∧ i = 64) else decide (lw_tbl[e.2.2.2.2]? = some (.constant m.1.cls i (Int32.ofNat e.2.2.1)))
  | .ldc_w i => decide (lw_tbl[e.2.2.2.2]? = some (.constant m.1.cls i (Int32.ofNat e.2.2.1)))
  | .ldc2_w i => decide (lw_tbl[e.2.2.2.2]? = some (.constantLong m.1.cls i (Int64.ofNat e.2.2.1)))
  | .getstatic i => if e.2.2.1 = 0 then decide (lw_tbl[e.2.2.2.2]? = some (.fieldLink m.1.cls i "OddBank$Calendar" "MONTHS" "[I")) else decide (lw_tbl[e.2.2.2.2]? = some (.fieldLink m.1.cls i "java/lang/String" "COMPACT_STRINGS" "Z"))
  | .bipush n => decide ((Int8.ofInt n).toInt32 = iI n)
  | .sipush n => decide ((Int16.ofInt n).toInt32 = iI n)
  | .tableswitch d lo hi offs => decide (hi = lo + offs.size - 1) && decide (-1000 ≤ lo ∧ hi ≤ 1000 ∧ lo ≤ hi) && decide (0 ≤ (pc : Int) + d) && offs.toList.all (fun o => decide (0 ≤ (pc : Int) + o))
  | .lookupswitch d ps => (ps.toList.zip (ps.toList.drop 1)).all (fun (a, next) => a.1 < next.1) && decide (0 ≤ (pc : Int) + d) && ps.toList.all (fun o => decide (0 ≤ (pc : Int) + o.2 ∧ -1000000 ≤ o.1 ∧ o.1 ≤ 1000000))
  | _ => true
def jv_ckt (m : jM) : Nat → List (Option jE) → Bool
  | _, [] => true
  | pc, none :: t => jv_ckt m (pc + 1) t
  | pc, some e :: t => jv_chk m pc e && jv_ckt m (pc + 1) t
theorem jk_t0 : ((jv_mt.zip jv_pt).take 1).all (fun q => jv_ckt q.1 0 q.2) = true := by decide +kernel
end
section
/-! the tables, checked -/
theorem jk_t1 : (((jv_mt.zip jv_pt).drop 1).take 13).all (fun q => jv_ckt q.1 0 q.2) = true := by decide +kernel
theorem jk_t14 : (((jv_mt.zip jv_pt).drop 14).take 13).all (fun q => jv_ckt q.1 0 q.2) = true := by decide +kernel
theorem jk_t27 : (((jv_mt.zip jv_pt).drop 27).take 13).all (fun q => jv_ckt q.1 0 q.2) = true := by decide +kernel
theorem jk_t40 : (((jv_mt.zip jv_pt).drop 40).take 13).all (fun q => jv_ckt q.1 0 q.2) = true := by decide +kernel
end
section
/-! the tables, checked -/
theorem jk_t53 : (((jv_mt.zip jv_pt).drop 53).take 13).all (fun q => jv_ckt q.1 0 q.2) = true := by decide +kernel
theorem jk_t66 : (((jv_mt.zip jv_pt).drop 66).take 13).all (fun q => jv_ckt q.1 0 q.2) = true := by decide +kernel
theorem jk_t79 : (((jv_mt.zip jv_pt).drop 79).take 13).all (fun q => jv_ckt q.1 0 q.2) = true := by decide +kernel
theorem jk_t92 : (((jv_mt.zip jv_pt).drop 92).take 13).all (fun q => jv_ckt q.1 0 q.2) = true := by decide +kernel
end
section
/-! the tables, checked -/
theorem jk_t105 : (((jv_mt.zip jv_pt).drop 105).take 13).all (fun q => jv_ckt q.1 0 q.2) = true := by decide +kernel
theorem jk_t118 : (((jv_mt.zip jv_pt).drop 118).take 13).all (fun q => jv_ckt q.1 0 q.2) = true := by decide +kernel
theorem jk_t131 : (((jv_mt.zip jv_pt).drop 131).take 13).all (fun q => jv_ckt q.1 0 q.2) = true := by decide +kernel
theorem jk_t144 : (((jv_mt.zip jv_pt).drop 144).take 8).all (fun q => jv_ckt q.1 0 q.2) = true := by decide +kernel
end
section
/-! the little machine: stores, frames, one step as a predicate transformer, the least fixed point -/
abbrev jSt : Type := (Nat → Nat → Int32) × Int64 × Nat × (Nat → Int32)
abbrev jFr : Type := Nat × Nat × List (Option Value) × List Value × jSt
abbrev jPo : Type := Option Value → jSt → Prop
def jv_a (σ : jSt) (c : Nat) (f : Nat → Int32) : jSt := (fun a => if a = c then f else σ.1 a, σ.2)
def jv_u (σ : jSt) (c k : Nat) (x : Int32) : jSt := jv_a σ c (upd (σ.1 c) k x)
def jv_h (σ : jSt) (x : Int64) : jSt := (σ.1, x, σ.2.2)
def jv_mon (j : Nat) : Int32 := ([31, 28, 31, 30, 31, 30, 31, 31, 30, 31, 30, 31] : List Int32).getD j 0
def jv_byt (j : Nat) : Int32 := ([112, 109, 116, 100, 102] : List Int32).getD j 0
def jv_prog (mi pc : Nat) : Option jE := match jv_pt[mi]? with
  | some t => match t[pc]? with
    | some e => e
    | none => none
  | none => none
def jk_i (st : List Value) (k : Int32 → List Value → Prop) : Prop := match st with
  | .int x :: r => k x r
  | _ => False
def jk_ii (st : List Value) (k : Int32 → Int32 → List Value → Prop) : Prop := match st with
  | .int y :: .int x :: r => k x y r
  | _ => False
def jk_l (st : List Value) (k : Int64 → List Value → Prop) : Prop := match st with
  | .long x :: r => k x r
  | _ => False
def jk_ll (st : List Value) (k : Int64 → Int64 → List Value → Prop) : Prop := match st with
  | .long y :: .long x :: r => k x y r
  | _ => False
def jk_r (st : List Value) (k : Nat → List Value → Prop) : Prop := match st with
  | .ref x :: r => k x r
  | _ => False
def jk_ir (st : List Value) (k : Int32 → Nat → List Value → Prop) : Prop := match st with
  | .int i :: .ref x :: r => k i x r
  | _ => False
def jk_iir (st : List Value) (k : Int32 → Int32 → Nat → List Value → Prop) : Prop := match st with
  | .int v :: .int i :: .ref x :: r => k v i x r
  | _ => False
def jk_li (ls : List (Option Value)) (i : Nat) (k : Int32 → Prop) : Prop := match ls[i]? with
  | some (some (.int x)) => k x
  | _ => False
def jk_ll' (ls : List (Option Value)) (i : Nat) (k : Int64 → Prop) : Prop := match ls[i]? with
  | some (some (.long x)) => k x
  | _ => False
def jk_lr (ls : List (Option Value)) (i : Nat) (k : Nat → Prop) : Prop := match ls[i]? with
  | some (some (.ref x)) => k x
  | _ => False
/-- the slot ahead of place i holds a long: it is gone when i is written -/
def jv_cut (ls : List (Option Value)) (i : Nat) : List (Option Value) := match i with
  | 0 => ls
  | j + 1 => match ls[j]? with
    | some (some (.long _)) => ls.set j none
    | some (some (.double _)) => ls.set j none
    | _ => ls
def jk_st : List (Option Value) → Nat → Value → (List (Option Value) → Prop) → Prop
  | [], _, _, _ => False
  | _ :: r, 0, v, k => k (some v :: r)
  | [_], 1, _, _ => False
  | x :: _ :: r, 1, v, k => (match x with
    | some (.long _) => k (none :: some v :: r)
    | some (.double _) => k (none :: some v :: r)
    | _ => k (x :: some v :: r))
  | x :: r, i + 2, v, k => jk_st r (i + 1) v (fun r => k (x :: r))
def jk_st2 : List (Option Value) → Nat → Value → (List (Option Value) → Prop) → Prop
  | _ :: _ :: r, 0, v, k => k (some v :: none :: r)
  | x :: _ :: _ :: r, 1, v, k => (match x with
    | some (.long _) => k (none :: some v :: none :: r)
    | some (.double _) => k (none :: some v :: none :: r)
    | _ => k (x :: some v :: none :: r))
  | x :: r, i + 2, v, k => jk_st2 r (i + 1) v (fun r => k (x :: r))
  | _, _, _, _ => False
def jv_pop : Nat → List Value → List Value → (List Value → List Value → Prop) → Prop
  | 0, st, acc, k => k acc st
  | n + 1, v :: st, acc, k => jv_pop n st (v :: acc) k
  | _ + 1, [], _, _ => False
/-- a switch: keys and offsets -/
def jv_sw (x : Int32) (lf : Int → Prop) : List (Int × Int) → Int → Prop
  | [], d => lf d
  | (k, o) :: r, d => (x = iI k → lf o) ∧ (¬ x = iI k → jv_sw x lf r d)
def jv_keys : Int → List Int → List (Int × Int)
  | _, [] => []
  | k, o :: r => (k, o) :: jv_keys (k + 1) r
def jv_ald (σ : jSt) (i : Int32) (c : Nat) (k : Int32 → Prop) : Prop := match jv_shp[c]? with
  | some (.inl (n, .int)) => vp_in i n ∧ k (σ.1 c i.toNatClampNeg)
  | some _ => False
  | none => if c = 56 then vp_in i σ.2.2.1 ∧ k (σ.2.2.2 i.toNatClampNeg) else if c = 57 then vp_in i 12 ∧ k (jv_mon i.toNatClampNeg) else False
def jv_ast (σ : jSt) (x i : Int32) (c : Nat) (k : jSt → Prop) : Prop := match jv_shp[c]? with
  | some (.inl (n, .int)) => vp_in i n ∧ k (jv_u σ c i.toNatClampNeg x)
  | _ => False
def jv_bld (σ : jSt) (i : Int32) (c : Nat) (k : Int32 → Prop) : Prop := match jv_shp[c]? with
  | some (.inl (n, .boolean)) => vp_in i n ∧ k (σ.1 c i.toNatClampNeg)
  | some _ => False
  | none => if c = 59 then vp_in i 5 ∧ k (jv_byt i.toNatClampNeg) else False
def jv_bst (σ : jSt) (x i : Int32) (c : Nat) (k : jSt → Prop) : Prop := match jv_shp[c]? with
  | some (.inl (n, .boolean)) => vp_in i n ∧ (x = 0 ∨ x = 1) ∧ k (jv_u σ c i.toNatClampNeg x)
  | _ => False
def jv_aln (σ : jSt) (c : Nat) (k : Int32 → Prop) : Prop := match jv_shp[c]? with
  | some (.inl (n, _)) => k (Int32.ofNat n)
  | some _ => False
  | none => if c = 56 then k (Int32.ofNat σ.2.2.1) else if c = 57 then k (Int32.ofNat 12) else if c = 59 then k (Int32.ofNat 5) else False
def jv_gf (σ : jSt) (c ci j : Nat) (k : Value → Prop) : Prop := match jv_shp[c]? with
  | some (.inr (cj, fs)) => if cj = ci then (match fs[j]? with
    | some 0 => k (.int (σ.1 c j))
    | some 1 => k (.long σ.2.1)
    | some (n + 2) => k (.ref n)
    | none => False) else False
  | some _ => False
  | none => if c = 58 ∧ ci = 7 then (if j = 0 then k (.ref 59) else if j = 1 then k (.int 0) else False) else False
def jv_pf (σ : jSt) (v : Value) (c ci j : Nat) (k : jSt → Prop) : Prop := match jv_shp[c]? with
  | some (.inr (cj, fs)) => if cj = ci then (match fs[j]?, v with
    | some 0, .int x => k (jv_u σ c j x)
    | some 1, .long x => k (jv_h σ x)
    | _, _ => False) else False
  | _ => False
def jv_slots : List Value → List (Option Value)
  | [] => []
  | .long x :: r => some (.long x) :: none :: jv_slots r
  | .double x :: r => some (.double x) :: none :: jv_slots r
  | v :: r => some v :: jv_slots r
def jv_pad (n : Nat) (l : List (Option Value)) : List (Option Value) := l ++ List.replicate (n - l.length) none
def jv_maxL (mi : Nat) : Nat := match jv_mt[mi]? with
  | some m => m.2.2.1
  | none => 0
def jv_en (mi : Nat) (as : List Value) (σ : jSt) : jFr := (mi, 0, jv_pad (jv_maxL mi) (jv_slots as), [], σ)
def jv_rcv (ci : Nat) (as : List Value) : Bool := match as with
  | .ref c :: _ => match jv_shp[c]? with
    | some (.inr (cj, _)) => cj == ci
    | some _ => false
    | none => c == 58 && ci == 7
  | _ => false
def jv_cpy (σ : jSt) (st : List Value) (k : jSt → List Value → Prop) : Prop := match st with
  | .int n :: .int dp :: .ref b :: .int sp :: .ref a :: r => match jv_shp[a]?, jv_shp[b]? with
    | some (.inl (n0, .int)), some (.inl (n1, .int)) => (¬ sp < 0 ∧ ¬ dp < 0 ∧ ¬ n < 0 ∧ sp.toNatClampNeg + n.toNatClampNeg ≤ n0 ∧ dp.toNatClampNeg + n.toNatClampNeg ≤ n1 ∧ (r.map fun v => v.category).sum ≤ 8) ∧ k (jv_a σ b (va_cpy (σ.1 a) (σ.1 b) sp.toNatClampNeg dp.toNatClampNeg n.toNatClampNeg)) r
    | _, _ => False
  | _ => False
def jv_cI (call : Nat → List Value → jSt → jPo → Prop) (a : Nat) (as : List Value) (σ : jSt) (k : Int32 → jSt → Prop) : Prop := call a as σ (fun r σ' => ∃ x, r = some (.int x) ∧ k x σ')
def jv_cL (call : Nat → List Value → jSt → jPo → Prop) (a : Nat) (as : List Value) (σ : jSt) (k : Int64 → jSt → Prop) : Prop := call a as σ (fun r σ' => ∃ x, r = some (.long x) ∧ k x σ')
def jv_cV (call : Nat → List Value → jSt → jPo → Prop) (a : Nat) (as : List Value) (σ : jSt) (k : jSt → Prop) : Prop := call a as σ (fun r σ' => r = none ∧ k σ')
def jv_inv (call : Nat → List Value → jSt → jPo → Prop) (vir : Bool) (a : Nat) (st : List Value) (σ : jSt) (nx : List Value → jSt → Prop) : Prop := match jv_mt[a]? with
  | some (_, _, ml, ret, n, kind, ci, _) => jv_pop n st [] (fun as r =>
    if (kind == 1) == vir && decide (a ≠ 0) && decide ((jv_slots as).length ≤ ml) && decide ((r.map fun v => v.category).sum ≤ 8) && (!vir || jv_rcv ci as) then
      (match ret with
      | none => jv_cV call a as σ (fun σ' => nx r σ')
      | some .long => jv_cL call a as σ (fun x σ' => nx (.long x :: r) σ')
      | some _ => jv_cI call a as σ (fun x σ' => nx (.int x :: r) σ'))
    else False)
  | none => False
def jv_ret (mi : Nat) (post : jPo) (st : List Value) (σ : jSt) : Prop := match jv_mt[mi]?, st with
  | some (_, _, _, some .int, _), [.int x] => post (some (.int x)) σ
  | some (_, _, _, some .boolean, _), [.int x] => (x = 0 ∨ x = 1) ∧ post (some (.int x)) σ
  | some (_, _, _, some .byte, _), [.int x] => x = 0 ∧ post (some (.int x)) σ
  | _, _ => False
def jv_ex (call : Nat → List Value → jSt → jPo → Prop) (leaf : jFr → Prop) (post : jPo) (mi pc : Nat) (e : jE) (ls : List (Option Value)) (st : List Value) (σ : jSt) : Prop := match e.1 with
  | .iconst n => leaf (mi, e.2.1, ls, .int (iI n) :: st, σ)
  | .bipush n => leaf (mi, e.2.1, ls, .int (iI n) :: st, σ)
  | .sipush n => leaf (mi, e.2.1, ls, .int (iI n) :: st, σ)
  | .lconst n => leaf (mi, e.2.1, ls, .long (Int64.ofNat n.val) :: st, σ)
  | .ldc _ => if e.2.2.2.1 = 1 then leaf (mi, e.2.1, ls, .ref 58 :: st, σ) else leaf (mi, e.2.1, ls, .int (Int32.ofNat e.2.2.1) :: st, σ)
  | .ldc_w _ => leaf (mi, e.2.1, ls, .int (Int32.ofNat e.2.2.1) :: st, σ)
  | .ldc2_w _ => leaf (mi, e.2.1, ls, .long (Int64.ofNat e.2.2.1) :: st, σ)
  | .iload_n i => jk_li ls i.val (fun x => leaf (mi, e.2.1, ls, .int x :: st, σ))
  | .iload i => jk_li ls i (fun x => leaf (mi, e.2.1, ls, .int x :: st, σ))
  | .lload_n i => jk_ll' ls i.val (fun x => leaf (mi, e.2.1, ls, .long x :: st, σ))
  | .lload i => jk_ll' ls i (fun x => leaf (mi, e.2.1, ls, .long x :: st, σ))
  | .aload_n i => jk_lr ls i.val (fun x => leaf (mi, e.2.1, ls, .ref x :: st, σ))
  | .istore_n i => jk_i st (fun x r => jk_st ls i.val (.int x) (fun ls => leaf (mi, e.2.1, ls, r, σ)))
  | .istore i => jk_i st (fun x r => jk_st ls i (.int x) (fun ls => leaf (mi, e.2.1, ls, r, σ)))
  | .lstore_n i => jk_l st (fun x r => jk_st2 ls i.val (.long x) (fun ls => leaf (mi, e.2.1, ls, r, σ)))
  | .iinc i n => jk_li ls i (fun x => jk_st ls i (.int (x + iI n)) (fun ls => leaf (mi, e.2.1, ls, st, σ)))
  | .iadd => jk_ii st (fun x y r => leaf (mi, e.2.1, ls, .int (x + y) :: r, σ))
  | .isub => jk_ii st (fun x y r => leaf (mi, e.2.1, ls, .int (x - y) :: r, σ))
  | .imul => jk_ii st (fun x y r => leaf (mi, e.2.1, ls, .int (x * y) :: r, σ))
  | .iand => jk_ii st (fun x y r => leaf (mi, e.2.1, ls, .int (x &&& y) :: r, σ))
  | .ior => jk_ii st (fun x y r => leaf (mi, e.2.1, ls, .int (x ||| y) :: r, σ))
  | .ixor => jk_ii st (fun x y r => leaf (mi, e.2.1, ls, .int (x ^^^ y) :: r, σ))
  | .ishl => jk_ii st (fun x y r => leaf (mi, e.2.1, ls, .int (x <<< (y &&& 31)) :: r, σ))
  | .ishr => jk_ii st (fun x y r => leaf (mi, e.2.1, ls, .int (x >>> (y &&& 31)) :: r, σ))
  | .iushr => jk_ii st (fun x y r => leaf (mi, e.2.1, ls, .int (x.toUInt32 >>> (y.toUInt32 &&& Int32.toUInt32 31)).toInt32 :: r, σ))
  | .idiv => jk_ii st (fun x y r => ¬ y = 0 ∧ leaf (mi, e.2.1, ls, .int (x / y) :: r, σ))
  | .irem => jk_ii st (fun x y r => ¬ y = 0 ∧ leaf (mi, e.2.1, ls, .int (x - x / y * y) :: r, σ))
  | .ladd => jk_ll st (fun x y r => leaf (mi, e.2.1, ls, .long (x + y) :: r, σ))
  | .lmul => jk_ll st (fun x y r => leaf (mi, e.2.1, ls, .long (x * y) :: r, σ))
  | .land => jk_ll st (fun x y r => leaf (mi, e.2.1, ls, .long (x &&& y) :: r, σ))
  | .lcmp => jk_ll st (fun x y r => leaf (mi, e.2.1, ls, .int (lg_cmp x y) :: r, σ))
  | .i2l => jk_i st (fun x r => leaf (mi, e.2.1, ls, .long x.toInt64 :: r, σ))
  | .l2i => jk_l st (fun x r => leaf (mi, e.2.1, ls, .int x.toInt32 :: r, σ))
  | .i2c => jk_i st (fun x r => leaf (mi, e.2.1, ls, .int (x.toUInt32 % 65536).toInt32 :: r, σ))
  | .i2b => jk_i st (fun x r => leaf (mi, e.2.1, ls, .int x.toInt8.toInt32 :: r, σ))
  | .dup => (match st with
    | .int x :: r => leaf (mi, e.2.1, ls, .int x :: .int x :: r, σ)
    | .ref x :: r => leaf (mi, e.2.1, ls, .ref x :: .ref x :: r, σ)
    | _ => False)
  | .pop => jk_i st (fun _ r => leaf (mi, e.2.1, ls, r, σ))
  | .goto _ => leaf (mi, e.2.2.1, ls, st, σ)
  | .ifCond .eq _ => jk_i st (fun x r => (x = 0 → leaf (mi, e.2.2.1, ls, r, σ)) ∧ (¬ x = 0 → leaf (mi, e.2.1, ls, r, σ)))
  | .ifCond .ne _ => jk_i st (fun x r => (¬ x = 0 → leaf (mi, e.2.2.1, ls, r, σ)) ∧ (x = 0 → leaf (mi, e.2.1, ls, r, σ)))
  | .ifCond .lt _ => jk_i st (fun x r => (x < 0 → leaf (mi, e.2.2.1, ls, r, σ)) ∧ (¬ x < 0 → leaf (mi, e.2.1, ls, r, σ)))
  | .ifCond .ge _ => jk_i st (fun x r => (0 ≤ x → leaf (mi, e.2.2.1, ls, r, σ)) ∧ (¬ 0 ≤ x → leaf (mi, e.2.1, ls, r, σ)))
  | .ifCond .gt _ => jk_i st (fun x r => (0 < x → leaf (mi, e.2.2.1, ls, r, σ)) ∧ (¬ 0 < x → leaf (mi, e.2.1, ls, r, σ)))
  | .ifCond .le _ => jk_i st (fun x r => (x ≤ 0 → leaf (mi, e.2.2.1, ls, r, σ)) ∧ (¬ x ≤ 0 → leaf (mi, e.2.1, ls, r, σ)))
  | .if_icmp .eq _ => jk_ii st (fun x y r => (x = y → leaf (mi, e.2.2.1, ls, r, σ)) ∧ (¬ x = y → leaf (mi, e.2.1, ls, r, σ)))
  | .if_icmp .ne _ => jk_ii st (fun x y r => (¬ x = y → leaf (mi, e.2.2.1, ls, r, σ)) ∧ (x = y → leaf (mi, e.2.1, ls, r, σ)))
  | .if_icmp .lt _ => jk_ii st (fun x y r => (x < y → leaf (mi, e.2.2.1, ls, r, σ)) ∧ (¬ x < y → leaf (mi, e.2.1, ls, r, σ)))
  | .if_icmp .ge _ => jk_ii st (fun x y r => (y ≤ x → leaf (mi, e.2.2.1, ls, r, σ)) ∧ (¬ y ≤ x → leaf (mi, e.2.1, ls, r, σ)))
  | .if_icmp .gt _ => jk_ii st (fun x y r => (y < x → leaf (mi, e.2.2.1, ls, r, σ)) ∧ (¬ y < x → leaf (mi, e.2.1, ls, r, σ)))
  | .if_icmp .le _ => jk_ii st (fun x y r => (x ≤ y → leaf (mi, e.2.2.1, ls, r, σ)) ∧ (¬ x ≤ y → leaf (mi, e.2.1, ls, r, σ)))
  | .tableswitch d lo _ offs => jk_i st (fun x r => jv_sw x (fun o => leaf (mi, ((pc : Int) + o).toNat, ls, r, σ)) (jv_keys lo offs.toList) d)
  | .lookupswitch d ps => jk_i st (fun x r => jv_sw x (fun o => leaf (mi, ((pc : Int) + o).toNat, ls, r, σ)) ps.toList d)
  | .getfield _ => jk_r st (fun c r => jv_gf σ c e.2.2.1 e.2.2.2.1 (fun v => leaf (mi, e.2.1, ls, v :: r, σ)))
  | .putfield _ => (match st with
    | v :: .ref c :: r => jv_pf σ v c e.2.2.1 e.2.2.2.1 (fun σ => leaf (mi, e.2.1, ls, r, σ))
    | _ => False)
  | .getstatic _ => if e.2.2.1 = 0 then leaf (mi, e.2.1, ls, .ref 57 :: st, σ) else leaf (mi, e.2.1, ls, .int 1 :: st, σ)
  | .iaload => jk_ir st (fun i c r => jv_ald σ i c (fun x => leaf (mi, e.2.1, ls, .int x :: r, σ)))
  | .iastore => jk_iir st (fun x i c r => jv_ast σ x i c (fun σ => leaf (mi, e.2.1, ls, r, σ)))
  | .baload => jk_ir st (fun i c r => jv_bld σ i c (fun x => leaf (mi, e.2.1, ls, .int x :: r, σ)))
  | .bastore => jk_iir st (fun x i c r => jv_bst σ x i c (fun σ => leaf (mi, e.2.1, ls, r, σ)))
  | .arraylength => jk_r st (fun c r => jv_aln σ c (fun x => leaf (mi, e.2.1, ls, .int x :: r, σ)))
  | .invokevirtual _ => jv_inv call true e.2.2.1 st σ (fun st σ => leaf (mi, e.2.1, ls, st, σ))
  | .invokestatic _ => if e.2.2.1 = 1000 then jk_ii st (fun x y r => (r.map fun v => v.category).sum ≤ 8 ∧ leaf (mi, e.2.1, ls, .int (if x < y then y else x) :: r, σ))
    else if e.2.2.1 = 1001 then jk_ii st (fun x y r => (r.map fun v => v.category).sum ≤ 8 ∧ leaf (mi, e.2.1, ls, .int (if y < x then y else x) :: r, σ))
    else if e.2.2.1 = 1002 then jv_cpy σ st (fun σ r => leaf (mi, e.2.1, ls, r, σ))
    else jv_inv call false e.2.2.1 st σ (fun st σ => leaf (mi, e.2.1, ls, st, σ))
  | .ireturn => jv_ret mi post st σ
  | .lreturn => (match jv_mt[mi]?, st with
    | some (_, _, _, some .long, _), [.long x] => post (some (.long x)) σ
    | _, _ => False)
  | .return_ => (match jv_mt[mi]?, st with
    | some (_, _, _, none, _), [] => post none σ
    | _, _ => False)
  | _ => False
def jv_tr (call : Nat → List Value → jSt → jPo → Prop) (leaf : jFr → Prop) (post : jPo) (fr : jFr) : Prop := match jv_prog fr.1 fr.2.1 with
  | some e => jv_ex call leaf post fr.1 fr.2.1 e fr.2.2.1 fr.2.2.2.1 fr.2.2.2.2
  | none => False
def jv_cl (X : Nat → jPo → jFr → Prop) (d : Nat) : Nat → List Value → jSt → jPo → Prop := fun mi as σ Q => match d with
  | 0 => False
  | d + 1 => X d Q (jv_en mi as σ)
/-- the least X that is closed under a step backwards -/
def jv_wp (d : Nat) (post : jPo) (fr : jFr) : Prop := ∀ X : Nat → jPo → jFr → Prop, (∀ d post fr, jv_tr (jv_cl X d) (X d post) post fr → X d post fr) → X d post fr
/-- steps as many as n, up to a place of 'cuts' -/
def jv_go : Nat → List Nat → Nat → jPo → jFr → Prop
  | 0, _, d, post, fr => jv_wp d post fr
  | n + 1, cuts, d, post, fr => jv_tr (jv_cl jv_wp d) (fun fr' => if cuts.contains fr'.2.1 then jv_wp d post fr' else jv_go n cuts d post fr') post fr
section JM
variable {σ : jSt} {st : List Value} {ls : List (Option Value)} {c ci i j : Nat} {x z : Int32} {v : Value}
theorem jk_i_m {k k' : Int32 → List Value → Prop} (h : ∀ x r, k x r → k' x r) (q : jk_i st k) : jk_i st k' := by
  unfold jk_i at *; split at q
  · exact h _ _ q
  · exact q.elim
theorem jk_ii_m {k k' : Int32 → Int32 → List Value → Prop} (h : ∀ x y r, k x y r → k' x y r) (q : jk_ii st k) : jk_ii st k' := by
  unfold jk_ii at *; split at q
  · exact h _ _ _ q
  · exact q.elim
theorem jk_l_m {k k' : Int64 → List Value → Prop} (h : ∀ x r, k x r → k' x r) (q : jk_l st k) : jk_l st k' := by
  unfold jk_l at *; split at q
  · exact h _ _ q
  · exact q.elim
theorem jk_ll_m {k k' : Int64 → Int64 → List Value → Prop} (h : ∀ x y r, k x y r → k' x y r) (q : jk_ll st k) : jk_ll st k' := by
  unfold jk_ll at *; split at q
  · exact h _ _ _ q
  · exact q.elim
theorem jk_r_m {k k' : Nat → List Value → Prop} (h : ∀ x r, k x r → k' x r) (q : jk_r st k) : jk_r st k' := by
  unfold jk_r at *; split at q
  · exact h _ _ q
  · exact q.elim
theorem jk_ir_m {k k' : Int32 → Nat → List Value → Prop} (h : ∀ x y r, k x y r → k' x y r) (q : jk_ir st k) : jk_ir st k' := by
  unfold jk_ir at *; split at q
  · exact h _ _ _ q
  · exact q.elim
theorem jk_iir_m {k k' : Int32 → Int32 → Nat → List Value → Prop} (h : ∀ x y z r, k x y z r → k' x y z r) (q : jk_iir st k) : jk_iir st k' := by
  unfold jk_iir at *; split at q
  · exact h _ _ _ _ q
  · exact q.elim
theorem jk_li_m {k k' : Int32 → Prop} (h : ∀ x, k x → k' x) (q : jk_li ls i k) : jk_li ls i k' := by
  unfold jk_li at *; split at q
  · exact h _ q
  · exact q.elim
theorem jk_ll'_m {k k' : Int64 → Prop} (h : ∀ x, k x → k' x) (q : jk_ll' ls i k) : jk_ll' ls i k' := by
  unfold jk_ll' at *; split at q
  · exact h _ q
  · exact q.elim
theorem jk_lr_m {k k' : Nat → Prop} (h : ∀ x, k x → k' x) (q : jk_lr ls i k) : jk_lr ls i k' := by
  unfold jk_lr at *; split at q
  · exact h _ q
  · exact q.elim
theorem jk_st_m' {v : Value} : ∀ (ls : List (Option Value)) (i : Nat) (k k' : List (Option Value) → Prop), (∀ x, k x → k' x) → jk_st ls i v k → jk_st ls i v k'
  | [], _, _, _, _, q => q.elim
  | [_], 0, _, _, h, q => h _ q
  | _ :: _ :: _, 0, _, _, h, q => h _ q
  | [_], 1, _, _, _, q => q.elim
  | x :: y :: r, 1, k, k', h, q => by
    simp only [jk_st] at q ⊢
    split at q <;> exact h _ q
  | [x], i + 2, k, k', h, q => (show False from q).elim
  | x :: y :: r, i + 2, k, k', h, q => jk_st_m' (y :: r) (i + 1) (fun r => k (x :: r)) (fun r => k' (x :: r)) (fun _ w => h _ w) q
theorem jk_st_m {k k' : List (Option Value) → Prop} (h : ∀ x, k x → k' x) (q : jk_st ls i v k) : jk_st ls i v k' := jk_st_m' ls i k k' h q
theorem jk_st2_m' {v : Value} : ∀ (ls : List (Option Value)) (i : Nat) (k k' : List (Option Value) → Prop), (∀ x, k x → k' x) → jk_st2 ls i v k → jk_st2 ls i v k'
  | [], 0, _, _, _, q => q.elim
  | [], 1, _, _, _, q => q.elim
  | [], _ + 2, _, _, _, q => q.elim
  | [_], 0, _, _, _, q => q.elim
  | [_, _], 0, _, _, h, q => h _ q
  | _ :: _ :: _ :: _, 0, _, _, h, q => h _ q
  | [_], 1, _, _, _, q => q.elim
  | [_, _], 1, _, _, _, q => q.elim
  | x :: y :: z :: r, 1, k, k', h, q => by
    simp only [jk_st2] at q ⊢
    split at q <;> exact h _ q
  | [x], 2, k, k', h, q => (show False from q).elim
  | [x], i + 3, k, k', h, q => (show False from q).elim
  | [x, y], i + 2, k, k', h, q => jk_st2_m' [y] (i + 1) (fun r => k (x :: r)) (fun r => k' (x :: r)) (fun _ w => h _ w) q
  | x :: y :: z :: r, i + 2, k, k', h, q => jk_st2_m' (y :: z :: r) (i + 1) (fun r => k (x :: r)) (fun r => k' (x :: r)) (fun _ w => h _ w) q
theorem jk_st2_m {k k' : List (Option Value) → Prop} (h : ∀ x, k x → k' x) (q : jk_st2 ls i v k) : jk_st2 ls i v k' := jk_st2_m' ls i k k' h q
theorem jv_pop_m {k k' : List Value → List Value → Prop} (h : ∀ x r, k x r → k' x r) : ∀ (n : Nat) (st acc : List Value), jv_pop n st acc k → jv_pop n st acc k'
  | 0, st, acc, q => h _ _ q
  | n + 1, v :: st, acc, q => jv_pop_m h n st (v :: acc) q
  | _ + 1, [], _, q => q.elim
theorem jv_pop_to {k : List Value → List Value → Prop} : ∀ (n : Nat) (st acc : List Value), jv_pop n st acc k → (st.take n).length = n ∧ k ((st.take n).reverse ++ acc) (st.drop n)
  | 0, st, acc, q => ⟨by simp, by simpa [jv_pop] using q⟩
  | n + 1, v :: st, acc, q => by
    obtain ⟨h1, h2⟩ := jv_pop_to n st (v :: acc) q
    refine ⟨by simpa using h1, ?_⟩
    simpa using h2
  | _ + 1, [], _, q => q.elim
theorem jv_sw_m {lf lf' : Int → Prop} (h : ∀ x, lf x → lf' x) : ∀ (l : List (Int × Int)) (d : Int), jv_sw x lf l d → jv_sw x lf' l d
  | [], d, q => h d q
  | (k, o) :: r, d, q => ⟨fun e => h o (q.1 e), fun e => jv_sw_m h r d (q.2 e)⟩
theorem jv_ald_m {k k' : Int32 → Prop} (h : ∀ x, k x → k' x) (q : jv_ald σ x c k) : jv_ald σ x c k' := by
  unfold jv_ald at *; split at q
  · exact ⟨q.1, h _ q.2⟩
  · exact q.elim
  · split at q
    · next e => rw [if_pos e]; exact ⟨q.1, h _ q.2⟩
    · next e =>
      rw [if_neg e]
      split at q
      · next e => rw [if_pos e]; exact ⟨q.1, h _ q.2⟩
      · exact q.elim
theorem jv_bld_m {k k' : Int32 → Prop} (h : ∀ x, k x → k' x) (q : jv_bld σ x c k) : jv_bld σ x c k' := by
  unfold jv_bld at *; split at q
  · exact ⟨q.1, h _ q.2⟩
  · exact q.elim
  · split at q
    · next e => rw [if_pos e]; exact ⟨q.1, h _ q.2⟩
    · exact q.elim
theorem jv_ast_m {k k' : jSt → Prop} (h : ∀ x, k x → k' x) (q : jv_ast σ z x c k) : jv_ast σ z x c k' := by
  unfold jv_ast at *; split at q
  · exact ⟨q.1, h _ q.2⟩
  · exact q.elim
theorem jv_bst_m {k k' : jSt → Prop} (h : ∀ x, k x → k' x) (q : jv_bst σ z x c k) : jv_bst σ z x c k' := by
  unfold jv_bst at *; split at q
  · exact ⟨q.1, q.2.1, h _ q.2.2⟩
  · exact q.elim
theorem jv_aln_m {k k' : Int32 → Prop} (h : ∀ x, k x → k' x) (q : jv_aln σ c k) : jv_aln σ c k' := by
  unfold jv_aln at *; split at q
  · exact h _ q
  · exact q.elim
  · split at q
    · next e => rw [if_pos e]; exact h _ q
    · next e =>
      rw [if_neg e]
      split at q
      · next e => rw [if_pos e]; exact h _ q
      · next e =>
        rw [if_neg e]
        split at q
        · next e => rw [if_pos e]; exact h _ q
        · exact q.elim
theorem jv_gf_m {k k' : Value → Prop} (h : ∀ x, k x → k' x) (q : jv_gf σ c ci j k) : jv_gf σ c ci j k' := by
  unfold jv_gf at *; split at q
  · split at q
    · next e =>
      rw [if_pos e]
      split at q <;> first | exact h _ q | exact q.elim
    · exact q.elim
  · exact q.elim
  · split at q
    · next e =>
      rw [if_pos e]
      split at q
      · next e => rw [if_pos e]; exact h _ q
      · next e =>
        rw [if_neg e]
        split at q
        · next e => rw [if_pos e]; exact h _ q
        · exact q.elim
    · exact q.elim
theorem jv_pf_m {k k' : jSt → Prop} (h : ∀ x, k x → k' x) (q : jv_pf σ v c ci j k) : jv_pf σ v c ci j k' := by
  unfold jv_pf at *; split at q
  · split at q
    · next e =>
      rw [if_pos e]
      split at q <;> first | exact h _ q | exact q.elim
    · exact q.elim
  · exact q.elim
theorem jv_cpy_m {k k' : jSt → List Value → Prop} (h : ∀ x r, k x r → k' x r) (q : jv_cpy σ st k) : jv_cpy σ st k' := by
  unfold jv_cpy at *; split at q
  · split at q
    · exact ⟨q.1, h _ _ q.2⟩
    · exact q.elim
  · exact q.elim
theorem jv_ret_m {mi : Nat} {k k' : jPo} (h : ∀ x r, k x r → k' x r) (q : jv_ret mi k st σ) : jv_ret mi k' st σ := by
  unfold jv_ret at *; split at q
  · exact h _ _ q
  · exact ⟨q.1, h _ _ q.2⟩
  · exact ⟨q.1, h _ _ q.2⟩
  · exact q.elim
theorem jv_inv_m {call call' : Nat → List Value → jSt → jPo → Prop} {vir : Bool} {a : Nat} {nx nx' : List Value → jSt → Prop} (hc : ∀ (mi : Nat) (as : List Value) (σ : jSt) (Q Q' : jPo), (∀ r σ, Q r σ → Q' r σ) → call mi as σ Q → call' mi as σ Q') (h : ∀ x r, nx x r → nx' x r) (q : jv_inv call vir a st σ nx) : jv_inv call' vir a st σ nx' := by
  unfold jv_inv at *; split at q
  · refine jv_pop_m (fun as r q => ?_) _ _ _ q
    split at q
    · next e =>
      rw [if_pos e]
      split at q
      · exact hc _ _ _ _ _ (fun r σ w => ⟨w.1, h _ _ w.2⟩) q
      · exact hc _ _ _ _ _ (fun r σ w => w.elim fun x w => ⟨x, w.1, h _ _ w.2⟩) q
      · exact hc _ _ _ _ _ (fun r σ w => w.elim fun x w => ⟨x, w.1, h _ _ w.2⟩) q
    · exact q.elim
  · exact q.elim
end JM
set_option maxHeartbeats 4000000 in
theorem jv_ex_m {call call' : Nat → List Value → jSt → jPo → Prop} {leaf leaf' : jFr → Prop} {post post' : jPo} {mi pc : Nat} {e : jE} {ls : List (Option Value)} {st : List Value} {σ : jSt}
    (hc : ∀ (mi : Nat) (as : List Value) (σ : jSt) (Q Q' : jPo), (∀ r σ, Q r σ → Q' r σ) → call mi as σ Q → call' mi as σ Q') (hl : ∀ fr, leaf fr → leaf' fr) (hp : ∀ r σ, post r σ → post' r σ)
    (q : jv_ex call leaf post mi pc e ls st σ) : jv_ex call' leaf' post' mi pc e ls st σ := by
  obtain ⟨i, np, a, b, c⟩ := e
  cases i
  all_goals first
    | exact q.elim
    | exact hl _ q
    | exact jk_li_m (fun _ w => hl _ w) q
    | exact jk_ll'_m (fun _ w => hl _ w) q
    | exact jk_lr_m (fun _ w => hl _ w) q
    | exact jk_i_m (fun _ _ w => hl _ w) q
    | exact jk_i_m (fun _ _ w => jk_st_m (fun _ w => hl _ w) w) q
    | exact jk_l_m (fun _ _ w => hl _ w) q
    | exact jk_l_m (fun _ _ w => jk_st2_m (fun _ w => hl _ w) w) q
    | exact jk_li_m (fun _ w => jk_st_m (fun _ w => hl _ w) w) q
    | exact jk_ii_m (fun _ _ _ w => hl _ w) q
    | exact jk_ii_m (fun _ _ _ w => ⟨w.1, hl _ w.2⟩) q
    | exact jk_ll_m (fun _ _ _ w => hl _ w) q
    | exact jk_i_m (fun _ _ w => jv_sw_m (fun _ w => hl _ w) _ _ w) q
    | exact jk_r_m (fun _ _ w => jv_gf_m (fun _ w => hl _ w) w) q
    | exact jk_ir_m (fun _ _ _ w => jv_ald_m (fun _ w => hl _ w) w) q
    | exact jk_ir_m (fun _ _ _ w => jv_bld_m (fun _ w => hl _ w) w) q
    | exact jk_iir_m (fun _ _ _ _ w => jv_ast_m (fun _ w => hl _ w) w) q
    | exact jk_iir_m (fun _ _ _ _ w => jv_bst_m (fun _ w => hl _ w) w) q
    | exact jk_r_m (fun _ _ w => jv_aln_m (fun _ w => hl _ w) w) q
    | exact jv_inv_m hc (fun _ _ w => hl _ w) q
    | exact jv_ret_m hp q
    | skip
  case if_icmp cd o =>
    cases cd <;> exact jk_ii_m (fun _ _ _ w => ⟨fun e => hl _ (w.1 e), fun e => hl _ (w.2 e)⟩) q
  case ifCond cd o =>
    cases cd <;> exact jk_i_m (fun _ _ w => ⟨fun e => hl _ (w.1 e), fun e => hl _ (w.2 e)⟩) q
  case getstatic =>
    simp only [jv_ex] at q ⊢
    split at q
    · next e => rw [if_pos e]; exact hl _ q
    · next e => rw [if_neg e]; exact hl _ q
  case ldc =>
    simp only [jv_ex] at q ⊢
    split at q
    · next e => rw [if_pos e]; exact hl _ q
    · next e => rw [if_neg e]; exact hl _ q
  case invokestatic =>
    simp only [jv_ex] at q ⊢
    split at q
    · next e => rw [if_pos e]; exact jk_ii_m (fun _ _ _ w => ⟨w.1, hl _ w.2⟩) q
    · next e =>
      rw [if_neg e]
      split at q
      · next e => rw [if_pos e]; exact jk_ii_m (fun _ _ _ w => ⟨w.1, hl _ w.2⟩) q
      · next e =>
        rw [if_neg e]
        split at q
        · next e => rw [if_pos e]; exact jv_cpy_m (fun _ _ w => hl _ w) q
        · next e => rw [if_neg e]; exact jv_inv_m hc (fun _ _ w => hl _ w) q
  all_goals
    simp only [jv_ex] at q ⊢
    repeat' split at q
    all_goals first
      | exact q.elim
      | exact hl _ q
      | exact hp _ _ q
      | exact jv_pf_m (fun _ w => hl _ w) q
      | exact jv_inv_m hc (fun _ _ w => hl _ w) q
theorem jv_tr_m {call call' : Nat → List Value → jSt → jPo → Prop} {leaf leaf' : jFr → Prop} {post post' : jPo} {fr : jFr}
    (hc : ∀ (mi : Nat) (as : List Value) (σ : jSt) (Q Q' : jPo), (∀ r σ, Q r σ → Q' r σ) → call mi as σ Q → call' mi as σ Q') (hl : ∀ fr, leaf fr → leaf' fr) (hp : ∀ r σ, post r σ → post' r σ)
    (q : jv_tr call leaf post fr) : jv_tr call' leaf' post' fr := by
  unfold jv_tr at *
  split at q
  · exact jv_ex_m hc hl hp q
  · exact q.elim
theorem jv_wp_con {d : Nat} {post post' : jPo} {fr : jFr} (h : jv_wp d post fr) (hp : ∀ r σ, post r σ → post' r σ) : jv_wp d post' fr := by
  refine h (fun d post fr => ∀ post' : jPo, (∀ r σ, post r σ → post' r σ) → jv_wp d post' fr) ?_ post' hp
  intro d post fr q post' hp X hX
  refine hX _ _ _ (jv_tr_m ?_ (fun fr w => w post' hp X hX) hp q)
  intro mi as σ Q Q' hQ w
  match d, w with
  | d + 1, w => exact w Q' hQ X hX
theorem jv_wp_tr {d : Nat} {post : jPo} {fr : jFr} (h : jv_tr (jv_cl jv_wp d) (jv_wp d post) post fr) : jv_wp d post fr := by
  intro X hX
  refine hX _ _ _ (jv_tr_m ?_ (fun fr w => w X hX) (fun _ _ w => w) h)
  intro mi as σ Q Q' hQ w
  match d, w with
  | d + 1, w => exact jv_wp_con w hQ X hX
theorem jv_go_ok : ∀ (n : Nat) (cuts : List Nat) (d : Nat) (post : jPo) (fr : jFr), jv_go n cuts d post fr → jv_wp d post fr
  | 0, _, _, _, _, h => h
  | n + 1, cuts, d, post, fr, h => by
    refine jv_wp_tr (jv_tr_m ?_ ?_ (fun _ _ w => w) h)
    · intro mi as σ Q Q' hQ w
      match d, w with
      | d + 1, w => exact jv_wp_con w hQ
    · intro fr w
      split at w
      · exact w
      · exact jv_go_ok n cuts d post fr w
end
section
/-! what the tables say of methods, classes and the few words of the JDK -/
def jv_Tg : List Cond := lw_tbl.filter goodWord
theorem jv_inTg {p : Nat} {w : Cond} (h : lw_tbl[p]? = some w) (hg : goodWord w = true) : w ∈ jv_Tg := List.mem_filter.mpr ⟨List.mem_of_getElem? h, hg⟩
theorem jv_good {ws : List Cond} (h : ∀ w ∈ ws, w ∈ jv_Tg) : GoodIn jv_Tg ws := fun w hw => ⟨(h w hw), good_of_word (List.mem_filter.mp (h w hw)).2⟩
def jv_ws (m : jM) : List Cond := .code m.1 m.2.1 m.2.2.1 m.2.2.2.1 :: jv_Tg
def jv_ckm (m : jM) : Bool :=
  decide (lw_tbl[m.2.2.2.2.2.2.2.getD 0 0]? = some (.code m.1 m.2.1 m.2.2.1 m.2.2.2.1)) &&
  (if m.2.2.2.2.2.1 = 0 then decide (lw_tbl[m.2.2.2.2.2.2.2.getD 1 0]? = some (.static m.1)) else
    decide (m.2.2.2.2.2.1 = 1) && decide (lw_tbl[m.2.2.2.2.2.2.2.getD 1 0]? = some (.instanceMethod m.1)) && decide (lw_tbl[m.2.2.2.2.2.2.2.getD 2 0]? = some (.selects m.1.cls m.1 m.1)) &&
    (match jv_cls[m.2.2.2.2.2.2.1]? with
    | some q => decide (q.1 = m.1.cls)
    | none => decide (m.2.2.2.2.2.2.1 = 7) && decide (m.1.cls = "java/lang/String"))) &&
  decide (lw_tbl[m.2.2.2.2.2.2.2.getD 3 0]? = some (.initialized m.1.cls)) &&
  decide (m.1.cls ≠ "java/lang/invoke/MethodHandle" ∧ m.1.cls ≠ "java/lang/invoke/VarHandle" ∧ (parseMethodDescriptor m.1.desc).map (fun d => d.parameters.length) = some (m.2.2.2.2.1 - m.2.2.2.2.2.1)) &&
  plainFor m.1 && decide (m.2.2.1 ≤ 20) && decide (m.2.2.2.2.2.1 ≤ m.2.2.2.2.1) && (match m.2.2.2.1 with
    | none => true
    | some .int => true
    | some .long => true
    | some .boolean => true
    | some .byte => true
    | _ => false)
theorem jv_cm1 : ((jv_mt.drop 1).take 13).all jv_ckm = true := by decide +kernel
theorem jv_cm14 : ((jv_mt.drop 14).take 13).all jv_ckm = true := by decide +kernel
theorem jv_cm27 : ((jv_mt.drop 27).take 13).all jv_ckm = true := by decide +kernel
theorem jv_cm40 : ((jv_mt.drop 40).take 13).all jv_ckm = true := by decide +kernel
theorem jv_cm53 : ((jv_mt.drop 53).take 13).all jv_ckm = true := by decide +kernel
theorem jv_cm66 : ((jv_mt.drop 66).take 13).all jv_ckm = true := by decide +kernel
theorem jv_cm79 : ((jv_mt.drop 79).take 13).all jv_ckm = true := by decide +kernel
theorem jv_cm92 : ((jv_mt.drop 92).take 13).all jv_ckm = true := by decide +kernel
theorem jv_cm105 : ((jv_mt.drop 105).take 13).all jv_ckm = true := by decide +kernel
theorem jv_cm118 : ((jv_mt.drop 118).take 13).all jv_ckm = true := by decide +kernel
theorem jv_cm131 : ((jv_mt.drop 131).take 13).all jv_ckm = true := by decide +kernel
theorem jv_cm144 : ((jv_mt.drop 144).take 8).all jv_ckm = true := by decide +kernel
theorem jv_wc {p : Nat} {w : Cond} (h : (decide (lw_tbl[p]? = some w) && goodWord w) = true) : w ∈ jv_Tg := by
  rw [Bool.and_eq_true, decide_eq_true_eq] at h
  exact jv_inTg h.1 h.2
end
section
/-! facts of the tables, put together; the worlds of stores -/
section JF
theorem jv_alls {α : Type} {l : List α} {f : α → Bool} {a n : Nat} (h1 : ((l.drop a).take n).all f = true) (h2 : (l.drop (a + n)).all f = true) : (l.drop a).all f = true := by
  rw [← List.take_append_drop n (l.drop a), List.all_append, h1, List.drop_drop, h2]; rfl
theorem jv_allz : (jv_mt.zip jv_pt).all (fun q => jv_ckt q.1 0 q.2) = true := by
  have h : ((jv_mt.zip jv_pt).drop 0).all (fun q => jv_ckt q.1 0 q.2) = true :=
    jv_alls (a := 0) (n := 1) jk_t0 (jv_alls jk_t1 (jv_alls jk_t14 (jv_alls jk_t27 (jv_alls jk_t40 (jv_alls jk_t53 (jv_alls jk_t66 (jv_alls jk_t79 (jv_alls jk_t92 (jv_alls jk_t105 (jv_alls jk_t118 (jv_alls jk_t131 (jv_alls jk_t144 (by decide +kernel)))))))))))))
  exact h
theorem jv_allm : (jv_mt.drop 1).all jv_ckm = true :=
    jv_alls jv_cm1 (jv_alls jv_cm14 (jv_alls jv_cm27 (jv_alls jv_cm40 (jv_alls jv_cm53 (jv_alls jv_cm66 (jv_alls jv_cm79 (jv_alls jv_cm92 (jv_alls jv_cm105 (jv_alls jv_cm118 (jv_alls jv_cm131 (jv_alls jv_cm144 (by decide +kernel))))))))))))
theorem jv_ckt_at {m : jM} {e : jE} : ∀ (t : List (Option jE)) (k i : Nat), jv_ckt m k t = true → t[i]? = some (some e) → jv_chk m (k + i) e = true
  | [], k, i, _, h => by simp at h
  | none :: t, k, 0, _, h => by simp at h
  | none :: t, k, i + 1, h, h2 => by
    have := jv_ckt_at t (k + 1) i h (by simpa using h2)
    rwa [show k + 1 + i = k + (i + 1) by omega] at this
  | some e' :: t, k, 0, h, h2 => by
    simp only [jv_ckt, Bool.and_eq_true] at h
    simp at h2; subst h2; exact h.1
  | some e' :: t, k, i + 1, h, h2 => by
    simp only [jv_ckt, Bool.and_eq_true] at h
    have := jv_ckt_at t (k + 1) i h.2 (by simpa using h2)
    rwa [show k + 1 + i = k + (i + 1) by omega] at this
theorem jv_lens : jv_mt.length = 152 ∧ jv_pt.length = 152 := by decide +kernel
theorem jv_prog_chk {mi pc : Nat} {e : jE} (h : jv_prog mi pc = some e) : ∃ m, jv_mt[mi]? = some m ∧ jv_chk m pc e = true := by
  unfold jv_prog at h
  split at h
  · next t ht =>
    split at h
    · next e' he =>
      subst h
      have hl : mi < 152 := by rw [← jv_lens.2]; exact (List.getElem?_eq_some_iff.mp ht).1
      obtain ⟨m, hm⟩ : ∃ m, jv_mt[mi]? = some m := ⟨_, List.getElem?_eq_getElem (by rw [jv_lens.1]; exact hl)⟩
      refine ⟨m, hm, ?_⟩
      have hz : (jv_mt.zip jv_pt)[mi]? = some (m, t) := by rw [List.getElem?_zip_eq_some]; exact ⟨hm, ht⟩
      have := List.all_eq_true.mp jv_allz _ (List.mem_of_getElem? hz)
      have := jv_ckt_at t 0 pc this he
      rwa [Nat.zero_add] at this
    · cases h
  · cases h
theorem jv_mt_ok {a : Nat} {m : jM} (h : jv_mt[a]? = some m) (ha : a ≠ 0) : jv_ckm m = true := by
  refine List.all_eq_true.mp jv_allm _ (List.mem_of_getElem? (i := a - 1) ?_)
  rw [List.getElem?_drop, show 1 + (a - 1) = a by omega]; exact h
theorem jv_mt_f {a : Nat} {m : jM} (h : jv_mt[a]? = some m) (ha : a ≠ 0) :
    Cond.code m.1 m.2.1 m.2.2.1 m.2.2.2.1 ∈ jv_Tg ∧
    ((m.2.2.2.2.2.1 = 0 ∧ Cond.static m.1 ∈ jv_Tg) ∨ (m.2.2.2.2.2.1 = 1 ∧ Cond.instanceMethod m.1 ∈ jv_Tg ∧ Cond.selects m.1.cls m.1 m.1 ∈ jv_Tg ∧
      ((∃ q, jv_cls[m.2.2.2.2.2.2.1]? = some q ∧ q.1 = m.1.cls) ∨ (jv_cls[m.2.2.2.2.2.2.1]? = none ∧ m.2.2.2.2.2.2.1 = 7 ∧ m.1.cls = "java/lang/String")))) ∧
    Cond.initialized m.1.cls ∈ jv_Tg ∧
    (m.1.cls ≠ "java/lang/invoke/MethodHandle" ∧ m.1.cls ≠ "java/lang/invoke/VarHandle" ∧ (parseMethodDescriptor m.1.desc).map (fun d => d.parameters.length) = some (m.2.2.2.2.1 - m.2.2.2.2.2.1)) ∧
    plainFor m.1 = true ∧ m.2.2.1 ≤ 20 ∧ m.2.2.2.2.2.1 ≤ m.2.2.2.2.1 := by
  have hc := jv_mt_ok h ha
  unfold jv_ckm at hc
  simp only [Bool.and_eq_true, decide_eq_true_eq] at hc
  obtain ⟨⟨⟨⟨⟨⟨⟨h1, h2⟩, h3⟩, h4⟩, h5⟩, h6⟩, h7⟩, -⟩ := hc
  refine ⟨jv_inTg h1 rfl, ?_, jv_inTg h3 rfl, h4, h5, h6, h7⟩
  split at h2
  · next e => exact Or.inl ⟨e, jv_inTg (decide_eq_true_eq.mp h2) rfl⟩
  · simp only [Bool.and_eq_true, decide_eq_true_eq] at h2
    obtain ⟨⟨⟨a1, a2⟩, a3⟩, a4⟩ := h2
    refine Or.inr ⟨a1, jv_inTg a2 rfl, jv_inTg a3 rfl, ?_⟩
    split at a4
    · next q hq => exact Or.inl ⟨q, hq, decide_eq_true_eq.mp a4⟩
    · next hq =>
      simp only [Bool.and_eq_true, decide_eq_true_eq] at a4
      exact Or.inr ⟨hq, a4.1, a4.2⟩
theorem jv_lay {ws : List Cond} {ps : List Nat} (h : ws = ps.filterMap (fun i => lw_tbl[i]?)) (hg : ws.all goodWord = true) : ∀ w ∈ ws, w ∈ jv_Tg := by
  intro w hw
  have hg := List.all_eq_true.mp hg w hw
  rw [h] at hw
  obtain ⟨i, -, hi⟩ := List.mem_filterMap.mp hw
  exact jv_inTg hi hg
theorem jv_cls_f {ci N : Nat} {C : String} {T : u_T} (h : jv_cls[ci]? = some (C, T, N)) : (∀ w ∈ u_ws C T N, w ∈ jv_Tg) ∧ ∃ ty : Nat → FieldType, (∀ k, k < N → parseFieldDescriptor (T k).2.2.1 = some (ty k)) ∧ (∀ a, a < N → ∀ b, b < N → a ≠ b → (T a).2.1 ≠ (T b).2.1) := by
  match ci, h with
  | 0, h => cases h; exact ⟨jv_lay jv_layX8 (by decide +kernel), tyX8, tyX8_ok, nmX8⟩
  | 1, h => cases h; exact ⟨jv_lay jv_layX3 (by decide +kernel), tyX3, tyX3_ok, nmX3⟩
  | 2, h => cases h; exact ⟨jv_lay jv_layX7 (by decide +kernel), tyX7, tyX7_ok, nmX7⟩
  | 3, h => cases h; exact ⟨jv_lay jv_layX5 (by decide +kernel), tyX5, tyX5_ok, nmX5⟩
  | 4, h => cases h; exact ⟨jv_lay jv_layX4 (by decide +kernel), tyX4, tyX4_ok, nmX4⟩
  | 5, h => cases h; exact ⟨jv_lay jv_layX1 (by decide +kernel), tyX1, tyX1_ok, nmX1⟩
  | 6, h => cases h; exact ⟨jv_lay jv_layX9 (by decide +kernel), tyX9, tyX9_ok, nmX9⟩
  | n + 7, h => simp [jv_cls] at h
end JF
def jv_c (ad : Nat → Nat) : Value → Value
  | .ref k => .ref (ad k)
  | v => v
theorem jv_c_cat (ad : Nat → Nat) (v : Value) : (jv_c ad v).category = v.category := by cases v <;> rfl
theorem jv_c_sum (ad : Nat → Nat) (l : List Value) : ((l.map (jv_c ad)).map fun v => v.category).sum = (l.map fun v => v.category).sum := by
  rw [List.map_map]; congr 1; exact List.map_congr_left (fun v _ => jv_c_cat ad v)
def jv_fv (ad : Nat → Nat) (σ : jSt) (c k fd : Nat) : Value := match fd with
  | 0 => .int (σ.1 c k)
  | 1 => .long σ.2.1
  | n + 2 => .ref (ad n)
def jv_cell (ad : Nat → Nat) (cA : Nat → ClassId) (σ : jSt) (c : Nat) (sh : jSh) : va_E := match sh with
  | .inl (n, _) => .inl (cA c, n, .inl (σ.1 c))
  | .inr (ci, fs) => .inr (ci, fs.mapIdx (fun k fd => jv_fv ad σ c k fd))
def jv_W (ad : Nat → Nat) (cA : Nat → ClassId) (σ : jSt) : va_W := jv_shp.mapIdx (fun c sh => (ad c, jv_cell ad cA σ c sh))
def jv_ty (sh : jSh) : FieldType := match sh with
  | .inl (_, ty) => ty
  | .inr _ => .int
def jv_tys (cA : Nat → ClassId) : List (ClassId × FieldType) := jv_shp.mapIdx (fun c sh => (cA c, jv_ty sh))
section JW
variable {ad : Nat → Nat} {cA : Nat → ClassId} {σ σ' : jSt} {c k ci n : Nat} {sh : jSh} {ty : FieldType}
theorem jv_W_at (h : jv_shp[c]? = some sh) : (jv_W ad cA σ)[c]? = some (ad c, jv_cell ad cA σ c sh) := by
  simp [jv_W, List.getElem?_mapIdx, h]
theorem jv_W_ix {j : Nat} {q : Nat × va_E} (h : (jv_W ad cA σ)[j]? = some q) : ∃ sh, jv_shp[j]? = some sh ∧ q = (ad j, jv_cell ad cA σ j sh) := by
  simp only [jv_W, List.getElem?_mapIdx] at h
  cases hs : jv_shp[j]? with
  | none => rw [hs] at h; cases h
  | some sh => rw [hs] at h; exact ⟨sh, rfl, (Option.some.inj h).symm⟩
theorem jv_tys_at (h : jv_shp[c]? = some sh) : (jv_tys cA)[c]? = some (cA c, jv_ty sh) := by
  simp [jv_tys, List.getElem?_mapIdx, h]
theorem jv_cell_g (h1 : σ.1 c = σ'.1 c) (h2 : σ.2.1 = σ'.2.1) : jv_cell ad cA σ c sh = jv_cell ad cA σ' c sh := by
  unfold jv_cell
  split
  · rw [h1]
  · congr 2
    congr 1
    funext k fd
    unfold jv_fv
    split
    · rw [h1]
    · rw [h2]
    · rfl
theorem jv_W_set {e : va_E} (h : jv_shp[c]? = some sh) (hc : jv_cell ad cA σ' c sh = e) (ho : ∀ j sh', j ≠ c → jv_shp[j]? = some sh' → jv_cell ad cA σ' j sh' = jv_cell ad cA σ j sh') : (jv_W ad cA σ).set c (ad c, e) = jv_W ad cA σ' := by
  apply List.ext_getElem?
  intro j
  rw [List.getElem?_set]
  by_cases hj : c = j
  · subst hj
    have hl : c < (jv_W ad cA σ).length := (List.getElem?_eq_some_iff.mp (jv_W_at (ad := ad) (cA := cA) (σ := σ) h)).1
    rw [if_pos rfl, if_pos hl, jv_W_at h, hc]
  · rw [if_neg hj]
    simp only [jv_W, List.getElem?_mapIdx]
    cases hs : jv_shp[j]? with
    | none => rfl
    | some sh' => simp only [Option.map_some]; rw [ho j sh' (fun e => hj e.symm) hs]
theorem jv_a_ne {f : Nat → Int32} {j : Nat} (h : j ≠ c) : (jv_a σ c f).1 j = σ.1 j := if_neg h
theorem jv_a_eq {f : Nat → Int32} : (jv_a σ c f).1 c = f := if_pos rfl
theorem jv_W_arr {f : Nat → Int32} (h : jv_shp[c]? = some (.inl (n, ty))) : (jv_W ad cA σ).set c (ad c, .inl (cA c, n, .inl f)) = jv_W ad cA (jv_a σ c f) :=
  jv_W_set h (by simp [jv_cell, jv_a_eq]) (fun j sh' hj _ => jv_cell_g (jv_a_ne hj) rfl)
theorem jv_W_fld {x : Int32} {fs : List Nat} (h : jv_shp[c]? = some (.inr (ci, fs))) (hk : fs[k]? = some 0) : (jv_W ad cA σ).set c (ad c, .inr (ci, (fs.mapIdx (fun k fd => jv_fv ad σ c k fd)).set k (.int x))) = jv_W ad cA (jv_u σ c k x) := by
  refine jv_W_set h ?_ (fun j sh' hj _ => jv_cell_g (jv_a_ne hj) rfl)
  show (Sum.inr (ci, List.mapIdx (fun k_1 fd => jv_fv ad (jv_u σ c k x) c k_1 fd) fs) : va_E) = _
  congr 2
  apply List.ext_getElem?
  intro j
  rw [List.getElem?_set]
  by_cases hj : k = j
  · subst hj
    have hl : k < fs.length := (List.getElem?_eq_some_iff.mp hk).1
    rw [if_pos rfl, if_pos (by simpa using hl)]
    simp [List.getElem?_mapIdx, hk, jv_fv, jv_u, jv_a, upd]
  · rw [if_neg hj]
    simp only [List.getElem?_mapIdx]
    cases fs[j]? with
    | none => rfl
    | some fd =>
      simp only [Option.map_some, jv_fv]
      have : (jv_u σ c k x).1 c j = σ.1 c j := by
        simp only [jv_u, jv_a, if_true, upd]; rw [if_neg (fun e => hj e.symm)]
      split
      · rw [this]
      · rfl
      · rfl
theorem jv_one : jv_shp.zipIdx.all (fun q => match q.1 with
    | .inl _ => true
    | .inr (_, fs) => fs.zipIdx.all (fun f => decide (f.1 = 1 → q.2 = 34 ∧ f.2 = 38))) = true := by decide +kernel
theorem jv_one' {fs : List Nat} (h : jv_shp[c]? = some (.inr (ci, fs))) (hk : fs[k]? = some 1) : c = 34 ∧ k = 38 := by
  have h1 := List.all_eq_true.mp jv_one (.inr (ci, fs), c) (List.mem_of_getElem? (i := c) (by simp [List.getElem?_zipIdx, h]))
  have h2 := List.all_eq_true.mp h1 (1, k) (List.mem_of_getElem? (i := k) (by simp [List.getElem?_zipIdx, hk]))
  simpa using h2
theorem jv_W_long {x : Int64} {fs : List Nat} (h : jv_shp[c]? = some (.inr (ci, fs))) (hk : fs[k]? = some 1) : (jv_W ad cA σ).set c (ad c, .inr (ci, (fs.mapIdx (fun k fd => jv_fv ad σ c k fd)).set k (.long x))) = jv_W ad cA (jv_h σ x) := by
  refine jv_W_set h ?_ (fun j sh' hj hs => ?_)
  · show (Sum.inr (ci, List.mapIdx (fun k_1 fd => jv_fv ad (jv_h σ x) c k_1 fd) fs) : va_E) = _
    congr 2
    apply List.ext_getElem?
    intro j
    rw [List.getElem?_set]
    by_cases hj : k = j
    · subst hj
      have hl : k < fs.length := (List.getElem?_eq_some_iff.mp hk).1
      rw [if_pos rfl, if_pos (by simpa using hl)]
      simp [List.getElem?_mapIdx, hk, jv_fv, jv_h]
    · rw [if_neg hj]
      simp only [List.getElem?_mapIdx]
      cases hf : fs[j]? with
      | none => rfl
      | some fd =>
        simp only [Option.map_some, jv_fv]
        split
        · rfl
        · exact absurd ((jv_one' h hk).2.trans (jv_one' h hf).2.symm) hj
        · rfl
  · unfold jv_cell
    split
    · rfl
    · next ci' fs' =>
      congr 2
      apply List.ext_getElem?
      intro i
      simp only [List.getElem?_mapIdx]
      cases hf : fs'[i]? with
      | none => rfl
      | some fd =>
        simp only [Option.map_some, jv_fv]
        split
        · rfl
        · exact absurd ((jv_one' hs hf).1.trans (jv_one' h hk).1.symm) hj
        · rfl
end JW
end
section
/-! locals, frozen cells, the machine's context of a frame -/
def jv_loc (ad : Nat → Nat) (lsA : Array Slot) (n : Nat) (ls : List (Option Value)) : Prop := ls.length = n ∧ lsA.size = n ∧ lv_wf lsA ∧ ∀ (i : Nat) (v : Value), ls[i]? = some (some v) → lsA[i]? = some (.val (jv_c ad v))
def jv_al (ad : Nat → Nat) (ls : List (Option Value)) : List (Nat × Value) := (List.range ls.length).filterMap (fun i => match ls[i]? with
  | some (some v) => some (i, jv_c ad v)
  | _ => none)
theorem jv_al_in {ad : Nat → Nat} {ls : List (Option Value)} {i : Nat} {v : Value} (h : ls[i]? = some (some v)) : (i, jv_c ad v) ∈ jv_al ad ls := by
  refine List.mem_filterMap.mpr ⟨i, List.mem_range.mpr (List.getElem?_eq_some_iff.mp h).1, ?_⟩
  rw [h]
theorem jv_loc_has {ad : Nat → Nat} {lsA : Array Slot} {n : Nat} {ls : List (Option Value)} (h : jv_loc ad lsA n ls) : lv_has lsA n (jv_al ad ls) := by
  refine ⟨h.2.1, h.2.2.1, fun q hq => ?_⟩
  obtain ⟨i, -, hi⟩ := List.mem_filterMap.mp hq
  split at hi
  · next v hv => cases hi; exact h.2.2.2 i v hv
  · cases hi
theorem jv_cut_at {ls : List (Option Value)} {i j : Nat} {v : Value} (h : (jv_cut ls i)[j]? = some (some v)) : ls[j]? = some (some v) ∧ ¬ (j + 1 = i ∧ v.category = 2) := by
  unfold jv_cut at h
  split at h
  · exact ⟨h, fun e => by omega⟩
  · next k =>
    split at h
    · next x hx =>
      rw [List.getElem?_set] at h
      split at h
      · split at h <;> cases h
      · next hk => exact ⟨h, fun e => hk (by omega)⟩
    · next x hx =>
      rw [List.getElem?_set] at h
      split at h
      · split at h <;> cases h
      · next hk => exact ⟨h, fun e => hk (by omega)⟩
    · next h1 h2 =>
      refine ⟨h, fun e => ?_⟩
      have e1 : j = k := by omega
      subst e1
      cases v <;> simp [Value.category] at e
      · exact h1 _ h
      · exact h2 _ h
theorem jv_cut_len {ls : List (Option Value)} {i : Nat} : (jv_cut ls i).length = ls.length := by
  unfold jv_cut
  split
  · rfl
  · split <;> simp
theorem jv_cut_cons {x : Option Value} {r : List (Option Value)} {i : Nat} : jv_cut (x :: r) (i + 2) = x :: jv_cut r (i + 1) := by
  unfold jv_cut
  simp only [List.getElem?_cons_succ]
  split
  · rfl
  · rfl
  · rfl
theorem jk_st_to {v : Value} : ∀ {ls : List (Option Value)} {i : Nat} {k : List (Option Value) → Prop}, jk_st ls i v k → i < ls.length ∧ k ((jv_cut ls i).set i (some v))
  | [], _, _, q => q.elim
  | [_], 0, _, q => ⟨by simp, q⟩
  | _ :: _ :: _, 0, _, q => ⟨by simp, q⟩
  | [_], 1, _, q => q.elim
  | x :: y :: r, 1, k, q => by
    refine ⟨by simp, ?_⟩
    match x, q with
    | none, q => exact q
    | some (.long _), q => exact q
    | some (.double _), q => exact q
    | some (.int _), q => exact q
    | some (.float _), q => exact q
    | some .null, q => exact q
    | some (.ref _), q => exact q
    | some (.retAddr _), q => exact q
  | [x], i + 2, k, q => (show False from q).elim
  | x :: y :: r, i + 2, k, q => by
    obtain ⟨h1, h2⟩ := jk_st_to (ls := y :: r) (i := i + 1) (k := fun r => k (x :: r)) q
    refine ⟨by simp at h1 ⊢; omega, ?_⟩
    rw [jv_cut_cons]; exact h2
theorem jk_st2_to {v : Value} : ∀ {ls : List (Option Value)} {i : Nat} {k : List (Option Value) → Prop}, jk_st2 ls i v k → i + 1 < ls.length ∧ k (((jv_cut ls i).set i (some v)).set (i + 1) none)
  | [], 0, _, q => q.elim
  | [], 1, _, q => q.elim
  | [], _ + 2, _, q => q.elim
  | [_], 0, _, q => q.elim
  | [_, _], 0, _, q => ⟨by simp, q⟩
  | _ :: _ :: _ :: _, 0, _, q => ⟨by simp, q⟩
  | [_], 1, _, q => q.elim
  | [_, _], 1, _, q => q.elim
  | x :: y :: z :: r, 1, k, q => by
    refine ⟨by simp, ?_⟩
    match x, q with
    | none, q => exact q
    | some (.long _), q => exact q
    | some (.double _), q => exact q
    | some (.int _), q => exact q
    | some (.float _), q => exact q
    | some .null, q => exact q
    | some (.ref _), q => exact q
    | some (.retAddr _), q => exact q
  | [x], 2, k, q => (show False from q).elim
  | [x], i + 3, k, q => (show False from q).elim
  | [x, y], i + 2, k, q => by
    obtain ⟨h1, h2⟩ := jk_st2_to (ls := [y]) (i := i + 1) (k := fun r => k (x :: r)) q
    exact absurd h1 (by simp)
  | x :: y :: z :: r, i + 2, k, q => by
    obtain ⟨h1, h2⟩ := jk_st2_to (ls := y :: z :: r) (i := i + 1) (k := fun r => k (x :: r)) q
    refine ⟨by simp at h1 ⊢; omega, ?_⟩
    rw [jv_cut_cons]; exact h2
theorem jv_loc_st {ad : Nat → Nat} {lsA ls' : Array Slot} {n i : Nat} {ls : List (Option Value)} {v : Value} (h : jv_loc ad lsA n ls) (hi : i < n)
    (h' : lv_has ls' n ((i, jv_c ad v) :: (jv_al ad ls).filter (fun q => !(q.1 == i) && !(q.1 + 1 == i && q.2.category == 2)))) : jv_loc ad ls' n ((jv_cut ls i).set i (some v)) := by
  refine ⟨by rw [List.length_set, jv_cut_len]; exact h.1, h'.1, h'.2.1, fun j w hj => ?_⟩
  rw [List.getElem?_set] at hj
  by_cases e : i = j
  · subst e
    rw [if_pos rfl, jv_cut_len, h.1, if_pos hi] at hj
    cases hj
    exact h'.2.2 (i, jv_c ad v) List.mem_cons_self
  · rw [if_neg e] at hj
    obtain ⟨a1, a2⟩ := jv_cut_at hj
    refine h'.2.2 (j, jv_c ad w) (List.mem_cons_of_mem _ (List.mem_filter.mpr ⟨jv_al_in a1, ?_⟩))
    have e' : (j == i) = false := by simpa using fun h => e h.symm
    simp only [e', Bool.not_false, Bool.true_and, jv_c_cat]
    by_cases q1 : j + 1 = i
    · have : ¬ w.category = 2 := fun h => a2 ⟨q1, h⟩
      simp [this]
    · simp [q1]
theorem jv_loc_st2 {ad : Nat → Nat} {lsA ls' : Array Slot} {n i : Nat} {ls : List (Option Value)} {v : Value} (h : jv_loc ad lsA n ls) (hi : i + 1 < n)
    (h' : lv_has ls' n ((i, jv_c ad v) :: (jv_al ad ls).filter (fun q => !(q.1 == i) && (!(q.1 == i + 1) && !(q.1 + 1 == i && q.2.category == 2))))) : jv_loc ad ls' n (((jv_cut ls i).set i (some v)).set (i + 1) none) := by
  refine ⟨by rw [List.length_set, List.length_set, jv_cut_len]; exact h.1, h'.1, h'.2.1, fun j w hj => ?_⟩
  rw [List.getElem?_set] at hj
  by_cases e0 : i + 1 = j
  · rw [if_pos e0] at hj
    split at hj <;> cases hj
  · rw [if_neg e0, List.getElem?_set] at hj
    by_cases e : i = j
    · subst e
      rw [if_pos rfl, jv_cut_len, h.1, if_pos (by omega)] at hj
      cases hj
      exact h'.2.2 (i, jv_c ad v) List.mem_cons_self
    · rw [if_neg e] at hj
      obtain ⟨a1, a2⟩ := jv_cut_at hj
      refine h'.2.2 (j, jv_c ad w) (List.mem_cons_of_mem _ (List.mem_filter.mpr ⟨jv_al_in a1, ?_⟩))
      have e' : (j == i) = false := by simpa using fun h => e h.symm
      have e1' : (j == i + 1) = false := by simpa using fun h => e0 h.symm
      simp only [e', e1', Bool.not_false, Bool.true_and, jv_c_cat]
      by_cases q1 : j + 1 = i
      · have : ¬ w.category = 2 := fun h => a2 ⟨q1, h⟩
        simp [this]
      · simp [q1]
theorem jv_slots_in (ad : Nat → Nat) : ∀ (as : List Value) (k i : Nat) (v : Value), (jv_slots as)[i]? = some (some v) → (k + i, jv_c ad v) ∈ lv_args k (as.map (jv_c ad))
  | [], k, i, v, h => by simp [jv_slots] at h
  | w :: r, k, i, v, h => by
    have two : ∀ (w : Value), w.category = 2 → (some w :: none :: jv_slots r)[i]? = some (some v) → (k + i, jv_c ad v) ∈ lv_args k ((w :: r).map (jv_c ad)) := by
      intro w hw h
      simp only [List.map_cons, lv_args, jv_c_cat, hw, if_true]
      match i, h with
      | 0, h => simp at h; subst h; exact List.mem_cons_self
      | 1, h => simp at h
      | i + 2, h =>
        refine List.mem_cons_of_mem _ ?_
        have := jv_slots_in ad r (k + 2) i v (by simpa using h)
        rwa [show k + 2 + i = k + (i + 2) by omega] at this
    have one : ∀ (w : Value), ¬ w.category = 2 → (some w :: jv_slots r)[i]? = some (some v) → (k + i, jv_c ad v) ∈ lv_args k ((w :: r).map (jv_c ad)) := by
      intro w hw h
      simp only [List.map_cons, lv_args, jv_c_cat, if_neg hw]
      match i, h with
      | 0, h => simp at h; subst h; exact List.mem_cons_self
      | i + 1, h =>
        refine List.mem_cons_of_mem _ ?_
        have := jv_slots_in ad r (k + 1) i v (by simpa using h)
        rwa [show k + 1 + i = k + (i + 1) by omega] at this
    cases w with
    | long x => exact two _ rfl h
    | double x => exact two _ rfl h
    | int x => exact one _ (by simp [Value.category]) h
    | float x => exact one _ (by simp [Value.category]) h
    | null => exact one _ (by simp [Value.category]) h
    | ref x => exact one _ (by simp [Value.category]) h
    | retAddr x => exact one _ (by simp [Value.category]) h
theorem jv_slots_len (ad : Nat → Nat) : ∀ (as : List Value), (lg_sl (as.map (jv_c ad))).length = (jv_slots as).length
  | [] => rfl
  | w :: r => by
    have ih := jv_slots_len ad r
    unfold lg_sl at ih ⊢
    simp only [List.map_cons, List.flatMap_cons, List.length_append, ih, jv_c_cat]
    cases w <;> simp [Value.category, jv_slots] <;> omega
theorem jv_loc_en {ad : Nat → Nat} {as : List Value} {n : Nat} (h : (jv_slots as).length ≤ n) : jv_loc ad ((lg_sl (as.map (jv_c ad)) ++ List.replicate (n - (lg_sl (as.map (jv_c ad))).length) Slot.unset).toArray) n (jv_pad n (jv_slots as)) := by
  have hl := lv_entry (as.map (jv_c ad)) (n := n) (by rw [jv_slots_len]; exact h)
  refine ⟨by simp [jv_pad]; omega, hl.1, hl.2.1, fun i v hi => ?_⟩
  refine hl.2.2 (i, jv_c ad v) ?_
  unfold jv_pad at hi
  rw [List.getElem?_append] at hi
  split at hi
  · have := jv_slots_in ad as 0 i v hi
    rwa [Nat.zero_add] at this
  · rw [List.getElem?_replicate] at hi
    split at hi <;> cases hi
/-- what is read and never written: the script, MONTHS, the letters of kinds -/
def jv_Fz (A : Nat → Prop) (ad : Nat → Nat) (L : Nat) (xs : Nat → Int32) (U : State) (H : Heap) : Prop :=
  va_X (ad 56) L xs U H ∧ ad 56 < H.size ∧ ¬ A (ad 56) ∧ va_Z "OddBank$Calendar" "MONTHS" "[I" (.ref (ad 57)) A U H ∧ va_T .int (ad 57) 12 (fun j => .int (jv_mon j)) A U H ∧
  va_Z "java/lang/String" "COMPACT_STRINGS" "Z" (.int 1) A U H ∧ va_O "java/lang/String" (ad 58) A U H ∧ va_OF "java/lang/String" "coder" "B" (.int 0) (ad 58) A U H ∧ va_OF "java/lang/String" "value" "[B" (.ref (ad 59)) (ad 58) A U H ∧
  va_T .byte (ad 59) 5 (fun j => .int (jv_byt j)) A U H ∧ vk_R "OddBank$Page" 64 "pmtdf" (ad 58) U
theorem jv_Fz.mv {A B : Nat → Prop} {ad : Nat → Nat} {L : Nat} {xs : Nat → Int32} {s U : State} {H : Heap} {locs : List Loc} (h : jv_Fz A ad L xs s s.heap) (hW : s.WarmedH U.vm) (hU : U.heap = H) (hS : va_S A s.heap H locs) (hB : ∀ q, B q → A q) : jv_Fz B ad L xs U U.heap := by
  obtain ⟨h1, h2, h3, h4, h5, h6, h7, h8, h9, h10, h11⟩ := h
  subst hU
  have hk : ∀ a : Nat, a < s.heap.size → ¬ A a → U.heap[a]? = s.heap[a]? := hS.2.1
  have hv := hW.alike
  exact ⟨(h1.kept (hk _ h2 h3)).moved hv, Nat.lt_of_lt_of_le h2 hS.1, fun q => h3 (hB _ q), ((h4.kept hk).moved hv).narrow hB, ((h5.kept hk).moved hv).narrow hB, ((h6.kept hk).moved hv).narrow hB, ((h7.kept hk).moved hv).narrow hB, ((h8.kept hk).moved hv).narrow hB, ((h9.kept hk).moved hv).narrow hB, ((h10.kept hk).moved hv).narrow hB, vk_R.warm hW h11⟩
theorem jv_Fz.calling {A : Nat → Prop} {ad : Nat → Nat} {L : Nat} {xs : Nat → Int32} {U : State} (g : JFrame) (mk : MethodId) (a : Array Value) (h : jv_Fz A ad L xs U U.heap) : jv_Fz A ad L xs (U.calling g mk a) (U.calling g mk a).heap := by
  obtain ⟨h1, h2, h3, h4, h5, h6, h7, h8, h9, h10, h11⟩ := h
  have hv : U.vm.Alike (U.calling g mk a).vm := Vm.Alike.refl U.vm
  exact ⟨h1.moved hv, h2, h3, h4.moved hv, h5.moved hv, h6.moved hv, h7.moved hv, h8.moved hv, h9.moved hv, h10.moved hv, vk_R.same (u := U) rfl h11⟩
end
section
/-! what it is that a frame of the little machine stands for; calls -/
def jv_room (d : Nat) : Room := { frames := d + 1, cells := 0, slots := 0, locals := 64 * (d + 1) }
def jv_ir (mt : jM) (r : Option Value) (pc : Nat) : Prop :=
  (∃ (x : Int32) (ty : FieldType), r = some (.int x) ∧ decode mt.2.1 pc = .ok (.ireturn, 1) ∧ mt.2.2.2.1 = some ty ∧ narrow ty (.int x) = .int x) ∨
  (∃ x : Int64, r = some (.long x) ∧ decode mt.2.1 pc = .ok (.lreturn, 1) ∧ mt.2.2.2.1 = some .long) ∨
  (r = none ∧ decode mt.2.1 pc = .ok (.return_, 1) ∧ mt.2.2.2.1 = none)
def jv_Hp (D : va_G) (ad : Nat → Nat) (cA : Nat → ClassId) (A : Nat → Prop) (s : State) (L : Nat) (xs : Nat → Int32) (σ : jSt) (H : Heap) (locs : List Loc) : Prop :=
  va_P D jv_cls (jv_W ad cA σ) H ∧ va_D A (jv_W ad cA σ) ∧ va_S A s.heap H locs ∧ σ.2.2 = (L, xs)
def jv_At (l : Launch) (p : Program) (e : Env) (R : Room) (s : State) (m : MethodId) (args : Array Value) (below : List Frame) (meth : Method) (c : Code) (D : va_G) (ad : Nat → Nat) (cA : Nat → ClassId) (A : Nat → Prop) (mt : jM) (cells slots : Nat) (Q : State → Prop) (d : Nat) (post : jPo) (L : Nat) (xs : Nat → Int32) : Prop :=
  p.tables.exec = Jvm.exec ∧ c.code = mt.2.1 ∧ c.maxLocals = mt.2.2.1 ∧ s.vm.findClass mt.1.cls = some m.cls ∧ (∀ w ∈ jv_Tg, w.before args s = true) ∧ va_K D jv_cls (jv_tys cA) s ∧ jv_Fz A ad L xs s s.heap ∧ (∀ q, s.heap.size ≤ q → A q) ∧ cells ≤ R.cells ∧ slots ≤ R.slots ∧ d + 1 ≤ R.frames ∧ 64 * (d + 1) ≤ R.locals ∧
  (∀ (r : Option Value) (σ' : jSt) (H' : Heap) (locs' : List Loc) (ls' : Array Slot) (pc' : Nat), post r σ' → jv_ir mt r pc' → jv_Hp D ad cA A s L xs σ' H' locs' → W p l e R s m args below meth c H' locs' cells slots Q (F0 m pc' ls' r.toList))
def jv_X (l : Launch) (d : Nat) (post : jPo) (fr : jFr) : Prop :=
  ∀ (p : Program) (e : Env) (R : Room) (s : State) (m : MethodId) (args : Array Value) (below : List Frame) (meth : Method) (c : Code) (D : va_G) (ad : Nat → Nat) (cA : Nat → ClassId) (A : Nat → Prop) (mt : jM) (cells slots : Nat) (Q : State → Prop) (L : Nat) (xs : Nat → Int32) (H : Heap) (locs : List Loc) (lsA : Array Slot),
    jv_mt[fr.1]? = some mt → jv_At l p e R s m args below meth c D ad cA A mt cells slots Q d post L xs → jv_loc ad lsA mt.2.2.1 fr.2.2.1 → jv_Hp D ad cA A s L xs fr.2.2.2.2 H locs → W p l e R s m args below meth c H locs cells slots Q (F0 m fr.2.1 lsA (fr.2.2.2.1.map (jv_c ad)))
def jv_B (D : va_G) (ad : Nat → Nat) (cA : Nat → ClassId) (A : Nat → Prop) (L : Nat) (xs : Nat → Int32) (u : jSt) (t : State) : Prop := va_P D jv_cls (jv_W ad cA u) t.heap ∧ va_K D jv_cls (jv_tys cA) t ∧ va_D A (jv_W ad cA u) ∧ u.2.2 = (L, xs)
def jv_Pc (D : va_G) (ad : Nat → Nat) (cA : Nat → ClassId) (L : Nat) (xs : Nat → Int32) (as : List Value) (σ : jSt) (sz : Nat) : Array Value → State → Prop :=
  va_Pc (as.map (jv_c ad)) (fun U => U.heap.size = sz ∧ va_P D jv_cls (jv_W ad cA σ) U.heap ∧ va_K D jv_cls (jv_tys cA) U ∧ va_D (fun _ => True) (jv_W ad cA σ) ∧ jv_Fz (va_A (jv_W ad cA σ) sz) ad L xs U U.heap)
theorem jv_met {l : Launch} {d a : Nat} {as : List Value} {σ : jSt} {Q : jPo} {mt : jM} {D : va_G} {ad : Nat → Nat} {cA : Nat → ClassId} {L : Nat} {xs : Nat → Int32} {sz : Nat} {Qc : Array Value → State → Outcome → State → Prop}
    (hm : jv_mt[a]? = some mt) (ha : a ≠ 0) (hsl : (jv_slots as).length ≤ mt.2.2.1) (q : jv_X l d Q (jv_en a as σ)) (hL : σ.2.2 = (L, xs))
    (hq : ∀ (s t : State) (r : Option Value) (u : jSt), Q r u → jv_B D ad cA (va_A (jv_W ad cA σ) sz) L xs u t → va_F (va_A (jv_W ad cA σ) sz) s t → Qc (as.map (jv_c ad)).toArray s (.returned r) t) :
    Met l mt.1 (jv_ws mt) (jv_room d) (jv_Pc D ad cA L xs as σ sz) Qc 0 0 (va_A (jv_W ad cA σ) sz) := by
  refine va_MetF (cc := mt.2.1) (maxL := mt.2.2.1) (ret := mt.2.2.2.1) (jv_mt_f hm ha).2.2.2.2.1 rfl ?_
  intro p e s m args below meth c s₁ B hml hv
  obtain ⟨rfl, hsz, hP, hK, hD, hF⟩ := hv
  have hx := B.exec
  have hb := B.bytes
  have hr := B.returns
  have hlocks := B.notSynchronized
  have hts : ∀ w ∈ jv_Tg, w.before (as.map (jv_c ad)).toArray s = true := fun w hw => atoms_spec (ws := jv_ws mt) B.pre w (List.mem_cons_of_mem _ hw)
  have hown : s.vm.findClass mt.1.cls = some m.cls := findClass_of_methodNamed B.named
  subst hsz
  rw [lg_entry_eq]
  have hmax : jv_maxL a = mt.2.2.1 := by simp [jv_maxL, hm]
  refine q p e _ s m _ below meth c D ad cA (va_A (jv_W ad cA σ) s.heap.size) mt 0 0 _ L xs s.heap [] _ hm ⟨hx, hb, hml, hown, hts, hK, hF, fun q h => Or.inr h, Nat.zero_le _, Nat.zero_le _, Nat.le_refl _, Nat.le_refl _, ?_⟩ ?_ ⟨hP, hD.self, va_S.rf, hL⟩
  · intro r σ' H' locs' ls' pc' hpost hir hHp
    obtain ⟨gP, gD, gS, gL⟩ := hHp
    have hQ : ∀ t : State, t.heap = H' → s.WarmedH t.vm → Qc (as.map (jv_c ad)).toArray s (.returned r) t := fun t ht hW =>
      hq s t r σ' hpost ⟨by rw [ht]; exact gP, va_K.moved hW.alike hK, gD, gL⟩ (gS.F ht)
    rcases hir with ⟨x, ty, rfl, h2, h3, h4⟩ | ⟨x, rfl, h2, h3⟩ | ⟨rfl, h2, h3⟩
    · exact W.zret hx hb (by rw [hr, h3]) h4 hQ gS.2.2 h2
    · exact W.lret hx hb (by rw [hr, h3]) hQ gS.2.2 h2
    · exact W.vret hx hb (by rw [hr, h3]) hQ gS.2.2 h2
  · show jv_loc ad _ mt.2.2.1 (jv_pad (jv_maxL a) (jv_slots as))
    rw [hmax]
    exact jv_loc_en hsl
section JC
variable {l : Launch} {p : Program} {e : Env} {R : Room} {s : State} {m : MethodId} {args : Array Value} {below : List Frame} {meth : Method} {c : Code} {D : va_G} {ad : Nat → Nat} {cA : Nat → ClassId} {A : Nat → Prop} {mt : jM} {cells slots : Nat} {Q : State → Prop} {d : Nat} {post : jPo} {L : Nat} {xs : Nat → Int32} {H : Heap} {locs : List Loc} {lsA : Array Slot} {σ : jSt} {pc : Nat}
theorem jv_blind {as : List Value} {sz : Nat} : FrameBlind (jv_Pc D ad cA L xs as σ sz) := by
  intro a U g mk q
  obtain ⟨q0, q1, qP, qK, qD, qF⟩ := q
  exact ⟨q0, q1, qP, va_K.moved (u := U) (U := U.calling g mk a) (Vm.Alike.refl U.vm) qK, qD, qF.calling g mk a⟩
theorem jv_pre {as : List Value} (hK : va_K D jv_cls (jv_tys cA) s) (hFz : jv_Fz A ad L xs s s.heap) (hA : ∀ q, s.heap.size ≤ q → A q) (hp : jv_Hp D ad cA A s L xs σ H locs) : ∀ U : State, U.heap = H → s.WarmedH U.vm → jv_Pc D ad cA L xs as σ H.size (as.map (jv_c ad)).toArray U := by
  intro U hU hW
  obtain ⟨hP, hD, hS, hL⟩ := hp
  refine ⟨rfl, by rw [hU], by rw [hU]; exact hP, va_K.moved hW.alike hK, hD.weaken (fun _ _ _ _ => trivial), ?_⟩
  refine hFz.mv hW hU hS ?_
  intro q hq
  rcases hq with ⟨k, e, hk⟩ | h
  · exact hD.2 k (q, e) hk
  · exact hA q (Nat.le_trans hS.1 h)
theorem jv_fre (hA : ∀ q, s.heap.size ≤ q → A q) (hp : jv_Hp D ad cA A s L xs σ H locs) : ∀ q, va_A (jv_W ad cA σ) H.size q → A q := by
  intro q hq
  rcases hq with ⟨k, e, hk⟩ | h
  · exact hp.2.1.2 k (q, e) hk
  · exact hA q (Nat.le_trans hp.2.2.1.1 h)
theorem jv_runv {a idx cc : Nat} {as' rest st : List Value} {ls : List (Option Value)} {mt' : jM} {Qc : Array Value → State → Outcome → State → Prop} (C0 : jv_At l p e R s m args below meth c D ad cA A mt cells slots Q (d + 1) post L xs) (hl : jv_loc ad lsA mt.2.2.1 ls) (hp : jv_Hp D ad cA A s L xs σ H locs)
    (hm : jv_mt[a]? = some mt') (ha : a ≠ 0) (hk : mt'.2.2.2.2.2.1 = 1) (hlk : Cond.methodLink mt.1.cls idx mt'.1 ∈ jv_Tg) (hst : st = (Value.ref cc :: as').reverse ++ rest) (hrc : jv_rcv mt'.2.2.2.2.2.2.1 (Value.ref cc :: as') = true) (hn : (Value.ref cc :: as').length = mt'.2.2.2.2.1) (hw : (rest.map fun v => v.category).sum ≤ 8)
    (hdg : decode mt.2.1 pc = .ok (.invokevirtual idx, 3)) (hM : Met l mt'.1 (jv_ws mt') (jv_room d) (jv_Pc D ad cA L xs (Value.ref cc :: as') σ H.size) Qc 0 0 (va_A (jv_W ad cA σ) H.size)) :
    va_Run p l e R s m args below meth c H locs cells slots 0 0 (F0 m pc lsA (st.map (jv_c ad))) (rest.map (jv_c ad)) (Qc ((Value.ref cc :: as').map (jv_c ad)).toArray) (va_A (jv_W ad cA σ) H.size) := by
  obtain ⟨hx, hb, hml, hown, hts, hK, hFz, hA, hce, hsl, hfr, hlo, -⟩ := C0
  obtain ⟨f1, f2, f3, f4, f5, f6, f7⟩ := jv_mt_f hm ha
  rcases f2 with ⟨f2, -⟩ | ⟨-, f2, f8, f9⟩
  · rw [hk] at f2; cases f2
  have hG : GoodIn jv_Tg (wsV mt.1.cls idx mt'.1.cls mt'.1 (jv_ws mt')) := jv_good (by
    intro w hw
    unfold wsV jv_ws at hw
    simp only [List.mem_append, List.mem_cons, List.not_mem_nil, or_false] at hw
    rcases hw with (rfl | rfl | rfl | rfl) | rfl | hw
    · exact hlk
    · exact f2
    · exact f8
    · exact f3
    · exact f1
    · exact hw)
  have hrecv : ∃ cellB : Cell, H[ad cc]? = some cellB ∧ cellB.vm.isStatics = false ∧ s.vm.findClass mt'.1.cls = some cellB.cls := by
    unfold jv_rcv at hrc
    dsimp only at hrc
    rcases f9 with ⟨q, q1, q2⟩ | ⟨q1, q2, q3⟩
    · split at hrc
      · next cj fs hs =>
        have : cj = mt'.2.2.2.2.2.2.1 := by simpa using hrc
        subst this
        have := va_recv hK hp.1 q1 (jv_W_at hs)
        rwa [q2] at this
      · cases hrc
      · next hs =>
        simp at hrc
        rw [hrc.2] at q1
        cases q1
    · split at hrc
      · next cj fs hs =>
        have e1 : cj = mt'.2.2.2.2.2.2.1 := by simpa using hrc
        rw [q2] at e1
        subst e1
        exfalso
        have : jv_shp.all (fun q => match q with
          | .inl _ => true
          | .inr (ci, _) => decide (ci ≠ 7)) = true := by decide +kernel
        have := List.all_eq_true.mp this _ (List.mem_of_getElem? hs)
        simp at this
      · cases hrc
      · next hs =>
        simp at hrc
        rw [hrc.1, q3]
        exact va_Orecv hFz.2.2.2.2.2.2.1 hp.2.2.1
  refine va_runV (C := mt'.1.cls) (As := as'.map (jv_c ad)) (b := ad cc) ⟨hx, hb, hml, hown, hts⟩ hM (cwV (mt'.2.2.2.2.1 - mt'.2.2.2.2.2.1) hts hG rfl rfl rfl ⟨rfl, f4.1, f4.2.1, f4.2.2⟩ ⟨?_, ?_⟩) ⟨jv_blind, hrecv, jv_pre hK hFz hA hp⟩ rfl ?_ hl.2.1 ?_ ?_ hdg ⟨hce, hsl⟩
  · show d + 1 + 1 ≤ R.frames
    exact hfr
  · show 8 + (mt'.2.2.1 + 11) + 64 * (d + 1) ≤ R.locals
    omega
  · rw [List.length_map, ← hn, hk]; rfl
  · subst hst
    simp [jv_c]
  · refine lv_room ?_
    rw [jv_c_sum]; exact hw
theorem jv_runs {a idx : Nat} {as rest st : List Value} {ls : List (Option Value)} {mt' : jM} {Qc : Array Value → State → Outcome → State → Prop} (C0 : jv_At l p e R s m args below meth c D ad cA A mt cells slots Q (d + 1) post L xs) (hl : jv_loc ad lsA mt.2.2.1 ls) (hp : jv_Hp D ad cA A s L xs σ H locs)
    (hm : jv_mt[a]? = some mt') (ha : a ≠ 0) (hk : mt'.2.2.2.2.2.1 = 0) (hlk : Cond.methodLink mt.1.cls idx mt'.1 ∈ jv_Tg) (hst : st = as.reverse ++ rest) (hn : as.length = mt'.2.2.2.2.1) (hw : (rest.map fun v => v.category).sum ≤ 8)
    (hdg : decode mt.2.1 pc = .ok (.invokestatic idx, 3)) (hM : Met l mt'.1 (jv_ws mt') (jv_room d) (jv_Pc D ad cA L xs as σ H.size) Qc 0 0 (va_A (jv_W ad cA σ) H.size)) :
    va_Run p l e R s m args below meth c H locs cells slots 0 0 (F0 m pc lsA (st.map (jv_c ad))) (rest.map (jv_c ad)) (Qc (as.map (jv_c ad)).toArray) (va_A (jv_W ad cA σ) H.size) := by
  obtain ⟨hx, hb, hml, hown, hts, hK, hFz, hA, hce, hsl, hfr, hlo, -⟩ := C0
  obtain ⟨f1, f2, f3, f4, f5, f6, f7⟩ := jv_mt_f hm ha
  rcases f2 with ⟨-, f2⟩ | ⟨f2, -⟩
  · have hG : GoodIn jv_Tg (va_wsS mt.1.cls idx mt'.1 (jv_ws mt')) := jv_good (by
      intro w hw
      unfold va_wsS jv_ws at hw
      simp only [List.mem_append, List.mem_cons, List.not_mem_nil, or_false] at hw
      rcases hw with (rfl | rfl | rfl) | rfl | hw
      · exact hlk
      · exact f2
      · exact f3
      · exact f1
      · exact hw)
    refine va_runS (As := as.map (jv_c ad)) ⟨hx, hb, hml, hown, hts⟩ hM (va_cwS (mt'.2.2.2.2.1 - mt'.2.2.2.2.2.1) hts hG rfl rfl rfl ⟨f4.1, f4.2.1, f4.2.2⟩ ⟨?_, ?_⟩) ⟨jv_blind, jv_pre hK hFz hA hp⟩ rfl ?_ hl.2.1 ?_ ?_ hdg ⟨hce, hsl⟩
    · show d + 1 + 1 ≤ R.frames
      exact hfr
    · show 8 + (mt'.2.2.1 + 11) + 64 * (d + 1) ≤ R.locals
      omega
    · rw [List.length_map, ← hn, hk]; rfl
    · subst hst
      simp
    · refine lv_room ?_
      rw [jv_c_sum]; exact hw
  · rw [hk] at f2; cases f2
end JC
end
section
section JI
/-- a field that is an int (a long) is so in the class's table, and not final -/
theorem jv_kc : jv_shp.all (fun q => match q with
    | .inl _ => true
    | .inr (ci, fs) => match jv_cls[ci]? with
      | some (_, T, _) => fs.zipIdx.all (fun f => (decide (f.1 = 0 → (T f.2).2.2.2 = false ∧ parseFieldDescriptor (T f.2).2.2.1 = some .int)) && (decide (f.1 = 1 → (T f.2).2.2.2 = false ∧ parseFieldDescriptor (T f.2).2.2.1 = some .long)))
      | none => false) = true := by decide +kernel
theorem jv_kinds {c ci k N : Nat} {fs : List Nat} {C : String} {T : u_T} (h : jv_shp[c]? = some (.inr (ci, fs))) (hk : fs[k]? = some 0) (hc : jv_cls[ci]? = some (C, T, N)) : (T k).2.2.2 = false ∧ parseFieldDescriptor (T k).2.2.1 = some .int := by
  have h1 := List.all_eq_true.mp jv_kc _ (List.mem_of_getElem? h)
  dsimp only at h1
  rw [hc] at h1
  have h2 := List.all_eq_true.mp h1 (0, k) (List.mem_of_getElem? (i := k) (by simp [List.getElem?_zipIdx, hk]))
  simp only [Bool.and_eq_true, decide_eq_true_eq] at h2
  exact h2.1 trivial
theorem jv_kindl {c ci k N : Nat} {fs : List Nat} {C : String} {T : u_T} (h : jv_shp[c]? = some (.inr (ci, fs))) (hk : fs[k]? = some 1) (hc : jv_cls[ci]? = some (C, T, N)) : (T k).2.2.2 = false ∧ parseFieldDescriptor (T k).2.2.1 = some .long := by
  have h1 := List.all_eq_true.mp jv_kc _ (List.mem_of_getElem? h)
  dsimp only at h1
  rw [hc] at h1
  have h2 := List.all_eq_true.mp h1 (1, k) (List.mem_of_getElem? (i := k) (by simp [List.getElem?_zipIdx, hk]))
  simp only [Bool.and_eq_true, decide_eq_true_eq] at h2
  exact h2.2 trivial
variable {l : Launch} {p : Program} {e : Env} {R : Room} {s : State} {m : MethodId} {args : Array Value} {below : List Frame} {meth : Method} {c : Code} {D : va_G} {ad : Nat → Nat} {cA : Nat → ClassId} {A : Nat → Prop} {mt : jM} {cells slots : Nat} {Q : State → Prop} {d : Nat} {post : jPo} {L : Nat} {xs : Nat → Int32} {H : Heap} {locs : List Loc} {lsA : Array Slot} {σ : jSt} {pc mi n a pl : Nat} {ls : List (Option Value)} {st : List Value}
theorem jv_inv2 {vir : Bool} (C0 : jv_At l p e R s m args below meth c D ad cA A mt cells slots Q d post L xs) (hp : jv_Hp D ad cA A s L xs σ H locs)
    (hrun : ∀ (d' : Nat) (mt' : jM) (Qc : Array Value → State → Outcome → State → Prop), d = d' + 1 → jv_mt[a]? = some mt' → a ≠ 0 → (mt'.2.2.2.2.2.1 == 1) = vir → (st.take mt'.2.2.2.2.1).length = mt'.2.2.2.2.1 → ((st.drop mt'.2.2.2.2.1).map fun v => v.category).sum ≤ 8 → (vir = true → jv_rcv mt'.2.2.2.2.2.2.1 (st.take mt'.2.2.2.2.1).reverse = true) →
      Met l mt'.1 (jv_ws mt') (jv_room d') (jv_Pc D ad cA L xs (st.take mt'.2.2.2.2.1).reverse σ H.size) Qc 0 0 (va_A (jv_W ad cA σ) H.size) →
      va_Run p l e R s m args below meth c H locs cells slots 0 0 (F0 m pc lsA (st.map (jv_c ad))) ((st.drop mt'.2.2.2.2.1).map (jv_c ad)) (Qc ((st.take mt'.2.2.2.2.1).reverse.map (jv_c ad)).toArray) (va_A (jv_W ad cA σ) H.size))
    (nx : List Value → jSt → Prop)
    (go : ∀ (st' : List Value) (σ' : jSt), nx st' σ' → ∀ (H' : Heap) (locs' : List Loc), jv_Hp D ad cA A s L xs σ' H' locs' → W p l e R s m args below meth c H' locs' cells slots Q (F0 m (pc + 3) lsA (st'.map (jv_c ad))))
    (q : jv_inv (jv_cl (jv_X l) d) vir a st σ nx) : W p l e R s m args below meth c H locs cells slots Q (F0 m pc lsA (st.map (jv_c ad))) := by
  have hfr := jv_fre (L := L) (xs := xs) C0.2.2.2.2.2.2.2.1 hp
  obtain ⟨hx, hb, hml, hown, hts, hK, hFz, hA, hce, hsl, hfr0, hlo, hret⟩ := id C0
  obtain ⟨hP, hD, hS, hL⟩ := id hp
  unfold jv_inv at q
  split at q
  · next y0 c0 ml ret n kind ci pls hm =>
    obtain ⟨e4, q⟩ := jv_pop_to _ _ _ q
    rw [List.append_nil] at q
    split at q
    · next ec =>
      simp only [Bool.and_eq_true, beq_iff_eq, decide_eq_true_eq, Bool.or_eq_true, Bool.not_eq_true'] at ec
      obtain ⟨⟨⟨⟨e1, e2⟩, e3⟩, e5⟩, e6⟩ := ec
      have e6' : vir = true → jv_rcv ci (st.take n).reverse = true := fun hv => by
        rcases e6 with h | h
        · rw [h] at hv; cases hv
        · exact h
      match d, hrun, q with
      | 0, _, q => split at q <;> exact q.elim
      | d' + 1, hrun, q =>
        have hrun := fun Qc => hrun d' (y0, c0, ml, ret, n, kind, ci, pls) Qc rfl hm e2 e1 e4 e5 e6'
        have back : ∀ (u : jSt) (t : State) (H1 : Heap) (locs1 : List Loc), t.heap = H1 → jv_B D ad cA (va_A (jv_W ad cA σ) H.size) L xs u t → va_S A s.heap H1 locs1 → jv_Hp D ad cA A s L xs u H1 locs1 := by
          intro u t H1 locs1 ht hB hS1
          obtain ⟨b1, b2, b3, b4⟩ := hB
          rw [ht] at b1
          exact ⟨b1, b3.weaken (fun _ _ _ h => hfr _ h), hS1, b4⟩
        split at q
        · have q : jv_X l d' (fun r σ' => r = none ∧ nx (st.drop n) σ') (jv_en a (st.take n).reverse σ) := q
          have hM := jv_met (D := D) (ad := ad) (cA := cA) (sz := H.size) (Qc := va_Qv (fun u => nx (st.drop n) u) (jv_B D ad cA (va_A (jv_W ad cA σ) H.size) L xs) (va_A (jv_W ad cA σ) H.size)) hm e2 e3 q hL (fun s t r u hQ hB hF => ⟨⟨u, by rw [hQ.1], hQ.2, hB⟩, hF⟩)
          refine va_callv (hrun _ hM) hS (fun q _ h => hfr q h) hfr (fun u t H1 locs1 ht hvm hw hB hz1 hk1 hS1 => ?_)
          exact go _ _ hw _ _ (back u t H1 locs1 ht hB hS1)
        · have q : jv_X l d' (fun r σ' => ∃ x, r = some (.long x) ∧ nx (.long x :: st.drop n) σ') (jv_en a (st.take n).reverse σ) := q
          have hM := jv_met (D := D) (ad := ad) (cA := cA) (sz := H.size) (Qc := va_Ql (fun x u => nx (.long x :: st.drop n) u) (jv_B D ad cA (va_A (jv_W ad cA σ) H.size) L xs) (va_A (jv_W ad cA σ) H.size)) hm e2 e3 q hL (fun s t r u hQ hB hF => by
            obtain ⟨x, h1, h2⟩ := hQ
            exact ⟨⟨x, u, by rw [h1], h2, hB⟩, hF⟩)
          refine va_calll (hrun _ hM) hS (fun q _ h => hfr q h) hfr (fun x u t H1 locs1 ht hvm hw hB hz1 hk1 hS1 => ?_)
          exact go _ _ hw _ _ (back u t H1 locs1 ht hB hS1)
        · have q : jv_X l d' (fun r σ' => ∃ x, r = some (.int x) ∧ nx (.int x :: st.drop n) σ') (jv_en a (st.take n).reverse σ) := q
          have hM := jv_met (D := D) (ad := ad) (cA := cA) (sz := H.size) (Qc := va_Qi (fun x u => nx (.int x :: st.drop n) u) (jv_B D ad cA (va_A (jv_W ad cA σ) H.size) L xs) (va_A (jv_W ad cA σ) H.size)) hm e2 e3 q hL (fun s t r u hQ hB hF => by
            obtain ⟨x, h1, h2⟩ := hQ
            exact ⟨⟨x, u, by rw [h1], h2, hB⟩, hF⟩)
          refine va_calli (hrun _ hM) hS (fun q _ h => hfr q h) hfr (fun x u t H1 locs1 ht hvm hw hB hz1 hk1 hS1 => ?_)
          exact go _ _ hw _ _ (back u t H1 locs1 ht hB hS1)
    · exact q.elim
  · exact q.elim
theorem jv_mla (hck : jv_ml mt.1.cls n a pl = true) {mt' : jM} (hm : jv_mt[a]? = some mt') : Cond.methodLink mt.1.cls n mt'.1 ∈ jv_Tg := by
  unfold jv_ml at hck
  have hl : a < 152 := by rw [← jv_lens.1]; exact (List.getElem?_eq_some_iff.mp hm).1
  rw [if_neg (by omega), if_neg (by omega), if_neg (by omega), hm] at hck
  exact jv_inTg (decide_eq_true_eq.mp hck) rfl
theorem jv_invv (C0 : jv_At l p e R s m args below meth c D ad cA A mt cells slots Q d post L xs) (hl : jv_loc ad lsA mt.2.2.1 ls) (hp : jv_Hp D ad cA A s L xs σ H locs) (hdg : decode mt.2.1 pc = .ok (.invokevirtual n, 3)) (hck : jv_ml mt.1.cls n a pl = true)
    (go : ∀ (np : Nat) (ls' : List (Option Value)) (st' : List Value) (σ' : jSt), jv_X l d post (mi, np, ls', st', σ') → ∀ (H' : Heap) (locs' : List Loc) (lsA' : Array Slot), jv_loc ad lsA' mt.2.2.1 ls' → jv_Hp D ad cA A s L xs σ' H' locs' → W p l e R s m args below meth c H' locs' cells slots Q (F0 m np lsA' (st'.map (jv_c ad))))
    (q : jv_inv (jv_cl (jv_X l) d) true a st σ (fun st σ => jv_X l d post (mi, pc + 3, ls, st, σ))) : W p l e R s m args below meth c H locs cells slots Q (F0 m pc lsA (st.map (jv_c ad))) := by
  refine jv_inv2 C0 hp ?_ _ (fun st' σ' h H' locs' hp' => go _ _ _ _ h _ _ _ hl hp') q
  intro d' mt' Qc hd hm ha hk hlen hw hrc hM
  subst hd
  have hrc := hrc rfl
  have hk : mt'.2.2.2.2.2.1 = 1 := by simpa using hk
  obtain ⟨cc, as', has⟩ : ∃ cc as', (st.take mt'.2.2.2.2.1).reverse = Value.ref cc :: as' := by
    unfold jv_rcv at hrc
    split at hrc
    · next cc as' h => exact ⟨cc, as', h⟩
    · cases hrc
  rw [has] at hM hrc ⊢
  refine jv_runv C0 hl hp hm ha hk (jv_mla hck hm) ?_ hrc ?_ hw hdg hM
  · rw [← has, List.reverse_reverse, List.take_append_drop]
  · rw [← has, List.length_reverse, hlen]
theorem jv_invs (C0 : jv_At l p e R s m args below meth c D ad cA A mt cells slots Q d post L xs) (hl : jv_loc ad lsA mt.2.2.1 ls) (hp : jv_Hp D ad cA A s L xs σ H locs) (hdg : decode mt.2.1 pc = .ok (.invokestatic n, 3))
    (hck : (match jv_mt[a]? with
      | some m => decide (lw_tbl[pl]? = some (.methodLink mt.1.cls n m.1))
      | none => false) = true)
    (go : ∀ (np : Nat) (ls' : List (Option Value)) (st' : List Value) (σ' : jSt), jv_X l d post (mi, np, ls', st', σ') → ∀ (H' : Heap) (locs' : List Loc) (lsA' : Array Slot), jv_loc ad lsA' mt.2.2.1 ls' → jv_Hp D ad cA A s L xs σ' H' locs' → W p l e R s m args below meth c H' locs' cells slots Q (F0 m np lsA' (st'.map (jv_c ad))))
    (q : jv_inv (jv_cl (jv_X l) d) false a st σ (fun st σ => jv_X l d post (mi, pc + 3, ls, st, σ))) : W p l e R s m args below meth c H locs cells slots Q (F0 m pc lsA (st.map (jv_c ad))) := by
  refine jv_inv2 C0 hp ?_ _ (fun st' σ' h H' locs' hp' => go _ _ _ _ h _ _ _ hl hp') q
  intro d' mt' Qc hd hm ha hk hlen hw hrc hM
  subst hd
  rw [hm] at hck
  have hk : mt'.2.2.2.2.2.1 = 0 := by
    rcases (jv_mt_f hm ha).2.1 with h | h
    · exact h.1
    · rw [h.1] at hk; cases hk
  refine jv_runs C0 hl hp hm ha hk (jv_inTg (decide_eq_true_eq.mp hck) rfl) ?_ ?_ hw hdg hM
  · rw [List.reverse_reverse, List.take_append_drop]
  · rw [List.length_reverse, hlen]
end JI
/-! ONE STEP of the little machine is steps of the machine -/
theorem jv_sw_lk {x : Int32} {lf : Int → Prop} : ∀ (ps : List (Int × Int)) (d : Int), (∀ q ∈ ps, -1000000 ≤ q.1 ∧ q.1 ≤ 1000000) → jv_sw x lf ps d → ∃ off, Op.lookupswitch.offset ps d x.toInt = off ∧ lf off ∧ (off = d ∨ ∃ k, (k, off) ∈ ps)
  | [], d, _, h => ⟨d, rfl, h, Or.inl rfl⟩
  | (k, o) :: r, d, hk, h => by
    have hk0 := hk (k, o) List.mem_cons_self
    have ek : (iI k).toInt = k := by
      show (Int32.ofInt k).toInt = k
      exact Int32.toInt_ofInt_of_le (by simp at hk0 ⊢; omega) (by simp at hk0 ⊢; omega)
    by_cases e : x = iI k
    · refine ⟨o, ?_, h.1 e, Or.inr ⟨k, List.mem_cons_self⟩⟩
      subst e
      rw [Op.lookupswitch.offset_cons, if_pos ek.symm]
    · obtain ⟨off, h1, h2, h3⟩ := jv_sw_lk r d (fun q hq => hk q (List.mem_cons_of_mem _ hq)) (h.2 e)
      refine ⟨off, ?_, h2, h3.elim Or.inl (fun ⟨k, h⟩ => Or.inr ⟨k, List.mem_cons_of_mem _ h⟩)⟩
      rw [lv_osw e ek]; exact h1
theorem jv_sw_tb {x : Int32} {lf : Int → Prop} : ∀ (offs : List Int) (lo d : Int), jv_sw x lf (jv_keys lo offs) d → (∃ (j : Nat) (off : Int), offs[j]? = some off ∧ x = iI (lo + j) ∧ lf off) ∨ ((∀ j : Nat, j < offs.length → x ≠ iI (lo + j)) ∧ lf d)
  | [], lo, d, h => Or.inr ⟨fun j hj => absurd hj (Nat.not_lt_zero _), h⟩
  | o :: r, lo, d, h => by
    by_cases e : x = iI lo
    · exact Or.inl ⟨0, o, rfl, by simpa using e, h.1 e⟩
    · rcases jv_sw_tb r (lo + 1) d (h.2 e) with ⟨j, off, h1, h2, h3⟩ | ⟨h1, h2⟩
      · refine Or.inl ⟨j + 1, off, by simpa using h1, ?_, h3⟩
        rw [h2]; congr 1; push_cast; omega
      · refine Or.inr ⟨fun j hj => ?_, h2⟩
        match j, hj with
        | 0, _ => simpa using e
        | j + 1, hj =>
          have := h1 j (by simpa using hj)
          intro e2
          apply this
          rw [e2]; congr 1; push_cast; omega
theorem jv_wNat : Cond.native arraycopyName ∈ jv_Tg := jv_wc (p := 576) (by decide +kernel)
theorem jv_wAcs : Cond.static arraycopyName ∈ jv_Tg := jv_wc (p := 575) (by decide +kernel)
theorem jv_wSys : Cond.initialized "java/lang/System" ∈ jv_Tg := jv_wc (p := 63) (by decide +kernel)
theorem jv_wMat : Cond.initialized "java/lang/Math" ∈ jv_Tg := jv_wc (p := 55) (by decide +kernel)
theorem jv_wMxs : Cond.static Lib.Math.max.name ∈ jv_Tg := jv_wc (p := 322) (by decide +kernel)
theorem jv_wMxc : Cond.code Lib.Math.max.name Lib.Math.max.code 2 (some .int) ∈ jv_Tg := jv_wc (p := 323) (by decide +kernel)
theorem jv_wMns : Cond.static Lib.Math.min.name ∈ jv_Tg := jv_wc (p := 325) (by decide +kernel)
theorem jv_wMnc : Cond.code Lib.Math.min.name Lib.Math.min.code 2 (some .int) ∈ jv_Tg := jv_wc (p := 326) (by decide +kernel)
theorem jv_nwd : nativeFrameWords "java/lang/System" "arraycopy" 5 = 7 := by decide +kernel
set_option maxHeartbeats 4000000 in
set_option maxRecDepth 20000 in
theorem jv_step (l : Launch) : ∀ (d : Nat) (post : jPo) (fr : jFr), jv_tr (jv_cl (jv_X l) d) (jv_X l d post) post fr → jv_X l d post fr := by
  intro d post ⟨mi, pc, ls, st, σ⟩ q
  intro p e R s m args below meth c D ad cA A mt cells slots Q L xs H locs lsA hm C0 hl hp
  unfold jv_tr at q
  dsimp only at q hm hl hp ⊢
  split at q
  next e he =>
    obtain ⟨m', hm', hck⟩ := jv_prog_chk he
    cases hm.symm.trans hm'
    obtain ⟨i, np, a, b, pl⟩ := e
    unfold jv_chk at hck
    simp only [Bool.and_eq_true, decide_eq_true_eq] at hck
    obtain ⟨⟨hdg, hnp⟩, hck⟩ := hck
    have go : ∀ (np : Nat) (ls' : List (Option Value)) (st' : List Value) (σ' : jSt), jv_X l d post (mi, np, ls', st', σ') → ∀ (H' : Heap) (locs' : List Loc) (lsA' : Array Slot), jv_loc ad lsA' mt.2.2.1 ls' → jv_Hp D ad cA A s L xs σ' H' locs' → W p l _ R s m args below meth c H' locs' cells slots Q (F0 m np lsA' (st'.map (jv_c ad))) :=
      fun np ls' st' σ' h H' locs' lsA' hl hp => h p _ R s m args below meth c D ad cA A mt cells slots Q L xs H' locs' lsA' hm C0 hl hp
    obtain ⟨hx, hb, hml, hown, hts, hK, hFz, hA, hce, hsl, hfr, hlo, hret⟩ := id C0
    obtain ⟨hP, hD, hS, hL⟩ := id hp
    have hl2 := hl.2.2.2
    cases i
    case iconst n =>
      have hdg : decode mt.2.1 pc = .ok (.iconst n, 1) := hdg
      have hnp : np = pc + 1 := hnp
      subst hnp
      exact lv_iconst hx hb hdg rfl (go _ _ _ _ q _ _ _ hl hp)
    case bipush n =>
      have hdg : decode mt.2.1 pc = .ok (.bipush n, 2) := hdg
      have hnp : np = pc + 2 := hnp
      subst hnp
      exact lv_bipush hx hb hdg (decide_eq_true_eq.mp hck) (go _ _ _ _ q _ _ _ hl hp)
    case sipush n =>
      have hdg : decode mt.2.1 pc = .ok (.sipush n, 3) := hdg
      have hnp : np = pc + 3 := hnp
      subst hnp
      exact lv_sipush hx hb hdg (decide_eq_true_eq.mp hck) (go _ _ _ _ q _ _ _ hl hp)
    case lconst n =>
      have hdg : decode mt.2.1 pc = .ok (.lconst n, 1) := hdg
      have hnp : np = pc + 1 := hnp
      subst hnp
      exact lv_lconst hx hb hdg rfl (go _ _ _ _ q _ _ _ hl hp)
    case ldc n =>
      have hdg : decode mt.2.1 pc = .ok (.ldc n, 2) := hdg
      have hnp : np = pc + 2 := hnp
      subst hnp
      simp only [jv_ex] at q
      dsimp only at hck
      split at q
      · next eb =>
        rw [if_pos eb] at hck
        obtain ⟨e1, e2⟩ := decide_eq_true_eq.mp hck
        subst e2
        rw [e1] at hown
        exact va_ldcS hx hb hown hFz.2.2.2.2.2.2.2.2.2.2 hdg (go _ _ _ _ q _ _ _ hl hp)
      · next eb =>
        rw [if_neg eb] at hck
        exact lv_ldc hx hb hown (hts _ (jv_inTg (decide_eq_true_eq.mp hck) rfl)) hdg (go _ _ _ _ q _ _ _ hl hp)
    case ldc_w n =>
      have hdg : decode mt.2.1 pc = .ok (.ldc_w n, 3) := hdg
      have hnp : np = pc + 3 := hnp
      subst hnp
      exact lv_ldcw hx hb hown (hts _ (jv_inTg (decide_eq_true_eq.mp hck) rfl)) hdg (go _ _ _ _ q _ _ _ hl hp)
    case ldc2_w n =>
      have hdg : decode mt.2.1 pc = .ok (.ldc2_w n, 3) := hdg
      have hnp : np = pc + 3 := hnp
      subst hnp
      exact lv_ldc2 hx hb hown (hts _ (jv_inTg (decide_eq_true_eq.mp hck) rfl)) hdg (go _ _ _ _ q _ _ _ hl hp)
    case iload_n i =>
      have hdg : decode mt.2.1 pc = .ok (.iload_n i, 1) := hdg
      have hnp : np = pc + 1 := hnp
      subst hnp
      simp only [jv_ex, jk_li] at q
      split at q
      · next x hx0 => exact lv_iload_n hx hb hdg rfl (hl2 _ _ hx0) (go _ _ _ _ q _ _ _ hl hp)
      · exact q.elim
    case iload i =>
      have hdg : decode mt.2.1 pc = .ok (.iload i, 2) := hdg
      have hnp : np = pc + 2 := hnp
      subst hnp
      simp only [jv_ex, jk_li] at q
      split at q
      · next x hx0 => exact lv_iload hx hb hdg (hl2 _ _ hx0) (go _ _ _ _ q _ _ _ hl hp)
      · exact q.elim
    case lload_n i =>
      have hdg : decode mt.2.1 pc = .ok (.lload_n i, 1) := hdg
      have hnp : np = pc + 1 := hnp
      subst hnp
      simp only [jv_ex, jk_ll'] at q
      split at q
      · next x hx0 => exact lv_lload_n hx hb hdg rfl (hl2 _ _ hx0) (go _ _ _ _ q _ _ _ hl hp)
      · exact q.elim
    case lload i =>
      have hdg : decode mt.2.1 pc = .ok (.lload i, 2) := hdg
      have hnp : np = pc + 2 := hnp
      subst hnp
      simp only [jv_ex, jk_ll'] at q
      split at q
      · next x hx0 => exact lv_lload hx hb hdg (hl2 _ _ hx0) (go _ _ _ _ q _ _ _ hl hp)
      · exact q.elim
    case aload_n i =>
      have hdg : decode mt.2.1 pc = .ok (.aload_n i, 1) := hdg
      have hnp : np = pc + 1 := hnp
      subst hnp
      simp only [jv_ex, jk_lr] at q
      split at q
      · next x hx0 => exact lv_aload_n hx hb hdg rfl (hl2 _ _ hx0) (go _ _ _ _ q _ _ _ hl hp)
      · exact q.elim
    case istore_n i =>
      have hdg : decode mt.2.1 pc = .ok (.istore_n i, 1) := hdg
      have hnp : np = pc + 1 := hnp
      subst hnp
      simp only [jv_ex, jk_i] at q
      split at q
      · next x r =>
        obtain ⟨hi, q⟩ := jk_st_to q
        rw [hl.1] at hi
        exact lv_istore_n hx hb hdg rfl (jv_loc_has hl) hi rfl (fun ls' h' => go _ _ _ _ q _ _ _ (jv_loc_st hl hi h') hp)
      · exact q.elim
    case istore i =>
      have hdg : decode mt.2.1 pc = .ok (.istore i, 2) := hdg
      have hnp : np = pc + 2 := hnp
      subst hnp
      simp only [jv_ex, jk_i] at q
      split at q
      · next x r =>
        obtain ⟨hi, q⟩ := jk_st_to q
        rw [hl.1] at hi
        exact lv_istore hx hb hdg (jv_loc_has hl) hi rfl (fun ls' h' => go _ _ _ _ q _ _ _ (jv_loc_st hl hi h') hp)
      · exact q.elim
    case lstore_n i =>
      have hdg : decode mt.2.1 pc = .ok (.lstore_n i, 1) := hdg
      have hnp : np = pc + 1 := hnp
      subst hnp
      simp only [jv_ex, jk_l] at q
      split at q
      · next x r =>
        obtain ⟨hi, q⟩ := jk_st2_to q
        rw [hl.1] at hi
        exact lv_lstore_n hx hb hdg rfl (jv_loc_has hl) hi rfl (fun ls' h' => go _ _ _ _ q _ _ _ (jv_loc_st2 hl hi h') hp)
      · exact q.elim
    case iinc i n =>
      have hdg : decode mt.2.1 pc = .ok (.iinc i n, 3) := hdg
      have hnp : np = pc + 3 := hnp
      subst hnp
      simp only [jv_ex, jk_li] at q
      split at q
      · next x hx0 =>
        obtain ⟨hi, q⟩ := jk_st_to q
        rw [hl.1] at hi
        obtain ⟨k, hk⟩ := List.getElem?_of_mem (jv_al_in (ad := ad) hx0)
        exact lv_iinc hx hb hdg (jv_loc_has hl) hk rfl hi rfl (fun ls' h' => go _ _ _ _ q _ _ _ (jv_loc_st hl hi h') hp)
      · exact q.elim
    case iadd =>
      have hdg : decode mt.2.1 pc = .ok (.iadd, 1) := hdg
      have hnp : np = pc + 1 := hnp
      subst hnp
      simp only [jv_ex, jk_ii] at q
      split at q
      · exact lv_iadd hx hb hdg (go _ _ _ _ q _ _ _ hl hp)
      · exact q.elim
    case isub =>
      have hdg : decode mt.2.1 pc = .ok (.isub, 1) := hdg
      have hnp : np = pc + 1 := hnp
      subst hnp
      simp only [jv_ex, jk_ii] at q
      split at q
      · exact lv_isub hx hb hdg (go _ _ _ _ q _ _ _ hl hp)
      · exact q.elim
    case imul =>
      have hdg : decode mt.2.1 pc = .ok (.imul, 1) := hdg
      have hnp : np = pc + 1 := hnp
      subst hnp
      simp only [jv_ex, jk_ii] at q
      split at q
      · exact lv_imul hx hb hdg (go _ _ _ _ q _ _ _ hl hp)
      · exact q.elim
    case iand =>
      have hdg : decode mt.2.1 pc = .ok (.iand, 1) := hdg
      have hnp : np = pc + 1 := hnp
      subst hnp
      simp only [jv_ex, jk_ii] at q
      split at q
      · exact lv_iand hx hb hdg (go _ _ _ _ q _ _ _ hl hp)
      · exact q.elim
    case ior =>
      have hdg : decode mt.2.1 pc = .ok (.ior, 1) := hdg
      have hnp : np = pc + 1 := hnp
      subst hnp
      simp only [jv_ex, jk_ii] at q
      split at q
      · exact lv_ior hx hb hdg (go _ _ _ _ q _ _ _ hl hp)
      · exact q.elim
    case ixor =>
      have hdg : decode mt.2.1 pc = .ok (.ixor, 1) := hdg
      have hnp : np = pc + 1 := hnp
      subst hnp
      simp only [jv_ex, jk_ii] at q
      split at q
      · exact lv_ixor hx hb hdg (go _ _ _ _ q _ _ _ hl hp)
      · exact q.elim
    case ishl =>
      have hdg : decode mt.2.1 pc = .ok (.ishl, 1) := hdg
      have hnp : np = pc + 1 := hnp
      subst hnp
      simp only [jv_ex, jk_ii] at q
      split at q
      · exact lv_ishl hx hb hdg (go _ _ _ _ q _ _ _ hl hp)
      · exact q.elim
    case ishr =>
      have hdg : decode mt.2.1 pc = .ok (.ishr, 1) := hdg
      have hnp : np = pc + 1 := hnp
      subst hnp
      simp only [jv_ex, jk_ii] at q
      split at q
      · exact lv_ishr hx hb hdg (go _ _ _ _ q _ _ _ hl hp)
      · exact q.elim
    case iushr =>
      have hdg : decode mt.2.1 pc = .ok (.iushr, 1) := hdg
      have hnp : np = pc + 1 := hnp
      subst hnp
      simp only [jv_ex, jk_ii] at q
      split at q
      · exact lv_iushr hx hb hdg rfl (go _ _ _ _ q _ _ _ hl hp)
      · exact q.elim
    case idiv =>
      have hdg : decode mt.2.1 pc = .ok (.idiv, 1) := hdg
      have hnp : np = pc + 1 := hnp
      subst hnp
      simp only [jv_ex, jk_ii] at q
      split at q
      · exact lv_idiv hx hb hdg q.1 (go _ _ _ _ q.2 _ _ _ hl hp)
      · exact q.elim
    case irem =>
      have hdg : decode mt.2.1 pc = .ok (.irem, 1) := hdg
      have hnp : np = pc + 1 := hnp
      subst hnp
      simp only [jv_ex, jk_ii] at q
      split at q
      · exact lv_irem hx hb hdg q.1 (go _ _ _ _ q.2 _ _ _ hl hp)
      · exact q.elim
    case ladd =>
      have hdg : decode mt.2.1 pc = .ok (.ladd, 1) := hdg
      have hnp : np = pc + 1 := hnp
      subst hnp
      simp only [jv_ex, jk_ll] at q
      split at q
      · exact lv_ladd hx hb hdg (go _ _ _ _ q _ _ _ hl hp)
      · exact q.elim
    case lmul =>
      have hdg : decode mt.2.1 pc = .ok (.lmul, 1) := hdg
      have hnp : np = pc + 1 := hnp
      subst hnp
      simp only [jv_ex, jk_ll] at q
      split at q
      · exact lv_lmul hx hb hdg (go _ _ _ _ q _ _ _ hl hp)
      · exact q.elim
    case land =>
      have hdg : decode mt.2.1 pc = .ok (.land, 1) := hdg
      have hnp : np = pc + 1 := hnp
      subst hnp
      simp only [jv_ex, jk_ll] at q
      split at q
      · exact lv_land hx hb hdg (go _ _ _ _ q _ _ _ hl hp)
      · exact q.elim
    case lcmp =>
      have hdg : decode mt.2.1 pc = .ok (.lcmp, 1) := hdg
      have hnp : np = pc + 1 := hnp
      subst hnp
      simp only [jv_ex, jk_ll] at q
      split at q
      · exact W.lcmp hx hb hdg (go _ _ _ _ q _ _ _ hl hp)
      · exact q.elim
    case i2l =>
      have hdg : decode mt.2.1 pc = .ok (.i2l, 1) := hdg
      have hnp : np = pc + 1 := hnp
      subst hnp
      simp only [jv_ex, jk_i] at q
      split at q
      · exact lv_i2l hx hb hdg rfl (go _ _ _ _ q _ _ _ hl hp)
      · exact q.elim
    case l2i =>
      have hdg : decode mt.2.1 pc = .ok (.l2i, 1) := hdg
      have hnp : np = pc + 1 := hnp
      subst hnp
      simp only [jv_ex, jk_l] at q
      split at q
      · exact lv_l2i hx hb hdg rfl (go _ _ _ _ q _ _ _ hl hp)
      · exact q.elim
    case i2c =>
      have hdg : decode mt.2.1 pc = .ok (.i2c, 1) := hdg
      have hnp : np = pc + 1 := hnp
      subst hnp
      simp only [jv_ex, jk_i] at q
      split at q
      · exact lv_i2c hx hb hdg rfl (go _ _ _ _ q _ _ _ hl hp)
      · exact q.elim
    case i2b =>
      have hdg : decode mt.2.1 pc = .ok (.i2b, 1) := hdg
      have hnp : np = pc + 1 := hnp
      subst hnp
      simp only [jv_ex, jk_i] at q
      split at q
      · exact lv_i2b hx hb hdg rfl (go _ _ _ _ q _ _ _ hl hp)
      · exact q.elim
    case dup =>
      have hdg : decode mt.2.1 pc = .ok (.dup, 1) := hdg
      have hnp : np = pc + 1 := hnp
      subst hnp
      simp only [jv_ex] at q
      split at q
      · exact lv_dup hx hb hdg rfl (go _ _ _ _ q _ _ _ hl hp)
      · exact lv_dup hx hb hdg rfl (go _ _ _ _ q _ _ _ hl hp)
      · exact q.elim
    case pop =>
      have hdg : decode mt.2.1 pc = .ok (.pop, 1) := hdg
      have hnp : np = pc + 1 := hnp
      subst hnp
      simp only [jv_ex, jk_i] at q
      split at q
      · exact lv_pop hx hb hdg rfl (go _ _ _ _ q _ _ _ hl hp)
      · exact q.elim
    case goto o =>
      have hdg : decode mt.2.1 pc = .ok (.goto o, 3) := hdg
      have hnp : np = pc + 3 := hnp
      subst hnp
      exact lv_goto hx hb hdg (decide_eq_true_eq.mp hck) (go _ _ _ _ q _ _ _ hl hp)
    case ifCond cd o =>
      have hdg : decode mt.2.1 pc = .ok (.ifCond cd o, 3) := hdg
      have hnp : np = pc + 3 := hnp
      subst hnp
      have hck2 : (pc : Int) + o = (a : Int) := decide_eq_true_eq.mp hck
      cases cd
      case eq =>
        simp only [jv_ex, jk_i] at q
        split at q
        · exact lv_if_eq hx hb hdg hck2 (fun h => go _ _ _ _ (q.1 h) _ _ _ hl hp) (fun h => go _ _ _ _ (q.2 h) _ _ _ hl hp)
        · exact q.elim
      case ne =>
        simp only [jv_ex, jk_i] at q
        split at q
        · exact lv_if_ne hx hb hdg hck2 (fun h => go _ _ _ _ (q.1 h) _ _ _ hl hp) (fun h => go _ _ _ _ (q.2 h) _ _ _ hl hp)
        · exact q.elim
      case lt =>
        simp only [jv_ex, jk_i] at q
        split at q
        · exact lv_if_lt hx hb hdg hck2 (fun h => go _ _ _ _ (q.1 h) _ _ _ hl hp) (fun h => go _ _ _ _ (q.2 h) _ _ _ hl hp)
        · exact q.elim
      case ge =>
        simp only [jv_ex, jk_i] at q
        split at q
        · exact lv_if_ge hx hb hdg hck2 (fun h => go _ _ _ _ (q.1 h) _ _ _ hl hp) (fun h => go _ _ _ _ (q.2 h) _ _ _ hl hp)
        · exact q.elim
      case gt =>
        simp only [jv_ex, jk_i] at q
        split at q
        · exact lv_if_gt hx hb hdg hck2 (fun h => go _ _ _ _ (q.1 h) _ _ _ hl hp) (fun h => go _ _ _ _ (q.2 h) _ _ _ hl hp)
        · exact q.elim
      case le =>
        simp only [jv_ex, jk_i] at q
        split at q
        · exact lv_if_le hx hb hdg hck2 (fun h => go _ _ _ _ (q.1 h) _ _ _ hl hp) (fun h => go _ _ _ _ (q.2 h) _ _ _ hl hp)
        · exact q.elim
    case if_icmp cd o =>
      have hdg : decode mt.2.1 pc = .ok (.if_icmp cd o, 3) := hdg
      have hnp : np = pc + 3 := hnp
      subst hnp
      have hck2 : (pc : Int) + o = (a : Int) := decide_eq_true_eq.mp hck
      cases cd
      case eq =>
        simp only [jv_ex, jk_ii] at q
        split at q
        · exact lv_icmp_eq hx hb hdg hck2 (fun h => go _ _ _ _ (q.1 h) _ _ _ hl hp) (fun h => go _ _ _ _ (q.2 h) _ _ _ hl hp)
        · exact q.elim
      case ne =>
        simp only [jv_ex, jk_ii] at q
        split at q
        · exact lv_icmp_ne hx hb hdg hck2 (fun h => go _ _ _ _ (q.1 h) _ _ _ hl hp) (fun h => go _ _ _ _ (q.2 h) _ _ _ hl hp)
        · exact q.elim
      case lt =>
        simp only [jv_ex, jk_ii] at q
        split at q
        · exact lv_icmp_lt hx hb hdg hck2 (fun h => go _ _ _ _ (q.1 h) _ _ _ hl hp) (fun h => go _ _ _ _ (q.2 h) _ _ _ hl hp)
        · exact q.elim
      case ge =>
        simp only [jv_ex, jk_ii] at q
        split at q
        · exact lv_icmp_ge hx hb hdg hck2 (fun h => go _ _ _ _ (q.1 h) _ _ _ hl hp) (fun h => go _ _ _ _ (q.2 h) _ _ _ hl hp)
        · exact q.elim
      case gt =>
        simp only [jv_ex, jk_ii] at q
        split at q
        · exact lv_icmp_gt hx hb hdg hck2 (fun h => go _ _ _ _ (q.1 h) _ _ _ hl hp) (fun h => go _ _ _ _ (q.2 h) _ _ _ hl hp)
        · exact q.elim
      case le =>
        simp only [jv_ex, jk_ii] at q
        split at q
        · exact lv_icmp_le hx hb hdg hck2 (fun h => go _ _ _ _ (q.1 h) _ _ _ hl hp) (fun h => go _ _ _ _ (q.2 h) _ _ _ hl hp)
        · exact q.elim
    case tableswitch dd lo hi offs =>
      simp only [jv_ex, jk_i] at q
      split at q
      · next x r =>
        simp only [Bool.and_eq_true, decide_eq_true_eq] at hck
        obtain ⟨⟨⟨c1, c2⟩, c3⟩, c4⟩ := hck
        rcases jv_sw_tb _ _ _ q with ⟨j, off, h1, h2, h3⟩ | ⟨h1, h2⟩
        · have hj : j < offs.size := by have := (List.getElem?_eq_some_iff.mp h1).1; simpa using this
          have ex : x.toInt = lo + j := by
            rw [h2]
            exact Int32.toInt_ofInt_of_le (by simp; omega) (by simp; omega)
          have hn0 : 0 ≤ (pc : Int) + off := decide_eq_true_eq.mp (List.all_eq_true.mp c4 off (List.mem_of_getElem? h1))
          refine lv_tableIn (off := off) (tgt := ((pc : Int) + off).toNat) hx hb hdg (by omega) (by omega) ?_ (by omega) (go _ _ _ _ h3 _ _ _ hl hp)
          rw [ex, show (lo + (j : Int) - lo).toNat = j by omega]
          simpa using h1
        · refine lv_tableOut (tgt := ((pc : Int) + dd).toNat) hx hb hdg ?_ (by omega) (go _ _ _ _ h2 _ _ _ hl hp)
          rcases Int.lt_or_le x.toInt lo with g | g
          · exact Or.inl g
          · rcases Int.lt_or_le hi x.toInt with g2 | g2
            · exact Or.inr g2
            · exfalso
              refine h1 (x.toInt - lo).toNat (by simp; omega) ?_
              rw [show lo + (((x.toInt - lo).toNat : Nat) : Int) = x.toInt by omega]
              exact (Int32.ofInt_toInt x).symm
      · exact q.elim
    case lookupswitch dd ps =>
      simp only [jv_ex, jk_i] at q
      split at q
      · next x r =>
        simp only [Bool.and_eq_true, decide_eq_true_eq] at hck
        obtain ⟨⟨c1, c3⟩, c4⟩ := hck
        obtain ⟨off, h1, h2, h3⟩ := jv_sw_lk _ _ (fun k hk => (decide_eq_true_eq.mp (List.all_eq_true.mp c4 k hk)).2) q
        have hn0 : 0 ≤ (pc : Int) + off := by
          rcases h3 with rfl | ⟨k, hk⟩
          · exact c3
          · exact (decide_eq_true_eq.mp (List.all_eq_true.mp c4 _ hk)).1
        exact lv_lookup (off := off) (tgt := ((pc : Int) + off).toNat) hx hb hdg c1 h1 (by omega) (go _ _ _ _ h2 _ _ _ hl hp)
      · exact q.elim
    case getfield n =>
      have hdg : decode mt.2.1 pc = .ok (.getfield n, 3) := hdg
      have hnp : np = pc + 3 := hnp
      subst hnp
      simp only [jv_ex, jk_r] at q
      split at q
      · next cc r =>
        simp only [jv_gf] at q
        dsimp only [jv_fl] at hck
        split at q
        · next cj fs hs =>
          split at q
          · next ec =>
            subst ec
            split at hck
            · next C T N hc =>
              simp only [Bool.and_eq_true, decide_eq_true_eq] at hck
              obtain ⟨g1, g2⟩ := hck
              obtain ⟨i1, ty, i2, i3⟩ := jv_cls_f hc
              have hlk := hts _ (jv_inTg g2 rfl)
              have key : ∀ (fd : Nat), fs[b]? = some fd → jv_X l d post (mi, pc + 3, ls, (match fd with
                  | 0 => Value.int (σ.1 cc b)
                  | 1 => .long σ.2.1
                  | n + 2 => .ref n) :: r, σ) → W p l e R s m args below meth c H locs cells slots Q (F0 m pc lsA ((Value.ref cc :: r).map (jv_c ad))) := by
                intro fd hfd hX
                have hv : (fs.mapIdx (fun k fd => jv_fv ad σ cc k fd))[b]? = some (jv_fv ad σ cc b fd) := by simp [List.getElem?_mapIdx, hfd]
                refine va_get (T := T) (C := C) (N := N) hx hb hts i1 hown hK hP cc (jv_W_at hs) hc b g1 hlk (fun _ h => h) hv hdg ?_
                have := go _ _ _ _ hX _ _ _ hl hp
                revert this
                match fd with
                | 0 => exact fun h => h
                | 1 => exact fun h => h
                | n + 2 => exact fun h => h
              split at q
              · next h0 => exact key 0 h0 q
              · next h0 => exact key 1 h0 q
              · next n h0 => exact key (n + 2) h0 q
              · exact q.elim
            · next hc =>
              exfalso
              simp only [Bool.and_eq_true, decide_eq_true_eq] at hck
              have e1 := hck.1
              subst e1
              have : jv_shp.all (fun q => match q with
                | .inl _ => true
                | .inr (ci, _) => decide (ci ≠ 7)) = true := by decide +kernel
              have := List.all_eq_true.mp this _ (List.mem_of_getElem? hs)
              simp at this
          · exact q.elim
        · exact q.elim
        · split at q
          · next ec =>
            obtain ⟨e1, e2⟩ := ec
            subst e1 e2
            have hck : (decide ((7 : Nat) = 7) && decide (lw_tbl[pl]? = some (.fieldLink mt.1.cls n "java/lang/String" (if b = 0 then "value" else "coder") (if b = 0 then "[B" else "B")))) = true := hck
            simp only [Bool.and_eq_true, decide_eq_true_eq] at hck
            have hlk := hts _ (jv_inTg hck.2 rfl)
            split at q
            · next eb =>
              subst eb
              exact vk_getf hx hb hFz.2.2.2.2.2.2.2.2.1 hS hown hlk (fun _ h => h) hdg (go _ _ _ _ q _ _ _ hl hp)
            · next eb =>
              split at q
              · next eb1 =>
                subst eb1
                exact vk_getf hx hb hFz.2.2.2.2.2.2.2.1 hS hown hlk (fun _ h => h) hdg (go _ _ _ _ q _ _ _ hl hp)
              · exact q.elim
          · exact q.elim
      · exact q.elim
    case putfield n =>
      have hdg : decode mt.2.1 pc = .ok (.putfield n, 3) := hdg
      have hnp : np = pc + 3 := hnp
      subst hnp
      simp only [jv_ex] at q
      split at q
      · next v cc r =>
        simp only [jv_pf] at q
        dsimp only [jv_fl] at hck
        split at q
        · next cj fs hs =>
          split at q
          · next ec =>
            subst ec
            split at hck
            · next C T N hc =>
              simp only [Bool.and_eq_true, decide_eq_true_eq] at hck
              obtain ⟨g1, g2⟩ := hck
              obtain ⟨i1, ty, i2, i3⟩ := jv_cls_f hc
              have hlk := hts _ (jv_inTg g2 rfl)
              split at q
              · next x h0 =>
                have hk := jv_kinds hs h0 hc
                have hlen : b < (fs.mapIdx (fun k fd => jv_fv ad σ cc k fd)).length := by
                  have := (List.getElem?_eq_some_iff.mp h0).1
                  simpa using this
                refine va_put (T := T) (C := C) (N := N) (v := .int x) (ty := .int) hx hb hts i1 ty i2 i3 hown hK hP hD hS cc (jv_W_at hs) hc b g1 hlk (fun _ h => h) hk.1 hk.2 rfl rfl hlen hdg (fun H1 locs1 h1 h2 h3 => ?_)
                rw [jv_W_fld hs h0] at h1 h2
                exact go _ _ _ _ q _ _ _ hl ⟨h1, h2, h3, hL⟩
              · next x h0 =>
                have hk := jv_kindl hs h0 hc
                have hlen : b < (fs.mapIdx (fun k fd => jv_fv ad σ cc k fd)).length := by
                  have := (List.getElem?_eq_some_iff.mp h0).1
                  simpa using this
                refine va_put (T := T) (C := C) (N := N) (v := .long x) (ty := .long) hx hb hts i1 ty i2 i3 hown hK hP hD hS cc (jv_W_at hs) hc b g1 hlk (fun _ h => h) hk.1 hk.2 rfl rfl hlen hdg (fun H1 locs1 h1 h2 h3 => ?_)
                rw [jv_W_long hs h0] at h1 h2
                exact go _ _ _ _ q _ _ _ hl ⟨h1, h2, h3, hL⟩
              · exact q.elim
            · next hc =>
              exfalso
              simp only [Bool.and_eq_true, decide_eq_true_eq] at hck
              have e1 := hck.1
              subst e1
              have : jv_shp.all (fun q => match q with
                | .inl _ => true
                | .inr (ci, _) => decide (ci ≠ 7)) = true := by decide +kernel
              have := List.all_eq_true.mp this _ (List.mem_of_getElem? hs)
              simp at this
          · exact q.elim
        · exact q.elim
      · exact q.elim
    case getstatic n =>
      have hdg : decode mt.2.1 pc = .ok (.getstatic n, 3) := hdg
      have hnp : np = pc + 3 := hnp
      subst hnp
      simp only [jv_ex] at q
      dsimp only at hck
      split at q
      · next ea =>
        rw [if_pos ea] at hck
        exact va_gets hx hb hFz.2.2.2.1 hS hown (hts _ (jv_inTg (decide_eq_true_eq.mp hck) rfl)) (fun _ h => h) hdg (go _ _ _ _ q _ _ _ hl hp)
      · next ea =>
        rw [if_neg ea] at hck
        exact va_gets hx hb hFz.2.2.2.2.2.1 hS hown (hts _ (jv_inTg (decide_eq_true_eq.mp hck) rfl)) (fun _ h => h) hdg (go _ _ _ _ q _ _ _ hl hp)
    case iaload =>
      have hdg : decode mt.2.1 pc = .ok (.iaload, 1) := hdg
      have hnp : np = pc + 1 := hnp
      subst hnp
      simp only [jv_ex, jk_ir] at q
      split at q
      · next i cc r =>
        simp only [jv_ald] at q
        split at q
        · next n hs => exact va_iald hx hb hK hP cc cc (jv_W_at hs) (jv_tys_at hs) q.1 hdg (go _ _ _ _ q.2 _ _ _ hl hp)
        · exact q.elim
        · split at q
          · next e1 =>
            subst e1
            rw [hL] at q
            exact va_sld hx hb hFz.1 hFz.2.1 hFz.2.2.1 hS q.1 hdg (go _ _ _ _ q.2 _ _ _ hl hp)
          · split at q
            · next e1 =>
              subst e1
              exact va_ti hx hb hFz.2.2.2.2.1 hS q.1 rfl hdg (go _ _ _ _ q.2 _ _ _ hl hp)
            · exact q.elim
      · exact q.elim
    case iastore =>
      have hdg : decode mt.2.1 pc = .ok (.iastore, 1) := hdg
      have hnp : np = pc + 1 := hnp
      subst hnp
      simp only [jv_ex, jk_iir] at q
      split at q
      · next x i cc r =>
        simp only [jv_ast] at q
        split at q
        · next n hs =>
          refine va_iast hx hb hK hP hD hS cc cc (jv_W_at hs) (jv_tys_at hs) q.1 hdg (fun H1 locs1 h1 h2 h3 => ?_)
          rw [jv_W_arr hs] at h1 h2
          exact go _ _ _ _ q.2 _ _ _ hl ⟨h1, h2, h3, hL⟩
        · exact q.elim
      · exact q.elim
    case baload =>
      have hdg : decode mt.2.1 pc = .ok (.baload, 1) := hdg
      have hnp : np = pc + 1 := hnp
      subst hnp
      simp only [jv_ex, jk_ir] at q
      split at q
      · next i cc r =>
        simp only [jv_bld] at q
        split at q
        · next n hs => exact va_zald hx hb hK hP cc cc (jv_W_at hs) (jv_tys_at hs) q.1 hdg (go _ _ _ _ q.2 _ _ _ hl hp)
        · exact q.elim
        · split at q
          · next e1 =>
            subst e1
            exact va_tb hx hb hFz.2.2.2.2.2.2.2.2.2.1 hS q.1 rfl hdg (go _ _ _ _ q.2 _ _ _ hl hp)
          · exact q.elim
      · exact q.elim
    case bastore =>
      have hdg : decode mt.2.1 pc = .ok (.bastore, 1) := hdg
      have hnp : np = pc + 1 := hnp
      subst hnp
      simp only [jv_ex, jk_iir] at q
      split at q
      · next x i cc r =>
        simp only [jv_bst] at q
        split at q
        · next n hs =>
          refine va_zast hx hb hK hP hD hS cc cc (jv_W_at hs) (jv_tys_at hs) q.1 hdg (fun H1 locs1 h1 h2 h3 => ?_)
          have en : vp_nar .boolean x = x := by
            rcases q.2.1 with rfl | rfl
            · decide +kernel
            · decide +kernel
          rw [en, jv_W_arr hs] at h1 h2
          exact go _ _ _ _ q.2.2 _ _ _ hl ⟨h1, h2, h3, hL⟩
        · exact q.elim
      · exact q.elim
    case arraylength =>
      have hdg : decode mt.2.1 pc = .ok (.arraylength, 1) := hdg
      have hnp : np = pc + 1 := hnp
      subst hnp
      simp only [jv_ex, jk_r] at q
      split at q
      · next cc r =>
        simp only [jv_aln] at q
        split at q
        · next n ty hs => exact va_alen hx hb hK hP cc cc (jv_W_at hs) (jv_tys_at hs) rfl hdg (go _ _ _ _ q _ _ _ hl hp)
        · exact q.elim
        · split at q
          · next e1 =>
            subst e1
            rw [hL] at q
            exact va_slen hx hb hFz.1 hFz.2.1 hFz.2.2.1 hS hdg (go _ _ _ _ q _ _ _ hl hp)
          · split at q
            · next e1 =>
              subst e1
              exact va_tlen hx hb hFz.2.2.2.2.1 hS rfl hdg (go _ _ _ _ q _ _ _ hl hp)
            · split at q
              · next e1 =>
                subst e1
                exact va_tlen hx hb hFz.2.2.2.2.2.2.2.2.2.1 hS rfl hdg (go _ _ _ _ q _ _ _ hl hp)
              · exact q.elim
      · exact q.elim
    case ireturn =>
      have hdg : decode mt.2.1 pc = .ok (.ireturn, 1) := hdg
      have hnp : np = pc + 1 := hnp
      subst hnp
      simp only [jv_ex, jv_ret] at q
      split at q
      · next h0 => rw [hm] at h0; cases h0; exact hret _ _ _ _ _ _ q (Or.inl ⟨_, _, rfl, hdg, rfl, rfl⟩) hp
      · next x h0 =>
        rw [hm] at h0; cases h0
        refine hret _ _ _ _ _ _ q.2 (Or.inl ⟨_, _, rfl, hdg, rfl, ?_⟩) hp
        rcases q.1 with rfl | rfl
        · decide +kernel
        · decide +kernel
      · next x h0 =>
        rw [hm] at h0; cases h0
        refine hret _ _ _ _ _ _ q.2 (Or.inl ⟨_, _, rfl, hdg, rfl, ?_⟩) hp
        rw [q.1]; decide +kernel
      · exact q.elim
    case lreturn =>
      have hdg : decode mt.2.1 pc = .ok (.lreturn, 1) := hdg
      have hnp : np = pc + 1 := hnp
      subst hnp
      simp only [jv_ex] at q
      split at q
      · next h0 => rw [hm] at h0; cases h0; exact hret _ _ _ _ _ _ q (Or.inr (Or.inl ⟨_, rfl, hdg, rfl⟩)) hp
      · exact q.elim
    case return_ =>
      have hdg : decode mt.2.1 pc = .ok (.return_, 1) := hdg
      have hnp : np = pc + 1 := hnp
      subst hnp
      simp only [jv_ex] at q
      split at q
      · next h0 => rw [hm] at h0; cases h0; exact hret _ _ _ _ _ _ q (Or.inr (Or.inr ⟨rfl, hdg, rfl⟩)) hp
      · exact q.elim
    case invokevirtual n =>
      have hdg : decode mt.2.1 pc = .ok (.invokevirtual n, 3) := hdg
      have hnp : np = pc + 3 := hnp
      subst hnp
      simp only [jv_ex] at q
      exact jv_invv C0 hl hp hdg hck go q
    case invokestatic n =>
      have hdg : decode mt.2.1 pc = .ok (.invokestatic n, 3) := hdg
      have hnp : np = pc + 3 := hnp
      subst hnp
      simp only [jv_ex] at q
      dsimp only [jv_ml] at hck
      split at q
      · next ea =>
        rw [if_pos ea] at hck
        simp only [jk_ii] at q
        split at q
        · next y x r =>
          exact va_mmax hx hb (by rw [hml]; exact hl.2.1.symm) hown (hts _ (jv_inTg (decide_eq_true_eq.mp hck) rfl)) (hts _ jv_wMxs) (hts _ jv_wMat) (hts _ jv_wMxc) (by omega) (by have := q.1; rw [jv_c_sum]; omega) hce hsl hdg (go _ _ _ _ q.2 _ _ _ hl hp)
        · exact q.elim
      · next ea =>
        rw [if_neg ea] at hck
        split at q
        · next ea =>
          rw [if_pos ea] at hck
          simp only [jk_ii] at q
          split at q
          · next y x r =>
            exact va_mmin hx hb (by rw [hml]; exact hl.2.1.symm) hown (hts _ (jv_inTg (decide_eq_true_eq.mp hck) rfl)) (hts _ jv_wMns) (hts _ jv_wMat) (hts _ jv_wMnc) (by omega) (by have := q.1; rw [jv_c_sum]; omega) hce hsl hdg (go _ _ _ _ q.2 _ _ _ hl hp)
          · exact q.elim
        · next ea =>
          rw [if_neg ea] at hck
          split at q
          · next ea =>
            rw [if_pos ea] at hck
            simp only [jv_cpy] at q
            split at q
            · next n dp cb sp ca r =>
              split at q
              · next n0 n1 hs0 hs1 =>
                obtain ⟨⟨u1, u2, u3, u4, u5, u6⟩, q⟩ := q
                refine va_copyi (ty := .int) hx hb (by rw [hml]; exact hl.2.1.symm) hown (hts _ (jv_inTg (decide_eq_true_eq.mp hck) rfl)) (hts _ jv_wNat) (hts _ jv_wAcs) (hts _ jv_wSys) hK hP hD hS ca cb ca cb (jv_W_at hs0) (jv_W_at hs1) (jv_tys_at hs0) (jv_tys_at hs1) rfl u1 u2 u3 u4 u5 (fun _ _ => rfl) (by omega) (by rw [jv_c_sum, jv_nwd]; omega) hdg (fun H1 locs1 h1 h2 h3 => ?_)
                rw [jv_W_arr hs1] at h1 h2
                exact go _ _ _ _ q _ _ _ hl ⟨h1, h2, h3, hL⟩
              · exact q.elim
            · exact q.elim
          · next ea =>
            rw [if_neg ea] at hck
            exact jv_invs C0 hl hp hdg hck go q
    all_goals exact q.elim
  next => exact q.elim
/-- THE LITTLE MACHINE IS SOUND -/
theorem jv_sound (l : Launch) {d : Nat} {post : jPo} {fr : jFr} (h : jv_wp d post fr) : jv_X l d post fr := h (jv_X l) (jv_step l)
end
section
/-! calls in formulas; ints by integers -/
def jq_I (d a : Nat) (as : List Value) (σ : jSt) (k : Int32 → jSt → Prop) : Prop := jv_wp d (fun r σ' => ∃ x, r = some (.int x) ∧ k x σ') (jv_en a as σ)
def jq_L (d a : Nat) (as : List Value) (σ : jSt) (k : Int64 → jSt → Prop) : Prop := jv_wp d (fun r σ' => ∃ x, r = some (.long x) ∧ k x σ') (jv_en a as σ)
def jq_V (d a : Nat) (as : List Value) (σ : jSt) (k : jSt → Prop) : Prop := jv_wp d (fun r σ' => r = none ∧ k σ') (jv_en a as σ)
theorem jq_I_con {d a : Nat} {as : List Value} {σ : jSt} {k k' : Int32 → jSt → Prop} (h : jq_I d a as σ k) (hk : ∀ x σ, k x σ → k' x σ) : jq_I d a as σ k' := jv_wp_con h (fun r σ q => q.elim fun x q => ⟨x, q.1, hk _ _ q.2⟩)
theorem jq_V_con {d a : Nat} {as : List Value} {σ : jSt} {k k' : jSt → Prop} (h : jq_V d a as σ k) (hk : ∀ σ, k σ → k' σ) : jq_V d a as σ k' := jv_wp_con h (fun r σ q => ⟨q.1, hk _ q.2⟩)
section JA
variable {a b : Int} {n : Nat}
theorem iI_add (a b : Int) : iI a + iI b = iI (a + b) := (Int32.ofInt_add a b).symm
theorem iI_sub (a b : Int) : iI a - iI b = iI (a - b) := (Int32.ofInt_sub a b).symm
theorem iI_mul (a b : Int) : iI a * iI b = iI (a * b) := (Int32.ofInt_mul a b).symm
def iR (a : Int) : Prop := -2147483648 ≤ a ∧ a < 2147483648
theorem iI_toInt (h : iR a) : (iI a).toInt = a := by
  unfold iR at h
  exact Int32.toInt_ofInt_of_le (by simp; omega) (by simp; omega)
theorem iI_lt (ha : iR a) (hb : iR b) : iI a < iI b ↔ a < b := by rw [Int32.lt_iff_toInt_lt, iI_toInt ha, iI_toInt hb]
theorem iI_le (ha : iR a) (hb : iR b) : iI a ≤ iI b ↔ a ≤ b := by rw [Int32.le_iff_toInt_le, iI_toInt ha, iI_toInt hb]
theorem iI_eq (ha : iR a) (hb : iR b) : iI a = iI b ↔ a = b := by
  constructor
  · intro h
    have := congrArg Int32.toInt h
    rwa [iI_toInt ha, iI_toInt hb] at this
  · intro h; rw [h]
theorem iI_self (x : Int32) : iI x.toInt = x := Int32.ofInt_toInt x
theorem iR_self (x : Int32) : iR x.toInt := ⟨Int32.le_toInt x, Int32.toInt_lt x⟩
theorem iI_of (x : Int32) : ∃ z, iR z ∧ x = iI z := ⟨x.toInt, iR_self x, (iI_self x).symm⟩
theorem iI_nI (n : Nat) : iI (n : Int) = nI n := rfl
theorem iI_ofNat (n : Nat) : Int32.ofNat n = iI (n : Int) := rfl
theorem iI_0 : (0 : Int32) = iI 0 := by decide +kernel
theorem iI_1 : (1 : Int32) = iI 1 := by decide +kernel
theorem iI_clamp (h : n < 2147483648) : (iI (n : Int)).toNatClampNeg = n := nI_clamp h
theorem iI_in (h : n < 2147483648) (m : Nat) : vp_in (iI (n : Int)) m ↔ n < m := by
  unfold vp_in
  rw [iI_clamp h, iI_0, iI_lt ⟨by omega, by omega⟩ ⟨by omega, by omega⟩]
  omega
theorem iI_div {a b : Nat} (ha : a < 2147483648) (h0 : 0 < b) (hb : b < 2147483648) : iI (a : Int) / iI (b : Int) = iI ((a / b : Nat) : Int) := pk_div ha h0 hb
theorem iI_rem {a b : Nat} (ha : a < 2147483648) (h0 : 0 < b) (hb : b < 2147483648) : iI (a : Int) - iI (a : Int) / iI (b : Int) * iI (b : Int) = iI ((a % b : Nat) : Int) := pk_rem ha h0 hb
theorem iI_zor (x : Bool) : (iI (if x then 1 else 0) = 0 ∨ iI (if x then 1 else 0) = 1) := by cases x <;> decide +kernel
/-- 1 if so, else 0 -/
def jb (b : Bool) : Int32 := if b then 1 else 0
theorem jb_z (b : Bool) : jb b = 0 ∨ jb b = 1 := by cases b <;> simp [jb]
theorem jb_t : iI 1 = jb true := by decide +kernel
theorem jb_f : iI 0 = jb false := by decide +kernel
theorem jb_0 {b : Bool} : jb b = 0 ↔ b = false := by cases b <;> simp [jb]
theorem jb_1 {b : Bool} : jb b = iI 1 ↔ b = true := by cases b <;> decide +kernel
end JA
end
section
/-! bits -/
section JBits
theorem iI_bv (n : Nat) : (iI (n : Int)).toBitVec = BitVec.ofNat 32 n := by
  show (Int32.ofNat n).toBitVec = _
  rfl
theorem i32_ext {x y : Int32} (h : x.toBitVec = y.toBitVec) : x = y := Int32.toBitVec_inj.mp h
theorem iI_and (a b : Nat) : iI (a : Int) &&& iI (b : Int) = iI ((a &&& b : Nat) : Int) := by
  apply i32_ext
  rw [Int32.toBitVec_and, iI_bv, iI_bv, iI_bv]
  apply BitVec.eq_of_toNat_eq
  simp [BitVec.toNat_and, BitVec.toNat_ofNat, Nat.and_mod_two_pow (n := 32)]
theorem iI_or (a b : Nat) : iI (a : Int) ||| iI (b : Int) = iI ((a ||| b : Nat) : Int) := by
  apply i32_ext
  rw [Int32.toBitVec_or, iI_bv, iI_bv, iI_bv]
  apply BitVec.eq_of_toNat_eq
  simp [BitVec.toNat_or, BitVec.toNat_ofNat, Nat.or_mod_two_pow (n := 32)]
theorem iI_xor (a b : Nat) : iI (a : Int) ^^^ iI (b : Int) = iI ((a ^^^ b : Nat) : Int) := by
  apply i32_ext
  rw [Int32.toBitVec_xor, iI_bv, iI_bv, iI_bv]
  apply BitVec.eq_of_toNat_eq
  simp [BitVec.toNat_xor, BitVec.toNat_ofNat, Nat.xor_mod_two_pow (n := 32)]
theorem iI_andn (x y : Int32) : x &&& (y ^^^ iI (-1)) = x ^^^ (x &&& y) := by
  apply i32_ext
  rw [Int32.toBitVec_and, Int32.toBitVec_xor, Int32.toBitVec_xor, Int32.toBitVec_and, show (iI (-1)).toBitVec = BitVec.allOnes 32 by decide +kernel]
  apply BitVec.eq_of_getLsbD_eq
  intro i hi
  simp only [BitVec.getLsbD_and, BitVec.getLsbD_xor, BitVec.getLsbD_allOnes, hi, decide_true]
  cases x.toBitVec.getLsbD i <;> cases y.toBitVec.getLsbD i <;> rfl
theorem iI_s31 : ∀ n : Nat, n < 32 → ((iI (n : Int) &&& 31).toBitVec.smod 32).toNat = n := by decide +kernel
theorem iI_shr {s i : Nat} (hs : s < 2147483648) (hi : i < 32) : iI (s : Int) >>> (iI (i : Int) &&& 31) = iI ((s / 2 ^ i : Nat) : Int) := pk_shrN hs _ i (iI_s31 i hi)
theorem iI_shl {s i : Nat} (hi : i < 32) (hs : s * 2 ^ i < 2 ^ 32) : iI (s : Int) <<< (iI (i : Int) &&& 31) = iI ((s * 2 ^ i : Nat) : Int) := pk_shlN _ i (iI_s31 i hi) hs
theorem tb_mod (s i : Nat) : s / 2 ^ i % 2 = if s.testBit i then 1 else 0 := by
  rw [Nat.testBit_eq_decide_div_mod_eq]
  rcases Nat.mod_two_eq_zero_or_one (s / 2 ^ i) with h | h <;> simp [h]
/-- a bit, as the code reads it -/
theorem iI_bit {s i : Nat} (hs : s < 2147483648) (hi : i < 32) : iI (s : Int) >>> (iI (i : Int) &&& 31) &&& iI 1 = jb (s.testBit i) := by
  rw [iI_shr hs hi]
  have : iI ((s / 2 ^ i : Nat) : Int) &&& iI ((1 : Nat) : Int) = iI ((s / 2 ^ i &&& 1 : Nat) : Int) := iI_and _ _
  rw [show (iI 1 : Int32) = iI ((1 : Nat) : Int) from rfl, this, Nat.and_one_is_mod, tb_mod]
  cases s.testBit i
  · exact jb_f
  · exact jb_t
theorem iI_sbit {s i : Nat} (hi : i < 31) : iI (s : Int) ||| iI 1 <<< (iI (i : Int) &&& 31) = iI ((s ||| 2 ^ i : Nat) : Int) := by
  have h : iI ((1 : Nat) : Int) <<< (iI (i : Int) &&& 31) = iI ((1 * 2 ^ i : Nat) : Int) := by
    refine iI_shl (by omega) ?_
    rw [Nat.one_mul]
    exact Nat.pow_lt_pow_right (by omega) (by omega)
  rw [Nat.one_mul] at h
  rw [show (iI 1 : Int32) = iI ((1 : Nat) : Int) from rfl, h, iI_or]
/-- how many of the first k bits -/
def pcN : Nat → Nat → Nat
  | 0, _ => 0
  | k + 1, n => pcN k n + n / 2 ^ k % 2
/-- the set of those i < n with f i -/
def bsN (f : Nat → Bool) : Nat → Nat
  | 0 => 0
  | n + 1 => if f n then bsN f n ||| 2 ^ n else bsN f n
theorem bsN_lt (f : Nat → Bool) : ∀ n, bsN f n < 2 ^ n
  | 0 => by simp [bsN]
  | n + 1 => by
    have h := bsN_lt f n
    have h2 : 2 ^ n < 2 ^ (n + 1) := Nat.pow_lt_pow_right (by omega) (by omega)
    unfold bsN
    split
    · exact Nat.or_lt_two_pow (by omega) h2
    · omega
theorem bsN_bit (f : Nat → Bool) : ∀ n i, (bsN f n).testBit i = (decide (i < n) && f i)
  | 0, i => by simp [bsN]
  | n + 1, i => by
    unfold bsN
    have ih := bsN_bit f n i
    split
    · next h =>
      rw [Nat.testBit_or, ih, Nat.testBit_two_pow]
      by_cases e : n = i
      · subst e; simp [h]
      · have : decide (i < n + 1) = decide (i < n) := by simp; omega
        simp [e, this]
    · next h =>
      rw [ih]
      by_cases e : n = i
      · subst e; simp [h]
      · have : decide (i < n + 1) = decide (i < n) := by simp; omega
        simp [this]
theorem bsN_congr {f g : Nat → Bool} : ∀ n, (∀ i, i < n → f i = g i) → bsN f n = bsN g n
  | 0, _ => rfl
  | n + 1, h => by
    unfold bsN
    rw [h n (by omega), bsN_congr n (fun i hi => h i (by omega))]
end JBits
end
section
/-! the calendar, and who speaks: the class's side -/
def vc_X0_monthAndDate (d : Nat) (post : jPo) (σ : jSt) (day : Int32) : Prop :=
 (¬ (iI 1461) = 0 ∧ (let x1 : Int32 := (day - day / (iI 1461) * (iI 1461))
 ((x1 < (iI 1095) → jv_wp (d + 1) post (5, 19, [some (.int day), some (.int x1), some (.int (iI 0)), none, none, none, none], [], σ)) ∧
 (¬ x1 < (iI 1095) → jv_wp (d + 1) post (5, 19, [some (.int day), some (.int x1), some (.int (iI 1)), none, none, none, none], [], σ)))))
set_option maxRecDepth 100000 in
set_option maxHeartbeats 4000000 in
theorem ok_X0_monthAndDate {d : Nat} {post : jPo} {σ : jSt} {day : Int32} (h : vc_X0_monthAndDate d post σ day) : jv_wp (d + 1) post (5, 0, [some (.int day), none, none, none, none, none, none], [], σ) := jv_go_ok 11 [19, 43] _ _ _ h
def vc_X0_monthAndDate_A (d : Nat) (post : jPo) (σ : jSt) (day : Int32) (inf : Int32) (lp : Int32) : Prop :=
 ((lp = 0 → (¬ (iI 365) = 0 ∧ (let x1 : Int32 := (inf - inf / (iI 365) * (iI 365))
 jv_wp (d + 1) post (5, 43, [some (.int day), some (.int inf), some (.int lp), some (.int x1), some (.int (iI 0)), some (.int (iI 0)), none], [], σ)))) ∧
 (¬ lp = 0 → (let x2 : Int32 := (inf - (iI 1095))
 jv_wp (d + 1) post (5, 43, [some (.int day), some (.int inf), some (.int lp), some (.int x2), some (.int (iI 0)), some (.int (iI 0)), none], [], σ))))
set_option maxRecDepth 100000 in
set_option maxHeartbeats 4000000 in
theorem ok_X0_monthAndDate_A {d : Nat} {post : jPo} {σ : jSt} {day : Int32} {inf : Int32} {lp : Int32} (h : vc_X0_monthAndDate_A d post σ day inf lp) : jv_wp (d + 1) post (5, 19, [some (.int day), some (.int inf), some (.int lp), none, none, none, none], [], σ) := jv_go_ok 12 [43] _ _ _ h
def vc_X0_monthAndDate_L (d : Nat) (post : jPo) (σ : jSt) (day : Int32) (inf : Int32) (lp : Int32) (left : Int32) (mo : Int32) (i : Int32) (z6 : Option Value) : Prop :=
 (((Int32.ofNat 12) ≤ i → post (some (.int ((((mo + (iI 1)) * (iI 32)) + left) + (iI 1)))) σ) ∧
 (¬ (Int32.ofNat 12) ≤ i → ((¬ i = (iI 1) → (vp_in i 12 ∧ (let x1 : Int32 := (jv_mon i.toNatClampNeg)
 ((x1 ≤ left → (let x2 : Int32 := (left - x1)
 (let x3 : Int32 := (i + (iI 1))
 jv_wp (d + 1) post (5, 43, [some (.int day), some (.int inf), some (.int lp), some (.int x2), some (.int mo), some (.int x3), some (.int x1)], [], σ)))) ∧
 (¬ x1 ≤ left → post (some (.int ((((i + (iI 1)) * (iI 32)) + left) + (iI 1)))) σ))))) ∧
 (i = (iI 1) → ((lp = 0 → (vp_in i 12 ∧ (let x4 : Int32 := (jv_mon i.toNatClampNeg)
 ((x4 ≤ left → (let x5 : Int32 := (left - x4)
 (let x6 : Int32 := (i + (iI 1))
 jv_wp (d + 1) post (5, 43, [some (.int day), some (.int inf), some (.int lp), some (.int x5), some (.int mo), some (.int x6), some (.int x4)], [], σ)))) ∧
 (¬ x4 ≤ left → post (some (.int ((((i + (iI 1)) * (iI 32)) + left) + (iI 1)))) σ))))) ∧
 (¬ lp = 0 → (vp_in i 12 ∧ (let x7 : Int32 := ((jv_mon i.toNatClampNeg) + (iI 1))
 ((x7 ≤ left → (let x8 : Int32 := (left - x7)
 (let x9 : Int32 := (i + (iI 1))
 jv_wp (d + 1) post (5, 43, [some (.int day), some (.int inf), some (.int lp), some (.int x8), some (.int mo), some (.int x9), some (.int x7)], [], σ)))) ∧
 (¬ x7 ≤ left → post (some (.int ((((i + (iI 1)) * (iI 32)) + left) + (iI 1)))) σ))))))))))
set_option maxRecDepth 100000 in
set_option maxHeartbeats 4000000 in
theorem ok_X0_monthAndDate_L {d : Nat} {post : jPo} {σ : jSt} {day : Int32} {inf : Int32} {lp : Int32} {left : Int32} {mo : Int32} {i : Int32} {z6 : Option Value} (h : vc_X0_monthAndDate_L d post σ day inf lp left mo i z6) : jv_wp (d + 1) post (5, 43, [some (.int day), some (.int inf), some (.int lp), some (.int left), some (.int mo), some (.int i), z6], [], σ) := jv_go_ok 32 [43] _ _ _ h
def vc_X0_yearOf (d : Nat) (post : jPo) (σ : jSt) (day : Int32) : Prop :=
 (¬ (iI 1461) = 0 ∧ (¬ (iI 1461) = 0 ∧ (¬ (iI 365) = 0 ∧ ((([.int ((day / (iI 1461)) * (iI 4))] : List Value).map fun v => v.category).sum ≤ 8 ∧ post (some (.int (((day / (iI 1461)) * (iI 4)) + (if (iI 3) < ((day - day / (iI 1461) * (iI 1461)) / (iI 365)) then (iI 3) else ((day - day / (iI 1461) * (iI 1461)) / (iI 365)))))) σ))))
set_option maxRecDepth 100000 in
set_option maxHeartbeats 4000000 in
theorem ok_X0_yearOf {d : Nat} {post : jPo} {σ : jSt} {day : Int32} (h : vc_X0_yearOf d post σ day) : jv_wp (d + 1) post (1, 0, [some (.int day)], [], σ) := jv_go_ok 14 [] _ _ _ h
def vc_X0_monthOf (d : Nat) (post : jPo) (σ : jSt) (day : Int32) : Prop :=
 jq_I d 5 [.int day] σ (fun x2 s1 =>
 (¬ (iI 32) = 0 ∧ post (some (.int (x2 / (iI 32)))) s1))
set_option maxRecDepth 100000 in
set_option maxHeartbeats 4000000 in
theorem ok_X0_monthOf {d : Nat} {post : jPo} {σ : jSt} {day : Int32} (h : vc_X0_monthOf d post σ day) : jv_wp (d + 1) post (2, 0, [some (.int day)], [], σ) := jv_go_ok 5 [] _ _ _ h
def vc_X0_dateOf (d : Nat) (post : jPo) (σ : jSt) (day : Int32) : Prop :=
 jq_I d 5 [.int day] σ (fun x2 s1 =>
 (¬ (iI 32) = 0 ∧ post (some (.int (x2 - x2 / (iI 32) * (iI 32)))) s1))
set_option maxRecDepth 100000 in
set_option maxHeartbeats 4000000 in
theorem ok_X0_dateOf {d : Nat} {post : jPo} {σ : jSt} {day : Int32} (h : vc_X0_dateOf d post σ day) : jv_wp (d + 1) post (3, 0, [some (.int day)], [], σ) := jv_go_ok 5 [] _ _ _ h
def vc_X0_voicesOn (d : Nat) (post : jPo) (σ : jSt) (day : Int32) : Prop :=
 jq_I d 5 [.int day] σ (fun x2 s1 =>
 ((¬ x2 = (iI 93) → (¬ (iI 32) = 0 ∧ (let x3 : Int32 := (x2 - x2 / (iI 32) * (iI 32))
 (¬ (iI 2) = 0 ∧ ((¬ (x3 - x3 / (iI 2) * (iI 2)) = (iI 1) → ((¬ x3 = (iI 1) → post (some (.int (iI 2))) s1) ∧
 (x3 = (iI 1) → post (some (.int ((iI 2) ||| (iI 4)))) s1))) ∧
 ((x3 - x3 / (iI 2) * (iI 2)) = (iI 1) → ((¬ x3 = (iI 1) → post (some (.int (iI 1))) s1) ∧
 (x3 = (iI 1) → post (some (.int ((iI 1) ||| (iI 4)))) s1)))))))) ∧
 (x2 = (iI 93) → post (some (.int (iI 3))) s1)))
set_option maxRecDepth 100000 in
set_option maxHeartbeats 4000000 in
theorem ok_X0_voicesOn {d : Nat} {post : jPo} {σ : jSt} {day : Int32} (h : vc_X0_voicesOn d post σ day) : jv_wp (d + 1) post (4, 0, [some (.int day), none, none, none], [], σ) := jv_go_ok 26 [] _ _ _ h
def vc_X6_isKind (d : Nat) (post : jPo) (σ : jSt) (k : Int32) (t : Int32) : Prop :=
 ((t = 0 → (((iI 1) = 0 ∨ (iI 1) = 1) ∧ post (some (.int (iI 1))) σ)) ∧
 (¬ t = 0 → ((k = t → (((iI 1) = 0 ∨ (iI 1) = 1) ∧ post (some (.int (iI 1))) σ)) ∧
 (¬ k = t → ((¬ k = (iI 4) → (((iI 0) = 0 ∨ (iI 0) = 1) ∧ post (some (.int (iI 0))) σ)) ∧
 (k = (iI 4) → ((¬ t = (iI 1) → (((iI 0) = 0 ∨ (iI 0) = 1) ∧ post (some (.int (iI 0))) σ)) ∧
 (t = (iI 1) → (((iI 1) = 0 ∨ (iI 1) = 1) ∧ post (some (.int (iI 1))) σ)))))))))
set_option maxRecDepth 100000 in
set_option maxHeartbeats 4000000 in
theorem ok_X6_isKind {d : Nat} {post : jPo} {σ : jSt} {k : Int32} {t : Int32} (h : vc_X6_isKind d post σ k t) : jv_wp (d + 1) post (31, 0, [some (.int k), some (.int t)], [], σ) := jv_go_ok 14 [] _ _ _ h
def vc_X6_speaking (d : Nat) (post : jPo) (σ : jSt) (v : Int32) (b : Int32) : Prop :=
 ((¬ ((v >>> (b &&& 31)) &&& (iI 1)) = (iI 1) → jv_wp (d + 1) post (32, 19, [some (.int v), some (.int b), some (.int (iI 0)), some (.int (iI 594))], [], σ)) ∧
 (((v >>> (b &&& 31)) &&& (iI 1)) = (iI 1) → jv_wp (d + 1) post (32, 19, [some (.int v), some (.int b), some (.int (iI 1)), some (.int (iI 594))], [], σ)))
set_option maxRecDepth 100000 in
set_option maxHeartbeats 4000000 in
theorem ok_X6_speaking {d : Nat} {post : jPo} {σ : jSt} {v : Int32} {b : Int32} (h : vc_X6_speaking d post σ v b) : jv_wp (d + 1) post (32, 0, [some (.int v), some (.int b), none, none], [], σ) := jv_go_ok 13 [19] _ _ _ h
def vc_X6_speaking_A (d : Nat) (post : jPo) (σ : jSt) (v : Int32) (b : Int32) (bm : Int32) (s : Int32) : Prop :=
 ((bm = 0 → jv_wp (d + 1) post (32, 28, [some (.int v), some (.int b), some (.int bm), some (.int s)], [], σ)) ∧
 (¬ bm = 0 → (let x1 : Int32 := (s ||| (iI 33))
 jv_wp (d + 1) post (32, 28, [some (.int v), some (.int b), some (.int bm), some (.int x1)], [], σ))))
set_option maxRecDepth 100000 in
set_option maxHeartbeats 4000000 in
theorem ok_X6_speaking_A {d : Nat} {post : jPo} {σ : jSt} {v : Int32} {b : Int32} {bm : Int32} {s : Int32} (h : vc_X6_speaking_A d post σ v b bm s) : jv_wp (d + 1) post (32, 19, [some (.int v), some (.int b), some (.int bm), some (.int s)], [], σ) := jv_go_ok 7 [28] _ _ _ h
def vc_X6_speaking_B (d : Nat) (post : jPo) (σ : jSt) (v : Int32) (b : Int32) (bm : Int32) (s : Int32) : Prop :=
 ((¬ bm = 0 → (let x1 : Int32 := (s ||| (iI 132))
 jv_wp (d + 1) post (32, 44, [some (.int v), some (.int b), some (.int bm), some (.int x1)], [], σ))) ∧
 (bm = 0 → (((v &&& (iI 4)) = 0 → jv_wp (d + 1) post (32, 44, [some (.int v), some (.int b), some (.int bm), some (.int s)], [], σ)) ∧
 (¬ (v &&& (iI 4)) = 0 → (let x2 : Int32 := (s ||| (iI 132))
 jv_wp (d + 1) post (32, 44, [some (.int v), some (.int b), some (.int bm), some (.int x2)], [], σ))))))
set_option maxRecDepth 100000 in
set_option maxHeartbeats 4000000 in
theorem ok_X6_speaking_B {d : Nat} {post : jPo} {σ : jSt} {v : Int32} {b : Int32} {bm : Int32} {s : Int32} (h : vc_X6_speaking_B d post σ v b bm s) : jv_wp (d + 1) post (32, 28, [some (.int v), some (.int b), some (.int bm), some (.int s)], [], σ) := jv_go_ok 11 [44] _ _ _ h
def vc_X6_speaking_C (d : Nat) (post : jPo) (σ : jSt) (v : Int32) (b : Int32) (bm : Int32) (s : Int32) : Prop :=
 (((v &&& (iI 1)) = 0 → jv_wp (d + 1) post (32, 55, [some (.int v), some (.int b), some (.int bm), some (.int s)], [], σ)) ∧
 (¬ (v &&& (iI 1)) = 0 → (let x1 : Int32 := (s ||| (iI 8))
 jv_wp (d + 1) post (32, 55, [some (.int v), some (.int b), some (.int bm), some (.int x1)], [], σ))))
set_option maxRecDepth 100000 in
set_option maxHeartbeats 4000000 in
theorem ok_X6_speaking_C {d : Nat} {post : jPo} {σ : jSt} {v : Int32} {b : Int32} {bm : Int32} {s : Int32} (h : vc_X6_speaking_C d post σ v b bm s) : jv_wp (d + 1) post (32, 44, [some (.int v), some (.int b), some (.int bm), some (.int s)], [], σ) := jv_go_ok 9 [55] _ _ _ h
def vc_X6_speaking_D (d : Nat) (post : jPo) (σ : jSt) (v : Int32) (b : Int32) (bm : Int32) (s : Int32) : Prop :=
 (((v &&& (iI 2)) = 0 → jv_wp (d + 1) post (32, 67, [some (.int v), some (.int b), some (.int bm), some (.int s)], [], σ)) ∧
 (¬ (v &&& (iI 2)) = 0 → (let x1 : Int32 := (s ||| (iI 256))
 jv_wp (d + 1) post (32, 67, [some (.int v), some (.int b), some (.int bm), some (.int x1)], [], σ))))
set_option maxRecDepth 100000 in
set_option maxHeartbeats 4000000 in
theorem ok_X6_speaking_D {d : Nat} {post : jPo} {σ : jSt} {v : Int32} {b : Int32} {bm : Int32} {s : Int32} (h : vc_X6_speaking_D d post σ v b bm s) : jv_wp (d + 1) post (32, 55, [some (.int v), some (.int b), some (.int bm), some (.int s)], [], σ) := jv_go_ok 9 [67] _ _ _ h
def vc_X6_speaking_E (d : Nat) (post : jPo) (σ : jSt) (v : Int32) (b : Int32) (bm : Int32) (s : Int32) : Prop :=
 post (some (.int s)) σ
set_option maxRecDepth 100000 in
set_option maxHeartbeats 4000000 in
theorem ok_X6_speaking_E {d : Nat} {post : jPo} {σ : jSt} {v : Int32} {b : Int32} {bm : Int32} {s : Int32} (h : vc_X6_speaking_E d post σ v b bm s) : jv_wp (d + 1) post (32, 67, [some (.int v), some (.int b), some (.int bm), some (.int s)], [], σ) := jv_go_ok 2 [] _ _ _ h
def vc_J6_bitCount (d : Nat) (post : jPo) (σ : jSt) (x : Int32) : Prop :=
 (let x1 : Int32 := (x - (((x).toUInt32 >>> (((iI 1)).toUInt32 &&& Int32.toUInt32 31)).toInt32 &&& (Int32.ofNat 1431655765)))
 (let x2 : Int32 := ((x1 &&& (Int32.ofNat 858993459)) + (((x1).toUInt32 >>> (((iI 2)).toUInt32 &&& Int32.toUInt32 31)).toInt32 &&& (Int32.ofNat 858993459)))
 (let x3 : Int32 := ((x2 + ((x2).toUInt32 >>> (((iI 4)).toUInt32 &&& Int32.toUInt32 31)).toInt32) &&& (Int32.ofNat 252645135))
 (let x4 : Int32 := (x3 + ((x3).toUInt32 >>> (((iI 8)).toUInt32 &&& Int32.toUInt32 31)).toInt32)
 (let x5 : Int32 := (x4 + ((x4).toUInt32 >>> (((iI 16)).toUInt32 &&& Int32.toUInt32 31)).toInt32)
 post (some (.int (x5 &&& (iI 63)))) σ)))))
set_option maxRecDepth 100000 in
set_option maxHeartbeats 4000000 in
theorem ok_J6_bitCount {d : Nat} {post : jPo} {σ : jSt} {x : Int32} (h : vc_J6_bitCount d post σ x) : jv_wp (d + 1) post (143, 0, [some (.int x)], [], σ) := jv_go_ok 42 [] _ _ _ h
section Cal
def monN (i : Nat) : Nat := ([31, 28, 31, 30, 31, 30, 31, 31, 30, 31, 30, 31] : List Nat).getD i 0
def moL (leap : Bool) (i : Nat) : Nat := if i = 1 ∧ leap = true then monN i + 1 else monN i
def mdL (leap : Bool) : Nat → Nat → Nat → Nat
  | 0, _, l => 32 + l + 1
  | n + 1, i, l => if moL leap i ≤ l then mdL leap n (i + 1) (l - moL leap i) else (i + 1) * 32 + l + 1
/-- month and date of a day -/
def mad (day : Nat) : Nat := if 1095 ≤ day % 1461 then mdL true 12 0 (day % 1461 - 1095) else mdL false 12 0 (day % 1461 % 365)
theorem monN_ok : ∀ j : Nat, j < 12 → jv_mon j = iI (monN j : Int) := by decide +kernel
theorem monN_lt (j : Nat) : monN j ≤ 31 := by
  by_cases h : j < 12
  · have : ∀ j : Nat, j < 12 → monN j ≤ 31 := by decide +kernel
    exact this j h
  · unfold monN
    rw [List.getD_eq_getElem?_getD, List.getElem?_eq_none (by simp; omega)]; simp
theorem pI {post : jPo} {σ : jSt} {a b : Int} (h : post (some (.int (iI a))) σ) (e : a = b) : post (some (.int (iI b))) σ := e ▸ h
theorem wp_mdL {d : Nat} {post : jPo} {σ : jSt} {day inf : Int32} (leap : Bool) : ∀ (n i l : Nat) (z : Option Value), i + n = 12 → l < 1000 → post (some (.int (iI (mdL leap n i l : Nat)))) σ →
    jv_wp (d + 1) post (5, 43, [some (.int day), some (.int inf), some (.int (jb leap)), some (.int (iI l)), some (.int (iI 0)), some (.int (iI i)), z], [], σ) := by
  intro n
  induction n with
  | zero =>
    intro i l z hi hl h
    refine ok_X0_monthAndDate_L ⟨fun _ => ?_, fun c => absurd ?_ c⟩
    · simp only [iI_add, iI_mul]
      refine pI h ?_
      simp only [mdL]; omega
    · rw [iI_ofNat, iI_le ⟨by omega, by omega⟩ ⟨by omega, by omega⟩]; omega
  | succ n ih =>
    intro i l z hi hl h
    have hc : (iI (i : Int)).toNatClampNeg = i := iI_clamp (by omega)
    have hm := monN_ok i (by omega)
    have hb := monN_lt i
    have hin : vp_in (iI (i : Int)) 12 := (iI_in (by omega) 12).mpr (by omega)
    unfold mdL at h
    have fin : ∀ (x : Nat), x = moL leap i → x ≤ 32 → ((iI (x : Int) ≤ iI (l : Int) → jv_wp (d + 1) post (5, 43, [some (.int day), some (.int inf), some (.int (jb leap)), some (.int (iI l - iI x)), some (.int (iI 0)), some (.int (iI i + iI 1)), some (.int (iI x))], [], σ)) ∧
        (¬ iI (x : Int) ≤ iI (l : Int) → post (some (.int ((((iI i + iI 1) * iI 32) + iI l) + iI 1))) σ)) := by
      intro x hx hx2
      refine ⟨fun c => ?_, fun c => ?_⟩
      · rw [iI_le ⟨by omega, by omega⟩ ⟨by omega, by omega⟩] at c
        rw [if_pos (by omega)] at h
        rw [iI_sub, iI_add, show (l : Int) - x = ((l - moL leap i : Nat) : Int) by omega, show (i : Int) + 1 = ((i + 1 : Nat) : Int) by omega]
        exact ih (i + 1) _ _ (by omega) (by omega) h
      · rw [iI_le ⟨by omega, by omega⟩ ⟨by omega, by omega⟩] at c
        rw [if_neg (by omega)] at h
        simp only [iI_add, iI_mul]
        refine pI h ?_
        omega
    refine ok_X0_monthAndDate_L ⟨fun c => absurd c ?_, fun _ => ⟨fun c => ⟨hin, ?_⟩, fun c => ⟨fun c2 => ⟨hin, ?_⟩, fun c2 => ⟨hin, ?_⟩⟩⟩⟩
    · rw [iI_ofNat, iI_le ⟨by omega, by omega⟩ ⟨by omega, by omega⟩]; omega
    · rw [iI_eq ⟨by omega, by omega⟩ ⟨by omega, by omega⟩] at c
      rw [hc, hm]
      exact fin (monN i) (by unfold moL; rw [if_neg (by omega)]) (by omega)
    · rw [iI_eq ⟨by omega, by omega⟩ ⟨by omega, by omega⟩] at c
      rw [jb_0] at c2
      rw [hc, hm]
      exact fin (monN i) (by unfold moL; rw [if_neg (by simp [c2])]) (by omega)
    · rw [iI_eq ⟨by omega, by omega⟩ ⟨by omega, by omega⟩] at c
      rw [jb_0] at c2
      rw [hc, hm, iI_add]
      exact fin (monN i + 1) (by unfold moL; rw [if_pos ⟨by omega, by simpa using c2⟩]) (by omega)
theorem s_mad {d : Nat} {post : jPo} {σ : jSt} {day : Nat} (hd : day < 2147483648) (h : post (some (.int (iI (mad day : Nat)))) σ) : jv_wp (d + 1) post (jv_en 5 [.int (iI day)] σ) := by
  have hr : iI (day : Int) - iI (day : Int) / iI 1461 * iI 1461 = iI ((day % 1461 : Nat) : Int) := iI_rem (b := 1461) hd (by omega) (by omega)
  unfold mad at h
  have n0 : ∀ k : Int, 0 < k → k < 100000 → ¬ iI k = 0 := fun k h1 h2 e => by
    rw [iI_0, iI_eq ⟨by omega, by omega⟩ ⟨by omega, by omega⟩] at e; omega
  refine ok_X0_monthAndDate ⟨n0 _ (by omega) (by omega), ?_⟩
  rw [hr]
  refine ⟨fun c => ?_, fun c => ?_⟩
  · rw [iI_lt ⟨by omega, by omega⟩ ⟨by omega, by omega⟩] at c
    rw [if_neg (by omega)] at h
    refine ok_X0_monthAndDate_A ⟨fun _ => ⟨n0 _ (by omega) (by omega), ?_⟩, fun c => absurd iI_0.symm c⟩
    have h2 : iI ((day % 1461 : Nat) : Int) - iI ((day % 1461 : Nat) : Int) / iI 365 * iI 365 = iI ((day % 1461 % 365 : Nat) : Int) := iI_rem (b := 365) (by omega) (by omega) (by omega)
    dsimp only
    rw [h2]
    exact wp_mdL false 12 0 _ none (by omega) (by omega) h
  · rw [iI_lt ⟨by omega, by omega⟩ ⟨by omega, by omega⟩] at c
    rw [if_pos (by omega)] at h
    refine ok_X0_monthAndDate_A ⟨fun c => absurd c (n0 _ (by omega) (by omega)), fun _ => ?_⟩
    dsimp only
    rw [iI_sub, show ((day % 1461 : Nat) : Int) - 1095 = ((day % 1461 - 1095 : Nat) : Int) by omega]
    exact wp_mdL true 12 0 _ none (by omega) (by omega) h
theorem n0I {k : Int} (h1 : 0 < k) (h2 : k < 100000) : ¬ iI k = 0 := fun e => by
  rw [iI_0, iI_eq ⟨by omega, by omega⟩ ⟨by omega, by omega⟩] at e; omega
theorem mdL_lt (leap : Bool) : ∀ n i l, l < 1000 → i + n ≤ 12 → 32 < mdL leap n i l ∧ mdL leap n i l < 2000
  | 0, i, l, h, h2 => by simp only [mdL]; omega
  | n + 1, i, l, h, h2 => by
    unfold mdL
    split
    · exact mdL_lt leap n (i + 1) _ (by omega) (by omega)
    · omega
theorem mad_lt (day : Nat) : 32 < mad day ∧ mad day < 2000 := by
  unfold mad
  split
  · exact mdL_lt _ _ _ _ (by omega) (by omega)
  · exact mdL_lt _ _ _ _ (by omega) (by omega)
theorem q_mad {d : Nat} {σ : jSt} {day : Nat} {k : Int32 → jSt → Prop} (hd : day < 2147483648) (h : k (iI (mad day : Nat)) σ) : jq_I (d + 1) 5 [.int (iI day)] σ k := s_mad hd ⟨_, rfl, h⟩
def yeN (day : Nat) : Nat := day / 1461 * 4 + (if 3 < day % 1461 / 365 then 3 else day % 1461 / 365)
theorem q_yearOf {d : Nat} {σ : jSt} {day : Nat} {k : Int32 → jSt → Prop} (hd : day < 1000000) (h : k (iI (yeN day : Nat)) σ) : jq_I (d + 1) 1 [.int (iI day)] σ k := by
  have hr : iI (day : Int) - iI (day : Int) / iI 1461 * iI 1461 = iI ((day % 1461 : Nat) : Int) := iI_rem (b := 1461) (by omega) (by omega) (by omega)
  have hq : iI (day : Int) / iI 1461 = iI ((day / 1461 : Nat) : Int) := iI_div (b := 1461) (by omega) (by omega) (by omega)
  have hq2 : iI ((day % 1461 : Nat) : Int) / iI 365 = iI ((day % 1461 / 365 : Nat) : Int) := iI_div (b := 365) (by omega) (by omega) (by omega)
  refine ok_X0_yearOf ⟨n0I (by omega) (by omega), n0I (by omega) (by omega), n0I (by omega) (by omega), Nat.le_of_ble_eq_true rfl, ?_⟩
  rw [hr, hq, hq2]
  refine ⟨_, rfl, ?_⟩
  have : (iI ((day / 1461 : Nat) : Int) * iI 4 + (if iI 3 < iI ((day % 1461 / 365 : Nat) : Int) then iI 3 else iI ((day % 1461 / 365 : Nat) : Int))) = iI (yeN day : Nat) := by
    unfold yeN
    by_cases c : 3 < day % 1461 / 365
    · rw [if_pos c, if_pos (by rw [iI_lt ⟨by omega, by omega⟩ ⟨by omega, by omega⟩]; omega), iI_mul, iI_add]; exact congrArg iI (by omega)
    · rw [if_neg c, if_neg (by rw [iI_lt ⟨by omega, by omega⟩ ⟨by omega, by omega⟩]; omega), iI_mul, iI_add]; exact congrArg iI (by omega)
  rw [this]; exact h
theorem q_monthOf {d : Nat} {σ : jSt} {day : Nat} {k : Int32 → jSt → Prop} (hd : day < 2147483648) (h : k (iI (mad day / 32 : Nat)) σ) : jq_I (d + 2) 2 [.int (iI day)] σ k := by
  have hl := mad_lt day
  refine ok_X0_monthOf (q_mad hd ⟨n0I (by omega) (by omega), _, rfl, ?_⟩)
  rw [show (iI 32 : Int32) = iI ((32 : Nat) : Int) from rfl, iI_div (by omega) (by omega) (by omega)]; exact h
theorem q_dateOf {d : Nat} {σ : jSt} {day : Nat} {k : Int32 → jSt → Prop} (hd : day < 2147483648) (h : k (iI (mad day % 32 : Nat)) σ) : jq_I (d + 2) 3 [.int (iI day)] σ k := by
  have hl := mad_lt day
  refine ok_X0_dateOf (q_mad hd ⟨n0I (by omega) (by omega), _, rfl, ?_⟩)
  rw [show (iI 32 : Int32) = iI ((32 : Nat) : Int) from rfl, iI_rem (by omega) (by omega) (by omega)]; exact h
/-- which banks may speak (1 left, 2 right), and 4: the first of a month -/
def vo (day : Nat) : Nat := if mad day = 93 then 3 else if mad day % 32 = 1 then 5 else if mad day % 2 = 1 then 1 else 2
theorem q_voicesOn {d : Nat} {σ : jSt} {day : Nat} {k : Int32 → jSt → Prop} (hd : day < 2147483648) (h : k (iI (vo day : Nat)) σ) : jq_I (d + 2) 4 [.int (iI day)] σ k := by
  have hl := mad_lt day
  refine ok_X0_voicesOn (q_mad hd ?_)
  have h32 : iI ((mad day : Nat) : Int) - iI ((mad day : Nat) : Int) / iI 32 * iI 32 = iI ((mad day % 32 : Nat) : Int) := iI_rem (b := 32) (by omega) (by omega) (by omega)
  have h2 : iI ((mad day % 32 : Nat) : Int) - iI ((mad day % 32 : Nat) : Int) / iI 2 * iI 2 = iI ((mad day % 32 % 2 : Nat) : Int) := iI_rem (b := 2) (by omega) (by omega) (by omega)
  unfold vo at h
  refine ⟨fun c => ⟨n0I (by omega) (by omega), ?_⟩, fun c => ?_⟩
  · rw [iI_eq ⟨by omega, by omega⟩ ⟨by omega, by omega⟩] at c
    rw [if_neg (by omega)] at h
    rw [h32]
    refine ⟨n0I (by omega) (by omega), ?_⟩
    rw [h2]
    refine ⟨fun c1 => ⟨fun c2 => ?_, fun c2 => ?_⟩, fun c1 => ⟨fun c2 => ?_, fun c2 => ?_⟩⟩
    all_goals rw [iI_eq ⟨by omega, by omega⟩ ⟨by omega, by omega⟩] at c1 c2
    · rw [if_neg (by omega), if_neg (by omega)] at h; exact ⟨_, rfl, h⟩
    · exfalso; omega
    · rw [if_neg (by omega), if_pos (by omega)] at h; exact ⟨_, rfl, h⟩
    · rw [if_pos (by omega)] at h; exact ⟨_, rfl, h⟩
  · rw [iI_eq ⟨by omega, by omega⟩ ⟨by omega, by omega⟩] at c
    rw [if_pos (by omega)] at h; exact ⟨_, rfl, h⟩
theorem vo_in (day : Nat) : vo day = 1 ∨ vo day = 2 ∨ vo day = 3 ∨ vo day = 5 := by
  unfold vo
  split
  · omega
  · split
    · omega
    · split <;> omega
def isK (k t : Nat) : Bool := t == 0 || k == t || (k == 4 && t == 1)
theorem q_isKind {d : Nat} {σ : jSt} {a t : Nat} {k : Int32 → jSt → Prop} (ha : a < 5) (ht : t < 5) (h : k (jb (isK a t)) σ) : jq_I (d + 1) 31 [.int (iI a), .int (iI t)] σ k := by
  have z : ∀ b : Bool, (jb b = 0 ∨ jb b = 1) ∧ (isK a t = b → (∃ x, some (Value.int (jb b)) = some (.int x) ∧ k x σ)) := fun b => ⟨jb_z b, fun e => ⟨_, rfl, by rw [← e]; exact h⟩⟩
  have e0 : iI (t : Int) = 0 ↔ t = 0 := by rw [iI_0, iI_eq ⟨by omega, by omega⟩ ⟨by omega, by omega⟩]; omega
  have e1 : iI (a : Int) = iI (t : Int) ↔ a = t := by rw [iI_eq ⟨by omega, by omega⟩ ⟨by omega, by omega⟩]; omega
  have e2 : iI (a : Int) = iI 4 ↔ a = 4 := by rw [iI_eq ⟨by omega, by omega⟩ ⟨by omega, by omega⟩]; omega
  have e3 : iI (t : Int) = iI 1 ↔ t = 1 := by rw [iI_eq ⟨by omega, by omega⟩ ⟨by omega, by omega⟩]; omega
  refine ok_X6_isKind ?_
  unfold vc_X6_isKind
  rw [e0, e1, e2, e3, jb_t, jb_f]
  refine ⟨fun c => ⟨(z true).1, (z true).2 (by simp [isK, c])⟩, fun c => ⟨fun c1 => ⟨(z true).1, (z true).2 (by simp [isK, c1])⟩, fun c1 => ⟨fun c2 => ⟨(z false).1, (z false).2 (by simp [isK, c, c1, c2])⟩, fun c2 => ⟨fun c3 => ⟨(z false).1, (z false).2 (by simp [isK, c, c1, c3])⟩, fun c3 => ⟨(z true).1, (z true).2 (by simp [isK, c2, c3])⟩⟩⟩⟩⟩
/-- the sorts that speak, as the class's code has them -/
def spE (v b : Int32) : Int32 :=
  let bm := (v >>> (b &&& 31)) &&& iI 1 = iI 1
  let s := if bm then iI 594 ||| iI 33 else iI 594
  let s := if bm then s ||| iI 132 else if v &&& iI 4 = 0 then s else s ||| iI 132
  let s := if v &&& iI 1 = 0 then s else s ||| iI 8
  if v &&& iI 2 = 0 then s else s ||| iI 256
theorem s_speaking {d : Nat} {post : jPo} {σ : jSt} {v b : Int32} (h : post (some (.int (spE v b))) σ) : jv_wp (d + 1) post (jv_en 32 [.int v, .int b] σ) := by
  have hD : ∀ (bm s : Int32), post (some (.int (if v &&& iI 2 = 0 then s else s ||| iI 256))) σ → jv_wp (d + 1) post (32, 55, [some (.int v), some (.int b), some (.int bm), some (.int s)], [], σ) := by
    intro bm s h
    refine ok_X6_speaking_D ⟨fun c => ?_, fun c => ?_⟩
    · rw [if_pos c] at h; exact ok_X6_speaking_E h
    · rw [if_neg c] at h; exact ok_X6_speaking_E h
  have hC : ∀ (bm s : Int32), (∀ s', s' = (if v &&& iI 1 = 0 then s else s ||| iI 8) → post (some (.int (if v &&& iI 2 = 0 then s' else s' ||| iI 256))) σ) → jv_wp (d + 1) post (32, 44, [some (.int v), some (.int b), some (.int bm), some (.int s)], [], σ) := by
    intro bm s h
    refine ok_X6_speaking_C ⟨fun c => ?_, fun c => ?_⟩
    · exact hD _ _ (h _ (if_pos c).symm)
    · exact hD _ _ (h _ (if_neg c).symm)
  have hB : ∀ (s : Int32) (bm : Bool), (∀ s', s' = (if bm = true then s ||| iI 132 else if v &&& iI 4 = 0 then s else s ||| iI 132) → (∀ s'', s'' = (if v &&& iI 1 = 0 then s' else s' ||| iI 8) → post (some (.int (if v &&& iI 2 = 0 then s'' else s'' ||| iI 256))) σ)) → jv_wp (d + 1) post (32, 28, [some (.int v), some (.int b), some (.int (jb bm)), some (.int s)], [], σ) := by
    intro s bm h
    refine ok_X6_speaking_B ⟨fun c => ?_, fun c => ⟨fun c2 => ?_, fun c2 => ?_⟩⟩
    · rw [jb_0] at c
      exact hC _ _ (h _ (if_pos (by simpa using c)).symm)
    · rw [jb_0] at c
      refine hC _ _ (h _ ?_)
      rw [c, if_pos c2]; rfl
    · rw [jb_0] at c
      refine hC _ _ (h _ ?_)
      rw [c, if_neg c2]; rfl
  have hA : ∀ (bm : Bool), (∀ s', s' = (if bm = true then iI 594 ||| iI 33 else iI 594) → (∀ s'', s'' = (if bm = true then s' ||| iI 132 else if v &&& iI 4 = 0 then s' else s' ||| iI 132) → (∀ s3, s3 = (if v &&& iI 1 = 0 then s'' else s'' ||| iI 8) → post (some (.int (if v &&& iI 2 = 0 then s3 else s3 ||| iI 256))) σ))) → jv_wp (d + 1) post (32, 19, [some (.int v), some (.int b), some (.int (jb bm)), some (.int (iI 594))], [], σ) := by
    intro bm h
    refine ok_X6_speaking_A ⟨fun c => ?_, fun c => ?_⟩
    · rw [jb_0] at c
      subst c
      exact hB _ false (h _ rfl)
    · rw [jb_0] at c
      have c : bm = true := by simpa using c
      subst c
      exact hB _ true (h _ rfl)
  refine ok_X6_speaking ⟨fun c => ?_, fun c => ?_⟩
  · refine hA false ?_
    rintro s rfl s2 rfl s3 rfl
    unfold spE at h
    simp only [c, if_false] at h
    exact h
  · refine hA true ?_
    rintro s rfl s2 rfl s3 rfl
    unfold spE at h
    simp only [c, if_true] at h
    exact h
/-- who of a sort (kind, born) speaks on a bank with such voices -/
def spk (v k b bk : Nat) : Bool := if k = 1 ∨ k = 4 then true else if k = 2 then v.testBit bk || v.testBit 2 else if k = 3 then v.testBit b else v.testBit bk
/-- the sorts that speak, as bits -/
def spS (v bk : Nat) : Nat := bsN (fun i => spk v (i % 5) (i / 5) bk) 10
theorem spE_ok {v b : Nat} (hv : v = 1 ∨ v = 2 ∨ v = 3 ∨ v = 5) (hb : b < 2) : spE (iI v) (iI b) = iI (spS v b : Nat) := by
  have h : ∀ b : Nat, b < 2 → ∀ v ∈ ([1, 2, 3, 5] : List Nat), spE (iI v) (iI b) = iI (spS v b : Nat) := by decide +kernel
  exact h b hb v (by simp; exact hv)
theorem q_speaking {d : Nat} {σ : jSt} {day b : Nat} {k : Int32 → jSt → Prop} (hb : b < 2) (h : k (iI (spS (vo day) b : Nat)) σ) : jq_I (d + 1) 32 [.int (iI (vo day : Nat)), .int (iI b)] σ k :=
  s_speaking ⟨_, rfl, by rw [spE_ok (vo_in day) hb]; exact h⟩
def bcE (x : Int32) : Int32 :=
  let x1 : Int32 := (x - (((x).toUInt32 >>> (((iI 1)).toUInt32 &&& Int32.toUInt32 31)).toInt32 &&& (Int32.ofNat 1431655765)))
  let x2 : Int32 := ((x1 &&& (Int32.ofNat 858993459)) + (((x1).toUInt32 >>> (((iI 2)).toUInt32 &&& Int32.toUInt32 31)).toInt32 &&& (Int32.ofNat 858993459)))
  let x3 : Int32 := ((x2 + ((x2).toUInt32 >>> (((iI 4)).toUInt32 &&& Int32.toUInt32 31)).toInt32) &&& (Int32.ofNat 252645135))
  let x4 : Int32 := (x3 + ((x3).toUInt32 >>> (((iI 8)).toUInt32 &&& Int32.toUInt32 31)).toInt32)
  let x5 : Int32 := (x4 + ((x4).toUInt32 >>> (((iI 16)).toUInt32 &&& Int32.toUInt32 31)).toInt32)
  x5 &&& (iI 63)
theorem bcE_ok : ∀ n : Nat, n < 1024 → bcE (iI n) = iI (pcN 12 n : Nat) := by decide +kernel
theorem q_bitCount {d : Nat} {σ : jSt} {n : Nat} {k : Int32 → jSt → Prop} (hn : n < 1024) (h : k (iI (pcN 12 n : Nat)) σ) : jq_I (d + 1) 143 [.int (iI n)] σ k := by
  refine ok_J6_bitCount ?_
  show ∃ x, some (Value.int (bcE (iI n))) = some (.int x) ∧ k x σ
  exact ⟨_, rfl, by rw [bcE_ok n hn]; exact h⟩
end Cal
end
section
/-! what a river is, in numbers: P, M, the day .. in row 0; rows 1 kinds, 2 born, 3 banks, 4 memory, 5 asks, 6 answers, 7 worth, 8 how it stands (0 open, 1 settled, d + 2: asked on day d), 9 .. 11 what is seen -/
abbrev rA : Type := Nat → Nat → Nat
def rU (α : rA) (k i v : Nat) : rA := fun a b => if a = k ∧ b = i then v else α a b
def zA (a : Nat) : Int := if a = 0 then -1 else if a = 1 then -2 else (a : Int) - 2
def rV (α : rA) : Prop := α 0 0 ≤ 6 ∧ α 0 1 ≤ 5 ∧ α 0 2 ≤ 1460 ∧ α 0 4 ≤ 6 ∧ (∀ p, p < α 0 0 → α 1 p < 5 ∧ α 2 p < 2 ∧ α 3 p < 2 ∧ α 4 p < 10) ∧ (∀ m, m < α 0 1 → α 5 m < α 0 0 ∧ α 6 m < α 0 0 ∧ 1 ≤ α 7 m ∧ α 7 m ≤ 9 ∧ α 8 m ≤ α 0 2 + 2) ∧ (∀ i, i < α 0 4 → α 9 i < α 0 0 ∧ α 10 i ≤ 31 ∧ α 11 i < 2) ∧ (0 < α 0 1 ↔ 0 < α 0 0)
def rt (α : rA) : Nat := bsN (fun p => α 3 p == 1) (α 0 0)
/-- a World of the class's at cells w .. w + 11 -/
def rX (w : Nat) (α : rA) (σ : jSt) : Prop :=
  σ.1 w 8 = iI (α 0 0 : Nat) ∧ σ.1 w 9 = iI (α 0 1 : Nat) ∧ σ.1 w 10 = iI (rt α : Nat) ∧ σ.1 w 11 = iI (α 0 2 : Nat) ∧ σ.1 (w + 8) 3 = iI (α 0 4 : Nat) ∧
  (∀ p, p < α 0 0 → σ.1 (w + 1) p = iI (α 1 p : Nat) ∧ σ.1 (w + 2) p = iI (α 2 p : Nat) ∧ σ.1 (w + 3) p = iI (α 4 p : Nat)) ∧
  (∀ m, m < α 0 1 → σ.1 (w + 4) m = iI (α 5 m : Nat) ∧ σ.1 (w + 5) m = iI (α 6 m : Nat) ∧ σ.1 (w + 6) m = iI (α 7 m : Nat) ∧ σ.1 (w + 7) m = iI (zA (α 8 m))) ∧
  (∀ i, i < α 0 4 → σ.1 (w + 9) i = iI (α 9 i : Nat) ∧ σ.1 (w + 10) i = iI (α 10 i : Nat) ∧ σ.1 (w + 11) i = iI (α 11 i : Nat))
section RX
variable {α : rA} {σ : jSt} (h : rX 3 α σ)
theorem rX.P (h : rX 3 α σ) : σ.1 3 8 = iI (α 0 0 : Nat) := h.1
theorem rX.M (h : rX 3 α σ) : σ.1 3 9 = iI (α 0 1 : Nat) := h.2.1
theorem rX.rt (h : rX 3 α σ) : σ.1 3 10 = iI (rt α : Nat) := h.2.2.1
theorem rX.td (h : rX 3 α σ) : σ.1 3 11 = iI (α 0 2 : Nat) := h.2.2.2.1
theorem rX.sz (h : rX 3 α σ) : σ.1 11 3 = iI (α 0 4 : Nat) := h.2.2.2.2.1
theorem rX.kd (h : rX 3 α σ) {p : Nat} (hp : p < α 0 0) : σ.1 4 p = iI (α 1 p : Nat) := (h.2.2.2.2.2.1 p hp).1
theorem rX.bn (h : rX 3 α σ) {p : Nat} (hp : p < α 0 0) : σ.1 5 p = iI (α 2 p : Nat) := (h.2.2.2.2.2.1 p hp).2.1
theorem rX.me (h : rX 3 α σ) {p : Nat} (hp : p < α 0 0) : σ.1 6 p = iI (α 4 p : Nat) := (h.2.2.2.2.2.1 p hp).2.2
theorem rX.ak (h : rX 3 α σ) {m : Nat} (hm : m < α 0 1) : σ.1 7 m = iI (α 5 m : Nat) := (h.2.2.2.2.2.2.1 m hm).1
theorem rX.aw (h : rX 3 α σ) {m : Nat} (hm : m < α 0 1) : σ.1 8 m = iI (α 6 m : Nat) := (h.2.2.2.2.2.2.1 m hm).2.1
theorem rX.wo (h : rX 3 α σ) {m : Nat} (hm : m < α 0 1) : σ.1 9 m = iI (α 7 m : Nat) := (h.2.2.2.2.2.2.1 m hm).2.2.1
theorem rX.st (h : rX 3 α σ) {m : Nat} (hm : m < α 0 1) : σ.1 10 m = iI (zA (α 8 m)) := (h.2.2.2.2.2.2.1 m hm).2.2.2
theorem rX.who (h : rX 3 α σ) {i : Nat} (hi : i < α 0 4) : σ.1 12 i = iI (α 9 i : Nat) := (h.2.2.2.2.2.2.2 i hi).1
theorem rX.dys (h : rX 3 α σ) {i : Nat} (hi : i < α 0 4) : σ.1 13 i = iI (α 10 i : Nat) := (h.2.2.2.2.2.2.2 i hi).2.1
theorem rX.spo (h : rX 3 α σ) {i : Nat} (hi : i < α 0 4) : σ.1 14 i = iI (α 11 i : Nat) := (h.2.2.2.2.2.2.2 i hi).2.2
theorem rV.P (h : rV α) : α 0 0 ≤ 6 := h.1
theorem rV.M (h : rV α) : α 0 1 ≤ 5 := h.2.1
theorem rV.td (h : rV α) : α 0 2 ≤ 1460 := h.2.2.1
theorem rV.sz (h : rV α) : α 0 4 ≤ 6 := h.2.2.2.1
theorem rV.p (h : rV α) {p : Nat} (hp : p < α 0 0) : α 1 p < 5 ∧ α 2 p < 2 ∧ α 3 p < 2 ∧ α 4 p < 10 := h.2.2.2.2.1 p hp
theorem rV.m (h : rV α) {m : Nat} (hm : m < α 0 1) : α 5 m < α 0 0 ∧ α 6 m < α 0 0 ∧ 1 ≤ α 7 m ∧ α 7 m ≤ 9 ∧ α 8 m ≤ α 0 2 + 2 := h.2.2.2.2.2.1 m hm
theorem rV.s (h : rV α) {i : Nat} (hi : i < α 0 4) : α 9 i < α 0 0 ∧ α 10 i ≤ 31 ∧ α 11 i < 2 := h.2.2.2.2.2.2.1 i hi
theorem rV.r (h : rV α) : 0 < α 0 1 ↔ 0 < α 0 0 := h.2.2.2.2.2.2.2
end RX
theorem rt_lt (α : rA) : rt α < 2 ^ α 0 0 := bsN_lt _ _
theorem rt_bit {α : rA} {p : Nat} (hp : p < α 0 0) : (rt α).testBit p = (α 3 p == 1) := by
  unfold rt; rw [bsN_bit]; simp [hp]
theorem lt64 {x n : Nat} (h : x < 2 ^ n) (hn : n ≤ 6) : x < 64 := Nat.lt_of_lt_of_le h (Nat.pow_le_pow_right (by omega) hn)
/-- may one speak on a day -/
def sp (α : rA) (dy p : Nat) : Bool := spk (vo dy) (α 1 p) (α 2 p) (α 3 p)
/-- who may, as bits, if these were on the right -/
def spI (α : rA) (dy r : Nat) : Nat := bsN (fun p => spk (vo dy) (α 1 p) (α 2 p) (if r.testBit p then 1 else 0)) (α 0 0)
/-- who may, as bits -/
def spB (α : rA) (dy : Nat) : Nat := bsN (sp α dy) (α 0 0)
theorem spI_rt {α : rA} (hV : rV α) (dy : Nat) : spI α dy (rt α) = spB α dy := by
  unfold spI spB
  refine bsN_congr _ (fun p hp => ?_)
  have h := (hV.p hp).2.2.1
  rw [rt_bit hp]
  unfold sp
  congr 1
  by_cases e : α 3 p = 1
  · simp [e]
  · have : α 3 p = 0 := by omega
    simp [this]
/-- how many i < n -/
def cnN (f : Nat → Bool) : Nat → Nat
  | 0 => 0
  | n + 1 => cnN f n + (if f n then 1 else 0)
theorem cnN_le (f : Nat → Bool) : ∀ n, cnN f n ≤ n
  | 0 => Nat.le_refl 0
  | n + 1 => by
    have := cnN_le f n
    unfold cnN
    split <;> omega
theorem cnN_congr {f g : Nat → Bool} : ∀ n, (∀ i, i < n → f i = g i) → cnN f n = cnN g n
  | 0, _ => rfl
  | n + 1, h => by
    unfold cnN
    rw [h n (by omega), cnN_congr n (fun i hi => h i (by omega))]
/-- can a matter that stands so be asked or answered on a day -/
def cbs (α : rA) (m a dy : Nat) : Bool := if a = 1 then false else if a = 0 then sp α dy (α 5 m) else decide (a < dy + 2) && sp α dy (α 6 m)
/-- for how much it is settled then -/
def sfo (α : rA) (m a dy : Nat) : Nat :=
  let l := α 7 m - (dy + 2 - a - α 4 (α 5 m))
  if α 1 (α 6 m) = 4 then l - 1 else if α 1 (α 6 m) = 1 then l / 2 else l
theorem sfo_le {α : rA} (hV : rV α) {m a dy : Nat} (hm : m < α 0 1) : sfo α m a dy ≤ 9 := by
  have := (hV.m hm).2.2.2.1
  unfold sfo
  dsimp only
  split
  · omega
  · split <;> omega

theorem iI_lt0 {a : Int} (h : iR a) : iI a < 0 ↔ a < 0 := by rw [iI_0, iI_lt h ⟨by omega, by omega⟩]
theorem iI_le0 {a : Int} (h : iR a) : iI a ≤ 0 ↔ a ≤ 0 := by rw [iI_0, iI_le h ⟨by omega, by omega⟩]
theorem iI_eq0 {a : Int} (h : iR a) : iI a = 0 ↔ a = 0 := by rw [iI_0, iI_eq h ⟨by omega, by omega⟩]
theorem iI_0le {a : Int} (h : iR a) : 0 ≤ iI a ↔ 0 ≤ a := by rw [iI_0, iI_le ⟨by omega, by omega⟩ h]
theorem iI_0lt {a : Int} (h : iR a) : 0 < iI a ↔ 0 < a := by rw [iI_0, iI_lt ⟨by omega, by omega⟩ h]
end
section
/-! a World of the class's: what is only read -/
def vc_X7_hasRiver (d : Nat) (post : jPo) (σ : jSt)  : Prop :=
 (((σ.1 3 8) ≤ 0 → (((iI 0) = 0 ∨ (iI 0) = 1) ∧ post (some (.int (iI 0))) σ)) ∧
 (¬ (σ.1 3 8) ≤ 0 → (((iI 1) = 0 ∨ (iI 1) = 1) ∧ post (some (.int (iI 1))) σ)))
set_option maxRecDepth 100000 in
set_option maxHeartbeats 4000000 in
theorem ok_X7_hasRiver {d : Nat} {post : jPo} {σ : jSt} (h : vc_X7_hasRiver d post σ ) : jv_wp (d + 1) post (33, 0, [some (.ref 3)], [], σ) := jv_go_ok 6 [] _ _ _ h
def vc_X7_knowsPerson (d : Nat) (post : jPo) (σ : jSt) (p : Int32) : Prop :=
 ((p < 0 → (((iI 0) = 0 ∨ (iI 0) = 1) ∧ post (some (.int (iI 0))) σ)) ∧
 (¬ p < 0 → (((σ.1 3 8) ≤ p → (((iI 0) = 0 ∨ (iI 0) = 1) ∧ post (some (.int (iI 0))) σ)) ∧
 (¬ (σ.1 3 8) ≤ p → (((iI 1) = 0 ∨ (iI 1) = 1) ∧ post (some (.int (iI 1))) σ)))))
set_option maxRecDepth 100000 in
set_option maxHeartbeats 4000000 in
theorem ok_X7_knowsPerson {d : Nat} {post : jPo} {σ : jSt} {p : Int32} (h : vc_X7_knowsPerson d post σ p) : jv_wp (d + 1) post (34, 0, [some (.ref 3), some (.int p)], [], σ) := jv_go_ok 9 [] _ _ _ h
def vc_X7_knowsMatter (d : Nat) (post : jPo) (σ : jSt) (m : Int32) : Prop :=
 ((m < 0 → (((iI 0) = 0 ∨ (iI 0) = 1) ∧ post (some (.int (iI 0))) σ)) ∧
 (¬ m < 0 → (((σ.1 3 9) ≤ m → (((iI 0) = 0 ∨ (iI 0) = 1) ∧ post (some (.int (iI 0))) σ)) ∧
 (¬ (σ.1 3 9) ≤ m → (((iI 1) = 0 ∨ (iI 1) = 1) ∧ post (some (.int (iI 1))) σ)))))
set_option maxRecDepth 100000 in
set_option maxHeartbeats 4000000 in
theorem ok_X7_knowsMatter {d : Nat} {post : jPo} {σ : jSt} {m : Int32} (h : vc_X7_knowsMatter d post σ m) : jv_wp (d + 1) post (35, 0, [some (.ref 3), some (.int m)], [], σ) := jv_go_ok 9 [] _ _ _ h
def vc_X7_bankOf (d : Nat) (post : jPo) (σ : jSt) (p : Int32) : Prop :=
 post (some (.int (((σ.1 3 10) >>> (p &&& 31)) &&& (iI 1)))) σ
set_option maxRecDepth 100000 in
set_option maxHeartbeats 4000000 in
theorem ok_X7_bankOf {d : Nat} {post : jPo} {σ : jSt} {p : Int32} (h : vc_X7_bankOf d post σ p) : jv_wp (d + 1) post (38, 0, [some (.ref 3), some (.int p)], [], σ) := jv_go_ok 7 [] _ _ _ h
def vc_X7_speaks (d : Nat) (post : jPo) (σ : jSt) (p : Int32) (dy : Int32) : Prop :=
 jq_I d 4 [.int dy] σ (fun x2 s1 =>
 jq_I d 38 [.ref 3, .int p] s1 (fun x4 s3 =>
 jq_I d 40 [.ref 3, .int x2, .int p, .int x4] s3 (fun x6 s5 =>
 ((x6 = 0 ∨ x6 = 1) ∧ post (some (.int x6)) s5))))
set_option maxRecDepth 100000 in
set_option maxHeartbeats 4000000 in
theorem ok_X7_speaks {d : Nat} {post : jPo} {σ : jSt} {p : Int32} {dy : Int32} (h : vc_X7_speaks d post σ p dy) : jv_wp (d + 1) post (39, 0, [some (.ref 3), some (.int p), some (.int dy)], [], σ) := jv_go_ok 9 [] _ _ _ h
def vc_X7_speaksWith (d : Nat) (post : jPo) (σ : jSt) (v : Int32) (p : Int32) (b : Int32) : Prop :=
 (vp_in p 6 ∧ (vp_in p 6 ∧ (let x1 : Int32 := ((σ.1 4 p.toNatClampNeg) + ((iI 5) * (σ.1 5 p.toNatClampNeg)))
 jq_I d 32 [.int v, .int b] σ (fun x3 s2 =>
 ((¬ ((x3 >>> (x1 &&& 31)) &&& (iI 1)) = (iI 1) → (((iI 0) = 0 ∨ (iI 0) = 1) ∧ post (some (.int (iI 0))) s2)) ∧
 (((x3 >>> (x1 &&& 31)) &&& (iI 1)) = (iI 1) → (((iI 1) = 0 ∨ (iI 1) = 1) ∧ post (some (.int (iI 1))) s2)))))))
set_option maxRecDepth 100000 in
set_option maxHeartbeats 4000000 in
theorem ok_X7_speaksWith {d : Nat} {post : jPo} {σ : jSt} {v : Int32} {p : Int32} {b : Int32} (h : vc_X7_speaksWith d post σ v p b) : jv_wp (d + 1) post (40, 0, [some (.ref 3), some (.int v), some (.int p), some (.int b), none], [], σ) := jv_go_ok 24 [] _ _ _ h
def vc_X7_speakersOn (d : Nat) (post : jPo) (σ : jSt) (dy : Int32) : Prop :=
 jq_I d 42 [.ref 3, .int dy, .int (σ.1 3 10)] σ (fun x2 s1 =>
 post (some (.int x2)) s1)
set_option maxRecDepth 100000 in
set_option maxHeartbeats 4000000 in
theorem ok_X7_speakersOn {d : Nat} {post : jPo} {σ : jSt} {dy : Int32} (h : vc_X7_speakersOn d post σ dy) : jv_wp (d + 1) post (41, 0, [some (.ref 3), some (.int dy)], [], σ) := jv_go_ok 6 [] _ _ _ h
def vc_X7_speakersIf (d : Nat) (post : jPo) (σ : jSt) (dy : Int32) (r : Int32) : Prop :=
 jq_I d 4 [.int dy] σ (fun x2 s1 =>
 jv_wp (d + 1) post (42, 11, [some (.ref 3), some (.int dy), some (.int r), some (.int x2), some (.int (iI 0)), some (.int (iI 0))], [], s1))
set_option maxRecDepth 100000 in
set_option maxHeartbeats 4000000 in
theorem ok_X7_speakersIf {d : Nat} {post : jPo} {σ : jSt} {dy : Int32} {r : Int32} (h : vc_X7_speakersIf d post σ dy r) : jv_wp (d + 1) post (42, 0, [some (.ref 3), some (.int dy), some (.int r), none, none, none], [], σ) := jv_go_ok 8 [11] _ _ _ h
def vc_X7_speakersIf_L (d : Nat) (post : jPo) (σ : jSt) (dy : Int32) (r : Int32) (v : Int32) (s : Int32) (p : Int32) : Prop :=
 (((σ.1 3 8) ≤ p → post (some (.int s)) σ) ∧
 (¬ (σ.1 3 8) ≤ p → jq_I d 40 [.ref 3, .int v, .int p, .int ((r >>> (p &&& 31)) &&& (iI 1))] σ (fun x2 s1 =>
 ((x2 = 0 → (let x3 : Int32 := (p + (iI 1))
 jv_wp (d + 1) post (42, 11, [some (.ref 3), some (.int dy), some (.int r), some (.int v), some (.int s), some (.int x3)], [], s1))) ∧
 (¬ x2 = 0 → (let x4 : Int32 := (s ||| ((iI 1) <<< (p &&& 31)))
 (let x5 : Int32 := (p + (iI 1))
 jv_wp (d + 1) post (42, 11, [some (.ref 3), some (.int dy), some (.int r), some (.int v), some (.int x4), some (.int x5)], [], s1))))))))
set_option maxRecDepth 100000 in
set_option maxHeartbeats 4000000 in
theorem ok_X7_speakersIf_L {d : Nat} {post : jPo} {σ : jSt} {dy : Int32} {r : Int32} {v : Int32} {s : Int32} {p : Int32} (h : vc_X7_speakersIf_L d post σ dy r v s p) : jv_wp (d + 1) post (42, 11, [some (.ref 3), some (.int dy), some (.int r), some (.int v), some (.int s), some (.int p)], [], σ) := jv_go_ok 23 [11] _ _ _ h
def vc_X7_speakingDays (d : Nat) (post : jPo) (σ : jSt) (p : Int32) : Prop :=
 jv_wp (d + 1) post (43, 4, [some (.ref 3), some (.int p), some (.int (iI 0)), some (.int (iI 0))], [], σ)
set_option maxRecDepth 100000 in
set_option maxHeartbeats 4000000 in
theorem ok_X7_speakingDays {d : Nat} {post : jPo} {σ : jSt} {p : Int32} (h : vc_X7_speakingDays d post σ p) : jv_wp (d + 1) post (43, 0, [some (.ref 3), some (.int p), none, none], [], σ) := jv_go_ok 5 [4] _ _ _ h
def vc_X7_speakingDays_L (d : Nat) (post : jPo) (σ : jSt) (p : Int32) (n : Int32) (i : Int32) : Prop :=
 (((iI 31) ≤ i → post (some (.int n)) σ) ∧
 (¬ (iI 31) ≤ i → jq_I d 39 [.ref 3, .int p, .int ((σ.1 3 11) + i)] σ (fun x2 s1 =>
 ((x2 = 0 → (let x3 : Int32 := (i + (iI 1))
 jv_wp (d + 1) post (43, 4, [some (.ref 3), some (.int p), some (.int n), some (.int x3)], [], s1))) ∧
 (¬ x2 = 0 → (let x4 : Int32 := (n + (iI 1))
 (let x5 : Int32 := (i + (iI 1))
 jv_wp (d + 1) post (43, 4, [some (.ref 3), some (.int p), some (.int x4), some (.int x5)], [], s1))))))))
set_option maxRecDepth 100000 in
set_option maxHeartbeats 4000000 in
theorem ok_X7_speakingDays_L {d : Nat} {post : jPo} {σ : jSt} {p : Int32} {n : Int32} {i : Int32} (h : vc_X7_speakingDays_L d post σ p n i) : jv_wp (d + 1) post (43, 4, [some (.ref 3), some (.int p), some (.int n), some (.int i)], [], σ) := jv_go_ok 15 [4] _ _ _ h
def vc_X7_standing (d : Nat) (post : jPo) (σ : jSt) (m : Int32) : Prop :=
 (vp_in m 5 ∧ ((¬ (σ.1 10 m.toNatClampNeg) = (iI (-2)) → (vp_in m 5 ∧ ((¬ (σ.1 10 m.toNatClampNeg) = (iI (-1)) → post (some (.int (iI 1))) σ) ∧
 ((σ.1 10 m.toNatClampNeg) = (iI (-1)) → post (some (.int (iI 0))) σ)))) ∧
 ((σ.1 10 m.toNatClampNeg) = (iI (-2)) → post (some (.int (iI 2))) σ)))
set_option maxRecDepth 100000 in
set_option maxHeartbeats 4000000 in
theorem ok_X7_standing {d : Nat} {post : jPo} {σ : jSt} {m : Int32} (h : vc_X7_standing d post σ m) : jv_wp (d + 1) post (46, 0, [some (.ref 3), some (.int m)], [], σ) := jv_go_ok 15 [] _ _ _ h
def vc_X7_howManyStand (d : Nat) (post : jPo) (σ : jSt) (so : Int32) : Prop :=
 jv_wp (d + 1) post (47, 4, [some (.ref 3), some (.int so), some (.int (iI 0)), some (.int (iI 0))], [], σ)
set_option maxRecDepth 100000 in
set_option maxHeartbeats 4000000 in
theorem ok_X7_howManyStand {d : Nat} {post : jPo} {σ : jSt} {so : Int32} (h : vc_X7_howManyStand d post σ so) : jv_wp (d + 1) post (47, 0, [some (.ref 3), some (.int so), none, none], [], σ) := jv_go_ok 5 [4] _ _ _ h
def vc_X7_howManyStand_L (d : Nat) (post : jPo) (σ : jSt) (so : Int32) (n : Int32) (m : Int32) : Prop :=
 (((σ.1 3 9) ≤ m → post (some (.int n)) σ) ∧
 (¬ (σ.1 3 9) ≤ m → jq_I d 46 [.ref 3, .int m] σ (fun x2 s1 =>
 ((¬ x2 = so → (let x3 : Int32 := (m + (iI 1))
 jv_wp (d + 1) post (47, 4, [some (.ref 3), some (.int so), some (.int n), some (.int x3)], [], s1))) ∧
 (x2 = so → (let x4 : Int32 := (n + (iI 1))
 (let x5 : Int32 := (m + (iI 1))
 jv_wp (d + 1) post (47, 4, [some (.ref 3), some (.int so), some (.int x4), some (.int x5)], [], s1))))))))
set_option maxRecDepth 100000 in
set_option maxHeartbeats 4000000 in
theorem ok_X7_howManyStand_L {d : Nat} {post : jPo} {σ : jSt} {so : Int32} {n : Int32} {m : Int32} (h : vc_X7_howManyStand_L d post σ so n m) : jv_wp (d + 1) post (47, 4, [some (.ref 3), some (.int so), some (.int n), some (.int m)], [], σ) := jv_go_ok 13 [4] _ _ _ h
def vc_X7_askedSince (d : Nat) (post : jPo) (σ : jSt) (m : Int32) : Prop :=
 jq_I d 46 [.ref 3, .int m] σ (fun x2 s1 =>
 ((¬ x2 = (iI 1) → post (some (.int (iI (-1)))) s1) ∧
 (x2 = (iI 1) → (vp_in m 5 ∧ post (some (.int ((s1.1 3 11) - (s1.1 10 m.toNatClampNeg)))) s1))))
set_option maxRecDepth 100000 in
set_option maxHeartbeats 4000000 in
theorem ok_X7_askedSince {d : Nat} {post : jPo} {σ : jSt} {m : Int32} (h : vc_X7_askedSince d post σ m) : jv_wp (d + 1) post (48, 0, [some (.ref 3), some (.int m)], [], σ) := jv_go_ok 14 [] _ _ _ h
def vc_X7_worthToday (d : Nat) (post : jPo) (σ : jSt) (m : Int32) : Prop :=
 jq_I d 46 [.ref 3, .int m] σ (fun x2 s1 =>
 ((¬ x2 = (iI 1) → (((iI 0) = 0 → post (some (.int (iI (-1)))) s1) ∧
 (¬ (iI 0) = 0 → (vp_in m 5 ∧ jq_I d 51 [.ref 3, .int m, .int (s1.1 10 m.toNatClampNeg), .int (s1.1 3 11)] s1 (fun x4 s3 =>
 post (some (.int x4)) s3))))) ∧
 (x2 = (iI 1) → (vp_in m 5 ∧ jq_I d 41 [.ref 3, .int (s1.1 3 11)] s1 (fun x6 s5 =>
 jq_I d 50 [.ref 3, .int m, .int (s1.1 10 m.toNatClampNeg), .int (s1.1 3 11), .int x6] s5 (fun x8 s7 =>
 ((x8 = 0 → (((iI 0) = 0 → post (some (.int (iI (-1)))) s7) ∧
 (¬ (iI 0) = 0 → (vp_in m 5 ∧ jq_I d 51 [.ref 3, .int m, .int (s7.1 10 m.toNatClampNeg), .int (s7.1 3 11)] s7 (fun x10 s9 =>
 post (some (.int x10)) s9))))) ∧
 (¬ x8 = 0 → (((iI 1) = 0 → post (some (.int (iI (-1)))) s7) ∧
 (¬ (iI 1) = 0 → (vp_in m 5 ∧ jq_I d 51 [.ref 3, .int m, .int (s7.1 10 m.toNatClampNeg), .int (s7.1 3 11)] s7 (fun x12 s11 =>
 post (some (.int x12)) s11))))))))))))
set_option maxRecDepth 100000 in
set_option maxHeartbeats 4000000 in
theorem ok_X7_worthToday {d : Nat} {post : jPo} {σ : jSt} {m : Int32} (h : vc_X7_worthToday d post σ m) : jv_wp (d + 1) post (49, 0, [some (.ref 3), some (.int m), none], [], σ) := jv_go_ok 35 [] _ _ _ h
def vc_X7_canBeSaid (d : Nat) (post : jPo) (σ : jSt) (m : Int32) (a : Int32) (dy : Int32) (s : Int32) : Prop :=
 ((¬ a = (iI (-2)) → ((¬ a = (iI (-1)) → ((dy ≤ a → (((iI 0) = 0 ∨ (iI 0) = 1) ∧ post (some (.int (iI 0))) σ)) ∧
 (¬ dy ≤ a → (vp_in m 5 ∧ ((¬ ((s >>> ((σ.1 8 m.toNatClampNeg) &&& 31)) &&& (iI 1)) = (iI 1) → (((iI 0) = 0 ∨ (iI 0) = 1) ∧ post (some (.int (iI 0))) σ)) ∧
 (((s >>> ((σ.1 8 m.toNatClampNeg) &&& 31)) &&& (iI 1)) = (iI 1) → (((iI 1) = 0 ∨ (iI 1) = 1) ∧ post (some (.int (iI 1))) σ))))))) ∧
 (a = (iI (-1)) → (vp_in m 5 ∧ ((¬ ((s >>> ((σ.1 7 m.toNatClampNeg) &&& 31)) &&& (iI 1)) = (iI 1) → (((iI 0) = 0 ∨ (iI 0) = 1) ∧ post (some (.int (iI 0))) σ)) ∧
 (((s >>> ((σ.1 7 m.toNatClampNeg) &&& 31)) &&& (iI 1)) = (iI 1) → (((iI 1) = 0 ∨ (iI 1) = 1) ∧ post (some (.int (iI 1))) σ))))))) ∧
 (a = (iI (-2)) → (((iI 0) = 0 ∨ (iI 0) = 1) ∧ post (some (.int (iI 0))) σ)))
set_option maxRecDepth 100000 in
set_option maxHeartbeats 4000000 in
theorem ok_X7_canBeSaid {d : Nat} {post : jPo} {σ : jSt} {m : Int32} {a : Int32} {dy : Int32} {s : Int32} (h : vc_X7_canBeSaid d post σ m a dy s) : jv_wp (d + 1) post (50, 0, [some (.ref 3), some (.int m), some (.int a), some (.int dy), some (.int s)], [], σ) := jv_go_ok 22 [] _ _ _ h
def vc_X7_settledFor (d : Nat) (post : jPo) (σ : jSt) (m : Int32) (a : Int32) (dy : Int32) : Prop :=
 (vp_in m 5 ∧ (let x1 : Int32 := (σ.1 7 m.toNatClampNeg)
 (vp_in m 5 ∧ (let x2 : Int32 := (σ.1 8 m.toNatClampNeg)
 jq_I d 34 [.ref 3, .int x1] σ (fun x4 s3 =>
 ((x4 = 0 → post (some (.int (iI 0))) s3) ∧
 (¬ x4 = 0 → jq_I d 34 [.ref 3, .int x2] s3 (fun x6 s5 =>
 ((¬ x6 = 0 → (vp_in x1 6 ∧ ((([] : List Value).map fun v => v.category).sum ≤ 8 ∧ (let x7 : Int32 := (if ((dy - a) - (s5.1 6 x1.toNatClampNeg)) < (iI 0) then (iI 0) else ((dy - a) - (s5.1 6 x1.toNatClampNeg)))
 (vp_in m 5 ∧ ((([] : List Value).map fun v => v.category).sum ≤ 8 ∧ (let x8 : Int32 := (if ((s5.1 9 m.toNatClampNeg) - x7) < (iI 0) then (iI 0) else ((s5.1 9 m.toNatClampNeg) - x7))
 (vp_in x2 6 ∧ ((¬ (s5.1 4 x2.toNatClampNeg) = (iI 4) → (vp_in x2 6 ∧ ((¬ (s5.1 4 x2.toNatClampNeg) = (iI 1) → post (some (.int x8)) s5) ∧
 ((s5.1 4 x2.toNatClampNeg) = (iI 1) → (¬ (iI 2) = 0 ∧ post (some (.int (x8 / (iI 2)))) s5))))) ∧
 ((s5.1 4 x2.toNatClampNeg) = (iI 4) → ((([] : List Value).map fun v => v.category).sum ≤ 8 ∧ post (some (.int (if (x8 - (iI 1)) < (iI 0) then (iI 0) else (x8 - (iI 1))))) s5))))))))))) ∧
 (x6 = 0 → post (some (.int (iI 0))) s5))))))))))
set_option maxRecDepth 100000 in
set_option maxHeartbeats 4000000 in
theorem ok_X7_settledFor {d : Nat} {post : jPo} {σ : jSt} {m : Int32} {a : Int32} {dy : Int32} (h : vc_X7_settledFor d post σ m a dy) : jv_wp (d + 1) post (51, 0, [some (.ref 3), some (.int m), some (.int a), some (.int dy), none, none, none, none], [], σ) := jv_go_ok 55 [] _ _ _ h
section WX
variable {α : rA} {σ : jSt} {d : Nat} {k : Int32 → jSt → Prop}
theorem q_hasRiver (hV : rV α) (hX : rX 3 α σ) (h : k (jb (decide (0 < α 0 0))) σ) : jq_I (d + 1) 33 [.ref 3] σ k := by
  have := hV.P
  refine ok_X7_hasRiver ?_
  unfold vc_X7_hasRiver
  rw [hX.P, iI_le0 ⟨by omega, by omega⟩, jb_t, jb_f]
  refine ⟨fun c => ⟨jb_z _, _, rfl, ?_⟩, fun c => ⟨jb_z _, _, rfl, ?_⟩⟩
  · rwa [decide_eq_false (by omega)] at h
  · rwa [decide_eq_true (by omega)] at h
/-- any int as a person's number -/
theorem q_knowsPerson (hV : rV α) (hX : rX 3 α σ) {z : Int} (hz : iR z) (h : k (jb (decide (0 ≤ z ∧ z < α 0 0))) σ) : jq_I (d + 1) 34 [.ref 3, .int (iI z)] σ k := by
  have := hV.P
  refine ok_X7_knowsPerson ?_
  unfold vc_X7_knowsPerson
  rw [hX.P, iI_le ⟨by omega, by omega⟩ hz, iI_lt0 hz, jb_t, jb_f]
  refine ⟨fun c => ⟨jb_z _, _, rfl, ?_⟩, fun c => ⟨fun c2 => ⟨jb_z _, _, rfl, ?_⟩, fun c2 => ⟨jb_z _, _, rfl, ?_⟩⟩⟩
  · rwa [decide_eq_false (by omega)] at h
  · rwa [decide_eq_false (by omega)] at h
  · rwa [decide_eq_true (by omega)] at h
theorem q_knowsMatter (hV : rV α) (hX : rX 3 α σ) {z : Int} (hz : iR z) (h : k (jb (decide (0 ≤ z ∧ z < α 0 1))) σ) : jq_I (d + 1) 35 [.ref 3, .int (iI z)] σ k := by
  have := hV.M
  refine ok_X7_knowsMatter ?_
  unfold vc_X7_knowsMatter
  rw [hX.M, iI_le ⟨by omega, by omega⟩ hz, iI_lt0 hz, jb_t, jb_f]
  refine ⟨fun c => ⟨jb_z _, _, rfl, ?_⟩, fun c => ⟨fun c2 => ⟨jb_z _, _, rfl, ?_⟩, fun c2 => ⟨jb_z _, _, rfl, ?_⟩⟩⟩
  · rwa [decide_eq_false (by omega)] at h
  · rwa [decide_eq_false (by omega)] at h
  · rwa [decide_eq_true (by omega)] at h
theorem jbN {b n : Nat} (hb : b < 2) (h : n = b) : jb (n == 1) = iI (b : Nat) := by
  subst h
  rcases (show n = 0 ∨ n = 1 by omega) with rfl | rfl <;> decide +kernel
theorem q_bankOf (hV : rV α) (hX : rX 3 α σ) {p : Nat} (hp : p < α 0 0) (h : k (iI (α 3 p : Nat)) σ) : jq_I (d + 1) 38 [.ref 3, .int (iI p)] σ k := by
  have h6 := hV.P
  have hr := lt64 (rt_lt α) h6
  refine ok_X7_bankOf ⟨_, rfl, ?_⟩
  rw [hX.rt, iI_bit (by omega) (by omega), rt_bit hp, jbN (hV.p hp).2.2.1 rfl]
  exact h
theorem spS_bit {v k b bk : Nat} (hk : k < 5) (hb : b < 2) : (spS v bk).testBit (k + 5 * b) = spk v k b bk := by
  unfold spS
  rw [bsN_bit, show (k + 5 * b) % 5 = k by omega, show (k + 5 * b) / 5 = b by omega]
  simp; omega
theorem spS_lt (v bk : Nat) : spS v bk < 1024 := bsN_lt _ 10
theorem q_speaksWith (hV : rV α) (hX : rX 3 α σ) {p dy b : Nat} (hp : p < α 0 0) (hb : b < 2) (h : k (jb (spk (vo dy) (α 1 p) (α 2 p) b)) σ) : jq_I (d + 2) 40 [.ref 3, .int (iI (vo dy : Nat)), .int (iI p), .int (iI b)] σ k := by
  have h6 := hV.P
  have hc : (iI (p : Int)).toNatClampNeg = p := iI_clamp (by omega)
  have hin : vp_in (iI (p : Int)) 6 := (iI_in (by omega) 6).mpr (by omega)
  have hv := hV.p hp
  refine ok_X7_speaksWith ⟨hin, hin, ?_⟩
  dsimp only
  refine q_speaking hb ?_
  have hl := spS_lt (vo dy) b
  rw [hc, hX.kd hp, hX.bn hp, iI_mul, iI_add, show ((α 1 p : Nat) : Int) + 5 * ((α 2 p : Nat) : Int) = ((α 1 p + 5 * α 2 p : Nat) : Int) by omega, iI_bit (by omega) (by omega), spS_bit hv.1 hv.2.1, jb_1, jb_t, jb_f]
  refine ⟨fun c => ⟨jb_z _, _, rfl, ?_⟩, fun c => ⟨jb_z _, _, rfl, ?_⟩⟩
  · rwa [show spk (vo dy) (α 1 p) (α 2 p) b = false by simpa using c] at h
  · rwa [c] at h
theorem q_speaks (hV : rV α) (hX : rX 3 α σ) {p dy : Nat} (hp : p < α 0 0) (hd : dy < 2147483648) (h : k (jb (sp α dy p)) σ) : jq_I (d + 3) 39 [.ref 3, .int (iI p), .int (iI dy)] σ k :=
  ok_X7_speaks (q_voicesOn hd (q_bankOf hV hX hp (q_speaksWith hV hX hp (hV.p hp).2.2.1 ⟨jb_z _, _, rfl, h⟩)))
theorem w_speakersIf (hV : rV α) (hX : rX 3 α σ) {post : jPo} {dy r : Nat} (hr : r < 2147483648) (h : post (some (.int (iI (spI α dy r : Nat)))) σ) :
    ∀ (n p : Nat), p + n = α 0 0 → jv_wp (d + 3) post (42, 11, [some (.ref 3), some (.int (iI dy)), some (.int (iI r)), some (.int (iI (vo dy : Nat))), some (.int (iI (bsN (fun p => spk (vo dy) (α 1 p) (α 2 p) (if r.testBit p then 1 else 0)) p : Nat))), some (.int (iI p))], [], σ) := by
  have h6 := hV.P
  intro n
  induction n with
  | zero =>
    intro p hp
    refine ok_X7_speakersIf_L ⟨fun _ => ?_, fun c => absurd ?_ c⟩
    · unfold spI at h
      rwa [show α 0 0 = p by omega] at h
    · rw [hX.P, iI_le ⟨by omega, by omega⟩ ⟨by omega, by omega⟩]; omega
  | succ n ih =>
    intro p hp
    refine ok_X7_speakersIf_L ⟨fun c => absurd c ?_, fun _ => ?_⟩
    · rw [hX.P, iI_le ⟨by omega, by omega⟩ ⟨by omega, by omega⟩]; omega
    · rw [iI_bit hr (by omega), show jb (r.testBit p) = iI (((if r.testBit p then 1 else 0 : Nat)) : Nat) by cases r.testBit p <;> decide +kernel]
      refine q_speaksWith hV hX (by omega) (by split <;> omega) ?_
      have ih := ih (p + 1) (by omega)
      unfold bsN at ih
      dsimp only
      rw [iI_add, show (p : Int) + 1 = ((p + 1 : Nat) : Int) by omega, iI_sbit (by omega), jb_0]
      refine ⟨fun c => ?_, fun c => ?_⟩
      · rwa [c] at ih
      · rwa [show spk (vo dy) (α 1 p) (α 2 p) (if r.testBit p then 1 else 0) = true by simpa using c] at ih
theorem q_speakersIf (hV : rV α) (hX : rX 3 α σ) {dy r : Nat} (hd : dy < 2147483648) (hr : r < 2147483648) (h : k (iI (spI α dy r : Nat)) σ) : jq_I (d + 3) 42 [.ref 3, .int (iI dy), .int (iI r)] σ k :=
  ok_X7_speakersIf (q_voicesOn hd (w_speakersIf hV hX hr ⟨_, rfl, h⟩ (α 0 0) 0 (by omega)))
theorem q_speakersOn (hV : rV α) (hX : rX 3 α σ) {dy : Nat} (hd : dy < 2147483648) (h : k (iI (spB α dy : Nat)) σ) : jq_I (d + 4) 41 [.ref 3, .int (iI dy)] σ k := by
  have hr := lt64 (rt_lt α) hV.P
  refine ok_X7_speakersOn ?_
  unfold vc_X7_speakersOn
  rw [hX.rt]
  exact q_speakersIf hV hX hd (by omega) ⟨_, rfl, by rw [spI_rt hV]; exact h⟩
theorem w_speakingDays (hV : rV α) (hX : rX 3 α σ) {post : jPo} {p : Nat} (hp : p < α 0 0) (h : post (some (.int (iI (cnN (fun n => sp α (α 0 2 + n) p) 31 : Nat)))) σ) :
    ∀ (n i : Nat), i + n = 31 → jv_wp (d + 4) post (43, 4, [some (.ref 3), some (.int (iI p)), some (.int (iI (cnN (fun n => sp α (α 0 2 + n) p) i : Nat))), some (.int (iI i))], [], σ) := by
  have htd := hV.td
  intro n
  induction n with
  | zero =>
    intro i hi
    refine ok_X7_speakingDays_L ⟨fun _ => ?_, fun c => absurd ?_ c⟩
    · rwa [show 31 = i by omega] at h
    · rw [iI_le ⟨by omega, by omega⟩ ⟨by omega, by omega⟩]; omega
  | succ n ih =>
    intro i hi
    refine ok_X7_speakingDays_L ⟨fun c => absurd c ?_, fun _ => ?_⟩
    · rw [iI_le ⟨by omega, by omega⟩ ⟨by omega, by omega⟩]; omega
    · rw [hX.td, iI_add, show ((α 0 2 : Nat) : Int) + (i : Int) = ((α 0 2 + i : Nat) : Int) by omega]
      refine q_speaks hV hX hp (by omega) ?_
      have ih := ih (i + 1) (by omega)
      unfold cnN at ih
      dsimp only
      rw [iI_add, iI_add, show (i : Int) + 1 = ((i + 1 : Nat) : Int) by omega, jb_0]
      refine ⟨fun c => ?_, fun c => ?_⟩
      · rwa [c] at ih
      · rw [show sp α (α 0 2 + i) p = true by simpa using c] at ih
        exact ih
theorem q_speakingDays (hV : rV α) (hX : rX 3 α σ) {p : Nat} (hp : p < α 0 0) (h : k (iI (cnN (fun n => sp α (α 0 2 + n) p) 31 : Nat)) σ) : jq_I (d + 4) 43 [.ref 3, .int (iI p)] σ k :=
  ok_X7_speakingDays (w_speakingDays hV hX hp ⟨_, rfl, h⟩ 31 0 (by omega))
/-- how it stands: 0, 1, 2 -/
def stN (a : Nat) : Nat := if a = 0 then 0 else if a = 1 then 2 else 1
theorem zA_0 (a : Nat) : zA a = -1 ↔ a = 0 := by unfold zA; split <;> (try split) <;> omega
theorem zA_1 (a : Nat) : zA a = -2 ↔ a = 1 := by unfold zA; split <;> (try split) <;> omega
theorem zA_R {a : Nat} (h : a < 100000) : iR (zA a) := by unfold zA iR; split <;> (try split) <;> omega
theorem zA_2 {a : Nat} (h : 2 ≤ a) : zA a = (a : Int) - 2 := by unfold zA; rw [if_neg (by omega), if_neg (by omega)]
theorem q_standing (hV : rV α) (hX : rX 3 α σ) {m : Nat} (hm : m < α 0 1) (h : k (iI (stN (α 8 m) : Nat)) σ) : jq_I (d + 1) 46 [.ref 3, .int (iI m)] σ k := by
  have h5 := hV.M
  have htd := hV.td
  have hv := hV.m hm
  have hc : (iI (m : Int)).toNatClampNeg = m := iI_clamp (by omega)
  have hin : vp_in (iI (m : Int)) 5 := (iI_in (by omega) 5).mpr (by omega)
  have hR := zA_R (a := α 8 m) (by omega)
  refine ok_X7_standing ⟨hin, ?_⟩
  rw [hc, hX.st hm, iI_eq hR ⟨by omega, by omega⟩, iI_eq hR ⟨by omega, by omega⟩, zA_0, zA_1]
  unfold stN at h
  refine ⟨fun c => ⟨hin, fun c2 => ?_, fun c2 => ?_⟩, fun c => ?_⟩
  · rw [if_neg c2, if_neg c] at h; exact ⟨_, rfl, h⟩
  · rw [if_pos c2] at h; exact ⟨_, rfl, h⟩
  · rw [if_neg (by omega), if_pos c] at h; exact ⟨_, rfl, h⟩
theorem w_howManyStand (hV : rV α) (hX : rX 3 α σ) {post : jPo} {so : Nat} (hso : so < 3) (h : post (some (.int (iI (cnN (fun m => stN (α 8 m) == so) (α 0 1) : Nat)))) σ) :
    ∀ (n i : Nat), i + n = α 0 1 → jv_wp (d + 2) post (47, 4, [some (.ref 3), some (.int (iI so)), some (.int (iI (cnN (fun m => stN (α 8 m) == so) i : Nat))), some (.int (iI i))], [], σ) := by
  have h5 := hV.M
  intro n
  induction n with
  | zero =>
    intro i hi
    refine ok_X7_howManyStand_L ⟨fun _ => ?_, fun c => absurd ?_ c⟩
    · rwa [show α 0 1 = i by omega] at h
    · rw [hX.M, iI_le ⟨by omega, by omega⟩ ⟨by omega, by omega⟩]; omega
  | succ n ih =>
    intro i hi
    refine ok_X7_howManyStand_L ⟨fun c => absurd c ?_, fun _ => ?_⟩
    · rw [hX.M, iI_le ⟨by omega, by omega⟩ ⟨by omega, by omega⟩]; omega
    · refine q_standing hV hX (by omega) ?_
      have ih := ih (i + 1) (by omega)
      unfold cnN at ih
      dsimp only
      have hs : stN (α 8 i) < 3 := by unfold stN; split <;> (try split) <;> omega
      rw [iI_add, iI_add, show (i : Int) + 1 = ((i + 1 : Nat) : Int) by omega, iI_eq ⟨by omega, by omega⟩ ⟨by omega, by omega⟩]
      refine ⟨fun c => ?_, fun c => ?_⟩
      · rw [if_neg (by simp; omega)] at ih; exact ih
      · rw [if_pos (by simp; omega)] at ih; exact ih
theorem q_howManyStand (hV : rV α) (hX : rX 3 α σ) {so : Nat} (hso : so < 3) (h : k (iI (cnN (fun m => stN (α 8 m) == so) (α 0 1) : Nat)) σ) : jq_I (d + 2) 47 [.ref 3, .int (iI so)] σ k :=
  ok_X7_howManyStand (w_howManyStand hV hX hso ⟨_, rfl, h⟩ (α 0 1) 0 (by omega))
/-- since how many days; -1 -/
def asN (α : rA) (m : Nat) : Int := if stN (α 8 m) = 1 then (α 0 2 : Int) + 2 - α 8 m else -1
theorem stN_1 {a : Nat} : stN a = 1 ↔ 2 ≤ a := by unfold stN; split <;> (try split) <;> omega
theorem stN_lt (a : Nat) : stN a < 3 := by unfold stN; split <;> (try split) <;> omega
theorem q_askedSince (hV : rV α) (hX : rX 3 α σ) {m : Nat} (hm : m < α 0 1) (h : k (iI (asN α m)) σ) : jq_I (d + 2) 48 [.ref 3, .int (iI m)] σ k := by
  have h5 := hV.M
  have hc : (iI (m : Int)).toNatClampNeg = m := iI_clamp (by omega)
  have hin : vp_in (iI (m : Int)) 5 := (iI_in (by omega) 5).mpr (by omega)
  have hs := stN_lt (α 8 m)
  refine ok_X7_askedSince (q_standing hV hX hm ?_)
  rw [iI_eq ⟨by omega, by omega⟩ ⟨by omega, by omega⟩, hc, hX.td, hX.st hm, iI_sub]
  unfold asN at h
  refine ⟨fun c => ?_, fun c => ⟨hin, ?_⟩⟩
  · rw [if_neg (by omega)] at h; exact ⟨_, rfl, h⟩
  · rw [if_pos (by omega)] at h
    rw [zA_2 (stN_1.mp (by omega)), show ((α 0 2 : Nat) : Int) - ((α 8 m : Nat) - 2) = (α 0 2 : Int) + 2 - α 8 m by omega]
    exact ⟨_, rfl, h⟩
theorem q_canBeSaid (hV : rV α) (hX : rX 3 α σ) {m a dy : Nat} (hm : m < α 0 1) (ha : a < 100000) (hd : dy < 100000) (h : k (jb (cbs α m a dy)) σ) : jq_I (d + 1) 50 [.ref 3, .int (iI m), .int (iI (zA a)), .int (iI dy), .int (iI (spB α dy : Nat))] σ k := by
  have h5 := hV.M
  have h6 := hV.P
  have hv := hV.m hm
  have hc : (iI (m : Int)).toNatClampNeg = m := iI_clamp (by omega)
  have hin : vp_in (iI (m : Int)) 5 := (iI_in (by omega) 5).mpr (by omega)
  have hR := zA_R (a := a) ha
  have hB := lt64 (show spB α dy < 2 ^ α 0 0 from bsN_lt _ _) h6
  have hb : ∀ p, p < α 0 0 → (spB α dy).testBit p = sp α dy p := fun p hp => by unfold spB; rw [bsN_bit]; simp [hp]
  refine ok_X7_canBeSaid ?_
  unfold vc_X7_canBeSaid
  rw [hc, hX.ak hm, hX.aw hm, iI_eq hR ⟨by omega, by omega⟩, iI_eq hR ⟨by omega, by omega⟩, zA_0, zA_1, iI_le ⟨by omega, by omega⟩ hR, iI_bit (by omega) (by omega), iI_bit (by omega) (by omega), hb _ hv.1, hb _ hv.2.1, jb_1, jb_1, jb_t, jb_f]
  unfold cbs at h
  refine ⟨fun c => ⟨fun c2 => ⟨fun c3 => ⟨jb_z _, _, rfl, ?_⟩, fun c3 => ⟨hin, fun c4 => ⟨jb_z _, _, rfl, ?_⟩, fun c4 => ⟨jb_z _, _, rfl, ?_⟩⟩⟩, fun c2 => ⟨hin, fun c4 => ⟨jb_z _, _, rfl, ?_⟩, fun c4 => ⟨jb_z _, _, rfl, ?_⟩⟩⟩, fun c => ⟨jb_z _, _, rfl, ?_⟩⟩
  · rw [zA_2 (by omega)] at c3
    rwa [if_neg c, if_neg c2, decide_eq_false (by omega), Bool.false_and] at h
  · rw [if_neg c, if_neg c2, show sp α dy (α 6 m) = false by simpa using c4, Bool.and_false] at h; exact h
  · rw [zA_2 (by omega)] at c3
    rwa [if_neg c, if_neg c2, c4, decide_eq_true (by omega)] at h
  · rwa [if_neg c, if_pos c2, show sp α dy (α 5 m) = false by simpa using c4] at h
  · rwa [if_neg c, if_pos c2, c4] at h
  · rwa [if_pos c] at h
theorem mxI {z : Int} (hz : iR z) : (if iI z < iI 0 then iI 0 else iI z) = iI ((z.toNat : Nat) : Int) := by
  by_cases c : z < 0
  · rw [if_pos (by rw [iI_lt hz ⟨by omega, by omega⟩]; exact c)]; exact congrArg iI (by omega)
  · rw [if_neg (by rw [iI_lt hz ⟨by omega, by omega⟩]; exact c)]; exact congrArg iI (by omega)
theorem q_settledFor (hV : rV α) (hX : rX 3 α σ) {m a dy : Nat} (hm : m < α 0 1) (ha : 2 ≤ a) (had : a ≤ dy + 2) (hd : dy < 100000) (h : k (iI (sfo α m a dy : Nat)) σ) : jq_I (d + 2) 51 [.ref 3, .int (iI m), .int (iI (zA a)), .int (iI dy)] σ k := by
  have h5 := hV.M
  have h6 := hV.P
  have hv := hV.m hm
  have hva := hV.p hv.1
  have hvb := hV.p hv.2.1
  have hc : (iI (m : Int)).toNatClampNeg = m := iI_clamp (by omega)
  have hca : (iI ((α 5 m : Nat) : Int)).toNatClampNeg = α 5 m := iI_clamp (by omega)
  have hcb : (iI ((α 6 m : Nat) : Int)).toNatClampNeg = α 6 m := iI_clamp (by omega)
  have hin : vp_in (iI (m : Int)) 5 := (iI_in (by omega) 5).mpr (by omega)
  have hina : vp_in (iI ((α 5 m : Nat) : Int)) 6 := (iI_in (by omega) 6).mpr (by omega)
  have hinb : vp_in (iI ((α 6 m : Nat) : Int)) 6 := (iI_in (by omega) 6).mpr (by omega)
  refine ok_X7_settledFor ⟨hin, ?_⟩
  rw [hc, hX.ak hm, hX.aw hm]
  refine ⟨hin, q_knowsPerson hV hX ⟨by omega, by omega⟩ ⟨fun c => ?_, fun _ => q_knowsPerson hV hX ⟨by omega, by omega⟩ ⟨fun _ => ⟨hina, Nat.zero_le _, ?_⟩, fun c => ?_⟩⟩⟩
  · exfalso; rw [jb_0] at c; simp at c; omega
  · rw [hca, hX.me hv.1, iI_sub, iI_sub, mxI ⟨by rw [zA_2 ha]; omega, by rw [zA_2 ha]; omega⟩, hX.wo hm, hcb, hX.kd hv.2.1]
    refine ⟨hin, Nat.zero_le _, ?_⟩
    rw [zA_2 ha]
    have e : (iI ((α 7 m : Nat) : Int) - iI ((((dy : Int) - ((a : Int) - 2) - ((α 4 (α 5 m) : Nat) : Int)).toNat : Nat) : Int)) = iI ((α 7 m : Int) - ((dy + 2 - a - α 4 (α 5 m) : Nat) : Int)) := by
      rw [iI_sub]; exact congrArg iI (by omega)
    rw [e, mxI ⟨by omega, by omega⟩, show ((α 7 m : Int) - ((dy + 2 - a - α 4 (α 5 m) : Nat) : Int)).toNat = α 7 m - (dy + 2 - a - α 4 (α 5 m)) by omega, iI_eq ⟨by omega, by omega⟩ ⟨by omega, by omega⟩, iI_eq ⟨by omega, by omega⟩ ⟨by omega, by omega⟩]
    unfold sfo at h
    dsimp only at h
    refine ⟨hinb, fun c => ⟨hinb, fun c2 => ?_, fun c2 => ⟨n0I (by omega) (by omega), ?_⟩⟩, fun c => ⟨Nat.zero_le _, ?_⟩⟩
    · rw [if_neg (by omega), if_neg (by omega)] at h; exact ⟨_, rfl, h⟩
    · rw [if_neg (by omega), if_pos (by omega)] at h
      rw [show (iI 2 : Int32) = iI ((2 : Nat) : Int) from rfl, iI_div (by omega) (by omega) (by omega)]
      exact ⟨_, rfl, h⟩
    · rw [if_pos (by omega)] at h
      rw [iI_sub, mxI ⟨by omega, by omega⟩]
      refine ⟨_, rfl, ?_⟩
      rwa [show ((((α 7 m - (dy + 2 - a - α 4 (α 5 m)) : Nat) : Int) - 1).toNat) = α 7 m - (dy + 2 - a - α 4 (α 5 m)) - 1 by omega]
  · exfalso; rw [jb_0] at c; simp at c; omega
/-- for how much it would be settled today; -1 -/
def wtN (α : rA) (m : Nat) : Int := if stN (α 8 m) = 1 ∧ cbs α m (α 8 m) (α 0 2) = true then (sfo α m (α 8 m) (α 0 2) : Int) else -1
theorem q_worthToday (hV : rV α) (hX : rX 3 α σ) {m : Nat} (hm : m < α 0 1) (h : k (iI (wtN α m)) σ) : jq_I (d + 5) 49 [.ref 3, .int (iI m)] σ k := by
  have h5 := hV.M
  have htd := hV.td
  have hv := hV.m hm
  have hc : (iI (m : Int)).toNatClampNeg = m := iI_clamp (by omega)
  have hin : vp_in (iI (m : Int)) 5 := (iI_in (by omega) 5).mpr (by omega)
  have hs := stN_lt (α 8 m)
  refine ok_X7_worthToday (q_standing hV hX hm ?_)
  rw [iI_eq ⟨by omega, by omega⟩ ⟨by omega, by omega⟩, hc, hX.td, hX.st hm]
  unfold wtN at h
  refine ⟨fun c => ⟨fun _ => ?_, fun c2 => absurd iI_0.symm c2⟩, fun c => ⟨hin, q_speakersOn hV hX (by omega) (q_canBeSaid hV hX hm (by omega) (by omega) ⟨fun c2 => ⟨fun _ => ?_, fun c2 => absurd iI_0.symm c2⟩, fun c2 => ⟨fun c3 => absurd c3 (n0I (by omega) (by omega)), fun _ => ⟨hin, ?_⟩⟩⟩)⟩⟩
  · rw [if_neg (by omega)] at h; exact ⟨_, rfl, h⟩
  · rw [jb_0] at c2
    rw [if_neg (by simp [c2])] at h; exact ⟨_, rfl, h⟩
  · rw [jb_0] at c2
    have c2 : cbs α m (α 8 m) (α 0 2) = true := by simpa using c2
    rw [if_pos ⟨by omega, c2⟩] at h
    rw [hX.td, hX.st hm]
    exact q_settledFor hV hX hm (stN_1.mp (by omega)) (by omega) (by omega) ⟨_, rfl, h⟩
end WX
end
section
/-! formulas of the class's methods (printed) -/
theorem jq_L_con {d a : Nat} {as : List Value} {σ : jSt} {k k' : Int64 → jSt → Prop} (h : jq_L d a as σ k) (hk : ∀ x σ, k x σ → k' x σ) : jq_L d a as σ k' := jv_wp_con h (fun r σ q => q.elim fun x q => ⟨x, q.1, hk _ _ q.2⟩)
def vc_X1_run (d : Nat) (post : jPo) (σ : jSt) (v2 : Int32) (v3 : Int32) : Prop :=
 (let s1 : jSt := jv_a σ 33 (va_cpy (σ.1 10) (σ.1 33) (iI 0).toNatClampNeg (iI 0).toNatClampNeg (iI 5).toNatClampNeg)
 (let s2 : jSt := jv_u s1 32 1 (iI 0)
 (let s3 : jSt := jv_u s2 32 2 (iI 0)
 (let s4 : jSt := jv_u s3 32 3 v3
 jv_wp (d + 1) post (6, 32, [some (.ref 32), some (.ref 3), some (.int v2), some (.int v3), some (.int (iI 0))], [], s4)))))
set_option maxRecDepth 100000 in
set_option maxHeartbeats 4000000 in
theorem ok_X1_run {d : Nat} {post : jPo} {σ : jSt} {v2 : Int32} {v3 : Int32} (h : vc_X1_run d post σ v2 v3) : jv_wp (d + 1) post (6, 0, [some (.ref 32), some (.ref 3), some (.int v2), some (.int v3), none], [], σ) := jv_go_ok 20 [32] _ _ _ (show ((¬ (iI 0) < 0 ∧ ¬ (iI 0) < 0 ∧ ¬ (iI 5) < 0 ∧ (iI 0).toNatClampNeg + (iI 5).toNatClampNeg ≤ 5 ∧ (iI 0).toNatClampNeg + (iI 5).toNatClampNeg ≤ 5 ∧ (([] : List Value).map fun v => v.category).sum ≤ 8) ∧ (let s1 : jSt := jv_a σ 33 (va_cpy (σ.1 10) (σ.1 33) (iI 0).toNatClampNeg (iI 0).toNatClampNeg (iI 5).toNatClampNeg)
 (let s2 : jSt := jv_u s1 32 1 (iI 0)
 (let s3 : jSt := jv_u s2 32 2 (iI 0)
 (let s4 : jSt := jv_u s3 32 3 v3
 jv_wp (d + 1) post (6, 32, [some (.ref 32), some (.ref 3), some (.int v2), some (.int v3), some (.int (iI 0))], [], s4)))))) from ⟨⟨by decide +kernel, by decide +kernel, by decide +kernel, by decide +kernel, by decide +kernel, Nat.le_of_ble_eq_true rfl⟩, h⟩)
def vc_X1_run_L32 (d : Nat) (post : jPo) (σ : jSt) (v2 : Int32) (v3 : Int32) (v4 : Int32) : Prop :=
 ((v2 ≤ v4 → post none σ) ∧
 (¬ v2 ≤ v4 → jq_V d 7 [.ref 32, .ref 3, .int ((σ.1 3 11) + v4)] σ (fun s1 =>
 (let x2 : Int32 := (v4 + (iI 1))
 jv_wp (d + 1) post (6, 32, [some (.ref 32), some (.ref 3), some (.int v2), some (.int v3), some (.int x2)], [], s1)))))
set_option maxRecDepth 100000 in
set_option maxHeartbeats 4000000 in
theorem ok_X1_run_L32 {d : Nat} {post : jPo} {σ : jSt} {v2 : Int32} {v3 : Int32} {v4 : Int32} (h : vc_X1_run_L32 d post σ v2 v3 v4) : jv_wp (d + 1) post (6, 32, [some (.ref 32), some (.ref 3), some (.int v2), some (.int v3), some (.int v4)], [], σ) := jv_go_ok 13 [32] _ _ _ h
def vc_X1_passDay (d : Nat) (post : jPo) (σ : jSt) (v2 : Int32) : Prop :=
 jq_I d 8 [.ref 32, .int (σ.1 3 9)] σ (fun x2 s1 =>
 (vp_in x2 5 ∧ (let x3 : Int32 := (s1.1 33 x2.toNatClampNeg)
 jq_I d 41 [.ref 3, .int v2] s1 (fun x5 s4 =>
 jq_I d 50 [.ref 3, .int x2, .int x3, .int v2, .int x5] s4 (fun x7 s6 =>
 ((¬ x7 = 0 → ((¬ x3 = (iI (-1)) → jq_I d 51 [.ref 3, .int x2, .int x3, .int v2] s6 (fun x9 s8 =>
 (let s10 : jSt := jv_u s8 32 1 ((s6.1 32 1) + x9)
 (let s11 : jSt := jv_u s10 32 2 ((s10.1 32 2) + (iI 1))
 (vp_in x2 5 ∧ (let s12 : jSt := jv_u s11 33 x2.toNatClampNeg (iI (-1))
 post none s12)))))) ∧
 (x3 = (iI (-1)) → (vp_in x2 5 ∧ (let s13 : jSt := jv_u s6 33 x2.toNatClampNeg v2
 post none s13))))) ∧
 (x7 = 0 → post none s6)))))))
set_option maxRecDepth 100000 in
set_option maxHeartbeats 4000000 in
theorem ok_X1_passDay {d : Nat} {post : jPo} {σ : jSt} {v2 : Int32} (h : vc_X1_passDay d post σ v2) : jv_wp (d + 1) post (7, 0, [some (.ref 32), some (.ref 3), some (.int v2), none, none], [], σ) := jv_go_ok 44 [] _ _ _ h
def vc_X1_draw (d : Nat) (post : jPo) (σ : jSt) (v1 : Int32) : Prop :=
 (let s1 : jSt := jv_u σ 32 3 (((((Int64.ofNat 1103515245) * ((σ.1 32 3)).toInt64) + (Int64.ofNat 12345)) &&& (Int64.ofNat 2147483647))).toInt32
 ((v1 ≤ 0 → post (some (.int (iI 0))) s1) ∧
 (¬ v1 ≤ 0 → (¬ (Int32.ofNat 65536) = 0 ∧ (¬ v1 = 0 ∧ post (some (.int (((s1.1 32 3) / (Int32.ofNat 65536)) - ((s1.1 32 3) / (Int32.ofNat 65536)) / v1 * v1))) s1)))))
set_option maxRecDepth 100000 in
set_option maxHeartbeats 4000000 in
theorem ok_X1_draw {d : Nat} {post : jPo} {σ : jSt} {v1 : Int32} (h : vc_X1_draw d post σ v1) : jv_wp (d + 1) post (8, 0, [some (.ref 32), some (.int v1)], [], σ) := jv_go_ok 22 [] _ _ _ h
def vc_X2_soonest (d : Nat) (post : jPo) (σ : jSt) (v1 : Int32) : Prop :=
 (vp_in v1 5 ∧ (let x1 : Int32 := (σ.1 10 v1.toNatClampNeg)
 jv_wp (d + 1) post (9, 9, [some (.ref 3), some (.int v1), some (.int x1), some (.int (iI 0)), none], [], σ)))
set_option maxRecDepth 100000 in
set_option maxHeartbeats 4000000 in
theorem ok_X2_soonest {d : Nat} {post : jPo} {σ : jSt} {v1 : Int32} (h : vc_X2_soonest d post σ v1) : jv_wp (d + 1) post (9, 0, [some (.ref 3), some (.int v1), none, none, none], [], σ) := jv_go_ok 8 [9] _ _ _ h
def vc_X2_soonest_L9 (d : Nat) (post : jPo) (σ : jSt) (v1 : Int32) (v2 : Int32) (v3 : Int32) (z4 : Option Value) : Prop :=
 (((iI 70) < v3 → post (some (.int (iI (-1)))) σ) ∧
 (¬ (iI 70) < v3 → ((v2 = (iI (-2)) → post (some (.int (iI (-1)))) σ) ∧
 (¬ v2 = (iI (-2)) → (let x1 : Int32 := ((σ.1 3 11) + v3)
 jq_I d 41 [.ref 3, .int x1] σ (fun x3 s2 =>
 jq_I d 50 [.ref 3, .int v1, .int v2, .int x1, .int x3] s2 (fun x5 s4 =>
 ((x5 = 0 → (let x6 : Int32 := (v3 + (iI 1))
 jv_wp (d + 1) post (9, 9, [some (.ref 3), some (.int v1), some (.int v2), some (.int x6), some (.int x1)], [], s4))) ∧
 (¬ x5 = 0 → ((v2 = (iI (-1)) → (let x7 : Int32 := (v3 + (iI 1))
 jv_wp (d + 1) post (9, 9, [some (.ref 3), some (.int v1), some (.int x1), some (.int x7), some (.int x1)], [], s4))) ∧
 (¬ v2 = (iI (-1)) → post (some (.int v3)) s4)))))))))))
set_option maxRecDepth 100000 in
set_option maxHeartbeats 4000000 in
theorem ok_X2_soonest_L9 {d : Nat} {post : jPo} {σ : jSt} {v1 : Int32} {v2 : Int32} {v3 : Int32} {z4 : Option Value} (h : vc_X2_soonest_L9 d post σ v1 v2 v3 z4) : jv_wp (d + 1) post (9, 9, [some (.ref 3), some (.int v1), some (.int v2), some (.int v3), z4], [], σ) := jv_go_ok 28 [9] _ _ _ h
def vc_X2_bestHomes (d : Nat) (post : jPo) (σ : jSt)  : Prop :=
 (let x1 : Int32 := (((iI 1) <<< ((σ.1 3 8) &&& 31)) - (iI 1))
 jq_I d 42 [.ref 3, .int (σ.1 3 11), .int (iI 0)] σ (fun x3 s2 =>
 jq_I d 42 [.ref 3, .int (s2.1 3 11), .int x1] s2 (fun x5 s4 =>
 jq_I d 42 [.ref 3, .int ((s4.1 3 11) + (iI 1)), .int (iI 0)] s4 (fun x7 s6 =>
 jq_I d 42 [.ref 3, .int ((s6.1 3 11) + (iI 1)), .int x1] s6 (fun x9 s8 =>
 (let x10 : Int32 := (s8.1 3 10)
 jv_wp (d + 1) post (10, 70, [some (.ref 3), some (.int x1), some (.int x3), some (.int x5), some (.int x7), some (.int x9), some (.int x10), some (.int (iI (-1))), some (.int (iI 0)), some (.int (iI 0)), none, none, none, none], [], s8)))))))
set_option maxRecDepth 100000 in
set_option maxHeartbeats 4000000 in
theorem ok_X2_bestHomes {d : Nat} {post : jPo} {σ : jSt} (h : vc_X2_bestHomes d post σ ) : jv_wp (d + 1) post (10, 0, [some (.ref 3), none, none, none, none, none, none, none, none, none, none, none, none, none], [], σ) := jv_go_ok 45 [70] _ _ _ h
def vc_X2_bestHomes_L70 (d : Nat) (post : jPo) (σ : jSt) (v1 : Int32) (v2 : Int32) (v3 : Int32) (v4 : Int32) (v5 : Int32) (v6 : Int32) (v7 : Int32) (v8 : Int32) (v9 : Int32) (z10 : Option Value) (z11 : Option Value) (z12 : Option Value) (z13 : Option Value) : Prop :=
 ((v1 < v9 → post (some (.int v6)) σ) ∧
 (¬ v1 < v9 → (let x1 : Int32 := ((v2 &&& (v9 ^^^ (iI (-1)))) ||| (v3 &&& v9))
 (let x2 : Int32 := ((v4 &&& (v9 ^^^ (iI (-1)))) ||| (v5 &&& v9))
 jq_I d 12 [.ref 3, .int x1, .int x2] σ (fun x4 s3 =>
 jq_I d 143 [.int (v9 ^^^ (s3.1 3 10))] s3 (fun x6 s5 =>
 ((v7 < x4 → (let x7 : Int32 := (v9 + (iI 1))
 jv_wp (d + 1) post (10, 70, [some (.ref 3), some (.int v1), some (.int v2), some (.int v3), some (.int v4), some (.int v5), some (.int v9), some (.int x4), some (.int x6), some (.int x7), some (.int x1), some (.int x2), some (.int x4), some (.int x6)], [], s5))) ∧
 (¬ v7 < x4 → ((¬ x4 = v7 → (let x8 : Int32 := (v9 + (iI 1))
 jv_wp (d + 1) post (10, 70, [some (.ref 3), some (.int v1), some (.int v2), some (.int v3), some (.int v4), some (.int v5), some (.int v6), some (.int v7), some (.int v8), some (.int x8), some (.int x1), some (.int x2), some (.int x4), some (.int x6)], [], s5))) ∧
 (x4 = v7 → ((v8 ≤ x6 → (let x9 : Int32 := (v9 + (iI 1))
 jv_wp (d + 1) post (10, 70, [some (.ref 3), some (.int v1), some (.int v2), some (.int v3), some (.int v4), some (.int v5), some (.int v6), some (.int v7), some (.int v8), some (.int x9), some (.int x1), some (.int x2), some (.int x4), some (.int x6)], [], s5))) ∧
 (¬ v8 ≤ x6 → (let x10 : Int32 := (v9 + (iI 1))
 jv_wp (d + 1) post (10, 70, [some (.ref 3), some (.int v1), some (.int v2), some (.int v3), some (.int v4), some (.int v5), some (.int v9), some (.int x4), some (.int x6), some (.int x10), some (.int x1), some (.int x2), some (.int x4), some (.int x6)], [], s5))))))))))))))
set_option maxRecDepth 100000 in
set_option maxHeartbeats 4000000 in
theorem ok_X2_bestHomes_L70 {d : Nat} {post : jPo} {σ : jSt} {v1 : Int32} {v2 : Int32} {v3 : Int32} {v4 : Int32} {v5 : Int32} {v6 : Int32} {v7 : Int32} {v8 : Int32} {v9 : Int32} {z10 : Option Value} {z11 : Option Value} {z12 : Option Value} {z13 : Option Value} (h : vc_X2_bestHomes_L70 d post σ v1 v2 v3 v4 v5 v6 v7 v8 v9 z10 z11 z12 z13) : jv_wp (d + 1) post (10, 70, [some (.ref 3), some (.int v1), some (.int v2), some (.int v3), some (.int v4), some (.int v5), some (.int v6), some (.int v7), some (.int v8), some (.int v9), z10, z11, z12, z13], [], σ) := jv_go_ok 52 [70] _ _ _ h
def vc_X2_settledByTomorrow (d : Nat) (post : jPo) (σ : jSt) (v1 : Int32) : Prop :=
 jq_I d 42 [.ref 3, .int (σ.1 3 11), .int v1] σ (fun x2 s1 =>
 jq_I d 42 [.ref 3, .int ((s1.1 3 11) + (iI 1)), .int v1] s1 (fun x4 s3 =>
 jq_I d 12 [.ref 3, .int x2, .int x4] s3 (fun x6 s5 =>
 post (some (.int x6)) s5)))
set_option maxRecDepth 100000 in
set_option maxHeartbeats 4000000 in
theorem ok_X2_settledByTomorrow {d : Nat} {post : jPo} {σ : jSt} {v1 : Int32} (h : vc_X2_settledByTomorrow d post σ v1) : jv_wp (d + 1) post (11, 0, [some (.ref 3), some (.int v1)], [], σ) := jv_go_ok 15 [] _ _ _ h
def vc_X2_settledBy (d : Nat) (post : jPo) (σ : jSt) (v1 : Int32) (v2 : Int32) : Prop :=
 jv_wp (d + 1) post (12, 5, [some (.ref 3), some (.int v1), some (.int v2), some (.int (iI 0)), some (.int (iI 0)), none], [], σ)
set_option maxRecDepth 100000 in
set_option maxHeartbeats 4000000 in
theorem ok_X2_settledBy {d : Nat} {post : jPo} {σ : jSt} {v1 : Int32} {v2 : Int32} (h : vc_X2_settledBy d post σ v1 v2) : jv_wp (d + 1) post (12, 0, [some (.ref 3), some (.int v1), some (.int v2), none, none, none], [], σ) := jv_go_ok 5 [5] _ _ _ h
def vc_X2_settledBy_L5 (d : Nat) (post : jPo) (σ : jSt) (v1 : Int32) (v2 : Int32) (v3 : Int32) (v4 : Int32) (z5 : Option Value) : Prop :=
 (((σ.1 3 9) ≤ v4 → post (some (.int v3)) σ) ∧
 (¬ (σ.1 3 9) ≤ v4 → (vp_in v4 5 ∧ ((¬ (σ.1 10 v4.toNatClampNeg) = (iI (-1)) → (let x1 : Int32 := (v4 + (iI 1))
 jv_wp (d + 1) post (12, 5, [some (.ref 3), some (.int v1), some (.int v2), some (.int v3), some (.int x1), some (.int (iI 0))], [], σ))) ∧
 ((σ.1 10 v4.toNatClampNeg) = (iI (-1)) → (vp_in v4 5 ∧ ((¬ ((v1 >>> ((σ.1 7 v4.toNatClampNeg) &&& 31)) &&& (iI 1)) = (iI 1) → (let x5 : Int32 := (v4 + (iI 1))
 jv_wp (d + 1) post (12, 5, [some (.ref 3), some (.int v1), some (.int v2), some (.int v3), some (.int x5), some (.int (iI 0))], [], σ))) ∧
 (((v1 >>> ((σ.1 7 v4.toNatClampNeg) &&& 31)) &&& (iI 1)) = (iI 1) → (vp_in v4 5 ∧ ((¬ ((v2 >>> ((σ.1 8 v4.toNatClampNeg) &&& 31)) &&& (iI 1)) = (iI 1) → (let x10 : Int32 := (v4 + (iI 1))
 jv_wp (d + 1) post (12, 5, [some (.ref 3), some (.int v1), some (.int v2), some (.int v3), some (.int x10), some (.int (iI 1))], [], σ))) ∧
 (((v2 >>> ((σ.1 8 v4.toNatClampNeg) &&& 31)) &&& (iI 1)) = (iI 1) → (let x11 : Int32 := (v3 + (iI 1))
 (let x12 : Int32 := (v4 + (iI 1))
 jv_wp (d + 1) post (12, 5, [some (.ref 3), some (.int v1), some (.int v2), some (.int x11), some (.int x12), some (.int (iI 1))], [], σ))))))))))))))
set_option maxRecDepth 100000 in
set_option maxHeartbeats 4000000 in
theorem ok_X2_settledBy_L5 {d : Nat} {post : jPo} {σ : jSt} {v1 : Int32} {v2 : Int32} {v3 : Int32} {v4 : Int32} {z5 : Option Value} (h : vc_X2_settledBy_L5 d post σ v1 v2 v3 v4 z5) : jv_wp (d + 1) post (12, 5, [some (.ref 3), some (.int v1), some (.int v2), some (.int v3), some (.int v4), z5], [], σ) := jv_go_ok 39 [5] _ _ _ (show (((σ.1 3 9) ≤ v4 → post (some (.int v3)) σ) ∧
 (¬ (σ.1 3 9) ≤ v4 → (vp_in v4 5 ∧ ((¬ (σ.1 10 v4.toNatClampNeg) = (iI (-1)) → (((iI 0) = 0 → (let x1 : Int32 := (v4 + (iI 1))
 jv_wp (d + 1) post (12, 5, [some (.ref 3), some (.int v1), some (.int v2), some (.int v3), some (.int x1), some (.int (iI 0))], [], σ))) ∧
 (¬ (iI 0) = 0 → (vp_in v4 5 ∧ ((¬ ((v2 >>> ((σ.1 8 v4.toNatClampNeg) &&& 31)) &&& (iI 1)) = (iI 1) → (let x2 : Int32 := (v4 + (iI 1))
 jv_wp (d + 1) post (12, 5, [some (.ref 3), some (.int v1), some (.int v2), some (.int v3), some (.int x2), some (.int (iI 0))], [], σ))) ∧
 (((v2 >>> ((σ.1 8 v4.toNatClampNeg) &&& 31)) &&& (iI 1)) = (iI 1) → (let x3 : Int32 := (v3 + (iI 1))
 (let x4 : Int32 := (v4 + (iI 1))
 jv_wp (d + 1) post (12, 5, [some (.ref 3), some (.int v1), some (.int v2), some (.int x3), some (.int x4), some (.int (iI 0))], [], σ))))))))) ∧
 ((σ.1 10 v4.toNatClampNeg) = (iI (-1)) → (vp_in v4 5 ∧ ((¬ ((v1 >>> ((σ.1 7 v4.toNatClampNeg) &&& 31)) &&& (iI 1)) = (iI 1) → (((iI 0) = 0 → (let x5 : Int32 := (v4 + (iI 1))
 jv_wp (d + 1) post (12, 5, [some (.ref 3), some (.int v1), some (.int v2), some (.int v3), some (.int x5), some (.int (iI 0))], [], σ))) ∧
 (¬ (iI 0) = 0 → (vp_in v4 5 ∧ ((¬ ((v2 >>> ((σ.1 8 v4.toNatClampNeg) &&& 31)) &&& (iI 1)) = (iI 1) → (let x6 : Int32 := (v4 + (iI 1))
 jv_wp (d + 1) post (12, 5, [some (.ref 3), some (.int v1), some (.int v2), some (.int v3), some (.int x6), some (.int (iI 0))], [], σ))) ∧
 (((v2 >>> ((σ.1 8 v4.toNatClampNeg) &&& 31)) &&& (iI 1)) = (iI 1) → (let x7 : Int32 := (v3 + (iI 1))
 (let x8 : Int32 := (v4 + (iI 1))
 jv_wp (d + 1) post (12, 5, [some (.ref 3), some (.int v1), some (.int v2), some (.int x7), some (.int x8), some (.int (iI 0))], [], σ))))))))) ∧
 (((v1 >>> ((σ.1 7 v4.toNatClampNeg) &&& 31)) &&& (iI 1)) = (iI 1) → (((iI 1) = 0 → (let x9 : Int32 := (v4 + (iI 1))
 jv_wp (d + 1) post (12, 5, [some (.ref 3), some (.int v1), some (.int v2), some (.int v3), some (.int x9), some (.int (iI 1))], [], σ))) ∧
 (¬ (iI 1) = 0 → (vp_in v4 5 ∧ ((¬ ((v2 >>> ((σ.1 8 v4.toNatClampNeg) &&& 31)) &&& (iI 1)) = (iI 1) → (let x10 : Int32 := (v4 + (iI 1))
 jv_wp (d + 1) post (12, 5, [some (.ref 3), some (.int v1), some (.int v2), some (.int v3), some (.int x10), some (.int (iI 1))], [], σ))) ∧
 (((v2 >>> ((σ.1 8 v4.toNatClampNeg) &&& 31)) &&& (iI 1)) = (iI 1) → (let x11 : Int32 := (v3 + (iI 1))
 (let x12 : Int32 := (v4 + (iI 1))
 jv_wp (d + 1) post (12, 5, [some (.ref 3), some (.int v1), some (.int v2), some (.int x11), some (.int x12), some (.int (iI 1))], [], σ)))))))))))))))) from ⟨fun c3 => ((h).1 c3), fun c3 => ⟨(((h).2 c3)).1, ⟨fun c6 => ⟨fun _ => (((((h).2 c3)).2).1 c6), fun q => absurd q (by decide +kernel)⟩, fun c6 => ⟨((((((h).2 c3)).2).2 c6)).1, ⟨fun c10 => ⟨fun _ => ((((((((h).2 c3)).2).2 c6)).2).1 c10), fun q => absurd q (by decide +kernel)⟩, fun c10 => ⟨fun q => absurd q (by decide +kernel), fun _ => ((((((((h).2 c3)).2).2 c6)).2).2 c10)⟩⟩⟩⟩⟩⟩)
def vc_X2_partsSettled (d : Nat) (post : jPo) (σ : jSt) (v1 : Int32) (v2 : Int32) (v3 : Int32) : Prop :=
 (vp_in v1 5 ∧ (let x1 : Int32 := (σ.1 10 v1.toNatClampNeg)
 (let x2 : Int32 := ((iI 10) - v3)
 ((¬ x1 = (iI (-1)) → (let x3 : Int32 := ((iI 1) - (iI 0))
 jv_wp (d + 1) post (13, 39, [some (.ref 3), some (.int v1), some (.int v2), some (.int v3), some (.int x1), some (.int x2), some (.int (iI 0)), some (.int x3), some (.int (iI 0)), some (.int (iI 0)), none, none, none, none, none], [], σ))) ∧
 (x1 = (iI (-1)) → (let x4 : Int32 := ((iI 1) - (iI 1))
 jv_wp (d + 1) post (13, 39, [some (.ref 3), some (.int v1), some (.int v2), some (.int v3), some (.int x1), some (.int x2), some (.int (iI 1)), some (.int x4), some (.int (iI 0)), some (.int (iI 0)), none, none, none, none, none], [], σ)))))))
set_option maxRecDepth 100000 in
set_option maxHeartbeats 4000000 in
theorem ok_X2_partsSettled {d : Nat} {post : jPo} {σ : jSt} {v1 : Int32} {v2 : Int32} {v3 : Int32} (h : vc_X2_partsSettled d post σ v1 v2 v3) : jv_wp (d + 1) post (13, 0, [some (.ref 3), some (.int v1), some (.int v2), some (.int v3), none, none, none, none, none, none, none, none, none, none, none], [], σ) := jv_go_ok 24 [39] _ _ _ h
def vc_X2_partsSettled_L39 (d : Nat) (post : jPo) (σ : jSt) (v1 : Int32) (v2 : Int32) (v3 : Int32) (v4 : Int32) (v5 : Int32) (v6 : Int32) (v7 : Int32) (v8 : Int32) (v9 : Int32) (z10 : Option Value) (z11 : Option Value) (z12 : Option Value) (z13 : Option Value) (z14 : Option Value) : Prop :=
 ((v2 ≤ v9 → post (some (.int v8)) σ) ∧
 (¬ v2 ≤ v9 → (let x1 : Int32 := ((σ.1 3 11) + v9)
 jq_I d 41 [.ref 3, .int x1] σ (fun x3 s2 =>
 jq_I d 50 [.ref 3, .int v1, .int (iI (-1)), .int x1, .int x3] s2 (fun x5 s4 =>
 ((x5 = 0 → ((¬ v9 = 0 → (let x6 : Int32 := (x1 - (iI 1))
 ((v7 ≤ 0 → (let x7 : Int32 := ((v6 * (iI 10)) - (iI 0))
 (let x8 : Int32 := (((v7 * (iI 10)) + (iI 0)) - (iI 0))
 (let x9 : Int32 := ((v8 * (iI 10)) + (iI 0))
 (let x10 : Int32 := (v9 + (iI 1))
 jv_wp (d + 1) post (13, 39, [some (.ref 3), some (.int v1), some (.int v2), some (.int v3), some (.int v4), some (.int v5), some (.int x7), some (.int x8), some (.int x9), some (.int x10), some (.int x1), some (.int x3), some (.int (iI 0)), some (.int x6), some (.int (iI 0))], [], s4)))))) ∧
 (¬ v7 ≤ 0 → jq_I d 50 [.ref 3, .int v1, .int x6, .int x1, .int x3] s4 (fun x12 s11 =>
 ((x12 = 0 → (let x13 : Int32 := ((v6 * (iI 10)) - (iI 0))
 (let x14 : Int32 := (((v7 * (iI 10)) + (iI 0)) - (iI 0))
 (let x15 : Int32 := ((v8 * (iI 10)) + (iI 0))
 (let x16 : Int32 := (v9 + (iI 1))
 jv_wp (d + 1) post (13, 39, [some (.ref 3), some (.int v1), some (.int v2), some (.int v3), some (.int v4), some (.int v5), some (.int x13), some (.int x14), some (.int x15), some (.int x16), some (.int x1), some (.int x3), some (.int (iI 0)), some (.int x6), some (.int (iI 0))], [], s11)))))) ∧
 (¬ x12 = 0 → (let x17 : Int32 := (v7 * v5)
 (let x18 : Int32 := ((v6 * (iI 10)) - (iI 0))
 (let x19 : Int32 := (((v7 * (iI 10)) + (iI 0)) - x17)
 (let x20 : Int32 := ((v8 * (iI 10)) + x17)
 (let x21 : Int32 := (v9 + (iI 1))
 jv_wp (d + 1) post (13, 39, [some (.ref 3), some (.int v1), some (.int v2), some (.int v3), some (.int v4), some (.int v5), some (.int x18), some (.int x19), some (.int x20), some (.int x21), some (.int x1), some (.int x3), some (.int (iI 0)), some (.int x6), some (.int x17)], [], s11))))))))))))) ∧
 (v9 = 0 → ((v7 ≤ 0 → (let x22 : Int32 := ((v6 * (iI 10)) - (iI 0))
 (let x23 : Int32 := (((v7 * (iI 10)) + (iI 0)) - (iI 0))
 (let x24 : Int32 := ((v8 * (iI 10)) + (iI 0))
 (let x25 : Int32 := (v9 + (iI 1))
 jv_wp (d + 1) post (13, 39, [some (.ref 3), some (.int v1), some (.int v2), some (.int v3), some (.int v4), some (.int v5), some (.int x22), some (.int x23), some (.int x24), some (.int x25), some (.int x1), some (.int x3), some (.int (iI 0)), some (.int v4), some (.int (iI 0))], [], s4)))))) ∧
 (¬ v7 ≤ 0 → jq_I d 50 [.ref 3, .int v1, .int v4, .int x1, .int x3] s4 (fun x27 s26 =>
 ((x27 = 0 → (let x28 : Int32 := ((v6 * (iI 10)) - (iI 0))
 (let x29 : Int32 := (((v7 * (iI 10)) + (iI 0)) - (iI 0))
 (let x30 : Int32 := ((v8 * (iI 10)) + (iI 0))
 (let x31 : Int32 := (v9 + (iI 1))
 jv_wp (d + 1) post (13, 39, [some (.ref 3), some (.int v1), some (.int v2), some (.int v3), some (.int v4), some (.int v5), some (.int x28), some (.int x29), some (.int x30), some (.int x31), some (.int x1), some (.int x3), some (.int (iI 0)), some (.int v4), some (.int (iI 0))], [], s26)))))) ∧
 (¬ x27 = 0 → (let x32 : Int32 := (v7 * v5)
 (let x33 : Int32 := ((v6 * (iI 10)) - (iI 0))
 (let x34 : Int32 := (((v7 * (iI 10)) + (iI 0)) - x32)
 (let x35 : Int32 := ((v8 * (iI 10)) + x32)
 (let x36 : Int32 := (v9 + (iI 1))
 jv_wp (d + 1) post (13, 39, [some (.ref 3), some (.int v1), some (.int v2), some (.int v3), some (.int v4), some (.int v5), some (.int x33), some (.int x34), some (.int x35), some (.int x36), some (.int x1), some (.int x3), some (.int (iI 0)), some (.int v4), some (.int x32)], [], s26)))))))))))))) ∧
 (¬ x5 = 0 → (let x37 : Int32 := (v6 * v5)
 ((¬ v9 = 0 → (let x38 : Int32 := (x1 - (iI 1))
 ((v7 ≤ 0 → (let x39 : Int32 := ((v6 * (iI 10)) - x37)
 (let x40 : Int32 := (((v7 * (iI 10)) + x37) - (iI 0))
 (let x41 : Int32 := ((v8 * (iI 10)) + (iI 0))
 (let x42 : Int32 := (v9 + (iI 1))
 jv_wp (d + 1) post (13, 39, [some (.ref 3), some (.int v1), some (.int v2), some (.int v3), some (.int v4), some (.int v5), some (.int x39), some (.int x40), some (.int x41), some (.int x42), some (.int x1), some (.int x3), some (.int x37), some (.int x38), some (.int (iI 0))], [], s4)))))) ∧
 (¬ v7 ≤ 0 → jq_I d 50 [.ref 3, .int v1, .int x38, .int x1, .int x3] s4 (fun x44 s43 =>
 ((x44 = 0 → (let x45 : Int32 := ((v6 * (iI 10)) - x37)
 (let x46 : Int32 := (((v7 * (iI 10)) + x37) - (iI 0))
 (let x47 : Int32 := ((v8 * (iI 10)) + (iI 0))
 (let x48 : Int32 := (v9 + (iI 1))
 jv_wp (d + 1) post (13, 39, [some (.ref 3), some (.int v1), some (.int v2), some (.int v3), some (.int v4), some (.int v5), some (.int x45), some (.int x46), some (.int x47), some (.int x48), some (.int x1), some (.int x3), some (.int x37), some (.int x38), some (.int (iI 0))], [], s43)))))) ∧
 (¬ x44 = 0 → (let x49 : Int32 := (v7 * v5)
 (let x50 : Int32 := ((v6 * (iI 10)) - x37)
 (let x51 : Int32 := (((v7 * (iI 10)) + x37) - x49)
 (let x52 : Int32 := ((v8 * (iI 10)) + x49)
 (let x53 : Int32 := (v9 + (iI 1))
 jv_wp (d + 1) post (13, 39, [some (.ref 3), some (.int v1), some (.int v2), some (.int v3), some (.int v4), some (.int v5), some (.int x50), some (.int x51), some (.int x52), some (.int x53), some (.int x1), some (.int x3), some (.int x37), some (.int x38), some (.int x49)], [], s43))))))))))))) ∧
 (v9 = 0 → ((v7 ≤ 0 → (let x54 : Int32 := ((v6 * (iI 10)) - x37)
 (let x55 : Int32 := (((v7 * (iI 10)) + x37) - (iI 0))
 (let x56 : Int32 := ((v8 * (iI 10)) + (iI 0))
 (let x57 : Int32 := (v9 + (iI 1))
 jv_wp (d + 1) post (13, 39, [some (.ref 3), some (.int v1), some (.int v2), some (.int v3), some (.int v4), some (.int v5), some (.int x54), some (.int x55), some (.int x56), some (.int x57), some (.int x1), some (.int x3), some (.int x37), some (.int v4), some (.int (iI 0))], [], s4)))))) ∧
 (¬ v7 ≤ 0 → jq_I d 50 [.ref 3, .int v1, .int v4, .int x1, .int x3] s4 (fun x59 s58 =>
 ((x59 = 0 → (let x60 : Int32 := ((v6 * (iI 10)) - x37)
 (let x61 : Int32 := (((v7 * (iI 10)) + x37) - (iI 0))
 (let x62 : Int32 := ((v8 * (iI 10)) + (iI 0))
 (let x63 : Int32 := (v9 + (iI 1))
 jv_wp (d + 1) post (13, 39, [some (.ref 3), some (.int v1), some (.int v2), some (.int v3), some (.int v4), some (.int v5), some (.int x60), some (.int x61), some (.int x62), some (.int x63), some (.int x1), some (.int x3), some (.int x37), some (.int v4), some (.int (iI 0))], [], s58)))))) ∧
 (¬ x59 = 0 → (let x64 : Int32 := (v7 * v5)
 (let x65 : Int32 := ((v6 * (iI 10)) - x37)
 (let x66 : Int32 := (((v7 * (iI 10)) + x37) - x64)
 (let x67 : Int32 := ((v8 * (iI 10)) + x64)
 (let x68 : Int32 := (v9 + (iI 1))
 jv_wp (d + 1) post (13, 39, [some (.ref 3), some (.int v1), some (.int v2), some (.int v3), some (.int v4), some (.int v5), some (.int x65), some (.int x66), some (.int x67), some (.int x68), some (.int x1), some (.int x3), some (.int x37), some (.int v4), some (.int x64)], [], s58)))))))))))))))))))))
set_option maxRecDepth 100000 in
set_option maxHeartbeats 4000000 in
theorem ok_X2_partsSettled_L39 {d : Nat} {post : jPo} {σ : jSt} {v1 : Int32} {v2 : Int32} {v3 : Int32} {v4 : Int32} {v5 : Int32} {v6 : Int32} {v7 : Int32} {v8 : Int32} {v9 : Int32} {z10 : Option Value} {z11 : Option Value} {z12 : Option Value} {z13 : Option Value} {z14 : Option Value} (h : vc_X2_partsSettled_L39 d post σ v1 v2 v3 v4 v5 v6 v7 v8 v9 z10 z11 z12 z13 z14) : jv_wp (d + 1) post (13, 39, [some (.ref 3), some (.int v1), some (.int v2), some (.int v3), some (.int v4), some (.int v5), some (.int v6), some (.int v7), some (.int v8), some (.int v9), z10, z11, z12, z13, z14], [], σ) := jv_go_ok 67 [39] _ _ _ h
def vc_X2_lowestTerms (d : Nat) (post : jPo) (σ : jSt) (v0 : Int32) (v1 : Int32) (v2 : Int32) : Prop :=
 jv_wp (d + 1) post (14, 8, [some (.int v0), some (.int v1), some (.int v2), some (.int v0), some (.int (iI 1)), some (.int (iI 0))], [], σ)
set_option maxRecDepth 100000 in
set_option maxHeartbeats 4000000 in
theorem ok_X2_lowestTerms {d : Nat} {post : jPo} {σ : jSt} {v0 : Int32} {v1 : Int32} {v2 : Int32} (h : vc_X2_lowestTerms d post σ v0 v1 v2) : jv_wp (d + 1) post (14, 0, [some (.int v0), some (.int v1), some (.int v2), none, none, none], [], σ) := jv_go_ok 7 [8, 30] _ _ _ h
def vc_X2_lowestTerms_L8 (d : Nat) (post : jPo) (σ : jSt) (v0 : Int32) (v1 : Int32) (v2 : Int32) (v3 : Int32) (v4 : Int32) (v5 : Int32) : Prop :=
 ((v1 ≤ v5 → jv_wp (d + 1) post (14, 30, [some (.int v0), some (.int v1), some (.int v2), some (.int v3), some (.int v4), some (.int (iI 0))], [], σ)) ∧
 (¬ v1 ≤ v5 → (let x1 : Int32 := (v4 * (iI 10))
 (let x2 : Int32 := (v5 + (iI 1))
 jv_wp (d + 1) post (14, 8, [some (.int v0), some (.int v1), some (.int v2), some (.int v3), some (.int x1), some (.int x2)], [], σ)))))
set_option maxRecDepth 100000 in
set_option maxHeartbeats 4000000 in
theorem ok_X2_lowestTerms_L8 {d : Nat} {post : jPo} {σ : jSt} {v0 : Int32} {v1 : Int32} {v2 : Int32} {v3 : Int32} {v4 : Int32} {v5 : Int32} (h : vc_X2_lowestTerms_L8 d post σ v0 v1 v2 v3 v4 v5) : jv_wp (d + 1) post (14, 8, [some (.int v0), some (.int v1), some (.int v2), some (.int v3), some (.int v4), some (.int v5)], [], σ) := jv_go_ok 10 [8, 30] _ _ _ h
def vc_X2_lowestTerms_L30 (d : Nat) (post : jPo) (σ : jSt) (v0 : Int32) (v1 : Int32) (v2 : Int32) (v3 : Int32) (v4 : Int32) (v5 : Int32) : Prop :=
 ((v1 ≤ v5 → ((v2 = 0 → post (some (.int v4)) σ) ∧
 (¬ v2 = 0 → post (some (.int v3)) σ))) ∧
 (¬ v1 ≤ v5 → ((¬ (v3 - v3 / (iI 2) * (iI 2)) = 0 → ((¬ (v3 - v3 / (iI 5) * (iI 5)) = 0 → (let x1 : Int32 := (v5 + (iI 1))
 jv_wp (d + 1) post (14, 30, [some (.int v0), some (.int v1), some (.int v2), some (.int v3), some (.int v4), some (.int x1)], [], σ))) ∧
 ((v3 - v3 / (iI 5) * (iI 5)) = 0 → (let x2 : Int32 := (v3 / (iI 5))
 (let x3 : Int32 := (v4 / (iI 5))
 (let x4 : Int32 := (v5 + (iI 1))
 jv_wp (d + 1) post (14, 30, [some (.int v0), some (.int v1), some (.int v2), some (.int x2), some (.int x3), some (.int x4)], [], σ))))))) ∧
 ((v3 - v3 / (iI 2) * (iI 2)) = 0 → (let x5 : Int32 := (v3 / (iI 2))
 (let x6 : Int32 := (v4 / (iI 2))
 ((¬ (x5 - x5 / (iI 5) * (iI 5)) = 0 → (let x7 : Int32 := (v5 + (iI 1))
 jv_wp (d + 1) post (14, 30, [some (.int v0), some (.int v1), some (.int v2), some (.int x5), some (.int x6), some (.int x7)], [], σ))) ∧
 ((x5 - x5 / (iI 5) * (iI 5)) = 0 → (let x8 : Int32 := (x5 / (iI 5))
 (let x9 : Int32 := (x6 / (iI 5))
 (let x10 : Int32 := (v5 + (iI 1))
 jv_wp (d + 1) post (14, 30, [some (.int v0), some (.int v1), some (.int v2), some (.int x8), some (.int x9), some (.int x10)], [], σ))))))))))))
set_option maxRecDepth 100000 in
set_option maxHeartbeats 4000000 in
theorem ok_X2_lowestTerms_L30 {d : Nat} {post : jPo} {σ : jSt} {v0 : Int32} {v1 : Int32} {v2 : Int32} {v3 : Int32} {v4 : Int32} {v5 : Int32} (h : vc_X2_lowestTerms_L30 d post σ v0 v1 v2 v3 v4 v5) : jv_wp (d + 1) post (14, 30, [some (.int v0), some (.int v1), some (.int v2), some (.int v3), some (.int v4), some (.int v5)], [], σ) := jv_go_ok 30 [8, 30] _ _ _ (show ((v1 ≤ v5 → ((v2 = 0 → post (some (.int v4)) σ) ∧
 (¬ v2 = 0 → post (some (.int v3)) σ))) ∧
 (¬ v1 ≤ v5 → (¬ (iI 2) = 0 ∧ ((¬ (v3 - v3 / (iI 2) * (iI 2)) = 0 → (¬ (iI 5) = 0 ∧ ((¬ (v3 - v3 / (iI 5) * (iI 5)) = 0 → (let x1 : Int32 := (v5 + (iI 1))
 jv_wp (d + 1) post (14, 30, [some (.int v0), some (.int v1), some (.int v2), some (.int v3), some (.int v4), some (.int x1)], [], σ))) ∧
 ((v3 - v3 / (iI 5) * (iI 5)) = 0 → (¬ (iI 5) = 0 ∧ (let x2 : Int32 := (v3 / (iI 5))
 (¬ (iI 5) = 0 ∧ (let x3 : Int32 := (v4 / (iI 5))
 (let x4 : Int32 := (v5 + (iI 1))
 jv_wp (d + 1) post (14, 30, [some (.int v0), some (.int v1), some (.int v2), some (.int x2), some (.int x3), some (.int x4)], [], σ)))))))))) ∧
 ((v3 - v3 / (iI 2) * (iI 2)) = 0 → (¬ (iI 2) = 0 ∧ (let x5 : Int32 := (v3 / (iI 2))
 (¬ (iI 2) = 0 ∧ (let x6 : Int32 := (v4 / (iI 2))
 (¬ (iI 5) = 0 ∧ ((¬ (x5 - x5 / (iI 5) * (iI 5)) = 0 → (let x7 : Int32 := (v5 + (iI 1))
 jv_wp (d + 1) post (14, 30, [some (.int v0), some (.int v1), some (.int v2), some (.int x5), some (.int x6), some (.int x7)], [], σ))) ∧
 ((x5 - x5 / (iI 5) * (iI 5)) = 0 → (¬ (iI 5) = 0 ∧ (let x8 : Int32 := (x5 / (iI 5))
 (¬ (iI 5) = 0 ∧ (let x9 : Int32 := (x6 / (iI 5))
 (let x10 : Int32 := (v5 + (iI 1))
 jv_wp (d + 1) post (14, 30, [some (.int v0), some (.int v1), some (.int v2), some (.int x8), some (.int x9), some (.int x10)], [], σ)))))))))))))))))) from ⟨fun c15 => ((h).1 c15), fun c15 => ⟨by decide +kernel, ⟨fun c18 => ⟨by decide +kernel, ⟨fun c20 => ((((((h).2 c15)).1 c18)).1 c20), fun c20 => ⟨by decide +kernel, ⟨by decide +kernel, ((((((h).2 c15)).1 c18)).2 c20)⟩⟩⟩⟩, fun c18 => ⟨by decide +kernel, ⟨by decide +kernel, ⟨by decide +kernel, ⟨fun c31 => ((((((h).2 c15)).2 c18)).1 c31), fun c31 => ⟨by decide +kernel, ⟨by decide +kernel, ((((((h).2 c15)).2 c18)).2 c31)⟩⟩⟩⟩⟩⟩⟩⟩⟩)
def vc_X3_append (d : Nat) (post : jPo) (σ : jSt) (v1 : Int32) : Prop :=
 (((σ.1 1 1) < (iI 44) → (vp_in (σ.1 1 1) 44 ∧ (let s1 : jSt := jv_u σ 2 (σ.1 1 1).toNatClampNeg v1
 (let s2 : jSt := jv_u s1 1 1 ((s1.1 1 1) + (iI 1))
 post (some (.int (iI 1))) s2)))) ∧
 (¬ (σ.1 1 1) < (iI 44) → post (some (.int (iI 0))) σ))
set_option maxRecDepth 100000 in
set_option maxHeartbeats 4000000 in
theorem ok_X3_append {d : Nat} {post : jPo} {σ : jSt} {v1 : Int32} (h : vc_X3_append d post σ v1) : jv_wp (d + 1) post (15, 0, [some (.ref 1), some (.int v1)], [], σ) := jv_go_ok 18 [] _ _ _ (show (((σ.1 1 1) < (iI 44) → (vp_in (σ.1 1 1) 44 ∧ (let s1 : jSt := jv_u σ 2 (σ.1 1 1).toNatClampNeg v1
 (let s2 : jSt := jv_u s1 1 1 ((s1.1 1 1) + (iI 1))
 (((iI 1) = 0 ∨ (iI 1) = 1) ∧ post (some (.int (iI 1))) s2))))) ∧
 (¬ (σ.1 1 1) < (iI 44) → (((iI 0) = 0 ∨ (iI 0) = 1) ∧ post (some (.int (iI 0))) σ))) from ⟨fun c37 => ⟨(((h).1 c37)).1, ⟨by decide +kernel, (((h).1 c37)).2⟩⟩, fun c37 => ⟨by decide +kernel, ((h).2 c37)⟩⟩)
def vc_X3_firstFault (d : Nat) (post : jPo) (σ : jSt)  : Prop :=
 jv_wp (d + 1) post (16, 4, [some (.ref 1), some (.int (iI 0)), some (.int (iI 0)), none], [], σ)
set_option maxRecDepth 100000 in
set_option maxHeartbeats 4000000 in
theorem ok_X3_firstFault {d : Nat} {post : jPo} {σ : jSt} (h : vc_X3_firstFault d post σ ) : jv_wp (d + 1) post (16, 0, [some (.ref 1), none, none, none], [], σ) := jv_go_ok 5 [4] _ _ _ h
def vc_X3_firstFault_L4 (d : Nat) (post : jPo) (σ : jSt) (v1 : Int32) (v2 : Int32) (z3 : Option Value) : Prop :=
 (((σ.1 1 1) ≤ v2 → post (some (.int (σ.1 1 1))) σ) ∧
 (¬ (σ.1 1 1) ≤ v2 → ((¬ v1 = 0 → jq_I d 18 [.ref 1, .int v2, .int v1] σ (fun x2 s1 =>
 ((¬ x2 = 0 → (vp_in v2 44 ∧ ((¬ (s1.1 2 v2.toNatClampNeg) = (iI 59) → (let x3 : Int32 := (v2 + (iI 1))
 jv_wp (d + 1) post (16, 4, [some (.ref 1), some (.int v1), some (.int x3), some (.int x2)], [], s1))) ∧
 ((s1.1 2 v2.toNatClampNeg) = (iI 59) → (let x4 : Int32 := ((v2 / (iI 4)) + (iI 1))
 (let x5 : Int32 := (v2 + (iI 1))
 jv_wp (d + 1) post (16, 4, [some (.ref 1), some (.int x4), some (.int x5), some (.int x2)], [], s1))))))) ∧
 (x2 = 0 → post (some (.int v2)) s1)))) ∧
 (v1 = 0 → jq_I d 17 [.ref 1, .int v2] σ (fun x7 s6 =>
 ((¬ x7 = 0 → (vp_in v2 44 ∧ ((¬ (s6.1 2 v2.toNatClampNeg) = (iI 59) → (let x8 : Int32 := (v2 + (iI 1))
 jv_wp (d + 1) post (16, 4, [some (.ref 1), some (.int v1), some (.int x8), some (.int x7)], [], s6))) ∧
 ((s6.1 2 v2.toNatClampNeg) = (iI 59) → (let x9 : Int32 := ((v2 / (iI 4)) + (iI 1))
 (let x10 : Int32 := (v2 + (iI 1))
 jv_wp (d + 1) post (16, 4, [some (.ref 1), some (.int x9), some (.int x10), some (.int x7)], [], s6))))))) ∧
 (x7 = 0 → post (some (.int v2)) s6)))))))
set_option maxRecDepth 100000 in
set_option maxHeartbeats 4000000 in
theorem ok_X3_firstFault_L4 {d : Nat} {post : jPo} {σ : jSt} {v1 : Int32} {v2 : Int32} {z3 : Option Value} (h : vc_X3_firstFault_L4 d post σ v1 v2 z3) : jv_wp (d + 1) post (16, 4, [some (.ref 1), some (.int v1), some (.int v2), z3], [], σ) := jv_go_ok 28 [4] _ _ _ (show (((σ.1 1 1) ≤ v2 → post (some (.int (σ.1 1 1))) σ) ∧
 (¬ (σ.1 1 1) ≤ v2 → ((¬ v1 = 0 → jq_I d 18 [.ref 1, .int v2, .int v1] σ (fun x2 s1 =>
 ((¬ x2 = 0 → (vp_in v2 44 ∧ ((¬ (s1.1 2 v2.toNatClampNeg) = (iI 59) → (let x3 : Int32 := (v2 + (iI 1))
 jv_wp (d + 1) post (16, 4, [some (.ref 1), some (.int v1), some (.int x3), some (.int x2)], [], s1))) ∧
 ((s1.1 2 v2.toNatClampNeg) = (iI 59) → (¬ (iI 4) = 0 ∧ (let x4 : Int32 := ((v2 / (iI 4)) + (iI 1))
 (let x5 : Int32 := (v2 + (iI 1))
 jv_wp (d + 1) post (16, 4, [some (.ref 1), some (.int x4), some (.int x5), some (.int x2)], [], s1)))))))) ∧
 (x2 = 0 → post (some (.int v2)) s1)))) ∧
 (v1 = 0 → jq_I d 17 [.ref 1, .int v2] σ (fun x7 s6 =>
 ((¬ x7 = 0 → (vp_in v2 44 ∧ ((¬ (s6.1 2 v2.toNatClampNeg) = (iI 59) → (let x8 : Int32 := (v2 + (iI 1))
 jv_wp (d + 1) post (16, 4, [some (.ref 1), some (.int v1), some (.int x8), some (.int x7)], [], s6))) ∧
 ((s6.1 2 v2.toNatClampNeg) = (iI 59) → (¬ (iI 4) = 0 ∧ (let x9 : Int32 := ((v2 / (iI 4)) + (iI 1))
 (let x10 : Int32 := (v2 + (iI 1))
 jv_wp (d + 1) post (16, 4, [some (.ref 1), some (.int x9), some (.int x10), some (.int x7)], [], s6)))))))) ∧
 (x7 = 0 → post (some (.int v2)) s6))))))) from ⟨fun c45 => ((h).1 c45), fun c45 => ⟨fun c47 => jq_I_con (((((h).2 c45)).1 c47)) (fun x2 s1 h48 => ⟨fun c49 => ⟨(((h48).1 c49)).1, ⟨fun c51 => (((((h48).1 c49)).2).1 c51), fun c51 => ⟨by decide +kernel, (((((h48).1 c49)).2).2 c51)⟩⟩⟩, fun c49 => ((h48).2 c49)⟩), fun c47 => jq_I_con (((((h).2 c45)).2 c47)) (fun x7 s6 h56 => ⟨fun c57 => ⟨(((h56).1 c57)).1, ⟨fun c59 => (((((h56).1 c57)).2).1 c59), fun c59 => ⟨by decide +kernel, (((((h56).1 c57)).2).2 c59)⟩⟩⟩, fun c57 => ((h56).2 c57)⟩)⟩⟩)
def vc_X3_fitsPeople (d : Nat) (post : jPo) (σ : jSt) (v1 : Int32) : Prop :=
 (vp_in v1 44 ∧ (let x1 : Int32 := (σ.1 2 v1.toNatClampNeg)
 (let x2 : Int32 := ((v1 / (iI 4)) + (iI 1))
 (((v1 - v1 / (iI 4) * (iI 4)) = (iI 0) → jq_I d 22 [.int x1] σ (fun x4 s3 =>
 ((x4 < 0 → post (some (.int (iI 0))) s3) ∧
 (¬ x4 < 0 → post (some (.int (iI 1))) s3)))) ∧
 (¬ (v1 - v1 / (iI 4) * (iI 4)) = (iI 0) → (((v1 - v1 / (iI 4) * (iI 4)) = (iI 1) → ((x1 = (iI 108) → post (some (.int (iI 1))) σ) ∧
 (¬ x1 = (iI 108) → ((¬ x1 = (iI 114) → post (some (.int (iI 0))) σ) ∧
 (x1 = (iI 114) → post (some (.int (iI 1))) σ))))) ∧
 (¬ (v1 - v1 / (iI 4) * (iI 4)) = (iI 1) → (((v1 - v1 / (iI 4) * (iI 4)) = (iI 2) → ((x1 < (iI 48) → post (some (.int (iI 0))) σ) ∧
 (¬ x1 < (iI 48) → (((iI 57) < x1 → post (some (.int (iI 0))) σ) ∧
 (¬ (iI 57) < x1 → post (some (.int (iI 1))) σ))))) ∧
 (¬ (v1 - v1 / (iI 4) * (iI 4)) = (iI 2) → ((¬ x1 = (iI 44) → ((¬ x1 = (iI 59) → post (some (.int (iI 0))) σ) ∧
 (x1 = (iI 59) → ((x2 < (iI 2) → post (some (.int (iI 0))) σ) ∧
 (¬ x2 < (iI 2) → post (some (.int (iI 1))) σ))))) ∧
 (x1 = (iI 44) → ((x2 < (iI 6) → post (some (.int (iI 1))) σ) ∧
 (¬ x2 < (iI 6) → ((¬ x1 = (iI 59) → post (some (.int (iI 0))) σ) ∧
 (x1 = (iI 59) → ((x2 < (iI 2) → post (some (.int (iI 0))) σ) ∧
 (¬ x2 < (iI 2) → post (some (.int (iI 1))) σ)))))))))))))))))
set_option maxRecDepth 100000 in
set_option maxHeartbeats 4000000 in
theorem ok_X3_fitsPeople {d : Nat} {post : jPo} {σ : jSt} {v1 : Int32} (h : vc_X3_fitsPeople d post σ v1) : jv_wp (d + 1) post (17, 0, [some (.ref 1), some (.int v1), none, none], [], σ) := jv_go_ok 30 [] _ _ _ (show (vp_in v1 44 ∧ (let x1 : Int32 := (σ.1 2 v1.toNatClampNeg)
 (¬ (iI 4) = 0 ∧ (let x2 : Int32 := ((v1 / (iI 4)) + (iI 1))
 (¬ (iI 4) = 0 ∧ (((v1 - v1 / (iI 4) * (iI 4)) = (iI 0) → jq_I d 22 [.int x1] σ (fun x4 s3 =>
 ((x4 < 0 → (((iI 0) = 0 ∨ (iI 0) = 1) ∧ post (some (.int (iI 0))) s3)) ∧
 (¬ x4 < 0 → (((iI 1) = 0 ∨ (iI 1) = 1) ∧ post (some (.int (iI 1))) s3))))) ∧
 (¬ (v1 - v1 / (iI 4) * (iI 4)) = (iI 0) → (((v1 - v1 / (iI 4) * (iI 4)) = (iI 1) → ((x1 = (iI 108) → (((iI 1) = 0 ∨ (iI 1) = 1) ∧ post (some (.int (iI 1))) σ)) ∧
 (¬ x1 = (iI 108) → ((¬ x1 = (iI 114) → (((iI 0) = 0 ∨ (iI 0) = 1) ∧ post (some (.int (iI 0))) σ)) ∧
 (x1 = (iI 114) → (((iI 1) = 0 ∨ (iI 1) = 1) ∧ post (some (.int (iI 1))) σ)))))) ∧
 (¬ (v1 - v1 / (iI 4) * (iI 4)) = (iI 1) → (((v1 - v1 / (iI 4) * (iI 4)) = (iI 2) → ((x1 < (iI 48) → (((iI 0) = 0 ∨ (iI 0) = 1) ∧ post (some (.int (iI 0))) σ)) ∧
 (¬ x1 < (iI 48) → (((iI 57) < x1 → (((iI 0) = 0 ∨ (iI 0) = 1) ∧ post (some (.int (iI 0))) σ)) ∧
 (¬ (iI 57) < x1 → (((iI 1) = 0 ∨ (iI 1) = 1) ∧ post (some (.int (iI 1))) σ)))))) ∧
 (¬ (v1 - v1 / (iI 4) * (iI 4)) = (iI 2) → ((¬ x1 = (iI 44) → ((¬ x1 = (iI 59) → (((iI 0) = 0 ∨ (iI 0) = 1) ∧ post (some (.int (iI 0))) σ)) ∧
 (x1 = (iI 59) → ((x2 < (iI 2) → (((iI 0) = 0 ∨ (iI 0) = 1) ∧ post (some (.int (iI 0))) σ)) ∧
 (¬ x2 < (iI 2) → (((iI 1) = 0 ∨ (iI 1) = 1) ∧ post (some (.int (iI 1))) σ)))))) ∧
 (x1 = (iI 44) → ((x2 < (iI 6) → (((iI 1) = 0 ∨ (iI 1) = 1) ∧ post (some (.int (iI 1))) σ)) ∧
 (¬ x2 < (iI 6) → ((¬ x1 = (iI 59) → (((iI 0) = 0 ∨ (iI 0) = 1) ∧ post (some (.int (iI 0))) σ)) ∧
 (x1 = (iI 59) → ((x2 < (iI 2) → (((iI 0) = 0 ∨ (iI 0) = 1) ∧ post (some (.int (iI 0))) σ)) ∧
 (¬ x2 < (iI 2) → (((iI 1) = 0 ∨ (iI 1) = 1) ∧ post (some (.int (iI 1))) σ)))))))))))))))))))) from ⟨(h).1, ⟨by decide +kernel, ⟨by decide +kernel, ⟨fun c69 => jq_I_con ((((h).2).1 c69)) (fun x4 s3 h70 => ⟨fun c71 => ⟨by decide +kernel, ((h70).1 c71)⟩, fun c71 => ⟨by decide +kernel, ((h70).2 c71)⟩⟩), fun c69 => ⟨fun c76 => ⟨fun c77 => ⟨by decide +kernel, (((((((h).2).2 c69)).1 c76)).1 c77)⟩, fun c77 => ⟨fun c80 => ⟨by decide +kernel, (((((((((h).2).2 c69)).1 c76)).2 c77)).1 c80)⟩, fun c80 => ⟨by decide +kernel, (((((((((h).2).2 c69)).1 c76)).2 c77)).2 c80)⟩⟩⟩, fun c76 => ⟨fun c85 => ⟨fun c86 => ⟨by decide +kernel, (((((((((h).2).2 c69)).2 c76)).1 c85)).1 c86)⟩, fun c86 => ⟨fun c89 => ⟨by decide +kernel, (((((((((((h).2).2 c69)).2 c76)).1 c85)).2 c86)).1 c89)⟩, fun c89 => ⟨by decide +kernel, (((((((((((h).2).2 c69)).2 c76)).1 c85)).2 c86)).2 c89)⟩⟩⟩, fun c85 => ⟨fun c94 => ⟨fun c95 => ⟨by decide +kernel, (((((((((((h).2).2 c69)).2 c76)).2 c85)).1 c94)).1 c95)⟩, fun c95 => ⟨fun c98 => ⟨by decide +kernel, (((((((((((((h).2).2 c69)).2 c76)).2 c85)).1 c94)).2 c95)).1 c98)⟩, fun c98 => ⟨by decide +kernel, (((((((((((((h).2).2 c69)).2 c76)).2 c85)).1 c94)).2 c95)).2 c98)⟩⟩⟩, fun c94 => ⟨fun c103 => ⟨by decide +kernel, (((((((((((h).2).2 c69)).2 c76)).2 c85)).2 c94)).1 c103)⟩, fun c103 => ⟨fun c106 => ⟨by decide +kernel, (((((((((((((h).2).2 c69)).2 c76)).2 c85)).2 c94)).2 c103)).1 c106)⟩, fun c106 => ⟨fun c109 => ⟨by decide +kernel, (((((((((((((((h).2).2 c69)).2 c76)).2 c85)).2 c94)).2 c103)).2 c106)).1 c109)⟩, fun c109 => ⟨by decide +kernel, (((((((((((((((h).2).2 c69)).2 c76)).2 c85)).2 c94)).2 c103)).2 c106)).2 c109)⟩⟩⟩⟩⟩⟩⟩⟩⟩⟩⟩)
def vc_X3_fitsMatters (d : Nat) (post : jPo) (σ : jSt) (v1 : Int32) (v2 : Int32) : Prop :=
 (vp_in v1 44 ∧ (let x1 : Int32 := (σ.1 2 v1.toNatClampNeg)
 (let x2 : Int32 := (((v1 / (iI 4)) + (iI 1)) - v2)
 ((x1 < (iI 48) → (((v1 - v1 / (iI 4) * (iI 4)) = (iI 0) → post (some (.int (iI 0))) σ) ∧
 (¬ (v1 - v1 / (iI 4) * (iI 4)) = (iI 0) → (((v1 - v1 / (iI 4) * (iI 4)) = (iI 1) → post (some (.int (iI 0))) σ) ∧
 (¬ (v1 - v1 / (iI 4) * (iI 4)) = (iI 1) → (((v1 - v1 / (iI 4) * (iI 4)) = (iI 2) → ((x1 < (iI 49) → post (some (.int (iI 0))) σ) ∧
 (¬ x1 < (iI 49) → (((iI 57) < x1 → post (some (.int (iI 0))) σ) ∧
 (¬ (iI 57) < x1 → post (some (.int (iI 1))) σ))))) ∧
 (¬ (v1 - v1 / (iI 4) * (iI 4)) = (iI 2) → ((¬ x1 = (iI 44) → post (some (.int (iI 0))) σ) ∧
 (x1 = (iI 44) → (((iI 5) ≤ x2 → post (some (.int (iI 0))) σ) ∧
 (¬ (iI 5) ≤ x2 → post (some (.int (iI 1))) σ))))))))))) ∧
 (¬ x1 < (iI 48) → ((((iI 48) + v2) ≤ x1 → (((v1 - v1 / (iI 4) * (iI 4)) = (iI 0) → post (some (.int (iI 0))) σ) ∧
 (¬ (v1 - v1 / (iI 4) * (iI 4)) = (iI 0) → (((v1 - v1 / (iI 4) * (iI 4)) = (iI 1) → post (some (.int (iI 0))) σ) ∧
 (¬ (v1 - v1 / (iI 4) * (iI 4)) = (iI 1) → (((v1 - v1 / (iI 4) * (iI 4)) = (iI 2) → ((x1 < (iI 49) → post (some (.int (iI 0))) σ) ∧
 (¬ x1 < (iI 49) → (((iI 57) < x1 → post (some (.int (iI 0))) σ) ∧
 (¬ (iI 57) < x1 → post (some (.int (iI 1))) σ))))) ∧
 (¬ (v1 - v1 / (iI 4) * (iI 4)) = (iI 2) → ((¬ x1 = (iI 44) → post (some (.int (iI 0))) σ) ∧
 (x1 = (iI 44) → (((iI 5) ≤ x2 → post (some (.int (iI 0))) σ) ∧
 (¬ (iI 5) ≤ x2 → post (some (.int (iI 1))) σ))))))))))) ∧
 (¬ ((iI 48) + v2) ≤ x1 → (((v1 - v1 / (iI 4) * (iI 4)) = (iI 0) → post (some (.int (iI 1))) σ) ∧
 (¬ (v1 - v1 / (iI 4) * (iI 4)) = (iI 0) → (((v1 - v1 / (iI 4) * (iI 4)) = (iI 1) → (vp_in (v1 - (iI 1)) 44 ∧ ((x1 = (σ.1 2 (v1 - (iI 1)).toNatClampNeg) → post (some (.int (iI 0))) σ) ∧
 (¬ x1 = (σ.1 2 (v1 - (iI 1)).toNatClampNeg) → post (some (.int (iI 1))) σ)))) ∧
 (¬ (v1 - v1 / (iI 4) * (iI 4)) = (iI 1) → (((v1 - v1 / (iI 4) * (iI 4)) = (iI 2) → ((x1 < (iI 49) → post (some (.int (iI 0))) σ) ∧
 (¬ x1 < (iI 49) → (((iI 57) < x1 → post (some (.int (iI 0))) σ) ∧
 (¬ (iI 57) < x1 → post (some (.int (iI 1))) σ))))) ∧
 (¬ (v1 - v1 / (iI 4) * (iI 4)) = (iI 2) → ((¬ x1 = (iI 44) → post (some (.int (iI 0))) σ) ∧
 (x1 = (iI 44) → (((iI 5) ≤ x2 → post (some (.int (iI 0))) σ) ∧
 (¬ (iI 5) ≤ x2 → post (some (.int (iI 1))) σ)))))))))))))))))
set_option maxRecDepth 100000 in
set_option maxHeartbeats 4000000 in
theorem ok_X3_fitsMatters {d : Nat} {post : jPo} {σ : jSt} {v1 : Int32} {v2 : Int32} (h : vc_X3_fitsMatters d post σ v1 v2) : jv_wp (d + 1) post (18, 0, [some (.ref 1), some (.int v1), some (.int v2), none, none, none], [], σ) := jv_go_ok 41 [] _ _ _ (show (vp_in v1 44 ∧ (let x1 : Int32 := (σ.1 2 v1.toNatClampNeg)
 (¬ (iI 4) = 0 ∧ (let x2 : Int32 := (((v1 / (iI 4)) + (iI 1)) - v2)
 ((x1 < (iI 48) → (¬ (iI 4) = 0 ∧ (((v1 - v1 / (iI 4) * (iI 4)) = (iI 0) → (((iI 0) = 0 ∨ (iI 0) = 1) ∧ post (some (.int (iI 0))) σ)) ∧
 (¬ (v1 - v1 / (iI 4) * (iI 4)) = (iI 0) → (((v1 - v1 / (iI 4) * (iI 4)) = (iI 1) → (((iI 0) = 0 → (((iI 0) = 0 ∨ (iI 0) = 1) ∧ post (some (.int (iI 0))) σ)) ∧
 (¬ (iI 0) = 0 → (vp_in (v1 - (iI 1)) 44 ∧ ((x1 = (σ.1 2 (v1 - (iI 1)).toNatClampNeg) → (((iI 0) = 0 ∨ (iI 0) = 1) ∧ post (some (.int (iI 0))) σ)) ∧
 (¬ x1 = (σ.1 2 (v1 - (iI 1)).toNatClampNeg) → (((iI 1) = 0 ∨ (iI 1) = 1) ∧ post (some (.int (iI 1))) σ))))))) ∧
 (¬ (v1 - v1 / (iI 4) * (iI 4)) = (iI 1) → (((v1 - v1 / (iI 4) * (iI 4)) = (iI 2) → ((x1 < (iI 49) → (((iI 0) = 0 ∨ (iI 0) = 1) ∧ post (some (.int (iI 0))) σ)) ∧
 (¬ x1 < (iI 49) → (((iI 57) < x1 → (((iI 0) = 0 ∨ (iI 0) = 1) ∧ post (some (.int (iI 0))) σ)) ∧
 (¬ (iI 57) < x1 → (((iI 1) = 0 ∨ (iI 1) = 1) ∧ post (some (.int (iI 1))) σ)))))) ∧
 (¬ (v1 - v1 / (iI 4) * (iI 4)) = (iI 2) → ((¬ x1 = (iI 44) → (((iI 0) = 0 ∨ (iI 0) = 1) ∧ post (some (.int (iI 0))) σ)) ∧
 (x1 = (iI 44) → (((iI 5) ≤ x2 → (((iI 0) = 0 ∨ (iI 0) = 1) ∧ post (some (.int (iI 0))) σ)) ∧
 (¬ (iI 5) ≤ x2 → (((iI 1) = 0 ∨ (iI 1) = 1) ∧ post (some (.int (iI 1))) σ))))))))))))) ∧
 (¬ x1 < (iI 48) → ((((iI 48) + v2) ≤ x1 → (¬ (iI 4) = 0 ∧ (((v1 - v1 / (iI 4) * (iI 4)) = (iI 0) → (((iI 0) = 0 ∨ (iI 0) = 1) ∧ post (some (.int (iI 0))) σ)) ∧
 (¬ (v1 - v1 / (iI 4) * (iI 4)) = (iI 0) → (((v1 - v1 / (iI 4) * (iI 4)) = (iI 1) → (((iI 0) = 0 → (((iI 0) = 0 ∨ (iI 0) = 1) ∧ post (some (.int (iI 0))) σ)) ∧
 (¬ (iI 0) = 0 → (vp_in (v1 - (iI 1)) 44 ∧ ((x1 = (σ.1 2 (v1 - (iI 1)).toNatClampNeg) → (((iI 0) = 0 ∨ (iI 0) = 1) ∧ post (some (.int (iI 0))) σ)) ∧
 (¬ x1 = (σ.1 2 (v1 - (iI 1)).toNatClampNeg) → (((iI 1) = 0 ∨ (iI 1) = 1) ∧ post (some (.int (iI 1))) σ))))))) ∧
 (¬ (v1 - v1 / (iI 4) * (iI 4)) = (iI 1) → (((v1 - v1 / (iI 4) * (iI 4)) = (iI 2) → ((x1 < (iI 49) → (((iI 0) = 0 ∨ (iI 0) = 1) ∧ post (some (.int (iI 0))) σ)) ∧
 (¬ x1 < (iI 49) → (((iI 57) < x1 → (((iI 0) = 0 ∨ (iI 0) = 1) ∧ post (some (.int (iI 0))) σ)) ∧
 (¬ (iI 57) < x1 → (((iI 1) = 0 ∨ (iI 1) = 1) ∧ post (some (.int (iI 1))) σ)))))) ∧
 (¬ (v1 - v1 / (iI 4) * (iI 4)) = (iI 2) → ((¬ x1 = (iI 44) → (((iI 0) = 0 ∨ (iI 0) = 1) ∧ post (some (.int (iI 0))) σ)) ∧
 (x1 = (iI 44) → (((iI 5) ≤ x2 → (((iI 0) = 0 ∨ (iI 0) = 1) ∧ post (some (.int (iI 0))) σ)) ∧
 (¬ (iI 5) ≤ x2 → (((iI 1) = 0 ∨ (iI 1) = 1) ∧ post (some (.int (iI 1))) σ))))))))))))) ∧
 (¬ ((iI 48) + v2) ≤ x1 → (¬ (iI 4) = 0 ∧ (((v1 - v1 / (iI 4) * (iI 4)) = (iI 0) → (((iI 1) = 0 ∨ (iI 1) = 1) ∧ post (some (.int (iI 1))) σ)) ∧
 (¬ (v1 - v1 / (iI 4) * (iI 4)) = (iI 0) → (((v1 - v1 / (iI 4) * (iI 4)) = (iI 1) → (((iI 1) = 0 → (((iI 0) = 0 ∨ (iI 0) = 1) ∧ post (some (.int (iI 0))) σ)) ∧
 (¬ (iI 1) = 0 → (vp_in (v1 - (iI 1)) 44 ∧ ((x1 = (σ.1 2 (v1 - (iI 1)).toNatClampNeg) → (((iI 0) = 0 ∨ (iI 0) = 1) ∧ post (some (.int (iI 0))) σ)) ∧
 (¬ x1 = (σ.1 2 (v1 - (iI 1)).toNatClampNeg) → (((iI 1) = 0 ∨ (iI 1) = 1) ∧ post (some (.int (iI 1))) σ))))))) ∧
 (¬ (v1 - v1 / (iI 4) * (iI 4)) = (iI 1) → (((v1 - v1 / (iI 4) * (iI 4)) = (iI 2) → ((x1 < (iI 49) → (((iI 0) = 0 ∨ (iI 0) = 1) ∧ post (some (.int (iI 0))) σ)) ∧
 (¬ x1 < (iI 49) → (((iI 57) < x1 → (((iI 0) = 0 ∨ (iI 0) = 1) ∧ post (some (.int (iI 0))) σ)) ∧
 (¬ (iI 57) < x1 → (((iI 1) = 0 ∨ (iI 1) = 1) ∧ post (some (.int (iI 1))) σ)))))) ∧
 (¬ (v1 - v1 / (iI 4) * (iI 4)) = (iI 2) → ((¬ x1 = (iI 44) → (((iI 0) = 0 ∨ (iI 0) = 1) ∧ post (some (.int (iI 0))) σ)) ∧
 (x1 = (iI 44) → (((iI 5) ≤ x2 → (((iI 0) = 0 ∨ (iI 0) = 1) ∧ post (some (.int (iI 0))) σ)) ∧
 (¬ (iI 5) ≤ x2 → (((iI 1) = 0 ∨ (iI 1) = 1) ∧ post (some (.int (iI 1))) σ)))))))))))))))))))) from ⟨(h).1, ⟨by decide +kernel, ⟨fun c118 => ⟨by decide +kernel, ⟨fun c120 => ⟨by decide +kernel, (((((h).2).1 c118)).1 c120)⟩, fun c120 => ⟨fun c123 => ⟨fun _ => ⟨by decide +kernel, (((((((h).2).1 c118)).2 c120)).1 c123)⟩, fun q => absurd q (by decide +kernel)⟩, fun c123 => ⟨fun c127 => ⟨fun c128 => ⟨by decide +kernel, (((((((((((h).2).1 c118)).2 c120)).2 c123)).1 c127)).1 c128)⟩, fun c128 => ⟨fun c131 => ⟨by decide +kernel, (((((((((((((h).2).1 c118)).2 c120)).2 c123)).1 c127)).2 c128)).1 c131)⟩, fun c131 => ⟨by decide +kernel, (((((((((((((h).2).1 c118)).2 c120)).2 c123)).1 c127)).2 c128)).2 c131)⟩⟩⟩, fun c127 => ⟨fun c136 => ⟨by decide +kernel, (((((((((((h).2).1 c118)).2 c120)).2 c123)).2 c127)).1 c136)⟩, fun c136 => ⟨fun c139 => ⟨by decide +kernel, (((((((((((((h).2).1 c118)).2 c120)).2 c123)).2 c127)).2 c136)).1 c139)⟩, fun c139 => ⟨by decide +kernel, (((((((((((((h).2).1 c118)).2 c120)).2 c123)).2 c127)).2 c136)).2 c139)⟩⟩⟩⟩⟩⟩⟩, fun c118 => ⟨fun c144 => ⟨by decide +kernel, ⟨fun c146 => ⟨by decide +kernel, (((((((h).2).2 c118)).1 c144)).1 c146)⟩, fun c146 => ⟨fun c149 => ⟨fun _ => ⟨by decide +kernel, (((((((((h).2).2 c118)).1 c144)).2 c146)).1 c149)⟩, fun q => absurd q (by decide +kernel)⟩, fun c149 => ⟨fun c153 => ⟨fun c154 => ⟨by decide +kernel, (((((((((((((h).2).2 c118)).1 c144)).2 c146)).2 c149)).1 c153)).1 c154)⟩, fun c154 => ⟨fun c157 => ⟨by decide +kernel, (((((((((((((((h).2).2 c118)).1 c144)).2 c146)).2 c149)).1 c153)).2 c154)).1 c157)⟩, fun c157 => ⟨by decide +kernel, (((((((((((((((h).2).2 c118)).1 c144)).2 c146)).2 c149)).1 c153)).2 c154)).2 c157)⟩⟩⟩, fun c153 => ⟨fun c162 => ⟨by decide +kernel, (((((((((((((h).2).2 c118)).1 c144)).2 c146)).2 c149)).2 c153)).1 c162)⟩, fun c162 => ⟨fun c165 => ⟨by decide +kernel, (((((((((((((((h).2).2 c118)).1 c144)).2 c146)).2 c149)).2 c153)).2 c162)).1 c165)⟩, fun c165 => ⟨by decide +kernel, (((((((((((((((h).2).2 c118)).1 c144)).2 c146)).2 c149)).2 c153)).2 c162)).2 c165)⟩⟩⟩⟩⟩⟩⟩, fun c144 => ⟨by decide +kernel, ⟨fun c171 => ⟨by decide +kernel, (((((((h).2).2 c118)).2 c144)).1 c171)⟩, fun c171 => ⟨fun c174 => ⟨fun q => absurd q (by decide +kernel), fun _ => ⟨((((((((((h).2).2 c118)).2 c144)).2 c171)).1 c174)).1, ⟨fun c177 => ⟨by decide +kernel, ((((((((((((h).2).2 c118)).2 c144)).2 c171)).1 c174)).2).1 c177)⟩, fun c177 => ⟨by decide +kernel, ((((((((((((h).2).2 c118)).2 c144)).2 c171)).1 c174)).2).2 c177)⟩⟩⟩⟩, fun c174 => ⟨fun c182 => ⟨fun c183 => ⟨by decide +kernel, (((((((((((((h).2).2 c118)).2 c144)).2 c171)).2 c174)).1 c182)).1 c183)⟩, fun c183 => ⟨fun c186 => ⟨by decide +kernel, (((((((((((((((h).2).2 c118)).2 c144)).2 c171)).2 c174)).1 c182)).2 c183)).1 c186)⟩, fun c186 => ⟨by decide +kernel, (((((((((((((((h).2).2 c118)).2 c144)).2 c171)).2 c174)).1 c182)).2 c183)).2 c186)⟩⟩⟩, fun c182 => ⟨fun c191 => ⟨by decide +kernel, (((((((((((((h).2).2 c118)).2 c144)).2 c171)).2 c174)).2 c182)).1 c191)⟩, fun c191 => ⟨fun c194 => ⟨by decide +kernel, (((((((((((((((h).2).2 c118)).2 c144)).2 c171)).2 c174)).2 c182)).2 c191)).1 c194)⟩, fun c194 => ⟨by decide +kernel, (((((((((((((((h).2).2 c118)).2 c144)).2 c171)).2 c174)).2 c182)).2 c191)).2 c194)⟩⟩⟩⟩⟩⟩⟩⟩⟩⟩⟩)
def vc_X3_isWhole (d : Nat) (post : jPo) (σ : jSt)  : Prop :=
 ((¬ ((σ.1 1 1) - (σ.1 1 1) / (iI 4) * (iI 4)) = (iI 3) → post (some (.int (iI 0))) σ) ∧
 (((σ.1 1 1) - (σ.1 1 1) / (iI 4) * (iI 4)) = (iI 3) → jq_I d 16 [.ref 1] σ (fun x2 s1 =>
 ((¬ x2 = (s1.1 1 1) → post (some (.int (iI 0))) s1) ∧
 (x2 = (s1.1 1 1) → jq_I d 20 [.ref 1] s1 (fun x4 s3 =>
 ((x4 ≤ 0 → post (some (.int (iI 0))) s3) ∧
 (¬ x4 ≤ 0 → post (some (.int (iI 1))) s3))))))))
set_option maxRecDepth 100000 in
set_option maxHeartbeats 4000000 in
theorem ok_X3_isWhole {d : Nat} {post : jPo} {σ : jSt} (h : vc_X3_isWhole d post σ ) : jv_wp (d + 1) post (19, 0, [some (.ref 1)], [], σ) := jv_go_ok 17 [] _ _ _ (show (¬ (iI 4) = 0 ∧ ((¬ ((σ.1 1 1) - (σ.1 1 1) / (iI 4) * (iI 4)) = (iI 3) → (((iI 0) = 0 ∨ (iI 0) = 1) ∧ post (some (.int (iI 0))) σ)) ∧
 (((σ.1 1 1) - (σ.1 1 1) / (iI 4) * (iI 4)) = (iI 3) → jq_I d 16 [.ref 1] σ (fun x2 s1 =>
 ((¬ x2 = (s1.1 1 1) → (((iI 0) = 0 ∨ (iI 0) = 1) ∧ post (some (.int (iI 0))) s1)) ∧
 (x2 = (s1.1 1 1) → jq_I d 20 [.ref 1] s1 (fun x4 s3 =>
 ((x4 ≤ 0 → (((iI 0) = 0 ∨ (iI 0) = 1) ∧ post (some (.int (iI 0))) s3)) ∧
 (¬ x4 ≤ 0 → (((iI 1) = 0 ∨ (iI 1) = 1) ∧ post (some (.int (iI 1))) s3)))))))))) from ⟨by decide +kernel, ⟨fun c200 => ⟨by decide +kernel, ((h).1 c200)⟩, fun c200 => jq_I_con (((h).2 c200)) (fun x2 s1 h203 => ⟨fun c204 => ⟨by decide +kernel, ((h203).1 c204)⟩, fun c204 => jq_I_con (((h203).2 c204)) (fun x4 s3 h207 => ⟨fun c208 => ⟨by decide +kernel, ((h207).1 c208)⟩, fun c208 => ⟨by decide +kernel, ((h207).2 c208)⟩⟩)⟩)⟩⟩)
def vc_X3_peopleTold (d : Nat) (post : jPo) (σ : jSt)  : Prop :=
 jv_wp (d + 1) post (20, 2, [some (.ref 1), some (.int (iI 3))], [], σ)
set_option maxRecDepth 100000 in
set_option maxHeartbeats 4000000 in
theorem ok_X3_peopleTold {d : Nat} {post : jPo} {σ : jSt} (h : vc_X3_peopleTold d post σ ) : jv_wp (d + 1) post (20, 0, [some (.ref 1), none], [], σ) := jv_go_ok 3 [2] _ _ _ h
def vc_X3_peopleTold_L2 (d : Nat) (post : jPo) (σ : jSt) (v1 : Int32) : Prop :=
 (((σ.1 1 1) ≤ v1 → post (some (.int (iI 0))) σ) ∧
 (¬ (σ.1 1 1) ≤ v1 → (vp_in v1 44 ∧ ((¬ (σ.1 2 v1.toNatClampNeg) = (iI 59) → (let x1 : Int32 := (v1 + (iI 4))
 jv_wp (d + 1) post (20, 2, [some (.ref 1), some (.int x1)], [], σ))) ∧
 ((σ.1 2 v1.toNatClampNeg) = (iI 59) → post (some (.int ((v1 / (iI 4)) + (iI 1)))) σ)))))
set_option maxRecDepth 100000 in
set_option maxHeartbeats 4000000 in
theorem ok_X3_peopleTold_L2 {d : Nat} {post : jPo} {σ : jSt} {v1 : Int32} (h : vc_X3_peopleTold_L2 d post σ v1) : jv_wp (d + 1) post (20, 2, [some (.ref 1), some (.int v1)], [], σ) := jv_go_ok 16 [2] _ _ _ (show (((σ.1 1 1) ≤ v1 → post (some (.int (iI 0))) σ) ∧
 (¬ (σ.1 1 1) ≤ v1 → (vp_in v1 44 ∧ ((¬ (σ.1 2 v1.toNatClampNeg) = (iI 59) → (let x1 : Int32 := (v1 + (iI 4))
 jv_wp (d + 1) post (20, 2, [some (.ref 1), some (.int x1)], [], σ))) ∧
 ((σ.1 2 v1.toNatClampNeg) = (iI 59) → (¬ (iI 4) = 0 ∧ post (some (.int ((v1 / (iI 4)) + (iI 1)))) σ)))))) from ⟨fun c213 => ((h).1 c213), fun c213 => ⟨(((h).2 c213)).1, ⟨fun c216 => (((((h).2 c213)).2).1 c216), fun c216 => ⟨by decide +kernel, (((((h).2 c213)).2).2 c216)⟩⟩⟩⟩)
def vc_X3_readInto (d : Nat) (post : jPo) (σ : jSt)  : Prop :=
 jq_I d 20 [.ref 1] σ (fun x2 s1 =>
 (let x3 : Int32 := (((s1.1 1 1) + (iI 1)) / (iI 4))
 jq_V d 36 [.ref 3, .int x2, .int (x3 - x2)] s1 (fun s4 =>
 jv_wp (d + 1) post (21, 25, [some (.ref 1), some (.ref 3), some (.int x2), some (.int x3), some (.int (iI 0)), none], [], s4))))
set_option maxRecDepth 100000 in
set_option maxHeartbeats 4000000 in
theorem ok_X3_readInto {d : Nat} {post : jPo} {σ : jSt} (h : vc_X3_readInto d post σ ) : jv_wp (d + 1) post (21, 0, [some (.ref 1), some (.ref 3), none, none, none, none], [], σ) := jv_go_ok 19 [25, 96] _ _ _ (show jq_I d 20 [.ref 1] σ (fun x2 s1 =>
 (¬ (iI 4) = 0 ∧ (let x3 : Int32 := (((s1.1 1 1) + (iI 1)) / (iI 4))
 jq_V d 36 [.ref 3, .int x2, .int (x3 - x2)] s1 (fun s4 =>
 jv_wp (d + 1) post (21, 25, [some (.ref 1), some (.ref 3), some (.int x2), some (.int x3), some (.int (iI 0)), none], [], s4))))) from jq_I_con (h) (fun x2 s1 h220 => ⟨by decide +kernel, h220⟩))
def vc_X3_readInto_L25 (d : Nat) (post : jPo) (σ : jSt) (v2 : Int32) (v3 : Int32) (v4 : Int32) (z5 : Option Value) : Prop :=
 (((σ.1 3 8) ≤ v4 → jv_wp (d + 1) post (21, 96, [some (.ref 1), some (.ref 3), some (.int v2), some (.int v3), some (.int (iI 0)), z5], [], σ)) ∧
 (¬ (σ.1 3 8) ≤ v4 → (let x1 : Int32 := (v4 * (iI 4))
 (vp_in x1 44 ∧ jq_I d 22 [.int (σ.1 2 x1.toNatClampNeg)] σ (fun x3 s2 =>
 (vp_in (x1 + (iI 1)) 44 ∧ ((¬ (s2.1 2 (x1 + (iI 1)).toNatClampNeg) = (iI 114) → (vp_in (x1 + (iI 2)) 44 ∧ jq_V d 37 [.ref 3, .int v4, .int x3, .int (iI 0), .int ((s2.1 2 (x1 + (iI 2)).toNatClampNeg) - (iI 48))] s2 (fun s4 =>
 (let x5 : Int32 := (v4 + (iI 1))
 jv_wp (d + 1) post (21, 25, [some (.ref 1), some (.ref 3), some (.int v2), some (.int v3), some (.int x5), some (.int x1)], [], s4))))) ∧
 ((s2.1 2 (x1 + (iI 1)).toNatClampNeg) = (iI 114) → (vp_in (x1 + (iI 2)) 44 ∧ jq_V d 37 [.ref 3, .int v4, .int x3, .int (iI 1), .int ((s2.1 2 (x1 + (iI 2)).toNatClampNeg) - (iI 48))] s2 (fun s6 =>
 (let x7 : Int32 := (v4 + (iI 1))
 jv_wp (d + 1) post (21, 25, [some (.ref 1), some (.ref 3), some (.int v2), some (.int v3), some (.int x7), some (.int x1)], [], s6))))))))))))
set_option maxRecDepth 100000 in
set_option maxHeartbeats 4000000 in
theorem ok_X3_readInto_L25 {d : Nat} {post : jPo} {σ : jSt} {v2 : Int32} {v3 : Int32} {v4 : Int32} {z5 : Option Value} (h : vc_X3_readInto_L25 d post σ v2 v3 v4 z5) : jv_wp (d + 1) post (21, 25, [some (.ref 1), some (.ref 3), some (.int v2), some (.int v3), some (.int v4), z5], [], σ) := jv_go_ok 37 [25, 96] _ _ _ h
def vc_X3_readInto_L96 (d : Nat) (post : jPo) (σ : jSt) (v2 : Int32) (v3 : Int32) (v4 : Int32) (z5 : Option Value) : Prop :=
 (((σ.1 3 9) ≤ v4 → post none σ) ∧
 (¬ (σ.1 3 9) ≤ v4 → (let x1 : Int32 := ((v2 + v4) * (iI 4))
 (vp_in x1 44 ∧ (vp_in v4 5 ∧ (let s2 : jSt := jv_u σ 7 v4.toNatClampNeg ((σ.1 2 x1.toNatClampNeg) - (iI 48))
 (vp_in (x1 + (iI 1)) 44 ∧ (vp_in v4 5 ∧ (let s3 : jSt := jv_u s2 8 v4.toNatClampNeg ((s2.1 2 (x1 + (iI 1)).toNatClampNeg) - (iI 48))
 (vp_in (x1 + (iI 2)) 44 ∧ (vp_in v4 5 ∧ (let s4 : jSt := jv_u s3 9 v4.toNatClampNeg ((s3.1 2 (x1 + (iI 2)).toNatClampNeg) - (iI 48))
 (vp_in v4 5 ∧ (let s5 : jSt := jv_u s4 10 v4.toNatClampNeg (iI (-1))
 (let x6 : Int32 := (v4 + (iI 1))
 jv_wp (d + 1) post (21, 96, [some (.ref 1), some (.ref 3), some (.int v2), some (.int v3), some (.int x6), some (.int x1)], [], s5))))))))))))))))
set_option maxRecDepth 100000 in
set_option maxHeartbeats 4000000 in
theorem ok_X3_readInto_L96 {d : Nat} {post : jPo} {σ : jSt} {v2 : Int32} {v3 : Int32} {v4 : Int32} {z5 : Option Value} (h : vc_X3_readInto_L96 d post σ v2 v3 v4 z5) : jv_wp (d + 1) post (21, 96, [some (.ref 1), some (.ref 3), some (.int v2), some (.int v3), some (.int v4), z5], [], σ) := jv_go_ok 52 [25, 96] _ _ _ h
def vc_X3_kindOf (d : Nat) (post : jPo) (σ : jSt) (v0 : Int32) : Prop :=
 jq_I d 144 [.ref 58, .int ((v0).toUInt32 % 65536).toInt32] σ (fun x2 s1 =>
 post (some (.int x2)) s1)
set_option maxRecDepth 100000 in
set_option maxHeartbeats 4000000 in
theorem ok_X3_kindOf {d : Nat} {post : jPo} {σ : jSt} {v0 : Int32} (h : vc_X3_kindOf d post σ v0) : jv_wp (d + 1) post (22, 0, [some (.int v0)], [], σ) := jv_go_ok 5 [] _ _ _ h
def vc_X4_make (d : Nat) (post : jPo) (σ : jSt) (v2 : Int32) : Prop :=
 (let s1 : jSt := jv_u σ 27 4 (if (iI 5) < v2 then (iI 5) else v2)
 (let s2 : jSt := jv_u s1 27 6 (iI (-1))
 (let s3 : jSt := jv_u s2 27 7 (iI (-1))
 (let s4 : jSt := jv_u s3 27 5 (iI (-1))
 jv_wp (d + 1) post (23, 26, [some (.ref 27), some (.ref 3), some (.int v2), some (.int (iI 0))], [], s4)))))
set_option maxRecDepth 100000 in
set_option maxHeartbeats 4000000 in
theorem ok_X4_make {d : Nat} {post : jPo} {σ : jSt} {v2 : Int32} (h : vc_X4_make d post σ v2) : jv_wp (d + 1) post (23, 0, [some (.ref 27), some (.ref 3), some (.int v2), none], [], σ) := jv_go_ok 17 [26] _ _ _ (show ((([.ref 27] : List Value).map fun v => v.category).sum ≤ 8 ∧ (let s1 : jSt := jv_u σ 27 4 (if (iI 5) < v2 then (iI 5) else v2)
 (let s2 : jSt := jv_u s1 27 6 (iI (-1))
 (let s3 : jSt := jv_u s2 27 7 (iI (-1))
 (let s4 : jSt := jv_u s3 27 5 (iI (-1))
 jv_wp (d + 1) post (23, 26, [some (.ref 27), some (.ref 3), some (.int v2), some (.int (iI 0))], [], s4)))))) from ⟨Nat.le_of_ble_eq_true rfl, h⟩)
def vc_X4_make_L26 (d : Nat) (post : jPo) (σ : jSt) (v2 : Int32) (v3 : Int32) : Prop :=
 (((σ.1 27 4) ≤ v3 → (let s1 : jSt := jv_a σ 31 (va_cpy (σ.1 10) (σ.1 31) (iI 0).toNatClampNeg (iI 0).toNatClampNeg (iI 5).toNatClampNeg)
 jq_V d 25 [.ref 27, .ref 3, .int (iI 0), .int (iI 0), .int (iI 0)] s1 (fun s2 =>
 post none s2))) ∧
 (¬ (σ.1 27 4) ≤ v3 → jq_I d 41 [.ref 3, .int ((σ.1 3 11) + v3)] σ (fun x4 s3 =>
 (vp_in v3 5 ∧ (let s5 : jSt := jv_u s3 28 v3.toNatClampNeg x4
 (let x6 : Int32 := (v3 + (iI 1))
 jv_wp (d + 1) post (23, 26, [some (.ref 27), some (.ref 3), some (.int v2), some (.int x6)], [], s5)))))))
set_option maxRecDepth 100000 in
set_option maxHeartbeats 4000000 in
theorem ok_X4_make_L26 {d : Nat} {post : jPo} {σ : jSt} {v2 : Int32} {v3 : Int32} (h : vc_X4_make_L26 d post σ v2 v3) : jv_wp (d + 1) post (23, 26, [some (.ref 27), some (.ref 3), some (.int v2), some (.int v3)], [], σ) := jv_go_ok 19 [26] _ _ _ (show (((σ.1 27 4) ≤ v3 → ((¬ (iI 0) < 0 ∧ ¬ (iI 0) < 0 ∧ ¬ (iI 5) < 0 ∧ (iI 0).toNatClampNeg + (iI 5).toNatClampNeg ≤ 5 ∧ (iI 0).toNatClampNeg + (iI 5).toNatClampNeg ≤ 5 ∧ (([] : List Value).map fun v => v.category).sum ≤ 8) ∧ (let s1 : jSt := jv_a σ 31 (va_cpy (σ.1 10) (σ.1 31) (iI 0).toNatClampNeg (iI 0).toNatClampNeg (iI 5).toNatClampNeg)
 jq_V d 25 [.ref 27, .ref 3, .int (iI 0), .int (iI 0), .int (iI 0)] s1 (fun s2 =>
 post none s2)))) ∧
 (¬ (σ.1 27 4) ≤ v3 → jq_I d 41 [.ref 3, .int ((σ.1 3 11) + v3)] σ (fun x4 s3 =>
 (vp_in v3 5 ∧ (let s5 : jSt := jv_u s3 28 v3.toNatClampNeg x4
 (let x6 : Int32 := (v3 + (iI 1))
 jv_wp (d + 1) post (23, 26, [some (.ref 27), some (.ref 3), some (.int v2), some (.int x6)], [], s5))))))) from ⟨fun c225 => ⟨⟨by decide +kernel, by decide +kernel, by decide +kernel, by decide +kernel, by decide +kernel, Nat.le_of_ble_eq_true rfl⟩, ((h).1 c225)⟩, fun c225 => ((h).2 c225)⟩)
def vc_X4_matterOn (d : Nat) (post : jPo) (σ : jSt) (v1 : Int32) : Prop :=
 ((v1 < 0 → post (some (.int (iI (-1)))) σ) ∧
 (¬ v1 < 0 → (((σ.1 27 4) ≤ v1 → post (some (.int (iI (-1)))) σ) ∧
 (¬ (σ.1 27 4) ≤ v1 → (vp_in v1 5 ∧ post (some (.int (σ.1 30 v1.toNatClampNeg))) σ)))))
set_option maxRecDepth 100000 in
set_option maxHeartbeats 4000000 in
theorem ok_X4_matterOn {d : Nat} {post : jPo} {σ : jSt} {v1 : Int32} (h : vc_X4_matterOn d post σ v1) : jv_wp (d + 1) post (24, 0, [some (.ref 27), some (.int v1)], [], σ) := jv_go_ok 12 [] _ _ _ h
def vc_X4_search (d : Nat) (post : jPo) (σ : jSt) (v2 : Int32) (v3 : Int32) (v4 : Int32) : Prop :=
 ((v2 < (σ.1 27 4) → (let x1 : Int32 := ((σ.1 3 11) + v2)
 jv_wp (d + 1) post (25, 28, [some (.ref 27), some (.ref 3), some (.int v2), some (.int v3), some (.int v4), some (.int x1), some (.int (iI 0)), none], [], σ))) ∧
 (¬ v2 < (σ.1 27 4) → jq_V d 26 [.ref 27, .ref 3, .int v3, .int v4] σ (fun s2 =>
 post none s2)))
set_option maxRecDepth 100000 in
set_option maxHeartbeats 4000000 in
theorem ok_X4_search {d : Nat} {post : jPo} {σ : jSt} {v2 : Int32} {v3 : Int32} {v4 : Int32} (h : vc_X4_search d post σ v2 v3 v4) : jv_wp (d + 1) post (25, 0, [some (.ref 27), some (.ref 3), some (.int v2), some (.int v3), some (.int v4), none, none, none], [], σ) := jv_go_ok 12 [28] _ _ _ h
def vc_X4_search_L28 (d : Nat) (post : jPo) (σ : jSt) (v2 : Int32) (v3 : Int32) (v4 : Int32) (v5 : Int32) (v6 : Int32) (z7 : Option Value) : Prop :=
 (((σ.1 3 9) ≤ v6 → (vp_in v2 5 ∧ (let s1 : jSt := jv_u σ 29 v2.toNatClampNeg (iI 7)
 jq_V d 25 [.ref 27, .ref 3, .int (v2 + (iI 1)), .int v3, .int v4] s1 (fun s2 =>
 post none s2)))) ∧
 (¬ (σ.1 3 9) ≤ v6 → (vp_in v6 5 ∧ (let x3 : Int32 := (σ.1 31 v6.toNatClampNeg)
 (vp_in v2 5 ∧ jq_I d 50 [.ref 3, .int v6, .int x3, .int v5, .int (σ.1 28 v2.toNatClampNeg)] σ (fun x5 s4 =>
 ((¬ x5 = 0 → (vp_in v2 5 ∧ (let s6 : jSt := jv_u s4 29 v2.toNatClampNeg v6
 ((¬ x3 = (iI (-1)) → (vp_in v6 5 ∧ (let s7 : jSt := jv_u s6 31 v6.toNatClampNeg (iI (-2))
 jq_I d 51 [.ref 3, .int v6, .int x3, .int v5] s7 (fun x9 s8 =>
 jq_V d 25 [.ref 27, .ref 3, .int (v2 + (iI 1)), .int (v3 + x9), .int (v4 + (iI 1))] s8 (fun s10 =>
 (vp_in v6 5 ∧ (let s11 : jSt := jv_u s10 31 v6.toNatClampNeg x3
 (let x12 : Int32 := (v6 + (iI 1))
 jv_wp (d + 1) post (25, 28, [some (.ref 27), some (.ref 3), some (.int v2), some (.int v3), some (.int v4), some (.int v5), some (.int x12), some (.int x3)], [], s11))))))))) ∧
 (x3 = (iI (-1)) → (vp_in v6 5 ∧ (let s13 : jSt := jv_u s6 31 v6.toNatClampNeg v5
 jq_V d 25 [.ref 27, .ref 3, .int (v2 + (iI 1)), .int v3, .int v4] s13 (fun s14 =>
 (vp_in v6 5 ∧ (let s15 : jSt := jv_u s14 31 v6.toNatClampNeg x3
 (let x16 : Int32 := (v6 + (iI 1))
 jv_wp (d + 1) post (25, 28, [some (.ref 27), some (.ref 3), some (.int v2), some (.int v3), some (.int v4), some (.int v5), some (.int x16), some (.int x3)], [], s15)))))))))))) ∧
 (x5 = 0 → (let x17 : Int32 := (v6 + (iI 1))
 jv_wp (d + 1) post (25, 28, [some (.ref 27), some (.ref 3), some (.int v2), some (.int v3), some (.int v4), some (.int v5), some (.int x17), some (.int x3)], [], s4))))))))))
set_option maxRecDepth 100000 in
set_option maxHeartbeats 4000000 in
theorem ok_X4_search_L28 {d : Nat} {post : jPo} {σ : jSt} {v2 : Int32} {v3 : Int32} {v4 : Int32} {v5 : Int32} {v6 : Int32} {z7 : Option Value} (h : vc_X4_search_L28 d post σ v2 v3 v4 v5 v6 z7) : jv_wp (d + 1) post (25, 28, [some (.ref 27), some (.ref 3), some (.int v2), some (.int v3), some (.int v4), some (.int v5), some (.int v6), z7], [], σ) := jv_go_ok 56 [28] _ _ _ h
def vc_X4_keepIfBetter (d : Nat) (post : jPo) (σ : jSt) (v2 : Int32) (v3 : Int32) : Prop :=
 ((v2 < (σ.1 27 6) → post none σ) ∧
 (¬ v2 < (σ.1 27 6) → ((¬ v2 = (σ.1 27 6) → jq_I d 27 [.ref 27, .int (σ.1 3 9)] σ (fun x2 s1 =>
 ((¬ v2 = (s1.1 27 6) → (let s3 : jSt := jv_u s1 27 6 v2
 (let s4 : jSt := jv_u s3 27 7 v3
 (let s5 : jSt := jv_u s4 27 5 x2
 (let s6 : jSt := jv_a s5 30 (va_cpy (s5.1 29) (s5.1 30) (iI 0).toNatClampNeg (iI 0).toNatClampNeg (iI 5).toNatClampNeg)
 post none s6))))) ∧
 (v2 = (s1.1 27 6) → ((¬ v3 = (s1.1 27 7) → (let s7 : jSt := jv_u s1 27 6 v2
 (let s8 : jSt := jv_u s7 27 7 v3
 (let s9 : jSt := jv_u s8 27 5 x2
 (let s10 : jSt := jv_a s9 30 (va_cpy (s9.1 29) (s9.1 30) (iI 0).toNatClampNeg (iI 0).toNatClampNeg (iI 5).toNatClampNeg)
 post none s10))))) ∧
 (v3 = (s1.1 27 7) → (((s1.1 27 5) < x2 → (let s11 : jSt := jv_u s1 27 6 v2
 (let s12 : jSt := jv_u s11 27 7 v3
 (let s13 : jSt := jv_u s12 27 5 x2
 (let s14 : jSt := jv_a s13 30 (va_cpy (s13.1 29) (s13.1 30) (iI 0).toNatClampNeg (iI 0).toNatClampNeg (iI 5).toNatClampNeg)
 post none s14))))) ∧
 (¬ (s1.1 27 5) < x2 → post none s1)))))))) ∧
 (v2 = (σ.1 27 6) → (((σ.1 27 7) ≤ v3 → jq_I d 27 [.ref 27, .int (σ.1 3 9)] σ (fun x16 s15 =>
 ((¬ v2 = (s15.1 27 6) → (let s17 : jSt := jv_u s15 27 6 v2
 (let s18 : jSt := jv_u s17 27 7 v3
 (let s19 : jSt := jv_u s18 27 5 x16
 (let s20 : jSt := jv_a s19 30 (va_cpy (s19.1 29) (s19.1 30) (iI 0).toNatClampNeg (iI 0).toNatClampNeg (iI 5).toNatClampNeg)
 post none s20))))) ∧
 (v2 = (s15.1 27 6) → ((¬ v3 = (s15.1 27 7) → (let s21 : jSt := jv_u s15 27 6 v2
 (let s22 : jSt := jv_u s21 27 7 v3
 (let s23 : jSt := jv_u s22 27 5 x16
 (let s24 : jSt := jv_a s23 30 (va_cpy (s23.1 29) (s23.1 30) (iI 0).toNatClampNeg (iI 0).toNatClampNeg (iI 5).toNatClampNeg)
 post none s24))))) ∧
 (v3 = (s15.1 27 7) → (((s15.1 27 5) < x16 → (let s25 : jSt := jv_u s15 27 6 v2
 (let s26 : jSt := jv_u s25 27 7 v3
 (let s27 : jSt := jv_u s26 27 5 x16
 (let s28 : jSt := jv_a s27 30 (va_cpy (s27.1 29) (s27.1 30) (iI 0).toNatClampNeg (iI 0).toNatClampNeg (iI 5).toNatClampNeg)
 post none s28))))) ∧
 (¬ (s15.1 27 5) < x16 → post none s15)))))))) ∧
 (¬ (σ.1 27 7) ≤ v3 → post none σ))))))
set_option maxRecDepth 100000 in
set_option maxHeartbeats 4000000 in
theorem ok_X4_keepIfBetter {d : Nat} {post : jPo} {σ : jSt} {v2 : Int32} {v3 : Int32} (h : vc_X4_keepIfBetter d post σ v2 v3) : jv_wp (d + 1) post (26, 0, [some (.ref 27), some (.ref 3), some (.int v2), some (.int v3), none], [], σ) := jv_go_ok 47 [] _ _ _ (show ((v2 < (σ.1 27 6) → post none σ) ∧
 (¬ v2 < (σ.1 27 6) → ((¬ v2 = (σ.1 27 6) → jq_I d 27 [.ref 27, .int (σ.1 3 9)] σ (fun x2 s1 =>
 ((¬ v2 = (s1.1 27 6) → (let s3 : jSt := jv_u s1 27 6 v2
 (let s4 : jSt := jv_u s3 27 7 v3
 (let s5 : jSt := jv_u s4 27 5 x2
 ((¬ (iI 0) < 0 ∧ ¬ (iI 0) < 0 ∧ ¬ (iI 5) < 0 ∧ (iI 0).toNatClampNeg + (iI 5).toNatClampNeg ≤ 5 ∧ (iI 0).toNatClampNeg + (iI 5).toNatClampNeg ≤ 5 ∧ (([] : List Value).map fun v => v.category).sum ≤ 8) ∧ (let s6 : jSt := jv_a s5 30 (va_cpy (s5.1 29) (s5.1 30) (iI 0).toNatClampNeg (iI 0).toNatClampNeg (iI 5).toNatClampNeg)
 post none s6)))))) ∧
 (v2 = (s1.1 27 6) → ((¬ v3 = (s1.1 27 7) → (let s7 : jSt := jv_u s1 27 6 v2
 (let s8 : jSt := jv_u s7 27 7 v3
 (let s9 : jSt := jv_u s8 27 5 x2
 ((¬ (iI 0) < 0 ∧ ¬ (iI 0) < 0 ∧ ¬ (iI 5) < 0 ∧ (iI 0).toNatClampNeg + (iI 5).toNatClampNeg ≤ 5 ∧ (iI 0).toNatClampNeg + (iI 5).toNatClampNeg ≤ 5 ∧ (([] : List Value).map fun v => v.category).sum ≤ 8) ∧ (let s10 : jSt := jv_a s9 30 (va_cpy (s9.1 29) (s9.1 30) (iI 0).toNatClampNeg (iI 0).toNatClampNeg (iI 5).toNatClampNeg)
 post none s10)))))) ∧
 (v3 = (s1.1 27 7) → (((s1.1 27 5) < x2 → (let s11 : jSt := jv_u s1 27 6 v2
 (let s12 : jSt := jv_u s11 27 7 v3
 (let s13 : jSt := jv_u s12 27 5 x2
 ((¬ (iI 0) < 0 ∧ ¬ (iI 0) < 0 ∧ ¬ (iI 5) < 0 ∧ (iI 0).toNatClampNeg + (iI 5).toNatClampNeg ≤ 5 ∧ (iI 0).toNatClampNeg + (iI 5).toNatClampNeg ≤ 5 ∧ (([] : List Value).map fun v => v.category).sum ≤ 8) ∧ (let s14 : jSt := jv_a s13 30 (va_cpy (s13.1 29) (s13.1 30) (iI 0).toNatClampNeg (iI 0).toNatClampNeg (iI 5).toNatClampNeg)
 post none s14)))))) ∧
 (¬ (s1.1 27 5) < x2 → post none s1)))))))) ∧
 (v2 = (σ.1 27 6) → (((σ.1 27 7) ≤ v3 → jq_I d 27 [.ref 27, .int (σ.1 3 9)] σ (fun x16 s15 =>
 ((¬ v2 = (s15.1 27 6) → (let s17 : jSt := jv_u s15 27 6 v2
 (let s18 : jSt := jv_u s17 27 7 v3
 (let s19 : jSt := jv_u s18 27 5 x16
 ((¬ (iI 0) < 0 ∧ ¬ (iI 0) < 0 ∧ ¬ (iI 5) < 0 ∧ (iI 0).toNatClampNeg + (iI 5).toNatClampNeg ≤ 5 ∧ (iI 0).toNatClampNeg + (iI 5).toNatClampNeg ≤ 5 ∧ (([] : List Value).map fun v => v.category).sum ≤ 8) ∧ (let s20 : jSt := jv_a s19 30 (va_cpy (s19.1 29) (s19.1 30) (iI 0).toNatClampNeg (iI 0).toNatClampNeg (iI 5).toNatClampNeg)
 post none s20)))))) ∧
 (v2 = (s15.1 27 6) → ((¬ v3 = (s15.1 27 7) → (let s21 : jSt := jv_u s15 27 6 v2
 (let s22 : jSt := jv_u s21 27 7 v3
 (let s23 : jSt := jv_u s22 27 5 x16
 ((¬ (iI 0) < 0 ∧ ¬ (iI 0) < 0 ∧ ¬ (iI 5) < 0 ∧ (iI 0).toNatClampNeg + (iI 5).toNatClampNeg ≤ 5 ∧ (iI 0).toNatClampNeg + (iI 5).toNatClampNeg ≤ 5 ∧ (([] : List Value).map fun v => v.category).sum ≤ 8) ∧ (let s24 : jSt := jv_a s23 30 (va_cpy (s23.1 29) (s23.1 30) (iI 0).toNatClampNeg (iI 0).toNatClampNeg (iI 5).toNatClampNeg)
 post none s24)))))) ∧
 (v3 = (s15.1 27 7) → (((s15.1 27 5) < x16 → (let s25 : jSt := jv_u s15 27 6 v2
 (let s26 : jSt := jv_u s25 27 7 v3
 (let s27 : jSt := jv_u s26 27 5 x16
 ((¬ (iI 0) < 0 ∧ ¬ (iI 0) < 0 ∧ ¬ (iI 5) < 0 ∧ (iI 0).toNatClampNeg + (iI 5).toNatClampNeg ≤ 5 ∧ (iI 0).toNatClampNeg + (iI 5).toNatClampNeg ≤ 5 ∧ (([] : List Value).map fun v => v.category).sum ≤ 8) ∧ (let s28 : jSt := jv_a s27 30 (va_cpy (s27.1 29) (s27.1 30) (iI 0).toNatClampNeg (iI 0).toNatClampNeg (iI 5).toNatClampNeg)
 post none s28)))))) ∧
 (¬ (s15.1 27 5) < x16 → post none s15)))))))) ∧
 (¬ (σ.1 27 7) ≤ v3 → post none σ)))))) from ⟨fun c229 => ((h).1 c229), fun c229 => ⟨fun c231 => jq_I_con (((((h).2 c229)).1 c231)) (fun x2 s1 h232 => ⟨fun c233 => ⟨⟨by decide +kernel, by decide +kernel, by decide +kernel, by decide +kernel, by decide +kernel, Nat.le_of_ble_eq_true rfl⟩, ((h232).1 c233)⟩, fun c233 => ⟨fun c239 => ⟨⟨by decide +kernel, by decide +kernel, by decide +kernel, by decide +kernel, by decide +kernel, Nat.le_of_ble_eq_true rfl⟩, ((((h232).2 c233)).1 c239)⟩, fun c239 => ⟨fun c245 => ⟨⟨by decide +kernel, by decide +kernel, by decide +kernel, by decide +kernel, by decide +kernel, Nat.le_of_ble_eq_true rfl⟩, ((((((h232).2 c233)).2 c239)).1 c245)⟩, fun c245 => ((((((h232).2 c233)).2 c239)).2 c245)⟩⟩⟩), fun c231 => ⟨fun c252 => jq_I_con (((((((h).2 c229)).2 c231)).1 c252)) (fun x16 s15 h253 => ⟨fun c254 => ⟨⟨by decide +kernel, by decide +kernel, by decide +kernel, by decide +kernel, by decide +kernel, Nat.le_of_ble_eq_true rfl⟩, ((h253).1 c254)⟩, fun c254 => ⟨fun c260 => ⟨⟨by decide +kernel, by decide +kernel, by decide +kernel, by decide +kernel, by decide +kernel, Nat.le_of_ble_eq_true rfl⟩, ((((h253).2 c254)).1 c260)⟩, fun c260 => ⟨fun c266 => ⟨⟨by decide +kernel, by decide +kernel, by decide +kernel, by decide +kernel, by decide +kernel, Nat.le_of_ble_eq_true rfl⟩, ((((((h253).2 c254)).2 c260)).1 c266)⟩, fun c266 => ((((((h253).2 c254)).2 c260)).2 c266)⟩⟩⟩), fun c252 => ((((((h).2 c229)).2 c231)).2 c252)⟩⟩⟩)
def vc_X4_howManyAsked (d : Nat) (post : jPo) (σ : jSt) (v1 : Int32) : Prop :=
 jv_wp (d + 1) post (27, 4, [some (.ref 27), some (.int v1), some (.int (iI 0)), some (.int (iI 0))], [], σ)
set_option maxRecDepth 100000 in
set_option maxHeartbeats 4000000 in
theorem ok_X4_howManyAsked {d : Nat} {post : jPo} {σ : jSt} {v1 : Int32} (h : vc_X4_howManyAsked d post σ v1) : jv_wp (d + 1) post (27, 0, [some (.ref 27), some (.int v1), none, none], [], σ) := jv_go_ok 5 [4] _ _ _ h
def vc_X4_howManyAsked_L4 (d : Nat) (post : jPo) (σ : jSt) (v1 : Int32) (v2 : Int32) (v3 : Int32) : Prop :=
 ((v1 ≤ v3 → post (some (.int v2)) σ) ∧
 (¬ v1 ≤ v3 → (vp_in v3 5 ∧ (((σ.1 31 v3.toNatClampNeg) < 0 → (let x1 : Int32 := (v3 + (iI 1))
 jv_wp (d + 1) post (27, 4, [some (.ref 27), some (.int v1), some (.int v2), some (.int x1)], [], σ))) ∧
 (¬ (σ.1 31 v3.toNatClampNeg) < 0 → (let x2 : Int32 := (v2 + (iI 1))
 (let x3 : Int32 := (v3 + (iI 1))
 jv_wp (d + 1) post (27, 4, [some (.ref 27), some (.int v1), some (.int x2), some (.int x3)], [], σ))))))))
set_option maxRecDepth 100000 in
set_option maxHeartbeats 4000000 in
theorem ok_X4_howManyAsked_L4 {d : Nat} {post : jPo} {σ : jSt} {v1 : Int32} {v2 : Int32} {v3 : Int32} (h : vc_X4_howManyAsked_L4 d post σ v1 v2 v3) : jv_wp (d + 1) post (27, 4, [some (.ref 27), some (.int v1), some (.int v2), some (.int v3)], [], σ) := jv_go_ok 12 [4] _ _ _ h
def vc_X5_add (d : Nat) (post : jPo) (σ : jSt) (v1 : Int32) (v2 : Int32) (v3 : Int32) : Prop :=
 (((σ.1 11 3) < (iI 6) → (vp_in (σ.1 11 3) 6 ∧ (let s1 : jSt := jv_u σ 12 (σ.1 11 3).toNatClampNeg v1
 (vp_in (s1.1 11 3) 6 ∧ (let s2 : jSt := jv_u s1 13 (s1.1 11 3).toNatClampNeg v2
 (vp_in (s2.1 11 3) 6 ∧ ((v3 = 0 ∨ v3 = 1) ∧ (let s3 : jSt := jv_u s2 14 (s2.1 11 3).toNatClampNeg v3
 (let s4 : jSt := jv_u s3 11 3 ((s3.1 11 3) + (iI 1))
 post (some (.int (iI 1))) s4))))))))) ∧
 (¬ (σ.1 11 3) < (iI 6) → post (some (.int (iI 0))) σ))
set_option maxRecDepth 100000 in
set_option maxHeartbeats 4000000 in
theorem ok_X5_add {d : Nat} {post : jPo} {σ : jSt} {v1 : Int32} {v2 : Int32} {v3 : Int32} (h : vc_X5_add d post σ v1 v2 v3) : jv_wp (d + 1) post (28, 0, [some (.ref 11), some (.int v1), some (.int v2), some (.int v3)], [], σ) := jv_go_ok 30 [] _ _ _ (show (((σ.1 11 3) < (iI 6) → (vp_in (σ.1 11 3) 6 ∧ (let s1 : jSt := jv_u σ 12 (σ.1 11 3).toNatClampNeg v1
 (vp_in (s1.1 11 3) 6 ∧ (let s2 : jSt := jv_u s1 13 (s1.1 11 3).toNatClampNeg v2
 (vp_in (s2.1 11 3) 6 ∧ ((v3 = 0 ∨ v3 = 1) ∧ (let s3 : jSt := jv_u s2 14 (s2.1 11 3).toNatClampNeg v3
 (let s4 : jSt := jv_u s3 11 3 ((s3.1 11 3) + (iI 1))
 (((iI 1) = 0 ∨ (iI 1) = 1) ∧ post (some (.int (iI 1))) s4)))))))))) ∧
 (¬ (σ.1 11 3) < (iI 6) → (((iI 0) = 0 ∨ (iI 0) = 1) ∧ post (some (.int (iI 0))) σ))) from ⟨fun c274 => ⟨(((h).1 c274)).1, ⟨((((h).1 c274)).2).1, ⟨(((((h).1 c274)).2).2).1, ⟨((((((h).1 c274)).2).2).2).1, ⟨by decide +kernel, ((((((h).1 c274)).2).2).2).2⟩⟩⟩⟩⟩, fun c274 => ⟨by decide +kernel, ((h).2 c274)⟩⟩)
def vc_X5_sortsLeft (d : Nat) (post : jPo) (σ : jSt) (v1 : Int32) (v2 : Int32) (v3 : Int32) : Prop :=
 jv_wp (d + 1) post (29, 8, [some (.ref 11), some (.int v1), some (.int v2), some (.int v3), some (.int (iI 1023)), some (.int (iI 0)), none], [], σ)
set_option maxRecDepth 100000 in
set_option maxHeartbeats 4000000 in
theorem ok_X5_sortsLeft {d : Nat} {post : jPo} {σ : jSt} {v1 : Int32} {v2 : Int32} {v3 : Int32} (h : vc_X5_sortsLeft d post σ v1 v2 v3) : jv_wp (d + 1) post (29, 0, [some (.ref 11), some (.int v1), some (.int v2), some (.int v3), none, none, none], [], σ) := jv_go_ok 5 [8] _ _ _ h
def vc_X5_sortsLeft_L8 (d : Nat) (post : jPo) (σ : jSt) (v1 : Int32) (v2 : Int32) (v3 : Int32) (v4 : Int32) (v5 : Int32) (z6 : Option Value) : Prop :=
 (((σ.1 11 3) ≤ v5 → post (some (.int v4)) σ) ∧
 (¬ (σ.1 11 3) ≤ v5 → (vp_in v5 6 ∧ ((¬ (σ.1 12 v5.toNatClampNeg) = v1 → (let x1 : Int32 := (v5 + (iI 1))
 jv_wp (d + 1) post (29, 8, [some (.ref 11), some (.int v1), some (.int v2), some (.int v3), some (.int v4), some (.int x1), z6], [], σ))) ∧
 ((σ.1 12 v5.toNatClampNeg) = v1 → (vp_in v5 6 ∧ jq_I d 4 [.int (v3 + (σ.1 13 v5.toNatClampNeg))] σ (fun x3 s2 =>
 jq_I d 32 [.int x3, .int v2] s2 (fun x5 s4 =>
 (vp_in v5 6 ∧ (((s4.1 14 v5.toNatClampNeg) = 0 → (let x6 : Int32 := (v4 &&& (x5 ^^^ (iI (-1))))
 (let x7 : Int32 := (v5 + (iI 1))
 jv_wp (d + 1) post (29, 8, [some (.ref 11), some (.int v1), some (.int v2), some (.int v3), some (.int x6), some (.int x7), some (.int x5)], [], s4)))) ∧
 (¬ (s4.1 14 v5.toNatClampNeg) = 0 → (let x8 : Int32 := (v4 &&& x5)
 (let x9 : Int32 := (v5 + (iI 1))
 jv_wp (d + 1) post (29, 8, [some (.ref 11), some (.int v1), some (.int v2), some (.int v3), some (.int x8), some (.int x9), some (.int x5)], [], s4))))))))))))))
set_option maxRecDepth 100000 in
set_option maxHeartbeats 4000000 in
theorem ok_X5_sortsLeft_L8 {d : Nat} {post : jPo} {σ : jSt} {v1 : Int32} {v2 : Int32} {v3 : Int32} {v4 : Int32} {v5 : Int32} {z6 : Option Value} (h : vc_X5_sortsLeft_L8 d post σ v1 v2 v3 v4 v5 z6) : jv_wp (d + 1) post (29, 8, [some (.ref 11), some (.int v1), some (.int v2), some (.int v3), some (.int v4), some (.int v5), z6], [], σ) := jv_go_ok 34 [8] _ _ _ h
def vc_X7_begin (d : Nat) (post : jPo) (σ : jSt) (v1 : Int32) (v2 : Int32) : Prop :=
 (let s1 : jSt := jv_u σ 3 8 (if (iI 6) < v1 then (iI 6) else v1)
 (let s2 : jSt := jv_u s1 3 9 (if (iI 5) < v2 then (iI 5) else v2)
 (let s3 : jSt := jv_u s2 3 10 (iI 0)
 (let s4 : jSt := jv_u s3 3 11 (iI 0)
 (let s5 : jSt := jv_u s4 3 12 (iI 0)
 (let s6 : jSt := jv_u s5 11 3 (iI 0)
 post none s6))))))
set_option maxRecDepth 100000 in
set_option maxHeartbeats 4000000 in
theorem ok_X7_begin {d : Nat} {post : jPo} {σ : jSt} {v1 : Int32} {v2 : Int32} (h : vc_X7_begin d post σ v1 v2) : jv_wp (d + 1) post (36, 0, [some (.ref 3), some (.int v1), some (.int v2)], [], σ) := jv_go_ok 24 [] _ _ _ (show ((([.ref 3] : List Value).map fun v => v.category).sum ≤ 8 ∧ (let s1 : jSt := jv_u σ 3 8 (if (iI 6) < v1 then (iI 6) else v1)
 ((([.ref 3] : List Value).map fun v => v.category).sum ≤ 8 ∧ (let s2 : jSt := jv_u s1 3 9 (if (iI 5) < v2 then (iI 5) else v2)
 (let s3 : jSt := jv_u s2 3 10 (iI 0)
 (let s4 : jSt := jv_u s3 3 11 (iI 0)
 (let s5 : jSt := jv_u s4 3 12 (iI 0)
 (let s6 : jSt := jv_u s5 11 3 (iI 0)
 post none s6)))))))) from ⟨Nat.le_of_ble_eq_true rfl, ⟨Nat.le_of_ble_eq_true rfl, h⟩⟩)
def vc_X7_place (d : Nat) (post : jPo) (σ : jSt) (v1 : Int32) (v2 : Int32) (v3 : Int32) (v4 : Int32) : Prop :=
 (vp_in v1 6 ∧ (let s1 : jSt := jv_u σ 4 v1.toNatClampNeg v2
 ((v3 = 0 → (vp_in v1 6 ∧ (let s2 : jSt := jv_u s1 5 v1.toNatClampNeg (iI 0)
 (vp_in v1 6 ∧ (let s3 : jSt := jv_u s2 6 v1.toNatClampNeg v4
 (vp_in v1 6 ∧ (let s4 : jSt := jv_u s3 3 10 ((s3.1 3 10) ||| ((s3.1 5 v1.toNatClampNeg) <<< (v1 &&& 31)))
 post none s4))))))) ∧
 (¬ v3 = 0 → (vp_in v1 6 ∧ (let s5 : jSt := jv_u s1 5 v1.toNatClampNeg (iI 1)
 (vp_in v1 6 ∧ (let s6 : jSt := jv_u s5 6 v1.toNatClampNeg v4
 (vp_in v1 6 ∧ (let s7 : jSt := jv_u s6 3 10 ((s6.1 3 10) ||| ((s6.1 5 v1.toNatClampNeg) <<< (v1 &&& 31)))
 post none s7))))))))))
set_option maxRecDepth 100000 in
set_option maxHeartbeats 4000000 in
theorem ok_X7_place {d : Nat} {post : jPo} {σ : jSt} {v1 : Int32} {v2 : Int32} {v3 : Int32} {v4 : Int32} (h : vc_X7_place d post σ v1 v2 v3 v4) : jv_wp (d + 1) post (37, 0, [some (.ref 3), some (.int v1), some (.int v2), some (.int v3), some (.int v4)], [], σ) := jv_go_ok 30 [] _ _ _ h
def vc_X7_possibleSorts (d : Nat) (post : jPo) (σ : jSt) (v1 : Int32) : Prop :=
 jq_I d 38 [.ref 3, .int v1] σ (fun x2 s1 =>
 jq_I d 29 [.ref 11, .int v1, .int x2, .int (s1.1 3 11)] s1 (fun x4 s3 =>
 post (some (.int x4)) s3))
set_option maxRecDepth 100000 in
set_option maxHeartbeats 4000000 in
theorem ok_X7_possibleSorts {d : Nat} {post : jPo} {σ : jSt} {v1 : Int32} (h : vc_X7_possibleSorts d post σ v1) : jv_wp (d + 1) post (44, 0, [some (.ref 3), some (.int v1)], [], σ) := jv_go_ok 10 [] _ _ _ h
def vc_X7_dayToListen (d : Nat) (post : jPo) (σ : jSt) (v1 : Int32) : Prop :=
 jq_I d 44 [.ref 3, .int v1] σ (fun x2 s1 =>
 ((¬ x2 = 0 → jq_I d 38 [.ref 3, .int v1] s1 (fun x4 s3 =>
 jv_wp (d + 1) post (45, 29, [some (.ref 3), some (.int v1), some (.int x2), some (.int x4), some (.int (iI 1023)), some (.int (iI 0)), some (.int (iI 0)), none, none], [], s3))) ∧
 (x2 = 0 → post (some (.int (iI (-1)))) s1)))
set_option maxRecDepth 100000 in
set_option maxHeartbeats 4000000 in
theorem ok_X7_dayToListen {d : Nat} {post : jPo} {σ : jSt} {v1 : Int32} (h : vc_X7_dayToListen d post σ v1) : jv_wp (d + 1) post (45, 0, [some (.ref 3), some (.int v1), none, none, none, none, none, none, none], [], σ) := jv_go_ok 17 [29] _ _ _ h
def vc_X7_dayToListen_L29 (d : Nat) (post : jPo) (σ : jSt) (v1 : Int32) (v2 : Int32) (v3 : Int32) (v4 : Int32) (v5 : Int32) (v6 : Int32) (z7 : Option Value) (z8 : Option Value) : Prop :=
 (((iI 31) < v6 → post (some (.int v5)) σ) ∧
 (¬ (iI 31) < v6 → jq_I d 4 [.int ((σ.1 3 11) + v6)] σ (fun x2 s1 =>
 jq_I d 32 [.int x2, .int v3] s1 (fun x4 s3 =>
 jq_I d 143 [.int (v2 &&& x4)] s3 (fun x6 s5 =>
 jq_I d 143 [.int (v2 &&& (x4 ^^^ (iI (-1))))] s5 (fun x8 s7 =>
 (let x9 : Int32 := (if x6 < x8 then x8 else x6)
 ((v4 ≤ x9 → (let x10 : Int32 := (v6 + (iI 1))
 jv_wp (d + 1) post (45, 29, [some (.ref 3), some (.int v1), some (.int v2), some (.int v3), some (.int v4), some (.int v5), some (.int x10), some (.int x4), some (.int x9)], [], s7))) ∧
 (¬ v4 ≤ x9 → (let x11 : Int32 := (v6 + (iI 1))
 jv_wp (d + 1) post (45, 29, [some (.ref 3), some (.int v1), some (.int v2), some (.int v3), some (.int x9), some (.int v6), some (.int x11), some (.int x4), some (.int x9)], [], s7)))))))))))
set_option maxRecDepth 100000 in
set_option maxHeartbeats 4000000 in
theorem ok_X7_dayToListen_L29 {d : Nat} {post : jPo} {σ : jSt} {v1 : Int32} {v2 : Int32} {v3 : Int32} {v4 : Int32} {v5 : Int32} {v6 : Int32} {z7 : Option Value} {z8 : Option Value} (h : vc_X7_dayToListen_L29 d post σ v1 v2 v3 v4 v5 v6 z7 z8) : jv_wp (d + 1) post (45, 29, [some (.ref 3), some (.int v1), some (.int v2), some (.int v3), some (.int v4), some (.int v5), some (.int v6), z7, z8], [], σ) := jv_go_ok 33 [29] _ _ _ (show (((iI 31) < v6 → post (some (.int v5)) σ) ∧
 (¬ (iI 31) < v6 → jq_I d 4 [.int ((σ.1 3 11) + v6)] σ (fun x2 s1 =>
 jq_I d 32 [.int x2, .int v3] s1 (fun x4 s3 =>
 jq_I d 143 [.int (v2 &&& x4)] s3 (fun x6 s5 =>
 jq_I d 143 [.int (v2 &&& (x4 ^^^ (iI (-1))))] s5 (fun x8 s7 =>
 ((([] : List Value).map fun v => v.category).sum ≤ 8 ∧ (let x9 : Int32 := (if x6 < x8 then x8 else x6)
 ((v4 ≤ x9 → (let x10 : Int32 := (v6 + (iI 1))
 jv_wp (d + 1) post (45, 29, [some (.ref 3), some (.int v1), some (.int v2), some (.int v3), some (.int v4), some (.int v5), some (.int x10), some (.int x4), some (.int x9)], [], s7))) ∧
 (¬ v4 ≤ x9 → (let x11 : Int32 := (v6 + (iI 1))
 jv_wp (d + 1) post (45, 29, [some (.ref 3), some (.int v1), some (.int v2), some (.int v3), some (.int x9), some (.int v6), some (.int x11), some (.int x4), some (.int x9)], [], s7)))))))))))) from ⟨fun c291 => ((h).1 c291), fun c291 => jq_I_con (((h).2 c291)) (fun x2 s1 h293 => jq_I_con (h293) (fun x4 s3 h294 => jq_I_con (h294) (fun x6 s5 h295 => jq_I_con (h295) (fun x8 s7 h296 => ⟨Nat.le_of_ble_eq_true rfl, h296⟩))))⟩)
def vc_X7_reopenAskedBy (d : Nat) (post : jPo) (σ : jSt) (v1 : Int32) : Prop :=
 jv_wp (d + 1) post (52, 4, [some (.ref 3), some (.int v1), some (.int (iI 0)), some (.int (iI 0))], [], σ)
set_option maxRecDepth 100000 in
set_option maxHeartbeats 4000000 in
theorem ok_X7_reopenAskedBy {d : Nat} {post : jPo} {σ : jSt} {v1 : Int32} (h : vc_X7_reopenAskedBy d post σ v1) : jv_wp (d + 1) post (52, 0, [some (.ref 3), some (.int v1), none, none], [], σ) := jv_go_ok 5 [4] _ _ _ h
def vc_X7_reopenAskedBy_L4 (d : Nat) (post : jPo) (σ : jSt) (v1 : Int32) (v2 : Int32) (v3 : Int32) : Prop :=
 (((σ.1 3 9) ≤ v3 → post (some (.int v2)) σ) ∧
 (¬ (σ.1 3 9) ≤ v3 → (vp_in v3 5 ∧ ((¬ (σ.1 7 v3.toNatClampNeg) = v1 → (let x1 : Int32 := (v3 + (iI 1))
 jv_wp (d + 1) post (52, 4, [some (.ref 3), some (.int v1), some (.int v2), some (.int x1)], [], σ))) ∧
 ((σ.1 7 v3.toNatClampNeg) = v1 → jq_I d 46 [.ref 3, .int v3] σ (fun x3 s2 =>
 ((¬ x3 = (iI 1) → (let x4 : Int32 := (v3 + (iI 1))
 jv_wp (d + 1) post (52, 4, [some (.ref 3), some (.int v1), some (.int v2), some (.int x4)], [], s2))) ∧
 (x3 = (iI 1) → (vp_in v3 5 ∧ (let s5 : jSt := jv_u s2 10 v3.toNatClampNeg (iI (-1))
 (let x6 : Int32 := (v2 + (iI 1))
 (let x7 : Int32 := (v3 + (iI 1))
 jv_wp (d + 1) post (52, 4, [some (.ref 3), some (.int v1), some (.int x6), some (.int x7)], [], s5)))))))))))))
set_option maxRecDepth 100000 in
set_option maxHeartbeats 4000000 in
theorem ok_X7_reopenAskedBy_L4 {d : Nat} {post : jPo} {σ : jSt} {v1 : Int32} {v2 : Int32} {v3 : Int32} (h : vc_X7_reopenAskedBy_L4 d post σ v1 v2 v3) : jv_wp (d + 1) post (52, 4, [some (.ref 3), some (.int v1), some (.int v2), some (.int v3)], [], σ) := jv_go_ok 24 [4] _ _ _ h
def vc_X8_letter (d : Nat) (post : jPo) (σ : jSt) (v1 : Int32) : Prop :=
 ((v1 < (iI 1) → post (some (.int (iI (-102)))) σ) ∧
 (¬ v1 < (iI 1) → ((v1 ≤ (iI 126) → jq_I d 15 [.ref 1, .int v1] σ (fun x2 s1 =>
 ((x2 = 0 → post (some (.int (iI (-104)))) s1) ∧
 (¬ x2 = 0 → post (some (.int (s1.1 1 1))) s1)))) ∧
 (¬ v1 ≤ (iI 126) → post (some (.int (iI (-102)))) σ))))
set_option maxRecDepth 100000 in
set_option maxHeartbeats 4000000 in
theorem ok_X8_letter {d : Nat} {post : jPo} {σ : jSt} {v1 : Int32} (h : vc_X8_letter d post σ v1) : jv_wp (d + 1) post (54, 0, [some (.ref 0), some (.int v1)], [], σ) := jv_go_ok 16 [] _ _ _ h
def vc_X8_blank (d : Nat) (post : jPo) (σ : jSt)  : Prop :=
 (let x1 : Int32 := (σ.1 1 1)
 (let s2 : jSt := jv_u σ 1 1 (iI 0)
 post (some (.int x1)) s2))
set_option maxRecDepth 100000 in
set_option maxHeartbeats 4000000 in
theorem ok_X8_blank {d : Nat} {post : jPo} {σ : jSt} (h : vc_X8_blank d post σ ) : jv_wp (d + 1) post (55, 0, [some (.ref 0), none], [], σ) := jv_go_ok 10 [] _ _ _ h
def vc_X8_fault (d : Nat) (post : jPo) (σ : jSt)  : Prop :=
 jq_I d 16 [.ref 1] σ (fun x2 s1 =>
 post (some (.int x2)) s1)
set_option maxRecDepth 100000 in
set_option maxHeartbeats 4000000 in
theorem ok_X8_fault {d : Nat} {post : jPo} {σ : jSt} (h : vc_X8_fault d post σ ) : jv_wp (d + 1) post (56, 0, [some (.ref 0)], [], σ) := jv_go_ok 4 [] _ _ _ h
def vc_X8_river (d : Nat) (post : jPo) (σ : jSt)  : Prop :=
 jq_I d 19 [.ref 1] σ (fun x2 s1 =>
 ((¬ x2 = 0 → jq_V d 21 [.ref 1, .ref 3] s1 (fun s3 =>
 (let s4 : jSt := jv_u s3 1 1 (iI 0)
 (let s5 : jSt := jv_u s4 15 8 (iI 0)
 (let s6 : jSt := jv_u s5 0 5 ((s5.1 0 5) + (iI 1))
 post (some (.int (s6.1 3 8))) s6))))) ∧
 (x2 = 0 → post (some (.int (iI (-103)))) s1)))
set_option maxRecDepth 100000 in
set_option maxHeartbeats 4000000 in
theorem ok_X8_river {d : Nat} {post : jPo} {σ : jSt} (h : vc_X8_river d post σ ) : jv_wp (d + 1) post (57, 0, [some (.ref 0)], [], σ) := jv_go_ok 27 [] _ _ _ h
def vc_X8_person (d : Nat) (post : jPo) (σ : jSt) (v1 : Int32) (v2 : Int32) : Prop :=
 jq_I d 34 [.ref 3, .int v1] σ (fun x2 s1 =>
 ((¬ x2 = 0 → ((v2 = (iI 0) → (vp_in v1 6 ∧ post (some (.int (s1.1 4 v1.toNatClampNeg))) s1)) ∧
 (¬ v2 = (iI 0) → ((v2 = (iI 1) → (vp_in v1 6 ∧ post (some (.int (s1.1 5 v1.toNatClampNeg))) s1)) ∧
 (¬ v2 = (iI 1) → ((v2 = (iI 2) → jq_I d 38 [.ref 3, .int v1] s1 (fun x4 s3 =>
 post (some (.int x4)) s3)) ∧
 (¬ v2 = (iI 2) → ((v2 = (iI 3) → (vp_in v1 6 ∧ post (some (.int (s1.1 6 v1.toNatClampNeg))) s1)) ∧
 (¬ v2 = (iI 3) → ((v2 = (iI 4) → jq_I d 39 [.ref 3, .int v1, .int (s1.1 3 11)] s1 (fun x6 s5 =>
 ((x6 = 0 → post (some (.int (iI 0))) s5) ∧
 (¬ x6 = 0 → post (some (.int (iI 1))) s5)))) ∧
 (¬ v2 = (iI 4) → ((v2 = (iI 5) → jq_I d 43 [.ref 3, .int v1] s1 (fun x8 s7 =>
 post (some (.int x8)) s7)) ∧
 (¬ v2 = (iI 5) → ((v2 = (iI 6) → jq_I d 44 [.ref 3, .int v1] s1 (fun x10 s9 =>
 post (some (.int x10)) s9)) ∧
 (¬ v2 = (iI 6) → ((v2 = (iI 7) → jq_I d 45 [.ref 3, .int v1] s1 (fun x12 s11 =>
 post (some (.int x12)) s11)) ∧
 (¬ v2 = (iI 7) → post (some (.int (iI (-102)))) s1))))))))))))))))) ∧
 (x2 = 0 → post (some (.int (iI (-101)))) s1)))
set_option maxRecDepth 100000 in
set_option maxHeartbeats 4000000 in
theorem ok_X8_person {d : Nat} {post : jPo} {σ : jSt} {v1 : Int32} {v2 : Int32} (h : vc_X8_person d post σ v1 v2) : jv_wp (d + 1) post (58, 0, [some (.ref 0), some (.int v1), some (.int v2)], [], σ) := jv_go_ok 18 [] _ _ _ h
def vc_X8_as (d : Nat) (post : jPo) (σ : jSt) (v1 : Int32) (v2 : Int32) : Prop :=
 jq_I d 34 [.ref 3, .int v1] σ (fun x2 s1 =>
 ((¬ x2 = 0 → ((v2 < 0 → post (some (.int (iI (-102)))) s1) ∧
 (¬ v2 < 0 → ((v2 < (iI 5) → (vp_in v1 6 ∧ jq_I d 31 [.int (s1.1 4 v1.toNatClampNeg), .int v2] s1 (fun x4 s3 =>
 ((x4 = 0 → post (some (.int (iI (-1)))) s3) ∧
 (¬ x4 = 0 → post (some (.int v1)) s3))))) ∧
 (¬ v2 < (iI 5) → post (some (.int (iI (-102)))) s1))))) ∧
 (x2 = 0 → post (some (.int (iI (-101)))) s1)))
set_option maxRecDepth 100000 in
set_option maxHeartbeats 4000000 in
theorem ok_X8_as {d : Nat} {post : jPo} {σ : jSt} {v1 : Int32} {v2 : Int32} (h : vc_X8_as d post σ v1 v2) : jv_wp (d + 1) post (59, 0, [some (.ref 0), some (.int v1), some (.int v2)], [], σ) := jv_go_ok 21 [] _ _ _ h
def vc_X8_matter (d : Nat) (post : jPo) (σ : jSt) (v1 : Int32) (v2 : Int32) : Prop :=
 jq_I d 35 [.ref 3, .int v1] σ (fun x2 s1 =>
 ((¬ x2 = 0 → ((v2 = (iI 0) → (vp_in v1 5 ∧ post (some (.int (s1.1 7 v1.toNatClampNeg))) s1)) ∧
 (¬ v2 = (iI 0) → ((v2 = (iI 1) → (vp_in v1 5 ∧ post (some (.int (s1.1 8 v1.toNatClampNeg))) s1)) ∧
 (¬ v2 = (iI 1) → ((v2 = (iI 2) → (vp_in v1 5 ∧ post (some (.int (s1.1 9 v1.toNatClampNeg))) s1)) ∧
 (¬ v2 = (iI 2) → ((v2 = (iI 3) → jq_I d 46 [.ref 3, .int v1] s1 (fun x4 s3 =>
 post (some (.int x4)) s3)) ∧
 (¬ v2 = (iI 3) → ((v2 = (iI 4) → jq_I d 48 [.ref 3, .int v1] s1 (fun x6 s5 =>
 post (some (.int x6)) s5)) ∧
 (¬ v2 = (iI 4) → ((v2 = (iI 5) → jq_I d 49 [.ref 3, .int v1] s1 (fun x8 s7 =>
 post (some (.int x8)) s7)) ∧
 (¬ v2 = (iI 5) → ((v2 = (iI 6) → jq_I d 9 [.ref 3, .int v1] s1 (fun x10 s9 =>
 post (some (.int x10)) s9)) ∧
 (¬ v2 = (iI 6) → post (some (.int (iI (-102)))) s1))))))))))))))) ∧
 (x2 = 0 → post (some (.int (iI (-101)))) s1)))
set_option maxRecDepth 100000 in
set_option maxHeartbeats 4000000 in
theorem ok_X8_matter {d : Nat} {post : jPo} {σ : jSt} {v1 : Int32} {v2 : Int32} (h : vc_X8_matter d post σ v1 v2) : jv_wp (d + 1) post (60, 0, [some (.ref 0), some (.int v1), some (.int v2)], [], σ) := jv_go_ok 13 [] _ _ _ h
def vc_X8_date (d : Nat) (post : jPo) (σ : jSt) (v1 : Int32) (v2 : Int32) : Prop :=
 ((v1 < 0 → post (some (.int (iI (-102)))) σ) ∧
 (¬ v1 < 0 → (((iI 366) < v1 → post (some (.int (iI (-102)))) σ) ∧
 (¬ (iI 366) < v1 → ((v2 < 0 → post (some (.int (iI (-102)))) σ) ∧
 (¬ v2 < 0 → ((v2 ≤ (iI 3) → jq_I d 33 [.ref 3] σ (fun x2 s1 =>
 ((¬ x2 = 0 → (let x3 : Int32 := ((s1.1 3 11) + v1)
 ((v2 = (iI 0) → jq_I d 3 [.int x3] s1 (fun x5 s4 =>
 post (some (.int x5)) s4)) ∧
 (¬ v2 = (iI 0) → ((v2 = (iI 1) → jq_I d 2 [.int x3] s1 (fun x7 s6 =>
 post (some (.int x7)) s6)) ∧
 (¬ v2 = (iI 1) → ((v2 = (iI 2) → jq_I d 1 [.int x3] s1 (fun x9 s8 =>
 post (some (.int x9)) s8)) ∧
 (¬ v2 = (iI 2) → jq_I d 41 [.ref 3, .int x3] s1 (fun x11 s10 =>
 post (some (.int x11)) s10))))))))) ∧
 (x2 = 0 → post (some (.int (iI (-103)))) s1)))) ∧
 (¬ v2 ≤ (iI 3) → post (some (.int (iI (-102)))) σ))))))))
set_option maxRecDepth 100000 in
set_option maxHeartbeats 4000000 in
theorem ok_X8_date {d : Nat} {post : jPo} {σ : jSt} {v1 : Int32} {v2 : Int32} (h : vc_X8_date d post σ v1 v2) : jv_wp (d + 1) post (61, 0, [some (.ref 0), some (.int v1), some (.int v2), none], [], σ) := jv_go_ok 27 [] _ _ _ h
def vc_X8_say (d : Nat) (post : jPo) (σ : jSt) (v1 : Int32) : Prop :=
 jq_I d 35 [.ref 3, .int v1] σ (fun x2 s1 =>
 ((¬ x2 = 0 → (vp_in v1 5 ∧ (let x3 : Int32 := (s1.1 10 v1.toNatClampNeg)
 jq_I d 41 [.ref 3, .int (s1.1 3 11)] s1 (fun x5 s4 =>
 jq_I d 50 [.ref 3, .int v1, .int x3, .int (s1.1 3 11), .int x5] s4 (fun x7 s6 =>
 ((¬ x7 = 0 → ((¬ x3 = (iI (-1)) → jq_I d 51 [.ref 3, .int v1, .int x3, .int (s6.1 3 11)] s6 (fun x9 s8 =>
 (vp_in v1 5 ∧ (let s10 : jSt := jv_u s8 10 v1.toNatClampNeg (iI (-2))
 (let s11 : jSt := jv_u s10 3 12 ((s10.1 3 12) + x9)
 post (some (.int x9)) s11))))) ∧
 (x3 = (iI (-1)) → (vp_in v1 5 ∧ (let s12 : jSt := jv_u s6 10 v1.toNatClampNeg (s6.1 3 11)
 post (some (.int (iI (-1)))) s12))))) ∧
 (x7 = 0 → post (some (.int (iI (-103)))) s6))))))) ∧
 (x2 = 0 → post (some (.int (iI (-101)))) s1)))
set_option maxRecDepth 100000 in
set_option maxHeartbeats 4000000 in
theorem ok_X8_say {d : Nat} {post : jPo} {σ : jSt} {v1 : Int32} (h : vc_X8_say d post σ v1) : jv_wp (d + 1) post (62, 0, [some (.ref 0), some (.int v1), none, none], [], σ) := jv_go_ok 53 [] _ _ _ h
def vc_X8_day (d : Nat) (post : jPo) (σ : jSt)  : Prop :=
 jq_I d 33 [.ref 3] σ (fun x2 s1 =>
 ((¬ x2 = 0 → (((s1.1 3 11) < (iI 1460) → (let s3 : jSt := jv_u s1 3 11 ((s1.1 3 11) + (iI 1))
 post (some (.int (s3.1 3 11))) s3)) ∧
 (¬ (s1.1 3 11) < (iI 1460) → post (some (.int (iI (-104)))) s1))) ∧
 (x2 = 0 → post (some (.int (iI (-103)))) s1)))
set_option maxRecDepth 100000 in
set_option maxHeartbeats 4000000 in
theorem ok_X8_day {d : Nat} {post : jPo} {σ : jSt} (h : vc_X8_day d post σ ) : jv_wp (d + 1) post (63, 0, [some (.ref 0)], [], σ) := jv_go_ok 20 [] _ _ _ h
def vc_X8_cross (d : Nat) (post : jPo) (σ : jSt) (v1 : Int32) : Prop :=
 jq_I d 34 [.ref 3, .int v1] σ (fun x2 s1 =>
 ((¬ x2 = 0 → (let s3 : jSt := jv_u s1 3 10 ((s1.1 3 10) ^^^ ((iI 1) <<< (v1 &&& 31)))
 jq_I d 52 [.ref 3, .int v1] s3 (fun x5 s4 =>
 post (some (.int x5)) s4))) ∧
 (x2 = 0 → post (some (.int (iI (-101)))) s1)))
set_option maxRecDepth 100000 in
set_option maxHeartbeats 4000000 in
theorem ok_X8_cross {d : Nat} {post : jPo} {σ : jSt} {v1 : Int32} (h : vc_X8_cross d post σ v1) : jv_wp (d + 1) post (64, 0, [some (.ref 0), some (.int v1)], [], σ) := jv_go_ok 19 [] _ _ _ h
def vc_X8_open (d : Nat) (post : jPo) (σ : jSt) (v1 : Int32) (v2 : Int32) : Prop :=
 jq_I d 35 [.ref 3, .int v1] σ (fun x2 s1 =>
 ((¬ x2 = 0 → ((v2 < (iI 1) → post (some (.int (iI (-102)))) s1) ∧
 (¬ v2 < (iI 1) → ((v2 ≤ (iI 9) → jq_I d 46 [.ref 3, .int v1] s1 (fun x4 s3 =>
 (vp_in v1 5 ∧ (let s5 : jSt := jv_u s3 10 v1.toNatClampNeg (iI (-1))
 (vp_in v1 5 ∧ (let s6 : jSt := jv_u s5 9 v1.toNatClampNeg v2
 post (some (.int x4)) s6)))))) ∧
 (¬ v2 ≤ (iI 9) → post (some (.int (iI (-102)))) s1))))) ∧
 (x2 = 0 → post (some (.int (iI (-101)))) s1)))
set_option maxRecDepth 100000 in
set_option maxHeartbeats 4000000 in
theorem ok_X8_open {d : Nat} {post : jPo} {σ : jSt} {v1 : Int32} {v2 : Int32} (h : vc_X8_open d post σ v1 v2) : jv_wp (d + 1) post (65, 0, [some (.ref 0), some (.int v1), some (.int v2), none], [], σ) := jv_go_ok 30 [] _ _ _ h
def vc_X8_change (d : Nat) (post : jPo) (σ : jSt) (v1 : Int32) (v2 : Int32) (v3 : Int32) : Prop :=
 jq_I d 34 [.ref 3, .int v1] σ (fun x2 s1 =>
 ((¬ x2 = 0 → ((v2 < 0 → post (some (.int (iI (-102)))) s1) ∧
 (¬ v2 < 0 → (((iI 5) ≤ v2 → post (some (.int (iI (-102)))) s1) ∧
 (¬ (iI 5) ≤ v2 → ((v3 < 0 → post (some (.int (iI (-102)))) s1) ∧
 (¬ v3 < 0 → ((v3 ≤ (iI 9) → (vp_in v1 6 ∧ (let x3 : Int32 := (s1.1 4 v1.toNatClampNeg)
 (vp_in v1 6 ∧ (let s4 : jSt := jv_u s1 4 v1.toNatClampNeg v2
 (vp_in v1 6 ∧ (let s5 : jSt := jv_u s4 6 v1.toNatClampNeg v3
 post (some (.int x3)) s5))))))) ∧
 (¬ v3 ≤ (iI 9) → post (some (.int (iI (-102)))) s1))))))))) ∧
 (x2 = 0 → post (some (.int (iI (-101)))) s1)))
set_option maxRecDepth 100000 in
set_option maxHeartbeats 4000000 in
theorem ok_X8_change {d : Nat} {post : jPo} {σ : jSt} {v1 : Int32} {v2 : Int32} {v3 : Int32} (h : vc_X8_change d post σ v1 v2 v3) : jv_wp (d + 1) post (66, 0, [some (.ref 0), some (.int v1), some (.int v2), some (.int v3), none], [], σ) := jv_go_ok 35 [] _ _ _ h
def vc_X8_best (d : Nat) (post : jPo) (σ : jSt) (v1 : Int32) (v2 : Int32) : Prop :=
 ((v2 = 0 → ((v1 < (iI 1) → post (some (.int (iI (-102)))) σ) ∧
 (¬ v1 < (iI 1) → (((iI 5) < v1 → post (some (.int (iI (-102)))) σ) ∧
 (¬ (iI 5) < v1 → jq_I d 33 [.ref 3] σ (fun x2 s1 =>
 ((x2 = 0 → post (some (.int (iI (-103)))) s1) ∧
 (¬ x2 = 0 → (((s1.1 0 6) < (iI 20) → (let s3 : jSt := jv_u s1 0 6 ((s1.1 0 6) + (iI 1))
 jq_V d 23 [.ref 27, .ref 3, .int v1] s3 (fun s4 =>
 ((v2 = (iI 0) → post (some (.int (s4.1 27 6))) s4) ∧
 (¬ v2 = (iI 0) → ((v2 = (iI 1) → post (some (.int (s4.1 27 7))) s4) ∧
 (¬ v2 = (iI 1) → jq_I d 24 [.ref 27, .int (v2 - (iI 10))] s4 (fun x6 s5 =>
 post (some (.int x6)) s5)))))))) ∧
 (¬ (s1.1 0 6) < (iI 20) → post (some (.int (iI (-103)))) s1)))))))))) ∧
 (¬ v2 = 0 → ((v2 = (iI 1) → ((v1 < (iI 1) → post (some (.int (iI (-102)))) σ) ∧
 (¬ v1 < (iI 1) → (((iI 5) < v1 → post (some (.int (iI (-102)))) σ) ∧
 (¬ (iI 5) < v1 → jq_I d 33 [.ref 3] σ (fun x8 s7 =>
 ((x8 = 0 → post (some (.int (iI (-103)))) s7) ∧
 (¬ x8 = 0 → (((s7.1 0 6) < (iI 20) → (let s9 : jSt := jv_u s7 0 6 ((s7.1 0 6) + (iI 1))
 jq_V d 23 [.ref 27, .ref 3, .int v1] s9 (fun s10 =>
 ((v2 = (iI 0) → post (some (.int (s10.1 27 6))) s10) ∧
 (¬ v2 = (iI 0) → ((v2 = (iI 1) → post (some (.int (s10.1 27 7))) s10) ∧
 (¬ v2 = (iI 1) → jq_I d 24 [.ref 27, .int (v2 - (iI 10))] s10 (fun x12 s11 =>
 post (some (.int x12)) s11)))))))) ∧
 (¬ (s7.1 0 6) < (iI 20) → post (some (.int (iI (-103)))) s7)))))))))) ∧
 (¬ v2 = (iI 1) → ((v2 < (iI 10) → ((v1 < (iI 1) → post (some (.int (iI (-102)))) σ) ∧
 (¬ v1 < (iI 1) → (((iI 5) < v1 → post (some (.int (iI (-102)))) σ) ∧
 (¬ (iI 5) < v1 → post (some (.int (iI (-102)))) σ))))) ∧
 (¬ v2 < (iI 10) → (((iI 15) ≤ v2 → ((v1 < (iI 1) → post (some (.int (iI (-102)))) σ) ∧
 (¬ v1 < (iI 1) → (((iI 5) < v1 → post (some (.int (iI (-102)))) σ) ∧
 (¬ (iI 5) < v1 → post (some (.int (iI (-102)))) σ))))) ∧
 (¬ (iI 15) ≤ v2 → ((v1 < (iI 1) → post (some (.int (iI (-102)))) σ) ∧
 (¬ v1 < (iI 1) → (((iI 5) < v1 → post (some (.int (iI (-102)))) σ) ∧
 (¬ (iI 5) < v1 → jq_I d 33 [.ref 3] σ (fun x26 s25 =>
 ((x26 = 0 → post (some (.int (iI (-103)))) s25) ∧
 (¬ x26 = 0 → (((s25.1 0 6) < (iI 20) → (let s27 : jSt := jv_u s25 0 6 ((s25.1 0 6) + (iI 1))
 jq_V d 23 [.ref 27, .ref 3, .int v1] s27 (fun s28 =>
 ((v2 = (iI 0) → post (some (.int (s28.1 27 6))) s28) ∧
 (¬ v2 = (iI 0) → ((v2 = (iI 1) → post (some (.int (s28.1 27 7))) s28) ∧
 (¬ v2 = (iI 1) → jq_I d 24 [.ref 27, .int (v2 - (iI 10))] s28 (fun x30 s29 =>
 post (some (.int x30)) s29)))))))) ∧
 (¬ (s25.1 0 6) < (iI 20) → post (some (.int (iI (-103)))) s25)))))))))))))))))
set_option maxRecDepth 100000 in
set_option maxHeartbeats 4000000 in
theorem ok_X8_best {d : Nat} {post : jPo} {σ : jSt} {v1 : Int32} {v2 : Int32} (h : vc_X8_best d post σ v1 v2) : jv_wp (d + 1) post (67, 0, [some (.ref 0), some (.int v1), some (.int v2), none], [], σ) := jv_go_ok 51 [] _ _ _ (show ((v2 = 0 → ((v1 < (iI 1) → post (some (.int (iI (-102)))) σ) ∧
 (¬ v1 < (iI 1) → (((iI 5) < v1 → post (some (.int (iI (-102)))) σ) ∧
 (¬ (iI 5) < v1 → ((¬ (iI 1) = 0 → jq_I d 33 [.ref 3] σ (fun x2 s1 =>
 ((x2 = 0 → post (some (.int (iI (-103)))) s1) ∧
 (¬ x2 = 0 → (((s1.1 0 6) < (iI 20) → (let s3 : jSt := jv_u s1 0 6 ((s1.1 0 6) + (iI 1))
 jq_V d 23 [.ref 27, .ref 3, .int v1] s3 (fun s4 =>
 ((v2 = (iI 0) → post (some (.int (s4.1 27 6))) s4) ∧
 (¬ v2 = (iI 0) → ((v2 = (iI 1) → post (some (.int (s4.1 27 7))) s4) ∧
 (¬ v2 = (iI 1) → jq_I d 24 [.ref 27, .int (v2 - (iI 10))] s4 (fun x6 s5 =>
 post (some (.int x6)) s5)))))))) ∧
 (¬ (s1.1 0 6) < (iI 20) → post (some (.int (iI (-103)))) s1)))))) ∧
 ((iI 1) = 0 → post (some (.int (iI (-102)))) σ))))))) ∧
 (¬ v2 = 0 → ((v2 = (iI 1) → ((v1 < (iI 1) → post (some (.int (iI (-102)))) σ) ∧
 (¬ v1 < (iI 1) → (((iI 5) < v1 → post (some (.int (iI (-102)))) σ) ∧
 (¬ (iI 5) < v1 → ((¬ (iI 1) = 0 → jq_I d 33 [.ref 3] σ (fun x8 s7 =>
 ((x8 = 0 → post (some (.int (iI (-103)))) s7) ∧
 (¬ x8 = 0 → (((s7.1 0 6) < (iI 20) → (let s9 : jSt := jv_u s7 0 6 ((s7.1 0 6) + (iI 1))
 jq_V d 23 [.ref 27, .ref 3, .int v1] s9 (fun s10 =>
 ((v2 = (iI 0) → post (some (.int (s10.1 27 6))) s10) ∧
 (¬ v2 = (iI 0) → ((v2 = (iI 1) → post (some (.int (s10.1 27 7))) s10) ∧
 (¬ v2 = (iI 1) → jq_I d 24 [.ref 27, .int (v2 - (iI 10))] s10 (fun x12 s11 =>
 post (some (.int x12)) s11)))))))) ∧
 (¬ (s7.1 0 6) < (iI 20) → post (some (.int (iI (-103)))) s7)))))) ∧
 ((iI 1) = 0 → post (some (.int (iI (-102)))) σ))))))) ∧
 (¬ v2 = (iI 1) → ((v2 < (iI 10) → ((v1 < (iI 1) → post (some (.int (iI (-102)))) σ) ∧
 (¬ v1 < (iI 1) → (((iI 5) < v1 → post (some (.int (iI (-102)))) σ) ∧
 (¬ (iI 5) < v1 → ((¬ (iI 0) = 0 → jq_I d 33 [.ref 3] σ (fun x14 s13 =>
 ((x14 = 0 → post (some (.int (iI (-103)))) s13) ∧
 (¬ x14 = 0 → (((s13.1 0 6) < (iI 20) → (let s15 : jSt := jv_u s13 0 6 ((s13.1 0 6) + (iI 1))
 jq_V d 23 [.ref 27, .ref 3, .int v1] s15 (fun s16 =>
 ((v2 = (iI 0) → post (some (.int (s16.1 27 6))) s16) ∧
 (¬ v2 = (iI 0) → ((v2 = (iI 1) → post (some (.int (s16.1 27 7))) s16) ∧
 (¬ v2 = (iI 1) → jq_I d 24 [.ref 27, .int (v2 - (iI 10))] s16 (fun x18 s17 =>
 post (some (.int x18)) s17)))))))) ∧
 (¬ (s13.1 0 6) < (iI 20) → post (some (.int (iI (-103)))) s13)))))) ∧
 ((iI 0) = 0 → post (some (.int (iI (-102)))) σ))))))) ∧
 (¬ v2 < (iI 10) → (((iI 15) ≤ v2 → ((v1 < (iI 1) → post (some (.int (iI (-102)))) σ) ∧
 (¬ v1 < (iI 1) → (((iI 5) < v1 → post (some (.int (iI (-102)))) σ) ∧
 (¬ (iI 5) < v1 → ((¬ (iI 0) = 0 → jq_I d 33 [.ref 3] σ (fun x20 s19 =>
 ((x20 = 0 → post (some (.int (iI (-103)))) s19) ∧
 (¬ x20 = 0 → (((s19.1 0 6) < (iI 20) → (let s21 : jSt := jv_u s19 0 6 ((s19.1 0 6) + (iI 1))
 jq_V d 23 [.ref 27, .ref 3, .int v1] s21 (fun s22 =>
 ((v2 = (iI 0) → post (some (.int (s22.1 27 6))) s22) ∧
 (¬ v2 = (iI 0) → ((v2 = (iI 1) → post (some (.int (s22.1 27 7))) s22) ∧
 (¬ v2 = (iI 1) → jq_I d 24 [.ref 27, .int (v2 - (iI 10))] s22 (fun x24 s23 =>
 post (some (.int x24)) s23)))))))) ∧
 (¬ (s19.1 0 6) < (iI 20) → post (some (.int (iI (-103)))) s19)))))) ∧
 ((iI 0) = 0 → post (some (.int (iI (-102)))) σ))))))) ∧
 (¬ (iI 15) ≤ v2 → ((v1 < (iI 1) → post (some (.int (iI (-102)))) σ) ∧
 (¬ v1 < (iI 1) → (((iI 5) < v1 → post (some (.int (iI (-102)))) σ) ∧
 (¬ (iI 5) < v1 → ((¬ (iI 1) = 0 → jq_I d 33 [.ref 3] σ (fun x26 s25 =>
 ((x26 = 0 → post (some (.int (iI (-103)))) s25) ∧
 (¬ x26 = 0 → (((s25.1 0 6) < (iI 20) → (let s27 : jSt := jv_u s25 0 6 ((s25.1 0 6) + (iI 1))
 jq_V d 23 [.ref 27, .ref 3, .int v1] s27 (fun s28 =>
 ((v2 = (iI 0) → post (some (.int (s28.1 27 6))) s28) ∧
 (¬ v2 = (iI 0) → ((v2 = (iI 1) → post (some (.int (s28.1 27 7))) s28) ∧
 (¬ v2 = (iI 1) → jq_I d 24 [.ref 27, .int (v2 - (iI 10))] s28 (fun x30 s29 =>
 post (some (.int x30)) s29)))))))) ∧
 (¬ (s25.1 0 6) < (iI 20) → post (some (.int (iI (-103)))) s25)))))) ∧
 ((iI 1) = 0 → post (some (.int (iI (-102)))) σ)))))))))))))) from ⟨fun c299 => ⟨fun c300 => ((((h).1 c299)).1 c300), fun c300 => ⟨fun c302 => ((((((h).1 c299)).2 c300)).1 c302), fun c302 => ⟨fun _ => ((((((h).1 c299)).2 c300)).2 c302), fun q => absurd q (by decide +kernel)⟩⟩⟩, fun c299 => ⟨fun c306 => ⟨fun c307 => ((((((h).2 c299)).1 c306)).1 c307), fun c307 => ⟨fun c309 => ((((((((h).2 c299)).1 c306)).2 c307)).1 c309), fun c309 => ⟨fun _ => ((((((((h).2 c299)).1 c306)).2 c307)).2 c309), fun q => absurd q (by decide +kernel)⟩⟩⟩, fun c306 => ⟨fun c313 => ⟨fun c314 => ((((((((h).2 c299)).2 c306)).1 c313)).1 c314), fun c314 => ⟨fun c316 => ((((((((((h).2 c299)).2 c306)).1 c313)).2 c314)).1 c316), fun c316 => ⟨fun q => absurd q (by decide +kernel), fun _ => ((((((((((h).2 c299)).2 c306)).1 c313)).2 c314)).2 c316)⟩⟩⟩, fun c313 => ⟨fun c320 => ⟨fun c321 => ((((((((((h).2 c299)).2 c306)).2 c313)).1 c320)).1 c321), fun c321 => ⟨fun c323 => ((((((((((((h).2 c299)).2 c306)).2 c313)).1 c320)).2 c321)).1 c323), fun c323 => ⟨fun q => absurd q (by decide +kernel), fun _ => ((((((((((((h).2 c299)).2 c306)).2 c313)).1 c320)).2 c321)).2 c323)⟩⟩⟩, fun c320 => ⟨fun c327 => ((((((((((h).2 c299)).2 c306)).2 c313)).2 c320)).1 c327), fun c327 => ⟨fun c329 => ((((((((((((h).2 c299)).2 c306)).2 c313)).2 c320)).2 c327)).1 c329), fun c329 => ⟨fun _ => ((((((((((((h).2 c299)).2 c306)).2 c313)).2 c320)).2 c327)).2 c329), fun q => absurd q (by decide +kernel)⟩⟩⟩⟩⟩⟩⟩)
def vc_X8_live (d : Nat) (post : jPo) (σ : jSt) (v1 : Int32) : Prop :=
 ((v1 < 0 → post (some (.int (iI (-102)))) σ) ∧
 (¬ v1 < 0 → ((v1 ≤ (iI 1) → jq_I d 33 [.ref 3] σ (fun x2 s1 =>
 ((¬ x2 = 0 → jq_I d 10 [.ref 3] s1 (fun x4 s3 =>
 ((¬ v1 = 0 → post (some (.int x4)) s3) ∧
 (v1 = 0 → jq_I d 11 [.ref 3, .int x4] s3 (fun x6 s5 =>
 post (some (.int x6)) s5))))) ∧
 (x2 = 0 → post (some (.int (iI (-103)))) s1)))) ∧
 (¬ v1 ≤ (iI 1) → post (some (.int (iI (-102)))) σ))))
set_option maxRecDepth 100000 in
set_option maxHeartbeats 4000000 in
theorem ok_X8_live {d : Nat} {post : jPo} {σ : jSt} {v1 : Int32} (h : vc_X8_live d post σ v1) : jv_wp (d + 1) post (68, 0, [some (.ref 0), some (.int v1), none], [], σ) := jv_go_ok 21 [] _ _ _ h
def vc_X8_fog (d : Nat) (post : jPo) (σ : jSt) (v1 : Int32) (v2 : Int32) (v3 : Int32) (v4 : Int32) : Prop :=
 jq_I d 35 [.ref 3, .int v1] σ (fun x2 s1 =>
 ((¬ x2 = 0 → ((v2 < (iI 1) → post (some (.int (iI (-102)))) s1) ∧
 (¬ v2 < (iI 1) → (((iI 8) < v2 → post (some (.int (iI (-102)))) s1) ∧
 (¬ (iI 8) < v2 → ((v3 < 0 → post (some (.int (iI (-102)))) s1) ∧
 (¬ v3 < 0 → (((iI 10) < v3 → post (some (.int (iI (-102)))) s1) ∧
 (¬ (iI 10) < v3 → ((v4 < 0 → post (some (.int (iI (-102)))) s1) ∧
 (¬ v4 < 0 → ((v4 ≤ (iI 1) → (vp_in v1 5 ∧ ((¬ (s1.1 10 v1.toNatClampNeg) = (iI (-2)) → jq_I d 13 [.ref 3, .int v1, .int v2, .int v3] s1 (fun x4 s3 =>
 ((¬ v4 = 0 → jq_I d 14 [.int x4, .int v2, .int (iI 0)] s3 (fun x6 s5 =>
 post (some (.int x6)) s5)) ∧
 (v4 = 0 → jq_I d 14 [.int x4, .int v2, .int (iI 1)] s3 (fun x8 s7 =>
 post (some (.int x8)) s7))))) ∧
 ((s1.1 10 v1.toNatClampNeg) = (iI (-2)) → post (some (.int (iI (-103)))) s1)))) ∧
 (¬ v4 ≤ (iI 1) → post (some (.int (iI (-102)))) s1))))))))))))) ∧
 (x2 = 0 → post (some (.int (iI (-101)))) s1)))
set_option maxRecDepth 100000 in
set_option maxHeartbeats 4000000 in
theorem ok_X8_fog {d : Nat} {post : jPo} {σ : jSt} {v1 : Int32} {v2 : Int32} {v3 : Int32} {v4 : Int32} (h : vc_X8_fog d post σ v1 v2 v3 v4) : jv_wp (d + 1) post (69, 0, [some (.ref 0), some (.int v1), some (.int v2), some (.int v3), some (.int v4), none], [], σ) := jv_go_ok 43 [] _ _ _ h
def vc_X8_see (d : Nat) (post : jPo) (σ : jSt) (v1 : Int32) (v2 : Int32) (v3 : Int32) : Prop :=
 jq_I d 34 [.ref 3, .int v1] σ (fun x2 s1 =>
 ((¬ x2 = 0 → ((v2 < 0 → post (some (.int (iI (-102)))) s1) ∧
 (¬ v2 < 0 → ((v2 ≤ (iI 31) → jq_I d 28 [.ref 11, .int v1, .int v2, .int v3] s1 (fun x4 s3 =>
 ((x4 = 0 → post (some (.int (iI (-104)))) s3) ∧
 (¬ x4 = 0 → post (some (.int (s3.1 11 3))) s3)))) ∧
 (¬ v2 ≤ (iI 31) → post (some (.int (iI (-102)))) s1))))) ∧
 (x2 = 0 → post (some (.int (iI (-101)))) s1)))
set_option maxRecDepth 100000 in
set_option maxHeartbeats 4000000 in
theorem ok_X8_see {d : Nat} {post : jPo} {σ : jSt} {v1 : Int32} {v2 : Int32} {v3 : Int32} (h : vc_X8_see d post σ v1 v2 v3) : jv_wp (d + 1) post (70, 0, [some (.ref 0), some (.int v1), some (.int v2), some (.int v3)], [], σ) := jv_go_ok 24 [] _ _ _ h
def vc_X8_forget (d : Nat) (post : jPo) (σ : jSt)  : Prop :=
 (let x1 : Int32 := (σ.1 11 3)
 (let s2 : jSt := jv_u σ 11 3 (iI 0)
 post (some (.int x1)) s2))
set_option maxRecDepth 100000 in
set_option maxHeartbeats 4000000 in
theorem ok_X8_forget {d : Nat} {post : jPo} {σ : jSt} (h : vc_X8_forget d post σ ) : jv_wp (d + 1) post (71, 0, [some (.ref 0), none], [], σ) := jv_go_ok 12 [] _ _ _ h
def vc_X8_years (d : Nat) (post : jPo) (σ : jSt) (v1 : Int32) (v2 : Int32) (v3 : Int32) : Prop :=
 ((v1 < (iI 1) → post (some (.int (iI (-102)))) σ) ∧
 (¬ v1 < (iI 1) → (((iI 60) < v1 → post (some (.int (iI (-102)))) σ) ∧
 (¬ (iI 60) < v1 → ((v2 < 0 → post (some (.int (iI (-102)))) σ) ∧
 (¬ v2 < 0 → ((v3 < 0 → post (some (.int (iI (-102)))) σ) ∧
 (¬ v3 < 0 → ((v3 ≤ (iI 2) → jq_I d 33 [.ref 3] σ (fun x2 s1 =>
 ((¬ x2 = 0 → jq_V d 6 [.ref 32, .ref 3, .int v1, .int v2] s1 (fun s3 =>
 ((v3 = (iI 0) → post (some (.int (s3.1 32 1))) s3) ∧
 (¬ v3 = (iI 0) → ((v3 = (iI 1) → post (some (.int (s3.1 32 2))) s3) ∧
 (¬ v3 = (iI 1) → post (some (.int (s3.1 32 3))) s3)))))) ∧
 (x2 = 0 → post (some (.int (iI (-103)))) s1)))) ∧
 (¬ v3 ≤ (iI 2) → post (some (.int (iI (-102)))) σ))))))))))
set_option maxRecDepth 100000 in
set_option maxHeartbeats 4000000 in
theorem ok_X8_years {d : Nat} {post : jPo} {σ : jSt} {v1 : Int32} {v2 : Int32} {v3 : Int32} (h : vc_X8_years d post σ v1 v2 v3) : jv_wp (d + 1) post (72, 0, [some (.ref 0), some (.int v1), some (.int v2), some (.int v3)], [], σ) := jv_go_ok 30 [] _ _ _ h
def vc_X8_image (d : Nat) (post : jPo) (σ : jSt)  : Prop :=
 jq_I d 33 [.ref 3] σ (fun x2 s1 =>
 ((¬ x2 = 0 → jq_V d 53 [.ref 15, .ref 3] s1 (fun s3 =>
 post (some (.int (s3.1 3 11))) s3)) ∧
 (x2 = 0 → post (some (.int (iI (-103)))) s1)))
set_option maxRecDepth 100000 in
set_option maxHeartbeats 4000000 in
theorem ok_X8_image {d : Nat} {post : jPo} {σ : jSt} (h : vc_X8_image d post σ ) : jv_wp (d + 1) post (73, 0, [some (.ref 0)], [], σ) := jv_go_ok 13 [] _ _ _ h
def vc_X8_restore (d : Nat) (post : jPo) (σ : jSt)  : Prop :=
 jq_I d 33 [.ref 15] σ (fun x2 s1 =>
 ((¬ x2 = 0 → jq_V d 53 [.ref 3, .ref 15] s1 (fun s3 =>
 post (some (.int (s3.1 3 11))) s3)) ∧
 (x2 = 0 → post (some (.int (iI (-103)))) s1)))
set_option maxRecDepth 100000 in
set_option maxHeartbeats 4000000 in
theorem ok_X8_restore {d : Nat} {post : jPo} {σ : jSt} (h : vc_X8_restore d post σ ) : jv_wp (d + 1) post (74, 0, [some (.ref 0)], [], σ) := jv_go_ok 13 [] _ _ _ h
def vc_X8_count (d : Nat) (post : jPo) (σ : jSt) (v1 : Int32) : Prop :=
 ((v1 = (iI 0) → post (some (.int (σ.1 3 8))) σ) ∧
 (¬ v1 = (iI 0) → ((v1 = (iI 1) → post (some (.int (σ.1 3 9))) σ) ∧
 (¬ v1 = (iI 1) → ((v1 = (iI 2) → post (some (.int (σ.1 3 11))) σ) ∧
 (¬ v1 = (iI 2) → ((v1 = (iI 3) → jq_I d 41 [.ref 3, .int (σ.1 3 11)] σ (fun x2 s1 =>
 jq_I d 143 [.int x2] s1 (fun x4 s3 =>
 post (some (.int x4)) s3))) ∧
 (¬ v1 = (iI 3) → ((v1 = (iI 4) → jq_I d 143 [.int (σ.1 3 10)] σ (fun x6 s5 =>
 post (some (.int x6)) s5)) ∧
 (¬ v1 = (iI 4) → ((v1 = (iI 5) → jq_I d 47 [.ref 3, .int (iI 1)] σ (fun x8 s7 =>
 post (some (.int x8)) s7)) ∧
 (¬ v1 = (iI 5) → ((v1 = (iI 6) → jq_I d 47 [.ref 3, .int (iI 2)] σ (fun x10 s9 =>
 post (some (.int x10)) s9)) ∧
 (¬ v1 = (iI 6) → ((v1 = (iI 7) → post (some (.int (σ.1 3 12))) σ) ∧
 (¬ v1 = (iI 7) → ((v1 = (iI 8) → post (some (.int (σ.1 11 3))) σ) ∧
 (¬ v1 = (iI 8) → ((v1 = (iI 9) → post (some (.int (σ.1 1 1))) σ) ∧
 (¬ v1 = (iI 9) → ((v1 = (iI 10) → post (some (.int (σ.1 0 5))) σ) ∧
 (¬ v1 = (iI 10) → ((v1 = (iI 11) → post (some (.int (σ.1 0 6))) σ) ∧
 (¬ v1 = (iI 11) → post (some (.int (iI (-102)))) σ))))))))))))))))))))))))
set_option maxRecDepth 100000 in
set_option maxHeartbeats 4000000 in
theorem ok_X8_count {d : Nat} {post : jPo} {σ : jSt} {v1 : Int32} (h : vc_X8_count d post σ v1) : jv_wp (d + 1) post (75, 0, [some (.ref 0), some (.int v1)], [], σ) := jv_go_ok 10 [] _ _ _ h
def vc_X8_digest (d : Nat) (post : jPo) (σ : jSt)  : Prop :=
 (let x1 : Int64 := (Int64.ofNat 1279)
 jv_wp (d + 1) post (76, 6, [some (.ref 0), some (.long x1), none, some (.int (iI 0)), none], [], σ))
set_option maxRecDepth 100000 in
set_option maxHeartbeats 4000000 in
theorem ok_X8_digest {d : Nat} {post : jPo} {σ : jSt} (h : vc_X8_digest d post σ ) : jv_wp (d + 1) post (76, 0, [some (.ref 0), none, none, none, none], [], σ) := jv_go_ok 5 [6, 20, 56, 70, 148, 184] _ _ _ h
def vc_X8_digest_L6 (d : Nat) (post : jPo) (σ : jSt) (w1 : Int64) (v3 : Int32) (z4 : Option Value) : Prop :=
 (((σ.1 3 8) ≤ v3 → jv_wp (d + 1) post (76, 56, [some (.ref 0), some (.long w1), none, some (.int (iI 0)), z4], [], σ)) ∧
 (¬ (σ.1 3 8) ≤ v3 → jv_wp (d + 1) post (76, 20, [some (.ref 0), some (.long w1), none, some (.int v3), some (.int (iI 0))], [], σ)))
set_option maxRecDepth 100000 in
set_option maxHeartbeats 4000000 in
theorem ok_X8_digest_L6 {d : Nat} {post : jPo} {σ : jSt} {w1 : Int64} {v3 : Int32} {z4 : Option Value} (h : vc_X8_digest_L6 d post σ w1 v3 z4) : jv_wp (d + 1) post (76, 6, [some (.ref 0), some (.long w1), none, some (.int v3), z4], [], σ) := jv_go_ok 8 [6, 20, 56, 70, 148, 184] _ _ _ h
def vc_X8_digest_L20 (d : Nat) (post : jPo) (σ : jSt) (w1 : Int64) (v3 : Int32) (v4 : Int32) : Prop :=
 (((iI 7) < v4 → (let x1 : Int32 := (v3 + (iI 1))
 jv_wp (d + 1) post (76, 6, [some (.ref 0), some (.long w1), none, some (.int x1), some (.int v4)], [], σ))) ∧
 (¬ (iI 7) < v4 → jq_I d 58 [.ref 0, .int v3, .int v4] σ (fun x3 s2 =>
 (let x4 : Int64 := (((Int64.ofNat 31) * w1) + (x3).toInt64)
 (let x5 : Int32 := (v4 + (iI 1))
 jv_wp (d + 1) post (76, 20, [some (.ref 0), some (.long x4), none, some (.int v3), some (.int x5)], [], s2))))))
set_option maxRecDepth 100000 in
set_option maxHeartbeats 4000000 in
theorem ok_X8_digest_L20 {d : Nat} {post : jPo} {σ : jSt} {w1 : Int64} {v3 : Int32} {v4 : Int32} (h : vc_X8_digest_L20 d post σ w1 v3 v4) : jv_wp (d + 1) post (76, 20, [some (.ref 0), some (.long w1), none, some (.int v3), some (.int v4)], [], σ) := jv_go_ok 16 [6, 20, 56, 70, 148, 184] _ _ _ h
def vc_X8_digest_L56 (d : Nat) (post : jPo) (σ : jSt) (w1 : Int64) (v3 : Int32) (z4 : Option Value) : Prop :=
 (((σ.1 3 9) ≤ v3 → jq_I d 33 [.ref 3] σ (fun x2 s1 =>
 ((x2 = 0 → jv_wp (d + 1) post (76, 148, [some (.ref 0), some (.long w1), none, some (.int (iI 0)), z4], [], s1)) ∧
 (¬ x2 = 0 → jq_L d 77 [.ref 0, .long w1] s1 (fun x4 s3 =>
 jq_I d 68 [.ref 0, .int (iI 0)] s3 (fun x6 s5 =>
 (let x7 : Int64 := (((Int64.ofNat 31) * x4) + (x6).toInt64)
 jq_I d 68 [.ref 0, .int (iI 1)] s5 (fun x9 s8 =>
 (let x10 : Int64 := (((Int64.ofNat 31) * x7) + (x9).toInt64)
 jv_wp (d + 1) post (76, 148, [some (.ref 0), some (.long x10), none, some (.int (iI 0)), z4], [], s8)))))))))) ∧
 (¬ (σ.1 3 9) ≤ v3 → jv_wp (d + 1) post (76, 70, [some (.ref 0), some (.long w1), none, some (.int v3), some (.int (iI 0))], [], σ)))
set_option maxRecDepth 100000 in
set_option maxHeartbeats 4000000 in
theorem ok_X8_digest_L56 {d : Nat} {post : jPo} {σ : jSt} {w1 : Int64} {v3 : Int32} {z4 : Option Value} (h : vc_X8_digest_L56 d post σ w1 v3 z4) : jv_wp (d + 1) post (76, 56, [some (.ref 0), some (.long w1), none, some (.int v3), z4], [], σ) := jv_go_ok 34 [6, 20, 56, 70, 148, 184] _ _ _ h
def vc_X8_digest_L70 (d : Nat) (post : jPo) (σ : jSt) (w1 : Int64) (v3 : Int32) (v4 : Int32) : Prop :=
 (((iI 6) < v4 → (let x1 : Int32 := (v3 + (iI 1))
 jv_wp (d + 1) post (76, 56, [some (.ref 0), some (.long w1), none, some (.int x1), some (.int v4)], [], σ))) ∧
 (¬ (iI 6) < v4 → jq_I d 60 [.ref 0, .int v3, .int v4] σ (fun x3 s2 =>
 (let x4 : Int64 := (((Int64.ofNat 31) * w1) + (x3).toInt64)
 (let x5 : Int32 := (v4 + (iI 1))
 jv_wp (d + 1) post (76, 70, [some (.ref 0), some (.long x4), none, some (.int v3), some (.int x5)], [], s2))))))
set_option maxRecDepth 100000 in
set_option maxHeartbeats 4000000 in
theorem ok_X8_digest_L70 {d : Nat} {post : jPo} {σ : jSt} {w1 : Int64} {v3 : Int32} {v4 : Int32} (h : vc_X8_digest_L70 d post σ w1 v3 v4) : jv_wp (d + 1) post (76, 70, [some (.ref 0), some (.long w1), none, some (.int v3), some (.int v4)], [], σ) := jv_go_ok 16 [6, 20, 56, 70, 148, 184] _ _ _ h
def vc_X8_digest_L148 (d : Nat) (post : jPo) (σ : jSt) (w1 : Int64) (v3 : Int32) (z4 : Option Value) : Prop :=
 (((σ.1 1 1) ≤ v3 → jv_wp (d + 1) post (76, 184, [some (.ref 0), some (.long w1), none, some (.int (iI 0)), z4], [], σ)) ∧
 (¬ (σ.1 1 1) ≤ v3 → (vp_in v3 44 ∧ (let x1 : Int64 := (((Int64.ofNat 31) * w1) + ((σ.1 2 v3.toNatClampNeg)).toInt64)
 (let x2 : Int32 := (v3 + (iI 1))
 jv_wp (d + 1) post (76, 148, [some (.ref 0), some (.long x1), none, some (.int x2), z4], [], σ))))))
set_option maxRecDepth 100000 in
set_option maxHeartbeats 4000000 in
theorem ok_X8_digest_L148 {d : Nat} {post : jPo} {σ : jSt} {w1 : Int64} {v3 : Int32} {z4 : Option Value} (h : vc_X8_digest_L148 d post σ w1 v3 z4) : jv_wp (d + 1) post (76, 148, [some (.ref 0), some (.long w1), none, some (.int v3), z4], [], σ) := jv_go_ok 19 [6, 20, 56, 70, 148, 184] _ _ _ h
def vc_X8_digest_L184 (d : Nat) (post : jPo) (σ : jSt) (w1 : Int64) (v3 : Int32) (z4 : Option Value) : Prop :=
 (((iI 11) < v3 → post (some (.long w1)) σ) ∧
 (¬ (iI 11) < v3 → jq_I d 75 [.ref 0, .int v3] σ (fun x2 s1 =>
 (let x3 : Int64 := (((Int64.ofNat 31) * w1) + (x2).toInt64)
 (let x4 : Int32 := (v3 + (iI 1))
 jv_wp (d + 1) post (76, 184, [some (.ref 0), some (.long x3), none, some (.int x4), z4], [], s1))))))
set_option maxRecDepth 100000 in
set_option maxHeartbeats 4000000 in
theorem ok_X8_digest_L184 {d : Nat} {post : jPo} {σ : jSt} {w1 : Int64} {v3 : Int32} {z4 : Option Value} (h : vc_X8_digest_L184 d post σ w1 v3 z4) : jv_wp (d + 1) post (76, 184, [some (.ref 0), some (.long w1), none, some (.int v3), z4], [], σ) := jv_go_ok 15 [6, 20, 56, 70, 148, 184] _ _ _ h
def vc_X8_withDates (d : Nat) (post : jPo) (σ : jSt) (w1 : Int64) : Prop :=
 jv_wp (d + 1) post (77, 5, [some (.ref 0), some (.long w1), none, some (.long w1), none, some (.int (iI 0)), none], [], σ)
set_option maxRecDepth 100000 in
set_option maxHeartbeats 4000000 in
theorem ok_X8_withDates {d : Nat} {post : jPo} {σ : jSt} {w1 : Int64} (h : vc_X8_withDates d post σ w1) : jv_wp (d + 1) post (77, 0, [some (.ref 0), some (.long w1), none, none, none, none, none], [], σ) := jv_go_ok 5 [5, 15] _ _ _ h
def vc_X8_withDates_L5 (d : Nat) (post : jPo) (σ : jSt) (w1 : Int64) (w3 : Int64) (v5 : Int32) (z6 : Option Value) : Prop :=
 (((iI 40) < v5 → post (some (.long w3)) σ) ∧
 (¬ (iI 40) < v5 → jv_wp (d + 1) post (77, 15, [some (.ref 0), some (.long w1), none, some (.long w3), none, some (.int v5), some (.int (iI 0))], [], σ)))
set_option maxRecDepth 100000 in
set_option maxHeartbeats 4000000 in
theorem ok_X8_withDates_L5 {d : Nat} {post : jPo} {σ : jSt} {w1 : Int64} {w3 : Int64} {v5 : Int32} {z6 : Option Value} (h : vc_X8_withDates_L5 d post σ w1 w3 v5 z6) : jv_wp (d + 1) post (77, 5, [some (.ref 0), some (.long w1), none, some (.long w3), none, some (.int v5), z6], [], σ) := jv_go_ok 6 [5, 15] _ _ _ h
def vc_X8_withDates_L15 (d : Nat) (post : jPo) (σ : jSt) (w1 : Int64) (w3 : Int64) (v5 : Int32) (v6 : Int32) : Prop :=
 (((iI 3) < v6 → (let x1 : Int32 := (v5 + (iI 40))
 jv_wp (d + 1) post (77, 5, [some (.ref 0), some (.long w1), none, some (.long w3), none, some (.int x1), some (.int v6)], [], σ))) ∧
 (¬ (iI 3) < v6 → jq_I d 61 [.ref 0, .int v5, .int v6] σ (fun x3 s2 =>
 (let x4 : Int64 := (((Int64.ofNat 31) * w3) + (x3).toInt64)
 (let x5 : Int32 := (v6 + (iI 1))
 jv_wp (d + 1) post (77, 15, [some (.ref 0), some (.long w1), none, some (.long x4), none, some (.int v5), some (.int x5)], [], s2))))))
set_option maxRecDepth 100000 in
set_option maxHeartbeats 4000000 in
theorem ok_X8_withDates_L15 {d : Nat} {post : jPo} {σ : jSt} {w1 : Int64} {w3 : Int64} {v5 : Int32} {v6 : Int32} (h : vc_X8_withDates_L15 d post σ w1 w3 v5 v6) : jv_wp (d + 1) post (77, 15, [some (.ref 0), some (.long w1), none, some (.long w3), none, some (.int v5), some (.int v6)], [], σ) := jv_go_ok 16 [5, 15] _ _ _ h
def vc_X7_hasRiver_k (d : Nat) (post : jPo) (σ : jSt)  : Prop :=
 (((σ.1 15 8) ≤ 0 → post (some (.int (iI 0))) σ) ∧
 (¬ (σ.1 15 8) ≤ 0 → post (some (.int (iI 1))) σ))
set_option maxRecDepth 100000 in
set_option maxHeartbeats 4000000 in
theorem ok_X7_hasRiver_k {d : Nat} {post : jPo} {σ : jSt} (h : vc_X7_hasRiver_k d post σ ) : jv_wp (d + 1) post (33, 0, [some (.ref 15)], [], σ) := jv_go_ok 6 [] _ _ _ (show (((σ.1 15 8) ≤ 0 → (((iI 0) = 0 ∨ (iI 0) = 1) ∧ post (some (.int (iI 0))) σ)) ∧
 (¬ (σ.1 15 8) ≤ 0 → (((iI 1) = 0 ∨ (iI 1) = 1) ∧ post (some (.int (iI 1))) σ))) from ⟨fun c333 => ⟨by decide +kernel, ((h).1 c333)⟩, fun c333 => ⟨by decide +kernel, ((h).2 c333)⟩⟩)
def vc_X7_copyFrom_k (d : Nat) (post : jPo) (σ : jSt)  : Prop :=
 (let s1 : jSt := jv_a σ 16 (va_cpy (σ.1 4) (σ.1 16) (iI 0).toNatClampNeg (iI 0).toNatClampNeg (iI 6).toNatClampNeg)
 (let s2 : jSt := jv_a s1 17 (va_cpy (s1.1 5) (s1.1 17) (iI 0).toNatClampNeg (iI 0).toNatClampNeg (iI 6).toNatClampNeg)
 (let s3 : jSt := jv_a s2 18 (va_cpy (s2.1 6) (s2.1 18) (iI 0).toNatClampNeg (iI 0).toNatClampNeg (iI 6).toNatClampNeg)
 (let s4 : jSt := jv_a s3 19 (va_cpy (s3.1 7) (s3.1 19) (iI 0).toNatClampNeg (iI 0).toNatClampNeg (iI 5).toNatClampNeg)
 (let s5 : jSt := jv_a s4 20 (va_cpy (s4.1 8) (s4.1 20) (iI 0).toNatClampNeg (iI 0).toNatClampNeg (iI 5).toNatClampNeg)
 (let s6 : jSt := jv_a s5 21 (va_cpy (s5.1 9) (s5.1 21) (iI 0).toNatClampNeg (iI 0).toNatClampNeg (iI 5).toNatClampNeg)
 (let s7 : jSt := jv_a s6 22 (va_cpy (s6.1 10) (s6.1 22) (iI 0).toNatClampNeg (iI 0).toNatClampNeg (iI 5).toNatClampNeg)
 jq_V d 30 [.ref 23, .ref 11] s7 (fun s8 =>
 (let s9 : jSt := jv_u s8 15 8 (s8.1 3 8)
 (let s10 : jSt := jv_u s9 15 9 (s9.1 3 9)
 (let s11 : jSt := jv_u s10 15 10 (s10.1 3 10)
 (let s12 : jSt := jv_u s11 15 11 (s11.1 3 11)
 (let s13 : jSt := jv_u s12 15 12 (s12.1 3 12)
 post none s13)))))))))))))
set_option maxRecDepth 100000 in
set_option maxHeartbeats 4000000 in
theorem ok_X7_copyFrom_k {d : Nat} {post : jPo} {σ : jSt} (h : vc_X7_copyFrom_k d post σ ) : jv_wp (d + 1) post (53, 0, [some (.ref 15), some (.ref 3)], [], σ) := jv_go_ok 82 [] _ _ _ (show ((¬ (iI 0) < 0 ∧ ¬ (iI 0) < 0 ∧ ¬ (iI 6) < 0 ∧ (iI 0).toNatClampNeg + (iI 6).toNatClampNeg ≤ 6 ∧ (iI 0).toNatClampNeg + (iI 6).toNatClampNeg ≤ 6 ∧ (([] : List Value).map fun v => v.category).sum ≤ 8) ∧ (let s1 : jSt := jv_a σ 16 (va_cpy (σ.1 4) (σ.1 16) (iI 0).toNatClampNeg (iI 0).toNatClampNeg (iI 6).toNatClampNeg)
 ((¬ (iI 0) < 0 ∧ ¬ (iI 0) < 0 ∧ ¬ (iI 6) < 0 ∧ (iI 0).toNatClampNeg + (iI 6).toNatClampNeg ≤ 6 ∧ (iI 0).toNatClampNeg + (iI 6).toNatClampNeg ≤ 6 ∧ (([] : List Value).map fun v => v.category).sum ≤ 8) ∧ (let s2 : jSt := jv_a s1 17 (va_cpy (s1.1 5) (s1.1 17) (iI 0).toNatClampNeg (iI 0).toNatClampNeg (iI 6).toNatClampNeg)
 ((¬ (iI 0) < 0 ∧ ¬ (iI 0) < 0 ∧ ¬ (iI 6) < 0 ∧ (iI 0).toNatClampNeg + (iI 6).toNatClampNeg ≤ 6 ∧ (iI 0).toNatClampNeg + (iI 6).toNatClampNeg ≤ 6 ∧ (([] : List Value).map fun v => v.category).sum ≤ 8) ∧ (let s3 : jSt := jv_a s2 18 (va_cpy (s2.1 6) (s2.1 18) (iI 0).toNatClampNeg (iI 0).toNatClampNeg (iI 6).toNatClampNeg)
 ((¬ (iI 0) < 0 ∧ ¬ (iI 0) < 0 ∧ ¬ (iI 5) < 0 ∧ (iI 0).toNatClampNeg + (iI 5).toNatClampNeg ≤ 5 ∧ (iI 0).toNatClampNeg + (iI 5).toNatClampNeg ≤ 5 ∧ (([] : List Value).map fun v => v.category).sum ≤ 8) ∧ (let s4 : jSt := jv_a s3 19 (va_cpy (s3.1 7) (s3.1 19) (iI 0).toNatClampNeg (iI 0).toNatClampNeg (iI 5).toNatClampNeg)
 ((¬ (iI 0) < 0 ∧ ¬ (iI 0) < 0 ∧ ¬ (iI 5) < 0 ∧ (iI 0).toNatClampNeg + (iI 5).toNatClampNeg ≤ 5 ∧ (iI 0).toNatClampNeg + (iI 5).toNatClampNeg ≤ 5 ∧ (([] : List Value).map fun v => v.category).sum ≤ 8) ∧ (let s5 : jSt := jv_a s4 20 (va_cpy (s4.1 8) (s4.1 20) (iI 0).toNatClampNeg (iI 0).toNatClampNeg (iI 5).toNatClampNeg)
 ((¬ (iI 0) < 0 ∧ ¬ (iI 0) < 0 ∧ ¬ (iI 5) < 0 ∧ (iI 0).toNatClampNeg + (iI 5).toNatClampNeg ≤ 5 ∧ (iI 0).toNatClampNeg + (iI 5).toNatClampNeg ≤ 5 ∧ (([] : List Value).map fun v => v.category).sum ≤ 8) ∧ (let s6 : jSt := jv_a s5 21 (va_cpy (s5.1 9) (s5.1 21) (iI 0).toNatClampNeg (iI 0).toNatClampNeg (iI 5).toNatClampNeg)
 ((¬ (iI 0) < 0 ∧ ¬ (iI 0) < 0 ∧ ¬ (iI 5) < 0 ∧ (iI 0).toNatClampNeg + (iI 5).toNatClampNeg ≤ 5 ∧ (iI 0).toNatClampNeg + (iI 5).toNatClampNeg ≤ 5 ∧ (([] : List Value).map fun v => v.category).sum ≤ 8) ∧ (let s7 : jSt := jv_a s6 22 (va_cpy (s6.1 10) (s6.1 22) (iI 0).toNatClampNeg (iI 0).toNatClampNeg (iI 5).toNatClampNeg)
 jq_V d 30 [.ref 23, .ref 11] s7 (fun s8 =>
 (let s9 : jSt := jv_u s8 15 8 (s8.1 3 8)
 (let s10 : jSt := jv_u s9 15 9 (s9.1 3 9)
 (let s11 : jSt := jv_u s10 15 10 (s10.1 3 10)
 (let s12 : jSt := jv_u s11 15 11 (s11.1 3 11)
 (let s13 : jSt := jv_u s12 15 12 (s12.1 3 12)
 post none s13)))))))))))))))))))) from ⟨⟨by decide +kernel, by decide +kernel, by decide +kernel, by decide +kernel, by decide +kernel, Nat.le_of_ble_eq_true rfl⟩, ⟨⟨by decide +kernel, by decide +kernel, by decide +kernel, by decide +kernel, by decide +kernel, Nat.le_of_ble_eq_true rfl⟩, ⟨⟨by decide +kernel, by decide +kernel, by decide +kernel, by decide +kernel, by decide +kernel, Nat.le_of_ble_eq_true rfl⟩, ⟨⟨by decide +kernel, by decide +kernel, by decide +kernel, by decide +kernel, by decide +kernel, Nat.le_of_ble_eq_true rfl⟩, ⟨⟨by decide +kernel, by decide +kernel, by decide +kernel, by decide +kernel, by decide +kernel, Nat.le_of_ble_eq_true rfl⟩, ⟨⟨by decide +kernel, by decide +kernel, by decide +kernel, by decide +kernel, by decide +kernel, Nat.le_of_ble_eq_true rfl⟩, ⟨⟨by decide +kernel, by decide +kernel, by decide +kernel, by decide +kernel, by decide +kernel, Nat.le_of_ble_eq_true rfl⟩, h⟩⟩⟩⟩⟩⟩⟩)
def vc_X7_copyFrom_r (d : Nat) (post : jPo) (σ : jSt)  : Prop :=
 (let s1 : jSt := jv_a σ 4 (va_cpy (σ.1 16) (σ.1 4) (iI 0).toNatClampNeg (iI 0).toNatClampNeg (iI 6).toNatClampNeg)
 (let s2 : jSt := jv_a s1 5 (va_cpy (s1.1 17) (s1.1 5) (iI 0).toNatClampNeg (iI 0).toNatClampNeg (iI 6).toNatClampNeg)
 (let s3 : jSt := jv_a s2 6 (va_cpy (s2.1 18) (s2.1 6) (iI 0).toNatClampNeg (iI 0).toNatClampNeg (iI 6).toNatClampNeg)
 (let s4 : jSt := jv_a s3 7 (va_cpy (s3.1 19) (s3.1 7) (iI 0).toNatClampNeg (iI 0).toNatClampNeg (iI 5).toNatClampNeg)
 (let s5 : jSt := jv_a s4 8 (va_cpy (s4.1 20) (s4.1 8) (iI 0).toNatClampNeg (iI 0).toNatClampNeg (iI 5).toNatClampNeg)
 (let s6 : jSt := jv_a s5 9 (va_cpy (s5.1 21) (s5.1 9) (iI 0).toNatClampNeg (iI 0).toNatClampNeg (iI 5).toNatClampNeg)
 (let s7 : jSt := jv_a s6 10 (va_cpy (s6.1 22) (s6.1 10) (iI 0).toNatClampNeg (iI 0).toNatClampNeg (iI 5).toNatClampNeg)
 jq_V d 30 [.ref 11, .ref 23] s7 (fun s8 =>
 (let s9 : jSt := jv_u s8 3 8 (s8.1 15 8)
 (let s10 : jSt := jv_u s9 3 9 (s9.1 15 9)
 (let s11 : jSt := jv_u s10 3 10 (s10.1 15 10)
 (let s12 : jSt := jv_u s11 3 11 (s11.1 15 11)
 (let s13 : jSt := jv_u s12 3 12 (s12.1 15 12)
 post none s13)))))))))))))
set_option maxRecDepth 100000 in
set_option maxHeartbeats 4000000 in
theorem ok_X7_copyFrom_r {d : Nat} {post : jPo} {σ : jSt} (h : vc_X7_copyFrom_r d post σ ) : jv_wp (d + 1) post (53, 0, [some (.ref 3), some (.ref 15)], [], σ) := jv_go_ok 82 [] _ _ _ (show ((¬ (iI 0) < 0 ∧ ¬ (iI 0) < 0 ∧ ¬ (iI 6) < 0 ∧ (iI 0).toNatClampNeg + (iI 6).toNatClampNeg ≤ 6 ∧ (iI 0).toNatClampNeg + (iI 6).toNatClampNeg ≤ 6 ∧ (([] : List Value).map fun v => v.category).sum ≤ 8) ∧ (let s1 : jSt := jv_a σ 4 (va_cpy (σ.1 16) (σ.1 4) (iI 0).toNatClampNeg (iI 0).toNatClampNeg (iI 6).toNatClampNeg)
 ((¬ (iI 0) < 0 ∧ ¬ (iI 0) < 0 ∧ ¬ (iI 6) < 0 ∧ (iI 0).toNatClampNeg + (iI 6).toNatClampNeg ≤ 6 ∧ (iI 0).toNatClampNeg + (iI 6).toNatClampNeg ≤ 6 ∧ (([] : List Value).map fun v => v.category).sum ≤ 8) ∧ (let s2 : jSt := jv_a s1 5 (va_cpy (s1.1 17) (s1.1 5) (iI 0).toNatClampNeg (iI 0).toNatClampNeg (iI 6).toNatClampNeg)
 ((¬ (iI 0) < 0 ∧ ¬ (iI 0) < 0 ∧ ¬ (iI 6) < 0 ∧ (iI 0).toNatClampNeg + (iI 6).toNatClampNeg ≤ 6 ∧ (iI 0).toNatClampNeg + (iI 6).toNatClampNeg ≤ 6 ∧ (([] : List Value).map fun v => v.category).sum ≤ 8) ∧ (let s3 : jSt := jv_a s2 6 (va_cpy (s2.1 18) (s2.1 6) (iI 0).toNatClampNeg (iI 0).toNatClampNeg (iI 6).toNatClampNeg)
 ((¬ (iI 0) < 0 ∧ ¬ (iI 0) < 0 ∧ ¬ (iI 5) < 0 ∧ (iI 0).toNatClampNeg + (iI 5).toNatClampNeg ≤ 5 ∧ (iI 0).toNatClampNeg + (iI 5).toNatClampNeg ≤ 5 ∧ (([] : List Value).map fun v => v.category).sum ≤ 8) ∧ (let s4 : jSt := jv_a s3 7 (va_cpy (s3.1 19) (s3.1 7) (iI 0).toNatClampNeg (iI 0).toNatClampNeg (iI 5).toNatClampNeg)
 ((¬ (iI 0) < 0 ∧ ¬ (iI 0) < 0 ∧ ¬ (iI 5) < 0 ∧ (iI 0).toNatClampNeg + (iI 5).toNatClampNeg ≤ 5 ∧ (iI 0).toNatClampNeg + (iI 5).toNatClampNeg ≤ 5 ∧ (([] : List Value).map fun v => v.category).sum ≤ 8) ∧ (let s5 : jSt := jv_a s4 8 (va_cpy (s4.1 20) (s4.1 8) (iI 0).toNatClampNeg (iI 0).toNatClampNeg (iI 5).toNatClampNeg)
 ((¬ (iI 0) < 0 ∧ ¬ (iI 0) < 0 ∧ ¬ (iI 5) < 0 ∧ (iI 0).toNatClampNeg + (iI 5).toNatClampNeg ≤ 5 ∧ (iI 0).toNatClampNeg + (iI 5).toNatClampNeg ≤ 5 ∧ (([] : List Value).map fun v => v.category).sum ≤ 8) ∧ (let s6 : jSt := jv_a s5 9 (va_cpy (s5.1 21) (s5.1 9) (iI 0).toNatClampNeg (iI 0).toNatClampNeg (iI 5).toNatClampNeg)
 ((¬ (iI 0) < 0 ∧ ¬ (iI 0) < 0 ∧ ¬ (iI 5) < 0 ∧ (iI 0).toNatClampNeg + (iI 5).toNatClampNeg ≤ 5 ∧ (iI 0).toNatClampNeg + (iI 5).toNatClampNeg ≤ 5 ∧ (([] : List Value).map fun v => v.category).sum ≤ 8) ∧ (let s7 : jSt := jv_a s6 10 (va_cpy (s6.1 22) (s6.1 10) (iI 0).toNatClampNeg (iI 0).toNatClampNeg (iI 5).toNatClampNeg)
 jq_V d 30 [.ref 11, .ref 23] s7 (fun s8 =>
 (let s9 : jSt := jv_u s8 3 8 (s8.1 15 8)
 (let s10 : jSt := jv_u s9 3 9 (s9.1 15 9)
 (let s11 : jSt := jv_u s10 3 10 (s10.1 15 10)
 (let s12 : jSt := jv_u s11 3 11 (s11.1 15 11)
 (let s13 : jSt := jv_u s12 3 12 (s12.1 15 12)
 post none s13)))))))))))))))))))) from ⟨⟨by decide +kernel, by decide +kernel, by decide +kernel, by decide +kernel, by decide +kernel, Nat.le_of_ble_eq_true rfl⟩, ⟨⟨by decide +kernel, by decide +kernel, by decide +kernel, by decide +kernel, by decide +kernel, Nat.le_of_ble_eq_true rfl⟩, ⟨⟨by decide +kernel, by decide +kernel, by decide +kernel, by decide +kernel, by decide +kernel, Nat.le_of_ble_eq_true rfl⟩, ⟨⟨by decide +kernel, by decide +kernel, by decide +kernel, by decide +kernel, by decide +kernel, Nat.le_of_ble_eq_true rfl⟩, ⟨⟨by decide +kernel, by decide +kernel, by decide +kernel, by decide +kernel, by decide +kernel, Nat.le_of_ble_eq_true rfl⟩, ⟨⟨by decide +kernel, by decide +kernel, by decide +kernel, by decide +kernel, by decide +kernel, Nat.le_of_ble_eq_true rfl⟩, ⟨⟨by decide +kernel, by decide +kernel, by decide +kernel, by decide +kernel, by decide +kernel, Nat.le_of_ble_eq_true rfl⟩, h⟩⟩⟩⟩⟩⟩⟩)
def vc_X5_copyFrom_k (d : Nat) (post : jPo) (σ : jSt)  : Prop :=
 (let s1 : jSt := jv_u σ 23 3 (σ.1 11 3)
 jv_wp (d + 1) post (30, 10, [some (.ref 23), some (.ref 11), some (.int (iI 0))], [], s1))
set_option maxRecDepth 100000 in
set_option maxHeartbeats 4000000 in
theorem ok_X5_copyFrom_k {d : Nat} {post : jPo} {σ : jSt} (h : vc_X5_copyFrom_k d post σ ) : jv_wp (d + 1) post (30, 0, [some (.ref 23), some (.ref 11), none], [], σ) := jv_go_ok 7 [10] _ _ _ h
def vc_X5_copyFrom_k_L10 (d : Nat) (post : jPo) (σ : jSt) (v2 : Int32) : Prop :=
 (((iI 6) ≤ v2 → post none σ) ∧
 (¬ (iI 6) ≤ v2 → (vp_in v2 6 ∧ (vp_in v2 6 ∧ (let s1 : jSt := jv_u σ 24 v2.toNatClampNeg (σ.1 12 v2.toNatClampNeg)
 (vp_in v2 6 ∧ (vp_in v2 6 ∧ (let s2 : jSt := jv_u s1 25 v2.toNatClampNeg (s1.1 13 v2.toNatClampNeg)
 (vp_in v2 6 ∧ (vp_in v2 6 ∧ (((s2.1 14 v2.toNatClampNeg) = 0 ∨ (s2.1 14 v2.toNatClampNeg) = 1) ∧ (let s3 : jSt := jv_u s2 26 v2.toNatClampNeg (s2.1 14 v2.toNatClampNeg)
 (let x4 : Int32 := (v2 + (iI 1))
 jv_wp (d + 1) post (30, 10, [some (.ref 23), some (.ref 11), some (.int x4)], [], s3))))))))))))))
set_option maxRecDepth 100000 in
set_option maxHeartbeats 4000000 in
theorem ok_X5_copyFrom_k_L10 {d : Nat} {post : jPo} {σ : jSt} {v2 : Int32} (h : vc_X5_copyFrom_k_L10 d post σ v2) : jv_wp (d + 1) post (30, 10, [some (.ref 23), some (.ref 11), some (.int v2)], [], σ) := jv_go_ok 30 [10] _ _ _ h
def vc_X5_copyFrom_r (d : Nat) (post : jPo) (σ : jSt)  : Prop :=
 (let s1 : jSt := jv_u σ 11 3 (σ.1 23 3)
 jv_wp (d + 1) post (30, 10, [some (.ref 11), some (.ref 23), some (.int (iI 0))], [], s1))
set_option maxRecDepth 100000 in
set_option maxHeartbeats 4000000 in
theorem ok_X5_copyFrom_r {d : Nat} {post : jPo} {σ : jSt} (h : vc_X5_copyFrom_r d post σ ) : jv_wp (d + 1) post (30, 0, [some (.ref 11), some (.ref 23), none], [], σ) := jv_go_ok 7 [10] _ _ _ h
def vc_X5_copyFrom_r_L10 (d : Nat) (post : jPo) (σ : jSt) (v2 : Int32) : Prop :=
 (((iI 6) ≤ v2 → post none σ) ∧
 (¬ (iI 6) ≤ v2 → (vp_in v2 6 ∧ (vp_in v2 6 ∧ (let s1 : jSt := jv_u σ 12 v2.toNatClampNeg (σ.1 24 v2.toNatClampNeg)
 (vp_in v2 6 ∧ (vp_in v2 6 ∧ (let s2 : jSt := jv_u s1 13 v2.toNatClampNeg (s1.1 25 v2.toNatClampNeg)
 (vp_in v2 6 ∧ (vp_in v2 6 ∧ (((s2.1 26 v2.toNatClampNeg) = 0 ∨ (s2.1 26 v2.toNatClampNeg) = 1) ∧ (let s3 : jSt := jv_u s2 14 v2.toNatClampNeg (s2.1 26 v2.toNatClampNeg)
 (let x4 : Int32 := (v2 + (iI 1))
 jv_wp (d + 1) post (30, 10, [some (.ref 11), some (.ref 23), some (.int x4)], [], s3))))))))))))))
set_option maxRecDepth 100000 in
set_option maxHeartbeats 4000000 in
theorem ok_X5_copyFrom_r_L10 {d : Nat} {post : jPo} {σ : jSt} {v2 : Int32} (h : vc_X5_copyFrom_r_L10 d post σ v2) : jv_wp (d + 1) post (30, 10, [some (.ref 11), some (.ref 23), some (.int v2)], [], σ) := jv_go_ok 30 [10] _ _ _ h
def vc_J0_indexOf (d : Nat) (post : jPo) (σ : jSt) (v1 : Int32) : Prop :=
 jq_I d 145 [.ref 58, .int v1, .int (iI 0)] σ (fun x2 s1 =>
 post (some (.int x2)) s1)
set_option maxRecDepth 100000 in
set_option maxHeartbeats 4000000 in
theorem ok_J0_indexOf {d : Nat} {post : jPo} {σ : jSt} {v1 : Int32} (h : vc_J0_indexOf d post σ v1) : jv_wp (d + 1) post (144, 0, [some (.ref 58), some (.int v1)], [], σ) := jv_go_ok 5 [] _ _ _ h
def vc_J0_indexOf2 (d : Nat) (post : jPo) (σ : jSt) (v1 : Int32) (v2 : Int32) : Prop :=
 jq_I d 146 [.ref 58] σ (fun x2 s1 =>
 ((x2 = 0 → jq_I d 147 [.ref 58] s1 (fun x4 s3 =>
 False)) ∧
 (¬ x2 = 0 → jq_I d 147 [.ref 58] s1 (fun x6 s5 =>
 jq_I d 149 [.ref 59, .int v1, .int v2, .int x6] s5 (fun x8 s7 =>
 post (some (.int x8)) s7)))))
set_option maxRecDepth 100000 in
set_option maxHeartbeats 4000000 in
theorem ok_J0_indexOf2 {d : Nat} {post : jPo} {σ : jSt} {v1 : Int32} {v2 : Int32} (h : vc_J0_indexOf2 d post σ v1 v2) : jv_wp (d + 1) post (145, 0, [some (.ref 58), some (.int v1), some (.int v2)], [], σ) := jv_go_ok 12 [] _ _ _ h
def vc_J0_isLatin1 (d : Nat) (post : jPo) (σ : jSt)  : Prop :=
 post (some (.int (iI 1))) σ
set_option maxRecDepth 100000 in
set_option maxHeartbeats 4000000 in
theorem ok_J0_isLatin1 {d : Nat} {post : jPo} {σ : jSt} (h : vc_J0_isLatin1 d post σ ) : jv_wp (d + 1) post (146, 0, [some (.ref 58)], [], σ) := jv_go_ok 8 [] _ _ _ (show ((1 = 0 → (((iI 0) = 0 ∨ (iI 0) = 1) ∧ post (some (.int (iI 0))) σ)) ∧
 (¬ 1 = 0 → ((¬ 0 = 0 → (((iI 0) = 0 ∨ (iI 0) = 1) ∧ post (some (.int (iI 0))) σ)) ∧
 (0 = 0 → (((iI 1) = 0 ∨ (iI 1) = 1) ∧ post (some (.int (iI 1))) σ))))) from ⟨fun q => absurd q (by decide +kernel), fun _ => ⟨fun q => absurd q (by decide +kernel), fun _ => ⟨by decide +kernel, h⟩⟩⟩)
def vc_J0_length (d : Nat) (post : jPo) (σ : jSt)  : Prop :=
 jq_I d 148 [.ref 58] σ (fun x2 s1 =>
 post (some (.int ((Int32.ofNat 5) >>> (x2 &&& 31)))) s1)
set_option maxRecDepth 100000 in
set_option maxHeartbeats 4000000 in
theorem ok_J0_length {d : Nat} {post : jPo} {σ : jSt} (h : vc_J0_length d post σ ) : jv_wp (d + 1) post (147, 0, [some (.ref 58)], [], σ) := jv_go_ok 7 [] _ _ _ h
def vc_J0_coder (d : Nat) (post : jPo) (σ : jSt)  : Prop :=
 post (some (.int 0)) σ
set_option maxRecDepth 100000 in
set_option maxHeartbeats 4000000 in
theorem ok_J0_coder {d : Nat} {post : jPo} {σ : jSt} (h : vc_J0_coder d post σ ) : jv_wp (d + 1) post (148, 0, [some (.ref 58)], [], σ) := jv_go_ok 6 [] _ _ _ (show ((1 = 0 → ((iI 1) = 0 ∧ post (some (.int (iI 1))) σ)) ∧
 (¬ 1 = 0 → (0 = 0 ∧ post (some (.int 0)) σ))) from ⟨fun q => absurd q (by decide +kernel), fun _ => ⟨by decide +kernel, h⟩⟩)
def vc_J1_indexOf (d : Nat) (post : jPo) (σ : jSt) (v1 : Int32) (v2 : Int32) (v3 : Int32) : Prop :=
 jq_I d 151 [.int v1] σ (fun x2 s1 =>
 ((¬ x2 = 0 → (let x3 : Int32 := (if v2 < (iI 0) then (iI 0) else v2)
 (let x4 : Int32 := (if (Int32.ofNat 5) < v3 then (Int32.ofNat 5) else v3)
 ((x3 < x4 → jq_I d 150 [.ref 59, .int v1, .int x3, .int x4] s1 (fun x6 s5 =>
 post (some (.int x6)) s5)) ∧
 (¬ x3 < x4 → post (some (.int (iI (-1)))) s1))))) ∧
 (x2 = 0 → post (some (.int (iI (-1)))) s1)))
set_option maxRecDepth 100000 in
set_option maxHeartbeats 4000000 in
theorem ok_J1_indexOf {d : Nat} {post : jPo} {σ : jSt} {v1 : Int32} {v2 : Int32} {v3 : Int32} (h : vc_J1_indexOf d post σ v1 v2 v3) : jv_wp (d + 1) post (149, 0, [some (.ref 59), some (.int v1), some (.int v2), some (.int v3)], [], σ) := jv_go_ok 21 [] _ _ _ (show jq_I d 151 [.int v1] σ (fun x2 s1 =>
 ((¬ x2 = 0 → ((([] : List Value).map fun v => v.category).sum ≤ 8 ∧ (let x3 : Int32 := (if v2 < (iI 0) then (iI 0) else v2)
 ((([] : List Value).map fun v => v.category).sum ≤ 8 ∧ (let x4 : Int32 := (if (Int32.ofNat 5) < v3 then (Int32.ofNat 5) else v3)
 ((x3 < x4 → jq_I d 150 [.ref 59, .int v1, .int x3, .int x4] s1 (fun x6 s5 =>
 post (some (.int x6)) s5)) ∧
 (¬ x3 < x4 → post (some (.int (iI (-1)))) s1))))))) ∧
 (x2 = 0 → post (some (.int (iI (-1)))) s1))) from jq_I_con (h) (fun x2 s1 h373 => ⟨fun c374 => ⟨Nat.le_of_ble_eq_true rfl, ⟨Nat.le_of_ble_eq_true rfl, ((h373).1 c374)⟩⟩, fun c374 => ((h373).2 c374)⟩))
def vc_J1_indexOfChar (d : Nat) (post : jPo) (σ : jSt) (v1 : Int32) (v2 : Int32) (v3 : Int32) : Prop :=
 (let x1 : Int32 := (v1).toInt8.toInt32
 jv_wp (d + 1) post (150, 7, [some (.ref 59), some (.int v1), some (.int v2), some (.int v3), some (.int x1), some (.int v2)], [], σ))
set_option maxRecDepth 100000 in
set_option maxHeartbeats 4000000 in
theorem ok_J1_indexOfChar {d : Nat} {post : jPo} {σ : jSt} {v1 : Int32} {v2 : Int32} {v3 : Int32} (h : vc_J1_indexOfChar d post σ v1 v2 v3) : jv_wp (d + 1) post (150, 0, [some (.ref 59), some (.int v1), some (.int v2), some (.int v3), none, none], [], σ) := jv_go_ok 6 [7] _ _ _ h
def vc_J1_indexOfChar_L7 (d : Nat) (post : jPo) (σ : jSt) (v1 : Int32) (v2 : Int32) (v3 : Int32) (v4 : Int32) (v5 : Int32) : Prop :=
 ((v3 ≤ v5 → post (some (.int (iI (-1)))) σ) ∧
 (¬ v3 ≤ v5 → (vp_in v5 5 ∧ ((¬ (jv_byt v5.toNatClampNeg) = v4 → (let x1 : Int32 := (v5 + (iI 1))
 jv_wp (d + 1) post (150, 7, [some (.ref 59), some (.int v1), some (.int v2), some (.int v3), some (.int v4), some (.int x1)], [], σ))) ∧
 ((jv_byt v5.toNatClampNeg) = v4 → post (some (.int v5)) σ)))))
set_option maxRecDepth 100000 in
set_option maxHeartbeats 4000000 in
theorem ok_J1_indexOfChar_L7 {d : Nat} {post : jPo} {σ : jSt} {v1 : Int32} {v2 : Int32} {v3 : Int32} {v4 : Int32} {v5 : Int32} (h : vc_J1_indexOfChar_L7 d post σ v1 v2 v3 v4 v5) : jv_wp (d + 1) post (150, 7, [some (.ref 59), some (.int v1), some (.int v2), some (.int v3), some (.int v4), some (.int v5)], [], σ) := jv_go_ok 11 [7] _ _ _ h
def vc_J1_canEncode (d : Nat) (post : jPo) (σ : jSt) (v0 : Int32) : Prop :=
 ((v0 < 0 → post (some (.int (iI 0))) σ) ∧
 (¬ v0 < 0 → (((iI 255) < v0 → post (some (.int (iI 0))) σ) ∧
 (¬ (iI 255) < v0 → post (some (.int (iI 1))) σ))))
set_option maxRecDepth 100000 in
set_option maxHeartbeats 4000000 in
theorem ok_J1_canEncode {d : Nat} {post : jPo} {σ : jSt} {v0 : Int32} (h : vc_J1_canEncode d post σ v0) : jv_wp (d + 1) post (151, 0, [some (.int v0)], [], σ) := jv_go_ok 8 [] _ _ _ (show ((v0 < 0 → (((iI 0) = 0 ∨ (iI 0) = 1) ∧ post (some (.int (iI 0))) σ)) ∧
 (¬ v0 < 0 → (((iI 255) < v0 → (((iI 0) = 0 ∨ (iI 0) = 1) ∧ post (some (.int (iI 0))) σ)) ∧
 (¬ (iI 255) < v0 → (((iI 1) = 0 ∨ (iI 1) = 1) ∧ post (some (.int (iI 1))) σ))))) from ⟨fun c380 => ⟨by decide +kernel, ((h).1 c380)⟩, fun c380 => ⟨fun c383 => ⟨by decide +kernel, ((((h).2 c380)).1 c383)⟩, fun c383 => ⟨by decide +kernel, ((((h).2 c380)).2 c383)⟩⟩⟩)
end
section
/-! formulas of the reference's methods and of the law (printed) -/
def vc_X9_in (d : Nat) (post : jPo) (σ : jSt) (w0 : Int64) (w2 : Int64) (w4 : Int64) : Prop :=
 (((lg_cmp w0 w2) < 0 → post (some (.int (iI 0))) σ) ∧
 (¬ (lg_cmp w0 w2) < 0 → ((0 < (lg_cmp w0 w4) → post (some (.int (iI 0))) σ) ∧
 (¬ 0 < (lg_cmp w0 w4) → post (some (.int (iI 1))) σ))))
set_option maxRecDepth 100000 in
set_option maxHeartbeats 4000000 in
theorem ok_X9_in {d : Nat} {post : jPo} {σ : jSt} {w0 : Int64} {w2 : Int64} {w4 : Int64} (h : vc_X9_in d post σ w0 w2 w4) : jv_wp (d + 1) post (78, 0, [some (.long w0), none, some (.long w2), none, some (.long w4), none], [], σ) := jv_go_ok 11 [] _ _ _ (show (((lg_cmp w0 w2) < 0 → (((iI 0) = 0 ∨ (iI 0) = 1) ∧ post (some (.int (iI 0))) σ)) ∧
 (¬ (lg_cmp w0 w2) < 0 → ((0 < (lg_cmp w0 w4) → (((iI 0) = 0 ∨ (iI 0) = 1) ∧ post (some (.int (iI 0))) σ)) ∧
 (¬ 0 < (lg_cmp w0 w4) → (((iI 1) = 0 ∨ (iI 1) = 1) ∧ post (some (.int (iI 1))) σ))))) from ⟨fun c1 => ⟨by decide +kernel, ((h).1 c1)⟩, fun c1 => ⟨fun c4 => ⟨by decide +kernel, ((((h).2 c1)).1 c4)⟩, fun c4 => ⟨by decide +kernel, ((((h).2 c1)).2 c4)⟩⟩⟩)
def vc_X9_letter (d : Nat) (post : jPo) (σ : jSt) (v1 : Int32) : Prop :=
 jq_I d 78 [.long (v1).toInt64, .long (Int64.ofNat 1), .long (Int64.ofNat 126)] σ (fun x2 s1 =>
 ((¬ x2 = 0 → ((¬ (s1.1 34 1) = (iI 44) → (vp_in (s1.1 34 1) 44 ∧ (let s3 : jSt := jv_u s1 35 (s1.1 34 1).toNatClampNeg v1
 (let s4 : jSt := jv_u s3 34 1 ((s3.1 34 1) + (iI 1))
 post (some (.int (s4.1 34 1))) s4)))) ∧
 ((s1.1 34 1) = (iI 44) → post (some (.int (iI (-104)))) s1))) ∧
 (x2 = 0 → post (some (.int (iI (-102)))) s1)))
set_option maxRecDepth 100000 in
set_option maxHeartbeats 4000000 in
theorem ok_X9_letter {d : Nat} {post : jPo} {σ : jSt} {v1 : Int32} (h : vc_X9_letter d post σ v1) : jv_wp (d + 1) post (80, 0, [some (.ref 34), some (.int v1)], [], σ) := jv_go_ok 25 [] _ _ _ h
def vc_X9_blank (d : Nat) (post : jPo) (σ : jSt)  : Prop :=
 (let x1 : Int32 := (σ.1 34 1)
 (let s2 : jSt := jv_u σ 34 1 (iI 0)
 post (some (.int x1)) s2))
set_option maxRecDepth 100000 in
set_option maxHeartbeats 4000000 in
theorem ok_X9_blank {d : Nat} {post : jPo} {σ : jSt} (h : vc_X9_blank d post σ ) : jv_wp (d + 1) post (81, 0, [some (.ref 34), none], [], σ) := jv_go_ok 8 [] _ _ _ h
def vc_X9_kindBy (d : Nat) (post : jPo) (σ : jSt) (v0 : Int32) : Prop :=
 ((v0 = (iI 100) → post (some (.int (iI 3))) σ) ∧
 (¬ v0 = (iI 100) → ((v0 = (iI 102) → post (some (.int (iI 4))) σ) ∧
 (¬ v0 = (iI 102) → ((v0 = (iI 109) → post (some (.int (iI 1))) σ) ∧
 (¬ v0 = (iI 109) → ((v0 = (iI 112) → post (some (.int (iI 0))) σ) ∧
 (¬ v0 = (iI 112) → ((v0 = (iI 116) → post (some (.int (iI 2))) σ) ∧
 (¬ v0 = (iI 116) → post (some (.int (iI (-1)))) σ))))))))))
set_option maxRecDepth 100000 in
set_option maxHeartbeats 4000000 in
theorem ok_X9_kindBy {d : Nat} {post : jPo} {σ : jSt} {v0 : Int32} (h : vc_X9_kindBy d post σ v0) : jv_wp (d + 1) post (82, 0, [some (.int v0)], [], σ) := jv_go_ok 4 [] _ _ _ h
def vc_X9_isPersonLetter (d : Nat) (post : jPo) (σ : jSt) (v1 : Int32) : Prop :=
 (vp_in v1 44 ∧ (let x1 : Int32 := (σ.1 35 v1.toNatClampNeg)
 (((v1 - v1 / (iI 4) * (iI 4)) = (iI 0) → jq_I d 82 [.int x1] σ (fun x3 s2 =>
 ((x3 = (iI (-1)) → post (some (.int (iI 0))) s2) ∧
 (¬ x3 = (iI (-1)) → post (some (.int (iI 1))) s2)))) ∧
 (¬ (v1 - v1 / (iI 4) * (iI 4)) = (iI 0) → (((v1 - v1 / (iI 4) * (iI 4)) = (iI 1) → ((x1 = (iI 108) → post (some (.int (iI 1))) σ) ∧
 (¬ x1 = (iI 108) → ((¬ x1 = (iI 114) → post (some (.int (iI 0))) σ) ∧
 (x1 = (iI 114) → post (some (.int (iI 1))) σ))))) ∧
 (¬ (v1 - v1 / (iI 4) * (iI 4)) = (iI 1) → (((v1 - v1 / (iI 4) * (iI 4)) = (iI 2) → jq_I d 78 [.long (x1).toInt64, .long (Int64.ofNat 48), .long (Int64.ofNat 57)] σ (fun x5 s4 =>
 ((x5 = 0 ∨ x5 = 1) ∧ post (some (.int x5)) s4))) ∧
 (¬ (v1 - v1 / (iI 4) * (iI 4)) = (iI 2) → ((¬ x1 = (iI 59) → ((¬ x1 = (iI 44) → post (some (.int (iI 0))) σ) ∧
 (x1 = (iI 44) → (((iI 23) ≤ v1 → post (some (.int (iI 0))) σ) ∧
 (¬ (iI 23) ≤ v1 → post (some (.int (iI 1))) σ))))) ∧
 (x1 = (iI 59) → ((v1 ≤ (iI 3) → ((¬ x1 = (iI 44) → post (some (.int (iI 0))) σ) ∧
 (x1 = (iI 44) → (((iI 23) ≤ v1 → post (some (.int (iI 0))) σ) ∧
 (¬ (iI 23) ≤ v1 → post (some (.int (iI 1))) σ))))) ∧
 (¬ v1 ≤ (iI 3) → (let s6 : jSt := jv_u σ 34 2 v1
 post (some (.int (iI 1))) s6)))))))))))))
set_option maxRecDepth 100000 in
set_option maxHeartbeats 4000000 in
theorem ok_X9_isPersonLetter {d : Nat} {post : jPo} {σ : jSt} {v1 : Int32} (h : vc_X9_isPersonLetter d post σ v1) : jv_wp (d + 1) post (83, 0, [some (.ref 34), some (.int v1), none], [], σ) := jv_go_ok 24 [] _ _ _ (show (vp_in v1 44 ∧ (let x1 : Int32 := (σ.1 35 v1.toNatClampNeg)
 (¬ (iI 4) = 0 ∧ (((v1 - v1 / (iI 4) * (iI 4)) = (iI 0) → jq_I d 82 [.int x1] σ (fun x3 s2 =>
 ((x3 = (iI (-1)) → (((iI 0) = 0 ∨ (iI 0) = 1) ∧ post (some (.int (iI 0))) s2)) ∧
 (¬ x3 = (iI (-1)) → (((iI 1) = 0 ∨ (iI 1) = 1) ∧ post (some (.int (iI 1))) s2))))) ∧
 (¬ (v1 - v1 / (iI 4) * (iI 4)) = (iI 0) → (((v1 - v1 / (iI 4) * (iI 4)) = (iI 1) → ((x1 = (iI 108) → (((iI 1) = 0 ∨ (iI 1) = 1) ∧ post (some (.int (iI 1))) σ)) ∧
 (¬ x1 = (iI 108) → ((¬ x1 = (iI 114) → (((iI 0) = 0 ∨ (iI 0) = 1) ∧ post (some (.int (iI 0))) σ)) ∧
 (x1 = (iI 114) → (((iI 1) = 0 ∨ (iI 1) = 1) ∧ post (some (.int (iI 1))) σ)))))) ∧
 (¬ (v1 - v1 / (iI 4) * (iI 4)) = (iI 1) → (((v1 - v1 / (iI 4) * (iI 4)) = (iI 2) → jq_I d 78 [.long (x1).toInt64, .long (Int64.ofNat 48), .long (Int64.ofNat 57)] σ (fun x5 s4 =>
 ((x5 = 0 ∨ x5 = 1) ∧ post (some (.int x5)) s4))) ∧
 (¬ (v1 - v1 / (iI 4) * (iI 4)) = (iI 2) → ((¬ x1 = (iI 59) → ((¬ x1 = (iI 44) → (((iI 0) = 0 ∨ (iI 0) = 1) ∧ post (some (.int (iI 0))) σ)) ∧
 (x1 = (iI 44) → (((iI 23) ≤ v1 → (((iI 0) = 0 ∨ (iI 0) = 1) ∧ post (some (.int (iI 0))) σ)) ∧
 (¬ (iI 23) ≤ v1 → (((iI 1) = 0 ∨ (iI 1) = 1) ∧ post (some (.int (iI 1))) σ)))))) ∧
 (x1 = (iI 59) → ((v1 ≤ (iI 3) → ((¬ x1 = (iI 44) → (((iI 0) = 0 ∨ (iI 0) = 1) ∧ post (some (.int (iI 0))) σ)) ∧
 (x1 = (iI 44) → (((iI 23) ≤ v1 → (((iI 0) = 0 ∨ (iI 0) = 1) ∧ post (some (.int (iI 0))) σ)) ∧
 (¬ (iI 23) ≤ v1 → (((iI 1) = 0 ∨ (iI 1) = 1) ∧ post (some (.int (iI 1))) σ)))))) ∧
 (¬ v1 ≤ (iI 3) → (let s6 : jSt := jv_u σ 34 2 v1
 (((iI 1) = 0 ∨ (iI 1) = 1) ∧ post (some (.int (iI 1))) s6))))))))))))))) from ⟨(h).1, ⟨by decide +kernel, ⟨fun c12 => jq_I_con ((((h).2).1 c12)) (fun x3 s2 h13 => ⟨fun c14 => ⟨by decide +kernel, ((h13).1 c14)⟩, fun c14 => ⟨by decide +kernel, ((h13).2 c14)⟩⟩), fun c12 => ⟨fun c19 => ⟨fun c20 => ⟨by decide +kernel, (((((((h).2).2 c12)).1 c19)).1 c20)⟩, fun c20 => ⟨fun c23 => ⟨by decide +kernel, (((((((((h).2).2 c12)).1 c19)).2 c20)).1 c23)⟩, fun c23 => ⟨by decide +kernel, (((((((((h).2).2 c12)).1 c19)).2 c20)).2 c23)⟩⟩⟩, fun c19 => ⟨fun c28 => (((((((h).2).2 c12)).2 c19)).1 c28), fun c28 => ⟨fun c30 => ⟨fun c31 => ⟨by decide +kernel, (((((((((((h).2).2 c12)).2 c19)).2 c28)).1 c30)).1 c31)⟩, fun c31 => ⟨fun c34 => ⟨by decide +kernel, (((((((((((((h).2).2 c12)).2 c19)).2 c28)).1 c30)).2 c31)).1 c34)⟩, fun c34 => ⟨by decide +kernel, (((((((((((((h).2).2 c12)).2 c19)).2 c28)).1 c30)).2 c31)).2 c34)⟩⟩⟩, fun c30 => ⟨fun c39 => ⟨fun c40 => ⟨by decide +kernel, (((((((((((((h).2).2 c12)).2 c19)).2 c28)).2 c30)).1 c39)).1 c40)⟩, fun c40 => ⟨fun c43 => ⟨by decide +kernel, (((((((((((((((h).2).2 c12)).2 c19)).2 c28)).2 c30)).1 c39)).2 c40)).1 c43)⟩, fun c43 => ⟨by decide +kernel, (((((((((((((((h).2).2 c12)).2 c19)).2 c28)).2 c30)).1 c39)).2 c40)).2 c43)⟩⟩⟩, fun c39 => ⟨by decide +kernel, (((((((((((h).2).2 c12)).2 c19)).2 c28)).2 c30)).2 c39)⟩⟩⟩⟩⟩⟩⟩⟩)
def vc_X9_isPersonDigit (d : Nat) (post : jPo) (σ : jSt) (v1 : Int32) : Prop :=
 jq_I d 78 [.long (v1).toInt64, .long (Int64.ofNat 48), .long ((((iI 48) + (((σ.1 34 2) + (iI 1)) / (iI 4))) - (iI 1))).toInt64] σ (fun x2 s1 =>
 ((x2 = 0 ∨ x2 = 1) ∧ post (some (.int x2)) s1))
set_option maxRecDepth 100000 in
set_option maxHeartbeats 4000000 in
theorem ok_X9_isPersonDigit {d : Nat} {post : jPo} {σ : jSt} {v1 : Int32} (h : vc_X9_isPersonDigit d post σ v1) : jv_wp (d + 1) post (84, 0, [some (.ref 34), some (.int v1)], [], σ) := jv_go_ok 16 [] _ _ _ (show (¬ (iI 4) = 0 ∧ jq_I d 78 [.long (v1).toInt64, .long (Int64.ofNat 48), .long ((((iI 48) + (((σ.1 34 2) + (iI 1)) / (iI 4))) - (iI 1))).toInt64] σ (fun x2 s1 =>
 ((x2 = 0 ∨ x2 = 1) ∧ post (some (.int x2)) s1))) from ⟨by decide +kernel, h⟩)
def vc_X9_isMatterLetter (d : Nat) (post : jPo) (σ : jSt) (v1 : Int32) : Prop :=
 (vp_in v1 44 ∧ (let x1 : Int32 := (σ.1 35 v1.toNatClampNeg)
 (let x2 : Int32 := ((v1 - (σ.1 34 2)) - (iI 1))
 (((x2 - x2 / (iI 4) * (iI 4)) = (iI 0) → jq_I d 84 [.ref 34, .int x1] σ (fun x4 s3 =>
 ((x4 = 0 ∨ x4 = 1) ∧ post (some (.int x4)) s3))) ∧
 (¬ (x2 - x2 / (iI 4) * (iI 4)) = (iI 0) → (((x2 - x2 / (iI 4) * (iI 4)) = (iI 1) → jq_I d 84 [.ref 34, .int x1] σ (fun x6 s5 =>
 ((x6 = 0 → post (some (.int (iI 0))) s5) ∧
 (¬ x6 = 0 → (vp_in (v1 - (iI 1)) 44 ∧ ((x1 = (s5.1 35 (v1 - (iI 1)).toNatClampNeg) → post (some (.int (iI 0))) s5) ∧
 (¬ x1 = (s5.1 35 (v1 - (iI 1)).toNatClampNeg) → post (some (.int (iI 1))) s5))))))) ∧
 (¬ (x2 - x2 / (iI 4) * (iI 4)) = (iI 1) → (((x2 - x2 / (iI 4) * (iI 4)) = (iI 2) → jq_I d 78 [.long (x1).toInt64, .long (Int64.ofNat 49), .long (Int64.ofNat 57)] σ (fun x8 s7 =>
 ((x8 = 0 ∨ x8 = 1) ∧ post (some (.int x8)) s7))) ∧
 (¬ (x2 - x2 / (iI 4) * (iI 4)) = (iI 2) → ((¬ x1 = (iI 44) → post (some (.int (iI 0))) σ) ∧
 (x1 = (iI 44) → (((iI 19) ≤ x2 → post (some (.int (iI 0))) σ) ∧
 (¬ (iI 19) ≤ x2 → post (some (.int (iI 1))) σ)))))))))))))
set_option maxRecDepth 100000 in
set_option maxHeartbeats 4000000 in
theorem ok_X9_isMatterLetter {d : Nat} {post : jPo} {σ : jSt} {v1 : Int32} (h : vc_X9_isMatterLetter d post σ v1) : jv_wp (d + 1) post (85, 0, [some (.ref 34), some (.int v1), none, none], [], σ) := jv_go_ok 31 [] _ _ _ (show (vp_in v1 44 ∧ (let x1 : Int32 := (σ.1 35 v1.toNatClampNeg)
 (let x2 : Int32 := ((v1 - (σ.1 34 2)) - (iI 1))
 (¬ (iI 4) = 0 ∧ (((x2 - x2 / (iI 4) * (iI 4)) = (iI 0) → jq_I d 84 [.ref 34, .int x1] σ (fun x4 s3 =>
 ((x4 = 0 ∨ x4 = 1) ∧ post (some (.int x4)) s3))) ∧
 (¬ (x2 - x2 / (iI 4) * (iI 4)) = (iI 0) → (((x2 - x2 / (iI 4) * (iI 4)) = (iI 1) → jq_I d 84 [.ref 34, .int x1] σ (fun x6 s5 =>
 ((x6 = 0 → (((iI 0) = 0 ∨ (iI 0) = 1) ∧ post (some (.int (iI 0))) s5)) ∧
 (¬ x6 = 0 → (vp_in (v1 - (iI 1)) 44 ∧ ((x1 = (s5.1 35 (v1 - (iI 1)).toNatClampNeg) → (((iI 0) = 0 ∨ (iI 0) = 1) ∧ post (some (.int (iI 0))) s5)) ∧
 (¬ x1 = (s5.1 35 (v1 - (iI 1)).toNatClampNeg) → (((iI 1) = 0 ∨ (iI 1) = 1) ∧ post (some (.int (iI 1))) s5)))))))) ∧
 (¬ (x2 - x2 / (iI 4) * (iI 4)) = (iI 1) → (((x2 - x2 / (iI 4) * (iI 4)) = (iI 2) → jq_I d 78 [.long (x1).toInt64, .long (Int64.ofNat 49), .long (Int64.ofNat 57)] σ (fun x8 s7 =>
 ((x8 = 0 ∨ x8 = 1) ∧ post (some (.int x8)) s7))) ∧
 (¬ (x2 - x2 / (iI 4) * (iI 4)) = (iI 2) → ((¬ x1 = (iI 44) → (((iI 0) = 0 ∨ (iI 0) = 1) ∧ post (some (.int (iI 0))) σ)) ∧
 (x1 = (iI 44) → (((iI 19) ≤ x2 → (((iI 0) = 0 ∨ (iI 0) = 1) ∧ post (some (.int (iI 0))) σ)) ∧
 (¬ (iI 19) ≤ x2 → (((iI 1) = 0 ∨ (iI 1) = 1) ∧ post (some (.int (iI 1))) σ))))))))))))))) from ⟨(h).1, ⟨by decide +kernel, ⟨fun c57 => (((h).2).1 c57), fun c57 => ⟨fun c59 => jq_I_con ((((((h).2).2 c57)).1 c59)) (fun x6 s5 h60 => ⟨fun c61 => ⟨by decide +kernel, ((h60).1 c61)⟩, fun c61 => ⟨(((h60).2 c61)).1, ⟨fun c65 => ⟨by decide +kernel, (((((h60).2 c61)).2).1 c65)⟩, fun c65 => ⟨by decide +kernel, (((((h60).2 c61)).2).2 c65)⟩⟩⟩⟩), fun c59 => ⟨fun c70 => (((((((h).2).2 c57)).2 c59)).1 c70), fun c70 => ⟨fun c72 => ⟨by decide +kernel, (((((((((h).2).2 c57)).2 c59)).2 c70)).1 c72)⟩, fun c72 => ⟨fun c75 => ⟨by decide +kernel, (((((((((((h).2).2 c57)).2 c59)).2 c70)).2 c72)).1 c75)⟩, fun c75 => ⟨by decide +kernel, (((((((((((h).2).2 c57)).2 c59)).2 c70)).2 c72)).2 c75)⟩⟩⟩⟩⟩⟩⟩⟩)
def vc_X9_faultOf (d : Nat) (post : jPo) (σ : jSt)  : Prop :=
 (let s1 : jSt := jv_u σ 34 2 (iI 0)
 jv_wp (d + 1) post (86, 7, [some (.ref 34), some (.int (iI 0))], [], s1))
set_option maxRecDepth 100000 in
set_option maxHeartbeats 4000000 in
theorem ok_X9_faultOf {d : Nat} {post : jPo} {σ : jSt} (h : vc_X9_faultOf d post σ ) : jv_wp (d + 1) post (86, 0, [some (.ref 34), none], [], σ) := jv_go_ok 6 [7] _ _ _ h
def vc_X9_faultOf_L7 (d : Nat) (post : jPo) (σ : jSt) (v1 : Int32) : Prop :=
 (((σ.1 34 1) ≤ v1 → post (some (.int v1)) σ) ∧
 (¬ (σ.1 34 1) ≤ v1 → ((¬ (σ.1 34 2) = 0 → jq_I d 85 [.ref 34, .int v1] σ (fun x2 s1 =>
 ((x2 = 0 → post (some (.int v1)) s1) ∧
 (¬ x2 = 0 → (let x3 : Int32 := (v1 + (iI 1))
 jv_wp (d + 1) post (86, 7, [some (.ref 34), some (.int x3)], [], s1)))))) ∧
 ((σ.1 34 2) = 0 → jq_I d 83 [.ref 34, .int v1] σ (fun x5 s4 =>
 ((x5 = 0 → post (some (.int v1)) s4) ∧
 (¬ x5 = 0 → (let x6 : Int32 := (v1 + (iI 1))
 jv_wp (d + 1) post (86, 7, [some (.ref 34), some (.int x6)], [], s4)))))))))
set_option maxRecDepth 100000 in
set_option maxHeartbeats 4000000 in
theorem ok_X9_faultOf_L7 {d : Nat} {post : jPo} {σ : jSt} {v1 : Int32} (h : vc_X9_faultOf_L7 d post σ v1) : jv_wp (d + 1) post (86, 7, [some (.ref 34), some (.int v1)], [], σ) := jv_go_ok 15 [7] _ _ _ h
def vc_X9_fault (d : Nat) (post : jPo) (σ : jSt)  : Prop :=
 jq_I d 86 [.ref 34] σ (fun x2 s1 =>
 post (some (.int x2)) s1)
set_option maxRecDepth 100000 in
set_option maxHeartbeats 4000000 in
theorem ok_X9_fault {d : Nat} {post : jPo} {σ : jSt} (h : vc_X9_fault d post σ ) : jv_wp (d + 1) post (87, 0, [some (.ref 34)], [], σ) := jv_go_ok 3 [] _ _ _ h
def vc_X9_river (d : Nat) (post : jPo) (σ : jSt)  : Prop :=
 jq_I d 86 [.ref 34] σ (fun x2 s1 =>
 ((x2 < (s1.1 34 1) → post (some (.int (iI (-103)))) s1) ∧
 (¬ x2 < (s1.1 34 1) → (((s1.1 34 2) = 0 → post (some (.int (iI (-103)))) s1) ∧
 (¬ (s1.1 34 2) = 0 → (((((s1.1 34 1) - (s1.1 34 2)) - ((s1.1 34 1) - (s1.1 34 2)) / (iI 4) * (iI 4)) = 0 → (let s3 : jSt := jv_u s1 34 3 (((s1.1 34 2) + (iI 1)) / (iI 4))
 (let s4 : jSt := jv_u s3 34 4 (((s3.1 34 1) - (s3.1 34 2)) / (iI 4))
 jv_wp (d + 1) post (88, 64, [some (.ref 34), some (.int (iI 0)), none], [], s4)))) ∧
 (¬ (((s1.1 34 1) - (s1.1 34 2)) - ((s1.1 34 1) - (s1.1 34 2)) / (iI 4) * (iI 4)) = 0 → post (some (.int (iI (-103)))) s1)))))))
set_option maxRecDepth 100000 in
set_option maxHeartbeats 4000000 in
theorem ok_X9_river {d : Nat} {post : jPo} {σ : jSt} (h : vc_X9_river d post σ ) : jv_wp (d + 1) post (88, 0, [some (.ref 34), none, none], [], σ) := jv_go_ok 36 [64, 154] _ _ _ (show jq_I d 86 [.ref 34] σ (fun x2 s1 =>
 ((x2 < (s1.1 34 1) → post (some (.int (iI (-103)))) s1) ∧
 (¬ x2 < (s1.1 34 1) → (((s1.1 34 2) = 0 → post (some (.int (iI (-103)))) s1) ∧
 (¬ (s1.1 34 2) = 0 → (¬ (iI 4) = 0 ∧ (((((s1.1 34 1) - (s1.1 34 2)) - ((s1.1 34 1) - (s1.1 34 2)) / (iI 4) * (iI 4)) = 0 → (¬ (iI 4) = 0 ∧ (let s3 : jSt := jv_u s1 34 3 (((s1.1 34 2) + (iI 1)) / (iI 4))
 (¬ (iI 4) = 0 ∧ (let s4 : jSt := jv_u s3 34 4 (((s3.1 34 1) - (s3.1 34 2)) / (iI 4))
 jv_wp (d + 1) post (88, 64, [some (.ref 34), some (.int (iI 0)), none], [], s4)))))) ∧
 (¬ (((s1.1 34 1) - (s1.1 34 2)) - ((s1.1 34 1) - (s1.1 34 2)) / (iI 4) * (iI 4)) = 0 → post (some (.int (iI (-103)))) s1)))))))) from jq_I_con (h) (fun x2 s1 h80 => ⟨fun c81 => ((h80).1 c81), fun c81 => ⟨fun c83 => ((((h80).2 c81)).1 c83), fun c83 => ⟨by decide +kernel, ⟨fun c86 => ⟨by decide +kernel, ⟨by decide +kernel, ((((((h80).2 c81)).2 c83)).1 c86)⟩⟩, fun c86 => ((((((h80).2 c81)).2 c83)).2 c86)⟩⟩⟩⟩))
def vc_X9_river_L64 (d : Nat) (post : jPo) (σ : jSt) (v1 : Int32) : Prop :=
 (((σ.1 34 3) ≤ v1 → jv_wp (d + 1) post (88, 154, [some (.ref 34), some (.int (iI 0)), none], [], σ)) ∧
 (¬ (σ.1 34 3) ≤ v1 → (vp_in ((iI 4) * v1) 44 ∧ jq_I d 82 [.int (σ.1 35 ((iI 4) * v1).toNatClampNeg)] σ (fun x2 s1 =>
 (vp_in v1 6 ∧ (let s3 : jSt := jv_u s1 36 v1.toNatClampNeg x2
 (vp_in (((iI 4) * v1) + (iI 1)) 44 ∧ ((¬ (s3.1 35 (((iI 4) * v1) + (iI 1)).toNatClampNeg) = (iI 108) → (vp_in v1 6 ∧ (let s4 : jSt := jv_u s3 37 v1.toNatClampNeg (iI 1)
 (vp_in v1 6 ∧ (vp_in v1 6 ∧ (let s5 : jSt := jv_u s4 38 v1.toNatClampNeg (s4.1 37 v1.toNatClampNeg)
 (vp_in (((iI 4) * v1) + (iI 2)) 44 ∧ (vp_in v1 6 ∧ (let s6 : jSt := jv_u s5 39 v1.toNatClampNeg ((s5.1 35 (((iI 4) * v1) + (iI 2)).toNatClampNeg) - (iI 48))
 (let x7 : Int32 := (v1 + (iI 1))
 jv_wp (d + 1) post (88, 64, [some (.ref 34), some (.int x7), none], [], s6))))))))))) ∧
 ((s3.1 35 (((iI 4) * v1) + (iI 1)).toNatClampNeg) = (iI 108) → (vp_in v1 6 ∧ (let s8 : jSt := jv_u s3 37 v1.toNatClampNeg (iI 0)
 (vp_in v1 6 ∧ (vp_in v1 6 ∧ (let s9 : jSt := jv_u s8 38 v1.toNatClampNeg (s8.1 37 v1.toNatClampNeg)
 (vp_in (((iI 4) * v1) + (iI 2)) 44 ∧ (vp_in v1 6 ∧ (let s10 : jSt := jv_u s9 39 v1.toNatClampNeg ((s9.1 35 (((iI 4) * v1) + (iI 2)).toNatClampNeg) - (iI 48))
 (let x11 : Int32 := (v1 + (iI 1))
 jv_wp (d + 1) post (88, 64, [some (.ref 34), some (.int x11), none], [], s10)))))))))))))))))))
set_option maxRecDepth 100000 in
set_option maxHeartbeats 4000000 in
theorem ok_X9_river_L64 {d : Nat} {post : jPo} {σ : jSt} {v1 : Int32} (h : vc_X9_river_L64 d post σ v1) : jv_wp (d + 1) post (88, 64, [some (.ref 34), some (.int v1), none], [], σ) := jv_go_ok 56 [64, 154] _ _ _ h
def vc_X9_river_L154 (d : Nat) (post : jPo) (σ : jSt) (v1 : Int32) (z2 : Option Value) : Prop :=
 (((σ.1 34 4) ≤ v1 → (let s1 : jSt := jv_u σ 34 5 (iI 0)
 (let s2 : jSt := jv_u s1 34 6 (iI 0)
 (let s3 : jSt := jv_u s2 34 24 (iI 0)
 (let s4 : jSt := jv_u s3 34 7 ((s3.1 34 7) + (iI 1))
 (let s5 : jSt := jv_u s4 34 1 (iI 0)
 post (some (.int (s5.1 34 3))) s5)))))) ∧
 (¬ (σ.1 34 4) ≤ v1 → (let x6 : Int32 := (((σ.1 34 2) + (iI 1)) + ((iI 4) * v1))
 (vp_in x6 44 ∧ (vp_in v1 5 ∧ (let s7 : jSt := jv_u σ 40 v1.toNatClampNeg ((σ.1 35 x6.toNatClampNeg) - (iI 48))
 (vp_in (x6 + (iI 1)) 44 ∧ (vp_in v1 5 ∧ (let s8 : jSt := jv_u s7 41 v1.toNatClampNeg ((s7.1 35 (x6 + (iI 1)).toNatClampNeg) - (iI 48))
 (vp_in (x6 + (iI 2)) 44 ∧ (vp_in v1 5 ∧ (let s9 : jSt := jv_u s8 42 v1.toNatClampNeg ((s8.1 35 (x6 + (iI 2)).toNatClampNeg) - (iI 48))
 (vp_in v1 5 ∧ (let s10 : jSt := jv_u s9 43 v1.toNatClampNeg (iI 0)
 (vp_in v1 5 ∧ (let s11 : jSt := jv_u s10 44 v1.toNatClampNeg (iI 0)
 (let x12 : Int32 := (v1 + (iI 1))
 jv_wp (d + 1) post (88, 154, [some (.ref 34), some (.int x12), some (.int x6)], [], s11))))))))))))))))))
set_option maxRecDepth 100000 in
set_option maxHeartbeats 4000000 in
theorem ok_X9_river_L154 {d : Nat} {post : jPo} {σ : jSt} {v1 : Int32} {z2 : Option Value} (h : vc_X9_river_L154 d post σ v1 z2) : jv_wp (d + 1) post (88, 154, [some (.ref 34), some (.int v1), z2], [], σ) := jv_go_ok 60 [64, 154] _ _ _ h
def vc_X9_lacks (d : Nat) (post : jPo) (σ : jSt)  : Prop :=
 ((¬ (σ.1 34 3) = 0 → post (some (.int (iI 0))) σ) ∧
 ((σ.1 34 3) = 0 → post (some (.int (iI 1))) σ))
set_option maxRecDepth 100000 in
set_option maxHeartbeats 4000000 in
theorem ok_X9_lacks {d : Nat} {post : jPo} {σ : jSt} (h : vc_X9_lacks d post σ ) : jv_wp (d + 1) post (89, 0, [some (.ref 34)], [], σ) := jv_go_ok 6 [] _ _ _ (show ((¬ (σ.1 34 3) = 0 → (((iI 0) = 0 ∨ (iI 0) = 1) ∧ post (some (.int (iI 0))) σ)) ∧
 ((σ.1 34 3) = 0 → (((iI 1) = 0 ∨ (iI 1) = 1) ∧ post (some (.int (iI 1))) σ))) from ⟨fun c92 => ⟨by decide +kernel, ((h).1 c92)⟩, fun c92 => ⟨by decide +kernel, ((h).2 c92)⟩⟩)
def vc_X9_isPerson (d : Nat) (post : jPo) (σ : jSt) (v1 : Int32) : Prop :=
 jq_I d 78 [.long (v1).toInt64, .long (Int64.ofNat 0), .long (((σ.1 34 3) - (iI 1))).toInt64] σ (fun x2 s1 =>
 ((x2 = 0 ∨ x2 = 1) ∧ post (some (.int x2)) s1))
set_option maxRecDepth 100000 in
set_option maxHeartbeats 4000000 in
theorem ok_X9_isPerson {d : Nat} {post : jPo} {σ : jSt} {v1 : Int32} (h : vc_X9_isPerson d post σ v1) : jv_wp (d + 1) post (90, 0, [some (.ref 34), some (.int v1)], [], σ) := jv_go_ok 10 [] _ _ _ h
def vc_X9_isMatter (d : Nat) (post : jPo) (σ : jSt) (v1 : Int32) : Prop :=
 jq_I d 78 [.long (v1).toInt64, .long (Int64.ofNat 0), .long (((σ.1 34 4) - (iI 1))).toInt64] σ (fun x2 s1 =>
 ((x2 = 0 ∨ x2 = 1) ∧ post (some (.int x2)) s1))
set_option maxRecDepth 100000 in
set_option maxHeartbeats 4000000 in
theorem ok_X9_isMatter {d : Nat} {post : jPo} {σ : jSt} {v1 : Int32} (h : vc_X9_isMatter d post σ v1) : jv_wp (d + 1) post (91, 0, [some (.ref 34), some (.int v1)], [], σ) := jv_go_ok 10 [] _ _ _ h
def vc_X9_daysOf (d : Nat) (post : jPo) (σ : jSt) (v0 : Int32) (v1 : Int32) : Prop :=
 ((v0 = (iI 2) → ((¬ (v1 - v1 / (iI 4) * (iI 4)) = (iI 3) → post (some (.int (iI 28))) σ) ∧
 ((v1 - v1 / (iI 4) * (iI 4)) = (iI 3) → post (some (.int (iI 29))) σ))) ∧
 (¬ v0 = (iI 2) → ((v0 = (iI 3) → post (some (.int (iI 31))) σ) ∧
 (¬ v0 = (iI 3) → ((v0 = (iI 4) → post (some (.int (iI 30))) σ) ∧
 (¬ v0 = (iI 4) → ((v0 = (iI 5) → post (some (.int (iI 31))) σ) ∧
 (¬ v0 = (iI 5) → ((v0 = (iI 6) → post (some (.int (iI 30))) σ) ∧
 (¬ v0 = (iI 6) → ((v0 = (iI 7) → post (some (.int (iI 31))) σ) ∧
 (¬ v0 = (iI 7) → ((v0 = (iI 8) → post (some (.int (iI 31))) σ) ∧
 (¬ v0 = (iI 8) → ((v0 = (iI 9) → post (some (.int (iI 30))) σ) ∧
 (¬ v0 = (iI 9) → ((v0 = (iI 10) → post (some (.int (iI 31))) σ) ∧
 (¬ v0 = (iI 10) → ((v0 = (iI 11) → post (some (.int (iI 30))) σ) ∧
 (¬ v0 = (iI 11) → post (some (.int (iI 31))) σ))))))))))))))))))))
set_option maxRecDepth 100000 in
set_option maxHeartbeats 4000000 in
theorem ok_X9_daysOf {d : Nat} {post : jPo} {σ : jSt} {v0 : Int32} {v1 : Int32} (h : vc_X9_daysOf d post σ v0 v1) : jv_wp (d + 1) post (92, 0, [some (.int v0), some (.int v1)], [], σ) := jv_go_ok 10 [] _ _ _ (show ((v0 = (iI 2) → (¬ (iI 4) = 0 ∧ ((¬ (v1 - v1 / (iI 4) * (iI 4)) = (iI 3) → post (some (.int (iI 28))) σ) ∧
 ((v1 - v1 / (iI 4) * (iI 4)) = (iI 3) → post (some (.int (iI 29))) σ)))) ∧
 (¬ v0 = (iI 2) → ((v0 = (iI 3) → post (some (.int (iI 31))) σ) ∧
 (¬ v0 = (iI 3) → ((v0 = (iI 4) → post (some (.int (iI 30))) σ) ∧
 (¬ v0 = (iI 4) → ((v0 = (iI 5) → post (some (.int (iI 31))) σ) ∧
 (¬ v0 = (iI 5) → ((v0 = (iI 6) → post (some (.int (iI 30))) σ) ∧
 (¬ v0 = (iI 6) → ((v0 = (iI 7) → post (some (.int (iI 31))) σ) ∧
 (¬ v0 = (iI 7) → ((v0 = (iI 8) → post (some (.int (iI 31))) σ) ∧
 (¬ v0 = (iI 8) → ((v0 = (iI 9) → post (some (.int (iI 30))) σ) ∧
 (¬ v0 = (iI 9) → ((v0 = (iI 10) → post (some (.int (iI 31))) σ) ∧
 (¬ v0 = (iI 10) → ((v0 = (iI 11) → post (some (.int (iI 30))) σ) ∧
 (¬ v0 = (iI 11) → post (some (.int (iI 31))) σ)))))))))))))))))))) from ⟨fun c97 => ⟨by decide +kernel, ((h).1 c97)⟩, fun c97 => ((h).2 c97)⟩)
def vc_X9_layDate (d : Nat) (post : jPo) (σ : jSt) (v1 : Int32) : Prop :=
 (let x1 : Int32 := (v1 - v1 / (iI 1461) * (iI 1461))
 (let s2 : jSt := jv_u σ 34 19 ((iI 4) * (v1 / (iI 1461)))
 (let s3 : jSt := jv_u s2 34 18 (iI 1)
 jv_wp (d + 1) post (93, 22, [some (.ref 34), some (.int v1), some (.int x1)], [], s3))))
set_option maxRecDepth 100000 in
set_option maxHeartbeats 4000000 in
theorem ok_X9_layDate {d : Nat} {post : jPo} {σ : jSt} {v1 : Int32} (h : vc_X9_layDate d post σ v1) : jv_wp (d + 1) post (93, 0, [some (.ref 34), some (.int v1), none], [], σ) := jv_go_ok 15 [22] _ _ _ (show (¬ (iI 1461) = 0 ∧ (let x1 : Int32 := (v1 - v1 / (iI 1461) * (iI 1461))
 (¬ (iI 1461) = 0 ∧ (let s2 : jSt := jv_u σ 34 19 ((iI 4) * (v1 / (iI 1461)))
 (let s3 : jSt := jv_u s2 34 18 (iI 1)
 jv_wp (d + 1) post (93, 22, [some (.ref 34), some (.int v1), some (.int x1)], [], s3)))))) from ⟨by decide +kernel, ⟨by decide +kernel, h⟩⟩)
def vc_X9_layDate_L22 (d : Nat) (post : jPo) (σ : jSt) (v1 : Int32) (v2 : Int32) : Prop :=
 jq_I d 92 [.int (σ.1 34 18), .int (σ.1 34 19)] σ (fun x2 s1 =>
 ((v2 < x2 → (let s3 : jSt := jv_u s1 34 17 (v2 + (iI 1))
 post none s3)) ∧
 (¬ v2 < x2 → jq_I d 92 [.int (s1.1 34 18), .int (s1.1 34 19)] s1 (fun x5 s4 =>
 (let x6 : Int32 := (v2 - x5)
 (let s7 : jSt := jv_u s4 34 18 ((s4.1 34 18) + (iI 1))
 ((¬ (s7.1 34 18) = (iI 13) → (let s8 : jSt := jv_u s7 34 19 ((s7.1 34 19) + (iI 0))
 ((¬ (s8.1 34 18) = (iI 13) → (let s9 : jSt := jv_u s8 34 18 (s8.1 34 18)
 jv_wp (d + 1) post (93, 22, [some (.ref 34), some (.int v1), some (.int x6)], [], s9))) ∧
 ((s8.1 34 18) = (iI 13) → (let s10 : jSt := jv_u s8 34 18 (iI 1)
 jv_wp (d + 1) post (93, 22, [some (.ref 34), some (.int v1), some (.int x6)], [], s10)))))) ∧
 ((s7.1 34 18) = (iI 13) → (let s11 : jSt := jv_u s7 34 19 ((s7.1 34 19) + (iI 1))
 ((¬ (s11.1 34 18) = (iI 13) → (let s12 : jSt := jv_u s11 34 18 (s11.1 34 18)
 jv_wp (d + 1) post (93, 22, [some (.ref 34), some (.int v1), some (.int x6)], [], s12))) ∧
 ((s11.1 34 18) = (iI 13) → (let s13 : jSt := jv_u s11 34 18 (iI 1)
 jv_wp (d + 1) post (93, 22, [some (.ref 34), some (.int v1), some (.int x6)], [], s13)))))))))))))
set_option maxRecDepth 100000 in
set_option maxHeartbeats 4000000 in
theorem ok_X9_layDate_L22 {d : Nat} {post : jPo} {σ : jSt} {v1 : Int32} {v2 : Int32} (h : vc_X9_layDate_L22 d post σ v1 v2) : jv_wp (d + 1) post (93, 22, [some (.ref 34), some (.int v1), some (.int v2)], [], σ) := jv_go_ok 42 [22] _ _ _ h
def vc_X9_isBankOn (d : Nat) (post : jPo) (σ : jSt) (v1 : Int32) : Prop :=
 ((¬ (σ.1 34 17) = (iI 29) → ((¬ ((σ.1 34 17) - (σ.1 34 17) / (iI 2) * (iI 2)) = ((iI 1) - v1) → post (some (.int (iI 0))) σ) ∧
 (((σ.1 34 17) - (σ.1 34 17) / (iI 2) * (iI 2)) = ((iI 1) - v1) → post (some (.int (iI 1))) σ))) ∧
 ((σ.1 34 17) = (iI 29) → ((¬ (σ.1 34 18) = (iI 2) → ((¬ ((σ.1 34 17) - (σ.1 34 17) / (iI 2) * (iI 2)) = ((iI 1) - v1) → post (some (.int (iI 0))) σ) ∧
 (((σ.1 34 17) - (σ.1 34 17) / (iI 2) * (iI 2)) = ((iI 1) - v1) → post (some (.int (iI 1))) σ))) ∧
 ((σ.1 34 18) = (iI 2) → post (some (.int (iI 1))) σ))))
set_option maxRecDepth 100000 in
set_option maxHeartbeats 4000000 in
theorem ok_X9_isBankOn {d : Nat} {post : jPo} {σ : jSt} {v1 : Int32} (h : vc_X9_isBankOn d post σ v1) : jv_wp (d + 1) post (94, 0, [some (.ref 34), some (.int v1), none], [], σ) := jv_go_ok 24 [] _ _ _ (show ((¬ (σ.1 34 17) = (iI 29) → ((¬ (iI 0) = 0 → (((iI 1) = 0 ∨ (iI 1) = 1) ∧ post (some (.int (iI 1))) σ)) ∧
 ((iI 0) = 0 → (¬ (iI 2) = 0 ∧ ((¬ ((σ.1 34 17) - (σ.1 34 17) / (iI 2) * (iI 2)) = ((iI 1) - v1) → (((iI 0) = 0 ∨ (iI 0) = 1) ∧ post (some (.int (iI 0))) σ)) ∧
 (((σ.1 34 17) - (σ.1 34 17) / (iI 2) * (iI 2)) = ((iI 1) - v1) → (((iI 1) = 0 ∨ (iI 1) = 1) ∧ post (some (.int (iI 1))) σ))))))) ∧
 ((σ.1 34 17) = (iI 29) → ((¬ (σ.1 34 18) = (iI 2) → ((¬ (iI 0) = 0 → (((iI 1) = 0 ∨ (iI 1) = 1) ∧ post (some (.int (iI 1))) σ)) ∧
 ((iI 0) = 0 → (¬ (iI 2) = 0 ∧ ((¬ ((σ.1 34 17) - (σ.1 34 17) / (iI 2) * (iI 2)) = ((iI 1) - v1) → (((iI 0) = 0 ∨ (iI 0) = 1) ∧ post (some (.int (iI 0))) σ)) ∧
 (((σ.1 34 17) - (σ.1 34 17) / (iI 2) * (iI 2)) = ((iI 1) - v1) → (((iI 1) = 0 ∨ (iI 1) = 1) ∧ post (some (.int (iI 1))) σ))))))) ∧
 ((σ.1 34 18) = (iI 2) → ((¬ (iI 1) = 0 → (((iI 1) = 0 ∨ (iI 1) = 1) ∧ post (some (.int (iI 1))) σ)) ∧
 ((iI 1) = 0 → (¬ (iI 2) = 0 ∧ ((¬ ((σ.1 34 17) - (σ.1 34 17) / (iI 2) * (iI 2)) = ((iI 1) - v1) → (((iI 0) = 0 ∨ (iI 0) = 1) ∧ post (some (.int (iI 0))) σ)) ∧
 (((σ.1 34 17) - (σ.1 34 17) / (iI 2) * (iI 2)) = ((iI 1) - v1) → (((iI 1) = 0 ∨ (iI 1) = 1) ∧ post (some (.int (iI 1))) σ)))))))))) from ⟨fun c105 => ⟨fun q => absurd q (by decide +kernel), fun _ => ⟨by decide +kernel, ⟨fun c108 => ⟨by decide +kernel, ((((h).1 c105)).1 c108)⟩, fun c108 => ⟨by decide +kernel, ((((h).1 c105)).2 c108)⟩⟩⟩⟩, fun c105 => ⟨fun c113 => ⟨fun q => absurd q (by decide +kernel), fun _ => ⟨by decide +kernel, ⟨fun c116 => ⟨by decide +kernel, ((((((h).2 c105)).1 c113)).1 c116)⟩, fun c116 => ⟨by decide +kernel, ((((((h).2 c105)).1 c113)).2 c116)⟩⟩⟩⟩, fun c113 => ⟨fun _ => ⟨by decide +kernel, ((((h).2 c105)).2 c113)⟩, fun q => absurd q (by decide +kernel)⟩⟩⟩)
def vc_X9_isSpeaking (d : Nat) (post : jPo) (σ : jSt) (v1 : Int32) (v2 : Int32) (v3 : Int32) : Prop :=
 ((v1 = (iI 1) → post (some (.int (iI 1))) σ) ∧
 (¬ v1 = (iI 1) → ((v1 = (iI 2) → jq_I d 94 [.ref 34, .int v3] σ (fun x2 s1 =>
 ((¬ x2 = 0 → post (some (.int (iI 1))) s1) ∧
 (x2 = 0 → ((¬ (s1.1 34 17) = (iI 1) → post (some (.int (iI 0))) s1) ∧
 ((s1.1 34 17) = (iI 1) → post (some (.int (iI 1))) s1)))))) ∧
 (¬ v1 = (iI 2) → ((v1 = (iI 3) → jq_I d 94 [.ref 34, .int v2] σ (fun x4 s3 =>
 ((x4 = 0 ∨ x4 = 1) ∧ post (some (.int x4)) s3))) ∧
 (¬ v1 = (iI 3) → ((v1 = (iI 4) → post (some (.int (iI 1))) σ) ∧
 (¬ v1 = (iI 4) → jq_I d 94 [.ref 34, .int v3] σ (fun x6 s5 =>
 ((x6 = 0 ∨ x6 = 1) ∧ post (some (.int x6)) s5))))))))))
set_option maxRecDepth 100000 in
set_option maxHeartbeats 4000000 in
theorem ok_X9_isSpeaking {d : Nat} {post : jPo} {σ : jSt} {v1 : Int32} {v2 : Int32} {v3 : Int32} (h : vc_X9_isSpeaking d post σ v1 v2 v3) : jv_wp (d + 1) post (95, 0, [some (.ref 34), some (.int v1), some (.int v2), some (.int v3)], [], σ) := jv_go_ok 13 [] _ _ _ (show ((v1 = (iI 1) → (((iI 1) = 0 ∨ (iI 1) = 1) ∧ post (some (.int (iI 1))) σ)) ∧
 (¬ v1 = (iI 1) → ((v1 = (iI 2) → jq_I d 94 [.ref 34, .int v3] σ (fun x2 s1 =>
 ((¬ x2 = 0 → (((iI 1) = 0 ∨ (iI 1) = 1) ∧ post (some (.int (iI 1))) s1)) ∧
 (x2 = 0 → ((¬ (s1.1 34 17) = (iI 1) → (((iI 0) = 0 ∨ (iI 0) = 1) ∧ post (some (.int (iI 0))) s1)) ∧
 ((s1.1 34 17) = (iI 1) → (((iI 1) = 0 ∨ (iI 1) = 1) ∧ post (some (.int (iI 1))) s1))))))) ∧
 (¬ v1 = (iI 2) → ((v1 = (iI 3) → jq_I d 94 [.ref 34, .int v2] σ (fun x4 s3 =>
 ((x4 = 0 ∨ x4 = 1) ∧ post (some (.int x4)) s3))) ∧
 (¬ v1 = (iI 3) → ((v1 = (iI 4) → (((iI 1) = 0 ∨ (iI 1) = 1) ∧ post (some (.int (iI 1))) σ)) ∧
 (¬ v1 = (iI 4) → jq_I d 94 [.ref 34, .int v3] σ (fun x6 s5 =>
 ((x6 = 0 ∨ x6 = 1) ∧ post (some (.int x6)) s5)))))))))) from ⟨fun c124 => ⟨by decide +kernel, ((h).1 c124)⟩, fun c124 => ⟨fun c127 => jq_I_con (((((h).2 c124)).1 c127)) (fun x2 s1 h128 => ⟨fun c129 => ⟨by decide +kernel, ((h128).1 c129)⟩, fun c129 => ⟨fun c132 => ⟨by decide +kernel, ((((h128).2 c129)).1 c132)⟩, fun c132 => ⟨by decide +kernel, ((((h128).2 c129)).2 c132)⟩⟩⟩), fun c127 => ⟨fun c137 => ((((((h).2 c124)).2 c127)).1 c137), fun c137 => ⟨fun c139 => ⟨by decide +kernel, ((((((((h).2 c124)).2 c127)).2 c137)).1 c139)⟩, fun c139 => ((((((((h).2 c124)).2 c127)).2 c137)).2 c139)⟩⟩⟩⟩)
def vc_X9_maySpeak (d : Nat) (post : jPo) (σ : jSt) (v1 : Int32) (v2 : Int32) : Prop :=
 jq_V d 93 [.ref 34, .int v2] σ (fun s1 =>
 (vp_in v1 6 ∧ (vp_in v1 6 ∧ (vp_in v1 6 ∧ jq_I d 95 [.ref 34, .int (s1.1 36 v1.toNatClampNeg), .int (s1.1 37 v1.toNatClampNeg), .int (s1.1 38 v1.toNatClampNeg)] s1 (fun x3 s2 =>
 ((x3 = 0 ∨ x3 = 1) ∧ post (some (.int x3)) s2))))))
set_option maxRecDepth 100000 in
set_option maxHeartbeats 4000000 in
theorem ok_X9_maySpeak {d : Nat} {post : jPo} {σ : jSt} {v1 : Int32} {v2 : Int32} (h : vc_X9_maySpeak d post σ v1 v2) : jv_wp (d + 1) post (96, 0, [some (.ref 34), some (.int v1), some (.int v2)], [], σ) := jv_go_ok 18 [] _ _ _ h
def vc_X9_speakers (d : Nat) (post : jPo) (σ : jSt) (v1 : Int32) : Prop :=
 jv_wp (d + 1) post (97, 4, [some (.ref 34), some (.int v1), some (.int (iI 0)), some (.int (iI 0))], [], σ)
set_option maxRecDepth 100000 in
set_option maxHeartbeats 4000000 in
theorem ok_X9_speakers {d : Nat} {post : jPo} {σ : jSt} {v1 : Int32} (h : vc_X9_speakers d post σ v1) : jv_wp (d + 1) post (97, 0, [some (.ref 34), some (.int v1), none, none], [], σ) := jv_go_ok 5 [4] _ _ _ h
def vc_X9_speakers_L4 (d : Nat) (post : jPo) (σ : jSt) (v1 : Int32) (v2 : Int32) (v3 : Int32) : Prop :=
 (((σ.1 34 3) ≤ v3 → post (some (.int v2)) σ) ∧
 (¬ (σ.1 34 3) ≤ v3 → jq_I d 96 [.ref 34, .int v3, .int v1] σ (fun x2 s1 =>
 ((x2 = 0 → (let x3 : Int32 := (v2 ||| (iI 0))
 (let x4 : Int32 := (v3 + (iI 1))
 jv_wp (d + 1) post (97, 4, [some (.ref 34), some (.int v1), some (.int x3), some (.int x4)], [], s1)))) ∧
 (¬ x2 = 0 → (let x5 : Int32 := (v2 ||| ((iI 1) <<< (v3 &&& 31)))
 (let x6 : Int32 := (v3 + (iI 1))
 jv_wp (d + 1) post (97, 4, [some (.ref 34), some (.int v1), some (.int x5), some (.int x6)], [], s1))))))))
set_option maxRecDepth 100000 in
set_option maxHeartbeats 4000000 in
theorem ok_X9_speakers_L4 {d : Nat} {post : jPo} {σ : jSt} {v1 : Int32} {v2 : Int32} {v3 : Int32} (h : vc_X9_speakers_L4 d post σ v1 v2 v3) : jv_wp (d + 1) post (97, 4, [some (.ref 34), some (.int v1), some (.int v2), some (.int v3)], [], σ) := jv_go_ok 19 [4] _ _ _ h
def vc_X9_ones (d : Nat) (post : jPo) (σ : jSt) (v0 : Int32) : Prop :=
 jv_wp (d + 1) post (98, 4, [some (.int v0), some (.int (iI 0)), some (.int (iI 0))], [], σ)
set_option maxRecDepth 100000 in
set_option maxHeartbeats 4000000 in
theorem ok_X9_ones {d : Nat} {post : jPo} {σ : jSt} {v0 : Int32} (h : vc_X9_ones d post σ v0) : jv_wp (d + 1) post (98, 0, [some (.int v0), none, none], [], σ) := jv_go_ok 5 [4] _ _ _ h
def vc_X9_ones_L4 (d : Nat) (post : jPo) (σ : jSt) (v0 : Int32) (v1 : Int32) (v2 : Int32) : Prop :=
 (((iI 12) ≤ v2 → post (some (.int v1)) σ) ∧
 (¬ (iI 12) ≤ v2 → (let x1 : Int32 := (v1 + ((v0 >>> (v2 &&& 31)) &&& (iI 1)))
 (let x2 : Int32 := (v2 + (iI 1))
 jv_wp (d + 1) post (98, 4, [some (.int v0), some (.int x1), some (.int x2)], [], σ)))))
set_option maxRecDepth 100000 in
set_option maxHeartbeats 4000000 in
theorem ok_X9_ones_L4 {d : Nat} {post : jPo} {σ : jSt} {v0 : Int32} {v1 : Int32} {v2 : Int32} (h : vc_X9_ones_L4 d post σ v0 v1 v2) : jv_wp (d + 1) post (98, 4, [some (.int v0), some (.int v1), some (.int v2)], [], σ) := jv_go_ok 14 [4] _ _ _ h
def vc_X9_begin (d : Nat) (post : jPo) (σ : jSt)  : Prop :=
 jq_V d 79 [.ref 43, .ref 45] σ (fun s1 =>
 jq_V d 79 [.ref 44, .ref 46] s1 (fun s2 =>
 post none s2))
set_option maxRecDepth 100000 in
set_option maxHeartbeats 4000000 in
theorem ok_X9_begin {d : Nat} {post : jPo} {σ : jSt} (h : vc_X9_begin d post σ ) : jv_wp (d + 1) post (99, 0, [some (.ref 34)], [], σ) := jv_go_ok 11 [] _ _ _ h
def vc_X9_keep (d : Nat) (post : jPo) (σ : jSt)  : Prop :=
 jq_V d 79 [.ref 45, .ref 43] σ (fun s1 =>
 jq_V d 79 [.ref 46, .ref 44] s1 (fun s2 =>
 post none s2))
set_option maxRecDepth 100000 in
set_option maxHeartbeats 4000000 in
theorem ok_X9_keep {d : Nat} {post : jPo} {σ : jSt} (h : vc_X9_keep d post σ ) : jv_wp (d + 1) post (100, 0, [some (.ref 34)], [], σ) := jv_go_ok 11 [] _ _ _ h
def vc_X9_valueOf (d : Nat) (post : jPo) (σ : jSt) (v1 : Int32) (v2 : Int32) : Prop :=
 (vp_in v1 5 ∧ (vp_in v1 5 ∧ (vp_in (σ.1 40 v1.toNatClampNeg) 6 ∧ (let x1 : Int32 := ((v2 - (σ.1 46 v1.toNatClampNeg)) - (σ.1 39 (σ.1 40 v1.toNatClampNeg).toNatClampNeg))
 ((x1 ≤ 0 → (vp_in v1 5 ∧ (let x2 : Int32 := (σ.1 42 v1.toNatClampNeg)
 ((x2 ≤ 0 → (vp_in v1 5 ∧ (vp_in (σ.1 41 v1.toNatClampNeg) 6 ∧ (let x3 : Int32 := (σ.1 36 (σ.1 41 v1.toNatClampNeg).toNatClampNeg)
 ((¬ x3 = (iI 1) → ((¬ x3 = (iI 4) → post (some (.int (iI 0))) σ) ∧
 (x3 = (iI 4) → post (some (.int (iI 0))) σ))) ∧
 (x3 = (iI 1) → post (some (.int ((iI 0) / (iI 2)))) σ)))))) ∧
 (¬ x2 ≤ 0 → (vp_in v1 5 ∧ (vp_in (σ.1 41 v1.toNatClampNeg) 6 ∧ (let x4 : Int32 := (σ.1 36 (σ.1 41 v1.toNatClampNeg).toNatClampNeg)
 ((¬ x4 = (iI 1) → ((¬ x4 = (iI 4) → post (some (.int x2)) σ) ∧
 (x4 = (iI 4) → ((x2 ≤ 0 → post (some (.int x2)) σ) ∧
 (¬ x2 ≤ 0 → post (some (.int (x2 - (iI 1)))) σ))))) ∧
 (x4 = (iI 1) → post (some (.int (x2 / (iI 2)))) σ)))))))))) ∧
 (¬ x1 ≤ 0 → (vp_in v1 5 ∧ (let x5 : Int32 := ((σ.1 42 v1.toNatClampNeg) - x1)
 ((x5 ≤ 0 → (vp_in v1 5 ∧ (vp_in (σ.1 41 v1.toNatClampNeg) 6 ∧ (let x6 : Int32 := (σ.1 36 (σ.1 41 v1.toNatClampNeg).toNatClampNeg)
 ((¬ x6 = (iI 1) → ((¬ x6 = (iI 4) → post (some (.int (iI 0))) σ) ∧
 (x6 = (iI 4) → post (some (.int (iI 0))) σ))) ∧
 (x6 = (iI 1) → post (some (.int ((iI 0) / (iI 2)))) σ)))))) ∧
 (¬ x5 ≤ 0 → (vp_in v1 5 ∧ (vp_in (σ.1 41 v1.toNatClampNeg) 6 ∧ (let x7 : Int32 := (σ.1 36 (σ.1 41 v1.toNatClampNeg).toNatClampNeg)
 ((¬ x7 = (iI 1) → ((¬ x7 = (iI 4) → post (some (.int x5)) σ) ∧
 (x7 = (iI 4) → ((x5 ≤ 0 → post (some (.int x5)) σ) ∧
 (¬ x5 ≤ 0 → post (some (.int (x5 - (iI 1)))) σ))))) ∧
 (x7 = (iI 1) → post (some (.int (x5 / (iI 2)))) σ)))))))))))))))
set_option maxRecDepth 100000 in
set_option maxHeartbeats 4000000 in
theorem ok_X9_valueOf {d : Nat} {post : jPo} {σ : jSt} {v1 : Int32} {v2 : Int32} (h : vc_X9_valueOf d post σ v1 v2) : jv_wp (d + 1) post (101, 0, [some (.ref 34), some (.int v1), some (.int v2), none, none, none], [], σ) := jv_go_ok 51 [] _ _ _ (show (vp_in v1 5 ∧ (vp_in v1 5 ∧ (vp_in (σ.1 40 v1.toNatClampNeg) 6 ∧ (let x1 : Int32 := ((v2 - (σ.1 46 v1.toNatClampNeg)) - (σ.1 39 (σ.1 40 v1.toNatClampNeg).toNatClampNeg))
 ((x1 ≤ 0 → (vp_in v1 5 ∧ (let x2 : Int32 := (σ.1 42 v1.toNatClampNeg)
 ((x2 ≤ 0 → (vp_in v1 5 ∧ (vp_in (σ.1 41 v1.toNatClampNeg) 6 ∧ (let x3 : Int32 := (σ.1 36 (σ.1 41 v1.toNatClampNeg).toNatClampNeg)
 ((¬ x3 = (iI 1) → ((¬ x3 = (iI 4) → post (some (.int (iI 0))) σ) ∧
 (x3 = (iI 4) → (((iI 0) ≤ 0 → post (some (.int (iI 0))) σ) ∧
 (¬ (iI 0) ≤ 0 → post (some (.int ((iI 0) - (iI 1)))) σ))))) ∧
 (x3 = (iI 1) → (¬ (iI 2) = 0 ∧ post (some (.int ((iI 0) / (iI 2)))) σ))))))) ∧
 (¬ x2 ≤ 0 → (vp_in v1 5 ∧ (vp_in (σ.1 41 v1.toNatClampNeg) 6 ∧ (let x4 : Int32 := (σ.1 36 (σ.1 41 v1.toNatClampNeg).toNatClampNeg)
 ((¬ x4 = (iI 1) → ((¬ x4 = (iI 4) → post (some (.int x2)) σ) ∧
 (x4 = (iI 4) → ((x2 ≤ 0 → post (some (.int x2)) σ) ∧
 (¬ x2 ≤ 0 → post (some (.int (x2 - (iI 1)))) σ))))) ∧
 (x4 = (iI 1) → (¬ (iI 2) = 0 ∧ post (some (.int (x2 / (iI 2)))) σ))))))))))) ∧
 (¬ x1 ≤ 0 → (vp_in v1 5 ∧ (let x5 : Int32 := ((σ.1 42 v1.toNatClampNeg) - x1)
 ((x5 ≤ 0 → (vp_in v1 5 ∧ (vp_in (σ.1 41 v1.toNatClampNeg) 6 ∧ (let x6 : Int32 := (σ.1 36 (σ.1 41 v1.toNatClampNeg).toNatClampNeg)
 ((¬ x6 = (iI 1) → ((¬ x6 = (iI 4) → post (some (.int (iI 0))) σ) ∧
 (x6 = (iI 4) → (((iI 0) ≤ 0 → post (some (.int (iI 0))) σ) ∧
 (¬ (iI 0) ≤ 0 → post (some (.int ((iI 0) - (iI 1)))) σ))))) ∧
 (x6 = (iI 1) → (¬ (iI 2) = 0 ∧ post (some (.int ((iI 0) / (iI 2)))) σ))))))) ∧
 (¬ x5 ≤ 0 → (vp_in v1 5 ∧ (vp_in (σ.1 41 v1.toNatClampNeg) 6 ∧ (let x7 : Int32 := (σ.1 36 (σ.1 41 v1.toNatClampNeg).toNatClampNeg)
 ((¬ x7 = (iI 1) → ((¬ x7 = (iI 4) → post (some (.int x5)) σ) ∧
 (x7 = (iI 4) → ((x5 ≤ 0 → post (some (.int x5)) σ) ∧
 (¬ x5 ≤ 0 → post (some (.int (x5 - (iI 1)))) σ))))) ∧
 (x7 = (iI 1) → (¬ (iI 2) = 0 ∧ post (some (.int (x5 / (iI 2)))) σ)))))))))))))))) from ⟨(h).1, ⟨((h).2).1, ⟨(((h).2).2).1, ⟨fun c147 => ⟨((((((h).2).2).2).1 c147)).1, ⟨fun c150 => ⟨(((((((((h).2).2).2).1 c147)).2).1 c150)).1, ⟨((((((((((h).2).2).2).1 c147)).2).1 c150)).2).1, ⟨fun c154 => ⟨fun c155 => ((((((((((((((h).2).2).2).1 c147)).2).1 c150)).2).2).1 c154)).1 c155), fun c155 => ⟨fun _ => ((((((((((((((h).2).2).2).1 c147)).2).1 c150)).2).2).1 c154)).2 c155), fun q => absurd q (by decide +kernel)⟩⟩, fun c154 => ⟨by decide +kernel, ((((((((((((h).2).2).2).1 c147)).2).1 c150)).2).2).2 c154)⟩⟩⟩⟩, fun c150 => ⟨(((((((((h).2).2).2).1 c147)).2).2 c150)).1, ⟨((((((((((h).2).2).2).1 c147)).2).2 c150)).2).1, ⟨fun c164 => ((((((((((((h).2).2).2).1 c147)).2).2 c150)).2).2).1 c164), fun c164 => ⟨by decide +kernel, ((((((((((((h).2).2).2).1 c147)).2).2 c150)).2).2).2 c164)⟩⟩⟩⟩⟩⟩, fun c147 => ⟨((((((h).2).2).2).2 c147)).1, ⟨fun c170 => ⟨(((((((((h).2).2).2).2 c147)).2).1 c170)).1, ⟨((((((((((h).2).2).2).2 c147)).2).1 c170)).2).1, ⟨fun c174 => ⟨fun c175 => ((((((((((((((h).2).2).2).2 c147)).2).1 c170)).2).2).1 c174)).1 c175), fun c175 => ⟨fun _ => ((((((((((((((h).2).2).2).2 c147)).2).1 c170)).2).2).1 c174)).2 c175), fun q => absurd q (by decide +kernel)⟩⟩, fun c174 => ⟨by decide +kernel, ((((((((((((h).2).2).2).2 c147)).2).1 c170)).2).2).2 c174)⟩⟩⟩⟩, fun c170 => ⟨(((((((((h).2).2).2).2 c147)).2).2 c170)).1, ⟨((((((((((h).2).2).2).2 c147)).2).2 c170)).2).1, ⟨fun c184 => ((((((((((((h).2).2).2).2 c147)).2).2 c170)).2).2).1 c184), fun c184 => ⟨by decide +kernel, ((((((((((((h).2).2).2).2 c147)).2).2 c170)).2).2).2 c184)⟩⟩⟩⟩⟩⟩⟩⟩⟩⟩)
def vc_X9_canThen (d : Nat) (post : jPo) (σ : jSt) (v1 : Int32) (v2 : Int32) : Prop :=
 (vp_in v1 5 ∧ (((σ.1 45 v1.toNatClampNeg) = (iI 0) → (vp_in v1 5 ∧ jq_I d 96 [.ref 34, .int (σ.1 40 v1.toNatClampNeg), .int v2] σ (fun x2 s1 =>
 ((x2 = 0 ∨ x2 = 1) ∧ post (some (.int x2)) s1)))) ∧
 (¬ (σ.1 45 v1.toNatClampNeg) = (iI 0) → (((σ.1 45 v1.toNatClampNeg) = (iI 1) → (vp_in v1 5 ∧ ((v2 ≤ (σ.1 46 v1.toNatClampNeg) → post (some (.int (iI 0))) σ) ∧
 (¬ v2 ≤ (σ.1 46 v1.toNatClampNeg) → (vp_in v1 5 ∧ jq_I d 96 [.ref 34, .int (σ.1 41 v1.toNatClampNeg), .int v2] σ (fun x4 s3 =>
 ((x4 = 0 → post (some (.int (iI 0))) s3) ∧
 (¬ x4 = 0 → post (some (.int (iI 1))) s3)))))))) ∧
 (¬ (σ.1 45 v1.toNatClampNeg) = (iI 1) → post (some (.int (iI 0))) σ)))))
set_option maxRecDepth 100000 in
set_option maxHeartbeats 4000000 in
theorem ok_X9_canThen {d : Nat} {post : jPo} {σ : jSt} {v1 : Int32} {v2 : Int32} (h : vc_X9_canThen d post σ v1 v2) : jv_wp (d + 1) post (102, 0, [some (.ref 34), some (.int v1), some (.int v2)], [], σ) := jv_go_ok 22 [] _ _ _ (show (vp_in v1 5 ∧ (((σ.1 45 v1.toNatClampNeg) = (iI 0) → (vp_in v1 5 ∧ jq_I d 96 [.ref 34, .int (σ.1 40 v1.toNatClampNeg), .int v2] σ (fun x2 s1 =>
 ((x2 = 0 ∨ x2 = 1) ∧ post (some (.int x2)) s1)))) ∧
 (¬ (σ.1 45 v1.toNatClampNeg) = (iI 0) → (((σ.1 45 v1.toNatClampNeg) = (iI 1) → (vp_in v1 5 ∧ ((v2 ≤ (σ.1 46 v1.toNatClampNeg) → (((iI 0) = 0 ∨ (iI 0) = 1) ∧ post (some (.int (iI 0))) σ)) ∧
 (¬ v2 ≤ (σ.1 46 v1.toNatClampNeg) → (vp_in v1 5 ∧ jq_I d 96 [.ref 34, .int (σ.1 41 v1.toNatClampNeg), .int v2] σ (fun x4 s3 =>
 ((x4 = 0 → (((iI 0) = 0 ∨ (iI 0) = 1) ∧ post (some (.int (iI 0))) s3)) ∧
 (¬ x4 = 0 → (((iI 1) = 0 ∨ (iI 1) = 1) ∧ post (some (.int (iI 1))) s3))))))))) ∧
 (¬ (σ.1 45 v1.toNatClampNeg) = (iI 1) → (((iI 0) = 0 ∨ (iI 0) = 1) ∧ post (some (.int (iI 0))) σ)))))) from ⟨(h).1, ⟨fun c189 => (((h).2).1 c189), fun c189 => ⟨fun c191 => ⟨((((((h).2).2 c189)).1 c191)).1, ⟨fun c193 => ⟨by decide +kernel, ((((((((h).2).2 c189)).1 c191)).2).1 c193)⟩, fun c193 => ⟨(((((((((h).2).2 c189)).1 c191)).2).2 c193)).1, jq_I_con ((((((((((h).2).2 c189)).1 c191)).2).2 c193)).2) (fun x4 s3 h197 => ⟨fun c198 => ⟨by decide +kernel, ((h197).1 c198)⟩, fun c198 => ⟨by decide +kernel, ((h197).2 c198)⟩⟩)⟩⟩⟩, fun c191 => ⟨by decide +kernel, (((((h).2).2 c189)).2 c191)⟩⟩⟩⟩)
def vc_X9_sayThen (d : Nat) (post : jPo) (σ : jSt) (v1 : Int32) (v2 : Int32) : Prop :=
 (vp_in v1 5 ∧ ((¬ (σ.1 45 v1.toNatClampNeg) = 0 → (vp_in v1 5 ∧ (let s1 : jSt := jv_u σ 45 v1.toNatClampNeg (iI 2)
 jq_I d 101 [.ref 34, .int v1, .int v2] s1 (fun x3 s2 =>
 post (some (.int x3)) s2)))) ∧
 ((σ.1 45 v1.toNatClampNeg) = 0 → (vp_in v1 5 ∧ (let s4 : jSt := jv_u σ 45 v1.toNatClampNeg (iI 1)
 (vp_in v1 5 ∧ (let s5 : jSt := jv_u s4 46 v1.toNatClampNeg v2
 post (some (.int (iI (-1)))) s5)))))))
set_option maxRecDepth 100000 in
set_option maxHeartbeats 4000000 in
theorem ok_X9_sayThen {d : Nat} {post : jPo} {σ : jSt} {v1 : Int32} {v2 : Int32} (h : vc_X9_sayThen d post σ v1 v2) : jv_wp (d + 1) post (103, 0, [some (.ref 34), some (.int v1), some (.int v2)], [], σ) := jv_go_ok 17 [] _ _ _ h
def vc_X9_speakingDays (d : Nat) (post : jPo) (σ : jSt) (v1 : Int32) : Prop :=
 jv_wp (d + 1) post (104, 4, [some (.ref 34), some (.int v1), some (.int (iI 0)), some (.int (iI 0))], [], σ)
set_option maxRecDepth 100000 in
set_option maxHeartbeats 4000000 in
theorem ok_X9_speakingDays {d : Nat} {post : jPo} {σ : jSt} {v1 : Int32} (h : vc_X9_speakingDays d post σ v1) : jv_wp (d + 1) post (104, 0, [some (.ref 34), some (.int v1), none, none], [], σ) := jv_go_ok 5 [4] _ _ _ h
def vc_X9_speakingDays_L4 (d : Nat) (post : jPo) (σ : jSt) (v1 : Int32) (v2 : Int32) (v3 : Int32) : Prop :=
 (((iI 31) ≤ v3 → post (some (.int v2)) σ) ∧
 (¬ (iI 31) ≤ v3 → jq_I d 96 [.ref 34, .int v1, .int ((σ.1 34 5) + v3)] σ (fun x2 s1 =>
 ((x2 = 0 → (let x3 : Int32 := (v2 + (iI 0))
 (let x4 : Int32 := (v3 + (iI 1))
 jv_wp (d + 1) post (104, 4, [some (.ref 34), some (.int v1), some (.int x3), some (.int x4)], [], s1)))) ∧
 (¬ x2 = 0 → (let x5 : Int32 := (v2 + (iI 1))
 (let x6 : Int32 := (v3 + (iI 1))
 jv_wp (d + 1) post (104, 4, [some (.ref 34), some (.int v1), some (.int x5), some (.int x6)], [], s1))))))))
set_option maxRecDepth 100000 in
set_option maxHeartbeats 4000000 in
theorem ok_X9_speakingDays_L4 {d : Nat} {post : jPo} {σ : jSt} {v1 : Int32} {v2 : Int32} {v3 : Int32} (h : vc_X9_speakingDays_L4 d post σ v1 v2 v3) : jv_wp (d + 1) post (104, 4, [some (.ref 34), some (.int v1), some (.int v2), some (.int v3)], [], σ) := jv_go_ok 19 [4] _ _ _ h
def vc_X9_tellPerson (d : Nat) (post : jPo) (σ : jSt) (v1 : Int32) (v2 : Int32) : Prop :=
 ((v2 = (iI 0) → (vp_in v1 6 ∧ post (some (.int (σ.1 36 v1.toNatClampNeg))) σ)) ∧
 (¬ v2 = (iI 0) → ((v2 = (iI 1) → (vp_in v1 6 ∧ post (some (.int (σ.1 37 v1.toNatClampNeg))) σ)) ∧
 (¬ v2 = (iI 1) → ((v2 = (iI 2) → (vp_in v1 6 ∧ post (some (.int (σ.1 38 v1.toNatClampNeg))) σ)) ∧
 (¬ v2 = (iI 2) → ((v2 = (iI 3) → (vp_in v1 6 ∧ post (some (.int (σ.1 39 v1.toNatClampNeg))) σ)) ∧
 (¬ v2 = (iI 3) → ((v2 = (iI 4) → jq_I d 96 [.ref 34, .int v1, .int (σ.1 34 5)] σ (fun x2 s1 =>
 ((x2 = 0 → post (some (.int (iI 0))) s1) ∧
 (¬ x2 = 0 → post (some (.int (iI 1))) s1)))) ∧
 (¬ v2 = (iI 4) → ((v2 = (iI 5) → jq_I d 104 [.ref 34, .int v1] σ (fun x4 s3 =>
 post (some (.int x4)) s3)) ∧
 (¬ v2 = (iI 5) → ((v2 = (iI 6) → jq_I d 130 [.ref 34, .int v1] σ (fun x6 s5 =>
 post (some (.int x6)) s5)) ∧
 (¬ v2 = (iI 6) → ((v2 = (iI 7) → jq_I d 131 [.ref 34, .int v1] σ (fun x8 s7 =>
 post (some (.int x8)) s7)) ∧
 (¬ v2 = (iI 7) → post (some (.int (iI (-102)))) σ))))))))))))))))
set_option maxRecDepth 100000 in
set_option maxHeartbeats 4000000 in
theorem ok_X9_tellPerson {d : Nat} {post : jPo} {σ : jSt} {v1 : Int32} {v2 : Int32} (h : vc_X9_tellPerson d post σ v1 v2) : jv_wp (d + 1) post (105, 0, [some (.ref 34), some (.int v1), some (.int v2)], [], σ) := jv_go_ok 11 [] _ _ _ h
def vc_X9_person (d : Nat) (post : jPo) (σ : jSt) (v1 : Int32) (v2 : Int32) : Prop :=
 jq_I d 90 [.ref 34, .int v1] σ (fun x2 s1 =>
 ((x2 = 0 → post (some (.int (iI (-101)))) s1) ∧
 (¬ x2 = 0 → jq_I d 105 [.ref 34, .int v1, .int v2] s1 (fun x4 s3 =>
 post (some (.int x4)) s3))))
set_option maxRecDepth 100000 in
set_option maxHeartbeats 4000000 in
theorem ok_X9_person {d : Nat} {post : jPo} {σ : jSt} {v1 : Int32} {v2 : Int32} (h : vc_X9_person d post σ v1 v2) : jv_wp (d + 1) post (106, 0, [some (.ref 34), some (.int v1), some (.int v2)], [], σ) := jv_go_ok 10 [] _ _ _ h
def vc_X9_as (d : Nat) (post : jPo) (σ : jSt) (v1 : Int32) (v2 : Int32) : Prop :=
 jq_I d 90 [.ref 34, .int v1] σ (fun x2 s1 =>
 ((¬ x2 = 0 → jq_I d 78 [.long (v2).toInt64, .long (Int64.ofNat 0), .long (Int64.ofNat 4)] s1 (fun x4 s3 =>
 ((¬ x4 = 0 → ((v2 = 0 → post (some (.int v1)) s3) ∧
 (¬ v2 = 0 → (vp_in v1 6 ∧ ((v2 = (s3.1 36 v1.toNatClampNeg) → post (some (.int v1)) s3) ∧
 (¬ v2 = (s3.1 36 v1.toNatClampNeg) → ((¬ v2 = (iI 1) → post (some (.int (iI (-1)))) s3) ∧
 (v2 = (iI 1) → (vp_in v1 6 ∧ ((¬ (s3.1 36 v1.toNatClampNeg) = (iI 4) → post (some (.int (iI (-1)))) s3) ∧
 ((s3.1 36 v1.toNatClampNeg) = (iI 4) → post (some (.int v1)) s3))))))))))) ∧
 (x4 = 0 → post (some (.int (iI (-102)))) s3)))) ∧
 (x2 = 0 → post (some (.int (iI (-101)))) s1)))
set_option maxRecDepth 100000 in
set_option maxHeartbeats 4000000 in
theorem ok_X9_as {d : Nat} {post : jPo} {σ : jSt} {v1 : Int32} {v2 : Int32} (h : vc_X9_as d post σ v1 v2) : jv_wp (d + 1) post (107, 0, [some (.ref 34), some (.int v1), some (.int v2), none], [], σ) := jv_go_ok 35 [] _ _ _ (show jq_I d 90 [.ref 34, .int v1] σ (fun x2 s1 =>
 ((¬ x2 = 0 → jq_I d 78 [.long (v2).toInt64, .long (Int64.ofNat 0), .long (Int64.ofNat 4)] s1 (fun x4 s3 =>
 ((¬ x4 = 0 → ((v2 = 0 → (((iI 1) = 0 → post (some (.int (iI (-1)))) s3) ∧
 (¬ (iI 1) = 0 → post (some (.int v1)) s3))) ∧
 (¬ v2 = 0 → (vp_in v1 6 ∧ ((v2 = (s3.1 36 v1.toNatClampNeg) → (((iI 1) = 0 → post (some (.int (iI (-1)))) s3) ∧
 (¬ (iI 1) = 0 → post (some (.int v1)) s3))) ∧
 (¬ v2 = (s3.1 36 v1.toNatClampNeg) → ((¬ v2 = (iI 1) → (((iI 0) = 0 → post (some (.int (iI (-1)))) s3) ∧
 (¬ (iI 0) = 0 → post (some (.int v1)) s3))) ∧
 (v2 = (iI 1) → (vp_in v1 6 ∧ ((¬ (s3.1 36 v1.toNatClampNeg) = (iI 4) → (((iI 0) = 0 → post (some (.int (iI (-1)))) s3) ∧
 (¬ (iI 0) = 0 → post (some (.int v1)) s3))) ∧
 ((s3.1 36 v1.toNatClampNeg) = (iI 4) → (((iI 1) = 0 → post (some (.int (iI (-1)))) s3) ∧
 (¬ (iI 1) = 0 → post (some (.int v1)) s3))))))))))))) ∧
 (x4 = 0 → post (some (.int (iI (-102)))) s3)))) ∧
 (x2 = 0 → post (some (.int (iI (-101)))) s1))) from jq_I_con (h) (fun x2 s1 h205 => ⟨fun c206 => jq_I_con (((h205).1 c206)) (fun x4 s3 h207 => ⟨fun c208 => ⟨fun c209 => ⟨fun q => absurd q (by decide +kernel), fun _ => ((((h207).1 c208)).1 c209)⟩, fun c209 => ⟨(((((h207).1 c208)).2 c209)).1, ⟨fun c213 => ⟨fun q => absurd q (by decide +kernel), fun _ => (((((((h207).1 c208)).2 c209)).2).1 c213)⟩, fun c213 => ⟨fun c216 => ⟨fun _ => (((((((((h207).1 c208)).2 c209)).2).2 c213)).1 c216), fun q => absurd q (by decide +kernel)⟩, fun c216 => ⟨((((((((((h207).1 c208)).2 c209)).2).2 c213)).2 c216)).1, ⟨fun c220 => ⟨fun _ => ((((((((((((h207).1 c208)).2 c209)).2).2 c213)).2 c216)).2).1 c220), fun q => absurd q (by decide +kernel)⟩, fun c220 => ⟨fun q => absurd q (by decide +kernel), fun _ => ((((((((((((h207).1 c208)).2 c209)).2).2 c213)).2 c216)).2).2 c220)⟩⟩⟩⟩⟩⟩⟩, fun c208 => ((h207).2 c208)⟩), fun c206 => ((h205).2 c206)⟩))
def vc_X9_soonOf (d : Nat) (post : jPo) (σ : jSt) (v1 : Int32) : Prop :=
 jq_V d 99 [.ref 34] σ (fun s1 =>
 jv_wp (d + 1) post (108, 6, [some (.ref 34), some (.int v1), some (.int (iI 0))], [], s1))
set_option maxRecDepth 100000 in
set_option maxHeartbeats 4000000 in
theorem ok_X9_soonOf {d : Nat} {post : jPo} {σ : jSt} {v1 : Int32} (h : vc_X9_soonOf d post σ v1) : jv_wp (d + 1) post (108, 0, [some (.ref 34), some (.int v1), none], [], σ) := jv_go_ok 5 [6] _ _ _ h
def vc_X9_soonOf_L6 (d : Nat) (post : jPo) (σ : jSt) (v1 : Int32) (v2 : Int32) : Prop :=
 (((iI 71) ≤ v2 → post (some (.int (iI (-1)))) σ) ∧
 (¬ (iI 71) ≤ v2 → jq_I d 102 [.ref 34, .int v1, .int ((σ.1 34 5) + v2)] σ (fun x2 s1 =>
 ((x2 = 0 → (let x3 : Int32 := (v2 + (iI 1))
 jv_wp (d + 1) post (108, 6, [some (.ref 34), some (.int v1), some (.int x3)], [], s1))) ∧
 (¬ x2 = 0 → jq_I d 103 [.ref 34, .int v1, .int ((s1.1 34 5) + v2)] s1 (fun x5 s4 =>
 (vp_in v1 5 ∧ ((¬ (s4.1 45 v1.toNatClampNeg) = (iI 2) → (let x6 : Int32 := (v2 + (iI 1))
 jv_wp (d + 1) post (108, 6, [some (.ref 34), some (.int v1), some (.int x6)], [], s4))) ∧
 ((s4.1 45 v1.toNatClampNeg) = (iI 2) → post (some (.int v2)) s4)))))))))
set_option maxRecDepth 100000 in
set_option maxHeartbeats 4000000 in
theorem ok_X9_soonOf_L6 {d : Nat} {post : jPo} {σ : jSt} {v1 : Int32} {v2 : Int32} (h : vc_X9_soonOf_L6 d post σ v1 v2) : jv_wp (d + 1) post (108, 6, [some (.ref 34), some (.int v1), some (.int v2)], [], σ) := jv_go_ok 28 [6] _ _ _ h
def vc_X9_tellMatter (d : Nat) (post : jPo) (σ : jSt) (v1 : Int32) (v2 : Int32) : Prop :=
 jq_V d 99 [.ref 34] σ (fun s1 =>
 ((v2 = (iI 0) → (vp_in v1 5 ∧ post (some (.int (s1.1 40 v1.toNatClampNeg))) s1)) ∧
 (¬ v2 = (iI 0) → ((v2 = (iI 1) → (vp_in v1 5 ∧ post (some (.int (s1.1 41 v1.toNatClampNeg))) s1)) ∧
 (¬ v2 = (iI 1) → ((v2 = (iI 2) → (vp_in v1 5 ∧ post (some (.int (s1.1 42 v1.toNatClampNeg))) s1)) ∧
 (¬ v2 = (iI 2) → ((v2 = (iI 3) → (vp_in v1 5 ∧ post (some (.int (s1.1 43 v1.toNatClampNeg))) s1)) ∧
 (¬ v2 = (iI 3) → ((v2 = (iI 4) → (vp_in v1 5 ∧ ((¬ (s1.1 43 v1.toNatClampNeg) = (iI 1) → post (some (.int (iI (-1)))) s1) ∧
 ((s1.1 43 v1.toNatClampNeg) = (iI 1) → (vp_in v1 5 ∧ post (some (.int ((s1.1 34 5) - (s1.1 44 v1.toNatClampNeg)))) s1))))) ∧
 (¬ v2 = (iI 4) → ((v2 = (iI 5) → (vp_in v1 5 ∧ ((¬ (s1.1 43 v1.toNatClampNeg) = (iI 1) → post (some (.int (iI (-1)))) s1) ∧
 ((s1.1 43 v1.toNatClampNeg) = (iI 1) → jq_I d 102 [.ref 34, .int v1, .int (s1.1 34 5)] s1 (fun x3 s2 =>
 ((x3 = 0 → post (some (.int (iI (-1)))) s2) ∧
 (¬ x3 = 0 → jq_I d 101 [.ref 34, .int v1, .int (s2.1 34 5)] s2 (fun x5 s4 =>
 post (some (.int x5)) s4)))))))) ∧
 (¬ v2 = (iI 5) → ((v2 = (iI 6) → jq_I d 108 [.ref 34, .int v1] s1 (fun x7 s6 =>
 post (some (.int x7)) s6)) ∧
 (¬ v2 = (iI 6) → post (some (.int (iI (-102)))) s1)))))))))))))))
set_option maxRecDepth 100000 in
set_option maxHeartbeats 4000000 in
theorem ok_X9_tellMatter {d : Nat} {post : jPo} {σ : jSt} {v1 : Int32} {v2 : Int32} (h : vc_X9_tellMatter d post σ v1 v2) : jv_wp (d + 1) post (109, 0, [some (.ref 34), some (.int v1), some (.int v2)], [], σ) := jv_go_ok 23 [] _ _ _ h
def vc_X9_matter (d : Nat) (post : jPo) (σ : jSt) (v1 : Int32) (v2 : Int32) : Prop :=
 jq_I d 91 [.ref 34, .int v1] σ (fun x2 s1 =>
 ((x2 = 0 → post (some (.int (iI (-101)))) s1) ∧
 (¬ x2 = 0 → jq_I d 109 [.ref 34, .int v1, .int v2] s1 (fun x4 s3 =>
 post (some (.int x4)) s3))))
set_option maxRecDepth 100000 in
set_option maxHeartbeats 4000000 in
theorem ok_X9_matter {d : Nat} {post : jPo} {σ : jSt} {v1 : Int32} {v2 : Int32} (h : vc_X9_matter d post σ v1 v2) : jv_wp (d + 1) post (110, 0, [some (.ref 34), some (.int v1), some (.int v2)], [], σ) := jv_go_ok 10 [] _ _ _ h
def vc_X9_tellDate (d : Nat) (post : jPo) (σ : jSt) (v1 : Int32) (v2 : Int32) : Prop :=
 ((¬ v2 = (iI 3) → jq_V d 93 [.ref 34, .int v1] σ (fun s1 =>
 ((¬ v2 = 0 → ((¬ v2 = (iI 1) → post (some (.int (s1.1 34 19))) s1) ∧
 (v2 = (iI 1) → post (some (.int (s1.1 34 18))) s1))) ∧
 (v2 = 0 → post (some (.int (s1.1 34 17))) s1)))) ∧
 (v2 = (iI 3) → jq_I d 97 [.ref 34, .int v1] σ (fun x3 s2 =>
 post (some (.int x3)) s2)))
set_option maxRecDepth 100000 in
set_option maxHeartbeats 4000000 in
theorem ok_X9_tellDate {d : Nat} {post : jPo} {σ : jSt} {v1 : Int32} {v2 : Int32} (h : vc_X9_tellDate d post σ v1 v2) : jv_wp (d + 1) post (111, 0, [some (.ref 34), some (.int v1), some (.int v2)], [], σ) := jv_go_ok 15 [] _ _ _ h
def vc_X9_date (d : Nat) (post : jPo) (σ : jSt) (v1 : Int32) (v2 : Int32) : Prop :=
 jq_I d 78 [.long (v1).toInt64, .long (Int64.ofNat 0), .long (Int64.ofNat 366)] σ (fun x2 s1 =>
 ((x2 = 0 → post (some (.int (iI (-102)))) s1) ∧
 (¬ x2 = 0 → jq_I d 78 [.long (v2).toInt64, .long (Int64.ofNat 0), .long (Int64.ofNat 3)] s1 (fun x4 s3 =>
 ((¬ x4 = 0 → jq_I d 89 [.ref 34] s3 (fun x6 s5 =>
 ((x6 = 0 → jq_I d 111 [.ref 34, .int ((s5.1 34 5) + v1), .int v2] s5 (fun x8 s7 =>
 post (some (.int x8)) s7)) ∧
 (¬ x6 = 0 → post (some (.int (iI (-103)))) s5)))) ∧
 (x4 = 0 → post (some (.int (iI (-102)))) s3))))))
set_option maxRecDepth 100000 in
set_option maxHeartbeats 4000000 in
theorem ok_X9_date {d : Nat} {post : jPo} {σ : jSt} {v1 : Int32} {v2 : Int32} (h : vc_X9_date d post σ v1 v2) : jv_wp (d + 1) post (112, 0, [some (.ref 34), some (.int v1), some (.int v2)], [], σ) := jv_go_ok 23 [] _ _ _ h
def vc_X9_say (d : Nat) (post : jPo) (σ : jSt) (v1 : Int32) : Prop :=
 jq_I d 91 [.ref 34, .int v1] σ (fun x2 s1 =>
 ((¬ x2 = 0 → jq_V d 99 [.ref 34] s1 (fun s3 =>
 jq_I d 102 [.ref 34, .int v1, .int (s3.1 34 5)] s3 (fun x5 s4 =>
 ((¬ x5 = 0 → jq_I d 103 [.ref 34, .int v1, .int (s4.1 34 5)] s4 (fun x7 s6 =>
 jq_V d 100 [.ref 34] s6 (fun s8 =>
 ((x7 ≤ 0 → (let s9 : jSt := jv_u s8 34 6 ((s8.1 34 6) + (iI 0))
 post (some (.int x7)) s9)) ∧
 (¬ x7 ≤ 0 → (let s10 : jSt := jv_u s8 34 6 ((s8.1 34 6) + x7)
 post (some (.int x7)) s10)))))) ∧
 (x5 = 0 → post (some (.int (iI (-103)))) s4))))) ∧
 (x2 = 0 → post (some (.int (iI (-101)))) s1)))
set_option maxRecDepth 100000 in
set_option maxHeartbeats 4000000 in
theorem ok_X9_say {d : Nat} {post : jPo} {σ : jSt} {v1 : Int32} (h : vc_X9_say d post σ v1) : jv_wp (d + 1) post (113, 0, [some (.ref 34), some (.int v1), none], [], σ) := jv_go_ok 31 [] _ _ _ h
def vc_X9_day (d : Nat) (post : jPo) (σ : jSt)  : Prop :=
 jq_I d 89 [.ref 34] σ (fun x2 s1 =>
 ((x2 = 0 → ((¬ (s1.1 34 5) = (iI 1460) → (let s3 : jSt := jv_u s1 34 5 ((s1.1 34 5) + (iI 1))
 post (some (.int (s3.1 34 5))) s3)) ∧
 ((s1.1 34 5) = (iI 1460) → post (some (.int (iI (-104)))) s1))) ∧
 (¬ x2 = 0 → post (some (.int (iI (-103)))) s1)))
set_option maxRecDepth 100000 in
set_option maxHeartbeats 4000000 in
theorem ok_X9_day {d : Nat} {post : jPo} {σ : jSt} (h : vc_X9_day d post σ ) : jv_wp (d + 1) post (114, 0, [some (.ref 34)], [], σ) := jv_go_ok 16 [] _ _ _ h
def vc_X9_cross (d : Nat) (post : jPo) (σ : jSt) (v1 : Int32) : Prop :=
 jq_I d 90 [.ref 34, .int v1] σ (fun x2 s1 =>
 ((¬ x2 = 0 → (vp_in v1 6 ∧ (vp_in v1 6 ∧ (let s3 : jSt := jv_u s1 38 v1.toNatClampNeg ((iI 1) - (s1.1 38 v1.toNatClampNeg))
 jv_wp (d + 1) post (115, 29, [some (.ref 34), some (.int v1), some (.int (iI 0)), some (.int (iI 0))], [], s3))))) ∧
 (x2 = 0 → post (some (.int (iI (-101)))) s1)))
set_option maxRecDepth 100000 in
set_option maxHeartbeats 4000000 in
theorem ok_X9_cross {d : Nat} {post : jPo} {σ : jSt} {v1 : Int32} (h : vc_X9_cross d post σ v1) : jv_wp (d + 1) post (115, 0, [some (.ref 34), some (.int v1), none, none], [], σ) := jv_go_ok 19 [29] _ _ _ h
def vc_X9_cross_L29 (d : Nat) (post : jPo) (σ : jSt) (v1 : Int32) (v2 : Int32) (v3 : Int32) : Prop :=
 (((σ.1 34 4) ≤ v3 → post (some (.int v2)) σ) ∧
 (¬ (σ.1 34 4) ≤ v3 → (vp_in v3 5 ∧ ((¬ (σ.1 40 v3.toNatClampNeg) = v1 → (let x1 : Int32 := (v3 + (iI 1))
 jv_wp (d + 1) post (115, 29, [some (.ref 34), some (.int v1), some (.int v2), some (.int x1)], [], σ))) ∧
 ((σ.1 40 v3.toNatClampNeg) = v1 → (vp_in v3 5 ∧ ((¬ (σ.1 43 v3.toNatClampNeg) = (iI 1) → (let x2 : Int32 := (v3 + (iI 1))
 jv_wp (d + 1) post (115, 29, [some (.ref 34), some (.int v1), some (.int v2), some (.int x2)], [], σ))) ∧
 ((σ.1 43 v3.toNatClampNeg) = (iI 1) → (vp_in v3 5 ∧ (let s3 : jSt := jv_u σ 43 v3.toNatClampNeg (iI 0)
 (let x4 : Int32 := (v2 + (iI 1))
 (let x5 : Int32 := (v3 + (iI 1))
 jv_wp (d + 1) post (115, 29, [some (.ref 34), some (.int v1), some (.int x4), some (.int x5)], [], s3)))))))))))))
set_option maxRecDepth 100000 in
set_option maxHeartbeats 4000000 in
theorem ok_X9_cross_L29 {d : Nat} {post : jPo} {σ : jSt} {v1 : Int32} {v2 : Int32} {v3 : Int32} (h : vc_X9_cross_L29 d post σ v1 v2 v3) : jv_wp (d + 1) post (115, 29, [some (.ref 34), some (.int v1), some (.int v2), some (.int v3)], [], σ) := jv_go_ok 25 [29] _ _ _ h
def vc_X9_open (d : Nat) (post : jPo) (σ : jSt) (v1 : Int32) (v2 : Int32) : Prop :=
 jq_I d 91 [.ref 34, .int v1] σ (fun x2 s1 =>
 ((¬ x2 = 0 → jq_I d 78 [.long (v2).toInt64, .long (Int64.ofNat 1), .long (Int64.ofNat 9)] s1 (fun x4 s3 =>
 ((¬ x4 = 0 → (vp_in v1 5 ∧ (let x5 : Int32 := (s3.1 43 v1.toNatClampNeg)
 (vp_in v1 5 ∧ (let s6 : jSt := jv_u s3 43 v1.toNatClampNeg (iI 0)
 (vp_in v1 5 ∧ (let s7 : jSt := jv_u s6 42 v1.toNatClampNeg v2
 post (some (.int x5)) s7))))))) ∧
 (x4 = 0 → post (some (.int (iI (-102)))) s3)))) ∧
 (x2 = 0 → post (some (.int (iI (-101)))) s1)))
set_option maxRecDepth 100000 in
set_option maxHeartbeats 4000000 in
theorem ok_X9_open {d : Nat} {post : jPo} {σ : jSt} {v1 : Int32} {v2 : Int32} (h : vc_X9_open d post σ v1 v2) : jv_wp (d + 1) post (116, 0, [some (.ref 34), some (.int v1), some (.int v2), none], [], σ) := jv_go_ok 27 [] _ _ _ h
def vc_X9_change (d : Nat) (post : jPo) (σ : jSt) (v1 : Int32) (v2 : Int32) (v3 : Int32) : Prop :=
 jq_I d 90 [.ref 34, .int v1] σ (fun x2 s1 =>
 ((¬ x2 = 0 → jq_I d 78 [.long (v2).toInt64, .long (Int64.ofNat 0), .long (Int64.ofNat 4)] s1 (fun x4 s3 =>
 ((x4 = 0 → post (some (.int (iI (-102)))) s3) ∧
 (¬ x4 = 0 → jq_I d 78 [.long (v3).toInt64, .long (Int64.ofNat 0), .long (Int64.ofNat 9)] s3 (fun x6 s5 =>
 ((¬ x6 = 0 → (vp_in v1 6 ∧ (let x7 : Int32 := (s5.1 36 v1.toNatClampNeg)
 (vp_in v1 6 ∧ (let s8 : jSt := jv_u s5 36 v1.toNatClampNeg v2
 (vp_in v1 6 ∧ (let s9 : jSt := jv_u s8 39 v1.toNatClampNeg v3
 post (some (.int x7)) s9))))))) ∧
 (x6 = 0 → post (some (.int (iI (-102)))) s5))))))) ∧
 (x2 = 0 → post (some (.int (iI (-101)))) s1)))
set_option maxRecDepth 100000 in
set_option maxHeartbeats 4000000 in
theorem ok_X9_change {d : Nat} {post : jPo} {σ : jSt} {v1 : Int32} {v2 : Int32} {v3 : Int32} (h : vc_X9_change d post σ v1 v2 v3) : jv_wp (d + 1) post (117, 0, [some (.ref 34), some (.int v1), some (.int v2), some (.int v3), none], [], σ) := jv_go_ok 33 [] _ _ _ h
def vc_X9_figure (d : Nat) (post : jPo) (σ : jSt) (v0 : Int32) (v1 : Int32) (v2 : Int32) : Prop :=
 post (some (.int ((v0 >>> (((iI 3) * ((v1 - (iI 1)) - v2)) &&& 31)) &&& (iI 7)))) σ
set_option maxRecDepth 100000 in
set_option maxHeartbeats 4000000 in
theorem ok_X9_figure {d : Nat} {post : jPo} {σ : jSt} {v0 : Int32} {v1 : Int32} {v2 : Int32} (h : vc_X9_figure d post σ v0 v1 v2) : jv_wp (d + 1) post (118, 0, [some (.int v0), some (.int v1), some (.int v2)], [], σ) := jv_go_ok 12 [] _ _ _ h
def vc_X9_worthBy (d : Nat) (post : jPo) (σ : jSt) (v1 : Int32) (v2 : Int32) : Prop :=
 jq_V d 99 [.ref 34] σ (fun s1 =>
 jv_wp (d + 1) post (119, 9, [some (.ref 34), some (.int v1), some (.int v2), some (.int (iI 0)), some (.int (iI 0)), none, none], [], s1))
set_option maxRecDepth 100000 in
set_option maxHeartbeats 4000000 in
theorem ok_X9_worthBy {d : Nat} {post : jPo} {σ : jSt} {v1 : Int32} {v2 : Int32} (h : vc_X9_worthBy d post σ v1 v2) : jv_wp (d + 1) post (119, 0, [some (.ref 34), some (.int v1), some (.int v2), none, none, none, none], [], σ) := jv_go_ok 7 [9, 110] _ _ _ h
def vc_X9_worthBy_L9 (d : Nat) (post : jPo) (σ : jSt) (v1 : Int32) (v2 : Int32) (v3 : Int32) (v4 : Int32) (z5 : Option Value) (z6 : Option Value) : Prop :=
 ((v2 ≤ v4 → jv_wp (d + 1) post (119, 110, [some (.ref 34), some (.int v1), some (.int v2), some (.int v3), some (.int (iI 0)), z5, z6], [], σ)) ∧
 (¬ v2 ≤ v4 → jq_I d 118 [.int v1, .int v2, .int v4] σ (fun x2 s1 =>
 (((iI 7) ≤ x2 → (((iI 7) ≤ x2 → (let x3 : Int32 := (v4 + (iI 1))
 jv_wp (d + 1) post (119, 9, [some (.ref 34), some (.int v1), some (.int v2), some (.int v3), some (.int x3), some (.int x2), z6], [], s1))) ∧
 (¬ (iI 7) ≤ x2 → jq_I d 103 [.ref 34, .int x2, .int ((s1.1 34 5) + v4)] s1 (fun x5 s4 =>
 ((¬ x5 = (iI (-1)) → (let x6 : Int32 := (v3 + (((iI 100) * x5) + (iI 10)))
 (let x7 : Int32 := (v4 + (iI 1))
 jv_wp (d + 1) post (119, 9, [some (.ref 34), some (.int v1), some (.int v2), some (.int x6), some (.int x7), some (.int x2), some (.int x5)], [], s4)))) ∧
 (x5 = (iI (-1)) → (let x8 : Int32 := (v3 + (iI 0))
 (let x9 : Int32 := (v4 + (iI 1))
 jv_wp (d + 1) post (119, 9, [some (.ref 34), some (.int v1), some (.int v2), some (.int x8), some (.int x9), some (.int x2), some (.int x5)], [], s4))))))))) ∧
 (¬ (iI 7) ≤ x2 → (((s1.1 34 4) ≤ x2 → post (some (.int (iI (-1)))) s1) ∧
 (¬ (s1.1 34 4) ≤ x2 → jq_I d 102 [.ref 34, .int x2, .int ((s1.1 34 5) + v4)] s1 (fun x11 s10 =>
 ((¬ x11 = 0 → (((iI 7) ≤ x2 → (let x12 : Int32 := (v4 + (iI 1))
 jv_wp (d + 1) post (119, 9, [some (.ref 34), some (.int v1), some (.int v2), some (.int v3), some (.int x12), some (.int x2), z6], [], s10))) ∧
 (¬ (iI 7) ≤ x2 → jq_I d 103 [.ref 34, .int x2, .int ((s10.1 34 5) + v4)] s10 (fun x14 s13 =>
 ((¬ x14 = (iI (-1)) → (let x15 : Int32 := (v3 + (((iI 100) * x14) + (iI 10)))
 (let x16 : Int32 := (v4 + (iI 1))
 jv_wp (d + 1) post (119, 9, [some (.ref 34), some (.int v1), some (.int v2), some (.int x15), some (.int x16), some (.int x2), some (.int x14)], [], s13)))) ∧
 (x14 = (iI (-1)) → (let x17 : Int32 := (v3 + (iI 0))
 (let x18 : Int32 := (v4 + (iI 1))
 jv_wp (d + 1) post (119, 9, [some (.ref 34), some (.int v1), some (.int v2), some (.int x17), some (.int x18), some (.int x2), some (.int x14)], [], s13))))))))) ∧
 (x11 = 0 → post (some (.int (iI (-1)))) s10))))))))))
set_option maxRecDepth 100000 in
set_option maxHeartbeats 4000000 in
theorem ok_X9_worthBy_L9 {d : Nat} {post : jPo} {σ : jSt} {v1 : Int32} {v2 : Int32} {v3 : Int32} {v4 : Int32} {z5 : Option Value} {z6 : Option Value} (h : vc_X9_worthBy_L9 d post σ v1 v2 v3 v4 z5 z6) : jv_wp (d + 1) post (119, 9, [some (.ref 34), some (.int v1), some (.int v2), some (.int v3), some (.int v4), z5, z6], [], σ) := jv_go_ok 48 [9, 110] _ _ _ h
def vc_X9_worthBy_L110 (d : Nat) (post : jPo) (σ : jSt) (v1 : Int32) (v2 : Int32) (v3 : Int32) (v4 : Int32) (z5 : Option Value) (z6 : Option Value) : Prop :=
 (((σ.1 34 4) ≤ v4 → post (some (.int v3)) σ) ∧
 (¬ (σ.1 34 4) ≤ v4 → (vp_in v4 5 ∧ ((¬ (σ.1 45 v4.toNatClampNeg) = (iI 1) → (let x1 : Int32 := (v3 + (iI 0))
 (let x2 : Int32 := (v4 + (iI 1))
 jv_wp (d + 1) post (119, 110, [some (.ref 34), some (.int v1), some (.int v2), some (.int x1), some (.int x2), z5, z6], [], σ)))) ∧
 ((σ.1 45 v4.toNatClampNeg) = (iI 1) → (let x3 : Int32 := (v3 + (iI 1))
 (let x4 : Int32 := (v4 + (iI 1))
 jv_wp (d + 1) post (119, 110, [some (.ref 34), some (.int v1), some (.int v2), some (.int x3), some (.int x4), z5, z6], [], σ))))))))
set_option maxRecDepth 100000 in
set_option maxHeartbeats 4000000 in
theorem ok_X9_worthBy_L110 {d : Nat} {post : jPo} {σ : jSt} {v1 : Int32} {v2 : Int32} {v3 : Int32} {v4 : Int32} {z5 : Option Value} {z6 : Option Value} (h : vc_X9_worthBy_L110 d post σ v1 v2 v3 v4 z5 z6) : jv_wp (d + 1) post (119, 110, [some (.ref 34), some (.int v1), some (.int v2), some (.int v3), some (.int v4), z5, z6], [], σ) := jv_go_ok 18 [9, 110] _ _ _ h
def vc_X9_bestOf (d : Nat) (post : jPo) (σ : jSt) (v1 : Int32) (v2 : Int32) : Prop :=
 jv_wp (d + 1) post (120, 8, [some (.ref 34), some (.int v1), some (.int v2), some (.int (iI 0)), some (.int (iI (-1))), some (.int (iI 0)), none], [], σ)
set_option maxRecDepth 100000 in
set_option maxHeartbeats 4000000 in
theorem ok_X9_bestOf {d : Nat} {post : jPo} {σ : jSt} {v1 : Int32} {v2 : Int32} (h : vc_X9_bestOf d post σ v1 v2) : jv_wp (d + 1) post (120, 0, [some (.ref 34), some (.int v1), some (.int v2), none, none, none, none], [], σ) := jv_go_ok 7 [8] _ _ _ h
def vc_X9_bestOf_L8 (d : Nat) (post : jPo) (σ : jSt) (v1 : Int32) (v2 : Int32) (v3 : Int32) (v4 : Int32) (v5 : Int32) (z6 : Option Value) : Prop :=
 ((((iI 1) <<< (((iI 3) * v1) &&& 31)) ≤ v5 → (((iI 2) ≤ v2 → ((v1 ≤ (v2 - (iI 10)) → post (some (.int (iI (-1)))) σ) ∧
 (¬ v1 ≤ (v2 - (iI 10)) → jq_I d 118 [.int v3, .int v1, .int (v2 - (iI 10))] σ (fun x2 s1 =>
 post (some (.int x2)) s1)))) ∧
 (¬ (iI 2) ≤ v2 → ((¬ v2 = 0 → post (some (.int ((v4 / (iI 10)) - (v4 / (iI 10)) / (iI 10) * (iI 10)))) σ) ∧
 (v2 = 0 → post (some (.int (v4 / (iI 100)))) σ))))) ∧
 (¬ ((iI 1) <<< (((iI 3) * v1) &&& 31)) ≤ v5 → jq_I d 119 [.ref 34, .int v5, .int v1] σ (fun x4 s3 =>
 ((x4 ≤ v4 → ((x4 ≤ v4 → (let x5 : Int32 := (v5 + (iI 1))
 jv_wp (d + 1) post (120, 8, [some (.ref 34), some (.int v1), some (.int v2), some (.int v3), some (.int v4), some (.int x5), some (.int x4)], [], s3))) ∧
 (¬ x4 ≤ v4 → (let x6 : Int32 := (v5 + (iI 1))
 jv_wp (d + 1) post (120, 8, [some (.ref 34), some (.int v1), some (.int v2), some (.int v3), some (.int x4), some (.int x6), some (.int x4)], [], s3))))) ∧
 (¬ x4 ≤ v4 → ((x4 ≤ v4 → (let x7 : Int32 := (v5 + (iI 1))
 jv_wp (d + 1) post (120, 8, [some (.ref 34), some (.int v1), some (.int v2), some (.int v5), some (.int v4), some (.int x7), some (.int x4)], [], s3))) ∧
 (¬ x4 ≤ v4 → (let x8 : Int32 := (v5 + (iI 1))
 jv_wp (d + 1) post (120, 8, [some (.ref 34), some (.int v1), some (.int v2), some (.int v5), some (.int x4), some (.int x8), some (.int x4)], [], s3)))))))))
set_option maxRecDepth 100000 in
set_option maxHeartbeats 4000000 in
theorem ok_X9_bestOf_L8 {d : Nat} {post : jPo} {σ : jSt} {v1 : Int32} {v2 : Int32} {v3 : Int32} {v4 : Int32} {v5 : Int32} {z6 : Option Value} (h : vc_X9_bestOf_L8 d post σ v1 v2 v3 v4 v5 z6) : jv_wp (d + 1) post (120, 8, [some (.ref 34), some (.int v1), some (.int v2), some (.int v3), some (.int v4), some (.int v5), z6], [], σ) := jv_go_ok 27 [8] _ _ _ (show ((((iI 1) <<< (((iI 3) * v1) &&& 31)) ≤ v5 → (((iI 2) ≤ v2 → ((v1 ≤ (v2 - (iI 10)) → post (some (.int (iI (-1)))) σ) ∧
 (¬ v1 ≤ (v2 - (iI 10)) → jq_I d 118 [.int v3, .int v1, .int (v2 - (iI 10))] σ (fun x2 s1 =>
 post (some (.int x2)) s1)))) ∧
 (¬ (iI 2) ≤ v2 → ((¬ v2 = 0 → (¬ (iI 10) = 0 ∧ (¬ (iI 10) = 0 ∧ post (some (.int ((v4 / (iI 10)) - (v4 / (iI 10)) / (iI 10) * (iI 10)))) σ))) ∧
 (v2 = 0 → (¬ (iI 100) = 0 ∧ post (some (.int (v4 / (iI 100)))) σ)))))) ∧
 (¬ ((iI 1) <<< (((iI 3) * v1) &&& 31)) ≤ v5 → jq_I d 119 [.ref 34, .int v5, .int v1] σ (fun x4 s3 =>
 ((x4 ≤ v4 → ((x4 ≤ v4 → (let x5 : Int32 := (v5 + (iI 1))
 jv_wp (d + 1) post (120, 8, [some (.ref 34), some (.int v1), some (.int v2), some (.int v3), some (.int v4), some (.int x5), some (.int x4)], [], s3))) ∧
 (¬ x4 ≤ v4 → (let x6 : Int32 := (v5 + (iI 1))
 jv_wp (d + 1) post (120, 8, [some (.ref 34), some (.int v1), some (.int v2), some (.int v3), some (.int x4), some (.int x6), some (.int x4)], [], s3))))) ∧
 (¬ x4 ≤ v4 → ((x4 ≤ v4 → (let x7 : Int32 := (v5 + (iI 1))
 jv_wp (d + 1) post (120, 8, [some (.ref 34), some (.int v1), some (.int v2), some (.int v5), some (.int v4), some (.int x7), some (.int x4)], [], s3))) ∧
 (¬ x4 ≤ v4 → (let x8 : Int32 := (v5 + (iI 1))
 jv_wp (d + 1) post (120, 8, [some (.ref 34), some (.int v1), some (.int v2), some (.int v5), some (.int x4), some (.int x8), some (.int x4)], [], s3))))))))) from ⟨fun c227 => ⟨fun c228 => ((((h).1 c227)).1 c228), fun c228 => ⟨fun c230 => ⟨by decide +kernel, ⟨by decide +kernel, ((((((h).1 c227)).2 c228)).1 c230)⟩⟩, fun c230 => ⟨by decide +kernel, ((((((h).1 c227)).2 c228)).2 c230)⟩⟩⟩, fun c227 => ((h).2 c227)⟩)
def vc_X9_best (d : Nat) (post : jPo) (σ : jSt) (v1 : Int32) (v2 : Int32) : Prop :=
 jq_I d 78 [.long (v1).toInt64, .long (Int64.ofNat 1), .long (Int64.ofNat 5)] σ (fun x2 s1 =>
 ((x2 = 0 → post (some (.int (iI (-102)))) s1) ∧
 (¬ x2 = 0 → jq_I d 78 [.long (v2).toInt64, .long (Int64.ofNat 0), .long (Int64.ofNat 1)] s1 (fun x4 s3 =>
 ((¬ x4 = 0 → jq_I d 89 [.ref 34] s3 (fun x6 s5 =>
 ((¬ x6 = 0 → post (some (.int (iI (-103)))) s5) ∧
 (x6 = 0 → ((¬ (s5.1 34 22) = (iI 20) → (let s7 : jSt := jv_u s5 34 22 ((s5.1 34 22) + (iI 1))
 jq_I d 120 [.ref 34, .int v1, .int v2] s7 (fun x9 s8 =>
 post (some (.int x9)) s8))) ∧
 ((s5.1 34 22) = (iI 20) → post (some (.int (iI (-103)))) s5)))))) ∧
 (x4 = 0 → jq_I d 78 [.long (v2).toInt64, .long (Int64.ofNat 10), .long (Int64.ofNat 14)] s3 (fun x11 s10 =>
 ((¬ x11 = 0 → jq_I d 89 [.ref 34] s10 (fun x13 s12 =>
 ((¬ x13 = 0 → post (some (.int (iI (-103)))) s12) ∧
 (x13 = 0 → ((¬ (s12.1 34 22) = (iI 20) → (let s14 : jSt := jv_u s12 34 22 ((s12.1 34 22) + (iI 1))
 jq_I d 120 [.ref 34, .int v1, .int v2] s14 (fun x16 s15 =>
 post (some (.int x16)) s15))) ∧
 ((s12.1 34 22) = (iI 20) → post (some (.int (iI (-103)))) s12)))))) ∧
 (x11 = 0 → post (some (.int (iI (-102)))) s10)))))))))
set_option maxRecDepth 100000 in
set_option maxHeartbeats 4000000 in
theorem ok_X9_best {d : Nat} {post : jPo} {σ : jSt} {v1 : Int32} {v2 : Int32} (h : vc_X9_best d post σ v1 v2) : jv_wp (d + 1) post (121, 0, [some (.ref 34), some (.int v1), some (.int v2)], [], σ) := jv_go_ok 36 [] _ _ _ h
def vc_X9_settledBy (d : Nat) (post : jPo) (σ : jSt) (v1 : Int32) : Prop :=
 jv_wp (d + 1) post (122, 2, [some (.ref 34), some (.int v1), some (.int (iI 0)), none], [], σ)
set_option maxRecDepth 100000 in
set_option maxHeartbeats 4000000 in
theorem ok_X9_settledBy {d : Nat} {post : jPo} {σ : jSt} {v1 : Int32} (h : vc_X9_settledBy d post σ v1) : jv_wp (d + 1) post (122, 0, [some (.ref 34), some (.int v1), none, none], [], σ) := jv_go_ok 3 [2, 31] _ _ _ h
def vc_X9_settledBy_L2 (d : Nat) (post : jPo) (σ : jSt) (v1 : Int32) (v2 : Int32) : Prop :=
 (((σ.1 34 3) ≤ v2 → jv_wp (d + 1) post (122, 31, [some (.ref 34), some (.int v1), some (.int (iI 0)), some (.int (iI 0))], [], σ)) ∧
 (¬ (σ.1 34 3) ≤ v2 → (vp_in v2 6 ∧ (let s1 : jSt := jv_u σ 38 v2.toNatClampNeg ((v1 >>> (v2 &&& 31)) &&& (iI 1))
 (let x2 : Int32 := (v2 + (iI 1))
 jv_wp (d + 1) post (122, 2, [some (.ref 34), some (.int v1), some (.int x2), none], [], s1))))))
set_option maxRecDepth 100000 in
set_option maxHeartbeats 4000000 in
theorem ok_X9_settledBy_L2 {d : Nat} {post : jPo} {σ : jSt} {v1 : Int32} {v2 : Int32} (h : vc_X9_settledBy_L2 d post σ v1 v2) : jv_wp (d + 1) post (122, 2, [some (.ref 34), some (.int v1), some (.int v2), none], [], σ) := jv_go_ok 16 [2, 31] _ _ _ h
def vc_X9_settledBy_L31 (d : Nat) (post : jPo) (σ : jSt) (v1 : Int32) (v2 : Int32) (v3 : Int32) : Prop :=
 (((σ.1 34 4) ≤ v3 → post (some (.int v2)) σ) ∧
 (¬ (σ.1 34 4) ≤ v3 → (vp_in v3 5 ∧ ((¬ (σ.1 43 v3.toNatClampNeg) = 0 → (let x1 : Int32 := (v2 + (iI 0))
 (let x2 : Int32 := (v3 + (iI 1))
 jv_wp (d + 1) post (122, 31, [some (.ref 34), some (.int v1), some (.int x1), some (.int x2)], [], σ)))) ∧
 ((σ.1 43 v3.toNatClampNeg) = 0 → (vp_in v3 5 ∧ jq_I d 96 [.ref 34, .int (σ.1 40 v3.toNatClampNeg), .int (σ.1 34 5)] σ (fun x4 s3 =>
 ((x4 = 0 → (let x5 : Int32 := (v2 + (iI 0))
 (let x6 : Int32 := (v3 + (iI 1))
 jv_wp (d + 1) post (122, 31, [some (.ref 34), some (.int v1), some (.int x5), some (.int x6)], [], s3)))) ∧
 (¬ x4 = 0 → (vp_in v3 5 ∧ jq_I d 96 [.ref 34, .int (s3.1 41 v3.toNatClampNeg), .int ((s3.1 34 5) + (iI 1))] s3 (fun x8 s7 =>
 ((x8 = 0 → (let x9 : Int32 := (v2 + (iI 0))
 (let x10 : Int32 := (v3 + (iI 1))
 jv_wp (d + 1) post (122, 31, [some (.ref 34), some (.int v1), some (.int x9), some (.int x10)], [], s7)))) ∧
 (¬ x8 = 0 → (let x11 : Int32 := (v2 + (iI 1))
 (let x12 : Int32 := (v3 + (iI 1))
 jv_wp (d + 1) post (122, 31, [some (.ref 34), some (.int v1), some (.int x11), some (.int x12)], [], s7))))))))))))))))
set_option maxRecDepth 100000 in
set_option maxHeartbeats 4000000 in
theorem ok_X9_settledBy_L31 {d : Nat} {post : jPo} {σ : jSt} {v1 : Int32} {v2 : Int32} {v3 : Int32} (h : vc_X9_settledBy_L31 d post σ v1 v2 v3) : jv_wp (d + 1) post (122, 31, [some (.ref 34), some (.int v1), some (.int v2), some (.int v3)], [], σ) := jv_go_ok 37 [2, 31] _ _ _ h
def vc_X9_liveOf (d : Nat) (post : jPo) (σ : jSt) (v1 : Int32) : Prop :=
 jq_V d 79 [.ref 38, .ref 47] σ (fun s1 =>
 jv_wp (d + 1) post (123, 15, [some (.ref 34), some (.int v1), some (.int (iI 0)), some (.int (iI 0)), none, none, none], [], s1))
set_option maxRecDepth 100000 in
set_option maxHeartbeats 4000000 in
theorem ok_X9_liveOf {d : Nat} {post : jPo} {σ : jSt} {v1 : Int32} (h : vc_X9_liveOf d post σ v1) : jv_wp (d + 1) post (123, 0, [some (.ref 34), some (.int v1), none, none, none, none, none], [], σ) := jv_go_ok 10 [15, 48] _ _ _ h
def vc_X9_liveOf_L15 (d : Nat) (post : jPo) (σ : jSt) (v1 : Int32) (v2 : Int32) (v3 : Int32) : Prop :=
 (((σ.1 34 3) ≤ v3 → jv_wp (d + 1) post (123, 48, [some (.ref 34), some (.int v1), some (.int v2), some (.int (iI 0)), some (.int (iI (-1))), some (.int (iI 0)), none], [], σ)) ∧
 (¬ (σ.1 34 3) ≤ v3 → (vp_in v3 6 ∧ (let x1 : Int32 := (v2 ||| ((σ.1 38 v3.toNatClampNeg) <<< (v3 &&& 31)))
 (let x2 : Int32 := (v3 + (iI 1))
 jv_wp (d + 1) post (123, 15, [some (.ref 34), some (.int v1), some (.int x1), some (.int x2), none, none, none], [], σ))))))
set_option maxRecDepth 100000 in
set_option maxHeartbeats 4000000 in
theorem ok_X9_liveOf_L15 {d : Nat} {post : jPo} {σ : jSt} {v1 : Int32} {v2 : Int32} {v3 : Int32} (h : vc_X9_liveOf_L15 d post σ v1 v2 v3) : jv_wp (d + 1) post (123, 15, [some (.ref 34), some (.int v1), some (.int v2), some (.int v3), none, none, none], [], σ) := jv_go_ok 16 [15, 48] _ _ _ h
def vc_X9_liveOf_L48 (d : Nat) (post : jPo) (σ : jSt) (v1 : Int32) (v2 : Int32) (v3 : Int32) (v4 : Int32) (v5 : Int32) (z6 : Option Value) : Prop :=
 ((((iI 1) <<< ((σ.1 34 3) &&& 31)) ≤ v5 → jq_V d 79 [.ref 47, .ref 38] σ (fun s1 =>
 ((¬ v1 = 0 → post (some (.int v3)) s1) ∧
 (v1 = 0 → post (some (.int (v4 / (iI 10)))) s1)))) ∧
 (¬ ((iI 1) <<< ((σ.1 34 3) &&& 31)) ≤ v5 → jq_I d 122 [.ref 34, .int v5] σ (fun x3 s2 =>
 jq_I d 98 [.int (v5 ^^^ v2)] s2 (fun x5 s4 =>
 (let x6 : Int32 := ((((iI 10) * x3) + (iI 6)) - x5)
 ((x6 ≤ v4 → ((x6 ≤ v4 → (let x7 : Int32 := (v5 + (iI 1))
 jv_wp (d + 1) post (123, 48, [some (.ref 34), some (.int v1), some (.int v2), some (.int v3), some (.int v4), some (.int x7), some (.int x6)], [], s4))) ∧
 (¬ x6 ≤ v4 → (let x8 : Int32 := (v5 + (iI 1))
 jv_wp (d + 1) post (123, 48, [some (.ref 34), some (.int v1), some (.int v2), some (.int v3), some (.int x6), some (.int x8), some (.int x6)], [], s4))))) ∧
 (¬ x6 ≤ v4 → ((x6 ≤ v4 → (let x9 : Int32 := (v5 + (iI 1))
 jv_wp (d + 1) post (123, 48, [some (.ref 34), some (.int v1), some (.int v2), some (.int v5), some (.int v4), some (.int x9), some (.int x6)], [], s4))) ∧
 (¬ x6 ≤ v4 → (let x10 : Int32 := (v5 + (iI 1))
 jv_wp (d + 1) post (123, 48, [some (.ref 34), some (.int v1), some (.int v2), some (.int v5), some (.int x6), some (.int x10), some (.int x6)], [], s4)))))))))))
set_option maxRecDepth 100000 in
set_option maxHeartbeats 4000000 in
theorem ok_X9_liveOf_L48 {d : Nat} {post : jPo} {σ : jSt} {v1 : Int32} {v2 : Int32} {v3 : Int32} {v4 : Int32} {v5 : Int32} {z6 : Option Value} (h : vc_X9_liveOf_L48 d post σ v1 v2 v3 v4 v5 z6) : jv_wp (d + 1) post (123, 48, [some (.ref 34), some (.int v1), some (.int v2), some (.int v3), some (.int v4), some (.int v5), z6], [], σ) := jv_go_ok 34 [15, 48] _ _ _ (show ((((iI 1) <<< ((σ.1 34 3) &&& 31)) ≤ v5 → jq_V d 79 [.ref 47, .ref 38] σ (fun s1 =>
 ((¬ v1 = 0 → post (some (.int v3)) s1) ∧
 (v1 = 0 → (¬ (iI 10) = 0 ∧ post (some (.int (v4 / (iI 10)))) s1))))) ∧
 (¬ ((iI 1) <<< ((σ.1 34 3) &&& 31)) ≤ v5 → jq_I d 122 [.ref 34, .int v5] σ (fun x3 s2 =>
 jq_I d 98 [.int (v5 ^^^ v2)] s2 (fun x5 s4 =>
 (let x6 : Int32 := ((((iI 10) * x3) + (iI 6)) - x5)
 ((x6 ≤ v4 → ((x6 ≤ v4 → (let x7 : Int32 := (v5 + (iI 1))
 jv_wp (d + 1) post (123, 48, [some (.ref 34), some (.int v1), some (.int v2), some (.int v3), some (.int v4), some (.int x7), some (.int x6)], [], s4))) ∧
 (¬ x6 ≤ v4 → (let x8 : Int32 := (v5 + (iI 1))
 jv_wp (d + 1) post (123, 48, [some (.ref 34), some (.int v1), some (.int v2), some (.int v3), some (.int x6), some (.int x8), some (.int x6)], [], s4))))) ∧
 (¬ x6 ≤ v4 → ((x6 ≤ v4 → (let x9 : Int32 := (v5 + (iI 1))
 jv_wp (d + 1) post (123, 48, [some (.ref 34), some (.int v1), some (.int v2), some (.int v5), some (.int v4), some (.int x9), some (.int x6)], [], s4))) ∧
 (¬ x6 ≤ v4 → (let x10 : Int32 := (v5 + (iI 1))
 jv_wp (d + 1) post (123, 48, [some (.ref 34), some (.int v1), some (.int v2), some (.int v5), some (.int x6), some (.int x10), some (.int x6)], [], s4))))))))))) from ⟨fun c237 => jq_V_con (((h).1 c237)) (fun s1 h238 => ⟨fun c239 => ((h238).1 c239), fun c239 => ⟨by decide +kernel, ((h238).2 c239)⟩⟩), fun c237 => ((h).2 c237)⟩)
def vc_X9_live (d : Nat) (post : jPo) (σ : jSt) (v1 : Int32) : Prop :=
 jq_I d 78 [.long (v1).toInt64, .long (Int64.ofNat 0), .long (Int64.ofNat 1)] σ (fun x2 s1 =>
 ((¬ x2 = 0 → jq_I d 89 [.ref 34] s1 (fun x4 s3 =>
 ((x4 = 0 → jq_I d 123 [.ref 34, .int v1] s3 (fun x6 s5 =>
 post (some (.int x6)) s5)) ∧
 (¬ x4 = 0 → post (some (.int (iI (-103)))) s3)))) ∧
 (x2 = 0 → post (some (.int (iI (-102)))) s1)))
set_option maxRecDepth 100000 in
set_option maxHeartbeats 4000000 in
theorem ok_X9_live {d : Nat} {post : jPo} {σ : jSt} {v1 : Int32} (h : vc_X9_live d post σ v1) : jv_wp (d + 1) post (124, 0, [some (.ref 34), some (.int v1)], [], σ) := jv_go_ok 13 [] _ _ _ h
def vc_X9_fogOf (d : Nat) (post : jPo) (σ : jSt) (v1 : Int32) (v2 : Int32) (v3 : Int32) (v4 : Int32) : Prop :=
 jv_wp (d + 1) post (125, 9, [some (.ref 34), some (.int v1), some (.int v2), some (.int v3), some (.int v4), some (.int (iI 0)), some (.int (iI 1)), some (.int (iI 0)), none, none, none], [], σ)
set_option maxRecDepth 100000 in
set_option maxHeartbeats 4000000 in
theorem ok_X9_fogOf {d : Nat} {post : jPo} {σ : jSt} {v1 : Int32} {v2 : Int32} {v3 : Int32} {v4 : Int32} (h : vc_X9_fogOf d post σ v1 v2 v3 v4) : jv_wp (d + 1) post (125, 0, [some (.ref 34), some (.int v1), some (.int v2), some (.int v3), some (.int v4), none, none, none, none, none, none], [], σ) := jv_go_ok 7 [9, 31, 49, 165] _ _ _ h
def vc_X9_fogOf_L9 (d : Nat) (post : jPo) (σ : jSt) (v1 : Int32) (v2 : Int32) (v3 : Int32) (v4 : Int32) (v5 : Int32) (v6 : Int32) (v7 : Int32) : Prop :=
 ((v2 ≤ v7 → jv_wp (d + 1) post (125, 31, [some (.ref 34), some (.int v1), some (.int v2), some (.int v3), some (.int v4), some (.int v5), some (.int v6), some (.int (iI 0)), none, none, none], [], σ)) ∧
 (¬ v2 ≤ v7 → (let x1 : Int32 := (v6 * (iI 10))
 (let x2 : Int32 := (v7 + (iI 1))
 jv_wp (d + 1) post (125, 9, [some (.ref 34), some (.int v1), some (.int v2), some (.int v3), some (.int v4), some (.int v5), some (.int x1), some (.int x2), none, none, none], [], σ)))))
set_option maxRecDepth 100000 in
set_option maxHeartbeats 4000000 in
theorem ok_X9_fogOf_L9 {d : Nat} {post : jPo} {σ : jSt} {v1 : Int32} {v2 : Int32} {v3 : Int32} {v4 : Int32} {v5 : Int32} {v6 : Int32} {v7 : Int32} (h : vc_X9_fogOf_L9 d post σ v1 v2 v3 v4 v5 v6 v7) : jv_wp (d + 1) post (125, 9, [some (.ref 34), some (.int v1), some (.int v2), some (.int v3), some (.int v4), some (.int v5), some (.int v6), some (.int v7), none, none, none], [], σ) := jv_go_ok 10 [9, 31, 49, 165] _ _ _ h
def vc_X9_fogOf_L31 (d : Nat) (post : jPo) (σ : jSt) (v1 : Int32) (v2 : Int32) (v3 : Int32) (v4 : Int32) (v5 : Int32) (v6 : Int32) (v7 : Int32) (z8 : Option Value) (z9 : Option Value) (z10 : Option Value) : Prop :=
 ((((iI 1) <<< (v2 &&& 31)) ≤ v7 → jv_wp (d + 1) post (125, 165, [some (.ref 34), some (.int v1), some (.int v2), some (.int v3), some (.int v4), some (.int v5), some (.int v6), some (.int v6), some (.int v5), z9, z10], [], σ)) ∧
 (¬ ((iI 1) <<< (v2 &&& 31)) ≤ v7 → jq_V d 99 [.ref 34] σ (fun s1 =>
 jv_wp (d + 1) post (125, 49, [some (.ref 34), some (.int v1), some (.int v2), some (.int v3), some (.int v4), some (.int v5), some (.int v6), some (.int v7), some (.int (iI 1)), some (.int (iI 0)), z10], [], s1))))
set_option maxRecDepth 100000 in
set_option maxHeartbeats 4000000 in
theorem ok_X9_fogOf_L31 {d : Nat} {post : jPo} {σ : jSt} {v1 : Int32} {v2 : Int32} {v3 : Int32} {v4 : Int32} {v5 : Int32} {v6 : Int32} {v7 : Int32} {z8 : Option Value} {z9 : Option Value} {z10 : Option Value} (h : vc_X9_fogOf_L31 d post σ v1 v2 v3 v4 v5 v6 v7 z8 z9 z10) : jv_wp (d + 1) post (125, 31, [some (.ref 34), some (.int v1), some (.int v2), some (.int v3), some (.int v4), some (.int v5), some (.int v6), some (.int v7), z8, z9, z10], [], σ) := jv_go_ok 12 [9, 31, 49, 165] _ _ _ h
def vc_X9_fogOf_L49 (d : Nat) (post : jPo) (σ : jSt) (v1 : Int32) (v2 : Int32) (v3 : Int32) (v4 : Int32) (v5 : Int32) (v6 : Int32) (v7 : Int32) (v8 : Int32) (v9 : Int32) (z10 : Option Value) : Prop :=
 ((v2 ≤ v9 → (vp_in v1 5 ∧ ((¬ (σ.1 45 v1.toNatClampNeg) = (iI 2) → (let x1 : Int32 := (v5 + (iI 0))
 (let x2 : Int32 := (v7 + (iI 1))
 jv_wp (d + 1) post (125, 31, [some (.ref 34), some (.int v1), some (.int v2), some (.int v3), some (.int v4), some (.int x1), some (.int v6), some (.int x2), some (.int v8), some (.int v9), z10], [], σ)))) ∧
 ((σ.1 45 v1.toNatClampNeg) = (iI 2) → (let x3 : Int32 := (v5 + v8)
 (let x4 : Int32 := (v7 + (iI 1))
 jv_wp (d + 1) post (125, 31, [some (.ref 34), some (.int v1), some (.int v2), some (.int v3), some (.int v4), some (.int x3), some (.int v6), some (.int x4), some (.int v8), some (.int v9), z10], [], σ))))))) ∧
 (¬ v2 ≤ v9 → ((¬ ((v7 >>> (v9 &&& 31)) &&& (iI 1)) = (iI 1) → (let x5 : Int32 := (v8 * ((iI 10) - v3))
 jq_I d 102 [.ref 34, .int v1, .int ((σ.1 34 5) + v9)] σ (fun x8 s7 =>
 ((x8 = 0 → (let x9 : Int32 := (v9 + (iI 1))
 jv_wp (d + 1) post (125, 49, [some (.ref 34), some (.int v1), some (.int v2), some (.int v3), some (.int v4), some (.int v5), some (.int v6), some (.int v7), some (.int x5), some (.int x9), some (.int (iI 0))], [], s7))) ∧
 (¬ x8 = 0 → jq_I d 103 [.ref 34, .int v1, .int ((s7.1 34 5) + v9)] s7 (fun x11 s10 =>
 (let x12 : Int32 := (v9 + (iI 1))
 jv_wp (d + 1) post (125, 49, [some (.ref 34), some (.int v1), some (.int v2), some (.int v3), some (.int v4), some (.int v5), some (.int v6), some (.int v7), some (.int x5), some (.int x12), some (.int (iI 0))], [], s10)))))))) ∧
 (((v7 >>> (v9 &&& 31)) &&& (iI 1)) = (iI 1) → (let x29 : Int32 := (v8 * v3)
 (let x30 : Int32 := (v9 + (iI 1))
 jv_wp (d + 1) post (125, 49, [some (.ref 34), some (.int v1), some (.int v2), some (.int v3), some (.int v4), some (.int v5), some (.int v6), some (.int v7), some (.int x29), some (.int x30), some (.int (iI 1))], [], σ)))))))
set_option maxRecDepth 100000 in
set_option maxHeartbeats 4000000 in
theorem ok_X9_fogOf_L49 {d : Nat} {post : jPo} {σ : jSt} {v1 : Int32} {v2 : Int32} {v3 : Int32} {v4 : Int32} {v5 : Int32} {v6 : Int32} {v7 : Int32} {v8 : Int32} {v9 : Int32} {z10 : Option Value} (h : vc_X9_fogOf_L49 d post σ v1 v2 v3 v4 v5 v6 v7 v8 v9 z10) : jv_wp (d + 1) post (125, 49, [some (.ref 34), some (.int v1), some (.int v2), some (.int v3), some (.int v4), some (.int v5), some (.int v6), some (.int v7), some (.int v8), some (.int v9), z10], [], σ) := jv_go_ok 42 [9, 31, 49, 165] _ _ _ (show ((v2 ≤ v9 → (vp_in v1 5 ∧ ((¬ (σ.1 45 v1.toNatClampNeg) = (iI 2) → (let x1 : Int32 := (v5 + (iI 0))
 (let x2 : Int32 := (v7 + (iI 1))
 jv_wp (d + 1) post (125, 31, [some (.ref 34), some (.int v1), some (.int v2), some (.int v3), some (.int v4), some (.int x1), some (.int v6), some (.int x2), some (.int v8), some (.int v9), z10], [], σ)))) ∧
 ((σ.1 45 v1.toNatClampNeg) = (iI 2) → (let x3 : Int32 := (v5 + v8)
 (let x4 : Int32 := (v7 + (iI 1))
 jv_wp (d + 1) post (125, 31, [some (.ref 34), some (.int v1), some (.int v2), some (.int v3), some (.int v4), some (.int x3), some (.int v6), some (.int x4), some (.int v8), some (.int v9), z10], [], σ))))))) ∧
 (¬ v2 ≤ v9 → ((¬ ((v7 >>> (v9 &&& 31)) &&& (iI 1)) = (iI 1) → (((iI 0) = 0 → (let x5 : Int32 := (v8 * ((iI 10) - v3))
 ((¬ (iI 0) = 0 → (let x6 : Int32 := (v9 + (iI 1))
 jv_wp (d + 1) post (125, 49, [some (.ref 34), some (.int v1), some (.int v2), some (.int v3), some (.int v4), some (.int v5), some (.int v6), some (.int v7), some (.int x5), some (.int x6), some (.int (iI 0))], [], σ))) ∧
 ((iI 0) = 0 → jq_I d 102 [.ref 34, .int v1, .int ((σ.1 34 5) + v9)] σ (fun x8 s7 =>
 ((x8 = 0 → (let x9 : Int32 := (v9 + (iI 1))
 jv_wp (d + 1) post (125, 49, [some (.ref 34), some (.int v1), some (.int v2), some (.int v3), some (.int v4), some (.int v5), some (.int v6), some (.int v7), some (.int x5), some (.int x9), some (.int (iI 0))], [], s7))) ∧
 (¬ x8 = 0 → jq_I d 103 [.ref 34, .int v1, .int ((s7.1 34 5) + v9)] s7 (fun x11 s10 =>
 (let x12 : Int32 := (v9 + (iI 1))
 jv_wp (d + 1) post (125, 49, [some (.ref 34), some (.int v1), some (.int v2), some (.int v3), some (.int v4), some (.int v5), some (.int v6), some (.int v7), some (.int x5), some (.int x12), some (.int (iI 0))], [], s10)))))))))) ∧
 (¬ (iI 0) = 0 → (let x13 : Int32 := (v8 * v3)
 ((¬ (iI 0) = 0 → (let x14 : Int32 := (v9 + (iI 1))
 jv_wp (d + 1) post (125, 49, [some (.ref 34), some (.int v1), some (.int v2), some (.int v3), some (.int v4), some (.int v5), some (.int v6), some (.int v7), some (.int x13), some (.int x14), some (.int (iI 0))], [], σ))) ∧
 ((iI 0) = 0 → jq_I d 102 [.ref 34, .int v1, .int ((σ.1 34 5) + v9)] σ (fun x16 s15 =>
 ((x16 = 0 → (let x17 : Int32 := (v9 + (iI 1))
 jv_wp (d + 1) post (125, 49, [some (.ref 34), some (.int v1), some (.int v2), some (.int v3), some (.int v4), some (.int v5), some (.int v6), some (.int v7), some (.int x13), some (.int x17), some (.int (iI 0))], [], s15))) ∧
 (¬ x16 = 0 → jq_I d 103 [.ref 34, .int v1, .int ((s15.1 34 5) + v9)] s15 (fun x19 s18 =>
 (let x20 : Int32 := (v9 + (iI 1))
 jv_wp (d + 1) post (125, 49, [some (.ref 34), some (.int v1), some (.int v2), some (.int v3), some (.int v4), some (.int v5), some (.int v6), some (.int v7), some (.int x13), some (.int x20), some (.int (iI 0))], [], s18)))))))))))) ∧
 (((v7 >>> (v9 &&& 31)) &&& (iI 1)) = (iI 1) → (((iI 1) = 0 → (let x21 : Int32 := (v8 * ((iI 10) - v3))
 ((¬ (iI 1) = 0 → (let x22 : Int32 := (v9 + (iI 1))
 jv_wp (d + 1) post (125, 49, [some (.ref 34), some (.int v1), some (.int v2), some (.int v3), some (.int v4), some (.int v5), some (.int v6), some (.int v7), some (.int x21), some (.int x22), some (.int (iI 1))], [], σ))) ∧
 ((iI 1) = 0 → jq_I d 102 [.ref 34, .int v1, .int ((σ.1 34 5) + v9)] σ (fun x24 s23 =>
 ((x24 = 0 → (let x25 : Int32 := (v9 + (iI 1))
 jv_wp (d + 1) post (125, 49, [some (.ref 34), some (.int v1), some (.int v2), some (.int v3), some (.int v4), some (.int v5), some (.int v6), some (.int v7), some (.int x21), some (.int x25), some (.int (iI 1))], [], s23))) ∧
 (¬ x24 = 0 → jq_I d 103 [.ref 34, .int v1, .int ((s23.1 34 5) + v9)] s23 (fun x27 s26 =>
 (let x28 : Int32 := (v9 + (iI 1))
 jv_wp (d + 1) post (125, 49, [some (.ref 34), some (.int v1), some (.int v2), some (.int v3), some (.int v4), some (.int v5), some (.int v6), some (.int v7), some (.int x21), some (.int x28), some (.int (iI 1))], [], s26)))))))))) ∧
 (¬ (iI 1) = 0 → (let x29 : Int32 := (v8 * v3)
 ((¬ (iI 1) = 0 → (let x30 : Int32 := (v9 + (iI 1))
 jv_wp (d + 1) post (125, 49, [some (.ref 34), some (.int v1), some (.int v2), some (.int v3), some (.int v4), some (.int v5), some (.int v6), some (.int v7), some (.int x29), some (.int x30), some (.int (iI 1))], [], σ))) ∧
 ((iI 1) = 0 → jq_I d 102 [.ref 34, .int v1, .int ((σ.1 34 5) + v9)] σ (fun x32 s31 =>
 ((x32 = 0 → (let x33 : Int32 := (v9 + (iI 1))
 jv_wp (d + 1) post (125, 49, [some (.ref 34), some (.int v1), some (.int v2), some (.int v3), some (.int v4), some (.int v5), some (.int v6), some (.int v7), some (.int x29), some (.int x33), some (.int (iI 1))], [], s31))) ∧
 (¬ x32 = 0 → jq_I d 103 [.ref 34, .int v1, .int ((s31.1 34 5) + v9)] s31 (fun x35 s34 =>
 (let x36 : Int32 := (v9 + (iI 1))
 jv_wp (d + 1) post (125, 49, [some (.ref 34), some (.int v1), some (.int v2), some (.int v3), some (.int v4), some (.int v5), some (.int v6), some (.int v7), some (.int x29), some (.int x36), some (.int (iI 1))], [], s34))))))))))))))) from ⟨fun c244 => ((h).1 c244), fun c244 => ⟨fun c246 => ⟨fun _ => ⟨fun q => absurd q (by decide +kernel), fun _ => ((((h).2 c244)).1 c246)⟩, fun q => absurd q (by decide +kernel)⟩, fun c246 => ⟨fun q => absurd q (by decide +kernel), fun _ => ⟨fun _ => ((((h).2 c244)).2 c246), fun q => absurd q (by decide +kernel)⟩⟩⟩⟩)
def vc_X9_fogOf_L165 (d : Nat) (post : jPo) (σ : jSt) (v1 : Int32) (v2 : Int32) (v3 : Int32) (v4 : Int32) (v5 : Int32) (v6 : Int32) (v7 : Int32) (v8 : Int32) (z9 : Option Value) (z10 : Option Value) : Prop :=
 ((v8 ≤ 0 → ((¬ v4 = 0 → (¬ v7 = 0 ∧ post (some (.int (v6 / v7))) σ)) ∧
 (v4 = 0 → (¬ v7 = 0 ∧ post (some (.int (v5 / v7))) σ)))) ∧
 (¬ v8 ≤ 0 → (¬ v8 = 0 ∧ (let x1 : Int32 := (v7 - v7 / v8 * v8)
 jv_wp (d + 1) post (125, 165, [some (.ref 34), some (.int v1), some (.int v2), some (.int v3), some (.int v4), some (.int v5), some (.int v6), some (.int v8), some (.int x1), some (.int x1), z10], [], σ)))))
set_option maxRecDepth 100000 in
set_option maxHeartbeats 4000000 in
theorem ok_X9_fogOf_L165 {d : Nat} {post : jPo} {σ : jSt} {v1 : Int32} {v2 : Int32} {v3 : Int32} {v4 : Int32} {v5 : Int32} {v6 : Int32} {v7 : Int32} {v8 : Int32} {z9 : Option Value} {z10 : Option Value} (h : vc_X9_fogOf_L165 d post σ v1 v2 v3 v4 v5 v6 v7 v8 z9 z10) : jv_wp (d + 1) post (125, 165, [some (.ref 34), some (.int v1), some (.int v2), some (.int v3), some (.int v4), some (.int v5), some (.int v6), some (.int v7), some (.int v8), z9, z10], [], σ) := jv_go_ok 12 [9, 31, 49, 165] _ _ _ h
def vc_X9_fog (d : Nat) (post : jPo) (σ : jSt) (v1 : Int32) (v2 : Int32) (v3 : Int32) (v4 : Int32) : Prop :=
 jq_I d 91 [.ref 34, .int v1] σ (fun x2 s1 =>
 ((¬ x2 = 0 → jq_I d 78 [.long (v2).toInt64, .long (Int64.ofNat 1), .long (Int64.ofNat 8)] s1 (fun x4 s3 =>
 ((x4 = 0 → post (some (.int (iI (-102)))) s3) ∧
 (¬ x4 = 0 → jq_I d 78 [.long (v3).toInt64, .long (Int64.ofNat 0), .long (Int64.ofNat 10)] s3 (fun x6 s5 =>
 ((x6 = 0 → post (some (.int (iI (-102)))) s5) ∧
 (¬ x6 = 0 → jq_I d 78 [.long (v4).toInt64, .long (Int64.ofNat 0), .long (Int64.ofNat 1)] s5 (fun x8 s7 =>
 ((¬ x8 = 0 → (vp_in v1 5 ∧ ((¬ (s7.1 43 v1.toNatClampNeg) = (iI 2) → jq_I d 125 [.ref 34, .int v1, .int v2, .int v3, .int v4] s7 (fun x10 s9 =>
 post (some (.int x10)) s9)) ∧
 ((s7.1 43 v1.toNatClampNeg) = (iI 2) → post (some (.int (iI (-103)))) s7)))) ∧
 (x8 = 0 → post (some (.int (iI (-102)))) s7)))))))))) ∧
 (x2 = 0 → post (some (.int (iI (-101)))) s1)))
set_option maxRecDepth 100000 in
set_option maxHeartbeats 4000000 in
theorem ok_X9_fog {d : Nat} {post : jPo} {σ : jSt} {v1 : Int32} {v2 : Int32} {v3 : Int32} {v4 : Int32} (h : vc_X9_fog d post σ v1 v2 v3 v4) : jv_wp (d + 1) post (126, 0, [some (.ref 34), some (.int v1), some (.int v2), some (.int v3), some (.int v4)], [], σ) := jv_go_ok 35 [] _ _ _ h
def vc_X9_see (d : Nat) (post : jPo) (σ : jSt) (v1 : Int32) (v2 : Int32) (v3 : Int32) : Prop :=
 jq_I d 90 [.ref 34, .int v1] σ (fun x2 s1 =>
 ((¬ x2 = 0 → jq_I d 78 [.long (v2).toInt64, .long (Int64.ofNat 0), .long (Int64.ofNat 31)] s1 (fun x4 s3 =>
 ((¬ x4 = 0 → ((¬ (s3.1 34 24) = (iI 6) → (vp_in ((iI 3) * (s3.1 34 24)) 18 ∧ (let s5 : jSt := jv_u s3 48 ((iI 3) * (s3.1 34 24)).toNatClampNeg v1
 (vp_in (((iI 3) * (s5.1 34 24)) + (iI 1)) 18 ∧ (let s6 : jSt := jv_u s5 48 (((iI 3) * (s5.1 34 24)) + (iI 1)).toNatClampNeg v2
 ((v3 = 0 → (vp_in (((iI 3) * (s6.1 34 24)) + (iI 2)) 18 ∧ (let s7 : jSt := jv_u s6 48 (((iI 3) * (s6.1 34 24)) + (iI 2)).toNatClampNeg (iI 0)
 (let s8 : jSt := jv_u s7 34 24 ((s7.1 34 24) + (iI 1))
 post (some (.int (s8.1 34 24))) s8)))) ∧
 (¬ v3 = 0 → (vp_in (((iI 3) * (s6.1 34 24)) + (iI 2)) 18 ∧ (let s9 : jSt := jv_u s6 48 (((iI 3) * (s6.1 34 24)) + (iI 2)).toNatClampNeg (iI 1)
 (let s10 : jSt := jv_u s9 34 24 ((s9.1 34 24) + (iI 1))
 post (some (.int (s10.1 34 24))) s10)))))))))) ∧
 ((s3.1 34 24) = (iI 6) → post (some (.int (iI (-104)))) s3))) ∧
 (x4 = 0 → post (some (.int (iI (-102)))) s3)))) ∧
 (x2 = 0 → post (some (.int (iI (-101)))) s1)))
set_option maxRecDepth 100000 in
set_option maxHeartbeats 4000000 in
theorem ok_X9_see {d : Nat} {post : jPo} {σ : jSt} {v1 : Int32} {v2 : Int32} {v3 : Int32} (h : vc_X9_see d post σ v1 v2 v3) : jv_wp (d + 1) post (127, 0, [some (.ref 34), some (.int v1), some (.int v2), some (.int v3)], [], σ) := jv_go_ok 54 [] _ _ _ h
def vc_X9_forget (d : Nat) (post : jPo) (σ : jSt)  : Prop :=
 (let x1 : Int32 := (σ.1 34 24)
 (let s2 : jSt := jv_u σ 34 24 (iI 0)
 post (some (.int x1)) s2))
set_option maxRecDepth 100000 in
set_option maxHeartbeats 4000000 in
theorem ok_X9_forget {d : Nat} {post : jPo} {σ : jSt} (h : vc_X9_forget d post σ ) : jv_wp (d + 1) post (128, 0, [some (.ref 34), none], [], σ) := jv_go_ok 8 [] _ _ _ h
def vc_X9_speakingSorts (d : Nat) (post : jPo) (σ : jSt) (v1 : Int32) (v2 : Int32) : Prop :=
 jq_V d 93 [.ref 34, .int ((σ.1 34 5) + v2)] σ (fun s1 =>
 jv_wp (d + 1) post (129, 15, [some (.ref 34), some (.int v1), some (.int v2), some (.int (iI 0)), some (.int (iI 0))], [], s1))
set_option maxRecDepth 100000 in
set_option maxHeartbeats 4000000 in
theorem ok_X9_speakingSorts {d : Nat} {post : jPo} {σ : jSt} {v1 : Int32} {v2 : Int32} (h : vc_X9_speakingSorts d post σ v1 v2) : jv_wp (d + 1) post (129, 0, [some (.ref 34), some (.int v1), some (.int v2), none, none], [], σ) := jv_go_ok 11 [15] _ _ _ h
def vc_X9_speakingSorts_L15 (d : Nat) (post : jPo) (σ : jSt) (v1 : Int32) (v2 : Int32) (v3 : Int32) (v4 : Int32) : Prop :=
 (((iI 10) ≤ v4 → post (some (.int v3)) σ) ∧
 (¬ (iI 10) ≤ v4 → (vp_in v1 6 ∧ jq_I d 95 [.ref 34, .int (v4 - v4 / (iI 5) * (iI 5)), .int (v4 / (iI 5)), .int (σ.1 38 v1.toNatClampNeg)] σ (fun x2 s1 =>
 ((x2 = 0 → (let x3 : Int32 := (v3 ||| (iI 0))
 (let x4 : Int32 := (v4 + (iI 1))
 jv_wp (d + 1) post (129, 15, [some (.ref 34), some (.int v1), some (.int v2), some (.int x3), some (.int x4)], [], s1)))) ∧
 (¬ x2 = 0 → (let x5 : Int32 := (v3 ||| ((iI 1) <<< (v4 &&& 31)))
 (let x6 : Int32 := (v4 + (iI 1))
 jv_wp (d + 1) post (129, 15, [some (.ref 34), some (.int v1), some (.int v2), some (.int x5), some (.int x6)], [], s1)))))))))
set_option maxRecDepth 100000 in
set_option maxHeartbeats 4000000 in
theorem ok_X9_speakingSorts_L15 {d : Nat} {post : jPo} {σ : jSt} {v1 : Int32} {v2 : Int32} {v3 : Int32} {v4 : Int32} (h : vc_X9_speakingSorts_L15 d post σ v1 v2 v3 v4) : jv_wp (d + 1) post (129, 15, [some (.ref 34), some (.int v1), some (.int v2), some (.int v3), some (.int v4)], [], σ) := jv_go_ok 26 [15] _ _ _ (show (((iI 10) ≤ v4 → post (some (.int v3)) σ) ∧
 (¬ (iI 10) ≤ v4 → (¬ (iI 5) = 0 ∧ (¬ (iI 5) = 0 ∧ (vp_in v1 6 ∧ jq_I d 95 [.ref 34, .int (v4 - v4 / (iI 5) * (iI 5)), .int (v4 / (iI 5)), .int (σ.1 38 v1.toNatClampNeg)] σ (fun x2 s1 =>
 ((x2 = 0 → (let x3 : Int32 := (v3 ||| (iI 0))
 (let x4 : Int32 := (v4 + (iI 1))
 jv_wp (d + 1) post (129, 15, [some (.ref 34), some (.int v1), some (.int v2), some (.int x3), some (.int x4)], [], s1)))) ∧
 (¬ x2 = 0 → (let x5 : Int32 := (v3 ||| ((iI 1) <<< (v4 &&& 31)))
 (let x6 : Int32 := (v4 + (iI 1))
 jv_wp (d + 1) post (129, 15, [some (.ref 34), some (.int v1), some (.int v2), some (.int x5), some (.int x6)], [], s1))))))))))) from ⟨fun c255 => ((h).1 c255), fun c255 => ⟨by decide +kernel, ⟨by decide +kernel, ((h).2 c255)⟩⟩⟩)
def vc_X9_sortsOf (d : Nat) (post : jPo) (σ : jSt) (v1 : Int32) : Prop :=
 jv_wp (d + 1) post (130, 6, [some (.ref 34), some (.int v1), some (.int (iI 1023)), some (.int (iI 0)), none], [], σ)
set_option maxRecDepth 100000 in
set_option maxHeartbeats 4000000 in
theorem ok_X9_sortsOf {d : Nat} {post : jPo} {σ : jSt} {v1 : Int32} (h : vc_X9_sortsOf d post σ v1) : jv_wp (d + 1) post (130, 0, [some (.ref 34), some (.int v1), none, none, none], [], σ) := jv_go_ok 5 [6] _ _ _ h
def vc_X9_sortsOf_L6 (d : Nat) (post : jPo) (σ : jSt) (v1 : Int32) (v2 : Int32) (v3 : Int32) (z4 : Option Value) : Prop :=
 ((((iI 3) * (σ.1 34 24)) ≤ v3 → post (some (.int v2)) σ) ∧
 (¬ ((iI 3) * (σ.1 34 24)) ≤ v3 → (vp_in (v3 + (iI 1)) 18 ∧ jq_I d 129 [.ref 34, .int v1, .int (σ.1 48 (v3 + (iI 1)).toNatClampNeg)] σ (fun x2 s1 =>
 (vp_in v3 18 ∧ ((¬ (s1.1 48 v3.toNatClampNeg) = v1 → (let x3 : Int32 := (v3 + (iI 3))
 jv_wp (d + 1) post (130, 6, [some (.ref 34), some (.int v1), some (.int v2), some (.int x3), some (.int x2)], [], s1))) ∧
 ((s1.1 48 v3.toNatClampNeg) = v1 → (vp_in (v3 + (iI 2)) 18 ∧ ((¬ (s1.1 48 (v3 + (iI 2)).toNatClampNeg) = (iI 1) → (let x4 : Int32 := (v2 &&& ((iI 1023) - x2))
 (let x5 : Int32 := (v3 + (iI 3))
 jv_wp (d + 1) post (130, 6, [some (.ref 34), some (.int v1), some (.int x4), some (.int x5), some (.int x2)], [], s1)))) ∧
 ((s1.1 48 (v3 + (iI 2)).toNatClampNeg) = (iI 1) → (let x6 : Int32 := (v2 &&& x2)
 (let x7 : Int32 := (v3 + (iI 3))
 jv_wp (d + 1) post (130, 6, [some (.ref 34), some (.int v1), some (.int x6), some (.int x7), some (.int x2)], [], s1)))))))))))))
set_option maxRecDepth 100000 in
set_option maxHeartbeats 4000000 in
theorem ok_X9_sortsOf_L6 {d : Nat} {post : jPo} {σ : jSt} {v1 : Int32} {v2 : Int32} {v3 : Int32} {z4 : Option Value} (h : vc_X9_sortsOf_L6 d post σ v1 v2 v3 z4) : jv_wp (d + 1) post (130, 6, [some (.ref 34), some (.int v1), some (.int v2), some (.int v3), z4], [], σ) := jv_go_ok 39 [6] _ _ _ h
def vc_X9_listenOf (d : Nat) (post : jPo) (σ : jSt) (v1 : Int32) : Prop :=
 jq_I d 130 [.ref 34, .int v1] σ (fun x2 s1 =>
 jv_wp (d + 1) post (131, 15, [some (.ref 34), some (.int v1), some (.int x2), some (.int (iI (-1))), some (.int (iI 11)), some (.int (iI 0)), none, none, none], [], s1))
set_option maxRecDepth 100000 in
set_option maxHeartbeats 4000000 in
theorem ok_X9_listenOf {d : Nat} {post : jPo} {σ : jSt} {v1 : Int32} (h : vc_X9_listenOf d post σ v1) : jv_wp (d + 1) post (131, 0, [some (.ref 34), some (.int v1), none, none, none, none, none, none, none], [], σ) := jv_go_ok 11 [15] _ _ _ h
def vc_X9_listenOf_L15 (d : Nat) (post : jPo) (σ : jSt) (v1 : Int32) (v2 : Int32) (v3 : Int32) (v4 : Int32) (v5 : Int32) (z6 : Option Value) (z7 : Option Value) (z8 : Option Value) : Prop :=
 (((iI 32) ≤ v5 → post (some (.int v3)) σ) ∧
 (¬ (iI 32) ≤ v5 → ((v2 = 0 → post (some (.int v3)) σ) ∧
 (¬ v2 = 0 → jq_I d 129 [.ref 34, .int v1, .int v5] σ (fun x2 s1 =>
 jq_I d 98 [.int (v2 &&& x2)] s1 (fun x4 s3 =>
 jq_I d 98 [.int v2] s3 (fun x6 s5 =>
 (let x7 : Int32 := (x6 - x4)
 ((x4 ≤ x7 → ((v4 ≤ x7 → ((v4 ≤ x7 → (let x8 : Int32 := (v5 + (iI 1))
 jv_wp (d + 1) post (131, 15, [some (.ref 34), some (.int v1), some (.int v2), some (.int v3), some (.int v4), some (.int x8), some (.int x4), some (.int x7), some (.int x7)], [], s5))) ∧
 (¬ v4 ≤ x7 → (let x9 : Int32 := (v5 + (iI 1))
 jv_wp (d + 1) post (131, 15, [some (.ref 34), some (.int v1), some (.int v2), some (.int v3), some (.int x7), some (.int x9), some (.int x4), some (.int x7), some (.int x7)], [], s5))))) ∧
 (¬ v4 ≤ x7 → ((v4 ≤ x7 → (let x10 : Int32 := (v5 + (iI 1))
 jv_wp (d + 1) post (131, 15, [some (.ref 34), some (.int v1), some (.int v2), some (.int v5), some (.int v4), some (.int x10), some (.int x4), some (.int x7), some (.int x7)], [], s5))) ∧
 (¬ v4 ≤ x7 → (let x11 : Int32 := (v5 + (iI 1))
 jv_wp (d + 1) post (131, 15, [some (.ref 34), some (.int v1), some (.int v2), some (.int v5), some (.int x7), some (.int x11), some (.int x4), some (.int x7), some (.int x7)], [], s5))))))) ∧
 (¬ x4 ≤ x7 → ((v4 ≤ x4 → ((v4 ≤ x4 → (let x12 : Int32 := (v5 + (iI 1))
 jv_wp (d + 1) post (131, 15, [some (.ref 34), some (.int v1), some (.int v2), some (.int v3), some (.int v4), some (.int x12), some (.int x4), some (.int x7), some (.int x4)], [], s5))) ∧
 (¬ v4 ≤ x4 → (let x13 : Int32 := (v5 + (iI 1))
 jv_wp (d + 1) post (131, 15, [some (.ref 34), some (.int v1), some (.int v2), some (.int v3), some (.int x4), some (.int x13), some (.int x4), some (.int x7), some (.int x4)], [], s5))))) ∧
 (¬ v4 ≤ x4 → ((v4 ≤ x4 → (let x14 : Int32 := (v5 + (iI 1))
 jv_wp (d + 1) post (131, 15, [some (.ref 34), some (.int v1), some (.int v2), some (.int v5), some (.int v4), some (.int x14), some (.int x4), some (.int x7), some (.int x4)], [], s5))) ∧
 (¬ v4 ≤ x4 → (let x15 : Int32 := (v5 + (iI 1))
 jv_wp (d + 1) post (131, 15, [some (.ref 34), some (.int v1), some (.int v2), some (.int v5), some (.int x4), some (.int x15), some (.int x4), some (.int x7), some (.int x4)], [], s5))))))))))))))))
set_option maxRecDepth 100000 in
set_option maxHeartbeats 4000000 in
theorem ok_X9_listenOf_L15 {d : Nat} {post : jPo} {σ : jSt} {v1 : Int32} {v2 : Int32} {v3 : Int32} {v4 : Int32} {v5 : Int32} {z6 : Option Value} {z7 : Option Value} {z8 : Option Value} (h : vc_X9_listenOf_L15 d post σ v1 v2 v3 v4 v5 z6 z7 z8) : jv_wp (d + 1) post (131, 15, [some (.ref 34), some (.int v1), some (.int v2), some (.int v3), some (.int v4), some (.int v5), z6, z7, z8], [], σ) := jv_go_ok 39 [15] _ _ _ h
def vc_X9_draw (d : Nat) (post : jPo) (σ : jSt) (v1 : Int32) : Prop :=
 (let s1 : jSt := jv_u σ 34 26 (((((Int64.ofNat 1103515245) * ((σ.1 34 26)).toInt64) + (Int64.ofNat 12345)) &&& (Int64.ofNat 2147483647))).toInt32
 (¬ (Int32.ofNat 65536) = 0 ∧ (¬ v1 = 0 ∧ post (some (.int (((s1.1 34 26) / (Int32.ofNat 65536)) - ((s1.1 34 26) / (Int32.ofNat 65536)) / v1 * v1))) s1)))
set_option maxRecDepth 100000 in
set_option maxHeartbeats 4000000 in
theorem ok_X9_draw {d : Nat} {post : jPo} {σ : jSt} {v1 : Int32} (h : vc_X9_draw d post σ v1) : jv_wp (d + 1) post (132, 0, [some (.ref 34), some (.int v1)], [], σ) := jv_go_ok 19 [] _ _ _ h
def vc_X9_years (d : Nat) (post : jPo) (σ : jSt) (v1 : Int32) (v2 : Int32) (v3 : Int32) : Prop :=
 jq_I d 78 [.long (v1).toInt64, .long (Int64.ofNat 1), .long (Int64.ofNat 60)] σ (fun x2 s1 =>
 ((x2 = 0 → post (some (.int (iI (-102)))) s1) ∧
 (¬ x2 = 0 → ((v2 < 0 → post (some (.int (iI (-102)))) s1) ∧
 (¬ v2 < 0 → jq_I d 78 [.long (v3).toInt64, .long (Int64.ofNat 0), .long (Int64.ofNat 2)] s1 (fun x4 s3 =>
 ((¬ x4 = 0 → jq_I d 89 [.ref 34] s3 (fun x6 s5 =>
 ((x6 = 0 → (let s7 : jSt := jv_u s5 34 26 v2
 jq_V d 99 [.ref 34] s7 (fun s8 =>
 jv_wp (d + 1) post (133, 59, [some (.ref 34), some (.int v1), some (.int v2), some (.int v3), some (.int (iI 0)), some (.int (iI 0)), some (.int (iI 0)), none, none], [], s8)))) ∧
 (¬ x6 = 0 → post (some (.int (iI (-103)))) s5)))) ∧
 (x4 = 0 → post (some (.int (iI (-102)))) s3))))))))
set_option maxRecDepth 100000 in
set_option maxHeartbeats 4000000 in
theorem ok_X9_years {d : Nat} {post : jPo} {σ : jSt} {v1 : Int32} {v2 : Int32} {v3 : Int32} (h : vc_X9_years d post σ v1 v2 v3) : jv_wp (d + 1) post (133, 0, [some (.ref 34), some (.int v1), some (.int v2), some (.int v3), none, none, none, none, none], [], σ) := jv_go_ok 29 [59] _ _ _ h
def vc_X9_years_L59 (d : Nat) (post : jPo) (σ : jSt) (v1 : Int32) (v2 : Int32) (v3 : Int32) (v4 : Int32) (v5 : Int32) (v6 : Int32) (z7 : Option Value) (z8 : Option Value) : Prop :=
 ((v1 ≤ v6 → ((¬ v3 = 0 → ((¬ v3 = (iI 1) → post (some (.int (σ.1 34 26))) σ) ∧
 (v3 = (iI 1) → post (some (.int v5)) σ))) ∧
 (v3 = 0 → post (some (.int v4)) σ))) ∧
 (¬ v1 ≤ v6 → jq_I d 132 [.ref 34, .int (σ.1 34 4)] σ (fun x2 s1 =>
 jq_I d 102 [.ref 34, .int x2, .int ((s1.1 34 5) + v6)] s1 (fun x4 s3 =>
 ((x4 = 0 → (let x5 : Int32 := (v6 + (iI 1))
 jv_wp (d + 1) post (133, 59, [some (.ref 34), some (.int v1), some (.int v2), some (.int v3), some (.int v4), some (.int v5), some (.int x5), some (.int x2), some (.int (iI (-1)))], [], s3))) ∧
 (¬ x4 = 0 → jq_I d 103 [.ref 34, .int x2, .int ((s3.1 34 5) + v6)] s3 (fun x11 s10 =>
 ((x11 = (iI (-1)) → (let x12 : Int32 := (v6 + (iI 1))
 jv_wp (d + 1) post (133, 59, [some (.ref 34), some (.int v1), some (.int v2), some (.int v3), some (.int v4), some (.int v5), some (.int x12), some (.int x2), some (.int x11)], [], s10))) ∧
 (¬ x11 = (iI (-1)) → (let x13 : Int32 := (v4 + x11)
 (let x14 : Int32 := (v5 + (iI 1))
 (vp_in x2 5 ∧ (let s15 : jSt := jv_u s10 45 x2.toNatClampNeg (iI 0)
 (let x16 : Int32 := (v6 + (iI 1))
 jv_wp (d + 1) post (133, 59, [some (.ref 34), some (.int v1), some (.int v2), some (.int v3), some (.int x13), some (.int x14), some (.int x16), some (.int x2), some (.int x11)], [], s15)))))))))))))))
set_option maxRecDepth 100000 in
set_option maxHeartbeats 4000000 in
theorem ok_X9_years_L59 {d : Nat} {post : jPo} {σ : jSt} {v1 : Int32} {v2 : Int32} {v3 : Int32} {v4 : Int32} {v5 : Int32} {v6 : Int32} {z7 : Option Value} {z8 : Option Value} (h : vc_X9_years_L59 d post σ v1 v2 v3 v4 v5 v6 z7 z8) : jv_wp (d + 1) post (133, 59, [some (.ref 34), some (.int v1), some (.int v2), some (.int v3), some (.int v4), some (.int v5), some (.int v6), z7, z8], [], σ) := jv_go_ok 41 [59] _ _ _ (show ((v1 ≤ v6 → ((¬ v3 = 0 → ((¬ v3 = (iI 1) → post (some (.int (σ.1 34 26))) σ) ∧
 (v3 = (iI 1) → post (some (.int v5)) σ))) ∧
 (v3 = 0 → post (some (.int v4)) σ))) ∧
 (¬ v1 ≤ v6 → jq_I d 132 [.ref 34, .int (σ.1 34 4)] σ (fun x2 s1 =>
 jq_I d 102 [.ref 34, .int x2, .int ((s1.1 34 5) + v6)] s1 (fun x4 s3 =>
 ((x4 = 0 → (((iI (-1)) = (iI (-1)) → (let x5 : Int32 := (v6 + (iI 1))
 jv_wp (d + 1) post (133, 59, [some (.ref 34), some (.int v1), some (.int v2), some (.int v3), some (.int v4), some (.int v5), some (.int x5), some (.int x2), some (.int (iI (-1)))], [], s3))) ∧
 (¬ (iI (-1)) = (iI (-1)) → (let x6 : Int32 := (v4 + (iI (-1)))
 (let x7 : Int32 := (v5 + (iI 1))
 (vp_in x2 5 ∧ (let s8 : jSt := jv_u s3 45 x2.toNatClampNeg (iI 0)
 (let x9 : Int32 := (v6 + (iI 1))
 jv_wp (d + 1) post (133, 59, [some (.ref 34), some (.int v1), some (.int v2), some (.int v3), some (.int x6), some (.int x7), some (.int x9), some (.int x2), some (.int (iI (-1)))], [], s8))))))))) ∧
 (¬ x4 = 0 → jq_I d 103 [.ref 34, .int x2, .int ((s3.1 34 5) + v6)] s3 (fun x11 s10 =>
 ((x11 = (iI (-1)) → (let x12 : Int32 := (v6 + (iI 1))
 jv_wp (d + 1) post (133, 59, [some (.ref 34), some (.int v1), some (.int v2), some (.int v3), some (.int v4), some (.int v5), some (.int x12), some (.int x2), some (.int x11)], [], s10))) ∧
 (¬ x11 = (iI (-1)) → (let x13 : Int32 := (v4 + x11)
 (let x14 : Int32 := (v5 + (iI 1))
 (vp_in x2 5 ∧ (let s15 : jSt := jv_u s10 45 x2.toNatClampNeg (iI 0)
 (let x16 : Int32 := (v6 + (iI 1))
 jv_wp (d + 1) post (133, 59, [some (.ref 34), some (.int v1), some (.int v2), some (.int v3), some (.int x13), some (.int x14), some (.int x16), some (.int x2), some (.int x11)], [], s15))))))))))))))) from ⟨fun c260 => ((h).1 c260), fun c260 => jq_I_con (((h).2 c260)) (fun x2 s1 h262 => jq_I_con (h262) (fun x4 s3 h263 => ⟨fun c264 => ⟨fun _ => ((h263).1 c264), fun q => absurd q (by decide +kernel)⟩, fun c264 => ((h263).2 c264)⟩))⟩)
def vc_X9_image (d : Nat) (post : jPo) (σ : jSt)  : Prop :=
 jq_I d 89 [.ref 34] σ (fun x2 s1 =>
 ((x2 = 0 → jq_V d 79 [.ref 36, .ref 49] s1 (fun s3 =>
 jq_V d 79 [.ref 38, .ref 50] s3 (fun s4 =>
 jq_V d 79 [.ref 39, .ref 51] s4 (fun s5 =>
 jq_V d 79 [.ref 42, .ref 52] s5 (fun s6 =>
 jq_V d 79 [.ref 43, .ref 53] s6 (fun s7 =>
 jq_V d 79 [.ref 44, .ref 54] s7 (fun s8 =>
 jq_V d 79 [.ref 48, .ref 55] s8 (fun s9 =>
 (let s10 : jSt := jv_u s9 34 28 (s9.1 34 5)
 (let s11 : jSt := jv_u s10 34 29 (s10.1 34 6)
 (let s12 : jSt := jv_u s11 34 30 (s11.1 34 24)
 (let s13 : jSt := jv_u s12 34 27 (s12.1 34 7)
 post (some (.int (s13.1 34 5))) s13)))))))))))) ∧
 (¬ x2 = 0 → post (some (.int (iI (-103)))) s1)))
set_option maxRecDepth 100000 in
set_option maxHeartbeats 4000000 in
theorem ok_X9_image {d : Nat} {post : jPo} {σ : jSt} (h : vc_X9_image d post σ ) : jv_wp (d + 1) post (134, 0, [some (.ref 34)], [], σ) := jv_go_ok 57 [] _ _ _ h
def vc_X9_restore (d : Nat) (post : jPo) (σ : jSt)  : Prop :=
 (((σ.1 34 27) = (σ.1 34 7) → jq_V d 79 [.ref 49, .ref 36] σ (fun s1 =>
 jq_V d 79 [.ref 50, .ref 38] s1 (fun s2 =>
 jq_V d 79 [.ref 51, .ref 39] s2 (fun s3 =>
 jq_V d 79 [.ref 52, .ref 42] s3 (fun s4 =>
 jq_V d 79 [.ref 53, .ref 43] s4 (fun s5 =>
 jq_V d 79 [.ref 54, .ref 44] s5 (fun s6 =>
 jq_V d 79 [.ref 55, .ref 48] s6 (fun s7 =>
 (let s8 : jSt := jv_u s7 34 5 (s7.1 34 28)
 (let s9 : jSt := jv_u s8 34 6 (s8.1 34 29)
 (let s10 : jSt := jv_u s9 34 24 (s9.1 34 30)
 post (some (.int (s10.1 34 5))) s10))))))))))) ∧
 (¬ (σ.1 34 27) = (σ.1 34 7) → post (some (.int (iI (-103)))) σ))
set_option maxRecDepth 100000 in
set_option maxHeartbeats 4000000 in
theorem ok_X9_restore {d : Nat} {post : jPo} {σ : jSt} (h : vc_X9_restore d post σ ) : jv_wp (d + 1) post (135, 0, [some (.ref 34)], [], σ) := jv_go_ok 55 [] _ _ _ h
def vc_X9_standing (d : Nat) (post : jPo) (σ : jSt) (v1 : Int32) : Prop :=
 jv_wp (d + 1) post (136, 4, [some (.ref 34), some (.int v1), some (.int (iI 0)), some (.int (iI 0))], [], σ)
set_option maxRecDepth 100000 in
set_option maxHeartbeats 4000000 in
theorem ok_X9_standing {d : Nat} {post : jPo} {σ : jSt} {v1 : Int32} (h : vc_X9_standing d post σ v1) : jv_wp (d + 1) post (136, 0, [some (.ref 34), some (.int v1), none, none], [], σ) := jv_go_ok 5 [4] _ _ _ h
def vc_X9_standing_L4 (d : Nat) (post : jPo) (σ : jSt) (v1 : Int32) (v2 : Int32) (v3 : Int32) : Prop :=
 (((σ.1 34 4) ≤ v3 → post (some (.int v2)) σ) ∧
 (¬ (σ.1 34 4) ≤ v3 → (vp_in v3 5 ∧ ((¬ (σ.1 43 v3.toNatClampNeg) = v1 → (let x1 : Int32 := (v2 + (iI 0))
 (let x2 : Int32 := (v3 + (iI 1))
 jv_wp (d + 1) post (136, 4, [some (.ref 34), some (.int v1), some (.int x1), some (.int x2)], [], σ)))) ∧
 ((σ.1 43 v3.toNatClampNeg) = v1 → (let x3 : Int32 := (v2 + (iI 1))
 (let x4 : Int32 := (v3 + (iI 1))
 jv_wp (d + 1) post (136, 4, [some (.ref 34), some (.int v1), some (.int x3), some (.int x4)], [], σ))))))))
set_option maxRecDepth 100000 in
set_option maxHeartbeats 4000000 in
theorem ok_X9_standing_L4 {d : Nat} {post : jPo} {σ : jSt} {v1 : Int32} {v2 : Int32} {v3 : Int32} (h : vc_X9_standing_L4 d post σ v1 v2 v3) : jv_wp (d + 1) post (136, 4, [some (.ref 34), some (.int v1), some (.int v2), some (.int v3)], [], σ) := jv_go_ok 18 [4] _ _ _ h
def vc_X9_onRight (d : Nat) (post : jPo) (σ : jSt)  : Prop :=
 jv_wp (d + 1) post (137, 4, [some (.ref 34), some (.int (iI 0)), some (.int (iI 0))], [], σ)
set_option maxRecDepth 100000 in
set_option maxHeartbeats 4000000 in
theorem ok_X9_onRight {d : Nat} {post : jPo} {σ : jSt} (h : vc_X9_onRight d post σ ) : jv_wp (d + 1) post (137, 0, [some (.ref 34), none, none], [], σ) := jv_go_ok 5 [4] _ _ _ h
def vc_X9_onRight_L4 (d : Nat) (post : jPo) (σ : jSt) (v1 : Int32) (v2 : Int32) : Prop :=
 (((σ.1 34 3) ≤ v2 → post (some (.int v1)) σ) ∧
 (¬ (σ.1 34 3) ≤ v2 → (vp_in v2 6 ∧ (let x1 : Int32 := (v1 + (σ.1 38 v2.toNatClampNeg))
 (let x2 : Int32 := (v2 + (iI 1))
 jv_wp (d + 1) post (137, 4, [some (.ref 34), some (.int x1), some (.int x2)], [], σ))))))
set_option maxRecDepth 100000 in
set_option maxHeartbeats 4000000 in
theorem ok_X9_onRight_L4 {d : Nat} {post : jPo} {σ : jSt} {v1 : Int32} {v2 : Int32} (h : vc_X9_onRight_L4 d post σ v1 v2) : jv_wp (d + 1) post (137, 4, [some (.ref 34), some (.int v1), some (.int v2)], [], σ) := jv_go_ok 14 [4] _ _ _ h
def vc_X9_countOf (d : Nat) (post : jPo) (σ : jSt) (v1 : Int32) : Prop :=
 ((v1 = (iI 0) → post (some (.int (σ.1 34 3))) σ) ∧
 (¬ v1 = (iI 0) → ((v1 = (iI 1) → post (some (.int (σ.1 34 4))) σ) ∧
 (¬ v1 = (iI 1) → ((v1 = (iI 2) → post (some (.int (σ.1 34 5))) σ) ∧
 (¬ v1 = (iI 2) → ((v1 = (iI 3) → jq_I d 97 [.ref 34, .int (σ.1 34 5)] σ (fun x2 s1 =>
 jq_I d 98 [.int x2] s1 (fun x4 s3 =>
 post (some (.int x4)) s3))) ∧
 (¬ v1 = (iI 3) → ((v1 = (iI 4) → jq_I d 137 [.ref 34] σ (fun x6 s5 =>
 post (some (.int x6)) s5)) ∧
 (¬ v1 = (iI 4) → ((v1 = (iI 5) → jq_I d 136 [.ref 34, .int (iI 1)] σ (fun x8 s7 =>
 post (some (.int x8)) s7)) ∧
 (¬ v1 = (iI 5) → ((v1 = (iI 6) → jq_I d 136 [.ref 34, .int (iI 2)] σ (fun x10 s9 =>
 post (some (.int x10)) s9)) ∧
 (¬ v1 = (iI 6) → ((v1 = (iI 7) → post (some (.int (σ.1 34 6))) σ) ∧
 (¬ v1 = (iI 7) → ((v1 = (iI 8) → post (some (.int (σ.1 34 24))) σ) ∧
 (¬ v1 = (iI 8) → ((v1 = (iI 9) → post (some (.int (σ.1 34 1))) σ) ∧
 (¬ v1 = (iI 9) → ((v1 = (iI 10) → post (some (.int (σ.1 34 7))) σ) ∧
 (¬ v1 = (iI 10) → ((v1 = (iI 11) → post (some (.int (σ.1 34 22))) σ) ∧
 (¬ v1 = (iI 11) → post (some (.int (iI (-102)))) σ))))))))))))))))))))))))
set_option maxRecDepth 100000 in
set_option maxHeartbeats 4000000 in
theorem ok_X9_countOf {d : Nat} {post : jPo} {σ : jSt} {v1 : Int32} (h : vc_X9_countOf d post σ v1) : jv_wp (d + 1) post (138, 0, [some (.ref 34), some (.int v1)], [], σ) := jv_go_ok 8 [] _ _ _ h
def vc_X9_count (d : Nat) (post : jPo) (σ : jSt) (v1 : Int32) : Prop :=
 jq_I d 138 [.ref 34, .int v1] σ (fun x2 s1 =>
 post (some (.int x2)) s1)
set_option maxRecDepth 100000 in
set_option maxHeartbeats 4000000 in
theorem ok_X9_count {d : Nat} {post : jPo} {σ : jSt} {v1 : Int32} (h : vc_X9_count d post σ v1) : jv_wp (d + 1) post (139, 0, [some (.ref 34), some (.int v1)], [], σ) := jv_go_ok 4 [] _ _ _ h
def vc_X9_mix (d : Nat) (post : jPo) (σ : jSt) (w1 : Int64) : Prop :=
 (let s1 : jSt := jv_h σ (((Int64.ofNat 31) * σ.2.1) + w1)
 post none s1)
set_option maxRecDepth 100000 in
set_option maxHeartbeats 4000000 in
theorem ok_X9_mix {d : Nat} {post : jPo} {σ : jSt} {w1 : Int64} (h : vc_X9_mix d post σ w1) : jv_wp (d + 1) post (140, 0, [some (.ref 34), some (.long w1), none], [], σ) := jv_go_ok 9 [] _ _ _ h
def vc_X9_sayRiver (d : Nat) (post : jPo) (σ : jSt)  : Prop :=
 jv_wp (d + 1) post (141, 2, [some (.ref 34), some (.int (iI 0))], [], σ)
set_option maxRecDepth 100000 in
set_option maxHeartbeats 4000000 in
theorem ok_X9_sayRiver {d : Nat} {post : jPo} {σ : jSt} (h : vc_X9_sayRiver d post σ ) : jv_wp (d + 1) post (141, 0, [some (.ref 34), none], [], σ) := jv_go_ok 3 [2, 29] _ _ _ h
def vc_X9_sayRiver_L2 (d : Nat) (post : jPo) (σ : jSt) (v1 : Int32) : Prop :=
 (((iI 4) ≤ v1 → jv_wp (d + 1) post (141, 29, [some (.ref 34), some (.int (iI 0))], [], σ)) ∧
 (¬ (iI 4) ≤ v1 → jq_I d 111 [.ref 34, .int (σ.1 34 5), .int v1] σ (fun x2 s1 =>
 jq_V d 140 [.ref 34, .long (x2).toInt64] s1 (fun s3 =>
 (let x4 : Int32 := (v1 + (iI 1))
 jv_wp (d + 1) post (141, 2, [some (.ref 34), some (.int x4)], [], s3))))))
set_option maxRecDepth 100000 in
set_option maxHeartbeats 4000000 in
theorem ok_X9_sayRiver_L2 {d : Nat} {post : jPo} {σ : jSt} {v1 : Int32} (h : vc_X9_sayRiver_L2 d post σ v1) : jv_wp (d + 1) post (141, 2, [some (.ref 34), some (.int v1)], [], σ) := jv_go_ok 14 [2, 29] _ _ _ h
def vc_X9_sayRiver_L29 (d : Nat) (post : jPo) (σ : jSt) (v1 : Int32) : Prop :=
 (((iI 4) ≤ v1 → jq_I d 123 [.ref 34, .int (iI 0)] σ (fun x2 s1 =>
 jq_V d 140 [.ref 34, .long (x2).toInt64] s1 (fun s3 =>
 jq_I d 123 [.ref 34, .int (iI 1)] s3 (fun x5 s4 =>
 jq_V d 140 [.ref 34, .long (x5).toInt64] s4 (fun s6 =>
 post none s6))))) ∧
 (¬ (iI 4) ≤ v1 → jq_I d 111 [.ref 34, .int ((σ.1 34 5) + (iI 40)), .int v1] σ (fun x8 s7 =>
 jq_V d 140 [.ref 34, .long (x8).toInt64] s7 (fun s9 =>
 (let x10 : Int32 := (v1 + (iI 1))
 jv_wp (d + 1) post (141, 29, [some (.ref 34), some (.int x10)], [], s9))))))
set_option maxRecDepth 100000 in
set_option maxHeartbeats 4000000 in
theorem ok_X9_sayRiver_L29 {d : Nat} {post : jPo} {σ : jSt} {v1 : Int32} (h : vc_X9_sayRiver_L29 d post σ v1) : jv_wp (d + 1) post (141, 29, [some (.ref 34), some (.int v1)], [], σ) := jv_go_ok 16 [2, 29] _ _ _ h
def vc_X9_digest (d : Nat) (post : jPo) (σ : jSt)  : Prop :=
 (let s1 : jSt := jv_h σ (Int64.ofNat 1279)
 jv_wp (d + 1) post (142, 9, [some (.ref 34), some (.int (iI 0)), none], [], s1))
set_option maxRecDepth 100000 in
set_option maxHeartbeats 4000000 in
theorem ok_X9_digest {d : Nat} {post : jPo} {σ : jSt} (h : vc_X9_digest d post σ ) : jv_wp (d + 1) post (142, 0, [some (.ref 34), none, none], [], σ) := jv_go_ok 6 [9, 19, 50, 60, 102, 129] _ _ _ h
def vc_X9_digest_L9 (d : Nat) (post : jPo) (σ : jSt) (v1 : Int32) (z2 : Option Value) : Prop :=
 (((σ.1 34 3) ≤ v1 → jv_wp (d + 1) post (142, 50, [some (.ref 34), some (.int (iI 0)), z2], [], σ)) ∧
 (¬ (σ.1 34 3) ≤ v1 → jv_wp (d + 1) post (142, 19, [some (.ref 34), some (.int v1), some (.int (iI 0))], [], σ)))
set_option maxRecDepth 100000 in
set_option maxHeartbeats 4000000 in
theorem ok_X9_digest_L9 {d : Nat} {post : jPo} {σ : jSt} {v1 : Int32} {z2 : Option Value} (h : vc_X9_digest_L9 d post σ v1 z2) : jv_wp (d + 1) post (142, 9, [some (.ref 34), some (.int v1), z2], [], σ) := jv_go_ok 7 [9, 19, 50, 60, 102, 129] _ _ _ h
def vc_X9_digest_L19 (d : Nat) (post : jPo) (σ : jSt) (v1 : Int32) (v2 : Int32) : Prop :=
 (((iI 8) ≤ v2 → (let x1 : Int32 := (v1 + (iI 1))
 jv_wp (d + 1) post (142, 9, [some (.ref 34), some (.int x1), some (.int v2)], [], σ))) ∧
 (¬ (iI 8) ≤ v2 → jq_I d 105 [.ref 34, .int v1, .int v2] σ (fun x3 s2 =>
 jq_V d 140 [.ref 34, .long (x3).toInt64] s2 (fun s4 =>
 (let x5 : Int32 := (v2 + (iI 1))
 jv_wp (d + 1) post (142, 19, [some (.ref 34), some (.int v1), some (.int x5)], [], s4))))))
set_option maxRecDepth 100000 in
set_option maxHeartbeats 4000000 in
theorem ok_X9_digest_L19 {d : Nat} {post : jPo} {σ : jSt} {v1 : Int32} {v2 : Int32} (h : vc_X9_digest_L19 d post σ v1 v2) : jv_wp (d + 1) post (142, 19, [some (.ref 34), some (.int v1), some (.int v2)], [], σ) := jv_go_ok 13 [9, 19, 50, 60, 102, 129] _ _ _ h
def vc_X9_digest_L50 (d : Nat) (post : jPo) (σ : jSt) (v1 : Int32) (z2 : Option Value) : Prop :=
 (((σ.1 34 4) ≤ v1 → jq_I d 89 [.ref 34] σ (fun x2 s1 =>
 ((¬ x2 = 0 → jv_wp (d + 1) post (142, 102, [some (.ref 34), some (.int (iI 0)), z2], [], s1)) ∧
 (x2 = 0 → jq_V d 141 [.ref 34] s1 (fun s3 =>
 jv_wp (d + 1) post (142, 102, [some (.ref 34), some (.int (iI 0)), z2], [], s3)))))) ∧
 (¬ (σ.1 34 4) ≤ v1 → jv_wp (d + 1) post (142, 60, [some (.ref 34), some (.int v1), some (.int (iI 0))], [], σ)))
set_option maxRecDepth 100000 in
set_option maxHeartbeats 4000000 in
theorem ok_X9_digest_L50 {d : Nat} {post : jPo} {σ : jSt} {v1 : Int32} {z2 : Option Value} (h : vc_X9_digest_L50 d post σ v1 z2) : jv_wp (d + 1) post (142, 50, [some (.ref 34), some (.int v1), z2], [], σ) := jv_go_ok 12 [9, 19, 50, 60, 102, 129] _ _ _ h
def vc_X9_digest_L60 (d : Nat) (post : jPo) (σ : jSt) (v1 : Int32) (v2 : Int32) : Prop :=
 (((iI 7) ≤ v2 → (let x1 : Int32 := (v1 + (iI 1))
 jv_wp (d + 1) post (142, 50, [some (.ref 34), some (.int x1), some (.int v2)], [], σ))) ∧
 (¬ (iI 7) ≤ v2 → jq_I d 109 [.ref 34, .int v1, .int v2] σ (fun x3 s2 =>
 jq_V d 140 [.ref 34, .long (x3).toInt64] s2 (fun s4 =>
 (let x5 : Int32 := (v2 + (iI 1))
 jv_wp (d + 1) post (142, 60, [some (.ref 34), some (.int v1), some (.int x5)], [], s4))))))
set_option maxRecDepth 100000 in
set_option maxHeartbeats 4000000 in
theorem ok_X9_digest_L60 {d : Nat} {post : jPo} {σ : jSt} {v1 : Int32} {v2 : Int32} (h : vc_X9_digest_L60 d post σ v1 v2) : jv_wp (d + 1) post (142, 60, [some (.ref 34), some (.int v1), some (.int v2)], [], σ) := jv_go_ok 13 [9, 19, 50, 60, 102, 129] _ _ _ h
def vc_X9_digest_L102 (d : Nat) (post : jPo) (σ : jSt) (v1 : Int32) (z2 : Option Value) : Prop :=
 (((σ.1 34 1) ≤ v1 → jv_wp (d + 1) post (142, 129, [some (.ref 34), some (.int (iI 0)), z2], [], σ)) ∧
 (¬ (σ.1 34 1) ≤ v1 → (vp_in v1 44 ∧ jq_V d 140 [.ref 34, .long ((σ.1 35 v1.toNatClampNeg)).toInt64] σ (fun s1 =>
 (let x2 : Int32 := (v1 + (iI 1))
 jv_wp (d + 1) post (142, 102, [some (.ref 34), some (.int x2), z2], [], s1))))))
set_option maxRecDepth 100000 in
set_option maxHeartbeats 4000000 in
theorem ok_X9_digest_L102 {d : Nat} {post : jPo} {σ : jSt} {v1 : Int32} {z2 : Option Value} (h : vc_X9_digest_L102 d post σ v1 z2) : jv_wp (d + 1) post (142, 102, [some (.ref 34), some (.int v1), z2], [], σ) := jv_go_ok 14 [9, 19, 50, 60, 102, 129] _ _ _ h
def vc_X9_digest_L129 (d : Nat) (post : jPo) (σ : jSt) (v1 : Int32) (z2 : Option Value) : Prop :=
 (((iI 12) ≤ v1 → post (some (.long σ.2.1)) σ) ∧
 (¬ (iI 12) ≤ v1 → jq_I d 138 [.ref 34, .int v1] σ (fun x2 s1 =>
 jq_V d 140 [.ref 34, .long (x2).toInt64] s1 (fun s3 =>
 (let x4 : Int32 := (v1 + (iI 1))
 jv_wp (d + 1) post (142, 129, [some (.ref 34), some (.int x4), z2], [], s3))))))
set_option maxRecDepth 100000 in
set_option maxHeartbeats 4000000 in
theorem ok_X9_digest_L129 {d : Nat} {post : jPo} {σ : jSt} {v1 : Int32} {z2 : Option Value} (h : vc_X9_digest_L129 d post σ v1 z2) : jv_wp (d + 1) post (142, 129, [some (.ref 34), some (.int v1), z2], [], σ) := jv_go_ok 12 [9, 19, 50, 60, 102, 129] _ _ _ h
def vc_X9_copy_43_45 (d : Nat) (post : jPo) (σ : jSt)  : Prop :=
 jv_wp (d + 1) post (79, 2, [some (.ref 43), some (.ref 45), some (.int (iI 0))], [], σ)
set_option maxRecDepth 100000 in
set_option maxHeartbeats 4000000 in
theorem ok_X9_copy_43_45 {d : Nat} {post : jPo} {σ : jSt} (h : vc_X9_copy_43_45 d post σ ) : jv_wp (d + 1) post (79, 0, [some (.ref 43), some (.ref 45), none], [], σ) := jv_go_ok 3 [2] _ _ _ h
def vc_X9_copy_43_45_L2 (d : Nat) (post : jPo) (σ : jSt) (v2 : Int32) : Prop :=
 (((Int32.ofNat 5) ≤ v2 → post none σ) ∧
 (¬ (Int32.ofNat 5) ≤ v2 → (vp_in v2 5 ∧ (vp_in v2 5 ∧ (let s1 : jSt := jv_u σ 45 v2.toNatClampNeg (σ.1 43 v2.toNatClampNeg)
 (let x2 : Int32 := (v2 + (iI 1))
 jv_wp (d + 1) post (79, 2, [some (.ref 43), some (.ref 45), some (.int x2)], [], s1)))))))
set_option maxRecDepth 100000 in
set_option maxHeartbeats 4000000 in
theorem ok_X9_copy_43_45_L2 {d : Nat} {post : jPo} {σ : jSt} {v2 : Int32} (h : vc_X9_copy_43_45_L2 d post σ v2) : jv_wp (d + 1) post (79, 2, [some (.ref 43), some (.ref 45), some (.int v2)], [], σ) := jv_go_ok 13 [2] _ _ _ h
def vc_X9_copy_44_46 (d : Nat) (post : jPo) (σ : jSt)  : Prop :=
 jv_wp (d + 1) post (79, 2, [some (.ref 44), some (.ref 46), some (.int (iI 0))], [], σ)
set_option maxRecDepth 100000 in
set_option maxHeartbeats 4000000 in
theorem ok_X9_copy_44_46 {d : Nat} {post : jPo} {σ : jSt} (h : vc_X9_copy_44_46 d post σ ) : jv_wp (d + 1) post (79, 0, [some (.ref 44), some (.ref 46), none], [], σ) := jv_go_ok 3 [2] _ _ _ h
def vc_X9_copy_44_46_L2 (d : Nat) (post : jPo) (σ : jSt) (v2 : Int32) : Prop :=
 (((Int32.ofNat 5) ≤ v2 → post none σ) ∧
 (¬ (Int32.ofNat 5) ≤ v2 → (vp_in v2 5 ∧ (vp_in v2 5 ∧ (let s1 : jSt := jv_u σ 46 v2.toNatClampNeg (σ.1 44 v2.toNatClampNeg)
 (let x2 : Int32 := (v2 + (iI 1))
 jv_wp (d + 1) post (79, 2, [some (.ref 44), some (.ref 46), some (.int x2)], [], s1)))))))
set_option maxRecDepth 100000 in
set_option maxHeartbeats 4000000 in
theorem ok_X9_copy_44_46_L2 {d : Nat} {post : jPo} {σ : jSt} {v2 : Int32} (h : vc_X9_copy_44_46_L2 d post σ v2) : jv_wp (d + 1) post (79, 2, [some (.ref 44), some (.ref 46), some (.int v2)], [], σ) := jv_go_ok 13 [2] _ _ _ h
def vc_X9_copy_45_43 (d : Nat) (post : jPo) (σ : jSt)  : Prop :=
 jv_wp (d + 1) post (79, 2, [some (.ref 45), some (.ref 43), some (.int (iI 0))], [], σ)
set_option maxRecDepth 100000 in
set_option maxHeartbeats 4000000 in
theorem ok_X9_copy_45_43 {d : Nat} {post : jPo} {σ : jSt} (h : vc_X9_copy_45_43 d post σ ) : jv_wp (d + 1) post (79, 0, [some (.ref 45), some (.ref 43), none], [], σ) := jv_go_ok 3 [2] _ _ _ h
def vc_X9_copy_45_43_L2 (d : Nat) (post : jPo) (σ : jSt) (v2 : Int32) : Prop :=
 (((Int32.ofNat 5) ≤ v2 → post none σ) ∧
 (¬ (Int32.ofNat 5) ≤ v2 → (vp_in v2 5 ∧ (vp_in v2 5 ∧ (let s1 : jSt := jv_u σ 43 v2.toNatClampNeg (σ.1 45 v2.toNatClampNeg)
 (let x2 : Int32 := (v2 + (iI 1))
 jv_wp (d + 1) post (79, 2, [some (.ref 45), some (.ref 43), some (.int x2)], [], s1)))))))
set_option maxRecDepth 100000 in
set_option maxHeartbeats 4000000 in
theorem ok_X9_copy_45_43_L2 {d : Nat} {post : jPo} {σ : jSt} {v2 : Int32} (h : vc_X9_copy_45_43_L2 d post σ v2) : jv_wp (d + 1) post (79, 2, [some (.ref 45), some (.ref 43), some (.int v2)], [], σ) := jv_go_ok 13 [2] _ _ _ h
def vc_X9_copy_46_44 (d : Nat) (post : jPo) (σ : jSt)  : Prop :=
 jv_wp (d + 1) post (79, 2, [some (.ref 46), some (.ref 44), some (.int (iI 0))], [], σ)
set_option maxRecDepth 100000 in
set_option maxHeartbeats 4000000 in
theorem ok_X9_copy_46_44 {d : Nat} {post : jPo} {σ : jSt} (h : vc_X9_copy_46_44 d post σ ) : jv_wp (d + 1) post (79, 0, [some (.ref 46), some (.ref 44), none], [], σ) := jv_go_ok 3 [2] _ _ _ h
def vc_X9_copy_46_44_L2 (d : Nat) (post : jPo) (σ : jSt) (v2 : Int32) : Prop :=
 (((Int32.ofNat 5) ≤ v2 → post none σ) ∧
 (¬ (Int32.ofNat 5) ≤ v2 → (vp_in v2 5 ∧ (vp_in v2 5 ∧ (let s1 : jSt := jv_u σ 44 v2.toNatClampNeg (σ.1 46 v2.toNatClampNeg)
 (let x2 : Int32 := (v2 + (iI 1))
 jv_wp (d + 1) post (79, 2, [some (.ref 46), some (.ref 44), some (.int x2)], [], s1)))))))
set_option maxRecDepth 100000 in
set_option maxHeartbeats 4000000 in
theorem ok_X9_copy_46_44_L2 {d : Nat} {post : jPo} {σ : jSt} {v2 : Int32} (h : vc_X9_copy_46_44_L2 d post σ v2) : jv_wp (d + 1) post (79, 2, [some (.ref 46), some (.ref 44), some (.int v2)], [], σ) := jv_go_ok 13 [2] _ _ _ h
def vc_X9_copy_38_47 (d : Nat) (post : jPo) (σ : jSt)  : Prop :=
 jv_wp (d + 1) post (79, 2, [some (.ref 38), some (.ref 47), some (.int (iI 0))], [], σ)
set_option maxRecDepth 100000 in
set_option maxHeartbeats 4000000 in
theorem ok_X9_copy_38_47 {d : Nat} {post : jPo} {σ : jSt} (h : vc_X9_copy_38_47 d post σ ) : jv_wp (d + 1) post (79, 0, [some (.ref 38), some (.ref 47), none], [], σ) := jv_go_ok 3 [2] _ _ _ h
def vc_X9_copy_38_47_L2 (d : Nat) (post : jPo) (σ : jSt) (v2 : Int32) : Prop :=
 (((Int32.ofNat 6) ≤ v2 → post none σ) ∧
 (¬ (Int32.ofNat 6) ≤ v2 → (vp_in v2 6 ∧ (vp_in v2 6 ∧ (let s1 : jSt := jv_u σ 47 v2.toNatClampNeg (σ.1 38 v2.toNatClampNeg)
 (let x2 : Int32 := (v2 + (iI 1))
 jv_wp (d + 1) post (79, 2, [some (.ref 38), some (.ref 47), some (.int x2)], [], s1)))))))
set_option maxRecDepth 100000 in
set_option maxHeartbeats 4000000 in
theorem ok_X9_copy_38_47_L2 {d : Nat} {post : jPo} {σ : jSt} {v2 : Int32} (h : vc_X9_copy_38_47_L2 d post σ v2) : jv_wp (d + 1) post (79, 2, [some (.ref 38), some (.ref 47), some (.int v2)], [], σ) := jv_go_ok 13 [2] _ _ _ h
def vc_X9_copy_47_38 (d : Nat) (post : jPo) (σ : jSt)  : Prop :=
 jv_wp (d + 1) post (79, 2, [some (.ref 47), some (.ref 38), some (.int (iI 0))], [], σ)
set_option maxRecDepth 100000 in
set_option maxHeartbeats 4000000 in
theorem ok_X9_copy_47_38 {d : Nat} {post : jPo} {σ : jSt} (h : vc_X9_copy_47_38 d post σ ) : jv_wp (d + 1) post (79, 0, [some (.ref 47), some (.ref 38), none], [], σ) := jv_go_ok 3 [2] _ _ _ h
def vc_X9_copy_47_38_L2 (d : Nat) (post : jPo) (σ : jSt) (v2 : Int32) : Prop :=
 (((Int32.ofNat 6) ≤ v2 → post none σ) ∧
 (¬ (Int32.ofNat 6) ≤ v2 → (vp_in v2 6 ∧ (vp_in v2 6 ∧ (let s1 : jSt := jv_u σ 38 v2.toNatClampNeg (σ.1 47 v2.toNatClampNeg)
 (let x2 : Int32 := (v2 + (iI 1))
 jv_wp (d + 1) post (79, 2, [some (.ref 47), some (.ref 38), some (.int x2)], [], s1)))))))
set_option maxRecDepth 100000 in
set_option maxHeartbeats 4000000 in
theorem ok_X9_copy_47_38_L2 {d : Nat} {post : jPo} {σ : jSt} {v2 : Int32} (h : vc_X9_copy_47_38_L2 d post σ v2) : jv_wp (d + 1) post (79, 2, [some (.ref 47), some (.ref 38), some (.int v2)], [], σ) := jv_go_ok 13 [2] _ _ _ h
def vc_X9_copy_36_49 (d : Nat) (post : jPo) (σ : jSt)  : Prop :=
 jv_wp (d + 1) post (79, 2, [some (.ref 36), some (.ref 49), some (.int (iI 0))], [], σ)
set_option maxRecDepth 100000 in
set_option maxHeartbeats 4000000 in
theorem ok_X9_copy_36_49 {d : Nat} {post : jPo} {σ : jSt} (h : vc_X9_copy_36_49 d post σ ) : jv_wp (d + 1) post (79, 0, [some (.ref 36), some (.ref 49), none], [], σ) := jv_go_ok 3 [2] _ _ _ h
def vc_X9_copy_36_49_L2 (d : Nat) (post : jPo) (σ : jSt) (v2 : Int32) : Prop :=
 (((Int32.ofNat 6) ≤ v2 → post none σ) ∧
 (¬ (Int32.ofNat 6) ≤ v2 → (vp_in v2 6 ∧ (vp_in v2 6 ∧ (let s1 : jSt := jv_u σ 49 v2.toNatClampNeg (σ.1 36 v2.toNatClampNeg)
 (let x2 : Int32 := (v2 + (iI 1))
 jv_wp (d + 1) post (79, 2, [some (.ref 36), some (.ref 49), some (.int x2)], [], s1)))))))
set_option maxRecDepth 100000 in
set_option maxHeartbeats 4000000 in
theorem ok_X9_copy_36_49_L2 {d : Nat} {post : jPo} {σ : jSt} {v2 : Int32} (h : vc_X9_copy_36_49_L2 d post σ v2) : jv_wp (d + 1) post (79, 2, [some (.ref 36), some (.ref 49), some (.int v2)], [], σ) := jv_go_ok 13 [2] _ _ _ h
def vc_X9_copy_38_50 (d : Nat) (post : jPo) (σ : jSt)  : Prop :=
 jv_wp (d + 1) post (79, 2, [some (.ref 38), some (.ref 50), some (.int (iI 0))], [], σ)
set_option maxRecDepth 100000 in
set_option maxHeartbeats 4000000 in
theorem ok_X9_copy_38_50 {d : Nat} {post : jPo} {σ : jSt} (h : vc_X9_copy_38_50 d post σ ) : jv_wp (d + 1) post (79, 0, [some (.ref 38), some (.ref 50), none], [], σ) := jv_go_ok 3 [2] _ _ _ h
def vc_X9_copy_38_50_L2 (d : Nat) (post : jPo) (σ : jSt) (v2 : Int32) : Prop :=
 (((Int32.ofNat 6) ≤ v2 → post none σ) ∧
 (¬ (Int32.ofNat 6) ≤ v2 → (vp_in v2 6 ∧ (vp_in v2 6 ∧ (let s1 : jSt := jv_u σ 50 v2.toNatClampNeg (σ.1 38 v2.toNatClampNeg)
 (let x2 : Int32 := (v2 + (iI 1))
 jv_wp (d + 1) post (79, 2, [some (.ref 38), some (.ref 50), some (.int x2)], [], s1)))))))
set_option maxRecDepth 100000 in
set_option maxHeartbeats 4000000 in
theorem ok_X9_copy_38_50_L2 {d : Nat} {post : jPo} {σ : jSt} {v2 : Int32} (h : vc_X9_copy_38_50_L2 d post σ v2) : jv_wp (d + 1) post (79, 2, [some (.ref 38), some (.ref 50), some (.int v2)], [], σ) := jv_go_ok 13 [2] _ _ _ h
def vc_X9_copy_39_51 (d : Nat) (post : jPo) (σ : jSt)  : Prop :=
 jv_wp (d + 1) post (79, 2, [some (.ref 39), some (.ref 51), some (.int (iI 0))], [], σ)
set_option maxRecDepth 100000 in
set_option maxHeartbeats 4000000 in
theorem ok_X9_copy_39_51 {d : Nat} {post : jPo} {σ : jSt} (h : vc_X9_copy_39_51 d post σ ) : jv_wp (d + 1) post (79, 0, [some (.ref 39), some (.ref 51), none], [], σ) := jv_go_ok 3 [2] _ _ _ h
def vc_X9_copy_39_51_L2 (d : Nat) (post : jPo) (σ : jSt) (v2 : Int32) : Prop :=
 (((Int32.ofNat 6) ≤ v2 → post none σ) ∧
 (¬ (Int32.ofNat 6) ≤ v2 → (vp_in v2 6 ∧ (vp_in v2 6 ∧ (let s1 : jSt := jv_u σ 51 v2.toNatClampNeg (σ.1 39 v2.toNatClampNeg)
 (let x2 : Int32 := (v2 + (iI 1))
 jv_wp (d + 1) post (79, 2, [some (.ref 39), some (.ref 51), some (.int x2)], [], s1)))))))
set_option maxRecDepth 100000 in
set_option maxHeartbeats 4000000 in
theorem ok_X9_copy_39_51_L2 {d : Nat} {post : jPo} {σ : jSt} {v2 : Int32} (h : vc_X9_copy_39_51_L2 d post σ v2) : jv_wp (d + 1) post (79, 2, [some (.ref 39), some (.ref 51), some (.int v2)], [], σ) := jv_go_ok 13 [2] _ _ _ h
def vc_X9_copy_42_52 (d : Nat) (post : jPo) (σ : jSt)  : Prop :=
 jv_wp (d + 1) post (79, 2, [some (.ref 42), some (.ref 52), some (.int (iI 0))], [], σ)
set_option maxRecDepth 100000 in
set_option maxHeartbeats 4000000 in
theorem ok_X9_copy_42_52 {d : Nat} {post : jPo} {σ : jSt} (h : vc_X9_copy_42_52 d post σ ) : jv_wp (d + 1) post (79, 0, [some (.ref 42), some (.ref 52), none], [], σ) := jv_go_ok 3 [2] _ _ _ h
def vc_X9_copy_42_52_L2 (d : Nat) (post : jPo) (σ : jSt) (v2 : Int32) : Prop :=
 (((Int32.ofNat 5) ≤ v2 → post none σ) ∧
 (¬ (Int32.ofNat 5) ≤ v2 → (vp_in v2 5 ∧ (vp_in v2 5 ∧ (let s1 : jSt := jv_u σ 52 v2.toNatClampNeg (σ.1 42 v2.toNatClampNeg)
 (let x2 : Int32 := (v2 + (iI 1))
 jv_wp (d + 1) post (79, 2, [some (.ref 42), some (.ref 52), some (.int x2)], [], s1)))))))
set_option maxRecDepth 100000 in
set_option maxHeartbeats 4000000 in
theorem ok_X9_copy_42_52_L2 {d : Nat} {post : jPo} {σ : jSt} {v2 : Int32} (h : vc_X9_copy_42_52_L2 d post σ v2) : jv_wp (d + 1) post (79, 2, [some (.ref 42), some (.ref 52), some (.int v2)], [], σ) := jv_go_ok 13 [2] _ _ _ h
def vc_X9_copy_43_53 (d : Nat) (post : jPo) (σ : jSt)  : Prop :=
 jv_wp (d + 1) post (79, 2, [some (.ref 43), some (.ref 53), some (.int (iI 0))], [], σ)
set_option maxRecDepth 100000 in
set_option maxHeartbeats 4000000 in
theorem ok_X9_copy_43_53 {d : Nat} {post : jPo} {σ : jSt} (h : vc_X9_copy_43_53 d post σ ) : jv_wp (d + 1) post (79, 0, [some (.ref 43), some (.ref 53), none], [], σ) := jv_go_ok 3 [2] _ _ _ h
def vc_X9_copy_43_53_L2 (d : Nat) (post : jPo) (σ : jSt) (v2 : Int32) : Prop :=
 (((Int32.ofNat 5) ≤ v2 → post none σ) ∧
 (¬ (Int32.ofNat 5) ≤ v2 → (vp_in v2 5 ∧ (vp_in v2 5 ∧ (let s1 : jSt := jv_u σ 53 v2.toNatClampNeg (σ.1 43 v2.toNatClampNeg)
 (let x2 : Int32 := (v2 + (iI 1))
 jv_wp (d + 1) post (79, 2, [some (.ref 43), some (.ref 53), some (.int x2)], [], s1)))))))
set_option maxRecDepth 100000 in
set_option maxHeartbeats 4000000 in
theorem ok_X9_copy_43_53_L2 {d : Nat} {post : jPo} {σ : jSt} {v2 : Int32} (h : vc_X9_copy_43_53_L2 d post σ v2) : jv_wp (d + 1) post (79, 2, [some (.ref 43), some (.ref 53), some (.int v2)], [], σ) := jv_go_ok 13 [2] _ _ _ h
def vc_X9_copy_44_54 (d : Nat) (post : jPo) (σ : jSt)  : Prop :=
 jv_wp (d + 1) post (79, 2, [some (.ref 44), some (.ref 54), some (.int (iI 0))], [], σ)
set_option maxRecDepth 100000 in
set_option maxHeartbeats 4000000 in
theorem ok_X9_copy_44_54 {d : Nat} {post : jPo} {σ : jSt} (h : vc_X9_copy_44_54 d post σ ) : jv_wp (d + 1) post (79, 0, [some (.ref 44), some (.ref 54), none], [], σ) := jv_go_ok 3 [2] _ _ _ h
def vc_X9_copy_44_54_L2 (d : Nat) (post : jPo) (σ : jSt) (v2 : Int32) : Prop :=
 (((Int32.ofNat 5) ≤ v2 → post none σ) ∧
 (¬ (Int32.ofNat 5) ≤ v2 → (vp_in v2 5 ∧ (vp_in v2 5 ∧ (let s1 : jSt := jv_u σ 54 v2.toNatClampNeg (σ.1 44 v2.toNatClampNeg)
 (let x2 : Int32 := (v2 + (iI 1))
 jv_wp (d + 1) post (79, 2, [some (.ref 44), some (.ref 54), some (.int x2)], [], s1)))))))
set_option maxRecDepth 100000 in
set_option maxHeartbeats 4000000 in
theorem ok_X9_copy_44_54_L2 {d : Nat} {post : jPo} {σ : jSt} {v2 : Int32} (h : vc_X9_copy_44_54_L2 d post σ v2) : jv_wp (d + 1) post (79, 2, [some (.ref 44), some (.ref 54), some (.int v2)], [], σ) := jv_go_ok 13 [2] _ _ _ h
def vc_X9_copy_48_55 (d : Nat) (post : jPo) (σ : jSt)  : Prop :=
 jv_wp (d + 1) post (79, 2, [some (.ref 48), some (.ref 55), some (.int (iI 0))], [], σ)
set_option maxRecDepth 100000 in
set_option maxHeartbeats 4000000 in
theorem ok_X9_copy_48_55 {d : Nat} {post : jPo} {σ : jSt} (h : vc_X9_copy_48_55 d post σ ) : jv_wp (d + 1) post (79, 0, [some (.ref 48), some (.ref 55), none], [], σ) := jv_go_ok 3 [2] _ _ _ h
def vc_X9_copy_48_55_L2 (d : Nat) (post : jPo) (σ : jSt) (v2 : Int32) : Prop :=
 (((Int32.ofNat 18) ≤ v2 → post none σ) ∧
 (¬ (Int32.ofNat 18) ≤ v2 → (vp_in v2 18 ∧ (vp_in v2 18 ∧ (let s1 : jSt := jv_u σ 55 v2.toNatClampNeg (σ.1 48 v2.toNatClampNeg)
 (let x2 : Int32 := (v2 + (iI 1))
 jv_wp (d + 1) post (79, 2, [some (.ref 48), some (.ref 55), some (.int x2)], [], s1)))))))
set_option maxRecDepth 100000 in
set_option maxHeartbeats 4000000 in
theorem ok_X9_copy_48_55_L2 {d : Nat} {post : jPo} {σ : jSt} {v2 : Int32} (h : vc_X9_copy_48_55_L2 d post σ v2) : jv_wp (d + 1) post (79, 2, [some (.ref 48), some (.ref 55), some (.int v2)], [], σ) := jv_go_ok 13 [2] _ _ _ h
def vc_X9_copy_49_36 (d : Nat) (post : jPo) (σ : jSt)  : Prop :=
 jv_wp (d + 1) post (79, 2, [some (.ref 49), some (.ref 36), some (.int (iI 0))], [], σ)
set_option maxRecDepth 100000 in
set_option maxHeartbeats 4000000 in
theorem ok_X9_copy_49_36 {d : Nat} {post : jPo} {σ : jSt} (h : vc_X9_copy_49_36 d post σ ) : jv_wp (d + 1) post (79, 0, [some (.ref 49), some (.ref 36), none], [], σ) := jv_go_ok 3 [2] _ _ _ h
def vc_X9_copy_49_36_L2 (d : Nat) (post : jPo) (σ : jSt) (v2 : Int32) : Prop :=
 (((Int32.ofNat 6) ≤ v2 → post none σ) ∧
 (¬ (Int32.ofNat 6) ≤ v2 → (vp_in v2 6 ∧ (vp_in v2 6 ∧ (let s1 : jSt := jv_u σ 36 v2.toNatClampNeg (σ.1 49 v2.toNatClampNeg)
 (let x2 : Int32 := (v2 + (iI 1))
 jv_wp (d + 1) post (79, 2, [some (.ref 49), some (.ref 36), some (.int x2)], [], s1)))))))
set_option maxRecDepth 100000 in
set_option maxHeartbeats 4000000 in
theorem ok_X9_copy_49_36_L2 {d : Nat} {post : jPo} {σ : jSt} {v2 : Int32} (h : vc_X9_copy_49_36_L2 d post σ v2) : jv_wp (d + 1) post (79, 2, [some (.ref 49), some (.ref 36), some (.int v2)], [], σ) := jv_go_ok 13 [2] _ _ _ h
def vc_X9_copy_50_38 (d : Nat) (post : jPo) (σ : jSt)  : Prop :=
 jv_wp (d + 1) post (79, 2, [some (.ref 50), some (.ref 38), some (.int (iI 0))], [], σ)
set_option maxRecDepth 100000 in
set_option maxHeartbeats 4000000 in
theorem ok_X9_copy_50_38 {d : Nat} {post : jPo} {σ : jSt} (h : vc_X9_copy_50_38 d post σ ) : jv_wp (d + 1) post (79, 0, [some (.ref 50), some (.ref 38), none], [], σ) := jv_go_ok 3 [2] _ _ _ h
def vc_X9_copy_50_38_L2 (d : Nat) (post : jPo) (σ : jSt) (v2 : Int32) : Prop :=
 (((Int32.ofNat 6) ≤ v2 → post none σ) ∧
 (¬ (Int32.ofNat 6) ≤ v2 → (vp_in v2 6 ∧ (vp_in v2 6 ∧ (let s1 : jSt := jv_u σ 38 v2.toNatClampNeg (σ.1 50 v2.toNatClampNeg)
 (let x2 : Int32 := (v2 + (iI 1))
 jv_wp (d + 1) post (79, 2, [some (.ref 50), some (.ref 38), some (.int x2)], [], s1)))))))
set_option maxRecDepth 100000 in
set_option maxHeartbeats 4000000 in
theorem ok_X9_copy_50_38_L2 {d : Nat} {post : jPo} {σ : jSt} {v2 : Int32} (h : vc_X9_copy_50_38_L2 d post σ v2) : jv_wp (d + 1) post (79, 2, [some (.ref 50), some (.ref 38), some (.int v2)], [], σ) := jv_go_ok 13 [2] _ _ _ h
def vc_X9_copy_51_39 (d : Nat) (post : jPo) (σ : jSt)  : Prop :=
 jv_wp (d + 1) post (79, 2, [some (.ref 51), some (.ref 39), some (.int (iI 0))], [], σ)
set_option maxRecDepth 100000 in
set_option maxHeartbeats 4000000 in
theorem ok_X9_copy_51_39 {d : Nat} {post : jPo} {σ : jSt} (h : vc_X9_copy_51_39 d post σ ) : jv_wp (d + 1) post (79, 0, [some (.ref 51), some (.ref 39), none], [], σ) := jv_go_ok 3 [2] _ _ _ h
def vc_X9_copy_51_39_L2 (d : Nat) (post : jPo) (σ : jSt) (v2 : Int32) : Prop :=
 (((Int32.ofNat 6) ≤ v2 → post none σ) ∧
 (¬ (Int32.ofNat 6) ≤ v2 → (vp_in v2 6 ∧ (vp_in v2 6 ∧ (let s1 : jSt := jv_u σ 39 v2.toNatClampNeg (σ.1 51 v2.toNatClampNeg)
 (let x2 : Int32 := (v2 + (iI 1))
 jv_wp (d + 1) post (79, 2, [some (.ref 51), some (.ref 39), some (.int x2)], [], s1)))))))
set_option maxRecDepth 100000 in
set_option maxHeartbeats 4000000 in
theorem ok_X9_copy_51_39_L2 {d : Nat} {post : jPo} {σ : jSt} {v2 : Int32} (h : vc_X9_copy_51_39_L2 d post σ v2) : jv_wp (d + 1) post (79, 2, [some (.ref 51), some (.ref 39), some (.int v2)], [], σ) := jv_go_ok 13 [2] _ _ _ h
def vc_X9_copy_52_42 (d : Nat) (post : jPo) (σ : jSt)  : Prop :=
 jv_wp (d + 1) post (79, 2, [some (.ref 52), some (.ref 42), some (.int (iI 0))], [], σ)
set_option maxRecDepth 100000 in
set_option maxHeartbeats 4000000 in
theorem ok_X9_copy_52_42 {d : Nat} {post : jPo} {σ : jSt} (h : vc_X9_copy_52_42 d post σ ) : jv_wp (d + 1) post (79, 0, [some (.ref 52), some (.ref 42), none], [], σ) := jv_go_ok 3 [2] _ _ _ h
def vc_X9_copy_52_42_L2 (d : Nat) (post : jPo) (σ : jSt) (v2 : Int32) : Prop :=
 (((Int32.ofNat 5) ≤ v2 → post none σ) ∧
 (¬ (Int32.ofNat 5) ≤ v2 → (vp_in v2 5 ∧ (vp_in v2 5 ∧ (let s1 : jSt := jv_u σ 42 v2.toNatClampNeg (σ.1 52 v2.toNatClampNeg)
 (let x2 : Int32 := (v2 + (iI 1))
 jv_wp (d + 1) post (79, 2, [some (.ref 52), some (.ref 42), some (.int x2)], [], s1)))))))
set_option maxRecDepth 100000 in
set_option maxHeartbeats 4000000 in
theorem ok_X9_copy_52_42_L2 {d : Nat} {post : jPo} {σ : jSt} {v2 : Int32} (h : vc_X9_copy_52_42_L2 d post σ v2) : jv_wp (d + 1) post (79, 2, [some (.ref 52), some (.ref 42), some (.int v2)], [], σ) := jv_go_ok 13 [2] _ _ _ h
def vc_X9_copy_53_43 (d : Nat) (post : jPo) (σ : jSt)  : Prop :=
 jv_wp (d + 1) post (79, 2, [some (.ref 53), some (.ref 43), some (.int (iI 0))], [], σ)
set_option maxRecDepth 100000 in
set_option maxHeartbeats 4000000 in
theorem ok_X9_copy_53_43 {d : Nat} {post : jPo} {σ : jSt} (h : vc_X9_copy_53_43 d post σ ) : jv_wp (d + 1) post (79, 0, [some (.ref 53), some (.ref 43), none], [], σ) := jv_go_ok 3 [2] _ _ _ h
def vc_X9_copy_53_43_L2 (d : Nat) (post : jPo) (σ : jSt) (v2 : Int32) : Prop :=
 (((Int32.ofNat 5) ≤ v2 → post none σ) ∧
 (¬ (Int32.ofNat 5) ≤ v2 → (vp_in v2 5 ∧ (vp_in v2 5 ∧ (let s1 : jSt := jv_u σ 43 v2.toNatClampNeg (σ.1 53 v2.toNatClampNeg)
 (let x2 : Int32 := (v2 + (iI 1))
 jv_wp (d + 1) post (79, 2, [some (.ref 53), some (.ref 43), some (.int x2)], [], s1)))))))
set_option maxRecDepth 100000 in
set_option maxHeartbeats 4000000 in
theorem ok_X9_copy_53_43_L2 {d : Nat} {post : jPo} {σ : jSt} {v2 : Int32} (h : vc_X9_copy_53_43_L2 d post σ v2) : jv_wp (d + 1) post (79, 2, [some (.ref 53), some (.ref 43), some (.int v2)], [], σ) := jv_go_ok 13 [2] _ _ _ h
def vc_X9_copy_54_44 (d : Nat) (post : jPo) (σ : jSt)  : Prop :=
 jv_wp (d + 1) post (79, 2, [some (.ref 54), some (.ref 44), some (.int (iI 0))], [], σ)
set_option maxRecDepth 100000 in
set_option maxHeartbeats 4000000 in
theorem ok_X9_copy_54_44 {d : Nat} {post : jPo} {σ : jSt} (h : vc_X9_copy_54_44 d post σ ) : jv_wp (d + 1) post (79, 0, [some (.ref 54), some (.ref 44), none], [], σ) := jv_go_ok 3 [2] _ _ _ h
def vc_X9_copy_54_44_L2 (d : Nat) (post : jPo) (σ : jSt) (v2 : Int32) : Prop :=
 (((Int32.ofNat 5) ≤ v2 → post none σ) ∧
 (¬ (Int32.ofNat 5) ≤ v2 → (vp_in v2 5 ∧ (vp_in v2 5 ∧ (let s1 : jSt := jv_u σ 44 v2.toNatClampNeg (σ.1 54 v2.toNatClampNeg)
 (let x2 : Int32 := (v2 + (iI 1))
 jv_wp (d + 1) post (79, 2, [some (.ref 54), some (.ref 44), some (.int x2)], [], s1)))))))
set_option maxRecDepth 100000 in
set_option maxHeartbeats 4000000 in
theorem ok_X9_copy_54_44_L2 {d : Nat} {post : jPo} {σ : jSt} {v2 : Int32} (h : vc_X9_copy_54_44_L2 d post σ v2) : jv_wp (d + 1) post (79, 2, [some (.ref 54), some (.ref 44), some (.int v2)], [], σ) := jv_go_ok 13 [2] _ _ _ h
def vc_X9_copy_55_48 (d : Nat) (post : jPo) (σ : jSt)  : Prop :=
 jv_wp (d + 1) post (79, 2, [some (.ref 55), some (.ref 48), some (.int (iI 0))], [], σ)
set_option maxRecDepth 100000 in
set_option maxHeartbeats 4000000 in
theorem ok_X9_copy_55_48 {d : Nat} {post : jPo} {σ : jSt} (h : vc_X9_copy_55_48 d post σ ) : jv_wp (d + 1) post (79, 0, [some (.ref 55), some (.ref 48), none], [], σ) := jv_go_ok 3 [2] _ _ _ h
def vc_X9_copy_55_48_L2 (d : Nat) (post : jPo) (σ : jSt) (v2 : Int32) : Prop :=
 (((Int32.ofNat 18) ≤ v2 → post none σ) ∧
 (¬ (Int32.ofNat 18) ≤ v2 → (vp_in v2 18 ∧ (vp_in v2 18 ∧ (let s1 : jSt := jv_u σ 48 v2.toNatClampNeg (σ.1 55 v2.toNatClampNeg)
 (let x2 : Int32 := (v2 + (iI 1))
 jv_wp (d + 1) post (79, 2, [some (.ref 55), some (.ref 48), some (.int x2)], [], s1)))))))
set_option maxRecDepth 100000 in
set_option maxHeartbeats 4000000 in
theorem ok_X9_copy_55_48_L2 {d : Nat} {post : jPo} {σ : jSt} {v2 : Int32} (h : vc_X9_copy_55_48_L2 d post σ v2) : jv_wp (d + 1) post (79, 2, [some (.ref 55), some (.ref 48), some (.int v2)], [], σ) := jv_go_ok 13 [2] _ _ _ h
end
section
/-! formulas of the law (printed) -/
def vc_L_law_16 (d : Nat) (post : jPo) (σ : jSt)  : Prop :=
 jv_wp (d + 1) post (0, 18, [some (.ref 56), some (.ref 0), some (.ref 34), some (.int (iI 0))], [], σ)
set_option maxRecDepth 100000 in
set_option maxHeartbeats 4000000 in
theorem ok_L_law_16 {d : Nat} {post : jPo} {σ : jSt} (h : vc_L_law_16 d post σ ) : jv_wp (d + 1) post (0, 16, [some (.ref 56), some (.ref 0), some (.ref 34), none], [], σ) := jv_go_ok 3 [18] _ _ _ h
def vc_L_law_L18 (d : Nat) (post : jPo) (σ : jSt) (v3 : Int32) : Prop :=
 ((((Int32.ofNat σ.2.2.1) - (iI 5)) < v3 → post (some (.int (iI 1))) σ) ∧
 (¬ ((Int32.ofNat σ.2.2.1) - (iI 5)) < v3 → (vp_in v3 σ.2.2.1 ∧ ((((σ.2.2.2 v3.toNatClampNeg) &&& (iI 31)) = (iI 0) → (vp_in (v3 + (iI 1)) σ.2.2.1 ∧ jq_I d 54 [.ref 0, .int (σ.2.2.2 (v3 + (iI 1)).toNatClampNeg)] σ (fun x2 s1 =>
 (vp_in (v3 + (iI 1)) s1.2.2.1 ∧ jq_I d 80 [.ref 34, .int (s1.2.2.2 (v3 + (iI 1)).toNatClampNeg)] s1 (fun x4 s3 =>
 ((x2 = x4 → (let x5 : Int32 := (v3 + (iI 5))
 jv_wp (d + 1) post (0, 18, [some (.ref 56), some (.ref 0), some (.ref 34), some (.int x5)], [], s3))) ∧
 (¬ x2 = x4 → post (some (.int (iI 0))) s3))))))) ∧
 (¬ ((σ.2.2.2 v3.toNatClampNeg) &&& (iI 31)) = (iI 0) → ((((σ.2.2.2 v3.toNatClampNeg) &&& (iI 31)) = (iI 1) → jq_I d 55 [.ref 0] σ (fun x7 s6 =>
 jq_I d 81 [.ref 34] s6 (fun x9 s8 =>
 ((x7 = x9 → (let x10 : Int32 := (v3 + (iI 5))
 jv_wp (d + 1) post (0, 18, [some (.ref 56), some (.ref 0), some (.ref 34), some (.int x10)], [], s8))) ∧
 (¬ x7 = x9 → post (some (.int (iI 0))) s8))))) ∧
 (¬ ((σ.2.2.2 v3.toNatClampNeg) &&& (iI 31)) = (iI 1) → ((((σ.2.2.2 v3.toNatClampNeg) &&& (iI 31)) = (iI 2) → jq_I d 56 [.ref 0] σ (fun x12 s11 =>
 jq_I d 87 [.ref 34] s11 (fun x14 s13 =>
 ((x12 = x14 → (let x15 : Int32 := (v3 + (iI 5))
 jv_wp (d + 1) post (0, 18, [some (.ref 56), some (.ref 0), some (.ref 34), some (.int x15)], [], s13))) ∧
 (¬ x12 = x14 → post (some (.int (iI 0))) s13))))) ∧
 (¬ ((σ.2.2.2 v3.toNatClampNeg) &&& (iI 31)) = (iI 2) → ((((σ.2.2.2 v3.toNatClampNeg) &&& (iI 31)) = (iI 3) → jq_I d 57 [.ref 0] σ (fun x17 s16 =>
 jq_I d 88 [.ref 34] s16 (fun x19 s18 =>
 ((x17 = x19 → (let x20 : Int32 := (v3 + (iI 5))
 jv_wp (d + 1) post (0, 18, [some (.ref 56), some (.ref 0), some (.ref 34), some (.int x20)], [], s18))) ∧
 (¬ x17 = x19 → post (some (.int (iI 0))) s18))))) ∧
 (¬ ((σ.2.2.2 v3.toNatClampNeg) &&& (iI 31)) = (iI 3) → ((((σ.2.2.2 v3.toNatClampNeg) &&& (iI 31)) = (iI 4) → (vp_in (v3 + (iI 1)) σ.2.2.1 ∧ (vp_in (v3 + (iI 2)) σ.2.2.1 ∧ jq_I d 58 [.ref 0, .int (σ.2.2.2 (v3 + (iI 1)).toNatClampNeg), .int (σ.2.2.2 (v3 + (iI 2)).toNatClampNeg)] σ (fun x22 s21 =>
 (vp_in (v3 + (iI 1)) s21.2.2.1 ∧ (vp_in (v3 + (iI 2)) s21.2.2.1 ∧ jq_I d 106 [.ref 34, .int (s21.2.2.2 (v3 + (iI 1)).toNatClampNeg), .int (s21.2.2.2 (v3 + (iI 2)).toNatClampNeg)] s21 (fun x24 s23 =>
 ((x22 = x24 → (let x25 : Int32 := (v3 + (iI 5))
 jv_wp (d + 1) post (0, 18, [some (.ref 56), some (.ref 0), some (.ref 34), some (.int x25)], [], s23))) ∧
 (¬ x22 = x24 → post (some (.int (iI 0))) s23))))))))) ∧
 (¬ ((σ.2.2.2 v3.toNatClampNeg) &&& (iI 31)) = (iI 4) → ((((σ.2.2.2 v3.toNatClampNeg) &&& (iI 31)) = (iI 5) → (vp_in (v3 + (iI 1)) σ.2.2.1 ∧ (vp_in (v3 + (iI 2)) σ.2.2.1 ∧ jq_I d 59 [.ref 0, .int (σ.2.2.2 (v3 + (iI 1)).toNatClampNeg), .int (σ.2.2.2 (v3 + (iI 2)).toNatClampNeg)] σ (fun x27 s26 =>
 (vp_in (v3 + (iI 1)) s26.2.2.1 ∧ (vp_in (v3 + (iI 2)) s26.2.2.1 ∧ jq_I d 107 [.ref 34, .int (s26.2.2.2 (v3 + (iI 1)).toNatClampNeg), .int (s26.2.2.2 (v3 + (iI 2)).toNatClampNeg)] s26 (fun x29 s28 =>
 ((x27 = x29 → (let x30 : Int32 := (v3 + (iI 5))
 jv_wp (d + 1) post (0, 18, [some (.ref 56), some (.ref 0), some (.ref 34), some (.int x30)], [], s28))) ∧
 (¬ x27 = x29 → post (some (.int (iI 0))) s28))))))))) ∧
 (¬ ((σ.2.2.2 v3.toNatClampNeg) &&& (iI 31)) = (iI 5) → ((((σ.2.2.2 v3.toNatClampNeg) &&& (iI 31)) = (iI 6) → (vp_in (v3 + (iI 1)) σ.2.2.1 ∧ (vp_in (v3 + (iI 2)) σ.2.2.1 ∧ jq_I d 60 [.ref 0, .int (σ.2.2.2 (v3 + (iI 1)).toNatClampNeg), .int (σ.2.2.2 (v3 + (iI 2)).toNatClampNeg)] σ (fun x32 s31 =>
 (vp_in (v3 + (iI 1)) s31.2.2.1 ∧ (vp_in (v3 + (iI 2)) s31.2.2.1 ∧ jq_I d 110 [.ref 34, .int (s31.2.2.2 (v3 + (iI 1)).toNatClampNeg), .int (s31.2.2.2 (v3 + (iI 2)).toNatClampNeg)] s31 (fun x34 s33 =>
 ((x32 = x34 → (let x35 : Int32 := (v3 + (iI 5))
 jv_wp (d + 1) post (0, 18, [some (.ref 56), some (.ref 0), some (.ref 34), some (.int x35)], [], s33))) ∧
 (¬ x32 = x34 → post (some (.int (iI 0))) s33))))))))) ∧
 (¬ ((σ.2.2.2 v3.toNatClampNeg) &&& (iI 31)) = (iI 6) → ((((σ.2.2.2 v3.toNatClampNeg) &&& (iI 31)) = (iI 7) → (vp_in (v3 + (iI 1)) σ.2.2.1 ∧ (vp_in (v3 + (iI 2)) σ.2.2.1 ∧ jq_I d 61 [.ref 0, .int (σ.2.2.2 (v3 + (iI 1)).toNatClampNeg), .int (σ.2.2.2 (v3 + (iI 2)).toNatClampNeg)] σ (fun x37 s36 =>
 (vp_in (v3 + (iI 1)) s36.2.2.1 ∧ (vp_in (v3 + (iI 2)) s36.2.2.1 ∧ jq_I d 112 [.ref 34, .int (s36.2.2.2 (v3 + (iI 1)).toNatClampNeg), .int (s36.2.2.2 (v3 + (iI 2)).toNatClampNeg)] s36 (fun x39 s38 =>
 ((x37 = x39 → (let x40 : Int32 := (v3 + (iI 5))
 jv_wp (d + 1) post (0, 18, [some (.ref 56), some (.ref 0), some (.ref 34), some (.int x40)], [], s38))) ∧
 (¬ x37 = x39 → post (some (.int (iI 0))) s38))))))))) ∧
 (¬ ((σ.2.2.2 v3.toNatClampNeg) &&& (iI 31)) = (iI 7) → ((((σ.2.2.2 v3.toNatClampNeg) &&& (iI 31)) = (iI 8) → (vp_in (v3 + (iI 1)) σ.2.2.1 ∧ jq_I d 62 [.ref 0, .int (σ.2.2.2 (v3 + (iI 1)).toNatClampNeg)] σ (fun x42 s41 =>
 (vp_in (v3 + (iI 1)) s41.2.2.1 ∧ jq_I d 113 [.ref 34, .int (s41.2.2.2 (v3 + (iI 1)).toNatClampNeg)] s41 (fun x44 s43 =>
 ((x42 = x44 → (let x45 : Int32 := (v3 + (iI 5))
 jv_wp (d + 1) post (0, 18, [some (.ref 56), some (.ref 0), some (.ref 34), some (.int x45)], [], s43))) ∧
 (¬ x42 = x44 → post (some (.int (iI 0))) s43))))))) ∧
 (¬ ((σ.2.2.2 v3.toNatClampNeg) &&& (iI 31)) = (iI 8) → ((((σ.2.2.2 v3.toNatClampNeg) &&& (iI 31)) = (iI 9) → jq_I d 63 [.ref 0] σ (fun x47 s46 =>
 jq_I d 114 [.ref 34] s46 (fun x49 s48 =>
 ((x47 = x49 → (let x50 : Int32 := (v3 + (iI 5))
 jv_wp (d + 1) post (0, 18, [some (.ref 56), some (.ref 0), some (.ref 34), some (.int x50)], [], s48))) ∧
 (¬ x47 = x49 → post (some (.int (iI 0))) s48))))) ∧
 (¬ ((σ.2.2.2 v3.toNatClampNeg) &&& (iI 31)) = (iI 9) → ((((σ.2.2.2 v3.toNatClampNeg) &&& (iI 31)) = (iI 10) → (vp_in (v3 + (iI 1)) σ.2.2.1 ∧ jq_I d 64 [.ref 0, .int (σ.2.2.2 (v3 + (iI 1)).toNatClampNeg)] σ (fun x52 s51 =>
 (vp_in (v3 + (iI 1)) s51.2.2.1 ∧ jq_I d 115 [.ref 34, .int (s51.2.2.2 (v3 + (iI 1)).toNatClampNeg)] s51 (fun x54 s53 =>
 ((x52 = x54 → (let x55 : Int32 := (v3 + (iI 5))
 jv_wp (d + 1) post (0, 18, [some (.ref 56), some (.ref 0), some (.ref 34), some (.int x55)], [], s53))) ∧
 (¬ x52 = x54 → post (some (.int (iI 0))) s53))))))) ∧
 (¬ ((σ.2.2.2 v3.toNatClampNeg) &&& (iI 31)) = (iI 10) → ((((σ.2.2.2 v3.toNatClampNeg) &&& (iI 31)) = (iI 11) → (vp_in (v3 + (iI 1)) σ.2.2.1 ∧ (vp_in (v3 + (iI 2)) σ.2.2.1 ∧ jq_I d 65 [.ref 0, .int (σ.2.2.2 (v3 + (iI 1)).toNatClampNeg), .int (σ.2.2.2 (v3 + (iI 2)).toNatClampNeg)] σ (fun x57 s56 =>
 (vp_in (v3 + (iI 1)) s56.2.2.1 ∧ (vp_in (v3 + (iI 2)) s56.2.2.1 ∧ jq_I d 116 [.ref 34, .int (s56.2.2.2 (v3 + (iI 1)).toNatClampNeg), .int (s56.2.2.2 (v3 + (iI 2)).toNatClampNeg)] s56 (fun x59 s58 =>
 ((x57 = x59 → (let x60 : Int32 := (v3 + (iI 5))
 jv_wp (d + 1) post (0, 18, [some (.ref 56), some (.ref 0), some (.ref 34), some (.int x60)], [], s58))) ∧
 (¬ x57 = x59 → post (some (.int (iI 0))) s58))))))))) ∧
 (¬ ((σ.2.2.2 v3.toNatClampNeg) &&& (iI 31)) = (iI 11) → ((((σ.2.2.2 v3.toNatClampNeg) &&& (iI 31)) = (iI 12) → (vp_in (v3 + (iI 1)) σ.2.2.1 ∧ (vp_in (v3 + (iI 2)) σ.2.2.1 ∧ (vp_in (v3 + (iI 3)) σ.2.2.1 ∧ jq_I d 66 [.ref 0, .int (σ.2.2.2 (v3 + (iI 1)).toNatClampNeg), .int (σ.2.2.2 (v3 + (iI 2)).toNatClampNeg), .int (σ.2.2.2 (v3 + (iI 3)).toNatClampNeg)] σ (fun x62 s61 =>
 (vp_in (v3 + (iI 1)) s61.2.2.1 ∧ (vp_in (v3 + (iI 2)) s61.2.2.1 ∧ (vp_in (v3 + (iI 3)) s61.2.2.1 ∧ jq_I d 117 [.ref 34, .int (s61.2.2.2 (v3 + (iI 1)).toNatClampNeg), .int (s61.2.2.2 (v3 + (iI 2)).toNatClampNeg), .int (s61.2.2.2 (v3 + (iI 3)).toNatClampNeg)] s61 (fun x64 s63 =>
 ((x62 = x64 → (let x65 : Int32 := (v3 + (iI 5))
 jv_wp (d + 1) post (0, 18, [some (.ref 56), some (.ref 0), some (.ref 34), some (.int x65)], [], s63))) ∧
 (¬ x62 = x64 → post (some (.int (iI 0))) s63))))))))))) ∧
 (¬ ((σ.2.2.2 v3.toNatClampNeg) &&& (iI 31)) = (iI 12) → ((((σ.2.2.2 v3.toNatClampNeg) &&& (iI 31)) = (iI 13) → (vp_in (v3 + (iI 1)) σ.2.2.1 ∧ (vp_in (v3 + (iI 2)) σ.2.2.1 ∧ jq_I d 67 [.ref 0, .int (σ.2.2.2 (v3 + (iI 1)).toNatClampNeg), .int (σ.2.2.2 (v3 + (iI 2)).toNatClampNeg)] σ (fun x67 s66 =>
 (vp_in (v3 + (iI 1)) s66.2.2.1 ∧ (vp_in (v3 + (iI 2)) s66.2.2.1 ∧ jq_I d 121 [.ref 34, .int (s66.2.2.2 (v3 + (iI 1)).toNatClampNeg), .int (s66.2.2.2 (v3 + (iI 2)).toNatClampNeg)] s66 (fun x69 s68 =>
 ((x67 = x69 → (let x70 : Int32 := (v3 + (iI 5))
 jv_wp (d + 1) post (0, 18, [some (.ref 56), some (.ref 0), some (.ref 34), some (.int x70)], [], s68))) ∧
 (¬ x67 = x69 → post (some (.int (iI 0))) s68))))))))) ∧
 (¬ ((σ.2.2.2 v3.toNatClampNeg) &&& (iI 31)) = (iI 13) → ((((σ.2.2.2 v3.toNatClampNeg) &&& (iI 31)) = (iI 14) → (vp_in (v3 + (iI 1)) σ.2.2.1 ∧ jq_I d 68 [.ref 0, .int (σ.2.2.2 (v3 + (iI 1)).toNatClampNeg)] σ (fun x72 s71 =>
 (vp_in (v3 + (iI 1)) s71.2.2.1 ∧ jq_I d 124 [.ref 34, .int (s71.2.2.2 (v3 + (iI 1)).toNatClampNeg)] s71 (fun x74 s73 =>
 ((x72 = x74 → (let x75 : Int32 := (v3 + (iI 5))
 jv_wp (d + 1) post (0, 18, [some (.ref 56), some (.ref 0), some (.ref 34), some (.int x75)], [], s73))) ∧
 (¬ x72 = x74 → post (some (.int (iI 0))) s73))))))) ∧
 (¬ ((σ.2.2.2 v3.toNatClampNeg) &&& (iI 31)) = (iI 14) → ((((σ.2.2.2 v3.toNatClampNeg) &&& (iI 31)) = (iI 15) → (vp_in (v3 + (iI 1)) σ.2.2.1 ∧ (vp_in (v3 + (iI 2)) σ.2.2.1 ∧ (vp_in (v3 + (iI 3)) σ.2.2.1 ∧ (vp_in (v3 + (iI 4)) σ.2.2.1 ∧ jq_I d 69 [.ref 0, .int (σ.2.2.2 (v3 + (iI 1)).toNatClampNeg), .int (σ.2.2.2 (v3 + (iI 2)).toNatClampNeg), .int (σ.2.2.2 (v3 + (iI 3)).toNatClampNeg), .int (σ.2.2.2 (v3 + (iI 4)).toNatClampNeg)] σ (fun x77 s76 =>
 (vp_in (v3 + (iI 1)) s76.2.2.1 ∧ (vp_in (v3 + (iI 2)) s76.2.2.1 ∧ (vp_in (v3 + (iI 3)) s76.2.2.1 ∧ (vp_in (v3 + (iI 4)) s76.2.2.1 ∧ jq_I d 126 [.ref 34, .int (s76.2.2.2 (v3 + (iI 1)).toNatClampNeg), .int (s76.2.2.2 (v3 + (iI 2)).toNatClampNeg), .int (s76.2.2.2 (v3 + (iI 3)).toNatClampNeg), .int (s76.2.2.2 (v3 + (iI 4)).toNatClampNeg)] s76 (fun x79 s78 =>
 ((x77 = x79 → (let x80 : Int32 := (v3 + (iI 5))
 jv_wp (d + 1) post (0, 18, [some (.ref 56), some (.ref 0), some (.ref 34), some (.int x80)], [], s78))) ∧
 (¬ x77 = x79 → post (some (.int (iI 0))) s78))))))))))))) ∧
 (¬ ((σ.2.2.2 v3.toNatClampNeg) &&& (iI 31)) = (iI 15) → ((((σ.2.2.2 v3.toNatClampNeg) &&& (iI 31)) = (iI 16) → (vp_in (v3 + (iI 1)) σ.2.2.1 ∧ (vp_in (v3 + (iI 2)) σ.2.2.1 ∧ (vp_in (v3 + (iI 3)) σ.2.2.1 ∧ (((σ.2.2.2 (v3 + (iI 3)).toNatClampNeg) = 0 → jq_I d 70 [.ref 0, .int (σ.2.2.2 (v3 + (iI 1)).toNatClampNeg), .int (σ.2.2.2 (v3 + (iI 2)).toNatClampNeg), .int (iI 0)] σ (fun x82 s81 =>
 (vp_in (v3 + (iI 1)) s81.2.2.1 ∧ (vp_in (v3 + (iI 2)) s81.2.2.1 ∧ (vp_in (v3 + (iI 3)) s81.2.2.1 ∧ (((s81.2.2.2 (v3 + (iI 3)).toNatClampNeg) = 0 → jq_I d 127 [.ref 34, .int (s81.2.2.2 (v3 + (iI 1)).toNatClampNeg), .int (s81.2.2.2 (v3 + (iI 2)).toNatClampNeg), .int (iI 0)] s81 (fun x84 s83 =>
 ((x82 = x84 → (let x85 : Int32 := (v3 + (iI 5))
 jv_wp (d + 1) post (0, 18, [some (.ref 56), some (.ref 0), some (.ref 34), some (.int x85)], [], s83))) ∧
 (¬ x82 = x84 → post (some (.int (iI 0))) s83)))) ∧
 (¬ (s81.2.2.2 (v3 + (iI 3)).toNatClampNeg) = 0 → jq_I d 127 [.ref 34, .int (s81.2.2.2 (v3 + (iI 1)).toNatClampNeg), .int (s81.2.2.2 (v3 + (iI 2)).toNatClampNeg), .int (iI 1)] s81 (fun x87 s86 =>
 ((x82 = x87 → (let x88 : Int32 := (v3 + (iI 5))
 jv_wp (d + 1) post (0, 18, [some (.ref 56), some (.ref 0), some (.ref 34), some (.int x88)], [], s86))) ∧
 (¬ x82 = x87 → post (some (.int (iI 0))) s86)))))))))) ∧
 (¬ (σ.2.2.2 (v3 + (iI 3)).toNatClampNeg) = 0 → jq_I d 70 [.ref 0, .int (σ.2.2.2 (v3 + (iI 1)).toNatClampNeg), .int (σ.2.2.2 (v3 + (iI 2)).toNatClampNeg), .int (iI 1)] σ (fun x90 s89 =>
 (vp_in (v3 + (iI 1)) s89.2.2.1 ∧ (vp_in (v3 + (iI 2)) s89.2.2.1 ∧ (vp_in (v3 + (iI 3)) s89.2.2.1 ∧ (((s89.2.2.2 (v3 + (iI 3)).toNatClampNeg) = 0 → jq_I d 127 [.ref 34, .int (s89.2.2.2 (v3 + (iI 1)).toNatClampNeg), .int (s89.2.2.2 (v3 + (iI 2)).toNatClampNeg), .int (iI 0)] s89 (fun x92 s91 =>
 ((x90 = x92 → (let x93 : Int32 := (v3 + (iI 5))
 jv_wp (d + 1) post (0, 18, [some (.ref 56), some (.ref 0), some (.ref 34), some (.int x93)], [], s91))) ∧
 (¬ x90 = x92 → post (some (.int (iI 0))) s91)))) ∧
 (¬ (s89.2.2.2 (v3 + (iI 3)).toNatClampNeg) = 0 → jq_I d 127 [.ref 34, .int (s89.2.2.2 (v3 + (iI 1)).toNatClampNeg), .int (s89.2.2.2 (v3 + (iI 2)).toNatClampNeg), .int (iI 1)] s89 (fun x95 s94 =>
 ((x90 = x95 → (let x96 : Int32 := (v3 + (iI 5))
 jv_wp (d + 1) post (0, 18, [some (.ref 56), some (.ref 0), some (.ref 34), some (.int x96)], [], s94))) ∧
 (¬ x90 = x95 → post (some (.int (iI 0))) s94))))))))))))))) ∧
 (¬ ((σ.2.2.2 v3.toNatClampNeg) &&& (iI 31)) = (iI 16) → ((((σ.2.2.2 v3.toNatClampNeg) &&& (iI 31)) = (iI 17) → jq_I d 71 [.ref 0] σ (fun x98 s97 =>
 jq_I d 128 [.ref 34] s97 (fun x100 s99 =>
 ((x98 = x100 → (let x101 : Int32 := (v3 + (iI 5))
 jv_wp (d + 1) post (0, 18, [some (.ref 56), some (.ref 0), some (.ref 34), some (.int x101)], [], s99))) ∧
 (¬ x98 = x100 → post (some (.int (iI 0))) s99))))) ∧
 (¬ ((σ.2.2.2 v3.toNatClampNeg) &&& (iI 31)) = (iI 17) → ((((σ.2.2.2 v3.toNatClampNeg) &&& (iI 31)) = (iI 18) → (vp_in (v3 + (iI 1)) σ.2.2.1 ∧ (vp_in (v3 + (iI 2)) σ.2.2.1 ∧ (vp_in (v3 + (iI 3)) σ.2.2.1 ∧ jq_I d 72 [.ref 0, .int (σ.2.2.2 (v3 + (iI 1)).toNatClampNeg), .int (σ.2.2.2 (v3 + (iI 2)).toNatClampNeg), .int (σ.2.2.2 (v3 + (iI 3)).toNatClampNeg)] σ (fun x103 s102 =>
 (vp_in (v3 + (iI 1)) s102.2.2.1 ∧ (vp_in (v3 + (iI 2)) s102.2.2.1 ∧ (vp_in (v3 + (iI 3)) s102.2.2.1 ∧ jq_I d 133 [.ref 34, .int (s102.2.2.2 (v3 + (iI 1)).toNatClampNeg), .int (s102.2.2.2 (v3 + (iI 2)).toNatClampNeg), .int (s102.2.2.2 (v3 + (iI 3)).toNatClampNeg)] s102 (fun x105 s104 =>
 ((x103 = x105 → (let x106 : Int32 := (v3 + (iI 5))
 jv_wp (d + 1) post (0, 18, [some (.ref 56), some (.ref 0), some (.ref 34), some (.int x106)], [], s104))) ∧
 (¬ x103 = x105 → post (some (.int (iI 0))) s104))))))))))) ∧
 (¬ ((σ.2.2.2 v3.toNatClampNeg) &&& (iI 31)) = (iI 18) → ((((σ.2.2.2 v3.toNatClampNeg) &&& (iI 31)) = (iI 19) → jq_I d 73 [.ref 0] σ (fun x108 s107 =>
 jq_I d 134 [.ref 34] s107 (fun x110 s109 =>
 ((x108 = x110 → (let x111 : Int32 := (v3 + (iI 5))
 jv_wp (d + 1) post (0, 18, [some (.ref 56), some (.ref 0), some (.ref 34), some (.int x111)], [], s109))) ∧
 (¬ x108 = x110 → post (some (.int (iI 0))) s109))))) ∧
 (¬ ((σ.2.2.2 v3.toNatClampNeg) &&& (iI 31)) = (iI 19) → ((((σ.2.2.2 v3.toNatClampNeg) &&& (iI 31)) = (iI 20) → jq_I d 74 [.ref 0] σ (fun x113 s112 =>
 jq_I d 135 [.ref 34] s112 (fun x115 s114 =>
 ((x113 = x115 → (let x116 : Int32 := (v3 + (iI 5))
 jv_wp (d + 1) post (0, 18, [some (.ref 56), some (.ref 0), some (.ref 34), some (.int x116)], [], s114))) ∧
 (¬ x113 = x115 → post (some (.int (iI 0))) s114))))) ∧
 (¬ ((σ.2.2.2 v3.toNatClampNeg) &&& (iI 31)) = (iI 20) → ((((σ.2.2.2 v3.toNatClampNeg) &&& (iI 31)) = (iI 21) → (vp_in (v3 + (iI 1)) σ.2.2.1 ∧ jq_I d 75 [.ref 0, .int (σ.2.2.2 (v3 + (iI 1)).toNatClampNeg)] σ (fun x118 s117 =>
 (vp_in (v3 + (iI 1)) s117.2.2.1 ∧ jq_I d 139 [.ref 34, .int (s117.2.2.2 (v3 + (iI 1)).toNatClampNeg)] s117 (fun x120 s119 =>
 ((x118 = x120 → (let x121 : Int32 := (v3 + (iI 5))
 jv_wp (d + 1) post (0, 18, [some (.ref 56), some (.ref 0), some (.ref 34), some (.int x121)], [], s119))) ∧
 (¬ x118 = x120 → post (some (.int (iI 0))) s119))))))) ∧
 (¬ ((σ.2.2.2 v3.toNatClampNeg) &&& (iI 31)) = (iI 21) → ((((σ.2.2.2 v3.toNatClampNeg) &&& (iI 31)) = (iI 22) → jq_L d 76 [.ref 0] σ (fun x123 s122 =>
 jq_L d 142 [.ref 34] s122 (fun x125 s124 =>
 (((lg_cmp x123 x125) = 0 → (let x126 : Int32 := (v3 + (iI 5))
 jv_wp (d + 1) post (0, 18, [some (.ref 56), some (.ref 0), some (.ref 34), some (.int x126)], [], s124))) ∧
 (¬ (lg_cmp x123 x125) = 0 → post (some (.int (iI 0))) s124))))) ∧
 (¬ ((σ.2.2.2 v3.toNatClampNeg) &&& (iI 31)) = (iI 22) → (let x127 : Int32 := (v3 + (iI 5))
 jv_wp (d + 1) post (0, 18, [some (.ref 56), some (.ref 0), some (.ref 34), some (.int x127)], [], σ)))))))))))))))))))))))))))))))))))))))))))))))))))
set_option maxRecDepth 100000 in
set_option maxHeartbeats 4000000 in
theorem ok_L_law_L18 {d : Nat} {post : jPo} {σ : jSt} {v3 : Int32} (h : vc_L_law_L18 d post σ v3) : jv_wp (d + 1) post (0, 18, [some (.ref 56), some (.ref 0), some (.ref 34), some (.int v3)], [], σ) := jv_go_ok 60 [18] _ _ _ (show ((((Int32.ofNat σ.2.2.1) - (iI 5)) < v3 → (((iI 1) = 0 ∨ (iI 1) = 1) ∧ post (some (.int (iI 1))) σ)) ∧
 (¬ ((Int32.ofNat σ.2.2.1) - (iI 5)) < v3 → (vp_in v3 σ.2.2.1 ∧ ((((σ.2.2.2 v3.toNatClampNeg) &&& (iI 31)) = (iI 0) → (vp_in (v3 + (iI 1)) σ.2.2.1 ∧ jq_I d 54 [.ref 0, .int (σ.2.2.2 (v3 + (iI 1)).toNatClampNeg)] σ (fun x2 s1 =>
 (vp_in (v3 + (iI 1)) s1.2.2.1 ∧ jq_I d 80 [.ref 34, .int (s1.2.2.2 (v3 + (iI 1)).toNatClampNeg)] s1 (fun x4 s3 =>
 ((x2 = x4 → (let x5 : Int32 := (v3 + (iI 5))
 jv_wp (d + 1) post (0, 18, [some (.ref 56), some (.ref 0), some (.ref 34), some (.int x5)], [], s3))) ∧
 (¬ x2 = x4 → (((iI 0) = 0 ∨ (iI 0) = 1) ∧ post (some (.int (iI 0))) s3)))))))) ∧
 (¬ ((σ.2.2.2 v3.toNatClampNeg) &&& (iI 31)) = (iI 0) → ((((σ.2.2.2 v3.toNatClampNeg) &&& (iI 31)) = (iI 1) → jq_I d 55 [.ref 0] σ (fun x7 s6 =>
 jq_I d 81 [.ref 34] s6 (fun x9 s8 =>
 ((x7 = x9 → (let x10 : Int32 := (v3 + (iI 5))
 jv_wp (d + 1) post (0, 18, [some (.ref 56), some (.ref 0), some (.ref 34), some (.int x10)], [], s8))) ∧
 (¬ x7 = x9 → (((iI 0) = 0 ∨ (iI 0) = 1) ∧ post (some (.int (iI 0))) s8)))))) ∧
 (¬ ((σ.2.2.2 v3.toNatClampNeg) &&& (iI 31)) = (iI 1) → ((((σ.2.2.2 v3.toNatClampNeg) &&& (iI 31)) = (iI 2) → jq_I d 56 [.ref 0] σ (fun x12 s11 =>
 jq_I d 87 [.ref 34] s11 (fun x14 s13 =>
 ((x12 = x14 → (let x15 : Int32 := (v3 + (iI 5))
 jv_wp (d + 1) post (0, 18, [some (.ref 56), some (.ref 0), some (.ref 34), some (.int x15)], [], s13))) ∧
 (¬ x12 = x14 → (((iI 0) = 0 ∨ (iI 0) = 1) ∧ post (some (.int (iI 0))) s13)))))) ∧
 (¬ ((σ.2.2.2 v3.toNatClampNeg) &&& (iI 31)) = (iI 2) → ((((σ.2.2.2 v3.toNatClampNeg) &&& (iI 31)) = (iI 3) → jq_I d 57 [.ref 0] σ (fun x17 s16 =>
 jq_I d 88 [.ref 34] s16 (fun x19 s18 =>
 ((x17 = x19 → (let x20 : Int32 := (v3 + (iI 5))
 jv_wp (d + 1) post (0, 18, [some (.ref 56), some (.ref 0), some (.ref 34), some (.int x20)], [], s18))) ∧
 (¬ x17 = x19 → (((iI 0) = 0 ∨ (iI 0) = 1) ∧ post (some (.int (iI 0))) s18)))))) ∧
 (¬ ((σ.2.2.2 v3.toNatClampNeg) &&& (iI 31)) = (iI 3) → ((((σ.2.2.2 v3.toNatClampNeg) &&& (iI 31)) = (iI 4) → (vp_in (v3 + (iI 1)) σ.2.2.1 ∧ (vp_in (v3 + (iI 2)) σ.2.2.1 ∧ jq_I d 58 [.ref 0, .int (σ.2.2.2 (v3 + (iI 1)).toNatClampNeg), .int (σ.2.2.2 (v3 + (iI 2)).toNatClampNeg)] σ (fun x22 s21 =>
 (vp_in (v3 + (iI 1)) s21.2.2.1 ∧ (vp_in (v3 + (iI 2)) s21.2.2.1 ∧ jq_I d 106 [.ref 34, .int (s21.2.2.2 (v3 + (iI 1)).toNatClampNeg), .int (s21.2.2.2 (v3 + (iI 2)).toNatClampNeg)] s21 (fun x24 s23 =>
 ((x22 = x24 → (let x25 : Int32 := (v3 + (iI 5))
 jv_wp (d + 1) post (0, 18, [some (.ref 56), some (.ref 0), some (.ref 34), some (.int x25)], [], s23))) ∧
 (¬ x22 = x24 → (((iI 0) = 0 ∨ (iI 0) = 1) ∧ post (some (.int (iI 0))) s23)))))))))) ∧
 (¬ ((σ.2.2.2 v3.toNatClampNeg) &&& (iI 31)) = (iI 4) → ((((σ.2.2.2 v3.toNatClampNeg) &&& (iI 31)) = (iI 5) → (vp_in (v3 + (iI 1)) σ.2.2.1 ∧ (vp_in (v3 + (iI 2)) σ.2.2.1 ∧ jq_I d 59 [.ref 0, .int (σ.2.2.2 (v3 + (iI 1)).toNatClampNeg), .int (σ.2.2.2 (v3 + (iI 2)).toNatClampNeg)] σ (fun x27 s26 =>
 (vp_in (v3 + (iI 1)) s26.2.2.1 ∧ (vp_in (v3 + (iI 2)) s26.2.2.1 ∧ jq_I d 107 [.ref 34, .int (s26.2.2.2 (v3 + (iI 1)).toNatClampNeg), .int (s26.2.2.2 (v3 + (iI 2)).toNatClampNeg)] s26 (fun x29 s28 =>
 ((x27 = x29 → (let x30 : Int32 := (v3 + (iI 5))
 jv_wp (d + 1) post (0, 18, [some (.ref 56), some (.ref 0), some (.ref 34), some (.int x30)], [], s28))) ∧
 (¬ x27 = x29 → (((iI 0) = 0 ∨ (iI 0) = 1) ∧ post (some (.int (iI 0))) s28)))))))))) ∧
 (¬ ((σ.2.2.2 v3.toNatClampNeg) &&& (iI 31)) = (iI 5) → ((((σ.2.2.2 v3.toNatClampNeg) &&& (iI 31)) = (iI 6) → (vp_in (v3 + (iI 1)) σ.2.2.1 ∧ (vp_in (v3 + (iI 2)) σ.2.2.1 ∧ jq_I d 60 [.ref 0, .int (σ.2.2.2 (v3 + (iI 1)).toNatClampNeg), .int (σ.2.2.2 (v3 + (iI 2)).toNatClampNeg)] σ (fun x32 s31 =>
 (vp_in (v3 + (iI 1)) s31.2.2.1 ∧ (vp_in (v3 + (iI 2)) s31.2.2.1 ∧ jq_I d 110 [.ref 34, .int (s31.2.2.2 (v3 + (iI 1)).toNatClampNeg), .int (s31.2.2.2 (v3 + (iI 2)).toNatClampNeg)] s31 (fun x34 s33 =>
 ((x32 = x34 → (let x35 : Int32 := (v3 + (iI 5))
 jv_wp (d + 1) post (0, 18, [some (.ref 56), some (.ref 0), some (.ref 34), some (.int x35)], [], s33))) ∧
 (¬ x32 = x34 → (((iI 0) = 0 ∨ (iI 0) = 1) ∧ post (some (.int (iI 0))) s33)))))))))) ∧
 (¬ ((σ.2.2.2 v3.toNatClampNeg) &&& (iI 31)) = (iI 6) → ((((σ.2.2.2 v3.toNatClampNeg) &&& (iI 31)) = (iI 7) → (vp_in (v3 + (iI 1)) σ.2.2.1 ∧ (vp_in (v3 + (iI 2)) σ.2.2.1 ∧ jq_I d 61 [.ref 0, .int (σ.2.2.2 (v3 + (iI 1)).toNatClampNeg), .int (σ.2.2.2 (v3 + (iI 2)).toNatClampNeg)] σ (fun x37 s36 =>
 (vp_in (v3 + (iI 1)) s36.2.2.1 ∧ (vp_in (v3 + (iI 2)) s36.2.2.1 ∧ jq_I d 112 [.ref 34, .int (s36.2.2.2 (v3 + (iI 1)).toNatClampNeg), .int (s36.2.2.2 (v3 + (iI 2)).toNatClampNeg)] s36 (fun x39 s38 =>
 ((x37 = x39 → (let x40 : Int32 := (v3 + (iI 5))
 jv_wp (d + 1) post (0, 18, [some (.ref 56), some (.ref 0), some (.ref 34), some (.int x40)], [], s38))) ∧
 (¬ x37 = x39 → (((iI 0) = 0 ∨ (iI 0) = 1) ∧ post (some (.int (iI 0))) s38)))))))))) ∧
 (¬ ((σ.2.2.2 v3.toNatClampNeg) &&& (iI 31)) = (iI 7) → ((((σ.2.2.2 v3.toNatClampNeg) &&& (iI 31)) = (iI 8) → (vp_in (v3 + (iI 1)) σ.2.2.1 ∧ jq_I d 62 [.ref 0, .int (σ.2.2.2 (v3 + (iI 1)).toNatClampNeg)] σ (fun x42 s41 =>
 (vp_in (v3 + (iI 1)) s41.2.2.1 ∧ jq_I d 113 [.ref 34, .int (s41.2.2.2 (v3 + (iI 1)).toNatClampNeg)] s41 (fun x44 s43 =>
 ((x42 = x44 → (let x45 : Int32 := (v3 + (iI 5))
 jv_wp (d + 1) post (0, 18, [some (.ref 56), some (.ref 0), some (.ref 34), some (.int x45)], [], s43))) ∧
 (¬ x42 = x44 → (((iI 0) = 0 ∨ (iI 0) = 1) ∧ post (some (.int (iI 0))) s43)))))))) ∧
 (¬ ((σ.2.2.2 v3.toNatClampNeg) &&& (iI 31)) = (iI 8) → ((((σ.2.2.2 v3.toNatClampNeg) &&& (iI 31)) = (iI 9) → jq_I d 63 [.ref 0] σ (fun x47 s46 =>
 jq_I d 114 [.ref 34] s46 (fun x49 s48 =>
 ((x47 = x49 → (let x50 : Int32 := (v3 + (iI 5))
 jv_wp (d + 1) post (0, 18, [some (.ref 56), some (.ref 0), some (.ref 34), some (.int x50)], [], s48))) ∧
 (¬ x47 = x49 → (((iI 0) = 0 ∨ (iI 0) = 1) ∧ post (some (.int (iI 0))) s48)))))) ∧
 (¬ ((σ.2.2.2 v3.toNatClampNeg) &&& (iI 31)) = (iI 9) → ((((σ.2.2.2 v3.toNatClampNeg) &&& (iI 31)) = (iI 10) → (vp_in (v3 + (iI 1)) σ.2.2.1 ∧ jq_I d 64 [.ref 0, .int (σ.2.2.2 (v3 + (iI 1)).toNatClampNeg)] σ (fun x52 s51 =>
 (vp_in (v3 + (iI 1)) s51.2.2.1 ∧ jq_I d 115 [.ref 34, .int (s51.2.2.2 (v3 + (iI 1)).toNatClampNeg)] s51 (fun x54 s53 =>
 ((x52 = x54 → (let x55 : Int32 := (v3 + (iI 5))
 jv_wp (d + 1) post (0, 18, [some (.ref 56), some (.ref 0), some (.ref 34), some (.int x55)], [], s53))) ∧
 (¬ x52 = x54 → (((iI 0) = 0 ∨ (iI 0) = 1) ∧ post (some (.int (iI 0))) s53)))))))) ∧
 (¬ ((σ.2.2.2 v3.toNatClampNeg) &&& (iI 31)) = (iI 10) → ((((σ.2.2.2 v3.toNatClampNeg) &&& (iI 31)) = (iI 11) → (vp_in (v3 + (iI 1)) σ.2.2.1 ∧ (vp_in (v3 + (iI 2)) σ.2.2.1 ∧ jq_I d 65 [.ref 0, .int (σ.2.2.2 (v3 + (iI 1)).toNatClampNeg), .int (σ.2.2.2 (v3 + (iI 2)).toNatClampNeg)] σ (fun x57 s56 =>
 (vp_in (v3 + (iI 1)) s56.2.2.1 ∧ (vp_in (v3 + (iI 2)) s56.2.2.1 ∧ jq_I d 116 [.ref 34, .int (s56.2.2.2 (v3 + (iI 1)).toNatClampNeg), .int (s56.2.2.2 (v3 + (iI 2)).toNatClampNeg)] s56 (fun x59 s58 =>
 ((x57 = x59 → (let x60 : Int32 := (v3 + (iI 5))
 jv_wp (d + 1) post (0, 18, [some (.ref 56), some (.ref 0), some (.ref 34), some (.int x60)], [], s58))) ∧
 (¬ x57 = x59 → (((iI 0) = 0 ∨ (iI 0) = 1) ∧ post (some (.int (iI 0))) s58)))))))))) ∧
 (¬ ((σ.2.2.2 v3.toNatClampNeg) &&& (iI 31)) = (iI 11) → ((((σ.2.2.2 v3.toNatClampNeg) &&& (iI 31)) = (iI 12) → (vp_in (v3 + (iI 1)) σ.2.2.1 ∧ (vp_in (v3 + (iI 2)) σ.2.2.1 ∧ (vp_in (v3 + (iI 3)) σ.2.2.1 ∧ jq_I d 66 [.ref 0, .int (σ.2.2.2 (v3 + (iI 1)).toNatClampNeg), .int (σ.2.2.2 (v3 + (iI 2)).toNatClampNeg), .int (σ.2.2.2 (v3 + (iI 3)).toNatClampNeg)] σ (fun x62 s61 =>
 (vp_in (v3 + (iI 1)) s61.2.2.1 ∧ (vp_in (v3 + (iI 2)) s61.2.2.1 ∧ (vp_in (v3 + (iI 3)) s61.2.2.1 ∧ jq_I d 117 [.ref 34, .int (s61.2.2.2 (v3 + (iI 1)).toNatClampNeg), .int (s61.2.2.2 (v3 + (iI 2)).toNatClampNeg), .int (s61.2.2.2 (v3 + (iI 3)).toNatClampNeg)] s61 (fun x64 s63 =>
 ((x62 = x64 → (let x65 : Int32 := (v3 + (iI 5))
 jv_wp (d + 1) post (0, 18, [some (.ref 56), some (.ref 0), some (.ref 34), some (.int x65)], [], s63))) ∧
 (¬ x62 = x64 → (((iI 0) = 0 ∨ (iI 0) = 1) ∧ post (some (.int (iI 0))) s63)))))))))))) ∧
 (¬ ((σ.2.2.2 v3.toNatClampNeg) &&& (iI 31)) = (iI 12) → ((((σ.2.2.2 v3.toNatClampNeg) &&& (iI 31)) = (iI 13) → (vp_in (v3 + (iI 1)) σ.2.2.1 ∧ (vp_in (v3 + (iI 2)) σ.2.2.1 ∧ jq_I d 67 [.ref 0, .int (σ.2.2.2 (v3 + (iI 1)).toNatClampNeg), .int (σ.2.2.2 (v3 + (iI 2)).toNatClampNeg)] σ (fun x67 s66 =>
 (vp_in (v3 + (iI 1)) s66.2.2.1 ∧ (vp_in (v3 + (iI 2)) s66.2.2.1 ∧ jq_I d 121 [.ref 34, .int (s66.2.2.2 (v3 + (iI 1)).toNatClampNeg), .int (s66.2.2.2 (v3 + (iI 2)).toNatClampNeg)] s66 (fun x69 s68 =>
 ((x67 = x69 → (let x70 : Int32 := (v3 + (iI 5))
 jv_wp (d + 1) post (0, 18, [some (.ref 56), some (.ref 0), some (.ref 34), some (.int x70)], [], s68))) ∧
 (¬ x67 = x69 → (((iI 0) = 0 ∨ (iI 0) = 1) ∧ post (some (.int (iI 0))) s68)))))))))) ∧
 (¬ ((σ.2.2.2 v3.toNatClampNeg) &&& (iI 31)) = (iI 13) → ((((σ.2.2.2 v3.toNatClampNeg) &&& (iI 31)) = (iI 14) → (vp_in (v3 + (iI 1)) σ.2.2.1 ∧ jq_I d 68 [.ref 0, .int (σ.2.2.2 (v3 + (iI 1)).toNatClampNeg)] σ (fun x72 s71 =>
 (vp_in (v3 + (iI 1)) s71.2.2.1 ∧ jq_I d 124 [.ref 34, .int (s71.2.2.2 (v3 + (iI 1)).toNatClampNeg)] s71 (fun x74 s73 =>
 ((x72 = x74 → (let x75 : Int32 := (v3 + (iI 5))
 jv_wp (d + 1) post (0, 18, [some (.ref 56), some (.ref 0), some (.ref 34), some (.int x75)], [], s73))) ∧
 (¬ x72 = x74 → (((iI 0) = 0 ∨ (iI 0) = 1) ∧ post (some (.int (iI 0))) s73)))))))) ∧
 (¬ ((σ.2.2.2 v3.toNatClampNeg) &&& (iI 31)) = (iI 14) → ((((σ.2.2.2 v3.toNatClampNeg) &&& (iI 31)) = (iI 15) → (vp_in (v3 + (iI 1)) σ.2.2.1 ∧ (vp_in (v3 + (iI 2)) σ.2.2.1 ∧ (vp_in (v3 + (iI 3)) σ.2.2.1 ∧ (vp_in (v3 + (iI 4)) σ.2.2.1 ∧ jq_I d 69 [.ref 0, .int (σ.2.2.2 (v3 + (iI 1)).toNatClampNeg), .int (σ.2.2.2 (v3 + (iI 2)).toNatClampNeg), .int (σ.2.2.2 (v3 + (iI 3)).toNatClampNeg), .int (σ.2.2.2 (v3 + (iI 4)).toNatClampNeg)] σ (fun x77 s76 =>
 (vp_in (v3 + (iI 1)) s76.2.2.1 ∧ (vp_in (v3 + (iI 2)) s76.2.2.1 ∧ (vp_in (v3 + (iI 3)) s76.2.2.1 ∧ (vp_in (v3 + (iI 4)) s76.2.2.1 ∧ jq_I d 126 [.ref 34, .int (s76.2.2.2 (v3 + (iI 1)).toNatClampNeg), .int (s76.2.2.2 (v3 + (iI 2)).toNatClampNeg), .int (s76.2.2.2 (v3 + (iI 3)).toNatClampNeg), .int (s76.2.2.2 (v3 + (iI 4)).toNatClampNeg)] s76 (fun x79 s78 =>
 ((x77 = x79 → (let x80 : Int32 := (v3 + (iI 5))
 jv_wp (d + 1) post (0, 18, [some (.ref 56), some (.ref 0), some (.ref 34), some (.int x80)], [], s78))) ∧
 (¬ x77 = x79 → (((iI 0) = 0 ∨ (iI 0) = 1) ∧ post (some (.int (iI 0))) s78)))))))))))))) ∧
 (¬ ((σ.2.2.2 v3.toNatClampNeg) &&& (iI 31)) = (iI 15) → ((((σ.2.2.2 v3.toNatClampNeg) &&& (iI 31)) = (iI 16) → (vp_in (v3 + (iI 1)) σ.2.2.1 ∧ (vp_in (v3 + (iI 2)) σ.2.2.1 ∧ (vp_in (v3 + (iI 3)) σ.2.2.1 ∧ (((σ.2.2.2 (v3 + (iI 3)).toNatClampNeg) = 0 → jq_I d 70 [.ref 0, .int (σ.2.2.2 (v3 + (iI 1)).toNatClampNeg), .int (σ.2.2.2 (v3 + (iI 2)).toNatClampNeg), .int (iI 0)] σ (fun x82 s81 =>
 (vp_in (v3 + (iI 1)) s81.2.2.1 ∧ (vp_in (v3 + (iI 2)) s81.2.2.1 ∧ (vp_in (v3 + (iI 3)) s81.2.2.1 ∧ (((s81.2.2.2 (v3 + (iI 3)).toNatClampNeg) = 0 → jq_I d 127 [.ref 34, .int (s81.2.2.2 (v3 + (iI 1)).toNatClampNeg), .int (s81.2.2.2 (v3 + (iI 2)).toNatClampNeg), .int (iI 0)] s81 (fun x84 s83 =>
 ((x82 = x84 → (let x85 : Int32 := (v3 + (iI 5))
 jv_wp (d + 1) post (0, 18, [some (.ref 56), some (.ref 0), some (.ref 34), some (.int x85)], [], s83))) ∧
 (¬ x82 = x84 → (((iI 0) = 0 ∨ (iI 0) = 1) ∧ post (some (.int (iI 0))) s83))))) ∧
 (¬ (s81.2.2.2 (v3 + (iI 3)).toNatClampNeg) = 0 → jq_I d 127 [.ref 34, .int (s81.2.2.2 (v3 + (iI 1)).toNatClampNeg), .int (s81.2.2.2 (v3 + (iI 2)).toNatClampNeg), .int (iI 1)] s81 (fun x87 s86 =>
 ((x82 = x87 → (let x88 : Int32 := (v3 + (iI 5))
 jv_wp (d + 1) post (0, 18, [some (.ref 56), some (.ref 0), some (.ref 34), some (.int x88)], [], s86))) ∧
 (¬ x82 = x87 → (((iI 0) = 0 ∨ (iI 0) = 1) ∧ post (some (.int (iI 0))) s86))))))))))) ∧
 (¬ (σ.2.2.2 (v3 + (iI 3)).toNatClampNeg) = 0 → jq_I d 70 [.ref 0, .int (σ.2.2.2 (v3 + (iI 1)).toNatClampNeg), .int (σ.2.2.2 (v3 + (iI 2)).toNatClampNeg), .int (iI 1)] σ (fun x90 s89 =>
 (vp_in (v3 + (iI 1)) s89.2.2.1 ∧ (vp_in (v3 + (iI 2)) s89.2.2.1 ∧ (vp_in (v3 + (iI 3)) s89.2.2.1 ∧ (((s89.2.2.2 (v3 + (iI 3)).toNatClampNeg) = 0 → jq_I d 127 [.ref 34, .int (s89.2.2.2 (v3 + (iI 1)).toNatClampNeg), .int (s89.2.2.2 (v3 + (iI 2)).toNatClampNeg), .int (iI 0)] s89 (fun x92 s91 =>
 ((x90 = x92 → (let x93 : Int32 := (v3 + (iI 5))
 jv_wp (d + 1) post (0, 18, [some (.ref 56), some (.ref 0), some (.ref 34), some (.int x93)], [], s91))) ∧
 (¬ x90 = x92 → (((iI 0) = 0 ∨ (iI 0) = 1) ∧ post (some (.int (iI 0))) s91))))) ∧
 (¬ (s89.2.2.2 (v3 + (iI 3)).toNatClampNeg) = 0 → jq_I d 127 [.ref 34, .int (s89.2.2.2 (v3 + (iI 1)).toNatClampNeg), .int (s89.2.2.2 (v3 + (iI 2)).toNatClampNeg), .int (iI 1)] s89 (fun x95 s94 =>
 ((x90 = x95 → (let x96 : Int32 := (v3 + (iI 5))
 jv_wp (d + 1) post (0, 18, [some (.ref 56), some (.ref 0), some (.ref 34), some (.int x96)], [], s94))) ∧
 (¬ x90 = x95 → (((iI 0) = 0 ∨ (iI 0) = 1) ∧ post (some (.int (iI 0))) s94)))))))))))))))) ∧
 (¬ ((σ.2.2.2 v3.toNatClampNeg) &&& (iI 31)) = (iI 16) → ((((σ.2.2.2 v3.toNatClampNeg) &&& (iI 31)) = (iI 17) → jq_I d 71 [.ref 0] σ (fun x98 s97 =>
 jq_I d 128 [.ref 34] s97 (fun x100 s99 =>
 ((x98 = x100 → (let x101 : Int32 := (v3 + (iI 5))
 jv_wp (d + 1) post (0, 18, [some (.ref 56), some (.ref 0), some (.ref 34), some (.int x101)], [], s99))) ∧
 (¬ x98 = x100 → (((iI 0) = 0 ∨ (iI 0) = 1) ∧ post (some (.int (iI 0))) s99)))))) ∧
 (¬ ((σ.2.2.2 v3.toNatClampNeg) &&& (iI 31)) = (iI 17) → ((((σ.2.2.2 v3.toNatClampNeg) &&& (iI 31)) = (iI 18) → (vp_in (v3 + (iI 1)) σ.2.2.1 ∧ (vp_in (v3 + (iI 2)) σ.2.2.1 ∧ (vp_in (v3 + (iI 3)) σ.2.2.1 ∧ jq_I d 72 [.ref 0, .int (σ.2.2.2 (v3 + (iI 1)).toNatClampNeg), .int (σ.2.2.2 (v3 + (iI 2)).toNatClampNeg), .int (σ.2.2.2 (v3 + (iI 3)).toNatClampNeg)] σ (fun x103 s102 =>
 (vp_in (v3 + (iI 1)) s102.2.2.1 ∧ (vp_in (v3 + (iI 2)) s102.2.2.1 ∧ (vp_in (v3 + (iI 3)) s102.2.2.1 ∧ jq_I d 133 [.ref 34, .int (s102.2.2.2 (v3 + (iI 1)).toNatClampNeg), .int (s102.2.2.2 (v3 + (iI 2)).toNatClampNeg), .int (s102.2.2.2 (v3 + (iI 3)).toNatClampNeg)] s102 (fun x105 s104 =>
 ((x103 = x105 → (let x106 : Int32 := (v3 + (iI 5))
 jv_wp (d + 1) post (0, 18, [some (.ref 56), some (.ref 0), some (.ref 34), some (.int x106)], [], s104))) ∧
 (¬ x103 = x105 → (((iI 0) = 0 ∨ (iI 0) = 1) ∧ post (some (.int (iI 0))) s104)))))))))))) ∧
 (¬ ((σ.2.2.2 v3.toNatClampNeg) &&& (iI 31)) = (iI 18) → ((((σ.2.2.2 v3.toNatClampNeg) &&& (iI 31)) = (iI 19) → jq_I d 73 [.ref 0] σ (fun x108 s107 =>
 jq_I d 134 [.ref 34] s107 (fun x110 s109 =>
 ((x108 = x110 → (let x111 : Int32 := (v3 + (iI 5))
 jv_wp (d + 1) post (0, 18, [some (.ref 56), some (.ref 0), some (.ref 34), some (.int x111)], [], s109))) ∧
 (¬ x108 = x110 → (((iI 0) = 0 ∨ (iI 0) = 1) ∧ post (some (.int (iI 0))) s109)))))) ∧
 (¬ ((σ.2.2.2 v3.toNatClampNeg) &&& (iI 31)) = (iI 19) → ((((σ.2.2.2 v3.toNatClampNeg) &&& (iI 31)) = (iI 20) → jq_I d 74 [.ref 0] σ (fun x113 s112 =>
 jq_I d 135 [.ref 34] s112 (fun x115 s114 =>
 ((x113 = x115 → (let x116 : Int32 := (v3 + (iI 5))
 jv_wp (d + 1) post (0, 18, [some (.ref 56), some (.ref 0), some (.ref 34), some (.int x116)], [], s114))) ∧
 (¬ x113 = x115 → (((iI 0) = 0 ∨ (iI 0) = 1) ∧ post (some (.int (iI 0))) s114)))))) ∧
 (¬ ((σ.2.2.2 v3.toNatClampNeg) &&& (iI 31)) = (iI 20) → ((((σ.2.2.2 v3.toNatClampNeg) &&& (iI 31)) = (iI 21) → (vp_in (v3 + (iI 1)) σ.2.2.1 ∧ jq_I d 75 [.ref 0, .int (σ.2.2.2 (v3 + (iI 1)).toNatClampNeg)] σ (fun x118 s117 =>
 (vp_in (v3 + (iI 1)) s117.2.2.1 ∧ jq_I d 139 [.ref 34, .int (s117.2.2.2 (v3 + (iI 1)).toNatClampNeg)] s117 (fun x120 s119 =>
 ((x118 = x120 → (let x121 : Int32 := (v3 + (iI 5))
 jv_wp (d + 1) post (0, 18, [some (.ref 56), some (.ref 0), some (.ref 34), some (.int x121)], [], s119))) ∧
 (¬ x118 = x120 → (((iI 0) = 0 ∨ (iI 0) = 1) ∧ post (some (.int (iI 0))) s119)))))))) ∧
 (¬ ((σ.2.2.2 v3.toNatClampNeg) &&& (iI 31)) = (iI 21) → ((((σ.2.2.2 v3.toNatClampNeg) &&& (iI 31)) = (iI 22) → jq_L d 76 [.ref 0] σ (fun x123 s122 =>
 jq_L d 142 [.ref 34] s122 (fun x125 s124 =>
 (((lg_cmp x123 x125) = 0 → (let x126 : Int32 := (v3 + (iI 5))
 jv_wp (d + 1) post (0, 18, [some (.ref 56), some (.ref 0), some (.ref 34), some (.int x126)], [], s124))) ∧
 (¬ (lg_cmp x123 x125) = 0 → (((iI 0) = 0 ∨ (iI 0) = 1) ∧ post (some (.int (iI 0))) s124)))))) ∧
 (¬ ((σ.2.2.2 v3.toNatClampNeg) &&& (iI 31)) = (iI 22) → (let x127 : Int32 := (v3 + (iI 5))
 jv_wp (d + 1) post (0, 18, [some (.ref 56), some (.ref 0), some (.ref 34), some (.int x127)], [], σ))))))))))))))))))))))))))))))))))))))))))))))))))) from ⟨fun c1 => ⟨by decide +kernel, ((h).1 c1)⟩, fun c1 => ⟨(((h).2 c1)).1, ⟨fun c5 => ⟨((((((h).2 c1)).2).1 c5)).1, jq_I_con (((((((h).2 c1)).2).1 c5)).2) (fun x2 s1 h7 => ⟨(h7).1, jq_I_con ((h7).2) (fun x4 s3 h9 => ⟨fun c10 => ((h9).1 c10), fun c10 => ⟨by decide +kernel, ((h9).2 c10)⟩⟩)⟩)⟩, fun c5 => ⟨fun c14 => jq_I_con ((((((((h).2 c1)).2).2 c5)).1 c14)) (fun x7 s6 h15 => jq_I_con (h15) (fun x9 s8 h16 => ⟨fun c17 => ((h16).1 c17), fun c17 => ⟨by decide +kernel, ((h16).2 c17)⟩⟩)), fun c14 => ⟨fun c21 => jq_I_con ((((((((((h).2 c1)).2).2 c5)).2 c14)).1 c21)) (fun x12 s11 h22 => jq_I_con (h22) (fun x14 s13 h23 => ⟨fun c24 => ((h23).1 c24), fun c24 => ⟨by decide +kernel, ((h23).2 c24)⟩⟩)), fun c21 => ⟨fun c28 => jq_I_con ((((((((((((h).2 c1)).2).2 c5)).2 c14)).2 c21)).1 c28)) (fun x17 s16 h29 => jq_I_con (h29) (fun x19 s18 h30 => ⟨fun c31 => ((h30).1 c31), fun c31 => ⟨by decide +kernel, ((h30).2 c31)⟩⟩)), fun c28 => ⟨fun c35 => ⟨((((((((((((((h).2 c1)).2).2 c5)).2 c14)).2 c21)).2 c28)).1 c35)).1, ⟨(((((((((((((((h).2 c1)).2).2 c5)).2 c14)).2 c21)).2 c28)).1 c35)).2).1, jq_I_con ((((((((((((((((h).2 c1)).2).2 c5)).2 c14)).2 c21)).2 c28)).1 c35)).2).2) (fun x22 s21 h38 => ⟨(h38).1, ⟨((h38).2).1, jq_I_con (((h38).2).2) (fun x24 s23 h41 => ⟨fun c42 => ((h41).1 c42), fun c42 => ⟨by decide +kernel, ((h41).2 c42)⟩⟩)⟩⟩)⟩⟩, fun c35 => ⟨fun c46 => ⟨((((((((((((((((h).2 c1)).2).2 c5)).2 c14)).2 c21)).2 c28)).2 c35)).1 c46)).1, ⟨(((((((((((((((((h).2 c1)).2).2 c5)).2 c14)).2 c21)).2 c28)).2 c35)).1 c46)).2).1, jq_I_con ((((((((((((((((((h).2 c1)).2).2 c5)).2 c14)).2 c21)).2 c28)).2 c35)).1 c46)).2).2) (fun x27 s26 h49 => ⟨(h49).1, ⟨((h49).2).1, jq_I_con (((h49).2).2) (fun x29 s28 h52 => ⟨fun c53 => ((h52).1 c53), fun c53 => ⟨by decide +kernel, ((h52).2 c53)⟩⟩)⟩⟩)⟩⟩, fun c46 => ⟨fun c57 => ⟨((((((((((((((((((h).2 c1)).2).2 c5)).2 c14)).2 c21)).2 c28)).2 c35)).2 c46)).1 c57)).1, ⟨(((((((((((((((((((h).2 c1)).2).2 c5)).2 c14)).2 c21)).2 c28)).2 c35)).2 c46)).1 c57)).2).1, jq_I_con ((((((((((((((((((((h).2 c1)).2).2 c5)).2 c14)).2 c21)).2 c28)).2 c35)).2 c46)).1 c57)).2).2) (fun x32 s31 h60 => ⟨(h60).1, ⟨((h60).2).1, jq_I_con (((h60).2).2) (fun x34 s33 h63 => ⟨fun c64 => ((h63).1 c64), fun c64 => ⟨by decide +kernel, ((h63).2 c64)⟩⟩)⟩⟩)⟩⟩, fun c57 => ⟨fun c68 => ⟨((((((((((((((((((((h).2 c1)).2).2 c5)).2 c14)).2 c21)).2 c28)).2 c35)).2 c46)).2 c57)).1 c68)).1, ⟨(((((((((((((((((((((h).2 c1)).2).2 c5)).2 c14)).2 c21)).2 c28)).2 c35)).2 c46)).2 c57)).1 c68)).2).1, jq_I_con ((((((((((((((((((((((h).2 c1)).2).2 c5)).2 c14)).2 c21)).2 c28)).2 c35)).2 c46)).2 c57)).1 c68)).2).2) (fun x37 s36 h71 => ⟨(h71).1, ⟨((h71).2).1, jq_I_con (((h71).2).2) (fun x39 s38 h74 => ⟨fun c75 => ((h74).1 c75), fun c75 => ⟨by decide +kernel, ((h74).2 c75)⟩⟩)⟩⟩)⟩⟩, fun c68 => ⟨fun c79 => ⟨((((((((((((((((((((((h).2 c1)).2).2 c5)).2 c14)).2 c21)).2 c28)).2 c35)).2 c46)).2 c57)).2 c68)).1 c79)).1, jq_I_con (((((((((((((((((((((((h).2 c1)).2).2 c5)).2 c14)).2 c21)).2 c28)).2 c35)).2 c46)).2 c57)).2 c68)).1 c79)).2) (fun x42 s41 h81 => ⟨(h81).1, jq_I_con ((h81).2) (fun x44 s43 h83 => ⟨fun c84 => ((h83).1 c84), fun c84 => ⟨by decide +kernel, ((h83).2 c84)⟩⟩)⟩)⟩, fun c79 => ⟨fun c88 => jq_I_con ((((((((((((((((((((((((h).2 c1)).2).2 c5)).2 c14)).2 c21)).2 c28)).2 c35)).2 c46)).2 c57)).2 c68)).2 c79)).1 c88)) (fun x47 s46 h89 => jq_I_con (h89) (fun x49 s48 h90 => ⟨fun c91 => ((h90).1 c91), fun c91 => ⟨by decide +kernel, ((h90).2 c91)⟩⟩)), fun c88 => ⟨fun c95 => ⟨((((((((((((((((((((((((((h).2 c1)).2).2 c5)).2 c14)).2 c21)).2 c28)).2 c35)).2 c46)).2 c57)).2 c68)).2 c79)).2 c88)).1 c95)).1, jq_I_con (((((((((((((((((((((((((((h).2 c1)).2).2 c5)).2 c14)).2 c21)).2 c28)).2 c35)).2 c46)).2 c57)).2 c68)).2 c79)).2 c88)).1 c95)).2) (fun x52 s51 h97 => ⟨(h97).1, jq_I_con ((h97).2) (fun x54 s53 h99 => ⟨fun c100 => ((h99).1 c100), fun c100 => ⟨by decide +kernel, ((h99).2 c100)⟩⟩)⟩)⟩, fun c95 => ⟨fun c104 => ⟨((((((((((((((((((((((((((((h).2 c1)).2).2 c5)).2 c14)).2 c21)).2 c28)).2 c35)).2 c46)).2 c57)).2 c68)).2 c79)).2 c88)).2 c95)).1 c104)).1, ⟨(((((((((((((((((((((((((((((h).2 c1)).2).2 c5)).2 c14)).2 c21)).2 c28)).2 c35)).2 c46)).2 c57)).2 c68)).2 c79)).2 c88)).2 c95)).1 c104)).2).1, jq_I_con ((((((((((((((((((((((((((((((h).2 c1)).2).2 c5)).2 c14)).2 c21)).2 c28)).2 c35)).2 c46)).2 c57)).2 c68)).2 c79)).2 c88)).2 c95)).1 c104)).2).2) (fun x57 s56 h107 => ⟨(h107).1, ⟨((h107).2).1, jq_I_con (((h107).2).2) (fun x59 s58 h110 => ⟨fun c111 => ((h110).1 c111), fun c111 => ⟨by decide +kernel, ((h110).2 c111)⟩⟩)⟩⟩)⟩⟩, fun c104 => ⟨fun c115 => ⟨((((((((((((((((((((((((((((((h).2 c1)).2).2 c5)).2 c14)).2 c21)).2 c28)).2 c35)).2 c46)).2 c57)).2 c68)).2 c79)).2 c88)).2 c95)).2 c104)).1 c115)).1, ⟨(((((((((((((((((((((((((((((((h).2 c1)).2).2 c5)).2 c14)).2 c21)).2 c28)).2 c35)).2 c46)).2 c57)).2 c68)).2 c79)).2 c88)).2 c95)).2 c104)).1 c115)).2).1, ⟨((((((((((((((((((((((((((((((((h).2 c1)).2).2 c5)).2 c14)).2 c21)).2 c28)).2 c35)).2 c46)).2 c57)).2 c68)).2 c79)).2 c88)).2 c95)).2 c104)).1 c115)).2).2).1, jq_I_con (((((((((((((((((((((((((((((((((h).2 c1)).2).2 c5)).2 c14)).2 c21)).2 c28)).2 c35)).2 c46)).2 c57)).2 c68)).2 c79)).2 c88)).2 c95)).2 c104)).1 c115)).2).2).2) (fun x62 s61 h119 => ⟨(h119).1, ⟨((h119).2).1, ⟨(((h119).2).2).1, jq_I_con ((((h119).2).2).2) (fun x64 s63 h123 => ⟨fun c124 => ((h123).1 c124), fun c124 => ⟨by decide +kernel, ((h123).2 c124)⟩⟩)⟩⟩⟩)⟩⟩⟩, fun c115 => ⟨fun c128 => ⟨((((((((((((((((((((((((((((((((h).2 c1)).2).2 c5)).2 c14)).2 c21)).2 c28)).2 c35)).2 c46)).2 c57)).2 c68)).2 c79)).2 c88)).2 c95)).2 c104)).2 c115)).1 c128)).1, ⟨(((((((((((((((((((((((((((((((((h).2 c1)).2).2 c5)).2 c14)).2 c21)).2 c28)).2 c35)).2 c46)).2 c57)).2 c68)).2 c79)).2 c88)).2 c95)).2 c104)).2 c115)).1 c128)).2).1, jq_I_con ((((((((((((((((((((((((((((((((((h).2 c1)).2).2 c5)).2 c14)).2 c21)).2 c28)).2 c35)).2 c46)).2 c57)).2 c68)).2 c79)).2 c88)).2 c95)).2 c104)).2 c115)).1 c128)).2).2) (fun x67 s66 h131 => ⟨(h131).1, ⟨((h131).2).1, jq_I_con (((h131).2).2) (fun x69 s68 h134 => ⟨fun c135 => ((h134).1 c135), fun c135 => ⟨by decide +kernel, ((h134).2 c135)⟩⟩)⟩⟩)⟩⟩, fun c128 => ⟨fun c139 => ⟨((((((((((((((((((((((((((((((((((h).2 c1)).2).2 c5)).2 c14)).2 c21)).2 c28)).2 c35)).2 c46)).2 c57)).2 c68)).2 c79)).2 c88)).2 c95)).2 c104)).2 c115)).2 c128)).1 c139)).1, jq_I_con (((((((((((((((((((((((((((((((((((h).2 c1)).2).2 c5)).2 c14)).2 c21)).2 c28)).2 c35)).2 c46)).2 c57)).2 c68)).2 c79)).2 c88)).2 c95)).2 c104)).2 c115)).2 c128)).1 c139)).2) (fun x72 s71 h141 => ⟨(h141).1, jq_I_con ((h141).2) (fun x74 s73 h143 => ⟨fun c144 => ((h143).1 c144), fun c144 => ⟨by decide +kernel, ((h143).2 c144)⟩⟩)⟩)⟩, fun c139 => ⟨fun c148 => ⟨((((((((((((((((((((((((((((((((((((h).2 c1)).2).2 c5)).2 c14)).2 c21)).2 c28)).2 c35)).2 c46)).2 c57)).2 c68)).2 c79)).2 c88)).2 c95)).2 c104)).2 c115)).2 c128)).2 c139)).1 c148)).1, ⟨(((((((((((((((((((((((((((((((((((((h).2 c1)).2).2 c5)).2 c14)).2 c21)).2 c28)).2 c35)).2 c46)).2 c57)).2 c68)).2 c79)).2 c88)).2 c95)).2 c104)).2 c115)).2 c128)).2 c139)).1 c148)).2).1, ⟨((((((((((((((((((((((((((((((((((((((h).2 c1)).2).2 c5)).2 c14)).2 c21)).2 c28)).2 c35)).2 c46)).2 c57)).2 c68)).2 c79)).2 c88)).2 c95)).2 c104)).2 c115)).2 c128)).2 c139)).1 c148)).2).2).1, ⟨(((((((((((((((((((((((((((((((((((((((h).2 c1)).2).2 c5)).2 c14)).2 c21)).2 c28)).2 c35)).2 c46)).2 c57)).2 c68)).2 c79)).2 c88)).2 c95)).2 c104)).2 c115)).2 c128)).2 c139)).1 c148)).2).2).2).1, jq_I_con ((((((((((((((((((((((((((((((((((((((((h).2 c1)).2).2 c5)).2 c14)).2 c21)).2 c28)).2 c35)).2 c46)).2 c57)).2 c68)).2 c79)).2 c88)).2 c95)).2 c104)).2 c115)).2 c128)).2 c139)).1 c148)).2).2).2).2) (fun x77 s76 h153 => ⟨(h153).1, ⟨((h153).2).1, ⟨(((h153).2).2).1, ⟨((((h153).2).2).2).1, jq_I_con (((((h153).2).2).2).2) (fun x79 s78 h158 => ⟨fun c159 => ((h158).1 c159), fun c159 => ⟨by decide +kernel, ((h158).2 c159)⟩⟩)⟩⟩⟩⟩)⟩⟩⟩⟩, fun c148 => ⟨fun c163 => ⟨((((((((((((((((((((((((((((((((((((((h).2 c1)).2).2 c5)).2 c14)).2 c21)).2 c28)).2 c35)).2 c46)).2 c57)).2 c68)).2 c79)).2 c88)).2 c95)).2 c104)).2 c115)).2 c128)).2 c139)).2 c148)).1 c163)).1, ⟨(((((((((((((((((((((((((((((((((((((((h).2 c1)).2).2 c5)).2 c14)).2 c21)).2 c28)).2 c35)).2 c46)).2 c57)).2 c68)).2 c79)).2 c88)).2 c95)).2 c104)).2 c115)).2 c128)).2 c139)).2 c148)).1 c163)).2).1, ⟨((((((((((((((((((((((((((((((((((((((((h).2 c1)).2).2 c5)).2 c14)).2 c21)).2 c28)).2 c35)).2 c46)).2 c57)).2 c68)).2 c79)).2 c88)).2 c95)).2 c104)).2 c115)).2 c128)).2 c139)).2 c148)).1 c163)).2).2).1, ⟨fun c167 => jq_I_con (((((((((((((((((((((((((((((((((((((((((((h).2 c1)).2).2 c5)).2 c14)).2 c21)).2 c28)).2 c35)).2 c46)).2 c57)).2 c68)).2 c79)).2 c88)).2 c95)).2 c104)).2 c115)).2 c128)).2 c139)).2 c148)).1 c163)).2).2).2).1 c167)) (fun x82 s81 h168 => ⟨(h168).1, ⟨((h168).2).1, ⟨(((h168).2).2).1, ⟨fun c172 => jq_I_con ((((((h168).2).2).2).1 c172)) (fun x84 s83 h173 => ⟨fun c174 => ((h173).1 c174), fun c174 => ⟨by decide +kernel, ((h173).2 c174)⟩⟩), fun c172 => jq_I_con ((((((h168).2).2).2).2 c172)) (fun x87 s86 h178 => ⟨fun c179 => ((h178).1 c179), fun c179 => ⟨by decide +kernel, ((h178).2 c179)⟩⟩)⟩⟩⟩⟩), fun c167 => jq_I_con (((((((((((((((((((((((((((((((((((((((((((h).2 c1)).2).2 c5)).2 c14)).2 c21)).2 c28)).2 c35)).2 c46)).2 c57)).2 c68)).2 c79)).2 c88)).2 c95)).2 c104)).2 c115)).2 c128)).2 c139)).2 c148)).1 c163)).2).2).2).2 c167)) (fun x90 s89 h183 => ⟨(h183).1, ⟨((h183).2).1, ⟨(((h183).2).2).1, ⟨fun c187 => jq_I_con ((((((h183).2).2).2).1 c187)) (fun x92 s91 h188 => ⟨fun c189 => ((h188).1 c189), fun c189 => ⟨by decide +kernel, ((h188).2 c189)⟩⟩), fun c187 => jq_I_con ((((((h183).2).2).2).2 c187)) (fun x95 s94 h193 => ⟨fun c194 => ((h193).1 c194), fun c194 => ⟨by decide +kernel, ((h193).2 c194)⟩⟩)⟩⟩⟩⟩)⟩⟩⟩⟩, fun c163 => ⟨fun c198 => jq_I_con ((((((((((((((((((((((((((((((((((((((((h).2 c1)).2).2 c5)).2 c14)).2 c21)).2 c28)).2 c35)).2 c46)).2 c57)).2 c68)).2 c79)).2 c88)).2 c95)).2 c104)).2 c115)).2 c128)).2 c139)).2 c148)).2 c163)).1 c198)) (fun x98 s97 h199 => jq_I_con (h199) (fun x100 s99 h200 => ⟨fun c201 => ((h200).1 c201), fun c201 => ⟨by decide +kernel, ((h200).2 c201)⟩⟩)), fun c198 => ⟨fun c205 => ⟨((((((((((((((((((((((((((((((((((((((((((h).2 c1)).2).2 c5)).2 c14)).2 c21)).2 c28)).2 c35)).2 c46)).2 c57)).2 c68)).2 c79)).2 c88)).2 c95)).2 c104)).2 c115)).2 c128)).2 c139)).2 c148)).2 c163)).2 c198)).1 c205)).1, ⟨(((((((((((((((((((((((((((((((((((((((((((h).2 c1)).2).2 c5)).2 c14)).2 c21)).2 c28)).2 c35)).2 c46)).2 c57)).2 c68)).2 c79)).2 c88)).2 c95)).2 c104)).2 c115)).2 c128)).2 c139)).2 c148)).2 c163)).2 c198)).1 c205)).2).1, ⟨((((((((((((((((((((((((((((((((((((((((((((h).2 c1)).2).2 c5)).2 c14)).2 c21)).2 c28)).2 c35)).2 c46)).2 c57)).2 c68)).2 c79)).2 c88)).2 c95)).2 c104)).2 c115)).2 c128)).2 c139)).2 c148)).2 c163)).2 c198)).1 c205)).2).2).1, jq_I_con (((((((((((((((((((((((((((((((((((((((((((((h).2 c1)).2).2 c5)).2 c14)).2 c21)).2 c28)).2 c35)).2 c46)).2 c57)).2 c68)).2 c79)).2 c88)).2 c95)).2 c104)).2 c115)).2 c128)).2 c139)).2 c148)).2 c163)).2 c198)).1 c205)).2).2).2) (fun x103 s102 h209 => ⟨(h209).1, ⟨((h209).2).1, ⟨(((h209).2).2).1, jq_I_con ((((h209).2).2).2) (fun x105 s104 h213 => ⟨fun c214 => ((h213).1 c214), fun c214 => ⟨by decide +kernel, ((h213).2 c214)⟩⟩)⟩⟩⟩)⟩⟩⟩, fun c205 => ⟨fun c218 => jq_I_con ((((((((((((((((((((((((((((((((((((((((((((h).2 c1)).2).2 c5)).2 c14)).2 c21)).2 c28)).2 c35)).2 c46)).2 c57)).2 c68)).2 c79)).2 c88)).2 c95)).2 c104)).2 c115)).2 c128)).2 c139)).2 c148)).2 c163)).2 c198)).2 c205)).1 c218)) (fun x108 s107 h219 => jq_I_con (h219) (fun x110 s109 h220 => ⟨fun c221 => ((h220).1 c221), fun c221 => ⟨by decide +kernel, ((h220).2 c221)⟩⟩)), fun c218 => ⟨fun c225 => jq_I_con ((((((((((((((((((((((((((((((((((((((((((((((h).2 c1)).2).2 c5)).2 c14)).2 c21)).2 c28)).2 c35)).2 c46)).2 c57)).2 c68)).2 c79)).2 c88)).2 c95)).2 c104)).2 c115)).2 c128)).2 c139)).2 c148)).2 c163)).2 c198)).2 c205)).2 c218)).1 c225)) (fun x113 s112 h226 => jq_I_con (h226) (fun x115 s114 h227 => ⟨fun c228 => ((h227).1 c228), fun c228 => ⟨by decide +kernel, ((h227).2 c228)⟩⟩)), fun c225 => ⟨fun c232 => ⟨((((((((((((((((((((((((((((((((((((((((((((((((h).2 c1)).2).2 c5)).2 c14)).2 c21)).2 c28)).2 c35)).2 c46)).2 c57)).2 c68)).2 c79)).2 c88)).2 c95)).2 c104)).2 c115)).2 c128)).2 c139)).2 c148)).2 c163)).2 c198)).2 c205)).2 c218)).2 c225)).1 c232)).1, jq_I_con (((((((((((((((((((((((((((((((((((((((((((((((((h).2 c1)).2).2 c5)).2 c14)).2 c21)).2 c28)).2 c35)).2 c46)).2 c57)).2 c68)).2 c79)).2 c88)).2 c95)).2 c104)).2 c115)).2 c128)).2 c139)).2 c148)).2 c163)).2 c198)).2 c205)).2 c218)).2 c225)).1 c232)).2) (fun x118 s117 h234 => ⟨(h234).1, jq_I_con ((h234).2) (fun x120 s119 h236 => ⟨fun c237 => ((h236).1 c237), fun c237 => ⟨by decide +kernel, ((h236).2 c237)⟩⟩)⟩)⟩, fun c232 => ⟨fun c241 => jq_L_con ((((((((((((((((((((((((((((((((((((((((((((((((((h).2 c1)).2).2 c5)).2 c14)).2 c21)).2 c28)).2 c35)).2 c46)).2 c57)).2 c68)).2 c79)).2 c88)).2 c95)).2 c104)).2 c115)).2 c128)).2 c139)).2 c148)).2 c163)).2 c198)).2 c205)).2 c218)).2 c225)).2 c232)).1 c241)) (fun x123 s122 h242 => jq_L_con (h242) (fun x125 s124 h243 => ⟨fun c244 => ((h243).1 c244), fun c244 => ⟨by decide +kernel, ((h243).2 c244)⟩⟩)), fun c241 => (((((((((((((((((((((((((((((((((((((((((((((((((h).2 c1)).2).2 c5)).2 c14)).2 c21)).2 c28)).2 c35)).2 c46)).2 c57)).2 c68)).2 c79)).2 c88)).2 c95)).2 c104)).2 c115)).2 c128)).2 c139)).2 c148)).2 c163)).2 c198)).2 c205)).2 c218)).2 c225)).2 c232)).2 c241)⟩⟩⟩⟩⟩⟩⟩⟩⟩⟩⟩⟩⟩⟩⟩⟩⟩⟩⟩⟩⟩⟩⟩⟩⟩)
end
section
/-! the class: sorts, whom to listen to, how soon, who should live where -/
section Out
variable {α : rA} {σ : jSt} {d : Nat} {k : Int32 → jSt → Prop}
/-- the sorts left behind the first n that is seen -/
def soN (α : rA) (p : Nat) : Nat → Nat
  | 0 => 1023
  | i + 1 => if α 9 i = p then (if α 11 i = 1 then soN α p i &&& spS (vo (α 0 2 + α 10 i)) (α 3 p) else soN α p i ^^^ (soN α p i &&& spS (vo (α 0 2 + α 10 i)) (α 3 p))) else soN α p i
theorem and_lt1024 {a b : Nat} (h : a < 1024) : a &&& b < 1024 := Nat.lt_of_le_of_lt Nat.and_le_left h
theorem xor_lt1024 {a b : Nat} (h : a < 1024) (h2 : b < 1024) : a ^^^ b < 1024 := Nat.xor_lt_two_pow (n := 10) h h2
theorem soN_lt (α : rA) (p : Nat) : ∀ n, soN α p n < 1024
  | 0 => by simp [soN]
  | i + 1 => by
    have := soN_lt α p i
    unfold soN
    split
    · split
      · exact and_lt1024 this
      · exact xor_lt1024 this (and_lt1024 this)
    · exact this
theorem w_sortsLeft (hV : rV α) (hX : rX 3 α σ) {post : jPo} {p : Nat} (hp : p < α 0 0) (h : post (some (.int (iI (soN α p (α 0 4) : Nat)))) σ) :
    ∀ (n i : Nat) (z : Option Value), i + n = α 0 4 → jv_wp (d + 3) post (29, 8, [some (.ref 11), some (.int (iI p)), some (.int (iI (α 3 p : Nat))), some (.int (iI (α 0 2 : Nat))), some (.int (iI (soN α p i : Nat))), some (.int (iI i)), z], [], σ) := by
  have h6 := hV.P
  have hs := hV.sz
  have htd := hV.td
  intro n
  induction n with
  | zero =>
    intro i z hi
    refine ok_X5_sortsLeft_L8 ⟨fun _ => ?_, fun c => absurd ?_ c⟩
    · rwa [show α 0 4 = i by omega] at h
    · rw [hX.sz, iI_le ⟨by omega, by omega⟩ ⟨by omega, by omega⟩]; omega
  | succ n ih =>
    intro i z hi
    have hv := hV.s (i := i) (by omega)
    have hc : (iI (i : Int)).toNatClampNeg = i := iI_clamp (by omega)
    have hin : vp_in (iI (i : Int)) 6 := (iI_in (by omega) 6).mpr (by omega)
    have ih := fun z => ih (i + 1) z (by omega)
    unfold soN at ih
    refine ok_X5_sortsLeft_L8 ⟨fun c => absurd c ?_, fun _ => ⟨hin, ?_⟩⟩
    · rw [hX.sz, iI_le ⟨by omega, by omega⟩ ⟨by omega, by omega⟩]; omega
    · rw [hc, hX.who (by omega), iI_eq ⟨by omega, by omega⟩ ⟨by omega, by omega⟩, hX.dys (by omega), iI_add, iI_add, show (i : Int) + 1 = ((i + 1 : Nat) : Int) by omega, show ((α 0 2 : Nat) : Int) + ((α 10 i : Nat) : Int) = ((α 0 2 + α 10 i : Nat) : Int) by omega]
      refine ⟨fun c => ?_, fun c => ⟨hin, q_voicesOn (by omega) (q_speaking (hV.p hp).2.2.1 ⟨hin, ?_⟩)⟩⟩
      · rw [if_neg (by omega)] at ih; exact ih _
      · rw [if_pos (by omega)] at ih
        rw [hX.spo (by omega), iI_eq0 ⟨by omega, by omega⟩]
        dsimp only
        rw [iI_andn, iI_and, iI_xor]
        refine ⟨fun c2 => ?_, fun c2 => ?_⟩
        · rw [if_neg (by omega)] at ih; exact ih _
        · rw [if_pos (by omega)] at ih; exact ih _
theorem q_possibleSorts (hV : rV α) (hX : rX 3 α σ) {p : Nat} (hp : p < α 0 0) (h : k (iI (soN α p (α 0 4) : Nat)) σ) : jq_I (d + 4) 44 [.ref 3, .int (iI p)] σ k := by
  refine ok_X7_possibleSorts (q_bankOf hV hX hp ?_)
  rw [hX.td]
  exact ok_X5_sortsLeft (w_sortsLeft hV hX hp ⟨_, rfl, _, rfl, h⟩ (α 0 4) 0 none (by omega))
theorem pcN_split (s S : Nat) : ∀ n, pcN n (s ^^^ (s &&& S)) + pcN n (s &&& S) = pcN n s
  | 0 => rfl
  | n + 1 => by
    have ih := pcN_split s S n
    unfold pcN
    have : (s ^^^ (s &&& S)) / 2 ^ n % 2 + (s &&& S) / 2 ^ n % 2 = s / 2 ^ n % 2 := by
      rw [tb_mod, tb_mod, tb_mod, Nat.testBit_xor, Nat.testBit_and]
      cases s.testBit n <;> cases S.testBit n <;> rfl
    omega
theorem pcN_le (s : Nat) : ∀ n, pcN n s ≤ n
  | 0 => Nat.le_refl 0
  | n + 1 => by
    have := pcN_le s n
    unfold pcN
    omega
/-- of these sorts so many are left at worst -/
def liW (α : rA) (p s n : Nat) : Nat :=
  let y := pcN 12 (s &&& spS (vo (α 0 2 + n)) (α 3 p))
  if y < pcN 12 s - y then pcN 12 s - y else y
def liM (α : rA) (p s c : Nat) : Nat → Nat
  | 0 => c
  | n + 1 => if liW α p s n < liM α p s c n then liW α p s n else liM α p s c n
def liB (α : rA) (p s c : Nat) : Nat → Nat
  | 0 => 0
  | n + 1 => if liW α p s n < liM α p s c n then n else liB α p s c n
theorem liW_le (α : rA) (p s n : Nat) : liW α p s n ≤ 12 := by
  have h1 := pcN_le s 12
  have h2 := pcN_le (s &&& spS (vo (α 0 2 + n)) (α 3 p)) 12
  unfold liW
  dsimp only
  split <;> omega
theorem liM_le (α : rA) (p s c : Nat) : ∀ n, liM α p s c n ≤ c
  | 0 => Nat.le_refl _
  | n + 1 => by
    have := liM_le α p s c n
    unfold liM
    split <;> omega
theorem liB_lt (α : rA) (p s c : Nat) : ∀ n, liB α p s c n ≤ n
  | 0 => Nat.le_refl _
  | n + 1 => by
    have := liB_lt α p s c n
    unfold liB
    split <;> omega
theorem w_listen (hV : rV α) (hX : rX 3 α σ) {post : jPo} {p s : Nat} (hp : p < α 0 0) (hs : s < 1024) (h : post (some (.int (iI (liB α p s 1023 32 : Nat)))) σ) :
    ∀ (n i : Nat) (z7 z8 : Option Value), i + n = 32 → jv_wp (d + 3) post (45, 29, [some (.ref 3), some (.int (iI p)), some (.int (iI s)), some (.int (iI (α 3 p : Nat))), some (.int (iI (liM α p s 1023 i : Nat))), some (.int (iI (liB α p s 1023 i : Nat))), some (.int (iI i)), z7, z8], [], σ) := by
  have htd := hV.td
  intro n
  induction n with
  | zero =>
    intro i z7 z8 hi
    refine ok_X7_dayToListen_L29 ⟨fun _ => ?_, fun c => absurd ?_ c⟩
    · rwa [show 32 = i by omega] at h
    · rw [iI_lt ⟨by omega, by omega⟩ ⟨by omega, by omega⟩]; omega
  | succ n ih =>
    intro i z7 z8 hi
    have ih := fun z7 z8 => ih (i + 1) z7 z8 (by omega)
    unfold liM liB at ih
    have hm := liM_le α p s 1023 i
    have hw := liW_le α p s i
    have hb := (hV.p hp).2.2.1
    refine ok_X7_dayToListen_L29 ⟨fun c => absurd c ?_, fun _ => ?_⟩
    · rw [iI_lt ⟨by omega, by omega⟩ ⟨by omega, by omega⟩]; omega
    · rw [hX.td, iI_add, show ((α 0 2 : Nat) : Int) + (i : Int) = ((α 0 2 + i : Nat) : Int) by omega]
      refine q_voicesOn (by omega) (q_speaking hb ?_)
      rw [iI_andn, iI_and, iI_xor]
      refine q_bitCount (and_lt1024 hs) (q_bitCount (xor_lt1024 hs (and_lt1024 hs)) ?_)
      have hsp := pcN_split s (spS (vo (α 0 2 + i)) (α 3 p)) 12
      have hl := pcN_le s 12
      have e : (if iI ((pcN 12 (s &&& spS (vo (α 0 2 + i)) (α 3 p)) : Nat) : Int) < iI ((pcN 12 (s ^^^ (s &&& spS (vo (α 0 2 + i)) (α 3 p))) : Nat) : Int) then iI ((pcN 12 (s ^^^ (s &&& spS (vo (α 0 2 + i)) (α 3 p))) : Nat) : Int) else iI ((pcN 12 (s &&& spS (vo (α 0 2 + i)) (α 3 p)) : Nat) : Int)) = iI ((liW α p s i : Nat) : Int) := by
        unfold liW
        dsimp only
        by_cases c : pcN 12 (s &&& spS (vo (α 0 2 + i)) (α 3 p)) < pcN 12 s - pcN 12 (s &&& spS (vo (α 0 2 + i)) (α 3 p))
        · rw [if_pos c, if_pos (by rw [iI_lt ⟨by omega, by omega⟩ ⟨by omega, by omega⟩]; omega)]; exact congrArg iI (by omega)
        · rw [if_neg c, if_neg (by rw [iI_lt ⟨by omega, by omega⟩ ⟨by omega, by omega⟩]; omega)]
      rw [e]
      dsimp only
      rw [iI_le ⟨by omega, by omega⟩ ⟨by omega, by omega⟩, iI_add, show (i : Int) + 1 = ((i + 1 : Nat) : Int) by omega]
      refine ⟨fun c => ?_, fun c => ?_⟩
      · rw [if_neg (by omega), if_neg (by omega)] at ih; exact ih _ _
      · rw [if_pos (by omega), if_pos (by omega)] at ih; exact ih _ _
/-- whom .. when to listen; -1: there are no sorts -/
def lsN (α : rA) (p : Nat) : Int := if soN α p (α 0 4) = 0 then -1 else (liB α p (soN α p (α 0 4)) 1023 32 : Int)
theorem q_dayToListen (hV : rV α) (hX : rX 3 α σ) {p : Nat} (hp : p < α 0 0) (h : k (iI (lsN α p)) σ) : jq_I (d + 5) 45 [.ref 3, .int (iI p)] σ k := by
  have hs := soN_lt α p (α 0 4)
  refine ok_X7_dayToListen (q_possibleSorts hV hX hp ?_)
  rw [iI_eq0 ⟨by omega, by omega⟩]
  unfold lsN at h
  refine ⟨fun c => q_bankOf hV hX hp ?_, fun c => ?_⟩
  · rw [if_neg (by omega)] at h
    exact w_listen hV hX hp hs ⟨_, rfl, h⟩ 32 0 none none (by omega)
  · rw [if_pos (by omega)] at h; exact ⟨_, rfl, h⟩
/-- how soon, from day i on; -1 -/
def snN (α : rA) (m : Nat) : Nat → Nat → Nat → Int
  | 0, _, _ => -1
  | n + 1, i, a => if cbs α m a (α 0 2 + i) then (if a = 0 then snN α m n (i + 1) (α 0 2 + i + 2) else (i : Int)) else snN α m n (i + 1) a
theorem snN_1 (α : rA) (m : Nat) : ∀ n i, snN α m n i 1 = -1
  | 0, _ => rfl
  | n + 1, i => by
    unfold snN
    rw [show cbs α m 1 (α 0 2 + i) = false by simp [cbs]]
    exact snN_1 α m n (i + 1)
theorem w_soonest (hV : rV α) (hX : rX 3 α σ) {post : jPo} {m : Nat} (hm : m < α 0 1) :
    ∀ (n i a : Nat) (z : Option Value), i + n = 71 → a < 5000 → post (some (.int (iI (snN α m n i a)))) σ → jv_wp (d + 5) post (9, 9, [some (.ref 3), some (.int (iI m)), some (.int (iI (zA a))), some (.int (iI i)), z], [], σ) := by
  have htd := hV.td
  intro n
  induction n with
  | zero =>
    intro i a z hi ha h
    refine ok_X2_soonest_L9 ⟨fun _ => ?_, fun c => absurd ?_ c⟩
    · exact h
    · rw [iI_lt ⟨by omega, by omega⟩ ⟨by omega, by omega⟩]; omega
  | succ n ih =>
    intro i a z hi ha h
    refine ok_X2_soonest_L9 ⟨fun c => absurd c ?_, fun _ => ?_⟩
    · rw [iI_lt ⟨by omega, by omega⟩ ⟨by omega, by omega⟩]; omega
    · rw [iI_eq (zA_R (by omega)) ⟨by omega, by omega⟩, iI_eq (zA_R (by omega)) ⟨by omega, by omega⟩, zA_0, zA_1]
      refine ⟨fun c => ?_, fun c => ?_⟩
      · subst c
        rw [snN_1] at h
        exact h
      · rw [hX.td, iI_add, show ((α 0 2 : Nat) : Int) + (i : Int) = ((α 0 2 + i : Nat) : Int) by omega]
        refine q_speakersOn hV hX (by omega) (q_canBeSaid hV hX hm (by omega) (by omega) ?_)
        dsimp only
        rw [iI_add, show (i : Int) + 1 = ((i + 1 : Nat) : Int) by omega, jb_0]
        unfold snN at h
        refine ⟨fun c2 => ?_, fun c2 => ⟨fun c3 => ?_, fun c3 => ?_⟩⟩
        · rw [c2] at h
          exact ih (i + 1) a _ (by omega) ha h
        · rw [if_pos (by simpa using c2), if_pos c3] at h
          have := ih (i + 1) (α 0 2 + i + 2) (some (.int (iI ((α 0 2 + i : Nat) : Int)))) (by omega) (by omega) h
          rw [zA_2 (by omega), show ((α 0 2 + i + 2 : Nat) : Int) - 2 = ((α 0 2 + i : Nat) : Int) by omega] at this
          exact this
        · rw [if_pos (by simpa using c2), if_neg c3] at h; exact h
theorem q_soonest (hV : rV α) (hX : rX 3 α σ) {m : Nat} (hm : m < α 0 1) (h : k (iI (snN α m 71 0 (α 8 m))) σ) : jq_I (d + 5) 9 [.ref 3, .int (iI m)] σ k := by
  have h5 := hV.M
  have htd := hV.td
  have hv := hV.m hm
  have hc : (iI (m : Int)).toNatClampNeg = m := iI_clamp (by omega)
  have hin : vp_in (iI (m : Int)) 5 := (iI_in (by omega) 5).mpr (by omega)
  refine ok_X2_soonest ⟨hin, ?_⟩
  rw [hc, hX.st hm]
  exact w_soonest hV hX hm 71 0 _ none (by omega) (by omega) ⟨_, rfl, h⟩
/-- how many that are open can be asked by those of s1 and answered by those of s2 -/
def sbF (α : rA) (s1 s2 : Nat) (m : Nat) : Bool := α 8 m == 0 && (s1.testBit (α 5 m) && s2.testBit (α 6 m))
theorem w_settledBy (hV : rV α) (hX : rX 3 α σ) {post : jPo} {s1 s2 : Nat} (h1 : s1 < 64) (h2 : s2 < 64) (h : post (some (.int (iI (cnN (sbF α s1 s2) (α 0 1) : Nat)))) σ) :
    ∀ (n m : Nat) (z : Option Value), m + n = α 0 1 → jv_wp (d + 1) post (12, 5, [some (.ref 3), some (.int (iI s1)), some (.int (iI s2)), some (.int (iI (cnN (sbF α s1 s2) m : Nat))), some (.int (iI m)), z], [], σ) := by
  have h5 := hV.M
  have h6 := hV.P
  have htd := hV.td
  intro n
  induction n with
  | zero =>
    intro m z hm
    refine ok_X2_settledBy_L5 ⟨fun _ => ?_, fun c => absurd ?_ c⟩
    · rwa [show α 0 1 = m by omega] at h
    · rw [hX.M, iI_le ⟨by omega, by omega⟩ ⟨by omega, by omega⟩]; omega
  | succ n ih =>
    intro m z hm
    have ih := fun z => ih (m + 1) z (by omega)
    unfold cnN at ih
    have hv := hV.m (m := m) (by omega)
    have hc : (iI (m : Int)).toNatClampNeg = m := iI_clamp (by omega)
    have hin : vp_in (iI (m : Int)) 5 := (iI_in (by omega) 5).mpr (by omega)
    refine ok_X2_settledBy_L5 ⟨fun c => absurd c ?_, fun _ => ⟨hin, ?_⟩⟩
    · rw [hX.M, iI_le ⟨by omega, by omega⟩ ⟨by omega, by omega⟩]; omega
    · rw [hc, hX.st (by omega), hX.ak (by omega), hX.aw (by omega), iI_eq (zA_R (by omega)) ⟨by omega, by omega⟩, zA_0, iI_bit (by omega) (by omega), iI_bit (by omega) (by omega), jb_1, jb_1, iI_add, iI_add, show (m : Int) + 1 = ((m + 1 : Nat) : Int) by omega]
      unfold sbF at ih
      refine ⟨fun c => ?_, fun c => ⟨hin, fun c2 => ?_, fun c2 => ⟨hin, fun c3 => ?_, fun c3 => ?_⟩⟩⟩
      · rw [if_neg (by simp [c])] at ih; exact ih _
      · rw [if_neg (by simp [c2])] at ih; exact ih _
      · rw [if_neg (by simp [c3])] at ih; exact ih _
      · rw [if_pos (by simp [c, c2, c3])] at ih; exact ih _
theorem q_settledBy (hV : rV α) (hX : rX 3 α σ) {s1 s2 : Nat} (h1 : s1 < 64) (h2 : s2 < 64) (h : k (iI (cnN (sbF α s1 s2) (α 0 1) : Nat)) σ) : jq_I (d + 1) 12 [.ref 3, .int (iI s1), .int (iI s2)] σ k :=
  ok_X2_settledBy (w_settledBy hV hX h1 h2 ⟨_, rfl, h⟩ (α 0 1) 0 none (by omega))
theorem spI_lt (hV : rV α) (dy r : Nat) : spI α dy r < 64 := lt64 (bsN_lt _ _) hV.P
/-- how many would be settled by tomorrow, these on the right -/
def lvF (α : rA) (r : Nat) : Nat := cnN (sbF α (spI α (α 0 2) r) (spI α (α 0 2 + 1) r)) (α 0 1)
def lvD (α : rA) (r : Nat) : Nat := pcN 12 (r ^^^ rt α)
def lvW (α : rA) (r : Nat) : Nat := 10 * lvF α r + 6 - lvD α r
def lvC (α : rA) : Nat → Nat
  | 0 => 0
  | n + 1 => if n = 0 then 0 else if lvW α (lvC α n) < lvW α n then n else lvC α n
theorem q_settledByTomorrow (hV : rV α) (hX : rX 3 α σ) {r : Nat} (hr : r < 64) (h : k (iI (lvF α r : Nat)) σ) : jq_I (d + 4) 11 [.ref 3, .int (iI r)] σ k := by
  have htd := hV.td
  refine ok_X2_settledByTomorrow ?_
  unfold vc_X2_settledByTomorrow
  rw [hX.td]
  refine q_speakersIf hV hX (by omega) (by omega) ?_
  rw [hX.td, iI_add, show ((α 0 2 : Nat) : Int) + 1 = ((α 0 2 + 1 : Nat) : Int) by omega]
  exact q_speakersIf hV hX (by omega) (by omega) (q_settledBy hV hX (spI_lt hV _ _) (spI_lt hV _ _) ⟨_, rfl, h⟩)
theorem spI_mix (α : rA) (dy r : Nat) (hr : r < 2 ^ α 0 0) : (spI α dy 0 ^^^ (spI α dy 0 &&& r)) ||| (spI α dy (2 ^ α 0 0 - 1) &&& r) = spI α dy r := by
  apply Nat.eq_of_testBit_eq
  intro i
  unfold spI
  rw [Nat.testBit_or, Nat.testBit_xor, Nat.testBit_and, Nat.testBit_and, bsN_bit, bsN_bit, bsN_bit, Nat.zero_testBit, Nat.testBit_two_pow_sub_one]
  by_cases c : i < α 0 0
  · simp only [c, decide_true, Bool.true_and, if_true]
    cases r.testBit i <;> simp
  · simp [c]
theorem pc_x64 : ∀ a : Nat, a < 64 → pcN 12 a ≤ 6 := by decide +kernel
theorem lvD_le (hV : rV α) {r : Nat} (hr : r < 64) : lvD α r ≤ 6 := by
  have h := lt64 (rt_lt α) hV.P
  exact pc_x64 _ (Nat.xor_lt_two_pow (n := 6) hr h)
theorem lvF_le (hV : rV α) (r : Nat) : lvF α r ≤ 5 := Nat.le_trans (cnN_le _ _) hV.M
theorem lvC_lt (α : rA) : ∀ n, 0 < n → lvC α n < n
  | 0, h => absurd h (by omega)
  | n + 1, _ => by
    unfold lvC
    split
    · omega
    · have := lvC_lt α n (by omega)
      split <;> omega
theorem w_bestHomes (hV : rV α) (hX : rX 3 α σ) {post : jPo} (h : post (some (.int (iI (lvC α (2 ^ α 0 0) : Nat)))) σ) :
    ∀ (n r : Nat) (z10 z11 z12 z13 : Option Value) (mo few ch : Int32), r + n = 2 ^ α 0 0 → (r = 0 → mo = iI (-1)) → (0 < r → ch = iI (lvC α r : Nat) ∧ mo = iI (lvF α (lvC α r) : Nat) ∧ few = iI (lvD α (lvC α r) : Nat)) →
      jv_wp (d + 2) post (10, 70, [some (.ref 3), some (.int (iI ((2 ^ α 0 0 - 1 : Nat) : Int))), some (.int (iI (spI α (α 0 2) 0 : Nat))), some (.int (iI (spI α (α 0 2) (2 ^ α 0 0 - 1) : Nat))), some (.int (iI (spI α (α 0 2 + 1) 0 : Nat))), some (.int (iI (spI α (α 0 2 + 1) (2 ^ α 0 0 - 1) : Nat))), some (.int ch), some (.int mo), some (.int few), some (.int (iI r)), z10, z11, z12, z13], [], σ) := by
  have h6 := hV.P
  have hp6 : 2 ^ α 0 0 ≤ 64 := Nat.le_trans (Nat.pow_le_pow_right (by omega) h6) (show 2 ^ 6 ≤ 64 by decide)
  have hp0 : 0 < 2 ^ α 0 0 := Nat.two_pow_pos _
  have hrt := lt64 (rt_lt α) h6
  intro n
  induction n with
  | zero =>
    intro r z10 z11 z12 z13 mo few ch hr h0 h1
    refine ok_X2_bestHomes_L70 ⟨fun _ => ?_, fun c => absurd ?_ c⟩
    · rw [(h1 (by omega)).1, show r = 2 ^ α 0 0 by omega]; exact h
    · rw [iI_lt ⟨by omega, by omega⟩ ⟨by omega, by omega⟩]; omega
  | succ n ih =>
    intro r z10 z11 z12 z13 mo few ch hr h0 h1
    refine ok_X2_bestHomes_L70 ⟨fun c => absurd c ?_, fun _ => ?_⟩
    · rw [iI_lt ⟨by omega, by omega⟩ ⟨by omega, by omega⟩]; omega
    · rw [iI_andn, iI_andn, iI_and, iI_and, iI_and, iI_and, iI_xor, iI_xor, iI_or, iI_or, spI_mix α _ r (by omega), spI_mix α _ r (by omega)]
      refine q_settledBy hV hX (spI_lt hV _ _) (spI_lt hV _ _) ?_
      rw [hX.rt, iI_xor]
      refine q_bitCount (Nat.lt_trans (Nat.xor_lt_two_pow (n := 6) (show r < 64 by omega) hrt) (by omega)) ?_
      have e1 : cnN (sbF α (spI α (α 0 2) r) (spI α (α 0 2 + 1) r)) (α 0 1) = lvF α r := rfl
      have e2 : pcN 12 (r ^^^ rt α) = lvD α r := rfl
      rw [e1, e2]
      dsimp only
      rw [iI_add, show (r : Int) + 1 = ((r + 1 : Nat) : Int) by omega]
      have hF := lvF_le hV r
      have hD := lvD_le hV (r := r) (by omega)
      by_cases c0 : r = 0
      · subst c0
        rw [h0 rfl]
        refine ⟨fun _ => ?_, fun c => absurd ?_ c⟩
        · exact ih 1 _ _ _ _ _ _ _ (by omega) (fun h => absurd h (by omega)) (fun _ => ⟨rfl, rfl, rfl⟩)
        · rw [iI_lt ⟨by omega, by omega⟩ ⟨by omega, by omega⟩]; omega
      · obtain ⟨g1, g2, g3⟩ := h1 (by omega)
        have hc := lvC_lt α r (by omega)
        have hF' := lvF_le hV (lvC α r)
        have hD' := lvD_le hV (r := lvC α r) (by omega)
        have ec : lvC α (r + 1) = if lvW α (lvC α r) < lvW α r then r else lvC α r := by
          rw [lvC, if_neg c0]
        unfold lvW at ec
        rw [g1, g2, g3, iI_lt ⟨by omega, by omega⟩ ⟨by omega, by omega⟩, iI_eq ⟨by omega, by omega⟩ ⟨by omega, by omega⟩, iI_le ⟨by omega, by omega⟩ ⟨by omega, by omega⟩]
        have yes : 10 * lvF α (lvC α r) + 6 - lvD α (lvC α r) < 10 * lvF α r + 6 - lvD α r → ∀ z10 z11 z12 z13, jv_wp (d + 2) post (10, 70, [some (.ref 3), some (.int (iI ((2 ^ α 0 0 - 1 : Nat) : Int))), some (.int (iI (spI α (α 0 2) 0 : Nat))), some (.int (iI (spI α (α 0 2) (2 ^ α 0 0 - 1) : Nat))), some (.int (iI (spI α (α 0 2 + 1) 0 : Nat))), some (.int (iI (spI α (α 0 2 + 1) (2 ^ α 0 0 - 1) : Nat))), some (.int (iI r)), some (.int (iI (lvF α r : Nat))), some (.int (iI (lvD α r : Nat))), some (.int (iI ((r + 1 : Nat) : Int))), z10, z11, z12, z13], [], σ) := by
          intro hw z10 z11 z12 z13
          rw [if_pos hw] at ec
          refine ih (r + 1) _ _ _ _ _ _ _ (by omega) (fun h => absurd h (by omega)) (fun _ => ?_)
          rw [ec]; exact ⟨rfl, rfl, rfl⟩
        have no : ¬ 10 * lvF α (lvC α r) + 6 - lvD α (lvC α r) < 10 * lvF α r + 6 - lvD α r → ∀ z10 z11 z12 z13, jv_wp (d + 2) post (10, 70, [some (.ref 3), some (.int (iI ((2 ^ α 0 0 - 1 : Nat) : Int))), some (.int (iI (spI α (α 0 2) 0 : Nat))), some (.int (iI (spI α (α 0 2) (2 ^ α 0 0 - 1) : Nat))), some (.int (iI (spI α (α 0 2 + 1) 0 : Nat))), some (.int (iI (spI α (α 0 2 + 1) (2 ^ α 0 0 - 1) : Nat))), some (.int (iI (lvC α r : Nat))), some (.int (iI (lvF α (lvC α r) : Nat))), some (.int (iI (lvD α (lvC α r) : Nat))), some (.int (iI ((r + 1 : Nat) : Int))), z10, z11, z12, z13], [], σ) := by
          intro hw z10 z11 z12 z13
          rw [if_neg hw] at ec
          refine ih (r + 1) _ _ _ _ _ _ _ (by omega) (fun h => absurd h (by omega)) (fun _ => ?_)
          rw [ec]; exact ⟨rfl, rfl, rfl⟩
        refine ⟨fun c => yes (by omega) _ _ _ _, fun c => ⟨fun c2 => no (by omega) _ _ _ _, fun c2 => ⟨fun c3 => no (by omega) _ _ _ _, fun c3 => yes (by omega) _ _ _ _⟩⟩⟩
theorem q_bestHomes (hV : rV α) (hX : rX 3 α σ) (h : k (iI (lvC α (2 ^ α 0 0) : Nat)) σ) : jq_I (d + 4) 10 [.ref 3] σ k := by
  have h6 := hV.P
  have htd := hV.td
  have hp6 : 2 ^ α 0 0 ≤ 64 := Nat.le_trans (Nat.pow_le_pow_right (by omega) h6) (show 2 ^ 6 ≤ 64 by decide)
  have hp0 : 0 < 2 ^ α 0 0 := Nat.two_pow_pos _
  have e1 : iI 1 <<< (iI ((α 0 0 : Nat) : Int) &&& 31) - iI 1 = iI ((2 ^ α 0 0 - 1 : Nat) : Int) := by
    rw [show (iI 1 : Int32) = iI ((1 : Nat) : Int) from rfl, iI_shl (by omega) (by omega), Nat.one_mul, iI_sub]; exact congrArg iI (by omega)
  refine ok_X2_bestHomes ?_
  unfold vc_X2_bestHomes
  rw [hX.P, e1, hX.td, show (iI 0 : Int32) = iI ((0 : Nat) : Int) from rfl]
  refine q_speakersIf hV hX (by omega) (by omega) ?_
  rw [hX.td]
  refine q_speakersIf hV hX (by omega) (by omega) ?_
  rw [hX.td, iI_add, show ((α 0 2 : Nat) : Int) + 1 = ((α 0 2 + 1 : Nat) : Int) by omega]
  refine q_speakersIf hV hX (by omega) (by omega) ?_
  rw [hX.td, iI_add, show ((α 0 2 : Nat) : Int) + 1 = ((α 0 2 + 1 : Nat) : Int) by omega]
  refine q_speakersIf hV hX (by omega) (by omega) ?_
  exact w_bestHomes hV hX ⟨_, rfl, h⟩ (2 ^ α 0 0) 0 _ _ _ _ _ _ _ (by omega) (fun _ => rfl) (fun h => absurd h (by omega))
end Out
end
section
/-! the reference: its picture, its calendar, who speaks -/
section JE
/-- nothing but S has changed -/
def eS (S : Nat → Nat → Prop) (σ σ' : jSt) : Prop := σ'.2 = σ.2 ∧ ∀ c k, ¬ S c k → σ'.1 c k = σ.1 c k
theorem eS.rf {S : Nat → Nat → Prop} {σ : jSt} : eS S σ σ := ⟨rfl, fun _ _ _ => rfl⟩
theorem eS.tr {S : Nat → Nat → Prop} {σ σ1 σ2 : jSt} (h1 : eS S σ σ1) (h2 : eS S σ1 σ2) : eS S σ σ2 := ⟨h2.1.trans h1.1, fun c k h => (h2.2 c k h).trans (h1.2 c k h)⟩
theorem eS.wk {S T : Nat → Nat → Prop} {σ σ' : jSt} (h : eS S σ σ') (hST : ∀ c k, S c k → T c k) : eS T σ σ' := ⟨h.1, fun c k n => h.2 c k (fun q => n (hST c k q))⟩
theorem jv_u_at {σ : jSt} {c k c' k' : Nat} {x : Int32} : (jv_u σ c k x).1 c' k' = if c' = c ∧ k' = k then x else σ.1 c' k' := by
  unfold jv_u jv_a upd
  by_cases h1 : c' = c
  · subst h1
    by_cases h2 : k' = k
    · simp [h2]
    · simp [h2]
  · simp [h1]
theorem jv_u_2 {σ : jSt} {c k : Nat} {x : Int32} : (jv_u σ c k x).2 = σ.2 := rfl
theorem eS.u {S : Nat → Nat → Prop} {σ : jSt} {c k : Nat} {x : Int32} (h : S c k) : eS S σ (jv_u σ c k x) := by
  refine ⟨rfl, fun c' k' n => ?_⟩
  rw [jv_u_at, if_neg]
  rintro ⟨rfl, rfl⟩
  exact n h
/-- the laid date -/
def dS (c k : Nat) : Prop := c = 34 ∧ (k = 17 ∨ k = 18 ∨ k = 19)
/-- how matters stand then -/
def tS (c _k : Nat) : Prop := c = 45 ∨ c = 46
/-- all that the reference only uses within a call -/
def mS (c k : Nat) : Prop := c = 34 ∧ (k = 2 ∨ k = 17 ∨ k = 18 ∨ k = 19 ∨ k = 26) ∨ c = 45 ∨ c = 46 ∨ c = 47
def dtS (c k : Nat) : Prop := dS c k ∨ tS c k
theorem dS_m (c k : Nat) (h : dS c k) : mS c k := by unfold dS at h; unfold mS; omega
theorem tS_m (c k : Nat) (h : tS c k) : mS c k := by unfold tS at h; unfold mS; omega
theorem dtS_m (c k : Nat) (h : dtS c k) : mS c k := h.elim (dS_m c k) (tS_m c k)
theorem dS_dt (c k : Nat) (h : dS c k) : dtS c k := Or.inl h
theorem tS_dt (c k : Nat) (h : tS c k) : dtS c k := Or.inr h
end JE
/-- the reference's river -/
def rM (α : rA) (σ : jSt) : Prop :=
  σ.1 34 3 = iI (α 0 0 : Nat) ∧ σ.1 34 4 = iI (α 0 1 : Nat) ∧ σ.1 34 5 = iI (α 0 2 : Nat) ∧ σ.1 34 24 = iI (α 0 4 : Nat) ∧
  (∀ p, p < α 0 0 → σ.1 36 p = iI (α 1 p : Nat) ∧ σ.1 37 p = iI (α 2 p : Nat) ∧ σ.1 38 p = iI (α 3 p : Nat) ∧ σ.1 39 p = iI (α 4 p : Nat)) ∧
  (∀ m, m < α 0 1 → σ.1 40 m = iI (α 5 m : Nat) ∧ σ.1 41 m = iI (α 6 m : Nat) ∧ σ.1 42 m = iI (α 7 m : Nat) ∧ σ.1 43 m = iI (stN (α 8 m) : Nat) ∧ (2 ≤ α 8 m → σ.1 44 m = iI ((α 8 m : Int) - 2))) ∧
  (∀ i, i < α 0 4 → σ.1 48 (3 * i) = iI (α 9 i : Nat) ∧ σ.1 48 (3 * i + 1) = iI (α 10 i : Nat) ∧ σ.1 48 (3 * i + 2) = iI (α 11 i : Nat))
/-- how matters stand then -/
def rT (a : Nat → Nat) (M : Nat) (σ : jSt) : Prop := ∀ m, m < M → σ.1 45 m = iI (stN (a m) : Nat) ∧ (2 ≤ a m → σ.1 46 m = iI ((a m : Int) - 2))
section RM
variable {α : rA} {σ σ' : jSt}
theorem rM.P (h : rM α σ) : σ.1 34 3 = iI (α 0 0 : Nat) := h.1
theorem rM.M (h : rM α σ) : σ.1 34 4 = iI (α 0 1 : Nat) := h.2.1
theorem rM.td (h : rM α σ) : σ.1 34 5 = iI (α 0 2 : Nat) := h.2.2.1
theorem rM.sz (h : rM α σ) : σ.1 34 24 = iI (α 0 4 : Nat) := h.2.2.2.1
theorem rM.kd (h : rM α σ) {p : Nat} (hp : p < α 0 0) : σ.1 36 p = iI (α 1 p : Nat) := (h.2.2.2.2.1 p hp).1
theorem rM.bn (h : rM α σ) {p : Nat} (hp : p < α 0 0) : σ.1 37 p = iI (α 2 p : Nat) := (h.2.2.2.2.1 p hp).2.1
theorem rM.bk (h : rM α σ) {p : Nat} (hp : p < α 0 0) : σ.1 38 p = iI (α 3 p : Nat) := (h.2.2.2.2.1 p hp).2.2.1
theorem rM.me (h : rM α σ) {p : Nat} (hp : p < α 0 0) : σ.1 39 p = iI (α 4 p : Nat) := (h.2.2.2.2.1 p hp).2.2.2
theorem rM.ak (h : rM α σ) {m : Nat} (hm : m < α 0 1) : σ.1 40 m = iI (α 5 m : Nat) := (h.2.2.2.2.2.1 m hm).1
theorem rM.aw (h : rM α σ) {m : Nat} (hm : m < α 0 1) : σ.1 41 m = iI (α 6 m : Nat) := (h.2.2.2.2.2.1 m hm).2.1
theorem rM.wo (h : rM α σ) {m : Nat} (hm : m < α 0 1) : σ.1 42 m = iI (α 7 m : Nat) := (h.2.2.2.2.2.1 m hm).2.2.1
theorem rM.st (h : rM α σ) {m : Nat} (hm : m < α 0 1) : σ.1 43 m = iI (stN (α 8 m) : Nat) := (h.2.2.2.2.2.1 m hm).2.2.2.1
theorem rM.on (h : rM α σ) {m : Nat} (hm : m < α 0 1) (h2 : 2 ≤ α 8 m) : σ.1 44 m = iI ((α 8 m : Int) - 2) := (h.2.2.2.2.2.1 m hm).2.2.2.2 h2
theorem rM.see (h : rM α σ) {i : Nat} (hi : i < α 0 4) : σ.1 48 (3 * i) = iI (α 9 i : Nat) ∧ σ.1 48 (3 * i + 1) = iI (α 10 i : Nat) ∧ σ.1 48 (3 * i + 2) = iI (α 11 i : Nat) := h.2.2.2.2.2.2 i hi
theorem rM.mv (h : rM α σ) (e : eS mS σ σ') : rM α σ' := by
  have ek : ∀ c k, ¬ mS c k → σ'.1 c k = σ.1 c k := e.2
  obtain ⟨h1, h2, h3, h4, h5, h6, h7⟩ := h
  refine ⟨?_, ?_, ?_, ?_, fun p hp => ?_, fun m hm => ?_, fun i hi => ?_⟩
  · rw [ek _ _ (by unfold mS; omega)]; exact h1
  · rw [ek _ _ (by unfold mS; omega)]; exact h2
  · rw [ek _ _ (by unfold mS; omega)]; exact h3
  · rw [ek _ _ (by unfold mS; omega)]; exact h4
  · rw [ek _ _ (by unfold mS; omega), ek _ _ (by unfold mS; omega), ek _ _ (by unfold mS; omega), ek _ _ (by unfold mS; omega)]; exact h5 p hp
  · rw [ek _ _ (by unfold mS; omega), ek _ _ (by unfold mS; omega), ek _ _ (by unfold mS; omega), ek _ _ (by unfold mS; omega), ek _ _ (by unfold mS; omega)]; exact h6 m hm
  · rw [ek _ _ (by unfold mS; omega), ek _ _ (by unfold mS; omega), ek _ _ (by unfold mS; omega)]; exact h7 i hi
theorem rT.mv {a : Nat → Nat} {M : Nat} (h : rT a M σ) (e : eS dS σ σ') : rT a M σ' := by
  intro m hm
  rw [e.2 _ _ (by unfold dS; omega), e.2 _ _ (by unfold dS; omega)]
  exact h m hm
theorem rX.mv {w : Nat} (hw : w ≤ 15) (h : rX w α σ) (e : eS mS σ σ') : rX w α σ' := by
  have ek : ∀ c k, ¬ mS c k → σ'.1 c k = σ.1 c k := e.2
  obtain ⟨h1, h2, h3, h4, h5, h6, h7, h8⟩ := h
  refine ⟨?_, ?_, ?_, ?_, ?_, fun p hp => ?_, fun m hm => ?_, fun i hi => ?_⟩
  · rw [ek _ _ (by unfold mS; omega)]; exact h1
  · rw [ek _ _ (by unfold mS; omega)]; exact h2
  · rw [ek _ _ (by unfold mS; omega)]; exact h3
  · rw [ek _ _ (by unfold mS; omega)]; exact h4
  · rw [ek _ _ (by unfold mS; omega)]; exact h5
  · rw [ek _ _ (by unfold mS; omega), ek _ _ (by unfold mS; omega), ek _ _ (by unfold mS; omega)]; exact h6 p hp
  · rw [ek _ _ (by unfold mS; omega), ek _ _ (by unfold mS; omega), ek _ _ (by unfold mS; omega), ek _ _ (by unfold mS; omega)]; exact h7 m hm
  · rw [ek _ _ (by unfold mS; omega), ek _ _ (by unfold mS; omega), ek _ _ (by unfold mS; omega)]; exact h8 i hi
end RM
section MCal
variable {α : rA} {σ : jSt} {d : Nat} {k : Int32 → jSt → Prop}
def dyN (m y : Nat) : Nat := if m = 2 then (if y % 4 = 3 then 29 else 28) else if m = 4 ∨ m = 6 ∨ m = 9 ∨ m = 11 then 30 else 31
theorem dyN_in (m y : Nat) : 28 ≤ dyN m y ∧ dyN m y ≤ 31 := by unfold dyN; split <;> (try split) <;> omega
theorem q_daysOf {m y : Nat} (hm : m < 20) (hy : y < 100000) (h : k (iI (dyN m y : Nat)) σ) : jq_I (d + 1) 92 [.int (iI m), .int (iI y)] σ k := by
  refine ok_X9_daysOf ?_
  have h4 : iI (y : Int) - iI (y : Int) / iI 4 * iI 4 = iI ((y % 4 : Nat) : Int) := iI_rem (b := 4) (by omega) (by omega) (by omega)
  have em : ∀ j : Int, 0 ≤ j → j < 100 → (iI (m : Int) = iI j ↔ (m : Int) = j) := fun j h1 h2 => iI_eq ⟨by omega, by omega⟩ ⟨by omega, by omega⟩
  unfold vc_X9_daysOf
  rw [h4, iI_eq (a := ((y % 4 : Nat) : Int)) ⟨by omega, by omega⟩ ⟨by omega, by omega⟩, em 2 (by omega) (by omega), em 3 (by omega) (by omega), em 4 (by omega) (by omega), em 5 (by omega) (by omega), em 6 (by omega) (by omega), em 7 (by omega) (by omega), em 8 (by omega) (by omega), em 9 (by omega) (by omega), em 10 (by omega) (by omega), em 11 (by omega) (by omega)]
  have fin : ∀ z : Nat, dyN m y = z → (∃ x, some (Value.int (iI (z : Int))) = some (.int x) ∧ k x σ) := fun z e => ⟨_, rfl, by rw [← e]; exact h⟩
  refine ⟨fun c => ⟨fun c1 => fin 28 ?_, fun c1 => fin 29 ?_⟩, fun c => ⟨fun c1 => fin 31 ?_, fun c1 => ⟨fun c2 => fin 30 ?_, fun c2 => ⟨fun c3 => fin 31 ?_, fun c3 => ⟨fun c4 => fin 30 ?_, fun c4 => ⟨fun c5 => fin 31 ?_, fun c5 => ⟨fun c6 => fin 31 ?_, fun c6 => ⟨fun c7 => fin 30 ?_, fun c7 => ⟨fun c8 => fin 31 ?_, fun c8 => ⟨fun c9 => fin 30 ?_, fun c9 => fin 31 ?_⟩⟩⟩⟩⟩⟩⟩⟩⟩⟩
  all_goals unfold dyN
  all_goals (repeat' split) <;> omega
/-- left, month, year behind n steps -/
def laN : Nat → Nat → Nat → Nat → Nat × Nat × Nat
  | 0, l, m, y => (l, m, y)
  | n + 1, l, m, y => if l < dyN m y then (l, m, y) else laN n (l - dyN m y) (if m = 12 then 1 else m + 1) (if m = 12 then y + 1 else y)
theorem w_layDate {post : jPo} {dy : Int32} : ∀ (n l m y : Nat) (σ : jSt), σ.1 34 18 = iI m → σ.1 34 19 = iI y → 1 ≤ m → m ≤ 12 → y + n < 100000 → l < 5000 → (laN n l m y).1 < dyN (laN n l m y).2.1 (laN n l m y).2.2 →
    (∀ σ', eS dS σ σ' → σ'.1 34 17 = iI (((laN n l m y).1 + 1 : Nat) : Int) → σ'.1 34 18 = iI ((laN n l m y).2.1 : Nat) → σ'.1 34 19 = iI ((laN n l m y).2.2 : Nat) → post none σ') →
    jv_wp (d + 2) post (93, 22, [some (.ref 34), some (.int dy), some (.int (iI l))], [], σ) := by
  intro n
  have done : ∀ (l m y : Nat) (σ : jSt), σ.1 34 18 = iI m → σ.1 34 19 = iI y → m ≤ 12 → y < 100000 → l < 5000 → l < dyN m y → (∀ σ', eS dS σ σ' → σ'.1 34 17 = iI ((l + 1 : Nat) : Int) → σ'.1 34 18 = iI (m : Nat) → σ'.1 34 19 = iI (y : Nat) → post none σ') → jv_wp (d + 2) post (93, 22, [some (.ref 34), some (.int dy), some (.int (iI l))], [], σ) := by
    intro l m y σ e1 e2 hm hy hl hx h
    have hd := dyN_in m y
    refine ok_X9_layDate_L22 ?_
    unfold vc_X9_layDate_L22
    rw [e1, e2]
    refine q_daysOf (by omega) (by omega) ?_
    rw [iI_lt ⟨by omega, by omega⟩ ⟨by omega, by omega⟩]
    refine ⟨fun _ => ?_, fun c => absurd (by omega) c⟩
    refine h _ (eS.u (by unfold dS; omega)) ?_ ?_ ?_
    · rw [jv_u_at, if_pos ⟨rfl, rfl⟩, iI_add]; exact congrArg iI (by omega)
    · rw [jv_u_at, if_neg (by omega)]; exact e1
    · rw [jv_u_at, if_neg (by omega)]; exact e2
  induction n with
  | zero =>
    intro l m y σ e1 e2 h1 h2 h3 h4 hx h
    exact done l m y σ e1 e2 h2 (by omega) h4 hx h
  | succ n ih =>
    intro l m y σ e1 e2 h1 h2 h3 h4 hx h
    by_cases c : l < dyN m y
    · unfold laN at hx h
      rw [if_pos c] at hx h
      exact done l m y σ e1 e2 h2 (by omega) h4 hx h
    · unfold laN at hx h
      rw [if_neg c] at hx h
      have hd := dyN_in m y
      refine ok_X9_layDate_L22 ?_
      unfold vc_X9_layDate_L22
      rw [e1, e2]
      refine q_daysOf (by omega) (by omega) ⟨fun c2 => ?_, fun _ => ?_⟩
      · rw [iI_lt ⟨by omega, by omega⟩ ⟨by omega, by omega⟩] at c2; omega
      · rw [e1, e2]
        refine q_daysOf (by omega) (by omega) ?_
        dsimp only
        simp (decide := true) only [jv_u_at, ite_true, ite_false, e1, e2, iI_sub, iI_add]
        rw [iI_eq ⟨by omega, by omega⟩ ⟨by omega, by omega⟩, show (l : Int) - (dyN m y : Nat) = ((l - dyN m y : Nat) : Int) by omega]
        have nx : ∀ (s : jSt) (m' y' : Nat), eS dS σ s → m' = (if m = 12 then 1 else m + 1) → y' = (if m = 12 then y + 1 else y) → s.1 34 18 = iI (m' : Nat) → s.1 34 19 = iI (y' : Nat) → jv_wp (d + 2) post (93, 22, [some (.ref 34), some (.int dy), some (.int (iI ((l - dyN m y : Nat) : Int)))], [], s) := by
          intro s m' y' hE hm' hy' g1 g2
          rw [← hm', ← hy'] at hx h
          refine ih (l - dyN m y) m' y' s g1 g2 (by subst hm'; split <;> omega) (by subst hm'; split <;> omega) (by subst hy'; split <;> omega) (by omega) hx ?_
          intro σ' hE' f1 f2 f3
          exact h σ' (hE.tr hE') f1 f2 f3
        have dd : ∀ k, k = 17 ∨ k = 18 ∨ k = 19 → dS 34 k := fun k hk => ⟨rfl, hk⟩
        refine ⟨fun c2 => ⟨fun c3 => ?_, fun c3 => absurd c3 c2⟩, fun c2 => ⟨fun c3 => absurd c2 c3, fun c3 => ?_⟩⟩
        · refine nx _ (m + 1) y (((eS.u (dd 18 (by omega))).tr (eS.u (dd 19 (by omega)))).tr (eS.u (dd 18 (by omega)))) (by rw [if_neg (by omega)]) (by rw [if_neg (by omega)]) ?_ ?_
          · rw [jv_u_at, if_pos ⟨rfl, rfl⟩]; exact congrArg iI (by omega)
          · rw [jv_u_at, if_neg (by omega), jv_u_at, if_pos ⟨rfl, rfl⟩]; exact congrArg iI (by omega)
        · refine nx _ 1 (y + 1) (((eS.u (dd 18 (by omega))).tr (eS.u (dd 19 (by omega)))).tr (eS.u (dd 18 (by omega)))) (by rw [if_pos (by omega)]) (by rw [if_pos (by omega)]) ?_ ?_
          · rw [jv_u_at, if_pos ⟨rfl, rfl⟩]; rfl
          · rw [jv_u_at, if_neg (by omega), jv_u_at, if_pos ⟨rfl, rfl⟩]; exact congrArg iI (by omega)
def la (day : Nat) : Nat × Nat × Nat := laN 60 (day % 1461) 1 (4 * (day / 1461))
def laP (day : Nat) : Bool := decide ((la day).1 < dyN (la day).2.1 (la day).2.2) && decide (mad day = (la day).2.1 * 32 + (la day).1 + 1) && decide (yeN day = (la day).2.2) && decide ((la day).1 < 31) && decide (1 ≤ (la day).2.1) && decide ((la day).2.1 ≤ 12)
theorem la_0 : ∀ a : Nat, a < 40 → (List.range 50).all (fun b => laP (50 * a + b)) = true := by decide +kernel
/-- both calendars agree (days of the promise lie below 2000) -/
theorem la_ok (day : Nat) (h : day < 2000) : (la day).1 < dyN (la day).2.1 (la day).2.2 ∧ mad day = (la day).2.1 * 32 + (la day).1 + 1 ∧ yeN day = (la day).2.2 ∧ (la day).1 < 31 ∧ 1 ≤ (la day).2.1 ∧ (la day).2.1 ≤ 12 := by
  have h0 := List.all_eq_true.mp (la_0 (day / 50) (by omega)) (day % 50) (List.mem_range.mpr (by omega))
  rw [show 50 * (day / 50) + day % 50 = day by omega] at h0
  unfold laP at h0
  simp only [Bool.and_eq_true, decide_eq_true_eq] at h0
  exact ⟨h0.1.1.1.1.1, h0.1.1.1.1.2, h0.1.1.1.2, h0.1.1.2, h0.1.2, h0.2⟩
theorem q_layDate {K : jSt → Prop} {day : Nat} (hd : day < 2000) (h : ∀ σ', eS dS σ σ' → σ'.1 34 17 = iI ((mad day % 32 : Nat) : Int) → σ'.1 34 18 = iI ((mad day / 32 : Nat) : Int) → σ'.1 34 19 = iI ((yeN day : Nat) : Int) → K σ') : jq_V (d + 2) 93 [.ref 34, .int (iI day)] σ K := by
  obtain ⟨l1, l2, l3, l4, l5, l6⟩ := la_ok day hd
  have hr : iI (day : Int) - iI (day : Int) / iI 1461 * iI 1461 = iI ((day % 1461 : Nat) : Int) := iI_rem (b := 1461) (by omega) (by omega) (by omega)
  have hq : iI (day : Int) / iI 1461 = iI ((day / 1461 : Nat) : Int) := iI_div (b := 1461) (by omega) (by omega) (by omega)
  refine ok_X9_layDate ?_
  unfold vc_X9_layDate
  rw [hr, hq]
  have dd : ∀ k, k = 17 ∨ k = 18 ∨ k = 19 → dS 34 k := fun k hk => ⟨rfl, hk⟩
  refine w_layDate 60 (day % 1461) 1 (4 * (day / 1461)) _ ?_ ?_ (by omega) (by omega) (by omega) (by omega) l1 ?_
  · rw [jv_u_at, if_pos ⟨rfl, rfl⟩]; rfl
  · rw [jv_u_at, if_neg (by omega), jv_u_at, if_pos ⟨rfl, rfl⟩, iI_mul]; exact congrArg iI (by omega)
  · intro σ' hE f1 f2 f3
    refine ⟨rfl, h σ' (((eS.u (dd 19 (by omega))).tr (eS.u (dd 18 (by omega)))).tr hE) ?_ ?_ ?_⟩
    · rw [f1, l2]; exact congrArg (fun n : Nat => iI (n : Int)) (by change _ = _; have := l4; unfold la at *; omega)
    · rw [f2, l2]; exact congrArg (fun n : Nat => iI (n : Int)) (by have := l4; unfold la at *; omega)
    · rw [f3, l3]; rfl
/-- is a bank on, the date laid -/
theorem vo_bit (day : Nat) : ∀ s, s < 2 → (vo day).testBit s = (decide (mad day = 93) || decide (mad day % 32 % 2 = 1 - s)) := by
  intro s hs
  have hb : ∀ v s : Nat, s < 2 → v < 8 → v.testBit s = decide (v / 2 ^ s % 2 = 1) := fun v s _ _ => by rw [Nat.testBit_eq_decide_div_mod_eq]
  rw [hb _ _ hs (by rcases vo_in day with h | h | h | h <;> omega)]
  unfold vo
  rcases (show s = 0 ∨ s = 1 by omega) with rfl | rfl
  · split
    · next h => simp [h]
    · next h =>
      split
      · next h2 => simp [h, h2]
      · next h2 =>
        split
        · next h3 => simp [h]; omega
        · next h3 => simp [h]; omega
  · split
    · next h => simp [h]
    · next h =>
      split
      · next h2 => simp [h, h2]
      · next h2 =>
        split
        · next h3 => simp [h]; omega
        · next h3 => simp [h]; omega
theorem q_isBankOn {day s : Nat} (hs : s < 2) (e1 : σ.1 34 17 = iI ((mad day % 32 : Nat) : Int)) (e2 : σ.1 34 18 = iI ((mad day / 32 : Nat) : Int)) (h : k (jb ((vo day).testBit s)) σ) : jq_I (d + 1) 94 [.ref 34, .int (iI s)] σ k := by
  have hl := mad_lt day
  have h2 : iI ((mad day % 32 : Nat) : Int) - iI ((mad day % 32 : Nat) : Int) / iI 2 * iI 2 = iI ((mad day % 32 % 2 : Nat) : Int) := iI_rem (b := 2) (by omega) (by omega) (by omega)
  refine ok_X9_isBankOn ?_
  unfold vc_X9_isBankOn
  rw [e1, e2, h2, iI_sub, iI_eq ⟨by omega, by omega⟩ ⟨by omega, by omega⟩, iI_eq ⟨by omega, by omega⟩ ⟨by omega, by omega⟩, iI_eq ⟨by omega, by omega⟩ ⟨by omega, by omega⟩]
  rw [vo_bit day s hs] at h
  have z : ∀ b : Bool, (decide (mad day = 93) || decide (mad day % 32 % 2 = 1 - s)) = b → (∃ x, some (Value.int (jb b)) = some (.int x) ∧ k x σ) := fun b e => ⟨_, rfl, by rw [← e]; exact h⟩
  rw [jb_t, jb_f]
  refine ⟨fun c => ⟨fun c2 => z false ?_, fun c2 => z true ?_⟩, fun c => ⟨fun c1 => ⟨fun c2 => z false ?_, fun c2 => z true ?_⟩, fun c1 => z true ?_⟩⟩
  · rw [decide_eq_false (by omega), decide_eq_false (by omega)]; rfl
  · rw [decide_eq_true (show mad day % 32 % 2 = 1 - s by omega), Bool.or_true]
  · rw [decide_eq_false (by omega), decide_eq_false (by omega)]; rfl
  · rw [decide_eq_true (show mad day % 32 % 2 = 1 - s by omega), Bool.or_true]
  · rw [decide_eq_true (show mad day = 93 by omega), Bool.true_or]
theorem vo_first (day : Nat) : (vo day).testBit 2 = decide (mad day % 32 = 1) := by
  rw [Nat.testBit_eq_decide_div_mod_eq]
  unfold vo
  split
  · next h => simp [h]
  · split
    · next h2 => simp [h2]
    · next h2 =>
      split <;> simp [h2]
theorem q_isSpeaking {day kd bn bk : Nat} (hk : kd < 5) (hb : bn < 2) (hbk : bk < 2) (e1 : σ.1 34 17 = iI ((mad day % 32 : Nat) : Int)) (e2 : σ.1 34 18 = iI ((mad day / 32 : Nat) : Int)) (h : k (jb (spk (vo day) kd bn bk)) σ) : jq_I (d + 2) 95 [.ref 34, .int (iI kd), .int (iI bn), .int (iI bk)] σ k := by
  have hl := mad_lt day
  refine ok_X9_isSpeaking ?_
  have ek : ∀ j : Int, 0 ≤ j → j < 100 → (iI (kd : Int) = iI j ↔ (kd : Int) = j) := fun j h1 h2 => iI_eq ⟨by omega, by omega⟩ ⟨by omega, by omega⟩
  unfold vc_X9_isSpeaking
  rw [ek 1 (by omega) (by omega), ek 2 (by omega) (by omega), ek 3 (by omega) (by omega), ek 4 (by omega) (by omega)]
  unfold spk at h
  refine ⟨fun c => ⟨_, rfl, ?_⟩, fun c => ⟨fun c1 => q_isBankOn hbk e1 e2 ?_, fun c1 => ⟨fun c2 => q_isBankOn hb e1 e2 ⟨jb_z _, _, rfl, ?_⟩, fun c2 => ⟨fun c3 => ⟨_, rfl, ?_⟩, fun c3 => q_isBankOn hbk e1 e2 ⟨jb_z _, _, rfl, ?_⟩⟩⟩⟩⟩
  · rw [jb_t]; rwa [if_pos (by omega)] at h
  · rw [if_neg (by omega), if_pos (by omega), vo_first] at h
    rw [jb_0, e1, iI_eq ⟨by omega, by omega⟩ ⟨by omega, by omega⟩]
    refine ⟨fun c2 => ⟨_, rfl, ?_⟩, fun c2 => ⟨fun c3 => ⟨_, rfl, ?_⟩, fun c3 => ⟨_, rfl, ?_⟩⟩⟩
    · rw [jb_t]; rwa [show (vo day).testBit bk = true by simpa using c2, Bool.true_or] at h
    · rw [jb_f]; rwa [c2, decide_eq_false (by omega)] at h
    · rw [jb_t]; rwa [decide_eq_true (by omega), Bool.or_true] at h
  · rwa [if_neg (by omega), if_neg (by omega), if_pos (by omega)] at h
  · rw [jb_t]; rwa [if_pos (by omega)] at h
  · rwa [if_neg (by omega), if_neg (by omega), if_neg (by omega)] at h
theorem q_maySpeak (hV : rV α) (hM : rM α σ) {p dy : Nat} (hp : p < α 0 0) (hd : dy < 2000) (h : ∀ σ', eS dS σ σ' → k (jb (sp α dy p)) σ') : jq_I (d + 3) 96 [.ref 34, .int (iI p), .int (iI dy)] σ k := by
  have h6 := hV.P
  have hv := hV.p hp
  have hc : (iI (p : Int)).toNatClampNeg = p := iI_clamp (by omega)
  have hin : vp_in (iI (p : Int)) 6 := (iI_in (by omega) 6).mpr (by omega)
  refine ok_X9_maySpeak (q_layDate hd (fun σ' hE e1 e2 e3 => ⟨hin, hin, hin, ?_⟩))
  have hM' := hM.mv (hE.wk dS_m)
  rw [hc, hM'.kd hp, hM'.bn hp, hM'.bk hp]
  exact q_isSpeaking hv.1 hv.2.1 hv.2.2.1 e1 e2 ⟨jb_z _, _, rfl, h σ' hE⟩
end MCal
end
section
/-! the reference: rows copied -/
/-- row b is row a now, up to n; nothing else has changed -/
def cpS (a b n : Nat) (σ σ' : jSt) : Prop := σ'.2 = σ.2 ∧ (∀ c k, c ≠ b → σ'.1 c k = σ.1 c k) ∧ (∀ k, k < n → σ'.1 b k = σ.1 a k) ∧ (∀ k, n ≤ k → σ'.1 b k = σ.1 b k)
section Cp
variable {σ : jSt} {d : Nat} {K : jSt → Prop}
theorem w_cp_43_45 {post : jPo} : ∀ (n i : Nat) (σ : jSt), i + n = 5 → (∀ σ', σ'.2 = σ.2 → (∀ c k, c ≠ 45 → σ'.1 c k = σ.1 c k) → (∀ k, i ≤ k → k < 5 → σ'.1 45 k = σ.1 43 k) → (∀ k, (k < i ∨ 5 ≤ k) → σ'.1 45 k = σ.1 45 k) → post none σ') → jv_wp (d + 1) post (79, 2, [some (.ref 43), some (.ref 45), some (.int (iI i))], [], σ) := by
  intro n
  induction n with
  | zero =>
    intro i σ hi h
    refine ok_X9_copy_43_45_L2 ⟨fun _ => h σ rfl (fun _ _ _ => rfl) (fun k h1 h2 => absurd h1 (by omega)) (fun _ _ => rfl), fun c => absurd ?_ c⟩
    rw [iI_ofNat, iI_le ⟨by omega, by omega⟩ ⟨by omega, by omega⟩]; omega
  | succ n ih =>
    intro i σ hi h
    have hc : (iI (i : Int)).toNatClampNeg = i := iI_clamp (by omega)
    have hin : vp_in (iI (i : Int)) 5 := (iI_in (by omega) 5).mpr (by omega)
    refine ok_X9_copy_43_45_L2 ⟨fun c => absurd c ?_, fun _ => ⟨hin, hin, ?_⟩⟩
    · rw [iI_ofNat, iI_le ⟨by omega, by omega⟩ ⟨by omega, by omega⟩]; omega
    · rw [hc, iI_add, show (i : Int) + 1 = ((i + 1 : Nat) : Int) by omega]
      refine ih (i + 1) _ (by omega) (fun σ' h1 h2 h3 h4 => h σ' h1 (fun c k hc => ?_) (fun k k1 k2 => ?_) (fun k k1 => ?_))
      · rw [h2 c k hc, jv_u_at, if_neg (by omega)]
      · by_cases e : k = i
        · rw [h4 k (by omega), jv_u_at, if_pos ⟨rfl, e⟩, e]
        · rw [h3 k (by omega) k2, jv_u_at, if_neg (by omega)]
      · rw [h4 k (by omega), jv_u_at, if_neg (by omega)]
theorem q_cp_43_45 (h : ∀ σ', cpS 43 45 5 σ σ' → K σ') : jq_V (d + 1) 79 [.ref 43, .ref 45] σ K :=
  ok_X9_copy_43_45 (w_cp_43_45 5 0 σ (by omega) (fun σ' h1 h2 h3 h4 => ⟨rfl, h σ' ⟨h1, h2, fun k hk => h3 k (by omega) hk, fun k hk => h4 k (Or.inr hk)⟩⟩))
theorem w_cp_44_46 {post : jPo} : ∀ (n i : Nat) (σ : jSt), i + n = 5 → (∀ σ', σ'.2 = σ.2 → (∀ c k, c ≠ 46 → σ'.1 c k = σ.1 c k) → (∀ k, i ≤ k → k < 5 → σ'.1 46 k = σ.1 44 k) → (∀ k, (k < i ∨ 5 ≤ k) → σ'.1 46 k = σ.1 46 k) → post none σ') → jv_wp (d + 1) post (79, 2, [some (.ref 44), some (.ref 46), some (.int (iI i))], [], σ) := by
  intro n
  induction n with
  | zero =>
    intro i σ hi h
    refine ok_X9_copy_44_46_L2 ⟨fun _ => h σ rfl (fun _ _ _ => rfl) (fun k h1 h2 => absurd h1 (by omega)) (fun _ _ => rfl), fun c => absurd ?_ c⟩
    rw [iI_ofNat, iI_le ⟨by omega, by omega⟩ ⟨by omega, by omega⟩]; omega
  | succ n ih =>
    intro i σ hi h
    have hc : (iI (i : Int)).toNatClampNeg = i := iI_clamp (by omega)
    have hin : vp_in (iI (i : Int)) 5 := (iI_in (by omega) 5).mpr (by omega)
    refine ok_X9_copy_44_46_L2 ⟨fun c => absurd c ?_, fun _ => ⟨hin, hin, ?_⟩⟩
    · rw [iI_ofNat, iI_le ⟨by omega, by omega⟩ ⟨by omega, by omega⟩]; omega
    · rw [hc, iI_add, show (i : Int) + 1 = ((i + 1 : Nat) : Int) by omega]
      refine ih (i + 1) _ (by omega) (fun σ' h1 h2 h3 h4 => h σ' h1 (fun c k hc => ?_) (fun k k1 k2 => ?_) (fun k k1 => ?_))
      · rw [h2 c k hc, jv_u_at, if_neg (by omega)]
      · by_cases e : k = i
        · rw [h4 k (by omega), jv_u_at, if_pos ⟨rfl, e⟩, e]
        · rw [h3 k (by omega) k2, jv_u_at, if_neg (by omega)]
      · rw [h4 k (by omega), jv_u_at, if_neg (by omega)]
theorem q_cp_44_46 (h : ∀ σ', cpS 44 46 5 σ σ' → K σ') : jq_V (d + 1) 79 [.ref 44, .ref 46] σ K :=
  ok_X9_copy_44_46 (w_cp_44_46 5 0 σ (by omega) (fun σ' h1 h2 h3 h4 => ⟨rfl, h σ' ⟨h1, h2, fun k hk => h3 k (by omega) hk, fun k hk => h4 k (Or.inr hk)⟩⟩))
theorem w_cp_45_43 {post : jPo} : ∀ (n i : Nat) (σ : jSt), i + n = 5 → (∀ σ', σ'.2 = σ.2 → (∀ c k, c ≠ 43 → σ'.1 c k = σ.1 c k) → (∀ k, i ≤ k → k < 5 → σ'.1 43 k = σ.1 45 k) → (∀ k, (k < i ∨ 5 ≤ k) → σ'.1 43 k = σ.1 43 k) → post none σ') → jv_wp (d + 1) post (79, 2, [some (.ref 45), some (.ref 43), some (.int (iI i))], [], σ) := by
  intro n
  induction n with
  | zero =>
    intro i σ hi h
    refine ok_X9_copy_45_43_L2 ⟨fun _ => h σ rfl (fun _ _ _ => rfl) (fun k h1 h2 => absurd h1 (by omega)) (fun _ _ => rfl), fun c => absurd ?_ c⟩
    rw [iI_ofNat, iI_le ⟨by omega, by omega⟩ ⟨by omega, by omega⟩]; omega
  | succ n ih =>
    intro i σ hi h
    have hc : (iI (i : Int)).toNatClampNeg = i := iI_clamp (by omega)
    have hin : vp_in (iI (i : Int)) 5 := (iI_in (by omega) 5).mpr (by omega)
    refine ok_X9_copy_45_43_L2 ⟨fun c => absurd c ?_, fun _ => ⟨hin, hin, ?_⟩⟩
    · rw [iI_ofNat, iI_le ⟨by omega, by omega⟩ ⟨by omega, by omega⟩]; omega
    · rw [hc, iI_add, show (i : Int) + 1 = ((i + 1 : Nat) : Int) by omega]
      refine ih (i + 1) _ (by omega) (fun σ' h1 h2 h3 h4 => h σ' h1 (fun c k hc => ?_) (fun k k1 k2 => ?_) (fun k k1 => ?_))
      · rw [h2 c k hc, jv_u_at, if_neg (by omega)]
      · by_cases e : k = i
        · rw [h4 k (by omega), jv_u_at, if_pos ⟨rfl, e⟩, e]
        · rw [h3 k (by omega) k2, jv_u_at, if_neg (by omega)]
      · rw [h4 k (by omega), jv_u_at, if_neg (by omega)]
theorem q_cp_45_43 (h : ∀ σ', cpS 45 43 5 σ σ' → K σ') : jq_V (d + 1) 79 [.ref 45, .ref 43] σ K :=
  ok_X9_copy_45_43 (w_cp_45_43 5 0 σ (by omega) (fun σ' h1 h2 h3 h4 => ⟨rfl, h σ' ⟨h1, h2, fun k hk => h3 k (by omega) hk, fun k hk => h4 k (Or.inr hk)⟩⟩))
theorem w_cp_46_44 {post : jPo} : ∀ (n i : Nat) (σ : jSt), i + n = 5 → (∀ σ', σ'.2 = σ.2 → (∀ c k, c ≠ 44 → σ'.1 c k = σ.1 c k) → (∀ k, i ≤ k → k < 5 → σ'.1 44 k = σ.1 46 k) → (∀ k, (k < i ∨ 5 ≤ k) → σ'.1 44 k = σ.1 44 k) → post none σ') → jv_wp (d + 1) post (79, 2, [some (.ref 46), some (.ref 44), some (.int (iI i))], [], σ) := by
  intro n
  induction n with
  | zero =>
    intro i σ hi h
    refine ok_X9_copy_46_44_L2 ⟨fun _ => h σ rfl (fun _ _ _ => rfl) (fun k h1 h2 => absurd h1 (by omega)) (fun _ _ => rfl), fun c => absurd ?_ c⟩
    rw [iI_ofNat, iI_le ⟨by omega, by omega⟩ ⟨by omega, by omega⟩]; omega
  | succ n ih =>
    intro i σ hi h
    have hc : (iI (i : Int)).toNatClampNeg = i := iI_clamp (by omega)
    have hin : vp_in (iI (i : Int)) 5 := (iI_in (by omega) 5).mpr (by omega)
    refine ok_X9_copy_46_44_L2 ⟨fun c => absurd c ?_, fun _ => ⟨hin, hin, ?_⟩⟩
    · rw [iI_ofNat, iI_le ⟨by omega, by omega⟩ ⟨by omega, by omega⟩]; omega
    · rw [hc, iI_add, show (i : Int) + 1 = ((i + 1 : Nat) : Int) by omega]
      refine ih (i + 1) _ (by omega) (fun σ' h1 h2 h3 h4 => h σ' h1 (fun c k hc => ?_) (fun k k1 k2 => ?_) (fun k k1 => ?_))
      · rw [h2 c k hc, jv_u_at, if_neg (by omega)]
      · by_cases e : k = i
        · rw [h4 k (by omega), jv_u_at, if_pos ⟨rfl, e⟩, e]
        · rw [h3 k (by omega) k2, jv_u_at, if_neg (by omega)]
      · rw [h4 k (by omega), jv_u_at, if_neg (by omega)]
theorem q_cp_46_44 (h : ∀ σ', cpS 46 44 5 σ σ' → K σ') : jq_V (d + 1) 79 [.ref 46, .ref 44] σ K :=
  ok_X9_copy_46_44 (w_cp_46_44 5 0 σ (by omega) (fun σ' h1 h2 h3 h4 => ⟨rfl, h σ' ⟨h1, h2, fun k hk => h3 k (by omega) hk, fun k hk => h4 k (Or.inr hk)⟩⟩))
theorem w_cp_38_47 {post : jPo} : ∀ (n i : Nat) (σ : jSt), i + n = 6 → (∀ σ', σ'.2 = σ.2 → (∀ c k, c ≠ 47 → σ'.1 c k = σ.1 c k) → (∀ k, i ≤ k → k < 6 → σ'.1 47 k = σ.1 38 k) → (∀ k, (k < i ∨ 6 ≤ k) → σ'.1 47 k = σ.1 47 k) → post none σ') → jv_wp (d + 1) post (79, 2, [some (.ref 38), some (.ref 47), some (.int (iI i))], [], σ) := by
  intro n
  induction n with
  | zero =>
    intro i σ hi h
    refine ok_X9_copy_38_47_L2 ⟨fun _ => h σ rfl (fun _ _ _ => rfl) (fun k h1 h2 => absurd h1 (by omega)) (fun _ _ => rfl), fun c => absurd ?_ c⟩
    rw [iI_ofNat, iI_le ⟨by omega, by omega⟩ ⟨by omega, by omega⟩]; omega
  | succ n ih =>
    intro i σ hi h
    have hc : (iI (i : Int)).toNatClampNeg = i := iI_clamp (by omega)
    have hin : vp_in (iI (i : Int)) 6 := (iI_in (by omega) 6).mpr (by omega)
    refine ok_X9_copy_38_47_L2 ⟨fun c => absurd c ?_, fun _ => ⟨hin, hin, ?_⟩⟩
    · rw [iI_ofNat, iI_le ⟨by omega, by omega⟩ ⟨by omega, by omega⟩]; omega
    · rw [hc, iI_add, show (i : Int) + 1 = ((i + 1 : Nat) : Int) by omega]
      refine ih (i + 1) _ (by omega) (fun σ' h1 h2 h3 h4 => h σ' h1 (fun c k hc => ?_) (fun k k1 k2 => ?_) (fun k k1 => ?_))
      · rw [h2 c k hc, jv_u_at, if_neg (by omega)]
      · by_cases e : k = i
        · rw [h4 k (by omega), jv_u_at, if_pos ⟨rfl, e⟩, e]
        · rw [h3 k (by omega) k2, jv_u_at, if_neg (by omega)]
      · rw [h4 k (by omega), jv_u_at, if_neg (by omega)]
theorem q_cp_38_47 (h : ∀ σ', cpS 38 47 6 σ σ' → K σ') : jq_V (d + 1) 79 [.ref 38, .ref 47] σ K :=
  ok_X9_copy_38_47 (w_cp_38_47 6 0 σ (by omega) (fun σ' h1 h2 h3 h4 => ⟨rfl, h σ' ⟨h1, h2, fun k hk => h3 k (by omega) hk, fun k hk => h4 k (Or.inr hk)⟩⟩))
theorem w_cp_47_38 {post : jPo} : ∀ (n i : Nat) (σ : jSt), i + n = 6 → (∀ σ', σ'.2 = σ.2 → (∀ c k, c ≠ 38 → σ'.1 c k = σ.1 c k) → (∀ k, i ≤ k → k < 6 → σ'.1 38 k = σ.1 47 k) → (∀ k, (k < i ∨ 6 ≤ k) → σ'.1 38 k = σ.1 38 k) → post none σ') → jv_wp (d + 1) post (79, 2, [some (.ref 47), some (.ref 38), some (.int (iI i))], [], σ) := by
  intro n
  induction n with
  | zero =>
    intro i σ hi h
    refine ok_X9_copy_47_38_L2 ⟨fun _ => h σ rfl (fun _ _ _ => rfl) (fun k h1 h2 => absurd h1 (by omega)) (fun _ _ => rfl), fun c => absurd ?_ c⟩
    rw [iI_ofNat, iI_le ⟨by omega, by omega⟩ ⟨by omega, by omega⟩]; omega
  | succ n ih =>
    intro i σ hi h
    have hc : (iI (i : Int)).toNatClampNeg = i := iI_clamp (by omega)
    have hin : vp_in (iI (i : Int)) 6 := (iI_in (by omega) 6).mpr (by omega)
    refine ok_X9_copy_47_38_L2 ⟨fun c => absurd c ?_, fun _ => ⟨hin, hin, ?_⟩⟩
    · rw [iI_ofNat, iI_le ⟨by omega, by omega⟩ ⟨by omega, by omega⟩]; omega
    · rw [hc, iI_add, show (i : Int) + 1 = ((i + 1 : Nat) : Int) by omega]
      refine ih (i + 1) _ (by omega) (fun σ' h1 h2 h3 h4 => h σ' h1 (fun c k hc => ?_) (fun k k1 k2 => ?_) (fun k k1 => ?_))
      · rw [h2 c k hc, jv_u_at, if_neg (by omega)]
      · by_cases e : k = i
        · rw [h4 k (by omega), jv_u_at, if_pos ⟨rfl, e⟩, e]
        · rw [h3 k (by omega) k2, jv_u_at, if_neg (by omega)]
      · rw [h4 k (by omega), jv_u_at, if_neg (by omega)]
theorem q_cp_47_38 (h : ∀ σ', cpS 47 38 6 σ σ' → K σ') : jq_V (d + 1) 79 [.ref 47, .ref 38] σ K :=
  ok_X9_copy_47_38 (w_cp_47_38 6 0 σ (by omega) (fun σ' h1 h2 h3 h4 => ⟨rfl, h σ' ⟨h1, h2, fun k hk => h3 k (by omega) hk, fun k hk => h4 k (Or.inr hk)⟩⟩))
theorem w_cp_36_49 {post : jPo} : ∀ (n i : Nat) (σ : jSt), i + n = 6 → (∀ σ', σ'.2 = σ.2 → (∀ c k, c ≠ 49 → σ'.1 c k = σ.1 c k) → (∀ k, i ≤ k → k < 6 → σ'.1 49 k = σ.1 36 k) → (∀ k, (k < i ∨ 6 ≤ k) → σ'.1 49 k = σ.1 49 k) → post none σ') → jv_wp (d + 1) post (79, 2, [some (.ref 36), some (.ref 49), some (.int (iI i))], [], σ) := by
  intro n
  induction n with
  | zero =>
    intro i σ hi h
    refine ok_X9_copy_36_49_L2 ⟨fun _ => h σ rfl (fun _ _ _ => rfl) (fun k h1 h2 => absurd h1 (by omega)) (fun _ _ => rfl), fun c => absurd ?_ c⟩
    rw [iI_ofNat, iI_le ⟨by omega, by omega⟩ ⟨by omega, by omega⟩]; omega
  | succ n ih =>
    intro i σ hi h
    have hc : (iI (i : Int)).toNatClampNeg = i := iI_clamp (by omega)
    have hin : vp_in (iI (i : Int)) 6 := (iI_in (by omega) 6).mpr (by omega)
    refine ok_X9_copy_36_49_L2 ⟨fun c => absurd c ?_, fun _ => ⟨hin, hin, ?_⟩⟩
    · rw [iI_ofNat, iI_le ⟨by omega, by omega⟩ ⟨by omega, by omega⟩]; omega
    · rw [hc, iI_add, show (i : Int) + 1 = ((i + 1 : Nat) : Int) by omega]
      refine ih (i + 1) _ (by omega) (fun σ' h1 h2 h3 h4 => h σ' h1 (fun c k hc => ?_) (fun k k1 k2 => ?_) (fun k k1 => ?_))
      · rw [h2 c k hc, jv_u_at, if_neg (by omega)]
      · by_cases e : k = i
        · rw [h4 k (by omega), jv_u_at, if_pos ⟨rfl, e⟩, e]
        · rw [h3 k (by omega) k2, jv_u_at, if_neg (by omega)]
      · rw [h4 k (by omega), jv_u_at, if_neg (by omega)]
theorem q_cp_36_49 (h : ∀ σ', cpS 36 49 6 σ σ' → K σ') : jq_V (d + 1) 79 [.ref 36, .ref 49] σ K :=
  ok_X9_copy_36_49 (w_cp_36_49 6 0 σ (by omega) (fun σ' h1 h2 h3 h4 => ⟨rfl, h σ' ⟨h1, h2, fun k hk => h3 k (by omega) hk, fun k hk => h4 k (Or.inr hk)⟩⟩))
theorem w_cp_38_50 {post : jPo} : ∀ (n i : Nat) (σ : jSt), i + n = 6 → (∀ σ', σ'.2 = σ.2 → (∀ c k, c ≠ 50 → σ'.1 c k = σ.1 c k) → (∀ k, i ≤ k → k < 6 → σ'.1 50 k = σ.1 38 k) → (∀ k, (k < i ∨ 6 ≤ k) → σ'.1 50 k = σ.1 50 k) → post none σ') → jv_wp (d + 1) post (79, 2, [some (.ref 38), some (.ref 50), some (.int (iI i))], [], σ) := by
  intro n
  induction n with
  | zero =>
    intro i σ hi h
    refine ok_X9_copy_38_50_L2 ⟨fun _ => h σ rfl (fun _ _ _ => rfl) (fun k h1 h2 => absurd h1 (by omega)) (fun _ _ => rfl), fun c => absurd ?_ c⟩
    rw [iI_ofNat, iI_le ⟨by omega, by omega⟩ ⟨by omega, by omega⟩]; omega
  | succ n ih =>
    intro i σ hi h
    have hc : (iI (i : Int)).toNatClampNeg = i := iI_clamp (by omega)
    have hin : vp_in (iI (i : Int)) 6 := (iI_in (by omega) 6).mpr (by omega)
    refine ok_X9_copy_38_50_L2 ⟨fun c => absurd c ?_, fun _ => ⟨hin, hin, ?_⟩⟩
    · rw [iI_ofNat, iI_le ⟨by omega, by omega⟩ ⟨by omega, by omega⟩]; omega
    · rw [hc, iI_add, show (i : Int) + 1 = ((i + 1 : Nat) : Int) by omega]
      refine ih (i + 1) _ (by omega) (fun σ' h1 h2 h3 h4 => h σ' h1 (fun c k hc => ?_) (fun k k1 k2 => ?_) (fun k k1 => ?_))
      · rw [h2 c k hc, jv_u_at, if_neg (by omega)]
      · by_cases e : k = i
        · rw [h4 k (by omega), jv_u_at, if_pos ⟨rfl, e⟩, e]
        · rw [h3 k (by omega) k2, jv_u_at, if_neg (by omega)]
      · rw [h4 k (by omega), jv_u_at, if_neg (by omega)]
theorem q_cp_38_50 (h : ∀ σ', cpS 38 50 6 σ σ' → K σ') : jq_V (d + 1) 79 [.ref 38, .ref 50] σ K :=
  ok_X9_copy_38_50 (w_cp_38_50 6 0 σ (by omega) (fun σ' h1 h2 h3 h4 => ⟨rfl, h σ' ⟨h1, h2, fun k hk => h3 k (by omega) hk, fun k hk => h4 k (Or.inr hk)⟩⟩))
theorem w_cp_39_51 {post : jPo} : ∀ (n i : Nat) (σ : jSt), i + n = 6 → (∀ σ', σ'.2 = σ.2 → (∀ c k, c ≠ 51 → σ'.1 c k = σ.1 c k) → (∀ k, i ≤ k → k < 6 → σ'.1 51 k = σ.1 39 k) → (∀ k, (k < i ∨ 6 ≤ k) → σ'.1 51 k = σ.1 51 k) → post none σ') → jv_wp (d + 1) post (79, 2, [some (.ref 39), some (.ref 51), some (.int (iI i))], [], σ) := by
  intro n
  induction n with
  | zero =>
    intro i σ hi h
    refine ok_X9_copy_39_51_L2 ⟨fun _ => h σ rfl (fun _ _ _ => rfl) (fun k h1 h2 => absurd h1 (by omega)) (fun _ _ => rfl), fun c => absurd ?_ c⟩
    rw [iI_ofNat, iI_le ⟨by omega, by omega⟩ ⟨by omega, by omega⟩]; omega
  | succ n ih =>
    intro i σ hi h
    have hc : (iI (i : Int)).toNatClampNeg = i := iI_clamp (by omega)
    have hin : vp_in (iI (i : Int)) 6 := (iI_in (by omega) 6).mpr (by omega)
    refine ok_X9_copy_39_51_L2 ⟨fun c => absurd c ?_, fun _ => ⟨hin, hin, ?_⟩⟩
    · rw [iI_ofNat, iI_le ⟨by omega, by omega⟩ ⟨by omega, by omega⟩]; omega
    · rw [hc, iI_add, show (i : Int) + 1 = ((i + 1 : Nat) : Int) by omega]
      refine ih (i + 1) _ (by omega) (fun σ' h1 h2 h3 h4 => h σ' h1 (fun c k hc => ?_) (fun k k1 k2 => ?_) (fun k k1 => ?_))
      · rw [h2 c k hc, jv_u_at, if_neg (by omega)]
      · by_cases e : k = i
        · rw [h4 k (by omega), jv_u_at, if_pos ⟨rfl, e⟩, e]
        · rw [h3 k (by omega) k2, jv_u_at, if_neg (by omega)]
      · rw [h4 k (by omega), jv_u_at, if_neg (by omega)]
theorem q_cp_39_51 (h : ∀ σ', cpS 39 51 6 σ σ' → K σ') : jq_V (d + 1) 79 [.ref 39, .ref 51] σ K :=
  ok_X9_copy_39_51 (w_cp_39_51 6 0 σ (by omega) (fun σ' h1 h2 h3 h4 => ⟨rfl, h σ' ⟨h1, h2, fun k hk => h3 k (by omega) hk, fun k hk => h4 k (Or.inr hk)⟩⟩))
theorem w_cp_42_52 {post : jPo} : ∀ (n i : Nat) (σ : jSt), i + n = 5 → (∀ σ', σ'.2 = σ.2 → (∀ c k, c ≠ 52 → σ'.1 c k = σ.1 c k) → (∀ k, i ≤ k → k < 5 → σ'.1 52 k = σ.1 42 k) → (∀ k, (k < i ∨ 5 ≤ k) → σ'.1 52 k = σ.1 52 k) → post none σ') → jv_wp (d + 1) post (79, 2, [some (.ref 42), some (.ref 52), some (.int (iI i))], [], σ) := by
  intro n
  induction n with
  | zero =>
    intro i σ hi h
    refine ok_X9_copy_42_52_L2 ⟨fun _ => h σ rfl (fun _ _ _ => rfl) (fun k h1 h2 => absurd h1 (by omega)) (fun _ _ => rfl), fun c => absurd ?_ c⟩
    rw [iI_ofNat, iI_le ⟨by omega, by omega⟩ ⟨by omega, by omega⟩]; omega
  | succ n ih =>
    intro i σ hi h
    have hc : (iI (i : Int)).toNatClampNeg = i := iI_clamp (by omega)
    have hin : vp_in (iI (i : Int)) 5 := (iI_in (by omega) 5).mpr (by omega)
    refine ok_X9_copy_42_52_L2 ⟨fun c => absurd c ?_, fun _ => ⟨hin, hin, ?_⟩⟩
    · rw [iI_ofNat, iI_le ⟨by omega, by omega⟩ ⟨by omega, by omega⟩]; omega
    · rw [hc, iI_add, show (i : Int) + 1 = ((i + 1 : Nat) : Int) by omega]
      refine ih (i + 1) _ (by omega) (fun σ' h1 h2 h3 h4 => h σ' h1 (fun c k hc => ?_) (fun k k1 k2 => ?_) (fun k k1 => ?_))
      · rw [h2 c k hc, jv_u_at, if_neg (by omega)]
      · by_cases e : k = i
        · rw [h4 k (by omega), jv_u_at, if_pos ⟨rfl, e⟩, e]
        · rw [h3 k (by omega) k2, jv_u_at, if_neg (by omega)]
      · rw [h4 k (by omega), jv_u_at, if_neg (by omega)]
theorem q_cp_42_52 (h : ∀ σ', cpS 42 52 5 σ σ' → K σ') : jq_V (d + 1) 79 [.ref 42, .ref 52] σ K :=
  ok_X9_copy_42_52 (w_cp_42_52 5 0 σ (by omega) (fun σ' h1 h2 h3 h4 => ⟨rfl, h σ' ⟨h1, h2, fun k hk => h3 k (by omega) hk, fun k hk => h4 k (Or.inr hk)⟩⟩))
theorem w_cp_43_53 {post : jPo} : ∀ (n i : Nat) (σ : jSt), i + n = 5 → (∀ σ', σ'.2 = σ.2 → (∀ c k, c ≠ 53 → σ'.1 c k = σ.1 c k) → (∀ k, i ≤ k → k < 5 → σ'.1 53 k = σ.1 43 k) → (∀ k, (k < i ∨ 5 ≤ k) → σ'.1 53 k = σ.1 53 k) → post none σ') → jv_wp (d + 1) post (79, 2, [some (.ref 43), some (.ref 53), some (.int (iI i))], [], σ) := by
  intro n
  induction n with
  | zero =>
    intro i σ hi h
    refine ok_X9_copy_43_53_L2 ⟨fun _ => h σ rfl (fun _ _ _ => rfl) (fun k h1 h2 => absurd h1 (by omega)) (fun _ _ => rfl), fun c => absurd ?_ c⟩
    rw [iI_ofNat, iI_le ⟨by omega, by omega⟩ ⟨by omega, by omega⟩]; omega
  | succ n ih =>
    intro i σ hi h
    have hc : (iI (i : Int)).toNatClampNeg = i := iI_clamp (by omega)
    have hin : vp_in (iI (i : Int)) 5 := (iI_in (by omega) 5).mpr (by omega)
    refine ok_X9_copy_43_53_L2 ⟨fun c => absurd c ?_, fun _ => ⟨hin, hin, ?_⟩⟩
    · rw [iI_ofNat, iI_le ⟨by omega, by omega⟩ ⟨by omega, by omega⟩]; omega
    · rw [hc, iI_add, show (i : Int) + 1 = ((i + 1 : Nat) : Int) by omega]
      refine ih (i + 1) _ (by omega) (fun σ' h1 h2 h3 h4 => h σ' h1 (fun c k hc => ?_) (fun k k1 k2 => ?_) (fun k k1 => ?_))
      · rw [h2 c k hc, jv_u_at, if_neg (by omega)]
      · by_cases e : k = i
        · rw [h4 k (by omega), jv_u_at, if_pos ⟨rfl, e⟩, e]
        · rw [h3 k (by omega) k2, jv_u_at, if_neg (by omega)]
      · rw [h4 k (by omega), jv_u_at, if_neg (by omega)]
theorem q_cp_43_53 (h : ∀ σ', cpS 43 53 5 σ σ' → K σ') : jq_V (d + 1) 79 [.ref 43, .ref 53] σ K :=
  ok_X9_copy_43_53 (w_cp_43_53 5 0 σ (by omega) (fun σ' h1 h2 h3 h4 => ⟨rfl, h σ' ⟨h1, h2, fun k hk => h3 k (by omega) hk, fun k hk => h4 k (Or.inr hk)⟩⟩))
theorem w_cp_44_54 {post : jPo} : ∀ (n i : Nat) (σ : jSt), i + n = 5 → (∀ σ', σ'.2 = σ.2 → (∀ c k, c ≠ 54 → σ'.1 c k = σ.1 c k) → (∀ k, i ≤ k → k < 5 → σ'.1 54 k = σ.1 44 k) → (∀ k, (k < i ∨ 5 ≤ k) → σ'.1 54 k = σ.1 54 k) → post none σ') → jv_wp (d + 1) post (79, 2, [some (.ref 44), some (.ref 54), some (.int (iI i))], [], σ) := by
  intro n
  induction n with
  | zero =>
    intro i σ hi h
    refine ok_X9_copy_44_54_L2 ⟨fun _ => h σ rfl (fun _ _ _ => rfl) (fun k h1 h2 => absurd h1 (by omega)) (fun _ _ => rfl), fun c => absurd ?_ c⟩
    rw [iI_ofNat, iI_le ⟨by omega, by omega⟩ ⟨by omega, by omega⟩]; omega
  | succ n ih =>
    intro i σ hi h
    have hc : (iI (i : Int)).toNatClampNeg = i := iI_clamp (by omega)
    have hin : vp_in (iI (i : Int)) 5 := (iI_in (by omega) 5).mpr (by omega)
    refine ok_X9_copy_44_54_L2 ⟨fun c => absurd c ?_, fun _ => ⟨hin, hin, ?_⟩⟩
    · rw [iI_ofNat, iI_le ⟨by omega, by omega⟩ ⟨by omega, by omega⟩]; omega
    · rw [hc, iI_add, show (i : Int) + 1 = ((i + 1 : Nat) : Int) by omega]
      refine ih (i + 1) _ (by omega) (fun σ' h1 h2 h3 h4 => h σ' h1 (fun c k hc => ?_) (fun k k1 k2 => ?_) (fun k k1 => ?_))
      · rw [h2 c k hc, jv_u_at, if_neg (by omega)]
      · by_cases e : k = i
        · rw [h4 k (by omega), jv_u_at, if_pos ⟨rfl, e⟩, e]
        · rw [h3 k (by omega) k2, jv_u_at, if_neg (by omega)]
      · rw [h4 k (by omega), jv_u_at, if_neg (by omega)]
theorem q_cp_44_54 (h : ∀ σ', cpS 44 54 5 σ σ' → K σ') : jq_V (d + 1) 79 [.ref 44, .ref 54] σ K :=
  ok_X9_copy_44_54 (w_cp_44_54 5 0 σ (by omega) (fun σ' h1 h2 h3 h4 => ⟨rfl, h σ' ⟨h1, h2, fun k hk => h3 k (by omega) hk, fun k hk => h4 k (Or.inr hk)⟩⟩))
theorem w_cp_48_55 {post : jPo} : ∀ (n i : Nat) (σ : jSt), i + n = 18 → (∀ σ', σ'.2 = σ.2 → (∀ c k, c ≠ 55 → σ'.1 c k = σ.1 c k) → (∀ k, i ≤ k → k < 18 → σ'.1 55 k = σ.1 48 k) → (∀ k, (k < i ∨ 18 ≤ k) → σ'.1 55 k = σ.1 55 k) → post none σ') → jv_wp (d + 1) post (79, 2, [some (.ref 48), some (.ref 55), some (.int (iI i))], [], σ) := by
  intro n
  induction n with
  | zero =>
    intro i σ hi h
    refine ok_X9_copy_48_55_L2 ⟨fun _ => h σ rfl (fun _ _ _ => rfl) (fun k h1 h2 => absurd h1 (by omega)) (fun _ _ => rfl), fun c => absurd ?_ c⟩
    rw [iI_ofNat, iI_le ⟨by omega, by omega⟩ ⟨by omega, by omega⟩]; omega
  | succ n ih =>
    intro i σ hi h
    have hc : (iI (i : Int)).toNatClampNeg = i := iI_clamp (by omega)
    have hin : vp_in (iI (i : Int)) 18 := (iI_in (by omega) 18).mpr (by omega)
    refine ok_X9_copy_48_55_L2 ⟨fun c => absurd c ?_, fun _ => ⟨hin, hin, ?_⟩⟩
    · rw [iI_ofNat, iI_le ⟨by omega, by omega⟩ ⟨by omega, by omega⟩]; omega
    · rw [hc, iI_add, show (i : Int) + 1 = ((i + 1 : Nat) : Int) by omega]
      refine ih (i + 1) _ (by omega) (fun σ' h1 h2 h3 h4 => h σ' h1 (fun c k hc => ?_) (fun k k1 k2 => ?_) (fun k k1 => ?_))
      · rw [h2 c k hc, jv_u_at, if_neg (by omega)]
      · by_cases e : k = i
        · rw [h4 k (by omega), jv_u_at, if_pos ⟨rfl, e⟩, e]
        · rw [h3 k (by omega) k2, jv_u_at, if_neg (by omega)]
      · rw [h4 k (by omega), jv_u_at, if_neg (by omega)]
theorem q_cp_48_55 (h : ∀ σ', cpS 48 55 18 σ σ' → K σ') : jq_V (d + 1) 79 [.ref 48, .ref 55] σ K :=
  ok_X9_copy_48_55 (w_cp_48_55 18 0 σ (by omega) (fun σ' h1 h2 h3 h4 => ⟨rfl, h σ' ⟨h1, h2, fun k hk => h3 k (by omega) hk, fun k hk => h4 k (Or.inr hk)⟩⟩))
theorem w_cp_49_36 {post : jPo} : ∀ (n i : Nat) (σ : jSt), i + n = 6 → (∀ σ', σ'.2 = σ.2 → (∀ c k, c ≠ 36 → σ'.1 c k = σ.1 c k) → (∀ k, i ≤ k → k < 6 → σ'.1 36 k = σ.1 49 k) → (∀ k, (k < i ∨ 6 ≤ k) → σ'.1 36 k = σ.1 36 k) → post none σ') → jv_wp (d + 1) post (79, 2, [some (.ref 49), some (.ref 36), some (.int (iI i))], [], σ) := by
  intro n
  induction n with
  | zero =>
    intro i σ hi h
    refine ok_X9_copy_49_36_L2 ⟨fun _ => h σ rfl (fun _ _ _ => rfl) (fun k h1 h2 => absurd h1 (by omega)) (fun _ _ => rfl), fun c => absurd ?_ c⟩
    rw [iI_ofNat, iI_le ⟨by omega, by omega⟩ ⟨by omega, by omega⟩]; omega
  | succ n ih =>
    intro i σ hi h
    have hc : (iI (i : Int)).toNatClampNeg = i := iI_clamp (by omega)
    have hin : vp_in (iI (i : Int)) 6 := (iI_in (by omega) 6).mpr (by omega)
    refine ok_X9_copy_49_36_L2 ⟨fun c => absurd c ?_, fun _ => ⟨hin, hin, ?_⟩⟩
    · rw [iI_ofNat, iI_le ⟨by omega, by omega⟩ ⟨by omega, by omega⟩]; omega
    · rw [hc, iI_add, show (i : Int) + 1 = ((i + 1 : Nat) : Int) by omega]
      refine ih (i + 1) _ (by omega) (fun σ' h1 h2 h3 h4 => h σ' h1 (fun c k hc => ?_) (fun k k1 k2 => ?_) (fun k k1 => ?_))
      · rw [h2 c k hc, jv_u_at, if_neg (by omega)]
      · by_cases e : k = i
        · rw [h4 k (by omega), jv_u_at, if_pos ⟨rfl, e⟩, e]
        · rw [h3 k (by omega) k2, jv_u_at, if_neg (by omega)]
      · rw [h4 k (by omega), jv_u_at, if_neg (by omega)]
theorem q_cp_49_36 (h : ∀ σ', cpS 49 36 6 σ σ' → K σ') : jq_V (d + 1) 79 [.ref 49, .ref 36] σ K :=
  ok_X9_copy_49_36 (w_cp_49_36 6 0 σ (by omega) (fun σ' h1 h2 h3 h4 => ⟨rfl, h σ' ⟨h1, h2, fun k hk => h3 k (by omega) hk, fun k hk => h4 k (Or.inr hk)⟩⟩))
theorem w_cp_50_38 {post : jPo} : ∀ (n i : Nat) (σ : jSt), i + n = 6 → (∀ σ', σ'.2 = σ.2 → (∀ c k, c ≠ 38 → σ'.1 c k = σ.1 c k) → (∀ k, i ≤ k → k < 6 → σ'.1 38 k = σ.1 50 k) → (∀ k, (k < i ∨ 6 ≤ k) → σ'.1 38 k = σ.1 38 k) → post none σ') → jv_wp (d + 1) post (79, 2, [some (.ref 50), some (.ref 38), some (.int (iI i))], [], σ) := by
  intro n
  induction n with
  | zero =>
    intro i σ hi h
    refine ok_X9_copy_50_38_L2 ⟨fun _ => h σ rfl (fun _ _ _ => rfl) (fun k h1 h2 => absurd h1 (by omega)) (fun _ _ => rfl), fun c => absurd ?_ c⟩
    rw [iI_ofNat, iI_le ⟨by omega, by omega⟩ ⟨by omega, by omega⟩]; omega
  | succ n ih =>
    intro i σ hi h
    have hc : (iI (i : Int)).toNatClampNeg = i := iI_clamp (by omega)
    have hin : vp_in (iI (i : Int)) 6 := (iI_in (by omega) 6).mpr (by omega)
    refine ok_X9_copy_50_38_L2 ⟨fun c => absurd c ?_, fun _ => ⟨hin, hin, ?_⟩⟩
    · rw [iI_ofNat, iI_le ⟨by omega, by omega⟩ ⟨by omega, by omega⟩]; omega
    · rw [hc, iI_add, show (i : Int) + 1 = ((i + 1 : Nat) : Int) by omega]
      refine ih (i + 1) _ (by omega) (fun σ' h1 h2 h3 h4 => h σ' h1 (fun c k hc => ?_) (fun k k1 k2 => ?_) (fun k k1 => ?_))
      · rw [h2 c k hc, jv_u_at, if_neg (by omega)]
      · by_cases e : k = i
        · rw [h4 k (by omega), jv_u_at, if_pos ⟨rfl, e⟩, e]
        · rw [h3 k (by omega) k2, jv_u_at, if_neg (by omega)]
      · rw [h4 k (by omega), jv_u_at, if_neg (by omega)]
theorem q_cp_50_38 (h : ∀ σ', cpS 50 38 6 σ σ' → K σ') : jq_V (d + 1) 79 [.ref 50, .ref 38] σ K :=
  ok_X9_copy_50_38 (w_cp_50_38 6 0 σ (by omega) (fun σ' h1 h2 h3 h4 => ⟨rfl, h σ' ⟨h1, h2, fun k hk => h3 k (by omega) hk, fun k hk => h4 k (Or.inr hk)⟩⟩))
theorem w_cp_51_39 {post : jPo} : ∀ (n i : Nat) (σ : jSt), i + n = 6 → (∀ σ', σ'.2 = σ.2 → (∀ c k, c ≠ 39 → σ'.1 c k = σ.1 c k) → (∀ k, i ≤ k → k < 6 → σ'.1 39 k = σ.1 51 k) → (∀ k, (k < i ∨ 6 ≤ k) → σ'.1 39 k = σ.1 39 k) → post none σ') → jv_wp (d + 1) post (79, 2, [some (.ref 51), some (.ref 39), some (.int (iI i))], [], σ) := by
  intro n
  induction n with
  | zero =>
    intro i σ hi h
    refine ok_X9_copy_51_39_L2 ⟨fun _ => h σ rfl (fun _ _ _ => rfl) (fun k h1 h2 => absurd h1 (by omega)) (fun _ _ => rfl), fun c => absurd ?_ c⟩
    rw [iI_ofNat, iI_le ⟨by omega, by omega⟩ ⟨by omega, by omega⟩]; omega
  | succ n ih =>
    intro i σ hi h
    have hc : (iI (i : Int)).toNatClampNeg = i := iI_clamp (by omega)
    have hin : vp_in (iI (i : Int)) 6 := (iI_in (by omega) 6).mpr (by omega)
    refine ok_X9_copy_51_39_L2 ⟨fun c => absurd c ?_, fun _ => ⟨hin, hin, ?_⟩⟩
    · rw [iI_ofNat, iI_le ⟨by omega, by omega⟩ ⟨by omega, by omega⟩]; omega
    · rw [hc, iI_add, show (i : Int) + 1 = ((i + 1 : Nat) : Int) by omega]
      refine ih (i + 1) _ (by omega) (fun σ' h1 h2 h3 h4 => h σ' h1 (fun c k hc => ?_) (fun k k1 k2 => ?_) (fun k k1 => ?_))
      · rw [h2 c k hc, jv_u_at, if_neg (by omega)]
      · by_cases e : k = i
        · rw [h4 k (by omega), jv_u_at, if_pos ⟨rfl, e⟩, e]
        · rw [h3 k (by omega) k2, jv_u_at, if_neg (by omega)]
      · rw [h4 k (by omega), jv_u_at, if_neg (by omega)]
theorem q_cp_51_39 (h : ∀ σ', cpS 51 39 6 σ σ' → K σ') : jq_V (d + 1) 79 [.ref 51, .ref 39] σ K :=
  ok_X9_copy_51_39 (w_cp_51_39 6 0 σ (by omega) (fun σ' h1 h2 h3 h4 => ⟨rfl, h σ' ⟨h1, h2, fun k hk => h3 k (by omega) hk, fun k hk => h4 k (Or.inr hk)⟩⟩))
theorem w_cp_52_42 {post : jPo} : ∀ (n i : Nat) (σ : jSt), i + n = 5 → (∀ σ', σ'.2 = σ.2 → (∀ c k, c ≠ 42 → σ'.1 c k = σ.1 c k) → (∀ k, i ≤ k → k < 5 → σ'.1 42 k = σ.1 52 k) → (∀ k, (k < i ∨ 5 ≤ k) → σ'.1 42 k = σ.1 42 k) → post none σ') → jv_wp (d + 1) post (79, 2, [some (.ref 52), some (.ref 42), some (.int (iI i))], [], σ) := by
  intro n
  induction n with
  | zero =>
    intro i σ hi h
    refine ok_X9_copy_52_42_L2 ⟨fun _ => h σ rfl (fun _ _ _ => rfl) (fun k h1 h2 => absurd h1 (by omega)) (fun _ _ => rfl), fun c => absurd ?_ c⟩
    rw [iI_ofNat, iI_le ⟨by omega, by omega⟩ ⟨by omega, by omega⟩]; omega
  | succ n ih =>
    intro i σ hi h
    have hc : (iI (i : Int)).toNatClampNeg = i := iI_clamp (by omega)
    have hin : vp_in (iI (i : Int)) 5 := (iI_in (by omega) 5).mpr (by omega)
    refine ok_X9_copy_52_42_L2 ⟨fun c => absurd c ?_, fun _ => ⟨hin, hin, ?_⟩⟩
    · rw [iI_ofNat, iI_le ⟨by omega, by omega⟩ ⟨by omega, by omega⟩]; omega
    · rw [hc, iI_add, show (i : Int) + 1 = ((i + 1 : Nat) : Int) by omega]
      refine ih (i + 1) _ (by omega) (fun σ' h1 h2 h3 h4 => h σ' h1 (fun c k hc => ?_) (fun k k1 k2 => ?_) (fun k k1 => ?_))
      · rw [h2 c k hc, jv_u_at, if_neg (by omega)]
      · by_cases e : k = i
        · rw [h4 k (by omega), jv_u_at, if_pos ⟨rfl, e⟩, e]
        · rw [h3 k (by omega) k2, jv_u_at, if_neg (by omega)]
      · rw [h4 k (by omega), jv_u_at, if_neg (by omega)]
theorem q_cp_52_42 (h : ∀ σ', cpS 52 42 5 σ σ' → K σ') : jq_V (d + 1) 79 [.ref 52, .ref 42] σ K :=
  ok_X9_copy_52_42 (w_cp_52_42 5 0 σ (by omega) (fun σ' h1 h2 h3 h4 => ⟨rfl, h σ' ⟨h1, h2, fun k hk => h3 k (by omega) hk, fun k hk => h4 k (Or.inr hk)⟩⟩))
theorem w_cp_53_43 {post : jPo} : ∀ (n i : Nat) (σ : jSt), i + n = 5 → (∀ σ', σ'.2 = σ.2 → (∀ c k, c ≠ 43 → σ'.1 c k = σ.1 c k) → (∀ k, i ≤ k → k < 5 → σ'.1 43 k = σ.1 53 k) → (∀ k, (k < i ∨ 5 ≤ k) → σ'.1 43 k = σ.1 43 k) → post none σ') → jv_wp (d + 1) post (79, 2, [some (.ref 53), some (.ref 43), some (.int (iI i))], [], σ) := by
  intro n
  induction n with
  | zero =>
    intro i σ hi h
    refine ok_X9_copy_53_43_L2 ⟨fun _ => h σ rfl (fun _ _ _ => rfl) (fun k h1 h2 => absurd h1 (by omega)) (fun _ _ => rfl), fun c => absurd ?_ c⟩
    rw [iI_ofNat, iI_le ⟨by omega, by omega⟩ ⟨by omega, by omega⟩]; omega
  | succ n ih =>
    intro i σ hi h
    have hc : (iI (i : Int)).toNatClampNeg = i := iI_clamp (by omega)
    have hin : vp_in (iI (i : Int)) 5 := (iI_in (by omega) 5).mpr (by omega)
    refine ok_X9_copy_53_43_L2 ⟨fun c => absurd c ?_, fun _ => ⟨hin, hin, ?_⟩⟩
    · rw [iI_ofNat, iI_le ⟨by omega, by omega⟩ ⟨by omega, by omega⟩]; omega
    · rw [hc, iI_add, show (i : Int) + 1 = ((i + 1 : Nat) : Int) by omega]
      refine ih (i + 1) _ (by omega) (fun σ' h1 h2 h3 h4 => h σ' h1 (fun c k hc => ?_) (fun k k1 k2 => ?_) (fun k k1 => ?_))
      · rw [h2 c k hc, jv_u_at, if_neg (by omega)]
      · by_cases e : k = i
        · rw [h4 k (by omega), jv_u_at, if_pos ⟨rfl, e⟩, e]
        · rw [h3 k (by omega) k2, jv_u_at, if_neg (by omega)]
      · rw [h4 k (by omega), jv_u_at, if_neg (by omega)]
theorem q_cp_53_43 (h : ∀ σ', cpS 53 43 5 σ σ' → K σ') : jq_V (d + 1) 79 [.ref 53, .ref 43] σ K :=
  ok_X9_copy_53_43 (w_cp_53_43 5 0 σ (by omega) (fun σ' h1 h2 h3 h4 => ⟨rfl, h σ' ⟨h1, h2, fun k hk => h3 k (by omega) hk, fun k hk => h4 k (Or.inr hk)⟩⟩))
theorem w_cp_54_44 {post : jPo} : ∀ (n i : Nat) (σ : jSt), i + n = 5 → (∀ σ', σ'.2 = σ.2 → (∀ c k, c ≠ 44 → σ'.1 c k = σ.1 c k) → (∀ k, i ≤ k → k < 5 → σ'.1 44 k = σ.1 54 k) → (∀ k, (k < i ∨ 5 ≤ k) → σ'.1 44 k = σ.1 44 k) → post none σ') → jv_wp (d + 1) post (79, 2, [some (.ref 54), some (.ref 44), some (.int (iI i))], [], σ) := by
  intro n
  induction n with
  | zero =>
    intro i σ hi h
    refine ok_X9_copy_54_44_L2 ⟨fun _ => h σ rfl (fun _ _ _ => rfl) (fun k h1 h2 => absurd h1 (by omega)) (fun _ _ => rfl), fun c => absurd ?_ c⟩
    rw [iI_ofNat, iI_le ⟨by omega, by omega⟩ ⟨by omega, by omega⟩]; omega
  | succ n ih =>
    intro i σ hi h
    have hc : (iI (i : Int)).toNatClampNeg = i := iI_clamp (by omega)
    have hin : vp_in (iI (i : Int)) 5 := (iI_in (by omega) 5).mpr (by omega)
    refine ok_X9_copy_54_44_L2 ⟨fun c => absurd c ?_, fun _ => ⟨hin, hin, ?_⟩⟩
    · rw [iI_ofNat, iI_le ⟨by omega, by omega⟩ ⟨by omega, by omega⟩]; omega
    · rw [hc, iI_add, show (i : Int) + 1 = ((i + 1 : Nat) : Int) by omega]
      refine ih (i + 1) _ (by omega) (fun σ' h1 h2 h3 h4 => h σ' h1 (fun c k hc => ?_) (fun k k1 k2 => ?_) (fun k k1 => ?_))
      · rw [h2 c k hc, jv_u_at, if_neg (by omega)]
      · by_cases e : k = i
        · rw [h4 k (by omega), jv_u_at, if_pos ⟨rfl, e⟩, e]
        · rw [h3 k (by omega) k2, jv_u_at, if_neg (by omega)]
      · rw [h4 k (by omega), jv_u_at, if_neg (by omega)]
theorem q_cp_54_44 (h : ∀ σ', cpS 54 44 5 σ σ' → K σ') : jq_V (d + 1) 79 [.ref 54, .ref 44] σ K :=
  ok_X9_copy_54_44 (w_cp_54_44 5 0 σ (by omega) (fun σ' h1 h2 h3 h4 => ⟨rfl, h σ' ⟨h1, h2, fun k hk => h3 k (by omega) hk, fun k hk => h4 k (Or.inr hk)⟩⟩))
theorem w_cp_55_48 {post : jPo} : ∀ (n i : Nat) (σ : jSt), i + n = 18 → (∀ σ', σ'.2 = σ.2 → (∀ c k, c ≠ 48 → σ'.1 c k = σ.1 c k) → (∀ k, i ≤ k → k < 18 → σ'.1 48 k = σ.1 55 k) → (∀ k, (k < i ∨ 18 ≤ k) → σ'.1 48 k = σ.1 48 k) → post none σ') → jv_wp (d + 1) post (79, 2, [some (.ref 55), some (.ref 48), some (.int (iI i))], [], σ) := by
  intro n
  induction n with
  | zero =>
    intro i σ hi h
    refine ok_X9_copy_55_48_L2 ⟨fun _ => h σ rfl (fun _ _ _ => rfl) (fun k h1 h2 => absurd h1 (by omega)) (fun _ _ => rfl), fun c => absurd ?_ c⟩
    rw [iI_ofNat, iI_le ⟨by omega, by omega⟩ ⟨by omega, by omega⟩]; omega
  | succ n ih =>
    intro i σ hi h
    have hc : (iI (i : Int)).toNatClampNeg = i := iI_clamp (by omega)
    have hin : vp_in (iI (i : Int)) 18 := (iI_in (by omega) 18).mpr (by omega)
    refine ok_X9_copy_55_48_L2 ⟨fun c => absurd c ?_, fun _ => ⟨hin, hin, ?_⟩⟩
    · rw [iI_ofNat, iI_le ⟨by omega, by omega⟩ ⟨by omega, by omega⟩]; omega
    · rw [hc, iI_add, show (i : Int) + 1 = ((i + 1 : Nat) : Int) by omega]
      refine ih (i + 1) _ (by omega) (fun σ' h1 h2 h3 h4 => h σ' h1 (fun c k hc => ?_) (fun k k1 k2 => ?_) (fun k k1 => ?_))
      · rw [h2 c k hc, jv_u_at, if_neg (by omega)]
      · by_cases e : k = i
        · rw [h4 k (by omega), jv_u_at, if_pos ⟨rfl, e⟩, e]
        · rw [h3 k (by omega) k2, jv_u_at, if_neg (by omega)]
      · rw [h4 k (by omega), jv_u_at, if_neg (by omega)]
theorem q_cp_55_48 (h : ∀ σ', cpS 55 48 18 σ σ' → K σ') : jq_V (d + 1) 79 [.ref 55, .ref 48] σ K :=
  ok_X9_copy_55_48 (w_cp_55_48 18 0 σ (by omega) (fun σ' h1 h2 h3 h4 => ⟨rfl, h σ' ⟨h1, h2, fun k hk => h3 k (by omega) hk, fun k hk => h4 k (Or.inr hk)⟩⟩))
end Cp
end
section
/-! the reference: what is said then, what is told of one, who should live where -/
section M2
variable {α : rA} {σ : jSt} {d : Nat} {k : Int32 → jSt → Prop}
theorem w_speakers (hV : rV α) {post : jPo} {dy : Nat} (hd : dy < 2000) : ∀ (n p : Nat) (σ : jSt), rM α σ → (∀ σ', eS dS σ σ' → post (some (.int (iI (spB α dy : Nat)))) σ') → p + n = α 0 0 →
    jv_wp (d + 4) post (97, 4, [some (.ref 34), some (.int (iI dy)), some (.int (iI (bsN (sp α dy) p : Nat))), some (.int (iI p))], [], σ) := by
  have h6 := hV.P
  intro n
  induction n with
  | zero =>
    intro p σ hM h hp
    refine ok_X9_speakers_L4 ⟨fun _ => ?_, fun c => absurd ?_ c⟩
    · have := h σ eS.rf
      unfold spB at this
      rwa [show α 0 0 = p by omega] at this
    · rw [hM.P, iI_le ⟨by omega, by omega⟩ ⟨by omega, by omega⟩]; omega
  | succ n ih =>
    intro p σ hM h hp
    refine ok_X9_speakers_L4 ⟨fun c => absurd c ?_, fun _ => ?_⟩
    · rw [hM.P, iI_le ⟨by omega, by omega⟩ ⟨by omega, by omega⟩]; omega
    · refine q_maySpeak hV hM (by omega) hd (fun σ' hE => ?_)
      have ih := ih (p + 1) σ' (hM.mv (hE.wk dS_m)) (fun σ'' hE' => h σ'' (hE.tr hE')) (by omega)
      unfold bsN at ih
      rw [show (iI 0 : Int32) = iI ((0 : Nat) : Int) from rfl, iI_or, iI_add, show (p : Int) + 1 = ((p + 1 : Nat) : Int) by omega, iI_sbit (by omega), jb_0, Nat.or_zero]
      refine ⟨fun c => ?_, fun c => ?_⟩
      · rwa [c] at ih
      · rwa [show sp α dy p = true by simpa using c] at ih
theorem q_speakers (hV : rV α) (hM : rM α σ) {dy : Nat} (hd : dy < 2000) (h : ∀ σ', eS dS σ σ' → k (iI (spB α dy : Nat)) σ') : jq_I (d + 4) 97 [.ref 34, .int (iI dy)] σ k :=
  ok_X9_speakers (w_speakers hV hd (α 0 0) 0 σ hM (fun σ' hE => ⟨_, rfl, h σ' hE⟩) (by omega))
theorem w_ones {post : jPo} {s : Nat} (hs : s < 2147483648) (h : post (some (.int (iI (pcN 12 s : Nat)))) σ) : ∀ (n i : Nat), i + n = 12 → jv_wp (d + 1) post (98, 4, [some (.int (iI s)), some (.int (iI (pcN i s : Nat))), some (.int (iI i))], [], σ) := by
  intro n
  induction n with
  | zero =>
    intro i hi
    refine ok_X9_ones_L4 ⟨fun _ => ?_, fun c => absurd ?_ c⟩
    · rwa [show 12 = i by omega] at h
    · rw [iI_le ⟨by omega, by omega⟩ ⟨by omega, by omega⟩]; omega
  | succ n ih =>
    intro i hi
    refine ok_X9_ones_L4 ⟨fun c => absurd c ?_, fun _ => ?_⟩
    · rw [iI_le ⟨by omega, by omega⟩ ⟨by omega, by omega⟩]; omega
    · have ih := ih (i + 1) (by omega)
      unfold pcN at ih
      rw [iI_bit hs (by omega), iI_add, show (i : Int) + 1 = ((i + 1 : Nat) : Int) by omega]
      have e : iI ((pcN i s : Nat) : Int) + jb (s.testBit i) = iI ((pcN i s + s / 2 ^ i % 2 : Nat) : Int) := by
        rw [tb_mod]
        cases s.testBit i
        · rw [← jb_f, iI_add]; exact congrArg iI (by simp)
        · rw [← jb_t, iI_add]; exact congrArg iI (by simp)
      rw [e]; exact ih
theorem q_ones {s : Nat} (hs : s < 2147483648) (h : k (iI (pcN 12 s : Nat)) σ) : jq_I (d + 1) 98 [.int (iI s)] σ k :=
  ok_X9_ones (w_ones hs ⟨_, rfl, h⟩ 12 0 (by omega))
theorem q_begin {K : jSt → Prop} (hV : rV α) (hM : rM α σ) (h : ∀ σ', eS tS σ σ' → rT (α 8) (α 0 1) σ' → K σ') : jq_V (d + 2) 99 [.ref 34] σ K := by
  have h5 := hV.M
  refine ok_X9_begin (q_cp_43_45 (fun s1 c1 => q_cp_44_46 (fun s2 c2 => ⟨rfl, h s2 ⟨c2.1.trans c1.1, fun c k n => ?_⟩ (fun m hm => ⟨?_, fun h2 => ?_⟩)⟩)))
  · unfold tS at n
    rw [c2.2.1 c k (by omega), c1.2.1 c k (by omega)]
  · rw [c2.2.1 45 m (by omega), c1.2.2.1 m (by omega)]; exact hM.st hm
  · rw [c2.2.2.1 m (by omega), c1.2.1 44 m (by omega)]; exact hM.on hm h2
theorem q_valueOf (hV : rV α) (hM : rM α σ) {m a dy : Nat} (hm : m < α 0 1) (ha : 2 ≤ a) (had : a ≤ dy + 2) (hd : dy < 100000) (h46 : σ.1 46 m = iI ((a : Int) - 2)) (h : k (iI (sfo α m a dy : Nat)) σ) : jq_I (d + 1) 101 [.ref 34, .int (iI m), .int (iI dy)] σ k := by
  have h5 := hV.M
  have h6 := hV.P
  have hv := hV.m hm
  have hva := hV.p hv.1
  have hvb := hV.p hv.2.1
  have hc : (iI (m : Int)).toNatClampNeg = m := iI_clamp (by omega)
  have hca : (iI ((α 5 m : Nat) : Int)).toNatClampNeg = α 5 m := iI_clamp (by omega)
  have hcb : (iI ((α 6 m : Nat) : Int)).toNatClampNeg = α 6 m := iI_clamp (by omega)
  have hin : vp_in (iI (m : Int)) 5 := (iI_in (by omega) 5).mpr (by omega)
  have hina : vp_in (iI ((α 5 m : Nat) : Int)) 6 := (iI_in (by omega) 6).mpr (by omega)
  have hinb : vp_in (iI ((α 6 m : Nat) : Int)) 6 := (iI_in (by omega) 6).mpr (by omega)
  refine ok_X9_valueOf ?_
  unfold vc_X9_valueOf
  dsimp only
  rw [hc, hM.ak hm, hM.aw hm, hM.wo hm, h46, hca, hM.me hv.1, hcb, hM.kd hv.2.1, iI_sub, iI_sub, iI_sub, iI_sub, iI_sub]
  rw [iI_le0 (a := (dy : Int) - ((a : Int) - 2) - ((α 4 (α 5 m) : Nat) : Int)) ⟨by omega, by omega⟩, iI_le0 (a := ((α 7 m : Nat) : Int)) ⟨by omega, by omega⟩, iI_le0 (a := ((α 7 m : Nat) : Int) - ((dy : Int) - ((a : Int) - 2) - ((α 4 (α 5 m) : Nat) : Int))) ⟨by omega, by omega⟩, iI_eq (a := ((α 1 (α 6 m) : Nat) : Int)) (b := 1) ⟨by omega, by omega⟩ ⟨by omega, by omega⟩, iI_eq (a := ((α 1 (α 6 m) : Nat) : Int)) (b := 4) ⟨by omega, by omega⟩ ⟨by omega, by omega⟩]
  have hdiv : ∀ z : Int, 0 ≤ z → z < 1000 → iI z / iI 2 = iI ((z.toNat / 2 : Nat) : Int) := fun z h1 h2 => by
    rw [show z = ((z.toNat : Nat) : Int) by omega, show (iI 2 : Int32) = iI ((2 : Nat) : Int) from rfl, iI_div (by omega) (by omega) (by omega)]; simp
  unfold sfo at h
  dsimp only at h
  have fin : ∀ z : Int, ((if α 1 (α 6 m) = 4 then α 7 m - (dy + 2 - a - α 4 (α 5 m)) - 1 else if α 1 (α 6 m) = 1 then (α 7 m - (dy + 2 - a - α 4 (α 5 m))) / 2 else α 7 m - (dy + 2 - a - α 4 (α 5 m)) : Nat) : Int) = z → (∃ x, some (Value.int (iI z)) = some (.int x) ∧ k x σ) := fun z e => ⟨_, rfl, by rw [← e]; exact h⟩
  refine ⟨hin, hin, hina, fun c => ⟨hin, fun c1 => ⟨hin, hinb, fun c2 => ⟨fun c3 => ?_, fun c3 => ?_⟩, fun c2 => ?_⟩, fun c1 => ⟨hin, hinb, fun c2 => ⟨fun c3 => fin _ ?_, fun c3 => ⟨fun c4 => ?_, fun c4 => fin _ ?_⟩⟩, fun c2 => ?_⟩⟩, fun c => ⟨hin, fun c1 => ⟨hin, hinb, fun c2 => ⟨fun c3 => fin _ ?_, fun c3 => fin _ ?_⟩, fun c2 => ?_⟩, fun c1 => ⟨hin, hinb, fun c2 => ⟨fun c3 => fin _ ?_, fun c3 => ⟨fun c4 => ?_, fun c4 => fin _ ?_⟩⟩, fun c2 => ?_⟩⟩⟩
  · exfalso; omega
  · exfalso; omega
  · exfalso; omega
  · rw [if_neg (by omega), if_neg (by omega)]; omega
  · exfalso; omega
  · rw [if_pos (by omega)]; omega
  · rw [hdiv _ (by omega) (by omega)]; refine fin _ ?_; rw [if_neg (by omega), if_pos (by omega)]; omega
  · rw [if_neg (by omega), if_neg (by omega)]; omega
  · rw [if_pos (by omega)]; omega
  · rw [hdiv _ (by omega) (by omega)]; refine fin _ ?_; rw [if_neg (by omega), if_pos (by omega)]; omega
  · rw [if_neg (by omega), if_neg (by omega)]; omega
  · exfalso; omega
  · rw [if_pos (by omega)]; omega
  · rw [hdiv _ (by omega) (by omega)]; refine fin _ ?_; rw [if_neg (by omega), if_pos (by omega)]; omega
theorem stN_0 {a : Nat} : stN a = 0 ↔ a = 0 := by unfold stN; split <;> (try split) <;> omega
theorem stN_2 {a : Nat} : stN a = 2 ↔ a = 1 := by unfold stN; split <;> (try split) <;> omega
theorem q_canThen (hV : rV α) (hM : rM α σ) {a : Nat → Nat} (hT : rT a (α 0 1) σ) {m dy : Nat} (hm : m < α 0 1) (ha : a m < 100000) (hd : dy < 2000) (h : ∀ σ', eS dS σ σ' → k (jb (cbs α m (a m) dy)) σ') : jq_I (d + 4) 102 [.ref 34, .int (iI m), .int (iI dy)] σ k := by
  have h5 := hV.M
  have h6 := hV.P
  have hv := hV.m hm
  have hc : (iI (m : Int)).toNatClampNeg = m := iI_clamp (by omega)
  have hin : vp_in (iI (m : Int)) 5 := (iI_in (by omega) 5).mpr (by omega)
  have hs := stN_lt (a m)
  refine ok_X9_canThen ⟨hin, ?_⟩
  rw [hc, (hT m hm).1, hM.ak hm, hM.aw hm, iI_eq ⟨by omega, by omega⟩ ⟨by omega, by omega⟩, iI_eq ⟨by omega, by omega⟩ ⟨by omega, by omega⟩]
  unfold cbs at h
  refine ⟨fun c => ⟨hin, q_maySpeak hV hM hv.1 hd (fun σ' hE => ⟨jb_z _, _, rfl, ?_⟩)⟩, fun c => ⟨fun c1 => ⟨hin, ?_⟩, fun c1 => ⟨_, rfl, ?_⟩⟩⟩
  · have h0 : a m = 0 := stN_0.mp (by omega)
    have := h σ' hE
    rwa [if_neg (by omega), if_pos h0] at this
  · have h2 : 2 ≤ a m := stN_1.mp (by omega)
    rw [(hT m hm).2 h2, iI_le ⟨by omega, by omega⟩ ⟨by omega, by omega⟩]
    refine ⟨fun c2 => ⟨_, rfl, ?_⟩, fun c2 => ⟨hin, q_maySpeak hV hM hv.2.1 hd (fun σ' hE => ⟨fun c3 => ⟨_, rfl, ?_⟩, fun c3 => ⟨_, rfl, ?_⟩⟩)⟩⟩
    · have := h σ eS.rf
      rw [if_neg (by omega), if_neg (by omega), decide_eq_false (by omega), Bool.false_and] at this
      rw [jb_f]; exact this
    · have := h σ' hE
      rw [jb_0] at c3
      rw [if_neg (by omega), if_neg (by omega), c3, Bool.and_false] at this
      rw [jb_f]; exact this
    · have := h σ' hE
      rw [jb_0] at c3
      rw [if_neg (by omega), if_neg (by omega), decide_eq_true (by omega), show sp α dy (α 6 m) = true by simpa using c3] at this
      rw [jb_t]; exact this
  · have h1 : a m = 1 := stN_2.mp (by omega)
    have := h σ eS.rf
    rw [if_pos h1] at this
    rw [jb_f]; exact this
def aU (a : Nat → Nat) (m v : Nat) : Nat → Nat := fun j => if j = m then v else a j
theorem q_sayThen (hV : rV α) (hM : rM α σ) {a : Nat → Nat} (hT : rT a (α 0 1) σ) {m dy : Nat} (hm : m < α 0 1) (h1 : a m ≠ 1) (had : a m ≤ dy + 2) (hd : dy < 100000)
    (h0 : a m = 0 → ∀ σ', eS tS σ σ' → rT (aU a m (dy + 2)) (α 0 1) σ' → k (iI (-1)) σ') (h2 : 2 ≤ a m → ∀ σ', eS tS σ σ' → rT (aU a m 1) (α 0 1) σ' → k (iI (sfo α m (a m) dy : Nat)) σ') : jq_I (d + 2) 103 [.ref 34, .int (iI m), .int (iI dy)] σ k := by
  have h5 := hV.M
  have hc : (iI (m : Int)).toNatClampNeg = m := iI_clamp (by omega)
  have hin : vp_in (iI (m : Int)) 5 := (iI_in (by omega) 5).mpr (by omega)
  have hs := stN_lt (a m)
  refine ok_X9_sayThen ⟨hin, ?_⟩
  rw [hc, (hT m hm).1, iI_eq0 ⟨by omega, by omega⟩]
  refine ⟨fun c => ⟨hin, ?_⟩, fun c => ⟨hin, hin, ⟨_, rfl, ?_⟩⟩⟩
  · have c0 : ¬ a m = 0 := fun e => c (by rw [stN_0.mpr e]; rfl)
    have hE : eS tS σ (jv_u σ 45 m (iI 2)) := eS.u (by unfold tS; omega)
    refine q_valueOf hV (hM.mv (hE.wk tS_m)) hm (a := a m) (by omega) had hd ?_ ⟨_, rfl, h2 (by omega) _ hE (fun j hj => ⟨?_, fun g => ?_⟩)⟩
    · rw [jv_u_at, if_neg (by omega)]; exact (hT m hm).2 (by omega)
    · rw [jv_u_at]
      unfold aU
      by_cases e : j = m
      · rw [if_pos ⟨rfl, e⟩, if_pos e]; rfl
      · rw [if_neg (by omega), if_neg e]; exact (hT j hj).1
    · unfold aU at g ⊢
      by_cases e : j = m
      · rw [if_pos e] at g; omega
      · rw [if_neg e] at g ⊢
        rw [jv_u_at, if_neg (by omega)]; exact (hT j hj).2 g
  · have c0 : a m = 0 := stN_0.mp (by omega)
    refine h0 c0 _ ((eS.u (by unfold tS; omega)).tr (eS.u (by unfold tS; omega))) (fun j hj => ⟨?_, fun g => ?_⟩)
    · rw [jv_u_at, if_neg (by omega), jv_u_at]
      unfold aU
      by_cases e : j = m
      · rw [if_pos ⟨rfl, e⟩, if_pos e, show stN (dy + 2) = 1 from stN_1.mpr (by omega)]; rfl
      · rw [if_neg (by omega), if_neg e]; exact (hT j hj).1
    · unfold aU at g ⊢
      rw [jv_u_at]
      by_cases e : j = m
      · rw [if_pos ⟨rfl, e⟩, if_pos e]; exact congrArg iI (by omega)
      · rw [if_neg e] at g ⊢
        rw [if_neg (by omega), jv_u_at, if_neg (by omega)]; exact (hT j hj).2 g
theorem w_speakingDaysM (hV : rV α) {post : jPo} {p : Nat} (hp : p < α 0 0) : ∀ (n i : Nat) (σ : jSt), rM α σ → (∀ σ', eS dS σ σ' → post (some (.int (iI (cnN (fun n => sp α (α 0 2 + n) p) 31 : Nat)))) σ') → i + n = 31 →
    jv_wp (d + 4) post (104, 4, [some (.ref 34), some (.int (iI p)), some (.int (iI (cnN (fun n => sp α (α 0 2 + n) p) i : Nat))), some (.int (iI i))], [], σ) := by
  have htd := hV.td
  intro n
  induction n with
  | zero =>
    intro i σ hM h hi
    refine ok_X9_speakingDays_L4 ⟨fun _ => ?_, fun c => absurd ?_ c⟩
    · have := h σ eS.rf
      rwa [show 31 = i by omega] at this
    · rw [iI_le ⟨by omega, by omega⟩ ⟨by omega, by omega⟩]; omega
  | succ n ih =>
    intro i σ hM h hi
    refine ok_X9_speakingDays_L4 ⟨fun c => absurd c ?_, fun _ => ?_⟩
    · rw [iI_le ⟨by omega, by omega⟩ ⟨by omega, by omega⟩]; omega
    · rw [hM.td, iI_add, show ((α 0 2 : Nat) : Int) + (i : Int) = ((α 0 2 + i : Nat) : Int) by omega]
      refine q_maySpeak hV hM hp (by omega) (fun σ' hE => ?_)
      have ih := ih (i + 1) σ' (hM.mv (hE.wk dS_m)) (fun σ'' hE' => h σ'' (hE.tr hE')) (by omega)
      unfold cnN at ih
      rw [iI_add, iI_add, iI_add, Int.add_zero, show (i : Int) + 1 = ((i + 1 : Nat) : Int) by omega, jb_0]
      refine ⟨fun c => ?_, fun c => ?_⟩
      · rwa [c] at ih
      · rw [show sp α (α 0 2 + i) p = true by simpa using c] at ih
        exact ih
theorem q_speakingDaysM (hV : rV α) (hM : rM α σ) {p : Nat} (hp : p < α 0 0) (h : ∀ σ', eS dS σ σ' → k (iI (cnN (fun n => sp α (α 0 2 + n) p) 31 : Nat)) σ') : jq_I (d + 4) 104 [.ref 34, .int (iI p)] σ k :=
  ok_X9_speakingDays (w_speakingDaysM hV hp 31 0 σ hM (fun σ' hE => ⟨_, rfl, h σ' hE⟩) (by omega))
theorem w_speakingSorts (hV : rV α) {post : jPo} {p day : Nat} (hp : p < α 0 0) {v2 : Int32} (hM : rM α σ) (e1 : σ.1 34 17 = iI ((mad day % 32 : Nat) : Int)) (e2 : σ.1 34 18 = iI ((mad day / 32 : Nat) : Int)) (h : post (some (.int (iI (spS (vo day) (α 3 p) : Nat)))) σ) : ∀ (n i : Nat), i + n = 10 →
    jv_wp (d + 3) post (129, 15, [some (.ref 34), some (.int (iI p)), some (.int v2), some (.int (iI (bsN (fun i => spk (vo day) (i % 5) (i / 5) (α 3 p)) i : Nat))), some (.int (iI i))], [], σ) := by
  have h6 := hV.P
  have hc : (iI (p : Int)).toNatClampNeg = p := iI_clamp (by omega)
  have hin : vp_in (iI (p : Int)) 6 := (iI_in (by omega) 6).mpr (by omega)
  intro n
  induction n with
  | zero =>
    intro i hi
    refine ok_X9_speakingSorts_L15 ⟨fun _ => ?_, fun c => absurd ?_ c⟩
    · unfold spS at h
      rwa [show 10 = i by omega] at h
    · rw [iI_le ⟨by omega, by omega⟩ ⟨by omega, by omega⟩]; omega
  | succ n ih =>
    intro i hi
    refine ok_X9_speakingSorts_L15 ⟨fun c => absurd c ?_, fun _ => ⟨hin, ?_⟩⟩
    · rw [iI_le ⟨by omega, by omega⟩ ⟨by omega, by omega⟩]; omega
    · have ih := ih (i + 1) (by omega)
      unfold bsN at ih
      have hr : iI (i : Int) - iI (i : Int) / iI 5 * iI 5 = iI ((i % 5 : Nat) : Int) := iI_rem (b := 5) (by omega) (by omega) (by omega)
      have hq : iI (i : Int) / iI 5 = iI ((i / 5 : Nat) : Int) := iI_div (b := 5) (by omega) (by omega) (by omega)
      rw [hr, hq, hc, hM.bk hp]
      refine q_isSpeaking (by omega) (by omega) (hV.p hp).2.2.1 e1 e2 ?_
      rw [show (iI 0 : Int32) = iI ((0 : Nat) : Int) from rfl, iI_or, iI_add, show (i : Int) + 1 = ((i + 1 : Nat) : Int) by omega, iI_sbit (by omega), jb_0, Nat.or_zero]
      refine ⟨fun c => ?_, fun c => ?_⟩
      · rwa [c] at ih
      · rwa [show spk (vo day) (i % 5) (i / 5) (α 3 p) = true by simpa using c] at ih
theorem q_speakingSorts (hV : rV α) (hM : rM α σ) {p n : Nat} (hp : p < α 0 0) (hn : n ≤ 31) (h : ∀ σ', eS dS σ σ' → k (iI (spS (vo (α 0 2 + n)) (α 3 p) : Nat)) σ') : jq_I (d + 3) 129 [.ref 34, .int (iI p), .int (iI n)] σ k := by
  have htd := hV.td
  refine ok_X9_speakingSorts ?_
  unfold vc_X9_speakingSorts
  rw [hM.td, iI_add, show ((α 0 2 : Nat) : Int) + (n : Int) = ((α 0 2 + n : Nat) : Int) by omega]
  refine q_layDate (by omega) (fun σ' hE f1 f2 f3 => ?_)
  exact w_speakingSorts hV hp (hM.mv (hE.wk dS_m)) f1 f2 ⟨_, rfl, h σ' hE⟩ 10 0 (by omega)
theorem and_comp : ∀ S : Nat, S < 1024 → 1023 - S = 1023 ^^^ S := by decide +kernel
theorem and_not {s S : Nat} (hs : s < 1024) (hS : S < 1024) : s &&& (1023 - S) = s ^^^ (s &&& S) := by
  rw [and_comp S hS]
  apply Nat.eq_of_testBit_eq
  intro i
  rw [Nat.testBit_and, Nat.testBit_xor, Nat.testBit_xor, Nat.testBit_and, show (1023 : Nat) = 2 ^ 10 - 1 from rfl, Nat.testBit_two_pow_sub_one]
  by_cases c : i < 10
  · simp only [c, decide_true]
    cases s.testBit i <;> cases S.testBit i <;> rfl
  · have : s.testBit i = false := Nat.testBit_lt_two_pow (Nat.lt_of_lt_of_le hs (Nat.le_trans (show 1024 ≤ 2 ^ 10 by decide) (Nat.pow_le_pow_right (by omega) (by omega))))
    simp [this]
theorem w_sortsOf (hV : rV α) {post : jPo} {p : Nat} (hp : p < α 0 0) : ∀ (n i : Nat) (z : Option Value) (σ : jSt), rM α σ → (∀ σ', eS dS σ σ' → post (some (.int (iI (soN α p (α 0 4) : Nat)))) σ') → i + n = α 0 4 →
    jv_wp (d + 4) post (130, 6, [some (.ref 34), some (.int (iI p)), some (.int (iI (soN α p i : Nat))), some (.int (iI ((3 * i : Nat) : Int))), z], [], σ) := by
  have h6 := hV.P
  have hsz := hV.sz
  intro n
  induction n with
  | zero =>
    intro i z σ hM h hi
    refine ok_X9_sortsOf_L6 ⟨fun _ => ?_, fun c => absurd ?_ c⟩
    · have := h σ eS.rf
      rwa [show α 0 4 = i by omega] at this
    · rw [hM.sz, iI_mul, iI_le ⟨by omega, by omega⟩ ⟨by omega, by omega⟩]; omega
  | succ n ih =>
    intro i z σ hM h hi
    have hv := hV.s (i := i) (by omega)
    have hc0 : (iI ((3 * i : Nat) : Int)).toNatClampNeg = 3 * i := iI_clamp (by omega)
    have hc1 : (iI ((3 * i + 1 : Nat) : Int)).toNatClampNeg = 3 * i + 1 := iI_clamp (by omega)
    have hc2 : (iI ((3 * i + 2 : Nat) : Int)).toNatClampNeg = 3 * i + 2 := iI_clamp (by omega)
    have hi0 : vp_in (iI ((3 * i : Nat) : Int)) 18 := (iI_in (by omega) 18).mpr (by omega)
    have hi1 : vp_in (iI ((3 * i + 1 : Nat) : Int)) 18 := (iI_in (by omega) 18).mpr (by omega)
    have hi2 : vp_in (iI ((3 * i + 2 : Nat) : Int)) 18 := (iI_in (by omega) 18).mpr (by omega)
    refine ok_X9_sortsOf_L6 ⟨fun c => absurd c ?_, fun _ => ?_⟩
    · rw [hM.sz, iI_mul, iI_le ⟨by omega, by omega⟩ ⟨by omega, by omega⟩]; omega
    · rw [iI_add, iI_add, iI_add, show ((3 * i : Nat) : Int) + 1 = ((3 * i + 1 : Nat) : Int) by omega, show ((3 * i : Nat) : Int) + 2 = ((3 * i + 2 : Nat) : Int) by omega, show ((3 * i : Nat) : Int) + 3 = ((3 * (i + 1) : Nat) : Int) by omega, hc0, hc1, hc2, (hM.see (i := i) (by omega)).2.1]
      refine ⟨hi1, q_speakingSorts hV hM hp hv.2.1 (fun σ' hE => ⟨hi0, ?_⟩)⟩
      have hM' := hM.mv (hE.wk dS_m)
      have ih := fun z => ih (i + 1) z σ' hM' (fun σ'' hE' => h σ'' (hE.tr hE')) (by omega)
      unfold soN at ih
      have hS := spS_lt (vo (α 0 2 + α 10 i)) (α 3 p)
      have hs := soN_lt α p i
      rw [(hM'.see (i := i) (by omega)).1, (hM'.see (i := i) (by omega)).2.2, iI_eq ⟨by omega, by omega⟩ ⟨by omega, by omega⟩, iI_eq ⟨by omega, by omega⟩ ⟨by omega, by omega⟩, iI_sub, show (1023 : Int) - ((spS (vo (α 0 2 + α 10 i)) (α 3 p) : Nat) : Int) = ((1023 - spS (vo (α 0 2 + α 10 i)) (α 3 p) : Nat) : Int) by omega, iI_and, iI_and, and_not hs hS]
      refine ⟨fun c => ?_, fun c => ⟨hi2, fun c2 => ?_, fun c2 => ?_⟩⟩
      · rw [if_neg (by omega)] at ih; exact ih _
      · rw [if_pos (by omega), if_neg (by omega)] at ih; exact ih _
      · rw [if_pos (by omega), if_pos (by omega)] at ih; exact ih _
theorem q_sortsOf (hV : rV α) (hM : rM α σ) {p : Nat} (hp : p < α 0 0) (h : ∀ σ', eS dS σ σ' → k (iI (soN α p (α 0 4) : Nat)) σ') : jq_I (d + 4) 130 [.ref 34, .int (iI p)] σ k :=
  ok_X9_sortsOf (w_sortsOf hV hp (α 0 4) 0 none σ hM (fun σ' hE => ⟨_, rfl, h σ' hE⟩) (by omega))
theorem pc_1024 : ∀ s : Nat, s < 1024 → pcN 12 s ≤ 10 := by decide +kernel
theorem liW_10 (α : rA) (p n : Nat) {s : Nat} (hs : s < 1024) : liW α p s n ≤ 10 := by
  have h1 := pc_1024 s hs
  have h2 := pc_1024 (s &&& spS (vo (α 0 2 + n)) (α 3 p)) (and_lt1024 hs)
  unfold liW
  dsimp only
  split <;> omega
theorem w_listenOf (hV : rV α) {post : jPo} {p s : Nat} (hp : p < α 0 0) (hs : s < 1024) (hs0 : s ≠ 0) : ∀ (n i : Nat) (z6 z7 z8 : Option Value) (be le : Int32) (σ : jSt), rM α σ → (∀ σ', eS dS σ σ' → post (some (.int (iI (liB α p s 1023 32 : Nat)))) σ') → i + n = 32 →
    (i = 0 → le = iI 11) → (0 < i → be = iI (liB α p s 1023 i : Nat) ∧ le = iI (liM α p s 1023 i : Nat)) →
    jv_wp (d + 4) post (131, 15, [some (.ref 34), some (.int (iI p)), some (.int (iI s)), some (.int be), some (.int le), some (.int (iI i)), z6, z7, z8], [], σ) := by
  have htd := hV.td
  intro n
  induction n with
  | zero =>
    intro i z6 z7 z8 be le σ hM h hi h0 h1
    refine ok_X9_listenOf_L15 ⟨fun _ => ?_, fun c => absurd ?_ c⟩
    · have := h σ eS.rf
      rw [show 32 = i by omega] at this
      rw [(h1 (by omega)).1]; exact this
    · rw [iI_le ⟨by omega, by omega⟩ ⟨by omega, by omega⟩]; omega
  | succ n ih =>
    intro i z6 z7 z8 be le σ hM h hi h0 h1
    have hw := liW_10 α p i hs
    have hm := liM_le α p s 1023 i
    refine ok_X9_listenOf_L15 ⟨fun c => absurd c ?_, fun _ => ⟨fun c => absurd c ?_, fun _ => ?_⟩⟩
    · rw [iI_le ⟨by omega, by omega⟩ ⟨by omega, by omega⟩]; omega
    · rw [iI_eq0 ⟨by omega, by omega⟩]; omega
    · refine q_speakingSorts hV hM hp (by omega) (fun σ' hE => ?_)
      have hM' := hM.mv (hE.wk dS_m)
      rw [iI_and]
      have ha := and_lt1024 (b := spS (vo (α 0 2 + i)) (α 3 p)) hs
      refine q_ones (by omega) (q_ones (by omega) ?_)
      have hsp := pcN_split s (spS (vo (α 0 2 + i)) (α 3 p)) 12
      have hl := pcN_le s 12
      rw [iI_sub, show ((pcN 12 s : Nat) : Int) - ((pcN 12 (s &&& spS (vo (α 0 2 + i)) (α 3 p)) : Nat) : Int) = ((pcN 12 s - pcN 12 (s &&& spS (vo (α 0 2 + i)) (α 3 p)) : Nat) : Int) by omega, iI_add, show (i : Int) + 1 = ((i + 1 : Nat) : Int) by omega]
      dsimp only
      have nx : ∀ (w : Nat) (z6 z7 z8 : Option Value), w = liW α p s i → (le ≤ iI (w : Int) → jv_wp (d + 4) post (131, 15, [some (.ref 34), some (.int (iI p)), some (.int (iI s)), some (.int be), some (.int le), some (.int (iI ((i + 1 : Nat) : Int))), z6, z7, z8], [], σ')) ∧ (¬ le ≤ iI (w : Int) → jv_wp (d + 4) post (131, 15, [some (.ref 34), some (.int (iI p)), some (.int (iI s)), some (.int (iI i)), some (.int (iI (w : Int))), some (.int (iI ((i + 1 : Nat) : Int))), z6, z7, z8], [], σ')) := by
        intro w z6 z7 z8 ew
        have ih := fun z6 z7 z8 be le => ih (i + 1) z6 z7 z8 be le σ' hM' (fun σ'' hE' => h σ'' (hE.tr hE')) (by omega) (fun e => absurd e (by omega))
        by_cases c0 : i = 0
        · subst c0
          rw [h0 rfl, iI_le ⟨by omega, by omega⟩ ⟨by omega, by omega⟩]
          refine ⟨fun c => by omega, fun _ => ih _ _ _ _ _ (fun _ => ?_)⟩
          subst ew
          have : liW α p s 0 < 1023 := by omega
          simp [liB, liM, this]
        · obtain ⟨g1, g2⟩ := h1 (by omega)
          rw [g1, g2, iI_le ⟨by omega, by omega⟩ ⟨by omega, by omega⟩]
          refine ⟨fun c => ih _ _ _ _ _ (fun _ => ?_), fun c => ih _ _ _ _ _ (fun _ => ?_)⟩
          · rw [liB, liM, if_neg (by omega), if_neg (by omega)]; exact ⟨rfl, rfl⟩
          · rw [liB, liM, if_pos (by omega), if_pos (by omega), ew]; exact ⟨rfl, rfl⟩
      have hW : liW α p s i = if pcN 12 (s &&& spS (vo (α 0 2 + i)) (α 3 p)) < pcN 12 s - pcN 12 (s &&& spS (vo (α 0 2 + i)) (α 3 p)) then pcN 12 s - pcN 12 (s &&& spS (vo (α 0 2 + i)) (α 3 p)) else pcN 12 (s &&& spS (vo (α 0 2 + i)) (α 3 p)) := rfl
      rw [iI_le (a := ((pcN 12 (s &&& spS (vo (α 0 2 + i)) (α 3 p)) : Nat) : Int)) ⟨by omega, by omega⟩ ⟨by omega, by omega⟩]
      refine ⟨fun c => ?_, fun c => ?_⟩
      · have nx := fun z6 z7 z8 => nx (pcN 12 s - pcN 12 (s &&& spS (vo (α 0 2 + i)) (α 3 p))) z6 z7 z8 (by rw [hW]; split <;> omega)
        exact ⟨fun c2 => ⟨fun _ => (nx _ _ _).1 c2, fun c3 => absurd c2 c3⟩, fun c2 => ⟨fun c3 => absurd c3 c2, fun _ => (nx _ _ _).2 c2⟩⟩
      · have nx := fun z6 z7 z8 => nx (pcN 12 (s &&& spS (vo (α 0 2 + i)) (α 3 p))) z6 z7 z8 (by rw [hW]; split <;> omega)
        exact ⟨fun c2 => ⟨fun _ => (nx _ _ _).1 c2, fun c3 => absurd c2 c3⟩, fun c2 => ⟨fun c3 => absurd c3 c2, fun _ => (nx _ _ _).2 c2⟩⟩
theorem q_listenOf (hV : rV α) (hM : rM α σ) {p : Nat} (hp : p < α 0 0) (h : ∀ σ', eS dS σ σ' → k (iI (lsN α p)) σ') : jq_I (d + 5) 131 [.ref 34, .int (iI p)] σ k := by
  have hs := soN_lt α p (α 0 4)
  unfold lsN at h
  refine ok_X9_listenOf (q_sortsOf hV hM hp (fun σ' hE => ?_))
  by_cases c : soN α p (α 0 4) = 0
  · rw [if_pos c] at h
    rw [c]
    refine ok_X9_listenOf_L15 ⟨fun c2 => absurd c2 ?_, fun _ => ⟨fun _ => ⟨_, rfl, h σ' hE⟩, fun c2 => absurd iI_0.symm c2⟩⟩
    rw [iI_le ⟨by omega, by omega⟩ ⟨by omega, by omega⟩]; omega
  · rw [if_neg c] at h
    exact w_listenOf hV hp hs c 32 0 none none none _ _ σ' (hM.mv (hE.wk dS_m)) (fun σ'' hE' => ⟨_, rfl, h σ'' (hE.tr hE')⟩) (by omega) (fun _ => rfl) (fun e => absurd e (by omega))
end M2
end
section
/-! the reference: how soon, who should live where, counts -/
section M3
variable {α : rA} {σ : jSt} {d : Nat} {k : Int32 → jSt → Prop}
theorem aU_eq (a : Nat → Nat) (m v : Nat) : aU a m v m = v := if_pos rfl
theorem w_soonOf (hV : rV α) {post : jPo} {m : Nat} (hm : m < α 0 1) : ∀ (n i : Nat) (a : Nat → Nat) (σ : jSt), rM α σ → rT a (α 0 1) σ → a m ≤ α 0 2 + i + 2 → (∀ σ', eS dtS σ σ' → post (some (.int (iI (snN α m n i (a m))))) σ') → i + n = 71 →
    jv_wp (d + 5) post (108, 6, [some (.ref 34), some (.int (iI m)), some (.int (iI i))], [], σ) := by
  have htd := hV.td
  have h5 := hV.M
  have hc : (iI (m : Int)).toNatClampNeg = m := iI_clamp (by omega)
  have hin : vp_in (iI (m : Int)) 5 := (iI_in (by omega) 5).mpr (by omega)
  intro n
  induction n with
  | zero =>
    intro i a σ hM hT ha h hi
    refine ok_X9_soonOf_L6 ⟨fun _ => h σ eS.rf, fun c => absurd ?_ c⟩
    rw [iI_le ⟨by omega, by omega⟩ ⟨by omega, by omega⟩]; omega
  | succ n ih =>
    intro i a σ hM hT ha h hi
    refine ok_X9_soonOf_L6 ⟨fun c => absurd c ?_, fun _ => ?_⟩
    · rw [iI_le ⟨by omega, by omega⟩ ⟨by omega, by omega⟩]; omega
    · rw [hM.td, iI_add, show ((α 0 2 : Nat) : Int) + (i : Int) = ((α 0 2 + i : Nat) : Int) by omega]
      refine q_canThen hV hM hT hm (by omega) (by omega) (fun s1 hE1 => ?_)
      have hM1 := hM.mv (hE1.wk dS_m)
      have hT1 := hT.mv hE1
      rw [iI_add, show (i : Int) + 1 = ((i + 1 : Nat) : Int) by omega, jb_0]
      unfold snN at h
      refine ⟨fun c => ?_, fun c => ?_⟩
      · refine ih (i + 1) a s1 hM1 hT1 (by omega) (fun σ' hE => ?_) (by omega)
        have := h σ' ((hE1.wk dS_dt).tr hE)
        rwa [c] at this
      · have c : cbs α m (a m) (α 0 2 + i) = true := by simpa using c
        have a1 : a m ≠ 1 := fun e => by rw [e] at c; simp [cbs] at c
        rw [c, if_pos rfl] at h
        rw [hM1.td, iI_add, show ((α 0 2 : Nat) : Int) + (i : Int) = ((α 0 2 + i : Nat) : Int) by omega]
        refine q_sayThen hV hM1 hT1 hm a1 (by omega) (by omega) (fun h0 s2 hE2 hT2 => ?_) (fun h2 s2 hE2 hT2 => ?_)
        · rw [if_pos h0] at h
          rw [hc, (hT2 m hm).1, aU_eq, show stN (α 0 2 + i + 2) = 1 from stN_1.mpr (by omega), iI_eq ⟨by omega, by omega⟩ ⟨by omega, by omega⟩]
          refine ⟨hin, fun _ => ?_, fun c => absurd c (by omega)⟩
          refine ih (i + 1) _ s2 (hM1.mv (hE2.wk tS_m)) hT2 (by rw [aU_eq]; omega) (fun σ' hE => ?_) (by omega)
          rw [aU_eq]
          exact h σ' (((hE1.wk dS_dt).tr (hE2.wk tS_dt)).tr hE)
        · rw [if_neg (by omega)] at h
          rw [hc, (hT2 m hm).1, aU_eq]
          refine ⟨hin, fun c => absurd rfl c, fun _ => h s2 ((hE1.wk dS_dt).tr (hE2.wk tS_dt))⟩
theorem q_soonOf (hV : rV α) (hM : rM α σ) {m : Nat} (hm : m < α 0 1) (h : ∀ σ', eS dtS σ σ' → k (iI (snN α m 71 0 (α 8 m))) σ') : jq_I (d + 5) 108 [.ref 34, .int (iI m)] σ k := by
  have hv := hV.m hm
  refine ok_X9_soonOf (q_begin hV hM (fun s1 hE1 hT1 => ?_))
  exact w_soonOf hV hm 71 0 (α 8) s1 (hM.mv (hE1.wk tS_m)) hT1 (by omega) (fun σ' hE => ⟨_, rfl, h σ' ((hE1.wk tS_dt).tr hE)⟩) (by omega)
theorem w_standing (hV : rV α) (hM : rM α σ) {post : jPo} {so : Nat} (hso : so < 3) (h : post (some (.int (iI (cnN (fun m => stN (α 8 m) == so) (α 0 1) : Nat)))) σ) :
    ∀ (n i : Nat), i + n = α 0 1 → jv_wp (d + 1) post (136, 4, [some (.ref 34), some (.int (iI so)), some (.int (iI (cnN (fun m => stN (α 8 m) == so) i : Nat))), some (.int (iI i))], [], σ) := by
  have h5 := hV.M
  intro n
  induction n with
  | zero =>
    intro i hi
    refine ok_X9_standing_L4 ⟨fun _ => ?_, fun c => absurd ?_ c⟩
    · rwa [show α 0 1 = i by omega] at h
    · rw [hM.M, iI_le ⟨by omega, by omega⟩ ⟨by omega, by omega⟩]; omega
  | succ n ih =>
    intro i hi
    have hc : (iI (i : Int)).toNatClampNeg = i := iI_clamp (by omega)
    have hin : vp_in (iI (i : Int)) 5 := (iI_in (by omega) 5).mpr (by omega)
    refine ok_X9_standing_L4 ⟨fun c => absurd c ?_, fun _ => ⟨hin, ?_⟩⟩
    · rw [hM.M, iI_le ⟨by omega, by omega⟩ ⟨by omega, by omega⟩]; omega
    · have ih := ih (i + 1) (by omega)
      unfold cnN at ih
      have hs := stN_lt (α 8 i)
      rw [hc, hM.st (by omega), iI_add, iI_add, iI_add, Int.add_zero, show (i : Int) + 1 = ((i + 1 : Nat) : Int) by omega, iI_eq ⟨by omega, by omega⟩ ⟨by omega, by omega⟩]
      refine ⟨fun c => ?_, fun c => ?_⟩
      · rw [if_neg (by simp; omega)] at ih; exact ih
      · rw [if_pos (by simp; omega)] at ih; exact ih
theorem q_standingM (hV : rV α) (hM : rM α σ) {so : Nat} (hso : so < 3) (h : k (iI (cnN (fun m => stN (α 8 m) == so) (α 0 1) : Nat)) σ) : jq_I (d + 1) 136 [.ref 34, .int (iI so)] σ k :=
  ok_X9_standing (w_standing hV hM hso ⟨_, rfl, h⟩ (α 0 1) 0 (by omega))
theorem pc_bs (f : Nat → Bool) : ∀ n k, pcN k (bsN f n) = cnN f (if k < n then k else n)
  | n, 0 => by cases n <;> simp [pcN, cnN]
  | n, k + 1 => by
    have ih := pc_bs f n k
    unfold pcN
    rw [ih, tb_mod, bsN_bit]
    by_cases c : k < n
    · by_cases c2 : k + 1 < n
      · rw [if_pos c, if_pos c2, cnN]; simp [c]
      · rw [if_pos c, if_neg c2, show n = k + 1 by omega, cnN]; simp
    · rw [if_neg c, if_neg (show ¬ k + 1 < n by omega)]; simp [c]
theorem w_onRight (hV : rV α) (hM : rM α σ) {post : jPo} (h : post (some (.int (iI (cnN (fun p => α 3 p == 1) (α 0 0) : Nat)))) σ) :
    ∀ (n i : Nat), i + n = α 0 0 → jv_wp (d + 1) post (137, 4, [some (.ref 34), some (.int (iI (cnN (fun p => α 3 p == 1) i : Nat))), some (.int (iI i))], [], σ) := by
  have h6 := hV.P
  intro n
  induction n with
  | zero =>
    intro i hi
    refine ok_X9_onRight_L4 ⟨fun _ => ?_, fun c => absurd ?_ c⟩
    · rwa [show α 0 0 = i by omega] at h
    · rw [hM.P, iI_le ⟨by omega, by omega⟩ ⟨by omega, by omega⟩]; omega
  | succ n ih =>
    intro i hi
    have hc : (iI (i : Int)).toNatClampNeg = i := iI_clamp (by omega)
    have hin : vp_in (iI (i : Int)) 6 := (iI_in (by omega) 6).mpr (by omega)
    refine ok_X9_onRight_L4 ⟨fun c => absurd c ?_, fun _ => ⟨hin, ?_⟩⟩
    · rw [hM.P, iI_le ⟨by omega, by omega⟩ ⟨by omega, by omega⟩]; omega
    · have ih := ih (i + 1) (by omega)
      unfold cnN at ih
      have hb := (hV.p (p := i) (by omega)).2.2.1
      rw [hc, hM.bk (by omega), iI_add, iI_add, show (i : Int) + 1 = ((i + 1 : Nat) : Int) by omega]
      have e : ((cnN (fun p => α 3 p == 1) i : Nat) : Int) + ((α 3 i : Nat) : Int) = ((cnN (fun p => α 3 p == 1) i + (if (α 3 i == 1) = true then 1 else 0) : Nat) : Int) := by
        rcases (show α 3 i = 0 ∨ α 3 i = 1 by omega) with e | e <;> simp [e]
      rw [e]; exact ih
theorem q_onRight (hV : rV α) (hM : rM α σ) (h : k (iI (cnN (fun p => α 3 p == 1) (α 0 0) : Nat)) σ) : jq_I (d + 1) 137 [.ref 34] σ k :=
  ok_X9_onRight (w_onRight hV hM ⟨_, rfl, h⟩ (α 0 0) 0 (by omega))
/-- the river with these on the right -/
def rR (α : rA) (r : Nat) : rA := fun a b => if a = 3 then (if r.testBit b then 1 else 0) else α a b
theorem rR_ne (α : rA) (r : Nat) {a b : Nat} (h : a ≠ 3) : rR α r a b = α a b := if_neg h
theorem rM.cg {β γ : rA} (h : rM β σ) (h1 : ∀ a b, a ≠ 3 → γ a b = β a b) (h2 : ∀ b, b < β 0 0 → γ 3 b = β 3 b) : rM γ σ := by
  obtain ⟨g1, g2, g3, g4, g5, g6, g7⟩ := h
  unfold rM
  simp only [h1 0 _ (by omega), h1 1 _ (by omega), h1 2 _ (by omega), h1 4 _ (by omega), h1 5 _ (by omega), h1 6 _ (by omega), h1 7 _ (by omega), h1 8 _ (by omega), h1 9 _ (by omega), h1 10 _ (by omega), h1 11 _ (by omega)]
  exact ⟨g1, g2, g3, g4, fun p hp => by rw [h2 p hp]; exact g5 p hp, g6, g7⟩
theorem rV.cg {β γ : rA} (h : rV β) (h1 : ∀ a b, a ≠ 3 → γ a b = β a b) (h2 : ∀ b, b < β 0 0 → γ 3 b < 2) : rV γ := by
  obtain ⟨g1, g2, g3, g4, g5, g6, g7, g8⟩ := h
  unfold rV
  simp only [h1 0 _ (by omega), h1 1 _ (by omega), h1 2 _ (by omega), h1 4 _ (by omega), h1 5 _ (by omega), h1 6 _ (by omega), h1 7 _ (by omega), h1 8 _ (by omega), h1 9 _ (by omega), h1 10 _ (by omega), h1 11 _ (by omega)]
  exact ⟨g1, g2, g3, g4, fun p hp => ⟨(g5 p hp).1, (g5 p hp).2.1, h2 p hp, (g5 p hp).2.2.2⟩, g6, g7, g8⟩
def bS (c k : Nat) : Prop := (c = 38 ∧ k < 6) ∨ dS c k
theorem dS_b (c k : Nat) (h : dS c k) : bS c k := Or.inr h
theorem w_setBanks (hV : rV α) {post : jPo} {r : Nat} (hr : r < 64) : ∀ (n p : Nat) (β : rA) (σ : jSt), rM β σ → (∀ a b, a ≠ 3 → β a b = α a b) → (∀ b, b < p → β 3 b = if r.testBit b then 1 else 0) → p + n = α 0 0 →
    (∀ σ', eS bS σ σ' → rM (rR α r) σ' → jv_wp (d + 1) post (122, 31, [some (.ref 34), some (.int (iI r)), some (.int (iI 0)), some (.int (iI 0))], [], σ')) →
    jv_wp (d + 1) post (122, 2, [some (.ref 34), some (.int (iI r)), some (.int (iI p)), none], [], σ) := by
  have h6 := hV.P
  intro n
  induction n with
  | zero =>
    intro p β σ hM hb hp hn h
    refine ok_X9_settledBy_L2 ⟨fun _ => ?_, fun c => absurd ?_ c⟩
    · refine h σ eS.rf (hM.cg (fun a b e => by rw [rR_ne α r e, hb a b e]) (fun b hb' => ?_))
      rw [hb 0 0 (by omega)] at hb'
      rw [hp b (by omega)]; rfl
    · rw [hM.P, hb 0 0 (by omega), iI_le ⟨by omega, by omega⟩ ⟨by omega, by omega⟩]; omega
  | succ n ih =>
    intro p β σ hM hb hp hn h
    have hc : (iI (p : Int)).toNatClampNeg = p := iI_clamp (by omega)
    have hin : vp_in (iI (p : Int)) 6 := (iI_in (by omega) 6).mpr (by omega)
    refine ok_X9_settledBy_L2 ⟨fun c => absurd c ?_, fun _ => ⟨hin, ?_⟩⟩
    · rw [hM.P, hb 0 0 (by omega), iI_le ⟨by omega, by omega⟩ ⟨by omega, by omega⟩]; omega
    · rw [hc, iI_bit (by omega) (by omega), iI_add, show (p : Int) + 1 = ((p + 1 : Nat) : Int) by omega]
      refine ih (p + 1) (rU β 3 p (if r.testBit p then 1 else 0)) _ ?_ (fun a b e => by unfold rU; rw [if_neg (by omega)]; exact hb a b e) (fun b hb' => ?_) (by omega) (fun σ' hE => h σ' ((eS.u (Or.inl ⟨rfl, by omega⟩)).tr hE))
      · have e0 : ∀ a b, a ≠ 3 → rU β 3 p (if r.testBit p then 1 else 0) a b = β a b := fun a b e => by unfold rU; rw [if_neg (by omega)]
        obtain ⟨g1, g2, g3, g4, g5, g6, g7⟩ := hM
        unfold rM
        simp only [e0 0 _ (by omega), e0 1 _ (by omega), e0 2 _ (by omega), e0 4 _ (by omega), e0 5 _ (by omega), e0 6 _ (by omega), e0 7 _ (by omega), e0 8 _ (by omega), e0 9 _ (by omega), e0 10 _ (by omega), e0 11 _ (by omega)]
        simp (decide := true) only [jv_u_at, false_and, ite_false]
        refine ⟨g1, g2, g3, g4, fun q hq => ⟨(g5 q hq).1, (g5 q hq).2.1, ?_, (g5 q hq).2.2.2⟩, g6, g7⟩
        unfold rU
        by_cases e : q = p
        · subst e
          simp only [and_self, if_true]
          cases r.testBit q <;> decide +kernel
        · simp only [e, and_false, if_false]; exact (g5 q hq).2.2.1
      · unfold rU
        by_cases e : b = p
        · subst e; simp
        · rw [if_neg (by omega)]; exact hp b (by omega)
theorem sp_rR {α : rA} {r dy p : Nat} (hp : p < α 0 0) : sp (rR α r) dy p = (spI α dy r).testBit p := by
  unfold spI sp
  rw [bsN_bit, rR_ne α r (by omega), rR_ne α r (by omega)]
  simp [hp, rR]
theorem w_settledByM (hV : rV α) {post : jPo} {r : Nat} : ∀ (n m : Nat) (σ : jSt), rM (rR α r) σ → (∀ σ', eS dS σ σ' → post (some (.int (iI (lvF α r : Nat)))) σ') → m + n = α 0 1 →
    jv_wp (d + 4) post (122, 31, [some (.ref 34), some (.int (iI r)), some (.int (iI (cnN (sbF α (spI α (α 0 2) r) (spI α (α 0 2 + 1) r)) m : Nat))), some (.int (iI m))], [], σ) := by
  have h5 := hV.M
  have htd := hV.td
  have hV' : rV (rR α r) := hV.cg (fun a b e => rR_ne α r e) (fun b _ => by unfold rR; rw [if_pos rfl]; split <;> omega)
  intro n
  induction n with
  | zero =>
    intro m σ hM h hm
    refine ok_X9_settledBy_L31 ⟨fun _ => ?_, fun c => absurd ?_ c⟩
    · have := h σ eS.rf
      unfold lvF at this
      rwa [show α 0 1 = m by omega] at this
    · rw [hM.M, rR_ne α r (by omega), iI_le ⟨by omega, by omega⟩ ⟨by omega, by omega⟩]; omega
  | succ n ih =>
    intro m σ hM h hm
    have hv := hV.m (m := m) (by omega)
    have hmR : m < rR α r 0 1 := by rw [rR_ne α r (by omega)]; omega
    have hc : (iI (m : Int)).toNatClampNeg = m := iI_clamp (by omega)
    have hin : vp_in (iI (m : Int)) 5 := (iI_in (by omega) 5).mpr (by omega)
    have hs := stN_lt (α 8 m)
    refine ok_X9_settledBy_L31 ⟨fun c => absurd c ?_, fun _ => ⟨hin, ?_⟩⟩
    · rw [hM.M, rR_ne α r (by omega), iI_le ⟨by omega, by omega⟩ ⟨by omega, by omega⟩]; omega
    · have ih := fun σ hM h => ih (m + 1) σ hM h (by omega)
      unfold cnN at ih
      unfold sbF at ih
      rw [hc, hM.st hmR, rR_ne α r (by omega), iI_eq0 ⟨by omega, by omega⟩, hM.ak hmR, rR_ne α r (by omega), hM.td, rR_ne α r (by omega), iI_add, iI_add, iI_add, Int.add_zero, show (m : Int) + 1 = ((m + 1 : Nat) : Int) by omega]
      have e0 : ((stN (α 8 m) : Nat) : Int) = 0 ↔ α 8 m = 0 := by rw [← stN_0]; omega
      rw [e0]
      refine ⟨fun c => ?_, fun c => ⟨hin, q_maySpeak hV' hM (by rw [rR_ne α r (by omega)]; exact hv.1) (by omega) (fun s1 hE1 => ⟨fun c1 => ?_, fun c1 => ⟨hin, ?_⟩⟩)⟩⟩
      · have := ih σ hM h
        rwa [if_neg (by simp [c])] at this
      · rw [jb_0, sp_rR hv.1] at c1
        have := ih s1 (hM.mv (hE1.wk dS_m)) (fun σ' hE => h σ' (hE1.tr hE))
        rwa [if_neg (by simp [c1])] at this
      · have hM1 := hM.mv (hE1.wk dS_m)
        rw [jb_0, sp_rR hv.1] at c1
        have c1 : (spI α (α 0 2) r).testBit (α 5 m) = true := by simpa using c1
        rw [hM1.aw hmR, rR_ne α r (by omega), hM1.td, rR_ne α r (by omega), iI_add, show ((α 0 2 : Nat) : Int) + 1 = ((α 0 2 + 1 : Nat) : Int) by omega]
        refine q_maySpeak hV' hM1 (by rw [rR_ne α r (by omega)]; exact hv.2.1) (by omega) (fun s2 hE2 => ?_)
        have := ih s2 (hM1.mv (hE2.wk dS_m)) (fun σ' hE => h σ' ((hE1.tr hE2).tr hE))
        rw [jb_0, sp_rR hv.2.1]
        refine ⟨fun c2 => ?_, fun c2 => ?_⟩
        · rwa [if_neg (by simp [c2])] at this
        · rwa [if_pos (by simp [c, c1]; simpa using c2)] at this
theorem q_settledByM (hV : rV α) {β : rA} (hM : rM β σ) (hb : ∀ a b, a ≠ 3 → β a b = α a b) {r : Nat} (hr : r < 64) (h : ∀ σ', eS bS σ σ' → rM (rR α r) σ' → k (iI (lvF α r : Nat)) σ') : jq_I (d + 4) 122 [.ref 34, .int (iI r)] σ k :=
  ok_X9_settledBy (w_setBanks hV hr (α 0 0) 0 β σ hM hb (fun b hb => absurd hb (by omega)) (by omega) (fun s1 hE1 hM1 => w_settledByM hV (α 0 1) 0 s1 hM1 (fun s2 hE2 => ⟨_, rfl, h s2 (hE1.tr (hE2.wk dS_b)) (hM1.mv (hE2.wk dS_m))⟩) (by omega)))
theorem w_now (hV : rV α) (hM : rM α σ) {post : jPo} {wh : Int32} (h : jv_wp (d + 1) post (123, 48, [some (.ref 34), some (.int wh), some (.int (iI (rt α : Nat))), some (.int (iI 0)), some (.int (iI (-1))), some (.int (iI 0)), none], [], σ)) : ∀ (n i : Nat), i + n = α 0 0 →
    jv_wp (d + 1) post (123, 15, [some (.ref 34), some (.int wh), some (.int (iI (bsN (fun p => α 3 p == 1) i : Nat))), some (.int (iI i)), none, none, none], [], σ) := by
  have h6 := hV.P
  intro n
  induction n with
  | zero =>
    intro i hi
    refine ok_X9_liveOf_L15 ⟨fun _ => ?_, fun c => absurd ?_ c⟩
    · unfold rt at h
      rwa [show α 0 0 = i by omega] at h
    · rw [hM.P, iI_le ⟨by omega, by omega⟩ ⟨by omega, by omega⟩]; omega
  | succ n ih =>
    intro i hi
    have hc : (iI (i : Int)).toNatClampNeg = i := iI_clamp (by omega)
    have hin : vp_in (iI (i : Int)) 6 := (iI_in (by omega) 6).mpr (by omega)
    refine ok_X9_liveOf_L15 ⟨fun c => absurd c ?_, fun _ => ⟨hin, ?_⟩⟩
    · rw [hM.P, iI_le ⟨by omega, by omega⟩ ⟨by omega, by omega⟩]; omega
    · have ih := ih (i + 1) (by omega)
      unfold bsN at ih
      have hb := (hV.p (p := i) (by omega)).2.2.1
      rw [hc, hM.bk (by omega), iI_add, show (i : Int) + 1 = ((i + 1 : Nat) : Int) by omega]
      rcases (show α 3 i = 0 ∨ α 3 i = 1 by omega) with e | e
      · rw [e, iI_shl (by omega) (by omega), iI_or, Nat.zero_mul, Nat.or_zero]
        rwa [if_neg (by simp [e])] at ih
      · rw [e, show (iI ((1 : Nat) : Int) : Int32) = iI 1 from rfl, iI_sbit (by omega)]
        rwa [if_pos (by simp [e])] at ih
theorem w_live (hV : rV α) {post : jPo} {wh : Int32} : ∀ (n r : Nat) (z : Option Value) (be mo : Int32) (β : rA) (σ : jSt), rM β σ → (∀ a b, a ≠ 3 → β a b = α a b) → r + n = 2 ^ α 0 0 → (r = 0 → mo = iI (-1)) → (0 < r → be = iI (lvC α r : Nat) ∧ mo = iI (lvW α (lvC α r) : Nat)) →
    (∀ σ', eS bS σ σ' → jq_V d 79 [.ref 47, .ref 38] σ' (fun s => ((¬ wh = 0 → post (some (.int (iI (lvC α (2 ^ α 0 0) : Nat)))) s) ∧ (wh = 0 → post (some (.int (iI (lvF α (lvC α (2 ^ α 0 0)) : Nat)))) s)))) → ∀ (d4 : Nat), d = d4 + 4 →
    jv_wp (d + 1) post (123, 48, [some (.ref 34), some (.int wh), some (.int (iI (rt α : Nat))), some (.int be), some (.int mo), some (.int (iI r)), z], [], σ) := by
  have h6 := hV.P
  have hp6 : 2 ^ α 0 0 ≤ 64 := Nat.le_trans (Nat.pow_le_pow_right (by omega) h6) (show 2 ^ 6 ≤ 64 by decide)
  have hp0 : 0 < 2 ^ α 0 0 := Nat.two_pow_pos _
  have hrt := lt64 (rt_lt α) h6
  intro n
  induction n with
  | zero =>
    intro r z be mo β σ hM hb hr h0 h1 h d4 hd
    have hF := lvF_le hV (lvC α (2 ^ α 0 0))
    have hD := lvD_le hV (r := lvC α (2 ^ α 0 0)) (by have := lvC_lt α (2 ^ α 0 0) hp0; omega)
    obtain ⟨g1, g2⟩ := h1 (by omega)
    rw [show r = 2 ^ α 0 0 by omega] at g1 g2
    have e10 : mo / iI 10 = iI ((lvF α (lvC α (2 ^ α 0 0)) : Nat) : Int) := by
      rw [g2, show (iI 10 : Int32) = iI ((10 : Nat) : Int) from rfl, iI_div (by unfold lvW; omega) (by omega) (by omega)]
      exact congrArg (fun n : Nat => iI (n : Int)) (by unfold lvW; omega)
    refine ok_X9_liveOf_L48 ⟨fun _ => ?_, fun c => absurd ?_ c⟩
    · rw [e10, g1]; exact h σ eS.rf
    · rw [hM.P, hb 0 0 (by omega), show (iI 1 : Int32) = iI ((1 : Nat) : Int) from rfl, iI_shl (by omega) (by omega), Nat.one_mul, iI_le ⟨by omega, by omega⟩ ⟨by omega, by omega⟩]; omega
  | succ n ih =>
    intro r z be mo β σ hM hb hr h0 h1 h d4 hd
    subst hd
    refine ok_X9_liveOf_L48 ⟨fun c => absurd c ?_, fun _ => ?_⟩
    · rw [hM.P, hb 0 0 (by omega), show (iI 1 : Int32) = iI ((1 : Nat) : Int) from rfl, iI_shl (by omega) (by omega), Nat.one_mul, iI_le ⟨by omega, by omega⟩ ⟨by omega, by omega⟩]; omega
    · refine q_settledByM hV hM hb (by omega) (fun s1 hE1 hM1 => ?_)
      rw [iI_xor]
      refine q_ones (Nat.lt_trans (Nat.xor_lt_two_pow (n := 6) (show r < 64 by omega) hrt) (by omega)) ?_
      have hF := lvF_le hV r
      have hD := lvD_le hV (r := r) (by omega)
      have e1 : iI 10 * iI ((lvF α r : Nat) : Int) + iI 6 - iI ((pcN 12 (r ^^^ rt α) : Nat) : Int) = iI ((lvW α r : Nat) : Int) := by
        rw [iI_mul, iI_add, iI_sub]
        unfold lvW
        have : pcN 12 (r ^^^ rt α) = lvD α r := rfl
        exact congrArg iI (by omega)
      rw [e1, iI_add, show (r : Int) + 1 = ((r + 1 : Nat) : Int) by omega]
      dsimp only
      have ih := fun z be mo h0 => ih (r + 1) z be mo (rR α r) s1 hM1 (fun a b e => rR_ne α r e) (by omega) (fun e => absurd e (by omega)) h0 (fun σ' hE => h σ' (hE1.tr hE)) d4 rfl
      have hWr : lvW α r < 100 := by unfold lvW; omega
      by_cases c0 : r = 0
      · subst c0
        rw [h0 rfl, iI_le ⟨by omega, by omega⟩ ⟨by omega, by omega⟩]
        exact ⟨fun c => absurd c (by omega), fun _ => ⟨fun c => absurd c (by omega), fun _ => ih _ _ _ (fun _ => ⟨rfl, rfl⟩)⟩⟩
      · obtain ⟨g1, g2⟩ := h1 (by omega)
        have hF' := lvF_le hV (lvC α r)
        have hW' : lvW α (lvC α r) < 100 := by unfold lvW; omega
        have ec : lvC α (r + 1) = if lvW α (lvC α r) < lvW α r then r else lvC α r := by
          rw [lvC, if_neg c0]
        rw [g1, g2, iI_le ⟨by omega, by omega⟩ ⟨by omega, by omega⟩]
        refine ⟨fun c => ⟨fun _ => ih _ _ _ (fun _ => ?_), fun c2 => absurd c c2⟩, fun c => ⟨fun c2 => absurd c2 c, fun _ => ih _ _ _ (fun _ => ?_)⟩⟩
        · rw [ec, if_neg (by omega)]; exact ⟨rfl, rfl⟩
        · rw [ec, if_pos (by omega)]; exact ⟨rfl, rfl⟩
theorem q_liveOf (hV : rV α) (hM : rM α σ) {wh : Int32} (h : ∀ σ', eS mS σ σ' → (¬ wh = 0 → k (iI (lvC α (2 ^ α 0 0) : Nat)) σ') ∧ (wh = 0 → k (iI (lvF α (lvC α (2 ^ α 0 0)) : Nat)) σ')) : jq_I (d + 5) 123 [.ref 34, .int wh] σ k := by
  refine ok_X9_liveOf (q_cp_38_47 (fun s1 c1 => ?_))
  have hM1 : rM α s1 := hM.mv ⟨c1.1, fun c k n => c1.2.1 c k (fun e => n (by unfold mS; omega))⟩
  refine w_now hV hM1 ?_ (α 0 0) 0 (by omega)
  refine w_live hV (2 ^ α 0 0) 0 none _ _ α s1 hM1 (fun _ _ _ => rfl) (by omega) (fun _ => rfl) (fun e => absurd e (by omega)) (fun s2 hE2 => q_cp_47_38 (fun s3 c3 => ?_)) d rfl
  have hE : eS mS σ s3 := by
    refine ⟨c3.1.trans (hE2.1.trans c1.1), fun c k n => ?_⟩
    have n47 : c ≠ 47 := fun e => n (by unfold mS; omega)
    by_cases e : c = 38
    · subst e
      by_cases e6 : k < 6
      · rw [c3.2.2.1 k e6, hE2.2 47 k (by unfold bS dS; omega), c1.2.2.1 k e6]
      · rw [c3.2.2.2 k (by omega), hE2.2 38 k (by unfold bS dS; omega), c1.2.1 38 k (by omega)]
    · rw [c3.2.1 c k e, hE2.2 c k (fun q => n (by unfold bS dS at q; unfold mS; omega)), c1.2.1 c k n47]
  obtain ⟨f1, f2⟩ := h s3 hE
  exact ⟨fun c => ⟨_, rfl, f1 c⟩, fun c => ⟨_, rfl, f2 c⟩⟩
end M3
end
section
/-! the page: letters, faults -/
section Pg
variable {σ : jSt} {d : Nat} {k : Int32 → jSt → Prop}
abbrev lI (z : Int) : Int64 := Int64.ofInt z
theorem lI_toInt {a : Int} (h : iR a) : (lI a).toInt = a := by
  unfold iR at h
  exact Int64.toInt_ofInt_of_le (by simp; omega) (by simp; omega)
theorem lI_i {a : Int} (h : iR a) : (iI a).toInt64 = lI a := by
  apply Int64.toInt_inj.mp
  rw [Int32.toInt_toInt64, iI_toInt h, lI_toInt h]
theorem lI_lt {a b : Int} (ha : iR a) (hb : iR b) : lI a < lI b ↔ a < b := by rw [Int64.lt_iff_toInt_lt, lI_toInt ha, lI_toInt hb]
theorem lI_eq {a b : Int} (ha : iR a) (hb : iR b) : lI a = lI b ↔ a = b := by
  constructor
  · intro h
    have := congrArg Int64.toInt h
    rwa [lI_toInt ha, lI_toInt hb] at this
  · intro h; rw [h]
theorem lc_lt {a b : Int} (ha : iR a) (hb : iR b) : lg_cmp (lI a) (lI b) < 0 ↔ a < b := by
  unfold lg_cmp
  split
  · next h =>
    rw [gt_iff_lt, lI_lt hb ha] at h
    exact ⟨fun q => absurd q (by decide +kernel), fun q => by omega⟩
  · next h1 =>
    rw [gt_iff_lt, lI_lt hb ha] at h1
    split
    · next h =>
      rw [lI_eq ha hb] at h
      exact ⟨fun q => absurd q (by decide +kernel), fun q => by omega⟩
    · next h =>
      rw [lI_eq ha hb] at h
      exact ⟨fun _ => by omega, fun _ => by decide +kernel⟩
theorem lc_gt {a b : Int} (ha : iR a) (hb : iR b) : 0 < lg_cmp (lI a) (lI b) ↔ b < a := by
  unfold lg_cmp
  split
  · next h =>
    rw [gt_iff_lt, lI_lt hb ha] at h
    exact ⟨fun _ => h, fun _ => by decide +kernel⟩
  · next h1 =>
    rw [gt_iff_lt, lI_lt hb ha] at h1
    split
    · exact ⟨fun q => absurd q (by decide +kernel), fun q => by omega⟩
    · exact ⟨fun q => absurd q (by decide +kernel), fun q => by omega⟩
theorem q_in {a b c : Int} (ha : iR a) (hb : iR b) (hc : iR c) (h : k (jb (decide (b ≤ a ∧ a ≤ c))) σ) : jq_I (d + 1) 78 [.long (lI a), .long (lI b), .long (lI c)] σ k := by
  refine ok_X9_in ?_
  unfold vc_X9_in
  rw [lc_lt ha hb, lc_gt ha hc, jb_t, jb_f]
  refine ⟨fun c => ⟨_, rfl, ?_⟩, fun c => ⟨fun c2 => ⟨_, rfl, ?_⟩, fun c2 => ⟨_, rfl, ?_⟩⟩⟩
  · rwa [decide_eq_false (by omega)] at h
  · rwa [decide_eq_false (by omega)] at h
  · rwa [decide_eq_true (by omega)] at h
/-- the kind that a letter tells; -1 -/
def kdL (c : Nat) : Int := if c = 112 then 0 else if c = 109 then 1 else if c = 116 then 2 else if c = 100 then 3 else if c = 102 then 4 else -1
theorem kdL_in (c : Nat) : -1 ≤ kdL c ∧ kdL c ≤ 4 := by unfold kdL; repeat' split
                                                        all_goals omega
theorem w_ixc {post : jPo} {c : Nat} {f : Int32} : ∀ (n i : Nat), i + n = 5 → (∀ j, j < i → jv_byt j ≠ iI c) → post (some (.int (iI (kdL c)))) σ → (∀ i, i < 5 → jv_byt i = iI c → kdL c = i) → ((∀ i, i < 5 → jv_byt i ≠ iI c) → kdL c = -1) →
    jv_wp (d + 1) post (150, 7, [some (.ref 59), some (.int f), some (.int (iI 0)), some (.int (iI 5)), some (.int (iI c)), some (.int (iI i))], [], σ) := by
  intro n
  induction n with
  | zero =>
    intro i hi hj h e1 e2
    refine ok_J1_indexOfChar_L7 ⟨fun _ => ?_, fun c => absurd ?_ c⟩
    · rwa [e2 (fun j hj' => hj j (by omega))] at h
    · rw [iI_le ⟨by omega, by omega⟩ ⟨by omega, by omega⟩]; omega
  | succ n ih =>
    intro i hi hj h e1 e2
    have hc : (iI (i : Int)).toNatClampNeg = i := iI_clamp (by omega)
    have hin : vp_in (iI (i : Int)) 5 := (iI_in (by omega) 5).mpr (by omega)
    refine ok_J1_indexOfChar_L7 ⟨fun c => absurd c ?_, fun _ => ⟨hin, ?_⟩⟩
    · rw [iI_le ⟨by omega, by omega⟩ ⟨by omega, by omega⟩]; omega
    · rw [hc, iI_add, show (i : Int) + 1 = ((i + 1 : Nat) : Int) by omega]
      refine ⟨fun c => ih (i + 1) (by omega) (fun j hj' => ?_) h e1 e2, fun c => ?_⟩
      · by_cases e : j = i
        · subst e; exact c
        · exact hj j (by omega)
      · rwa [e1 i (by omega) c] at h
theorem kdL_e1 : ∀ c : Nat, c < 127 → ∀ i : Nat, i < 5 → jv_byt i = iI c → kdL c = i := by decide +kernel
theorem kdL_e2 : ∀ c : Nat, c < 127 → (∀ i : Nat, i < 5 → jv_byt i ≠ iI c) → kdL c = -1 := by decide +kernel
theorem c16 : ∀ c : Nat, c < 127 → ((iI (c : Int)).toUInt32 % 65536).toInt32 = iI c ∧ (iI (c : Int)).toInt8.toInt32 = iI c := by decide +kernel
theorem q_kindOf {c : Nat} (hc : c < 127) (h : k (iI (kdL c)) σ) : jq_I (d + 6) 22 [.int (iI c)] σ k := by
  refine ok_X3_kindOf ?_
  unfold vc_X3_kindOf
  rw [(c16 c hc).1]
  refine ok_J0_indexOf (ok_J0_indexOf2 (ok_J0_isLatin1 ⟨_, rfl, fun c => absurd c (by decide +kernel), fun _ => ok_J0_length (ok_J0_coder ⟨_, rfl, _, rfl, ?_⟩)⟩))
  rw [show ((Int32.ofNat 5) >>> ((0 : Int32) &&& 31)) = iI 5 by decide +kernel]
  refine ok_J1_indexOf (ok_J1_canEncode ?_)
  refine ⟨fun c => absurd ((iI_lt0 ⟨by omega, by omega⟩).mp c) (by omega), fun _ => ⟨fun c => absurd ((iI_lt ⟨by omega, by omega⟩ ⟨by omega, by omega⟩).mp c) (by omega), fun _ => ⟨_, rfl, fun _ => ?_, fun c => absurd c (by decide +kernel)⟩⟩⟩
  rw [if_neg (show ¬ (iI 0 < iI 0) by decide +kernel), if_neg (show ¬ (Int32.ofNat 5 < iI 5) by decide +kernel)]
  refine ⟨fun _ => ok_J1_indexOfChar ?_, fun c => absurd (by decide +kernel) c⟩
  unfold vc_J1_indexOfChar
  rw [(c16 c hc).2]
  exact w_ixc 5 0 (by omega) (fun j hj => absurd hj (by omega)) ⟨_, rfl, _, rfl, _, rfl, _, rfl, _, rfl, h⟩ (kdL_e1 c hc) (kdL_e2 c hc)
theorem q_kindBy {c : Nat} (hc : c < 127) (h : k (iI (kdL c)) σ) : jq_I (d + 1) 82 [.int (iI c)] σ k := by
  refine ok_X9_kindBy ?_
  have ec : ∀ j : Int, 0 ≤ j → j < 1000 → (iI (c : Int) = iI j ↔ (c : Int) = j) := fun j h1 h2 => iI_eq ⟨by omega, by omega⟩ ⟨by omega, by omega⟩
  unfold vc_X9_kindBy
  rw [ec 100 (by omega) (by omega), ec 102 (by omega) (by omega), ec 109 (by omega) (by omega), ec 112 (by omega) (by omega), ec 116 (by omega) (by omega)]
  have fin : ∀ z : Int, kdL c = z → (∃ x, some (Value.int (iI z)) = some (.int x) ∧ k x σ) := fun z e => ⟨_, rfl, by rw [← e]; exact h⟩
  refine ⟨fun c1 => fin 3 ?_, fun c1 => ⟨fun c2 => fin 4 ?_, fun c2 => ⟨fun c3 => fin 1 ?_, fun c3 => ⟨fun c4 => fin 0 ?_, fun c4 => ⟨fun c5 => fin 2 ?_, fun c5 => fin (-1) ?_⟩⟩⟩⟩⟩
  all_goals unfold kdL
  all_goals (repeat' split) <;> omega
end Pg
/-- the page of the class, of the reference -/
def pX (g : Nat → Nat) (n : Nat) (σ : jSt) : Prop := σ.1 1 1 = iI (n : Nat) ∧ ∀ i, i < n → σ.1 2 i = iI (g i : Nat)
def pM (g : Nat → Nat) (n : Nat) (σ : jSt) : Prop := σ.1 34 1 = iI (n : Nat) ∧ ∀ i, i < n → σ.1 35 i = iI (g i : Nat)
def pV (g : Nat → Nat) (n : Nat) : Prop := n ≤ 44 ∧ ∀ i, i < n → 1 ≤ g i ∧ g i ≤ 126
/-- may this letter stand there, among people; among matters of so many people -/
def fpl (g : Nat → Nat) (i : Nat) : Bool := if i % 4 = 0 then decide (0 ≤ kdL (g i)) else if i % 4 = 1 then decide (g i = 108 ∨ g i = 114) else if i % 4 = 2 then decide (48 ≤ g i ∧ g i ≤ 57) else decide ((g i = 44 ∧ i < 23) ∨ (g i = 59 ∧ 3 < i))
def fmt (g : Nat → Nat) (i P : Nat) : Bool := if i % 4 = 0 then decide (48 ≤ g i ∧ g i < 48 + P) else if i % 4 = 1 then decide (48 ≤ g i ∧ g i < 48 + P ∧ g i ≠ g (i - 1)) else if i % 4 = 2 then decide (49 ≤ g i ∧ g i ≤ 57) else decide (g i = 44 ∧ i < 4 * P + 19)
/-- the fault, and how many people are told ahead of it -/
def fsc (g : Nat → Nat) : Nat → Nat → Nat → Nat × Nat
  | 0, i, P => (i, P)
  | k + 1, i, P => if P = 0 then (if fpl g i then fsc g k (i + 1) (if g i = 59 then i / 4 + 1 else 0) else (i, P)) else (if fmt g i P then fsc g k (i + 1) P else (i, P))
section Pf
variable {σ : jSt} {d : Nat} {k : Int32 → jSt → Prop} {g : Nat → Nat} {n : Nat}
theorem q_fitsPeople (hV : pV g n) (hX : pX g n σ) {i : Nat} (hi : i < n) (h : k (jb (fpl g i)) σ) : jq_I (d + 7) 17 [.ref 1, .int (iI i)] σ k := by
  have h44 := hV.1
  have hg := hV.2 i hi
  have hc : (iI (i : Int)).toNatClampNeg = i := iI_clamp (by omega)
  have hin : vp_in (iI (i : Int)) 44 := (iI_in (by omega) 44).mpr (by omega)
  have hr : iI (i : Int) - iI (i : Int) / iI 4 * iI 4 = iI ((i % 4 : Nat) : Int) := iI_rem (b := 4) (by omega) (by omega) (by omega)
  have hq : iI (i : Int) / iI 4 = iI ((i / 4 : Nat) : Int) := iI_div (b := 4) (by omega) (by omega) (by omega)
  have eg : ∀ j : Int, 0 ≤ j → j < 1000 → (iI ((g i : Nat) : Int) = iI j ↔ ((g i : Nat) : Int) = j) := fun j h1 h2 => iI_eq ⟨by omega, by omega⟩ ⟨by omega, by omega⟩
  have er : ∀ j : Int, 0 ≤ j → j < 1000 → (iI ((i % 4 : Nat) : Int) = iI j ↔ ((i % 4 : Nat) : Int) = j) := fun j h1 h2 => iI_eq ⟨by omega, by omega⟩ ⟨by omega, by omega⟩
  have fin : ∀ b : Bool, fpl g i = b → (∃ x, some (Value.int (jb b)) = some (.int x) ∧ k x σ) := fun b e => ⟨_, rfl, by rw [← e]; exact h⟩
  refine ok_X3_fitsPeople ?_
  unfold vc_X3_fitsPeople
  dsimp only
  rw [hc, hX.2 i hi, hr, hq, iI_add, er 0 (by omega) (by omega), er 1 (by omega) (by omega), er 2 (by omega) (by omega), eg 108 (by omega) (by omega), eg 114 (by omega) (by omega), eg 44 (by omega) (by omega), eg 59 (by omega) (by omega), iI_lt (a := ((g i : Nat) : Int)) ⟨by omega, by omega⟩ ⟨by omega, by omega⟩, iI_lt (b := ((g i : Nat) : Int)) ⟨by omega, by omega⟩ ⟨by omega, by omega⟩, iI_lt (a := ((i / 4 : Nat) : Int) + 1) (b := 2) ⟨by omega, by omega⟩ ⟨by omega, by omega⟩, iI_lt (a := ((i / 4 : Nat) : Int) + 1) (b := 6) ⟨by omega, by omega⟩ ⟨by omega, by omega⟩, jb_t, jb_f]
  refine ⟨hin, fun c => q_kindOf (by omega) ?_, fun c => ⟨fun c1 => ⟨fun c2 => fin true ?_, fun c2 => ⟨fun c3 => fin false ?_, fun c3 => fin true ?_⟩⟩, fun c1 => ⟨fun c2 => ⟨fun c3 => fin false ?_, fun c3 => ⟨fun c4 => fin false ?_, fun c4 => fin true ?_⟩⟩, fun c2 => ⟨fun c3 => ⟨fun c4 => fin false ?_, fun c4 => ⟨fun c5 => fin false ?_, fun c5 => fin true ?_⟩⟩, fun c3 => ⟨fun c4 => fin true ?_, fun c4 => ⟨fun c5 => fin false ?_, fun c5 => ⟨fun c6 => fin false ?_, fun c6 => fin true ?_⟩⟩⟩⟩⟩⟩⟩
  · have hk := kdL_in (g i)
    rw [iI_lt0 ⟨by omega, by omega⟩]
    refine ⟨fun c2 => fin false ?_, fun c2 => fin true ?_⟩
    · unfold fpl; rw [if_pos (by omega), decide_eq_false (by omega)]
    · unfold fpl; rw [if_pos (by omega), decide_eq_true (by omega)]
  · unfold fpl; rw [if_neg (by omega), if_pos (by omega), decide_eq_true (by omega)]
  · unfold fpl; rw [if_neg (by omega), if_pos (by omega), decide_eq_false (by omega)]
  · unfold fpl; rw [if_neg (by omega), if_pos (by omega), decide_eq_true (by omega)]
  · unfold fpl; rw [if_neg (by omega), if_neg (by omega), if_pos (by omega), decide_eq_false (by omega)]
  · unfold fpl; rw [if_neg (by omega), if_neg (by omega), if_pos (by omega), decide_eq_false (by omega)]
  · unfold fpl; rw [if_neg (by omega), if_neg (by omega), if_pos (by omega), decide_eq_true (by omega)]
  · unfold fpl; rw [if_neg (by omega), if_neg (by omega), if_neg (by omega), decide_eq_false (by omega)]
  · unfold fpl; rw [if_neg (by omega), if_neg (by omega), if_neg (by omega), decide_eq_false (by omega)]
  · unfold fpl; rw [if_neg (by omega), if_neg (by omega), if_neg (by omega), decide_eq_true (by omega)]
  · unfold fpl; rw [if_neg (by omega), if_neg (by omega), if_neg (by omega), decide_eq_true (by omega)]
  · unfold fpl; rw [if_neg (by omega), if_neg (by omega), if_neg (by omega), decide_eq_false (by omega)]
  · exfalso; omega
  · exfalso; omega
end Pf
end
section
/-! the page: faults, both sides -/
section Pf2
variable {σ : jSt} {d : Nat} {k : Int32 → jSt → Prop} {g : Nat → Nat} {n : Nat}
theorem q_fitsMatters (hV : pV g n) (hX : pX g n σ) {i P : Nat} (hi : i < n) (hP1 : 1 ≤ P) (hP6 : P ≤ 6) (hiP : 4 * P ≤ i) (h : k (jb (fmt g i P)) σ) : jq_I (d + 1) 18 [.ref 1, .int (iI i), .int (iI P)] σ k := by
  have h44 := hV.1
  have hg := hV.2 i hi
  have hg1 := hV.2 (i - 1) (by omega)
  have hc : (iI (i : Int)).toNatClampNeg = i := iI_clamp (by omega)
  have hc1 : (iI ((i - 1 : Nat) : Int)).toNatClampNeg = i - 1 := iI_clamp (by omega)
  have hin : vp_in (iI (i : Int)) 44 := (iI_in (by omega) 44).mpr (by omega)
  have hin1 : vp_in (iI ((i - 1 : Nat) : Int)) 44 := (iI_in (by omega) 44).mpr (by omega)
  have hr : iI (i : Int) - iI (i : Int) / iI 4 * iI 4 = iI ((i % 4 : Nat) : Int) := iI_rem (b := 4) (by omega) (by omega) (by omega)
  have hq : iI (i : Int) / iI 4 = iI ((i / 4 : Nat) : Int) := iI_div (b := 4) (by omega) (by omega) (by omega)
  have er : ∀ j : Int, 0 ≤ j → j < 1000 → (iI ((i % 4 : Nat) : Int) = iI j ↔ ((i % 4 : Nat) : Int) = j) := fun j h1 h2 => iI_eq ⟨by omega, by omega⟩ ⟨by omega, by omega⟩
  have fin : ∀ b : Bool, fmt g i P = b → (∃ x, some (Value.int (jb b)) = some (.int x) ∧ k x σ) := fun b e => ⟨_, rfl, by rw [← e]; exact h⟩
  refine ok_X3_fitsMatters ?_
  unfold vc_X3_fitsMatters
  dsimp only
  rw [hc, hX.2 i hi, hr, hq, iI_sub (i : Int) 1, show (i : Int) - 1 = ((i - 1 : Nat) : Int) by omega, hc1, hX.2 (i - 1) (by omega), iI_add, iI_add, iI_sub, er 0 (by omega) (by omega), er 1 (by omega) (by omega), er 2 (by omega) (by omega), iI_eq (a := ((g i : Nat) : Int)) (b := 44) ⟨by omega, by omega⟩ ⟨by omega, by omega⟩, iI_eq (a := ((g i : Nat) : Int)) (b := ((g (i - 1) : Nat) : Int)) ⟨by omega, by omega⟩ ⟨by omega, by omega⟩, iI_lt (a := ((g i : Nat) : Int)) (b := 48) ⟨by omega, by omega⟩ ⟨by omega, by omega⟩, iI_lt (a := ((g i : Nat) : Int)) (b := 49) ⟨by omega, by omega⟩ ⟨by omega, by omega⟩, iI_lt (a := 57) (b := ((g i : Nat) : Int)) ⟨by omega, by omega⟩ ⟨by omega, by omega⟩, iI_le (a := 48 + (P : Int)) (b := ((g i : Nat) : Int)) ⟨by omega, by omega⟩ ⟨by omega, by omega⟩, iI_le (a := 5) (b := ((i / 4 : Nat) : Int) + 1 - (P : Int)) ⟨by omega, by omega⟩ ⟨by omega, by omega⟩, jb_t, jb_f]
  have f0 : i % 4 = 0 → ∀ b : Bool, (48 ≤ g i ∧ g i < 48 + P ↔ b = true) → fmt g i P = b := fun e b q => by
    unfold fmt; rw [if_pos e]; cases b <;> simp at q ⊢ <;> omega
  have f1 : i % 4 = 1 → ∀ b : Bool, (48 ≤ g i ∧ g i < 48 + P ∧ g i ≠ g (i - 1) ↔ b = true) → fmt g i P = b := fun e b q => by
    unfold fmt; rw [if_neg (by omega), if_pos e]; cases b
    · exact decide_eq_false (fun w => by simpa using q.mp w)
    · exact decide_eq_true (q.mpr rfl)
  have f2 : i % 4 = 2 → ∀ b : Bool, (49 ≤ g i ∧ g i ≤ 57 ↔ b = true) → fmt g i P = b := fun e b q => by
    unfold fmt; rw [if_neg (by omega), if_neg (by omega), if_pos e]; cases b <;> simp at q ⊢ <;> omega
  have f3 : i % 4 = 3 → ∀ b : Bool, (g i = 44 ∧ i < 4 * P + 19 ↔ b = true) → fmt g i P = b := fun e b q => by
    unfold fmt; rw [if_neg (by omega), if_neg (by omega), if_neg (by omega)]; cases b
    · exact decide_eq_false (fun w => by simpa using q.mp w)
    · exact decide_eq_true (q.mpr rfl)
  have tl : (¬ ((i % 4 : Nat) : Int) = 1 → ((((i % 4 : Nat) : Int) = 2 → ((((g i : Nat) : Int) < 49 → (∃ x, some (Value.int (jb false)) = some (.int x) ∧ k x σ)) ∧ (¬ ((g i : Nat) : Int) < 49 → ((57 < ((g i : Nat) : Int) → (∃ x, some (Value.int (jb false)) = some (.int x) ∧ k x σ)) ∧ (¬ 57 < ((g i : Nat) : Int) → (∃ x, some (Value.int (jb true)) = some (.int x) ∧ k x σ)))))) ∧ (¬ ((i % 4 : Nat) : Int) = 2 → (¬ ((i % 4 : Nat) : Int) = 0 → ((¬ ((g i : Nat) : Int) = 44 → (∃ x, some (Value.int (jb false)) = some (.int x) ∧ k x σ)) ∧ (((g i : Nat) : Int) = 44 → ((5 ≤ ((i / 4 : Nat) : Int) + 1 - (P : Int) → (∃ x, some (Value.int (jb false)) = some (.int x) ∧ k x σ)) ∧ (¬ 5 ≤ ((i / 4 : Nat) : Int) + 1 - (P : Int) → (∃ x, some (Value.int (jb true)) = some (.int x) ∧ k x σ)))))))) ) := by
    intro e1
    refine ⟨fun e2 => ⟨fun c => fin _ (f2 (by omega) _ ?_), fun c => ⟨fun c2 => fin _ (f2 (by omega) _ ?_), fun c2 => fin _ (f2 (by omega) _ ?_)⟩⟩, fun e2 e0 => ⟨fun c => fin _ (f3 (by omega) _ ?_), fun c => ⟨fun c2 => fin _ (f3 (by omega) _ ?_), fun c2 => fin _ (f3 (by omega) _ ?_)⟩⟩⟩
    all_goals simp
    all_goals omega
  refine ⟨hin, fun a => ⟨fun c => fin _ (f0 (by omega) _ ?_), fun c => ⟨fun c1 => fin _ (f1 (by omega) _ ?_), fun c1 => ⟨(tl c1).1, fun c2 => (tl c1).2 c2 c⟩⟩⟩, fun a => ⟨fun a2 => ⟨fun c => fin _ (f0 (by omega) _ ?_), fun c => ⟨fun c1 => fin _ (f1 (by omega) _ ?_), fun c1 => ⟨(tl c1).1, fun c2 => (tl c1).2 c2 c⟩⟩⟩, fun a2 => ⟨fun c => fin _ (f0 (by omega) _ ?_), fun c => ⟨fun c1 => ⟨hin1, fun c2 => fin _ (f1 (by omega) _ ?_), fun c2 => fin _ (f1 (by omega) _ ?_)⟩, fun c1 => ⟨(tl c1).1, fun c2 => (tl c1).2 c2 c⟩⟩⟩⟩⟩
  all_goals simp
  all_goals omega
theorem fpl_59 {i : Nat} (h : fpl g i = true) (e : g i = 59) : i % 4 = 3 ∧ 3 < i := by
  unfold fpl at h
  rw [e] at h
  split at h
  · exact absurd h (by decide +kernel)
  · split at h
    · exact absurd h (by decide +kernel)
    · split at h
      · exact absurd h (by decide +kernel)
      · simp at h; omega
theorem fpl_23 (h : fpl g 23 = true) : g 23 = 59 := by
  unfold fpl at h
  simp at h; omega
theorem fmt_59 {i P : Nat} (hP : P ≤ 6) (h : fmt g i P = true) : g i ≠ 59 := by
  unfold fmt at h
  intro e
  rw [e] at h
  split at h
  · simp at h; omega
  · split at h
    · simp at h; omega
    · split at h <;> simp at h
theorem w_firstFault (hV : pV g n) (hX : pX g n σ) {post : jPo} : ∀ (m i P : Nat) (z : Option Value), i + m = n → (P = 0 → i ≤ 23) → (0 < P → P ≤ 6 ∧ 4 * P ≤ i) → post (some (.int (iI ((fsc g m i P).1 : Nat)))) σ →
    jv_wp (d + 8) post (16, 4, [some (.ref 1), some (.int (iI P)), some (.int (iI i)), z], [], σ) := by
  have h44 := hV.1
  intro m
  induction m with
  | zero =>
    intro i P z hi h0 h1 h
    have hP : P ≤ 6 := by
      by_cases e : P = 0
      · omega
      · exact (h1 (by omega)).1
    refine ok_X3_firstFault_L4 ⟨fun _ => ?_, fun c => absurd ?_ c⟩
    · rw [hX.1]
      simp only [fsc] at h
      rwa [show i = n by omega] at h
    · rw [hX.1, iI_le ⟨by omega, by omega⟩ ⟨by omega, by omega⟩]; omega
  | succ m ih =>
    intro i P z hi h0 h1 h
    have hP : P ≤ 6 := by
      by_cases e : P = 0
      · omega
      · exact (h1 (by omega)).1
    have hg := hV.2 i (by omega)
    have hc : (iI (i : Int)).toNatClampNeg = i := iI_clamp (by omega)
    have hin : vp_in (iI (i : Int)) 44 := (iI_in (by omega) 44).mpr (by omega)
    have hq : iI (i : Int) / iI 4 = iI ((i / 4 : Nat) : Int) := iI_div (b := 4) (by omega) (by omega) (by omega)
    unfold fsc at h
    refine ok_X3_firstFault_L4 ⟨fun c => absurd c ?_, fun _ => ?_⟩
    · rw [hX.1, iI_le ⟨by omega, by omega⟩ ⟨by omega, by omega⟩]; omega
    · rw [iI_eq0 ⟨by omega, by omega⟩, hq, hc, iI_add, iI_add, show (i : Int) + 1 = ((i + 1 : Nat) : Int) by omega, show ((i / 4 : Nat) : Int) + 1 = ((i / 4 + 1 : Nat) : Int) by omega]
      refine ⟨fun c => ?_, fun c => ?_⟩
      · rw [if_neg (by omega)] at h
        have hh := h1 (by omega)
        refine q_fitsMatters hV hX (by omega) (by omega) hP hh.2 ?_
        rw [jb_0, hX.2 i (by omega), iI_eq ⟨by omega, by omega⟩ ⟨by omega, by omega⟩]
        refine ⟨fun c2 => ⟨hin, fun c3 => ?_, fun c3 => ?_⟩, fun c2 => ?_⟩
        · rw [if_pos (by simpa using c2)] at h
          exact ih (i + 1) P _ (by omega) (fun e => by omega) (fun e => ⟨hP, by omega⟩) h
        · exact absurd (show g i = 59 by omega) (fmt_59 hP (by simpa using c2))
        · rw [c2] at h; exact h
      · rw [if_pos (by omega)] at h
        refine q_fitsPeople hV hX (by omega) ?_
        rw [jb_0, hX.2 i (by omega), iI_eq ⟨by omega, by omega⟩ ⟨by omega, by omega⟩]
        have hP0 : P = 0 := by omega
        subst hP0
        refine ⟨fun c2 => ⟨hin, fun c3 => ?_, fun c3 => ?_⟩, fun c2 => ?_⟩
        · have c2 : fpl g i = true := by simpa using c2
          rw [if_pos c2, if_neg (by omega)] at h
          refine ih (i + 1) 0 _ (by omega) (fun e => ?_) (fun e => absurd e (by omega)) h
          by_cases e23 : i = 23
          · subst e23; exact absurd (fpl_23 c2) (by omega)
          · have := h0 rfl; omega
        · have c2 : fpl g i = true := by simpa using c2
          have e59 : g i = 59 := by omega
          have hp := fpl_59 c2 e59
          rw [if_pos c2, if_pos e59] at h
          have := h0 rfl
          exact ih (i + 1) (i / 4 + 1) _ (by omega) (fun e => absurd e (by omega)) (fun _ => ⟨by omega, by omega⟩) h
        · rw [c2] at h; exact h
theorem q_firstFault (hV : pV g n) (hX : pX g n σ) (h : k (iI ((fsc g n 0 0).1 : Nat)) σ) : jq_I (d + 8) 16 [.ref 1] σ k :=
  ok_X3_firstFault (w_firstFault hV hX n 0 0 none (by omega) (fun _ => by omega) (fun e => absurd e (by omega)) ⟨_, rfl, h⟩)
end Pf2
end
section
/-! the page: faults (reference), letters, blank -/
section Pf3
variable {σ : jSt} {d : Nat} {k : Int32 → jSt → Prop} {g : Nat → Nat} {n : Nat}
def fS (c k : Nat) : Prop := c = 34 ∧ k = 2
theorem fS_m (c k : Nat) (h : fS c k) : mS c k := by unfold fS at h; unfold mS; omega
theorem pM.mv {σ' : jSt} (h : pM g n σ) (e : eS mS σ σ') : pM g n σ' := by
  refine ⟨?_, fun i hi => ?_⟩
  · rw [e.2 _ _ (by unfold mS; omega)]; exact h.1
  · rw [e.2 _ _ (by unfold mS; omega)]; exact h.2 i hi
theorem pX.mv {σ' : jSt} (h : pX g n σ) (e : eS mS σ σ') : pX g n σ' := by
  refine ⟨?_, fun i hi => ?_⟩
  · rw [e.2 _ _ (by unfold mS; omega)]; exact h.1
  · rw [e.2 _ _ (by unfold mS; omega)]; exact h.2 i hi
theorem q_isPersonLetter (hV : pV g n) (hM : pM g n σ) {i : Nat} (hi : i < n) (h0 : ¬ (fpl g i = true ∧ g i = 59) → k (jb (fpl g i)) σ) (h1 : fpl g i = true → g i = 59 → k (jb true) (jv_u σ 34 2 (iI i))) : jq_I (d + 2) 83 [.ref 34, .int (iI i)] σ k := by
  have h44 := hV.1
  have hg := hV.2 i hi
  have hc : (iI (i : Int)).toNatClampNeg = i := iI_clamp (by omega)
  have hin : vp_in (iI (i : Int)) 44 := (iI_in (by omega) 44).mpr (by omega)
  have hr : iI (i : Int) - iI (i : Int) / iI 4 * iI 4 = iI ((i % 4 : Nat) : Int) := iI_rem (b := 4) (by omega) (by omega) (by omega)
  have eg : ∀ j : Int, 0 ≤ j → j < 1000 → (iI ((g i : Nat) : Int) = iI j ↔ ((g i : Nat) : Int) = j) := fun j h1 h2 => iI_eq ⟨by omega, by omega⟩ ⟨by omega, by omega⟩
  have er : ∀ j : Int, 0 ≤ j → j < 1000 → (iI ((i % 4 : Nat) : Int) = iI j ↔ ((i % 4 : Nat) : Int) = j) := fun j h1 h2 => iI_eq ⟨by omega, by omega⟩ ⟨by omega, by omega⟩
  have fin : ∀ b : Bool, fpl g i = b → (b = true → g i ≠ 59) → (∃ x, some (Value.int (jb b)) = some (.int x) ∧ k x σ) := fun b e e2 => ⟨_, rfl, by rw [← e]; exact h0 (fun q => e2 (by rw [← e]; exact q.1) q.2)⟩
  refine ok_X9_isPersonLetter ?_
  unfold vc_X9_isPersonLetter
  dsimp only
  rw [hc, hM.2 i hi, hr, er 0 (by omega) (by omega), er 1 (by omega) (by omega), er 2 (by omega) (by omega), eg 108 (by omega) (by omega), eg 114 (by omega) (by omega), eg 44 (by omega) (by omega), eg 59 (by omega) (by omega), lI_i (a := ((g i : Nat) : Int)) ⟨by omega, by omega⟩, iI_le (a := 23) (b := (i : Int)) ⟨by omega, by omega⟩ ⟨by omega, by omega⟩, iI_le (a := (i : Int)) (b := 3) ⟨by omega, by omega⟩ ⟨by omega, by omega⟩, jb_t, jb_f]
  refine ⟨hin, fun c => q_kindBy (by omega) ?_, fun c => ⟨fun c1 => ⟨fun c2 => fin true ?_ (fun _ => by omega), fun c2 => ⟨fun c3 => fin false ?_ (fun e => by cases e), fun c3 => fin true ?_ (fun _ => by omega)⟩⟩, fun c1 => ⟨fun c2 => ?_, fun c2 => ⟨fun c3 => ⟨fun c4 => fin false ?_ (fun e => by cases e), fun c4 => ⟨fun c5 => fin false ?_ (fun e => by cases e), fun c5 => fin true ?_ (fun _ => by omega)⟩⟩, fun c3 => ⟨fun c4 => ⟨fun c5 => fin false ?_ (fun e => by cases e), fun c5 => absurd c5 (by omega)⟩, fun c4 => ⟨_, rfl, h1 ?_ (by omega)⟩⟩⟩⟩⟩⟩
  · have hk := kdL_in (g i)
    rw [iI_eq ⟨by omega, by omega⟩ ⟨by omega, by omega⟩]
    refine ⟨fun c2 => fin false ?_ (fun e => by cases e), fun c2 => fin true ?_ (fun _ e => ?_)⟩
    · unfold fpl; rw [if_pos (by omega), decide_eq_false (by omega)]
    · unfold fpl; rw [if_pos (by omega), decide_eq_true (by omega)]
    · rw [e] at c2; exact c2 (by decide +kernel)
  · unfold fpl; rw [if_neg (by omega), if_pos (by omega), decide_eq_true (by omega)]
  · unfold fpl; rw [if_neg (by omega), if_pos (by omega), decide_eq_false (by omega)]
  · unfold fpl; rw [if_neg (by omega), if_pos (by omega), decide_eq_true (by omega)]
  · refine q_in (a := ((g i : Nat) : Int)) (b := 48) (c := 57) ⟨by omega, by omega⟩ ⟨by omega, by omega⟩ ⟨by omega, by omega⟩ ⟨jb_z _, ?_⟩
    refine fin _ ?_ (fun e => ?_)
    · unfold fpl; rw [if_neg (by omega), if_neg (by omega), if_pos (by omega)]
      by_cases q : 48 ≤ g i ∧ g i ≤ 57
      · rw [decide_eq_true q, decide_eq_true (by omega)]
      · rw [decide_eq_false q, decide_eq_false (by omega)]
    · have := of_decide_eq_true e; omega
  · unfold fpl; rw [if_neg (by omega), if_neg (by omega), if_neg (by omega), decide_eq_false (by omega)]
  · unfold fpl; rw [if_neg (by omega), if_neg (by omega), if_neg (by omega), decide_eq_false (by omega)]
  · unfold fpl; rw [if_neg (by omega), if_neg (by omega), if_neg (by omega), decide_eq_true (by omega)]
  · unfold fpl; rw [if_neg (by omega), if_neg (by omega), if_neg (by omega), decide_eq_false (by omega)]
  · unfold fpl; rw [if_neg (by omega), if_neg (by omega), if_neg (by omega), decide_eq_true (by omega)]
theorem q_isPersonDigit {P c : Nat} (hP1 : 1 ≤ P) (hP6 : P ≤ 6) (hc : c ≤ 126) (hE : σ.1 34 2 = iI ((4 * P : Nat) - 1 : Int)) (h : k (jb (decide (48 ≤ c ∧ c < 48 + P))) σ) : jq_I (d + 2) 84 [.ref 34, .int (iI c)] σ k := by
  refine ok_X9_isPersonDigit ?_
  unfold vc_X9_isPersonDigit
  have e1 : (iI 48 + (iI (((4 * P : Nat) : Int) - 1) + iI 1) / iI 4) - iI 1 = iI (47 + (P : Int)) := by
    rw [iI_add, show ((4 * P : Nat) : Int) - 1 + 1 = ((4 * P : Nat) : Int) by omega, show (iI 4 : Int32) = iI ((4 : Nat) : Int) from rfl, iI_div (by omega) (by omega) (by omega), iI_add, iI_sub]
    exact congrArg iI (by omega)
  rw [hE, e1, lI_i (a := (c : Int)) ⟨by omega, by omega⟩, lI_i (a := 47 + (P : Int)) ⟨by omega, by omega⟩]
  refine q_in (a := (c : Int)) (b := 48) (c := 47 + (P : Int)) ⟨by omega, by omega⟩ ⟨by omega, by omega⟩ ⟨by omega, by omega⟩ ⟨jb_z _, _, rfl, ?_⟩
  by_cases q : 48 ≤ c ∧ c < 48 + P
  · rw [decide_eq_true q] at h; rw [decide_eq_true (by omega)]; exact h
  · rw [decide_eq_false q] at h; rw [decide_eq_false (by omega)]; exact h
theorem q_isMatterLetter (hV : pV g n) (hM : pM g n σ) {i P : Nat} (hi : i < n) (hP1 : 1 ≤ P) (hP6 : P ≤ 6) (hiP : 4 * P ≤ i) (hE : σ.1 34 2 = iI ((4 * P : Nat) - 1 : Int)) (h : k (jb (fmt g i P)) σ) : jq_I (d + 3) 85 [.ref 34, .int (iI i)] σ k := by
  have h44 := hV.1
  have hg := hV.2 i hi
  have hg1 := hV.2 (i - 1) (by omega)
  have hc : (iI (i : Int)).toNatClampNeg = i := iI_clamp (by omega)
  have hc1 : (iI ((i - 1 : Nat) : Int)).toNatClampNeg = i - 1 := iI_clamp (by omega)
  have hin : vp_in (iI (i : Int)) 44 := (iI_in (by omega) 44).mpr (by omega)
  have hin1 : vp_in (iI ((i - 1 : Nat) : Int)) 44 := (iI_in (by omega) 44).mpr (by omega)
  have hr : iI ((i - 4 * P : Nat) : Int) - iI ((i - 4 * P : Nat) : Int) / iI 4 * iI 4 = iI (((i - 4 * P) % 4 : Nat) : Int) := iI_rem (b := 4) (by omega) (by omega) (by omega)
  have hm : (i - 4 * P) % 4 = i % 4 := by omega
  rw [hm] at hr
  have er : ∀ j : Int, 0 ≤ j → j < 1000 → (iI ((i % 4 : Nat) : Int) = iI j ↔ ((i % 4 : Nat) : Int) = j) := fun j h1 h2 => iI_eq ⟨by omega, by omega⟩ ⟨by omega, by omega⟩
  have fin : ∀ b : Bool, fmt g i P = b → (∃ x, some (Value.int (jb b)) = some (.int x) ∧ k x σ) := fun b e => ⟨_, rfl, by rw [← e]; exact h⟩
  refine ok_X9_isMatterLetter ?_
  unfold vc_X9_isMatterLetter
  dsimp only
  rw [hc, hM.2 i hi, hE, iI_sub (i : Int) (((4 * P : Nat) : Int) - 1), iI_sub, iI_sub (i : Int) 1, show (i : Int) - (((4 * P : Nat) : Int) - 1) - 1 = ((i - 4 * P : Nat) : Int) by omega, show (i : Int) - 1 = ((i - 1 : Nat) : Int) by omega, hr, er 0 (by omega) (by omega), er 1 (by omega) (by omega), er 2 (by omega) (by omega), iI_eq (a := ((g i : Nat) : Int)) (b := 44) ⟨by omega, by omega⟩ ⟨by omega, by omega⟩, iI_le (a := 19) (b := ((i - 4 * P : Nat) : Int)) ⟨by omega, by omega⟩ ⟨by omega, by omega⟩, lI_i (a := ((g i : Nat) : Int)) ⟨by omega, by omega⟩]
  refine ⟨hin, fun c => q_isPersonDigit hP1 hP6 hg.2 hE ⟨jb_z _, fin _ ?_⟩, fun c => ⟨fun c1 => q_isPersonDigit hP1 hP6 hg.2 hE ?_, fun c1 => ⟨fun c2 => q_in (a := ((g i : Nat) : Int)) (b := 49) (c := 57) ⟨by omega, by omega⟩ ⟨by omega, by omega⟩ ⟨by omega, by omega⟩ ⟨jb_z _, fin _ ?_⟩, fun c2 => ?_⟩⟩⟩
  · unfold fmt; rw [if_pos (by omega)]
  · rw [hc1, hM.2 (i - 1) (by omega), jb_0, iI_eq ⟨by omega, by omega⟩ ⟨by omega, by omega⟩, jb_t, jb_f]
    have f1 : ∀ b : Bool, (48 ≤ g i ∧ g i < 48 + P ∧ g i ≠ g (i - 1) ↔ b = true) → fmt g i P = b := fun b q => by
      unfold fmt; rw [if_neg (by omega), if_pos (by omega)]; cases b
      · exact decide_eq_false (fun w => by simpa using q.mp w)
      · exact decide_eq_true (q.mpr rfl)
    refine ⟨fun c2 => fin _ (f1 _ ?_), fun c2 => ⟨hin1, fun c3 => fin _ (f1 _ ?_), fun c3 => fin _ (f1 _ ?_)⟩⟩
    · have := of_decide_eq_false c2
      simp; omega
    · simp; omega
    · have := of_decide_eq_true (show decide (48 ≤ g i ∧ g i < 48 + P) = true by simpa using c2)
      simp; omega
  · unfold fmt; rw [if_neg (by omega), if_neg (by omega), if_pos (by omega)]
    by_cases q : 49 ≤ g i ∧ g i ≤ 57
    · rw [decide_eq_true q, decide_eq_true (by omega)]
    · rw [decide_eq_false q, decide_eq_false (by omega)]
  · rw [jb_t, jb_f]
    have f3 : ∀ b : Bool, (g i = 44 ∧ i < 4 * P + 19 ↔ b = true) → fmt g i P = b := fun b q => by
      unfold fmt; rw [if_neg (by omega), if_neg (by omega), if_neg (by omega)]; cases b
      · exact decide_eq_false (fun w => by simpa using q.mp w)
      · exact decide_eq_true (q.mpr rfl)
    refine ⟨fun c3 => fin _ (f3 _ ?_), fun c3 => ⟨fun c4 => fin _ (f3 _ ?_), fun c4 => fin _ (f3 _ ?_)⟩⟩
    all_goals simp
    all_goals omega
/-- the place of ';' (0: none) -/
def enN (P : Nat) : Int := if P = 0 then 0 else ((4 * P : Nat) - 1 : Int)
theorem w_faultOf (hV : pV g n) {post : jPo} : ∀ (m i P : Nat) (σ : jSt), pM g n σ → σ.1 34 2 = iI (enN P) → i + m = n → (P = 0 → i ≤ 23) → (0 < P → P ≤ 6 ∧ 4 * P ≤ i) →
    (∀ σ', eS fS σ σ' → σ'.1 34 2 = iI (enN (fsc g m i P).2) → post (some (.int (iI ((fsc g m i P).1 : Nat)))) σ') →
    jv_wp (d + 4) post (86, 7, [some (.ref 34), some (.int (iI i))], [], σ) := by
  have h44 := hV.1
  intro m
  induction m with
  | zero =>
    intro i P σ hM hE hi h0 h1 h
    refine ok_X9_faultOf_L7 ⟨fun _ => h σ eS.rf hE, fun c => absurd ?_ c⟩
    rw [hM.1, iI_le ⟨by omega, by omega⟩ ⟨by omega, by omega⟩]; omega
  | succ m ih =>
    intro i P σ hM hE hi h0 h1 h
    unfold fsc at h
    refine ok_X9_faultOf_L7 ⟨fun c => absurd c ?_, fun _ => ?_⟩
    · rw [hM.1, iI_le ⟨by omega, by omega⟩ ⟨by omega, by omega⟩]; omega
    · by_cases hP0 : P = 0
      · subst hP0
        rw [if_pos rfl] at h
        have hE0 : σ.1 34 2 = iI 0 := hE
        refine ⟨fun c => absurd (by rw [hE0]; exact iI_0.symm) c, fun _ => ?_⟩
        have hi23 := h0 rfl
        refine q_isPersonLetter hV hM (by omega) (fun q => ?_) (fun q1 q2 => ?_)
        · rw [iI_add, show (i : Int) + 1 = ((i + 1 : Nat) : Int) by omega, jb_0]
          refine ⟨fun c => ?_, fun c => ?_⟩
          · rw [c] at h; exact h σ eS.rf hE
          · have c : fpl g i = true := by simpa using c
            have n59 : g i ≠ 59 := fun e => q ⟨c, e⟩
            rw [if_pos c, if_neg n59] at h
            refine ih (i + 1) 0 σ hM hE (by omega) (fun _ => ?_) (fun e => absurd e (by omega)) h
            by_cases e23 : i = 23
            · subst e23; exact absurd (fpl_23 c) n59
            · omega
        · rw [if_pos q1, if_pos q2] at h
          have hp := fpl_59 q1 q2
          rw [iI_add, show (i : Int) + 1 = ((i + 1 : Nat) : Int) by omega, jb_0]
          refine ⟨fun c => absurd c (by decide), fun _ => ?_⟩
          have hEu : eS fS σ (jv_u σ 34 2 (iI i)) := eS.u ⟨rfl, rfl⟩
          refine ih (i + 1) (i / 4 + 1) _ (hM.mv (hEu.wk fS_m)) ?_ (by omega) (fun e => absurd e (by omega)) (fun _ => ⟨by omega, by omega⟩) (fun σ' hE' => h σ' (hEu.tr hE'))
          rw [jv_u_at, if_pos ⟨rfl, rfl⟩]
          unfold enN
          rw [if_neg (by omega)]
          exact congrArg iI (by omega)
      · rw [if_neg hP0] at h
        have hh := h1 (by omega)
        have hE1 : σ.1 34 2 = iI ((4 * P : Nat) - 1 : Int) := by rw [hE]; unfold enN; rw [if_neg hP0]
        refine ⟨fun _ => ?_, fun c => ?_⟩
        · refine q_isMatterLetter hV hM (by omega) (by omega) hh.1 hh.2 hE1 ?_
          rw [iI_add, show (i : Int) + 1 = ((i + 1 : Nat) : Int) by omega, jb_0]
          refine ⟨fun c => ?_, fun c => ?_⟩
          · rw [c] at h; exact h σ eS.rf hE
          · rw [if_pos (by simpa using c)] at h
            exact ih (i + 1) P σ hM hE (by omega) (fun e => absurd e hP0) (fun _ => ⟨hh.1, by omega⟩) h
        · rw [hE1, iI_eq0 ⟨by omega, by omega⟩] at c; omega
theorem q_faultOf (hV : pV g n) (hM : pM g n σ) (h : ∀ σ', eS fS σ σ' → σ'.1 34 2 = iI (enN (fsc g n 0 0).2) → k (iI ((fsc g n 0 0).1 : Nat)) σ') : jq_I (d + 4) 86 [.ref 34] σ k := by
  refine ok_X9_faultOf ?_
  have hEu : eS fS σ (jv_u σ 34 2 (iI 0)) := eS.u ⟨rfl, rfl⟩
  exact w_faultOf hV n 0 0 _ (hM.mv (hEu.wk fS_m)) (by rw [jv_u_at, if_pos ⟨rfl, rfl⟩]; rfl) (by omega) (fun _ => by omega) (fun e => absurd e (by omega)) (fun σ' hE hE2 => ⟨_, rfl, h σ' (hEu.tr hE) hE2⟩)
end Pf3
end
section
/-! a page that is a river -/
section Rv
variable {g : Nat → Nat} {n : Nat}
theorem fsc_B : ∀ (m i P : Nat), P ≠ 0 → ∀ r Q, fsc g m i P = (r, Q) → Q = P ∧ (r = i + m → ∀ j, i ≤ j → j < i + m → fmt g j P = true)
  | 0, i, P, hP, r, Q, h => by
    simp only [fsc, Prod.mk.injEq] at h
    exact ⟨h.2.symm, fun _ j h1 h2 => absurd h1 (by omega)⟩
  | m + 1, i, P, hP, r, Q, h => by
    unfold fsc at h
    rw [if_neg hP] at h
    split at h
    · next hf =>
      obtain ⟨h1, h2⟩ := fsc_B m (i + 1) P hP r Q h
      refine ⟨h1, fun hr j j1 j2 => ?_⟩
      by_cases e : j = i
      · subst e; exact hf
      · exact h2 (by omega) j (by omega) (by omega)
    · simp only [Prod.mk.injEq] at h
      exact ⟨h.2.symm, fun hr => by omega⟩
theorem fsc_A : ∀ (m i : Nat), ∀ Q, fsc g m i 0 = (i + m, Q) → (∀ j, j < i → g j ≠ 59) → (Q = 0 → ∀ j, j < i + m → g j ≠ 59) ∧ (Q ≠ 0 → ∃ e, i ≤ e ∧ e < i + m ∧ g e = 59 ∧ Q = e / 4 + 1 ∧ e % 4 = 3 ∧ 3 < e ∧ (∀ j, i ≤ j → j ≤ e → fpl g j = true) ∧ (∀ j, j < e → g j ≠ 59) ∧ (∀ j, e < j → j < i + m → fmt g j Q = true))
  | 0, i, Q, h, hj => by
    simp only [fsc, Prod.mk.injEq] at h
    exact ⟨fun _ j j1 => hj j (by omega), fun q => absurd h.2.symm q⟩
  | m + 1, i, Q, h, hj => by
    unfold fsc at h
    rw [if_pos rfl] at h
    split at h
    · next hf =>
      by_cases e59 : g i = 59
      · rw [if_pos e59, show i + (m + 1) = i + 1 + m by omega] at h
        obtain ⟨h1, h2⟩ := fsc_B m (i + 1) (i / 4 + 1) (by omega) _ _ h
        have hp := fpl_59 hf e59
        refine ⟨fun q => by omega, fun _ => ⟨i, by omega, by omega, e59, h1, hp.1, hp.2, fun j j1 j2 => ?_, hj, fun j j1 j2 => ?_⟩⟩
        · rw [show j = i by omega]; exact hf
        · rw [h1]; exact h2 rfl j (by omega) (by omega)
      · rw [if_neg e59, show i + (m + 1) = i + 1 + m by omega] at h
        have hj' : ∀ j, j < i + 1 → g j ≠ 59 := fun j j1 => by
          by_cases e : j = i
          · subst e; exact e59
          · exact hj j (by omega)
        obtain ⟨h1, h2⟩ := fsc_A m (i + 1) Q h hj'
        refine ⟨fun q j j1 => h1 q j (by omega), fun q => ?_⟩
        obtain ⟨e, e1, e2, e3, e4, e5, e6, e7, e8, e9⟩ := h2 q
        refine ⟨e, by omega, by omega, e3, e4, e5, e6, fun j j1 j2 => ?_, e8, fun j j1 j2 => e9 j j1 (by omega)⟩
        by_cases q : j = i
        · subst q; exact hf
        · exact e7 j (by omega) j2
    · simp only [Prod.mk.injEq] at h
      omega
/-- what a river's page is -/
def rvF (g : Nat → Nat) (n P : Nat) : Prop := 2 ≤ P ∧ P ≤ 6 ∧ n % 4 = 3 ∧ 4 * P + 3 ≤ n ∧ n ≤ 4 * P + 19 ∧ (∀ j, j < 4 * P → fpl g j = true) ∧ g (4 * P - 1) = 59 ∧ (∀ j, j < 4 * P - 1 → g j ≠ 59) ∧ (∀ j, 4 * P ≤ j → j < n → fmt g j P = true)
theorem rv_of {P : Nat} (h : fsc g n 0 0 = (n, P)) (hP : P ≠ 0) (h3 : n % 4 = 3) : rvF g n P := by
  obtain ⟨-, h2⟩ := fsc_A n 0 P (by rw [Nat.zero_add]; exact h) (fun j hj => absurd hj (by omega))
  obtain ⟨e, e1, e2, e3, e4, e5, e6, e7, e8, e9⟩ := h2 hP
  have hP4 : 4 * P = e + 1 := by omega
  have h23 : e ≤ 23 := by
    by_cases q : e ≤ 23
    · exact q
    · exact absurd (fpl_23 (e7 23 (by omega) (by omega))) (e8 23 (by omega))
  have h19 : n ≤ 4 * P + 19 := by
    by_cases q : n ≤ 4 * P + 19
    · exact q
    · have := e9 (4 * P + 19) (by omega) (by omega)
      unfold fmt at this
      rw [if_neg (by omega), if_neg (by omega), if_neg (by omega)] at this
      have := of_decide_eq_true this
      omega
  refine ⟨by omega, by omega, h3, by omega, h19, fun j hj => e7 j (by omega) (by omega), ?_, fun j hj => e8 j (by omega), fun j j1 j2 => e9 j (by omega) (by omega)⟩
  rw [show 4 * P - 1 = e by omega]; exact e3
/-- the river that a page is -/
def rP (g : Nat → Nat) (n P : Nat) : rA := fun a b => match a with
  | 0 => if b = 0 then P else if b = 1 then (n + 1) / 4 - P else 0
  | 1 => (kdL (g (4 * b))).toNat
  | 2 => if g (4 * b + 1) = 114 then 1 else 0
  | 3 => if g (4 * b + 1) = 114 then 1 else 0
  | 4 => g (4 * b + 2) - 48
  | 5 => g (4 * (P + b)) - 48
  | 6 => g (4 * (P + b) + 1) - 48
  | 7 => g (4 * (P + b) + 2) - 48
  | _ => 0
theorem rv_p {P p : Nat} (h : rvF g n P) (hp : p < P) : 0 ≤ kdL (g (4 * p)) ∧ (g (4 * p + 1) = 108 ∨ g (4 * p + 1) = 114) ∧ 48 ≤ g (4 * p + 2) ∧ g (4 * p + 2) ≤ 57 := by
  obtain ⟨h1, h2, h3, h4, h5, h6, h7, h8, h9⟩ := h
  have a0 := h6 (4 * p) (by omega)
  have a1 := h6 (4 * p + 1) (by omega)
  have a2 := h6 (4 * p + 2) (by omega)
  unfold fpl at a0 a1 a2
  rw [if_pos (by omega)] at a0
  rw [if_neg (by omega), if_pos (by omega)] at a1
  rw [if_neg (by omega), if_neg (by omega), if_pos (by omega)] at a2
  have a0 := of_decide_eq_true a0
  have a1 := of_decide_eq_true a1
  have a2 := of_decide_eq_true a2
  exact ⟨a0, a1, a2.1, a2.2⟩
theorem rv_m {P m : Nat} (h : rvF g n P) (hm : m < (n + 1) / 4 - P) : 48 ≤ g (4 * (P + m)) ∧ g (4 * (P + m)) < 48 + P ∧ 48 ≤ g (4 * (P + m) + 1) ∧ g (4 * (P + m) + 1) < 48 + P ∧ 49 ≤ g (4 * (P + m) + 2) ∧ g (4 * (P + m) + 2) ≤ 57 := by
  obtain ⟨h1, h2, h3, h4, h5, h6, h7, h8, h9⟩ := h
  have a0 := h9 (4 * (P + m)) (by omega) (by omega)
  have a1 := h9 (4 * (P + m) + 1) (by omega) (by omega)
  have a2 := h9 (4 * (P + m) + 2) (by omega) (by omega)
  unfold fmt at a0 a1 a2
  rw [if_pos (by omega)] at a0
  rw [if_neg (by omega), if_pos (by omega)] at a1
  rw [if_neg (by omega), if_neg (by omega), if_pos (by omega)] at a2
  have a0 := of_decide_eq_true a0
  have a1 := of_decide_eq_true a1
  have a2 := of_decide_eq_true a2
  omega
theorem rv_V {P : Nat} (h : rvF g n P) : rV (rP g n P) := by
  have hp := fun p hp => rv_p (p := p) h hp
  have hm := fun m hm => rv_m (m := m) h hm
  obtain ⟨h1, h2, h3, h4, h5, h6, h7, h8, h9⟩ := h
  refine ⟨h2, by show (n + 1) / 4 - P ≤ 5; omega, Nat.zero_le _, Nat.zero_le _, fun p hp' => ?_, fun m hm' => ?_, fun i hi => absurd hi (Nat.not_lt_zero _), ?_⟩
  · have := hp p hp'
    have k4 := (kdL_in (g (4 * p))).2
    refine ⟨?_, ?_, ?_, ?_⟩
    · show (kdL (g (4 * p))).toNat < 5; omega
    · show (if g (4 * p + 1) = 114 then 1 else 0) < 2; split <;> omega
    · show (if g (4 * p + 1) = 114 then 1 else 0) < 2; split <;> omega
    · show g (4 * p + 2) - 48 < 10; omega
  · have := hm m hm'
    refine ⟨?_, ?_, ?_, ?_, Nat.zero_le _⟩
    · show g (4 * (P + m)) - 48 < P; omega
    · show g (4 * (P + m) + 1) - 48 < P; omega
    · show 1 ≤ g (4 * (P + m) + 2) - 48; omega
    · show g (4 * (P + m) + 2) - 48 ≤ 9; omega
  · show 0 < (n + 1) / 4 - P ↔ 0 < P; omega
end Rv
section Rc
variable {σ : jSt} {d : Nat} {k : Int32 → jSt → Prop} {g : Nat → Nat} {n : Nat}
theorem w_peopleTold (hV : pV g n) (hX : pX g n σ) {post : jPo} : ∀ (m j : Nat), j + m = 12 → (∀ i, i < j → g (4 * i + 3) ≠ 59 ∨ n ≤ 4 * i + 3) →
    ((∀ i, 4 * i + 3 < n → g (4 * i + 3) ≠ 59) → post (some (.int (iI 0))) σ) → (∀ i, 4 * i + 3 < n → g (4 * i + 3) = 59 → (∀ i', i' < i → g (4 * i' + 3) ≠ 59) → post (some (.int (iI ((i + 1 : Nat) : Int)))) σ) →
    jv_wp (d + 1) post (20, 2, [some (.ref 1), some (.int (iI ((4 * j + 3 : Nat) : Int)))], [], σ) := by
  have h44 := hV.1
  intro m
  induction m with
  | zero =>
    intro j hj hn h0 h1
    refine ok_X3_peopleTold_L2 ⟨fun _ => h0 (fun i hi => ?_), fun c => absurd ?_ c⟩
    · rcases hn i (by omega) with q | q
      · exact q
      · omega
    · rw [hX.1, iI_le ⟨by omega, by omega⟩ ⟨by omega, by omega⟩]; omega
  | succ m ih =>
    intro j hj hn h0 h1
    refine ok_X3_peopleTold_L2 ?_
    unfold vc_X3_peopleTold_L2
    rw [hX.1, iI_le ⟨by omega, by omega⟩ ⟨by omega, by omega⟩]
    refine ⟨fun c => h0 (fun i hi => ?_), fun c => ?_⟩
    · rcases hn i (by omega) with q | q
      · exact q
      · omega
    · have hg := hV.2 (4 * j + 3) (by omega)
      have hc : (iI ((4 * j + 3 : Nat) : Int)).toNatClampNeg = 4 * j + 3 := iI_clamp (by omega)
      have hin : vp_in (iI ((4 * j + 3 : Nat) : Int)) 44 := (iI_in (by omega) 44).mpr (by omega)
      have hq : iI ((4 * j + 3 : Nat) : Int) / iI 4 = iI (((4 * j + 3) / 4 : Nat) : Int) := iI_div (b := 4) (by omega) (by omega) (by omega)
      rw [hc, hX.2 _ (by omega), iI_eq ⟨by omega, by omega⟩ ⟨by omega, by omega⟩, hq, iI_add, iI_add, show ((4 * j + 3 : Nat) : Int) + 4 = ((4 * (j + 1) + 3 : Nat) : Int) by omega, show (((4 * j + 3) / 4 : Nat) : Int) + 1 = ((j + 1 : Nat) : Int) by omega]
      refine ⟨hin, fun c2 => ih (j + 1) (by omega) (fun i hi => ?_) h0 h1, fun c2 => h1 j (by omega) (by omega) (fun i hi => ?_)⟩
      · by_cases e : i = j
        · subst e; exact Or.inl (by omega)
        · exact hn i (by omega)
      · rcases hn i hi with q | q
        · exact q
        · omega
theorem q_peopleTold (hV : pV g n) (hX : pX g n σ) {P : Nat} (hf : fsc g n 0 0 = (n, P)) (h : k (iI (P : Nat)) σ) : jq_I (d + 1) 20 [.ref 1] σ k := by
  obtain ⟨q0, q1⟩ := fsc_A n 0 P (by rw [Nat.zero_add]; exact hf) (fun j hj => absurd hj (by omega))
  refine ok_X3_peopleTold (w_peopleTold hV hX 12 0 (by omega) (fun i hi => absurd hi (by omega)) (fun hno => ?_) (fun i hi he hf => ?_))
  · by_cases e : P = 0
    · rw [e] at h; exact ⟨_, rfl, h⟩
    · obtain ⟨x, e1, e2, e3, e4, e5, e6, e7, e8, e9⟩ := q1 e
      exact absurd (by rw [show 4 * (x / 4) + 3 = x by omega]; exact e3) (hno (x / 4) (by omega))
  · by_cases e : P = 0
    · exact absurd he (q0 e _ (by omega))
    · obtain ⟨x, e1, e2, e3, e4, e5, e6, e7, e8, e9⟩ := q1 e
      have hx : i = x / 4 := by
        rcases Nat.lt_trichotomy i (x / 4) with q | q | q
        · exact absurd he (e8 _ (by omega))
        · exact q
        · exact absurd (by rw [show 4 * (x / 4) + 3 = x by omega]; exact e3) (hf (x / 4) q)
      rw [e4, ← hx] at h
      exact ⟨_, rfl, h⟩
/-- the page is a river -/
def whl (g : Nat → Nat) (n : Nat) : Bool := decide (n % 4 = 3 ∧ (fsc g n 0 0).1 = n ∧ (fsc g n 0 0).2 ≠ 0)
theorem fsc_le : ∀ (m i P : Nat), (fsc g m i P).1 ≤ i + m
  | 0, i, P => by simp [fsc]
  | m + 1, i, P => by
    unfold fsc
    split
    · split
      · exact Nat.le_trans (fsc_le m (i + 1) _) (by omega)
      · simp
    · split
      · exact Nat.le_trans (fsc_le m (i + 1) _) (by omega)
      · simp
theorem fsc_P6 (hV : pV g n) : fsc g n 0 0 = (n, (fsc g n 0 0).2) → (fsc g n 0 0).2 ≤ 11 := by
  intro hf
  have h44 := hV.1
  obtain ⟨-, q1⟩ := fsc_A n 0 _ (by rw [Nat.zero_add]; exact hf) (fun j hj => absurd hj (by omega))
  by_cases e : (fsc g n 0 0).2 = 0
  · omega
  · obtain ⟨x, e1, e2, e3, e4, e5, e6, e7, e8, e9⟩ := q1 e
    omega
theorem q_isWhole (hV : pV g n) (hX : pX g n σ) (h : k (jb (whl g n)) σ) : jq_I (d + 9) 19 [.ref 1] σ k := by
  have h44 := hV.1
  have hle := fsc_le (g := g) n 0 0
  have hr : iI (n : Int) - iI (n : Int) / iI 4 * iI 4 = iI ((n % 4 : Nat) : Int) := iI_rem (b := 4) (by omega) (by omega) (by omega)
  refine ok_X3_isWhole ?_
  unfold vc_X3_isWhole
  rw [hX.1, hr, iI_eq ⟨by omega, by omega⟩ ⟨by omega, by omega⟩]
  unfold whl at h
  refine ⟨fun c => ⟨_, rfl, ?_⟩, fun c => q_firstFault hV hX ?_⟩
  · rw [decide_eq_false (by omega)] at h; rw [jb_f]; exact h
  · rw [hX.1, iI_eq ⟨by omega, by omega⟩ ⟨by omega, by omega⟩]
    refine ⟨fun c2 => ⟨_, rfl, ?_⟩, fun c2 => ?_⟩
    · rw [decide_eq_false (by omega)] at h; rw [jb_f]; exact h
    · have hf : fsc g n 0 0 = (n, (fsc g n 0 0).2) := Prod.ext (by show (fsc g n 0 0).1 = n; omega) rfl
      have h11 := fsc_P6 hV hf
      refine q_peopleTold hV hX hf ?_
      rw [iI_le0 ⟨by omega, by omega⟩]
      refine ⟨fun c3 => ⟨_, rfl, ?_⟩, fun c3 => ⟨_, rfl, ?_⟩⟩
      · rw [decide_eq_false (by omega)] at h; rw [jb_f]; exact h
      · rw [decide_eq_true (by omega)] at h; rw [jb_t]; exact h
end Rc
end
section
/-! a river is read: both sides -/
section R2
variable {σ : jSt} {d : Nat} {k : Int32 → jSt → Prop} {K : jSt → Prop} {g : Nat → Nat} {n : Nat}
def xS (c _k : Nat) : Prop := 3 ≤ c ∧ c ≤ 11
theorem pX.mx {σ' : jSt} (h : pX g n σ) (e : eS xS σ σ') : pX g n σ' := by
  refine ⟨?_, fun i hi => ?_⟩
  · rw [e.2 _ _ (by unfold xS; omega)]; exact h.1
  · rw [e.2 _ _ (by unfold xS; omega)]; exact h.2 i hi
theorem mnI {a b : Int} (ha : iR a) (hb : iR b) (h : b ≤ a) : (if iI a < iI b then iI a else iI b) = iI b := by
  by_cases c : a < b
  · omega
  · rw [if_neg (by rw [iI_lt ha hb]; exact c)]
theorem q_beginX {P M : Nat} (hP : P ≤ 6) (hM : M ≤ 5) (h : ∀ σ', eS xS σ σ' → σ'.1 3 8 = iI (P : Nat) → σ'.1 3 9 = iI (M : Nat) → σ'.1 3 10 = iI 0 → σ'.1 3 11 = iI 0 → σ'.1 3 12 = iI 0 → σ'.1 11 3 = iI 0 → K σ') : jq_V (d + 1) 36 [.ref 3, .int (iI P), .int (iI M)] σ K := by
  refine ok_X7_begin ?_
  unfold vc_X7_begin
  rw [mnI ⟨by omega, by omega⟩ ⟨by omega, by omega⟩ (by omega), mnI ⟨by omega, by omega⟩ ⟨by omega, by omega⟩ (by omega)]
  have u : ∀ (s : jSt) (c k : Nat) (x : Int32), 3 ≤ c → c ≤ 11 → eS xS s (jv_u s c k x) := fun s c k x h1 h2 => eS.u ⟨h1, h2⟩
  refine ⟨rfl, h _ ((((((u _ _ _ _ (by omega) (by omega)).tr (u _ _ _ _ (by omega) (by omega))).tr (u _ _ _ _ (by omega) (by omega))).tr (u _ _ _ _ (by omega) (by omega))).tr (u _ _ _ _ (by omega) (by omega))).tr (u _ _ _ _ (by omega) (by omega))) ?_ ?_ ?_ ?_ ?_ ?_⟩
  all_goals simp (decide := true) only [jv_u_at, ite_true, ite_false]
theorem q_place {p kd b me : Nat} (hp : p < 6) (hb : b < 2) (h : ∀ σ', σ'.2 = σ.2 → σ'.1 4 p = iI (kd : Nat) → σ'.1 5 p = iI (b : Nat) → σ'.1 6 p = iI (me : Nat) → σ'.1 3 10 = (σ.1 3 10 ||| iI (b : Nat) <<< (iI p &&& 31)) → (∀ c k, ¬ ((c = 4 ∨ c = 5 ∨ c = 6) ∧ k = p) → ¬ (c = 3 ∧ k = 10) → σ'.1 c k = σ.1 c k) → K σ') : jq_V (d + 1) 37 [.ref 3, .int (iI p), .int (iI kd), .int (iI b), .int (iI me)] σ K := by
  have hc : (iI (p : Int)).toNatClampNeg = p := iI_clamp (by omega)
  have hin : vp_in (iI (p : Int)) 6 := (iI_in (by omega) 6).mpr (by omega)
  refine ok_X7_place ?_
  unfold vc_X7_place
  rw [hc, iI_eq0 ⟨by omega, by omega⟩]
  have fin : ∀ x : Int32, x = iI (b : Nat) → K (jv_u (jv_u (jv_u (jv_u σ 4 p (iI kd)) 5 p x) 6 p (iI me)) 3 10 ((jv_u (jv_u (jv_u σ 4 p (iI kd)) 5 p x) 6 p (iI me)).1 3 10 ||| (jv_u (jv_u (jv_u σ 4 p (iI kd)) 5 p x) 6 p (iI me)).1 5 p <<< (iI p &&& 31))) := by
    intro x ex
    subst ex
    refine h _ rfl ?_ ?_ ?_ ?_ ?_
    · simp (decide := true) only [jv_u_at, true_and, ite_true, ite_false, false_and]
    · simp (decide := true) only [jv_u_at, true_and, ite_true, ite_false, false_and]
    · simp (decide := true) only [jv_u_at, true_and, ite_true, ite_false, false_and]
    · simp (decide := true) only [jv_u_at, true_and, ite_true, ite_false, false_and]
    · intro c k h1 h2
      rw [jv_u_at, if_neg h2, jv_u_at, if_neg (by omega), jv_u_at, if_neg (by omega), jv_u_at, if_neg (by omega)]
  refine ⟨hin, fun c => ⟨hin, hin, hin, rfl, fin _ ?_⟩, fun c => ⟨hin, hin, hin, rfl, fin _ ?_⟩⟩
  · exact congrArg iI (by omega)
  · exact congrArg iI (by omega)
theorem w_readM {P : Nat} (hF : rvF g n P) {post : jPo} {v3 : Int32} : ∀ (r m : Nat) (z : Option Value) (σ : jSt), pX g n σ → σ.1 3 9 = iI (((n + 1) / 4 - P : Nat) : Int) → m + r = (n + 1) / 4 - P →
    (∀ σ', σ'.2 = σ.2 → (∀ c k, ¬ (7 ≤ c ∧ c ≤ 10) → σ'.1 c k = σ.1 c k) → (∀ c j, j < m → σ'.1 c j = σ.1 c j) → (∀ j, m ≤ j → j < (n + 1) / 4 - P → σ'.1 7 j = iI (rP g n P 5 j : Nat) ∧ σ'.1 8 j = iI (rP g n P 6 j : Nat) ∧ σ'.1 9 j = iI (rP g n P 7 j : Nat) ∧ σ'.1 10 j = iI (-1)) → post none σ') →
    jv_wp (d + 1) post (21, 96, [some (.ref 1), some (.ref 3), some (.int (iI P)), some (.int v3), some (.int (iI m)), z], [], σ) := by
  have hm' := fun m hm => rv_m (m := m) hF hm
  obtain ⟨h1, h2, h3, h4, h5, -⟩ := hF
  intro r
  induction r with
  | zero =>
    intro m z σ hX hM hr h
    refine ok_X3_readInto_L96 ⟨fun _ => h σ rfl (fun _ _ _ => rfl) (fun _ _ _ => rfl) (fun j j1 j2 => absurd j1 (by omega)), fun c => absurd ?_ c⟩
    rw [hM, iI_le ⟨by omega, by omega⟩ ⟨by omega, by omega⟩]; omega
  | succ r ih =>
    intro m z σ hX hM hr h
    have hv := hm' m (by omega)
    have hc : (iI (m : Int)).toNatClampNeg = m := iI_clamp (by omega)
    have hin : vp_in (iI (m : Int)) 5 := (iI_in (by omega) 5).mpr (by omega)
    have cl : ∀ t : Nat, t < 44 → (iI (t : Int)).toNatClampNeg = t := fun t ht => iI_clamp (by omega)
    have vi : ∀ t : Nat, t < 44 → vp_in (iI (t : Int)) 44 := fun t ht => (iI_in (by omega) 44).mpr ht
    refine ok_X3_readInto_L96 ⟨fun c => absurd c ?_, fun _ => ?_⟩
    · rw [hM, iI_le ⟨by omega, by omega⟩ ⟨by omega, by omega⟩]; omega
    · dsimp only
      rw [iI_add (P : Int) (m : Int), iI_mul, show ((P : Int) + (m : Int)) * 4 = ((4 * (P + m) : Nat) : Int) by omega, iI_add, iI_add, iI_add, show ((4 * (P + m) : Nat) : Int) + 1 = ((4 * (P + m) + 1 : Nat) : Int) by omega, show ((4 * (P + m) : Nat) : Int) + 2 = ((4 * (P + m) + 2 : Nat) : Int) by omega, show (m : Int) + 1 = ((m + 1 : Nat) : Int) by omega, cl _ (by omega), cl _ (by omega), cl _ (by omega), cl _ (by omega)]
      simp (decide := true) only [jv_u_at, false_and, ite_false]
      rw [hX.2 _ (by omega), hX.2 _ (by omega), hX.2 _ (by omega), iI_sub, iI_sub, iI_sub]
      refine ⟨vi _ (by omega), hin, vi _ (by omega), hin, vi _ (by omega), hin, hin, ?_⟩
      have hE : ∀ c k, ¬ (7 ≤ c ∧ c ≤ 10 ∧ k = m) → (jv_u (jv_u (jv_u (jv_u σ 7 m (iI (((g (4 * (P + m)) : Nat) : Int) - 48))) 8 m (iI (((g (4 * (P + m) + 1) : Nat) : Int) - 48))) 9 m (iI (((g (4 * (P + m) + 2) : Nat) : Int) - 48))) 10 m (iI (-1))).1 c k = σ.1 c k := by
        intro c k hn
        rw [jv_u_at, if_neg (by omega), jv_u_at, if_neg (by omega), jv_u_at, if_neg (by omega), jv_u_at, if_neg (by omega)]
      refine ih (m + 1) _ _ ⟨by rw [hE _ _ (by omega)]; exact hX.1, fun i hi => by rw [hE _ _ (by omega)]; exact hX.2 i hi⟩ (by rw [hE _ _ (by omega)]; exact hM) (by omega) (fun σ' e1 e2 e3 e4 => h σ' e1 (fun c k hn => ?_) (fun c j hj => ?_) (fun j j1 j2 => ?_))
      · rw [e2 c k hn, hE _ _ (by omega)]
      · rw [e3 c j (by omega), hE _ _ (by omega)]
      · by_cases e : j = m
        · subst e
          rw [e3 7 j (by omega), e3 8 j (by omega), e3 9 j (by omega), e3 10 j (by omega)]
          simp (decide := true) only [jv_u_at, true_and, false_and, ite_true, ite_false]
          refine ⟨congrArg iI ?_, congrArg iI ?_, congrArg iI ?_, trivial⟩
          · show _ = ((g (4 * (P + j)) - 48 : Nat) : Int); omega
          · show _ = ((g (4 * (P + j) + 1) - 48 : Nat) : Int); omega
          · show _ = ((g (4 * (P + j) + 2) - 48 : Nat) : Int); omega
        · exact e4 j (by omega) j2
theorem w_readP (hV : pV g n) {P : Nat} (hF : rvF g n P) {post : jPo} {v3 : Int32} : ∀ (r p : Nat) (z : Option Value) (σ : jSt), pX g n σ → σ.1 3 8 = iI (P : Nat) → σ.1 3 10 = iI (bsN (fun q => rP g n P 3 q == 1) p : Nat) → p + r = P →
    (∀ σ', σ'.2 = σ.2 → pX g n σ' → (∀ c k, ¬ (4 ≤ c ∧ c ≤ 6) → ¬ (c = 3 ∧ k = 10) → σ'.1 c k = σ.1 c k) → σ'.1 3 10 = iI (rt (rP g n P) : Nat) → (∀ c j, j < p → c ≠ 3 → σ'.1 c j = σ.1 c j) → (∀ j, p ≤ j → j < P → σ'.1 4 j = iI (rP g n P 1 j : Nat) ∧ σ'.1 5 j = iI (rP g n P 2 j : Nat) ∧ σ'.1 6 j = iI (rP g n P 4 j : Nat)) → ∀ z, jv_wp (d + 7) post (21, 96, [some (.ref 1), some (.ref 3), some (.int (iI P)), some (.int v3), some (.int (iI 0)), z], [], σ')) →
    jv_wp (d + 7) post (21, 25, [some (.ref 1), some (.ref 3), some (.int (iI P)), some (.int v3), some (.int (iI p)), z], [], σ) := by
  have hp' := fun p hp => rv_p (p := p) hF hp
  obtain ⟨h1, h2, h3, h4, h5, -⟩ := hF
  intro r
  induction r with
  | zero =>
    intro p z σ hX hP hrt hr h
    refine ok_X3_readInto_L25 ⟨fun _ => h σ rfl hX (fun _ _ _ _ => rfl) ?_ (fun _ _ _ _ => rfl) (fun j j1 j2 => absurd j1 (by omega)) _, fun c => absurd ?_ c⟩
    · rw [hrt]; unfold rt; rw [show rP g n P 0 0 = p from by show P = p; omega]
    · rw [hP, iI_le ⟨by omega, by omega⟩ ⟨by omega, by omega⟩]; omega
  | succ r ih =>
    intro p z σ hX hP hrt hr h
    have hv := hp' p (by omega)
    have hk4 := (kdL_in (g (4 * p))).2
    have cl : ∀ t : Nat, t < 44 → (iI (t : Int)).toNatClampNeg = t := fun t ht => iI_clamp (by omega)
    have vi : ∀ t : Nat, t < 44 → vp_in (iI (t : Int)) 44 := fun t ht => (iI_in (by omega) 44).mpr ht
    have hg0 := hV.2 (4 * p) (by omega)
    have hg1 := hV.2 (4 * p + 1) (by omega)
    refine ok_X3_readInto_L25 ⟨fun c => absurd c ?_, fun _ => ?_⟩
    · rw [hP, iI_le ⟨by omega, by omega⟩ ⟨by omega, by omega⟩]; omega
    · dsimp only
      rw [iI_mul, show (p : Int) * 4 = ((4 * p : Nat) : Int) by omega, iI_add, iI_add, iI_add, show ((4 * p : Nat) : Int) + 1 = ((4 * p + 1 : Nat) : Int) by omega, show ((4 * p : Nat) : Int) + 2 = ((4 * p + 2 : Nat) : Int) by omega, show (p : Int) + 1 = ((p + 1 : Nat) : Int) by omega]
      refine ⟨vi _ (by omega), ?_⟩
      rw [cl _ (by omega), cl _ (by omega), cl _ (by omega), hX.2 _ (by omega)]
      refine q_kindOf (by omega) ⟨vi _ (by omega), ?_⟩
      rw [hX.2 _ (by omega), hX.2 _ (by omega), iI_eq ⟨by omega, by omega⟩ ⟨by omega, by omega⟩, iI_sub, show kdL (g (4 * p)) = (((kdL (g (4 * p))).toNat : Nat) : Int) by omega, show ((g (4 * p + 2) : Nat) : Int) - 48 = ((g (4 * p + 2) - 48 : Nat) : Int) by omega]
      have nx : ∀ b : Nat, b = rP g n P 2 p → jq_V (d + 6) 37 [.ref 3, .int (iI p), .int (iI (((kdL (g (4 * p))).toNat : Nat) : Int)), .int (iI b), .int (iI ((g (4 * p + 2) - 48 : Nat) : Int))] σ (fun s => jv_wp (d + 7) post (21, 25, [some (.ref 1), some (.ref 3), some (.int (iI P)), some (.int v3), some (.int (iI ((p + 1 : Nat) : Int))), some (.int (iI ((4 * p : Nat) : Int)))], [], s)) := by
        intro b eb
        have hb2 : b < 2 := by rw [eb]; show (if g (4 * p + 1) = 114 then 1 else 0) < 2; split <;> omega
        refine q_place (by omega) hb2 (fun s e0 e1 e2 e3 e4 e5 => ?_)
        refine ih (p + 1) _ s ⟨by rw [e5 _ _ (by omega) (by omega)]; exact hX.1, fun i hi => by rw [e5 _ _ (by omega) (by omega)]; exact hX.2 i hi⟩ (by rw [e5 _ _ (by omega) (by omega)]; exact hP) ?_ (by omega) (fun σ' f0 f1 f2 f3 f4 f5 => h σ' (f0.trans e0) f1 (fun c k n1 n2 => ?_) f3 (fun c j hj n3 => ?_) (fun j j1 j2 => ?_))
        · have eB : bsN (fun q => rP g n P 3 q == 1) (p + 1) = if (rP g n P 3 p == 1) = true then bsN (fun q => rP g n P 3 q == 1) p ||| 2 ^ p else bsN (fun q => rP g n P 3 q == 1) p := rfl
          rw [e4, hrt, eB]
          have eb3 : rP g n P 3 p = b := by rw [eb]; rfl
          rcases (show b = 0 ∨ b = 1 by omega) with e | e
          · rw [e, iI_shl (by omega) (by omega), iI_or, Nat.zero_mul, Nat.or_zero, if_neg (by rw [eb3, e]; decide)]
          · rw [e, show (iI ((1 : Nat) : Int) : Int32) = iI 1 from rfl, iI_sbit (by omega), if_pos (by rw [eb3, e]; decide)]
        · rw [f2 c k n1 n2, e5 _ _ (by omega) n2]
        · rw [f4 c j (by omega) n3, e5 _ _ (by omega) (by omega)]
        · by_cases e : j = p
          · subst e
            rw [f4 4 j (by omega) (by omega), f4 5 j (by omega) (by omega), f4 6 j (by omega) (by omega), e1, e2, e3]
            exact ⟨rfl, by rw [eb], rfl⟩
          · exact f5 j (by omega) j2
      refine ⟨fun c => ⟨vi _ (by omega), nx 0 ?_⟩, fun c => ⟨vi _ (by omega), nx 1 ?_⟩⟩
      · show 0 = if g (4 * p + 1) = 114 then 1 else 0; rw [if_neg (by omega)]
      · show 1 = if g (4 * p + 1) = 114 then 1 else 0; rw [if_pos (by omega)]
theorem q_readInto (hV : pV g n) (hX : pX g n σ) {P : Nat} (hf : fsc g n 0 0 = (n, P)) (hF : rvF g n P) (h : ∀ σ', eS xS σ σ' → rX 3 (rP g n P) σ' → σ'.1 3 12 = iI 0 → K σ') : jq_V (d + 8) 21 [.ref 1, .ref 3] σ K := by
  have h44 := hV.1
  have hF0 := hF
  obtain ⟨h1, h2, h3, h4, h5, -⟩ := hF0
  refine ok_X3_readInto (q_peopleTold hV hX hf ?_)
  have e1 : (iI (n : Int) + iI 1) / iI 4 = iI (((n + 1) / 4 : Nat) : Int) := by
    rw [iI_add, show (n : Int) + 1 = ((n + 1 : Nat) : Int) by omega]; exact iI_div (b := 4) (by omega) (by omega) (by omega)
  dsimp only
  rw [hX.1, e1, iI_sub, show (((n + 1) / 4 : Nat) : Int) - (P : Int) = (((n + 1) / 4 - P : Nat) : Int) by omega]
  refine q_beginX (by omega) (by omega) (fun s1 hE1 a1 a2 a3 a4 a5 a6 => ?_)
  refine w_readP hV hF P 0 none s1 (hX.mx hE1) a1 a3 (by omega) (fun s2 b0 b1 b2 b3 b4 b5 z => ?_)
  refine w_readM hF ((n + 1) / 4 - P) 0 z s2 b1 (by rw [b2 _ _ (by omega) (by omega)]; exact a2) (by omega) (fun s3 c0 c1 c2 c3 => ⟨rfl, h s3 ⟨(c0.trans b0).trans hE1.1, fun c k q => ?_⟩ ?_ ?_⟩)
  · unfold xS at q
    rw [c1 c k (by omega), b2 c k (by omega) (by omega), hE1.2 c k (by unfold xS; omega)]
  · refine ⟨?_, ?_, ?_, ?_, ?_, fun p hp => ?_, fun m hm => ?_, fun i hi => absurd hi (Nat.not_lt_zero _)⟩
    · rw [c1 _ _ (by omega), b2 _ _ (by omega) (by omega), a1]; rfl
    · rw [c1 _ _ (by omega), b2 _ _ (by omega) (by omega), a2]; rfl
    · rw [c1 _ _ (by omega), b3]
    · rw [c1 _ _ (by omega), b2 _ _ (by omega) (by omega), a4]; rfl
    · rw [c1 _ _ (by omega), b2 _ _ (by omega) (by omega), a6]; rfl
    · rw [c1 _ _ (by omega), c1 _ _ (by omega), c1 _ _ (by omega)]; exact b5 p (by omega) hp
    · exact c3 m (by omega) hm
  · rw [c1 _ _ (by omega), b2 _ _ (by omega) (by omega), a5]
def rvS (c k : Nat) : Prop := (3 ≤ c ∧ c ≤ 11) ∨ (c = 1 ∧ k = 1) ∨ (c = 15 ∧ k = 8) ∨ (c = 0 ∧ k = 5)
/-- river() of the class -/
theorem q_riverX (hV : pV g n) (hX : pX g n σ) (h0 : whl g n = false → k (iI (-103)) σ) (h1 : whl g n = true → rvF g n (fsc g n 0 0).2 → ∀ σ', eS rvS σ σ' → rX 3 (rP g n (fsc g n 0 0).2) σ' → σ'.1 3 12 = iI 0 → σ'.1 1 1 = iI 0 → σ'.1 15 8 = iI 0 → σ'.1 0 5 = σ.1 0 5 + iI 1 → k (iI ((fsc g n 0 0).2 : Nat)) σ') : jq_I (d + 10) 57 [.ref 0] σ k := by
  refine ok_X8_river (q_isWhole hV hX ?_)
  rw [jb_0]
  refine ⟨fun c => ?_, fun c => ⟨_, rfl, h0 c⟩⟩
  have c : whl g n = true := by simpa using c
  have cw := of_decide_eq_true c
  have hf : fsc g n 0 0 = (n, (fsc g n 0 0).2) := Prod.ext cw.2.1 rfl
  have hF := rv_of hf cw.2.2 cw.1
  refine q_readInto hV hX hf hF (fun s1 hE1 hR h12 => ?_)
  dsimp only
  have hR' : ∀ s : jSt, (∀ c k, 3 ≤ c → c ≤ 14 → s.1 c k = s1.1 c k) → rX 3 (rP g n (fsc g n 0 0).2) s := fun s hs => by
    obtain ⟨r1, r2, r3, r4, r5, r6, r7, r8⟩ := hR
    refine ⟨?_, ?_, ?_, ?_, ?_, fun p hp => ?_, fun m hm => ?_, fun i hi => ?_⟩
    · rw [hs _ _ (by omega) (by omega)]; exact r1
    · rw [hs _ _ (by omega) (by omega)]; exact r2
    · rw [hs _ _ (by omega) (by omega)]; exact r3
    · rw [hs _ _ (by omega) (by omega)]; exact r4
    · rw [hs _ _ (by omega) (by omega)]; exact r5
    · rw [hs _ _ (by omega) (by omega), hs _ _ (by omega) (by omega), hs _ _ (by omega) (by omega)]; exact r6 p hp
    · rw [hs _ _ (by omega) (by omega), hs _ _ (by omega) (by omega), hs _ _ (by omega) (by omega), hs _ _ (by omega) (by omega)]; exact r7 m hm
    · rw [hs _ _ (by omega) (by omega), hs _ _ (by omega) (by omega), hs _ _ (by omega) (by omega)]; exact r8 i hi
  have hs : ∀ c k, 3 ≤ c → c ≤ 14 → (jv_u (jv_u (jv_u s1 1 1 (iI 0)) 15 8 (iI 0)) 0 5 ((jv_u (jv_u s1 1 1 (iI 0)) 15 8 (iI 0)).1 0 5 + iI 1)).1 c k = s1.1 c k := fun c k q1 q2 => by
    rw [jv_u_at, if_neg (by omega), jv_u_at, if_neg (by omega), jv_u_at, if_neg (by omega)]
  have hr8 := (hR' _ hs).1
  refine ⟨_, rfl, ?_⟩
  rw [show ((jv_u (jv_u (jv_u s1 1 1 (iI 0)) 15 8 (iI 0)) 0 5 ((jv_u (jv_u s1 1 1 (iI 0)) 15 8 (iI 0)).1 0 5 + iI 1)).1 3 8) = iI ((fsc g n 0 0).2 : Nat) from hr8]
  refine h1 c hF _ ⟨hE1.1, fun c k q => ?_⟩ (hR' _ hs) ?_ ?_ ?_ ?_
  · unfold rvS at q
    rw [jv_u_at, if_neg (by omega), jv_u_at, if_neg (by omega), jv_u_at, if_neg (by omega), hE1.2 c k (by unfold xS; omega)]
  · rw [hs _ _ (by omega) (by omega)]; exact h12
  · simp (decide := true) only [jv_u_at, ite_true, ite_false]
  · simp (decide := true) only [jv_u_at, ite_true, ite_false]
  · simp (decide := true) only [jv_u_at, ite_true, ite_false]
    rw [hE1.2 0 5 (by unfold xS; omega)]
end R2
end
section
/-! a river is read: the reference; letters and blank on both sides -/
section R3
variable {σ : jSt} {d : Nat} {k : Int32 → jSt → Prop} {K : jSt → Prop} {g : Nat → Nat} {n : Nat}
theorem w_rivP (hV : pV g n) {P : Nat} (hF : rvF g n P) {post : jPo} : ∀ (r p : Nat) (σ : jSt), pM g n σ → σ.1 34 3 = iI (P : Nat) → p + r = P →
    (∀ σ', σ'.2 = σ.2 → (∀ c k, ¬ (36 ≤ c ∧ c ≤ 39) → σ'.1 c k = σ.1 c k) → (∀ c j, j < p → σ'.1 c j = σ.1 c j) → (∀ j, p ≤ j → j < P → σ'.1 36 j = iI (rP g n P 1 j : Nat) ∧ σ'.1 37 j = iI (rP g n P 2 j : Nat) ∧ σ'.1 38 j = iI (rP g n P 3 j : Nat) ∧ σ'.1 39 j = iI (rP g n P 4 j : Nat)) → jv_wp (d + 2) post (88, 154, [some (.ref 34), some (.int (iI 0)), none], [], σ')) →
    jv_wp (d + 2) post (88, 64, [some (.ref 34), some (.int (iI p)), none], [], σ) := by
  have hp' := fun p hp => rv_p (p := p) hF hp
  obtain ⟨h1, h2, h3, h4, h5, -⟩ := hF
  intro r
  induction r with
  | zero =>
    intro p σ hM hP hr h
    refine ok_X9_river_L64 ⟨fun _ => h σ rfl (fun _ _ _ => rfl) (fun _ _ _ => rfl) (fun j j1 j2 => absurd j1 (by omega)), fun c => absurd ?_ c⟩
    rw [hP, iI_le ⟨by omega, by omega⟩ ⟨by omega, by omega⟩]; omega
  | succ r ih =>
    intro p σ hM hP hr h
    have hv := hp' p (by omega)
    have hk4 := (kdL_in (g (4 * p))).2
    have hc : (iI (p : Int)).toNatClampNeg = p := iI_clamp (by omega)
    have hin : vp_in (iI (p : Int)) 6 := (iI_in (by omega) 6).mpr (by omega)
    have cl : ∀ t : Nat, t < 44 → (iI (t : Int)).toNatClampNeg = t := fun t ht => iI_clamp (by omega)
    have vi : ∀ t : Nat, t < 44 → vp_in (iI (t : Int)) 44 := fun t ht => (iI_in (by omega) 44).mpr ht
    have hg0 := hV.2 (4 * p) (by omega)
    have hg1 := hV.2 (4 * p + 1) (by omega)
    refine ok_X9_river_L64 ⟨fun c => absurd c ?_, fun _ => ?_⟩
    · rw [hP, iI_le ⟨by omega, by omega⟩ ⟨by omega, by omega⟩]; omega
    · dsimp only
      rw [iI_mul, show 4 * (p : Int) = ((4 * p : Nat) : Int) by omega, iI_add, iI_add, iI_add, show ((4 * p : Nat) : Int) + 1 = ((4 * p + 1 : Nat) : Int) by omega, show ((4 * p : Nat) : Int) + 2 = ((4 * p + 2 : Nat) : Int) by omega, show (p : Int) + 1 = ((p + 1 : Nat) : Int) by omega, cl (4 * p) (by omega), cl (4 * p + 1) (by omega), cl (4 * p + 2) (by omega), hc]
      refine ⟨vi _ (by omega), ?_⟩
      rw [hM.2 _ (by omega)]
      refine q_kindBy (by omega) ⟨hin, vi _ (by omega), ?_⟩
      simp (decide := true) only [jv_u_at, true_and, false_and, ite_true, ite_false]
      rw [hM.2 _ (by omega), hM.2 _ (by omega), iI_eq ⟨by omega, by omega⟩ ⟨by omega, by omega⟩, iI_sub]
      have nx : ∀ b : Int32, b = iI (rP g n P 2 p : Nat) → jv_wp (d + 2) post (88, 64, [some (.ref 34), some (.int (iI ((p + 1 : Nat) : Int))), none], [], jv_u (jv_u (jv_u (jv_u σ 36 p (iI (kdL (g (4 * p))))) 37 p b) 38 p b) 39 p (iI (((g (4 * p + 2) : Nat) : Int) - 48))) := by
        intro b eb
        have hE : ∀ c k, ¬ (36 ≤ c ∧ c ≤ 39 ∧ k = p) → (jv_u (jv_u (jv_u (jv_u σ 36 p (iI (kdL (g (4 * p))))) 37 p b) 38 p b) 39 p (iI (((g (4 * p + 2) : Nat) : Int) - 48))).1 c k = σ.1 c k := by
          intro c k q
          rw [jv_u_at, if_neg (by omega), jv_u_at, if_neg (by omega), jv_u_at, if_neg (by omega), jv_u_at, if_neg (by omega)]
        refine ih (p + 1) _ ⟨by rw [hE _ _ (by omega)]; exact hM.1, fun i hi => by rw [hE _ _ (by omega)]; exact hM.2 i hi⟩ (by rw [hE _ _ (by omega)]; exact hP) (by omega) (fun σ' f0 f1 f2 f3 => h σ' f0 (fun c k q => ?_) (fun c j hj => ?_) (fun j j1 j2 => ?_))
        · rw [f1 c k q, hE _ _ (by omega)]
        · rw [f2 c j (by omega), hE _ _ (by omega)]
        · by_cases e : j = p
          · subst e
            rw [f2 36 j (by omega), f2 37 j (by omega), f2 38 j (by omega), f2 39 j (by omega)]
            simp (decide := true) only [jv_u_at, true_and, false_and, ite_true, ite_false]
            refine ⟨congrArg iI ?_, eb, eb, congrArg iI ?_⟩
            · show _ = (((kdL (g (4 * j))).toNat : Nat) : Int); omega
            · show _ = ((g (4 * j + 2) - 48 : Nat) : Int); omega
          · exact f3 j (by omega) j2
      refine ⟨fun c => ⟨hin, hin, hin, vi _ (by omega), hin, nx _ ?_⟩, fun c => ⟨hin, hin, hin, vi _ (by omega), hin, nx _ ?_⟩⟩
      · show _ = iI (((if g (4 * p + 1) = 114 then 1 else 0 : Nat)) : Int); rw [if_pos (by omega)]; rfl
      · show _ = iI (((if g (4 * p + 1) = 114 then 1 else 0 : Nat)) : Int); rw [if_neg (by omega)]; rfl
theorem w_rivM {P : Nat} (hF : rvF g n P) {post : jPo} : ∀ (r m : Nat) (z : Option Value) (σ : jSt), pM g n σ → σ.1 34 4 = iI (((n + 1) / 4 - P : Nat) : Int) → σ.1 34 2 = iI ((4 * P : Nat) - 1 : Int) → m + r = (n + 1) / 4 - P →
    (∀ σ', σ'.2 = σ.2 → (∀ c k, ¬ (40 ≤ c ∧ c ≤ 44) → ¬ (c = 34 ∧ (k = 1 ∨ k = 5 ∨ k = 6 ∨ k = 7 ∨ k = 24)) → σ'.1 c k = σ.1 c k) → σ'.1 34 5 = iI 0 → σ'.1 34 6 = iI 0 → σ'.1 34 24 = iI 0 → σ'.1 34 7 = σ.1 34 7 + iI 1 → σ'.1 34 1 = iI 0 → (∀ c j, j < m → c ≠ 34 → σ'.1 c j = σ.1 c j) → (∀ j, m ≤ j → j < (n + 1) / 4 - P → σ'.1 40 j = iI (rP g n P 5 j : Nat) ∧ σ'.1 41 j = iI (rP g n P 6 j : Nat) ∧ σ'.1 42 j = iI (rP g n P 7 j : Nat) ∧ σ'.1 43 j = iI 0) → post (some (.int (σ.1 34 3))) σ') →
    jv_wp (d + 1) post (88, 154, [some (.ref 34), some (.int (iI m)), z], [], σ) := by
  have hm' := fun m hm => rv_m (m := m) hF hm
  obtain ⟨h1, h2, h3, h4, h5, -⟩ := hF
  intro r
  induction r with
  | zero =>
    intro m z σ hM hMM hEn hr h
    refine ok_X9_river_L154 ⟨fun _ => ?_, fun c => absurd ?_ c⟩
    · have e3 : (jv_u (jv_u (jv_u (jv_u (jv_u σ 34 5 (iI 0)) 34 6 (iI 0)) 34 24 (iI 0)) 34 7 ((jv_u (jv_u (jv_u σ 34 5 (iI 0)) 34 6 (iI 0)) 34 24 (iI 0)).1 34 7 + iI 1)) 34 1 (iI 0)).1 34 3 = σ.1 34 3 := by
        simp (decide := true) only [jv_u_at, ite_false]
      dsimp only
      rw [e3]
      refine h _ rfl (fun c k q1 q2 => ?_) ?_ ?_ ?_ ?_ ?_ (fun c j hj hc => ?_) (fun j j1 j2 => absurd j1 (by omega))
      · rw [jv_u_at, if_neg (by omega), jv_u_at, if_neg (by omega), jv_u_at, if_neg (by omega), jv_u_at, if_neg (by omega), jv_u_at, if_neg (by omega)]
      · simp (decide := true) only [jv_u_at, ite_true, ite_false]
      · simp (decide := true) only [jv_u_at, ite_true, ite_false]
      · simp (decide := true) only [jv_u_at, ite_true, ite_false]
      · simp (decide := true) only [jv_u_at, ite_true, ite_false]
      · simp (decide := true) only [jv_u_at, ite_true, ite_false]
      · rw [jv_u_at, if_neg (by omega), jv_u_at, if_neg (by omega), jv_u_at, if_neg (by omega), jv_u_at, if_neg (by omega), jv_u_at, if_neg (by omega)]
    · rw [hMM, iI_le ⟨by omega, by omega⟩ ⟨by omega, by omega⟩]; omega
  | succ r ih =>
    intro m z σ hM hMM hEn hr h
    have hv := hm' m (by omega)
    have hin : vp_in (iI (m : Int)) 5 := (iI_in (by omega) 5).mpr (by omega)
    have cl : ∀ t : Nat, t < 44 → (iI (t : Int)).toNatClampNeg = t := fun t ht => iI_clamp (by omega)
    have vi : ∀ t : Nat, t < 44 → vp_in (iI (t : Int)) 44 := fun t ht => (iI_in (by omega) 44).mpr ht
    refine ok_X9_river_L154 ⟨fun c => absurd c ?_, fun _ => ?_⟩
    · rw [hMM, iI_le ⟨by omega, by omega⟩ ⟨by omega, by omega⟩]; omega
    · dsimp only
      have e1 : σ.1 34 2 + iI 1 + iI 4 * iI (m : Int) = iI ((4 * (P + m) : Nat) : Int) := by
        rw [hEn, iI_mul, iI_add, iI_add]; exact congrArg iI (by omega)
      rw [e1, iI_add, iI_add, iI_add, show ((4 * (P + m) : Nat) : Int) + 1 = ((4 * (P + m) + 1 : Nat) : Int) by omega, show ((4 * (P + m) : Nat) : Int) + 2 = ((4 * (P + m) + 2 : Nat) : Int) by omega, show (m : Int) + 1 = ((m + 1 : Nat) : Int) by omega, cl (4 * (P + m)) (by omega), cl (4 * (P + m) + 1) (by omega), cl (4 * (P + m) + 2) (by omega), cl m (by omega)]
      simp (decide := true) only [jv_u_at, false_and, ite_false]
      rw [hM.2 _ (by omega), hM.2 _ (by omega), hM.2 _ (by omega), iI_sub, iI_sub, iI_sub]
      refine ⟨vi _ (by omega), hin, vi _ (by omega), hin, vi _ (by omega), hin, hin, hin, ?_⟩
      have hE : ∀ c k, ¬ (40 ≤ c ∧ c ≤ 44 ∧ k = m) → (jv_u (jv_u (jv_u (jv_u (jv_u σ 40 m (iI (((g (4 * (P + m)) : Nat) : Int) - 48))) 41 m (iI (((g (4 * (P + m) + 1) : Nat) : Int) - 48))) 42 m (iI (((g (4 * (P + m) + 2) : Nat) : Int) - 48))) 43 m (iI 0)) 44 m (iI 0)).1 c k = σ.1 c k := by
        intro c k hn
        rw [jv_u_at, if_neg (by omega), jv_u_at, if_neg (by omega), jv_u_at, if_neg (by omega), jv_u_at, if_neg (by omega), jv_u_at, if_neg (by omega)]
      refine ih (m + 1) _ _ ⟨by rw [hE _ _ (by omega)]; exact hM.1, fun i hi => by rw [hE _ _ (by omega)]; exact hM.2 i hi⟩ (by rw [hE _ _ (by omega)]; exact hMM) (by rw [hE _ _ (by omega)]; exact hEn) (by omega) (fun σ' f0 f1 f2 f3 f4 f5 f6 f7 f8 => ?_)
      rw [hE 34 3 (by omega)]
      rw [hE 34 7 (by omega)] at f5
      refine h σ' f0 (fun c k q1 q2 => ?_) f2 f3 f4 f5 f6 (fun c j hj q => ?_) (fun j j1 j2 => ?_)
      · rw [f1 c k q1 q2, hE _ _ (by omega)]
      · rw [f7 c j (by omega) q, hE _ _ (by omega)]
      · by_cases e : j = m
        · subst e
          rw [f7 40 j (by omega) (by omega), f7 41 j (by omega) (by omega), f7 42 j (by omega) (by omega), f7 43 j (by omega) (by omega)]
          simp (decide := true) only [jv_u_at, true_and, false_and, ite_true, ite_false]
          refine ⟨congrArg iI ?_, congrArg iI ?_, congrArg iI ?_, trivial⟩
          · show _ = ((g (4 * (P + j)) - 48 : Nat) : Int); omega
          · show _ = ((g (4 * (P + j) + 1) - 48 : Nat) : Int); omega
          · show _ = ((g (4 * (P + j) + 2) - 48 : Nat) : Int); omega
        · exact f8 j (by omega) j2
def mvS (c k : Nat) : Prop := (c = 34 ∧ (k = 1 ∨ k = 2 ∨ k = 3 ∨ k = 4 ∨ k = 5 ∨ k = 6 ∨ k = 7 ∨ k = 24)) ∨ (36 ≤ c ∧ c ≤ 44)
/-- river() of the reference -/
theorem q_riverM (hV : pV g n) (hM : pM g n σ) (h0 : whl g n = false → ∀ σ', eS mS σ σ' → k (iI (-103)) σ') (h1 : whl g n = true → ∀ σ', eS mvS σ σ' → rM (rP g n (fsc g n 0 0).2) σ' → σ'.1 34 6 = iI 0 → σ'.1 34 1 = iI 0 → σ'.1 34 7 = σ.1 34 7 + iI 1 → k (iI ((fsc g n 0 0).2 : Nat)) σ') : jq_I (d + 5) 88 [.ref 34] σ k := by
  have h44 := hV.1
  have hle := fsc_le (g := g) n 0 0
  refine ok_X9_river (q_faultOf hV hM (fun s1 hE1 hen => ?_))
  have hM1 := hM.mv (hE1.wk fS_m)
  rw [hM1.1, iI_lt ⟨by omega, by omega⟩ ⟨by omega, by omega⟩]
  have no : whl g n = false → ∃ x, some (Value.int (iI (-103))) = some (.int x) ∧ k x s1 := fun q => ⟨_, rfl, h0 q s1 (hE1.wk fS_m)⟩
  refine ⟨fun c => no ?_, fun c => ?_⟩
  · unfold whl; exact decide_eq_false (by omega)
  · have hf : fsc g n 0 0 = (n, (fsc g n 0 0).2) := Prod.ext (by show (fsc g n 0 0).1 = n; omega) rfl
    have h11 := fsc_P6 hV hf
    by_cases e : (fsc g n 0 0).2 = 0
    · refine ⟨fun _ => no ?_, fun c2 => absurd ?_ c2⟩
      · unfold whl; exact decide_eq_false (by omega)
      · rw [hen]; unfold enN; rw [if_pos e]; exact iI_0.symm
    · obtain ⟨-, q1⟩ := fsc_A n 0 _ (by rw [Nat.zero_add]; exact hf) (fun j hj => absurd hj (by omega))
      obtain ⟨x, e1, e2, e3, e4, e5, e6, -⟩ := q1 e
      have hen1 : s1.1 34 2 = iI ((4 * (fsc g n 0 0).2 : Nat) - 1 : Int) := by rw [hen]; unfold enN; rw [if_neg e]
      have hr : iI ((n + 1 - 4 * (fsc g n 0 0).2 : Nat) : Int) - iI ((n + 1 - 4 * (fsc g n 0 0).2 : Nat) : Int) / iI 4 * iI 4 = iI (((n + 1 - 4 * (fsc g n 0 0).2) % 4 : Nat) : Int) := iI_rem (b := 4) (by omega) (by omega) (by omega)
      have hsub : iI (n : Int) - iI ((4 * (fsc g n 0 0).2 : Nat) - 1 : Int) = iI ((n + 1 - 4 * (fsc g n 0 0).2 : Nat) : Int) := by
        rw [iI_sub]; exact congrArg iI (by omega)
      refine ⟨fun c2 => absurd c2 ?_, fun _ => ?_⟩
      · rw [hen1, iI_eq0 ⟨by omega, by omega⟩]; omega
      · rw [hen1, hsub, hr, iI_eq0 ⟨by omega, by omega⟩]
        refine ⟨fun c3 => ?_, fun c3 => no ?_⟩
        · have hn3 : n % 4 = 3 := by omega
          have hw : whl g n = true := decide_eq_true ⟨hn3, by omega, e⟩
          have hF := rv_of hf e hn3
          have hF0 := hF
          obtain ⟨g1, g2, g3, g4, g5, -⟩ := hF0
          have d1 : (iI ((4 * (fsc g n 0 0).2 : Nat) - 1 : Int) + iI 1) / iI 4 = iI ((fsc g n 0 0).2 : Nat) := by
            rw [iI_add, show ((4 * (fsc g n 0 0).2 : Nat) : Int) - 1 + 1 = ((4 * (fsc g n 0 0).2 : Nat) : Int) by omega, show (iI 4 : Int32) = iI ((4 : Nat) : Int) from rfl, iI_div (by omega) (by omega) (by omega)]
            exact congrArg (fun n : Nat => iI (n : Int)) (by omega)
          have d2 : iI ((n + 1 - 4 * (fsc g n 0 0).2 : Nat) : Int) / iI 4 = iI (((n + 1) / 4 - (fsc g n 0 0).2 : Nat) : Int) := by
            rw [show (iI 4 : Int32) = iI ((4 : Nat) : Int) from rfl, iI_div (by omega) (by omega) (by omega)]
            exact congrArg (fun n : Nat => iI (n : Int)) (by omega)
          dsimp only
          simp (decide := true) only [jv_u_at, ite_false]
          rw [hM1.1, hen1, hsub, d1, d2]
          have hu : ∀ c k, ¬ (c = 34 ∧ (k = 3 ∨ k = 4)) → (jv_u (jv_u s1 34 3 (iI ((fsc g n 0 0).2 : Nat))) 34 4 (iI (((n + 1) / 4 - (fsc g n 0 0).2 : Nat) : Int))).1 c k = s1.1 c k := fun c k q => by
            rw [jv_u_at, if_neg (by omega), jv_u_at, if_neg (by omega)]
          refine w_rivP hV hF (fsc g n 0 0).2 0 _ ⟨by rw [hu _ _ (by omega)]; exact hM1.1, fun i hi => by rw [hu _ _ (by omega)]; exact hM1.2 i hi⟩ (by simp (decide := true) only [jv_u_at, ite_true, ite_false]) (by omega) (fun s2 b0 b1 b2 b3 => ?_)
          refine w_rivM hF ((n + 1) / 4 - (fsc g n 0 0).2) 0 none s2 ⟨by rw [b1 _ _ (by omega), hu _ _ (by omega)]; exact hM1.1, fun i hi => by rw [b1 _ _ (by omega), hu _ _ (by omega)]; exact hM1.2 i hi⟩ (by rw [b1 _ _ (by omega)]; simp (decide := true) only [jv_u_at, ite_true]) (by rw [b1 _ _ (by omega), hu _ _ (by omega)]; exact hen1) (by omega) (fun s3 c0 c1 c4 c5 c6 c7 c8 c9 c10 => ?_)
          rw [b1 34 3 (by omega)]
          have e33 : (jv_u (jv_u s1 34 3 (iI ((fsc g n 0 0).2 : Nat))) 34 4 (iI (((n + 1) / 4 - (fsc g n 0 0).2 : Nat) : Int))).1 34 3 = iI ((fsc g n 0 0).2 : Nat) := by
            simp (decide := true) only [jv_u_at, ite_true, ite_false]
          rw [e33]
          refine ⟨_, rfl, h1 hw s3 ⟨(c0.trans b0).trans hE1.1, fun c k q => ?_⟩ ?_ c5 c8 ?_⟩
          · unfold mvS at q
            rw [c1 c k (by omega) (by omega), b1 c k (by omega), hu c k (by omega), hE1.2 c k (by unfold fS; omega)]
          · refine ⟨?_, ?_, c4, c6, fun p hp => ?_, fun m hm => ?_, fun i hi => absurd hi (Nat.not_lt_zero _)⟩
            · rw [c1 _ _ (by omega) (by omega), b1 _ _ (by omega), e33]; rfl
            · rw [c1 _ _ (by omega) (by omega), b1 _ _ (by omega)]; simp (decide := true) only [jv_u_at, ite_true]; rfl
            · rw [c1 _ _ (by omega) (by omega), c1 _ _ (by omega) (by omega), c1 _ _ (by omega) (by omega), c1 _ _ (by omega) (by omega)]; exact b3 p (by omega) hp
            · obtain ⟨t1, t2, t3, t4⟩ := c10 m (by omega) hm
              exact ⟨t1, t2, t3, t4, fun q => absurd q (by show ¬ 2 ≤ 0; omega)⟩
          · rw [c7, b1 34 7 (by omega), hu 34 7 (by omega), hE1.2 34 7 (by unfold fS; omega)]
        · unfold whl; exact decide_eq_false (by omega)
end R3
end
