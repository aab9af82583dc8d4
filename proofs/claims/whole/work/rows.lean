section
-- ===== PART A: goes FIRST, ahead of the names: the tables' words, and 'selects' of the private methods out of them =====
/-- a private method of a class that the tables say can be made, by its rows of tables_1 -/
def lw_okq (q : MethodName × Nat) : Prop := (q.1.cls ≠ "java/lang/invoke/MethodHandle" ∧ q.1.cls ≠ "java/lang/invoke/VarHandle") ∧ Cond.instantiable q.1.cls q.2 ∈ tables_1 ∧ Cond.privateMethod q.1 ∈ tables_1 ∧ Cond.instanceMethod q.1 ∈ tables_1
theorem lw_p0 : lw_okq (⟨"SmokeVotes", "waysWithOneMore", "(II)I"⟩, 11) := ⟨⟨by decide +kernel, by decide +kernel⟩, List.mem_of_getElem? (i := 18) (by decide +kernel), List.mem_of_getElem? (i := 445) (by decide +kernel), List.mem_of_getElem? (i := 446) (by decide +kernel)⟩
theorem lw_p1 : lw_okq (⟨"SmokeVotes", "differenceWith", "(ILSmokeVotes$Sheet;)I"⟩, 11) := ⟨⟨by decide +kernel, by decide +kernel⟩, List.mem_of_getElem? (i := 18) (by decide +kernel), List.mem_of_getElem? (i := 493) (by decide +kernel), List.mem_of_getElem? (i := 494) (by decide +kernel)⟩
theorem lw_p2 : lw_okq (⟨"SmokeVotes$Reader", "next", "()V"⟩, 10) := ⟨⟨by decide +kernel, by decide +kernel⟩, List.mem_of_getElem? (i := 43) (by decide +kernel), List.mem_of_getElem? (i := 539) (by decide +kernel), List.mem_of_getElem? (i := 540) (by decide +kernel)⟩
theorem lw_p3 : lw_okq (⟨"SmokeVotes$Reader", "endOfWord", "()I"⟩, 10) := ⟨⟨by decide +kernel, by decide +kernel⟩, List.mem_of_getElem? (i := 43) (by decide +kernel), List.mem_of_getElem? (i := 546) (by decide +kernel), List.mem_of_getElem? (i := 547) (by decide +kernel)⟩
theorem lw_p4 : lw_okq (⟨"SmokeVotes$Reader", "readValue", "()V"⟩, 10) := ⟨⟨by decide +kernel, by decide +kernel⟩, List.mem_of_getElem? (i := 43) (by decide +kernel), List.mem_of_getElem? (i := 550) (by decide +kernel), List.mem_of_getElem? (i := 551) (by decide +kernel)⟩
theorem lw_p5 : lw_okq (⟨"SmokeVotes$Reader", "readKey", "()Z"⟩, 10) := ⟨⟨by decide +kernel, by decide +kernel⟩, List.mem_of_getElem? (i := 43) (by decide +kernel), List.mem_of_getElem? (i := 554) (by decide +kernel), List.mem_of_getElem? (i := 555) (by decide +kernel)⟩
theorem lw_p6 : lw_okq (⟨"SmokeVotes$Reader", "isWord", "(Ljava/lang/String;)Z"⟩, 10) := ⟨⟨by decide +kernel, by decide +kernel⟩, List.mem_of_getElem? (i := 43) (by decide +kernel), List.mem_of_getElem? (i := 564) (by decide +kernel), List.mem_of_getElem? (i := 565) (by decide +kernel)⟩
theorem lw_p7 : lw_okq (⟨"SmokeVotes$Reader", "readChain", "(III)Z"⟩, 10) := ⟨⟨by decide +kernel, by decide +kernel⟩, List.mem_of_getElem? (i := 43) (by decide +kernel), List.mem_of_getElem? (i := 616) (by decide +kernel), List.mem_of_getElem? (i := 617) (by decide +kernel)⟩
theorem lw_p8 : lw_okq (⟨"SmokeVotes$Reader", "readPiece", "(II)Z"⟩, 10) := ⟨⟨by decide +kernel, by decide +kernel⟩, List.mem_of_getElem? (i := 43) (by decide +kernel), List.mem_of_getElem? (i := 620) (by decide +kernel), List.mem_of_getElem? (i := 621) (by decide +kernel)⟩
theorem lw_p9 : lw_okq (⟨"SmokeVotes$Reader", "addLeaf", "(I)Z"⟩, 10) := ⟨⟨by decide +kernel, by decide +kernel⟩, List.mem_of_getElem? (i := 43) (by decide +kernel), List.mem_of_getElem? (i := 624) (by decide +kernel), List.mem_of_getElem? (i := 625) (by decide +kernel)⟩
theorem lw_p10 : lw_okq (⟨"SmokeVotes$Reader", "add", "(I)Z"⟩, 10) := ⟨⟨by decide +kernel, by decide +kernel⟩, List.mem_of_getElem? (i := 43) (by decide +kernel), List.mem_of_getElem? (i := 628) (by decide +kernel), List.mem_of_getElem? (i := 629) (by decide +kernel)⟩
theorem lw_p11 : lw_okq (⟨"SmokeVotes$Reader", "isOneOf", "(Ljava/lang/String;)Z"⟩, 10) := ⟨⟨by decide +kernel, by decide +kernel⟩, List.mem_of_getElem? (i := 43) (by decide +kernel), List.mem_of_getElem? (i := 694) (by decide +kernel), List.mem_of_getElem? (i := 695) (by decide +kernel)⟩
theorem lw_p12 : lw_okq (⟨"SmokeVotes$Reader", "readClosing", "()Z"⟩, 10) := ⟨⟨by decide +kernel, by decide +kernel⟩, List.mem_of_getElem? (i := 43) (by decide +kernel), List.mem_of_getElem? (i := 699) (by decide +kernel), List.mem_of_getElem? (i := 700) (by decide +kernel)⟩
theorem lw_p13 : lw_okq (⟨"SmokeVotes", "isTold", "(III)Z"⟩, 11) := ⟨⟨by decide +kernel, by decide +kernel⟩, List.mem_of_getElem? (i := 18) (by decide +kernel), List.mem_of_getElem? (i := 826) (by decide +kernel), List.mem_of_getElem? (i := 827) (by decide +kernel)⟩
theorem lw_p14 : lw_okq (⟨"SmokeVotesModel", "comes", "(IIII)I"⟩, 35) := ⟨⟨by decide +kernel, by decide +kernel⟩, List.mem_of_getElem? (i := 842) (by decide +kernel), List.mem_of_getElem? (i := 965) (by decide +kernel), List.mem_of_getElem? (i := 966) (by decide +kernel)⟩
theorem lw_p15 : lw_okq (⟨"SmokeVotesModel", "put", "(III)V"⟩, 35) := ⟨⟨by decide +kernel, by decide +kernel⟩, List.mem_of_getElem? (i := 842) (by decide +kernel), List.mem_of_getElem? (i := 969) (by decide +kernel), List.mem_of_getElem? (i := 970) (by decide +kernel)⟩
def lw_privs_1 : List (MethodName × Nat) := [(⟨"SmokeVotes", "waysWithOneMore", "(II)I"⟩, 11), (⟨"SmokeVotes", "differenceWith", "(ILSmokeVotes$Sheet;)I"⟩, 11), (⟨"SmokeVotes$Reader", "next", "()V"⟩, 10), (⟨"SmokeVotes$Reader", "endOfWord", "()I"⟩, 10), (⟨"SmokeVotes$Reader", "readValue", "()V"⟩, 10), (⟨"SmokeVotes$Reader", "readKey", "()Z"⟩, 10), (⟨"SmokeVotes$Reader", "isWord", "(Ljava/lang/String;)Z"⟩, 10), (⟨"SmokeVotes$Reader", "readChain", "(III)Z"⟩, 10), (⟨"SmokeVotes$Reader", "readPiece", "(II)Z"⟩, 10), (⟨"SmokeVotes$Reader", "addLeaf", "(I)Z"⟩, 10), (⟨"SmokeVotes$Reader", "add", "(I)Z"⟩, 10), (⟨"SmokeVotes$Reader", "isOneOf", "(Ljava/lang/String;)Z"⟩, 10), (⟨"SmokeVotes$Reader", "readClosing", "()Z"⟩, 10), (⟨"SmokeVotes", "isTold", "(III)Z"⟩, 11), (⟨"SmokeVotesModel", "comes", "(IIII)I"⟩, 35), (⟨"SmokeVotesModel", "put", "(III)V"⟩, 35)]
theorem lw_r1 : ∀ q ∈ lw_privs_1, lw_okq q := List.forall_mem_cons.mpr ⟨lw_p0, List.forall_mem_cons.mpr ⟨lw_p1, List.forall_mem_cons.mpr ⟨lw_p2, List.forall_mem_cons.mpr ⟨lw_p3, List.forall_mem_cons.mpr ⟨lw_p4, List.forall_mem_cons.mpr ⟨lw_p5, List.forall_mem_cons.mpr ⟨lw_p6, List.forall_mem_cons.mpr ⟨lw_p7, List.forall_mem_cons.mpr ⟨lw_p8, List.forall_mem_cons.mpr ⟨lw_p9, List.forall_mem_cons.mpr ⟨lw_p10, List.forall_mem_cons.mpr ⟨lw_p11, List.forall_mem_cons.mpr ⟨lw_p12, List.forall_mem_cons.mpr ⟨lw_p13, List.forall_mem_cons.mpr ⟨lw_p14, List.forall_mem_cons.mpr ⟨lw_p15, fun _ h => absurd h List.not_mem_nil⟩⟩⟩⟩⟩⟩⟩⟩⟩⟩⟩⟩⟩⟩⟩⟩
theorem lw_p16 : lw_okq (⟨"SmokeVotesModel", "isVoter", "(I)Z"⟩, 35) := ⟨⟨by decide +kernel, by decide +kernel⟩, List.mem_of_getElem? (i := 842) (by decide +kernel), List.mem_of_getElem? (i := 977) (by decide +kernel), List.mem_of_getElem? (i := 978) (by decide +kernel)⟩
theorem lw_p17 : lw_okq (⟨"SmokeVotesModel", "of", "(II)I"⟩, 35) := ⟨⟨by decide +kernel, by decide +kernel⟩, List.mem_of_getElem? (i := 842) (by decide +kernel), List.mem_of_getElem? (i := 981) (by decide +kernel), List.mem_of_getElem? (i := 982) (by decide +kernel)⟩
theorem lw_p18 : lw_okq (⟨"SmokeVotesModel", "has", "(I)I"⟩, 35) := ⟨⟨by decide +kernel, by decide +kernel⟩, List.mem_of_getElem? (i := 842) (by decide +kernel), List.mem_of_getElem? (i := 985) (by decide +kernel), List.mem_of_getElem? (i := 986) (by decide +kernel)⟩
theorem lw_p19 : lw_okq (⟨"SmokeVotesModel", "weightOf", "(I)I"⟩, 35) := ⟨⟨by decide +kernel, by decide +kernel⟩, List.mem_of_getElem? (i := 842) (by decide +kernel), List.mem_of_getElem? (i := 989) (by decide +kernel), List.mem_of_getElem? (i := 990) (by decide +kernel)⟩
theorem lw_p20 : lw_okq (⟨"SmokeVotesModel", "votesFor", "(I)I"⟩, 35) := ⟨⟨by decide +kernel, by decide +kernel⟩, List.mem_of_getElem? (i := 842) (by decide +kernel), List.mem_of_getElem? (i := 993) (by decide +kernel), List.mem_of_getElem? (i := 994) (by decide +kernel)⟩
theorem lw_p21 : lw_okq (⟨"SmokeVotesModel", "runners", "()I"⟩, 35) := ⟨⟨by decide +kernel, by decide +kernel⟩, List.mem_of_getElem? (i := 842) (by decide +kernel), List.mem_of_getElem? (i := 997) (by decide +kernel), List.mem_of_getElem? (i := 998) (by decide +kernel)⟩
theorem lw_p22 : lw_okq (⟨"SmokeVotesModel", "all", "()I"⟩, 35) := ⟨⟨by decide +kernel, by decide +kernel⟩, List.mem_of_getElem? (i := 842) (by decide +kernel), List.mem_of_getElem? (i := 1001) (by decide +kernel), List.mem_of_getElem? (i := 1002) (by decide +kernel)⟩
theorem lw_p23 : lw_okq (⟨"SmokeVotesModel", "mostOf", "(I)I"⟩, 35) := ⟨⟨by decide +kernel, by decide +kernel⟩, List.mem_of_getElem? (i := 842) (by decide +kernel), List.mem_of_getElem? (i := 1005) (by decide +kernel), List.mem_of_getElem? (i := 1006) (by decide +kernel)⟩
theorem lw_p24 : lw_okq (⟨"SmokeVotesModel", "loyally", "(II)I"⟩, 35) := ⟨⟨by decide +kernel, by decide +kernel⟩, List.mem_of_getElem? (i := 842) (by decide +kernel), List.mem_of_getElem? (i := 1009) (by decide +kernel), List.mem_of_getElem? (i := 1010) (by decide +kernel)⟩
theorem lw_p25 : lw_okq (⟨"SmokeVotesModel", "ofParty", "(I)I"⟩, 35) := ⟨⟨by decide +kernel, by decide +kernel⟩, List.mem_of_getElem? (i := 842) (by decide +kernel), List.mem_of_getElem? (i := 1013) (by decide +kernel), List.mem_of_getElem? (i := 1014) (by decide +kernel)⟩
theorem lw_p26 : lw_okq (⟨"SmokeVotesModel", "plainly", "(II)I"⟩, 35) := ⟨⟨by decide +kernel, by decide +kernel⟩, List.mem_of_getElem? (i := 842) (by decide +kernel), List.mem_of_getElem? (i := 1017) (by decide +kernel), List.mem_of_getElem? (i := 1018) (by decide +kernel)⟩
theorem lw_p27 : lw_okq (⟨"SmokeVotesModel", "swayed", "(II)I"⟩, 35) := ⟨⟨by decide +kernel, by decide +kernel⟩, List.mem_of_getElem? (i := 842) (by decide +kernel), List.mem_of_getElem? (i := 1021) (by decide +kernel), List.mem_of_getElem? (i := 1022) (by decide +kernel)⟩
theorem lw_p28 : lw_okq (⟨"SmokeVotesModel", "counts", "(I)I"⟩, 35) := ⟨⟨by decide +kernel, by decide +kernel⟩, List.mem_of_getElem? (i := 842) (by decide +kernel), List.mem_of_getElem? (i := 1025) (by decide +kernel), List.mem_of_getElem? (i := 1026) (by decide +kernel)⟩
theorem lw_p29 : lw_okq (⟨"SmokeVotesModel", "worksOut", "(I)I"⟩, 35) := ⟨⟨by decide +kernel, by decide +kernel⟩, List.mem_of_getElem? (i := 842) (by decide +kernel), List.mem_of_getElem? (i := 1029) (by decide +kernel), List.mem_of_getElem? (i := 1030) (by decide +kernel)⟩
theorem lw_p30 : lw_okq (⟨"SmokeVotesModel", "worthOf", "(I)I"⟩, 35) := ⟨⟨by decide +kernel, by decide +kernel⟩, List.mem_of_getElem? (i := 842) (by decide +kernel), List.mem_of_getElem? (i := 1039) (by decide +kernel), List.mem_of_getElem? (i := 1040) (by decide +kernel)⟩
theorem lw_p31 : lw_okq (⟨"SmokeVotesModel", "becomes", "(II)I"⟩, 35) := ⟨⟨by decide +kernel, by decide +kernel⟩, List.mem_of_getElem? (i := 842) (by decide +kernel), List.mem_of_getElem? (i := 1055) (by decide +kernel), List.mem_of_getElem? (i := 1056) (by decide +kernel)⟩
def lw_privs_2 : List (MethodName × Nat) := [(⟨"SmokeVotesModel", "isVoter", "(I)Z"⟩, 35), (⟨"SmokeVotesModel", "of", "(II)I"⟩, 35), (⟨"SmokeVotesModel", "has", "(I)I"⟩, 35), (⟨"SmokeVotesModel", "weightOf", "(I)I"⟩, 35), (⟨"SmokeVotesModel", "votesFor", "(I)I"⟩, 35), (⟨"SmokeVotesModel", "runners", "()I"⟩, 35), (⟨"SmokeVotesModel", "all", "()I"⟩, 35), (⟨"SmokeVotesModel", "mostOf", "(I)I"⟩, 35), (⟨"SmokeVotesModel", "loyally", "(II)I"⟩, 35), (⟨"SmokeVotesModel", "ofParty", "(I)I"⟩, 35), (⟨"SmokeVotesModel", "plainly", "(II)I"⟩, 35), (⟨"SmokeVotesModel", "swayed", "(II)I"⟩, 35), (⟨"SmokeVotesModel", "counts", "(I)I"⟩, 35), (⟨"SmokeVotesModel", "worksOut", "(I)I"⟩, 35), (⟨"SmokeVotesModel", "worthOf", "(I)I"⟩, 35), (⟨"SmokeVotesModel", "becomes", "(II)I"⟩, 35)]
theorem lw_r2 : ∀ q ∈ lw_privs_2, lw_okq q := List.forall_mem_cons.mpr ⟨lw_p16, List.forall_mem_cons.mpr ⟨lw_p17, List.forall_mem_cons.mpr ⟨lw_p18, List.forall_mem_cons.mpr ⟨lw_p19, List.forall_mem_cons.mpr ⟨lw_p20, List.forall_mem_cons.mpr ⟨lw_p21, List.forall_mem_cons.mpr ⟨lw_p22, List.forall_mem_cons.mpr ⟨lw_p23, List.forall_mem_cons.mpr ⟨lw_p24, List.forall_mem_cons.mpr ⟨lw_p25, List.forall_mem_cons.mpr ⟨lw_p26, List.forall_mem_cons.mpr ⟨lw_p27, List.forall_mem_cons.mpr ⟨lw_p28, List.forall_mem_cons.mpr ⟨lw_p29, List.forall_mem_cons.mpr ⟨lw_p30, List.forall_mem_cons.mpr ⟨lw_p31, fun _ h => absurd h List.not_mem_nil⟩⟩⟩⟩⟩⟩⟩⟩⟩⟩⟩⟩⟩⟩⟩⟩
theorem lw_p32 : lw_okq (⟨"SmokeVotesModel", "draw", "()I"⟩, 35) := ⟨⟨by decide +kernel, by decide +kernel⟩, List.mem_of_getElem? (i := 842) (by decide +kernel), List.mem_of_getElem? (i := 1075) (by decide +kernel), List.mem_of_getElem? (i := 1076) (by decide +kernel)⟩
theorem lw_p33 : lw_okq (⟨"SmokeVotesModel", "goesOn", "(I)V"⟩, 35) := ⟨⟨by decide +kernel, by decide +kernel⟩, List.mem_of_getElem? (i := 842) (by decide +kernel), List.mem_of_getElem? (i := 1088) (by decide +kernel), List.mem_of_getElem? (i := 1089) (by decide +kernel)⟩
theorem lw_p34 : lw_okq (⟨"SmokeVotesModel", "round", "()V"⟩, 35) := ⟨⟨by decide +kernel, by decide +kernel⟩, List.mem_of_getElem? (i := 842) (by decide +kernel), List.mem_of_getElem? (i := 1092) (by decide +kernel), List.mem_of_getElem? (i := 1093) (by decide +kernel)⟩
theorem lw_p35 : lw_okq (⟨"SmokeVotesModel", "votes", "()V"⟩, 35) := ⟨⟨by decide +kernel, by decide +kernel⟩, List.mem_of_getElem? (i := 842) (by decide +kernel), List.mem_of_getElem? (i := 1096) (by decide +kernel), List.mem_of_getElem? (i := 1097) (by decide +kernel)⟩
theorem lw_p36 : lw_okq (⟨"SmokeVotesModel", "wanted", "()I"⟩, 35) := ⟨⟨by decide +kernel, by decide +kernel⟩, List.mem_of_getElem? (i := 842) (by decide +kernel), List.mem_of_getElem? (i := 1100) (by decide +kernel), List.mem_of_getElem? (i := 1101) (by decide +kernel)⟩
theorem lw_p37 : lw_okq (⟨"SmokeVotesModel", "leader", "()I"⟩, 35) := ⟨⟨by decide +kernel, by decide +kernel⟩, List.mem_of_getElem? (i := 842) (by decide +kernel), List.mem_of_getElem? (i := 1108) (by decide +kernel), List.mem_of_getElem? (i := 1109) (by decide +kernel)⟩
theorem lw_p38 : lw_okq (⟨"SmokeVotesModel", "thinks", "()V"⟩, 35) := ⟨⟨by decide +kernel, by decide +kernel⟩, List.mem_of_getElem? (i := 842) (by decide +kernel), List.mem_of_getElem? (i := 1132) (by decide +kernel), List.mem_of_getElem? (i := 1133) (by decide +kernel)⟩
theorem lw_p39 : lw_okq (⟨"SmokeVotesModel", "mostHad", "()I"⟩, 35) := ⟨⟨by decide +kernel, by decide +kernel⟩, List.mem_of_getElem? (i := 842) (by decide +kernel), List.mem_of_getElem? (i := 1136) (by decide +kernel), List.mem_of_getElem? (i := 1137) (by decide +kernel)⟩
theorem lw_p40 : lw_okq (⟨"SmokeVotesModel", "putsBack", "()V"⟩, 35) := ⟨⟨by decide +kernel, by decide +kernel⟩, List.mem_of_getElem? (i := 842) (by decide +kernel), List.mem_of_getElem? (i := 1140) (by decide +kernel), List.mem_of_getElem? (i := 1141) (by decide +kernel)⟩
theorem lw_p41 : lw_okq (⟨"SmokeVotesModel", "offBy", "(II)J"⟩, 35) := ⟨⟨by decide +kernel, by decide +kernel⟩, List.mem_of_getElem? (i := 842) (by decide +kernel), List.mem_of_getElem? (i := 1168) (by decide +kernel), List.mem_of_getElem? (i := 1169) (by decide +kernel)⟩
theorem lw_p42 : lw_okq (⟨"SmokeVotesModel", "go", "()V"⟩, 35) := ⟨⟨by decide +kernel, by decide +kernel⟩, List.mem_of_getElem? (i := 842) (by decide +kernel), List.mem_of_getElem? (i := 1192) (by decide +kernel), List.mem_of_getElem? (i := 1193) (by decide +kernel)⟩
theorem lw_p43 : lw_okq (⟨"SmokeVotesModel", "isLetter", "(I)Z"⟩, 35) := ⟨⟨by decide +kernel, by decide +kernel⟩, List.mem_of_getElem? (i := 842) (by decide +kernel), List.mem_of_getElem? (i := 1196) (by decide +kernel), List.mem_of_getElem? (i := 1197) (by decide +kernel)⟩
theorem lw_p44 : lw_okq (⟨"SmokeVotesModel", "isFigure", "(I)Z"⟩, 35) := ⟨⟨by decide +kernel, by decide +kernel⟩, List.mem_of_getElem? (i := 842) (by decide +kernel), List.mem_of_getElem? (i := 1200) (by decide +kernel), List.mem_of_getElem? (i := 1201) (by decide +kernel)⟩
theorem lw_p45 : lw_okq (⟨"SmokeVotesModel", "takesKey", "()Z"⟩, 35) := ⟨⟨by decide +kernel, by decide +kernel⟩, List.mem_of_getElem? (i := 842) (by decide +kernel), List.mem_of_getElem? (i := 1204) (by decide +kernel), List.mem_of_getElem? (i := 1205) (by decide +kernel)⟩
theorem lw_p46 : lw_okq (⟨"SmokeVotesModel", "takesE", "()Z"⟩, 35) := ⟨⟨by decide +kernel, by decide +kernel⟩, List.mem_of_getElem? (i := 842) (by decide +kernel), List.mem_of_getElem? (i := 1208) (by decide +kernel), List.mem_of_getElem? (i := 1209) (by decide +kernel)⟩
theorem lw_p47 : lw_okq (⟨"SmokeVotesModel", "takesPart", "()Z"⟩, 35) := ⟨⟨by decide +kernel, by decide +kernel⟩, List.mem_of_getElem? (i := 842) (by decide +kernel), List.mem_of_getElem? (i := 1212) (by decide +kernel), List.mem_of_getElem? (i := 1213) (by decide +kernel)⟩
def lw_privs_3 : List (MethodName × Nat) := [(⟨"SmokeVotesModel", "draw", "()I"⟩, 35), (⟨"SmokeVotesModel", "goesOn", "(I)V"⟩, 35), (⟨"SmokeVotesModel", "round", "()V"⟩, 35), (⟨"SmokeVotesModel", "votes", "()V"⟩, 35), (⟨"SmokeVotesModel", "wanted", "()I"⟩, 35), (⟨"SmokeVotesModel", "leader", "()I"⟩, 35), (⟨"SmokeVotesModel", "thinks", "()V"⟩, 35), (⟨"SmokeVotesModel", "mostHad", "()I"⟩, 35), (⟨"SmokeVotesModel", "putsBack", "()V"⟩, 35), (⟨"SmokeVotesModel", "offBy", "(II)J"⟩, 35), (⟨"SmokeVotesModel", "go", "()V"⟩, 35), (⟨"SmokeVotesModel", "isLetter", "(I)Z"⟩, 35), (⟨"SmokeVotesModel", "isFigure", "(I)Z"⟩, 35), (⟨"SmokeVotesModel", "takesKey", "()Z"⟩, 35), (⟨"SmokeVotesModel", "takesE", "()Z"⟩, 35), (⟨"SmokeVotesModel", "takesPart", "()Z"⟩, 35)]
theorem lw_r3 : ∀ q ∈ lw_privs_3, lw_okq q := List.forall_mem_cons.mpr ⟨lw_p32, List.forall_mem_cons.mpr ⟨lw_p33, List.forall_mem_cons.mpr ⟨lw_p34, List.forall_mem_cons.mpr ⟨lw_p35, List.forall_mem_cons.mpr ⟨lw_p36, List.forall_mem_cons.mpr ⟨lw_p37, List.forall_mem_cons.mpr ⟨lw_p38, List.forall_mem_cons.mpr ⟨lw_p39, List.forall_mem_cons.mpr ⟨lw_p40, List.forall_mem_cons.mpr ⟨lw_p41, List.forall_mem_cons.mpr ⟨lw_p42, List.forall_mem_cons.mpr ⟨lw_p43, List.forall_mem_cons.mpr ⟨lw_p44, List.forall_mem_cons.mpr ⟨lw_p45, List.forall_mem_cons.mpr ⟨lw_p46, List.forall_mem_cons.mpr ⟨lw_p47, fun _ h => absurd h List.not_mem_nil⟩⟩⟩⟩⟩⟩⟩⟩⟩⟩⟩⟩⟩⟩⟩⟩
theorem lw_p48 : lw_okq (⟨"SmokeVotesModel", "nameOf", "(I)I"⟩, 35) := ⟨⟨by decide +kernel, by decide +kernel⟩, List.mem_of_getElem? (i := 842) (by decide +kernel), List.mem_of_getElem? (i := 1216) (by decide +kernel), List.mem_of_getElem? (i := 1217) (by decide +kernel)⟩
theorem lw_p49 : lw_okq (⟨"SmokeVotesModel", "settle", "(I)V"⟩, 35) := ⟨⟨by decide +kernel, by decide +kernel⟩, List.mem_of_getElem? (i := 842) (by decide +kernel), List.mem_of_getElem? (i := 1220) (by decide +kernel), List.mem_of_getElem? (i := 1221) (by decide +kernel)⟩
theorem lw_p50 : lw_okq (⟨"SmokeVotesModel", "notsOpen", "()I"⟩, 35) := ⟨⟨by decide +kernel, by decide +kernel⟩, List.mem_of_getElem? (i := 842) (by decide +kernel), List.mem_of_getElem? (i := 1227) (by decide +kernel), List.mem_of_getElem? (i := 1228) (by decide +kernel)⟩
theorem lw_p51 : lw_okq (⟨"SmokeVotesModel", "signHere", "()I"⟩, 35) := ⟨⟨by decide +kernel, by decide +kernel⟩, List.mem_of_getElem? (i := 842) (by decide +kernel), List.mem_of_getElem? (i := 1231) (by decide +kernel), List.mem_of_getElem? (i := 1232) (by decide +kernel)⟩
def lw_privs_4 : List (MethodName × Nat) := [(⟨"SmokeVotesModel", "nameOf", "(I)I"⟩, 35), (⟨"SmokeVotesModel", "settle", "(I)V"⟩, 35), (⟨"SmokeVotesModel", "notsOpen", "()I"⟩, 35), (⟨"SmokeVotesModel", "signHere", "()I"⟩, 35)]
theorem lw_r4 : ∀ q ∈ lw_privs_4, lw_okq q := List.forall_mem_cons.mpr ⟨lw_p48, List.forall_mem_cons.mpr ⟨lw_p49, List.forall_mem_cons.mpr ⟨lw_p50, List.forall_mem_cons.mpr ⟨lw_p51, fun _ h => absurd h List.not_mem_nil⟩⟩⟩⟩
def lw_privs : List (MethodName × Nat) := lw_privs_1 ++ (lw_privs_2 ++ (lw_privs_3 ++ (lw_privs_4)))
def lw_tbl : List Cond := k2_sels lw_privs ++ tables_1
theorem lw_privs_ok : ∀ q ∈ lw_privs, lw_okq q := by
  show ∀ q ∈ lw_privs_1 ++ (lw_privs_2 ++ (lw_privs_3 ++ (lw_privs_4))), lw_okq q
  exact List.forall_mem_append.mpr ⟨lw_r1, List.forall_mem_append.mpr ⟨lw_r2, List.forall_mem_append.mpr ⟨lw_r3, lw_r4⟩⟩⟩
end
section
def RX0 : String := "SmokeVotes$Conclave"
def TX0 : u_T := fun k => match k with
  | 0 => ("SmokeVotes$Conclave", "book", "LSmokeVotes$LawBook;", true)
  | 1 => ("SmokeVotes$Conclave", "kinds", "[I", true)
  | 2 => ("SmokeVotes$Conclave", "likes", "[I", true)
  | 3 => ("SmokeVotes$Conclave", "parties", "[I", true)
  | 4 => ("SmokeVotes$Conclave", "faiths", "[I", true)
  | 5 => ("SmokeVotes$Conclave", "wets", "[I", true)
  | 6 => ("SmokeVotes$Conclave", "voted", "[I", true)
  | 7 => ("SmokeVotes$Conclave", "has", "[I", true)
  | 8 => ("SmokeVotes$Conclave", "voters", "I", false)
  | 9 => ("SmokeVotes$Conclave", "resin", "I", false)
  | 10 => ("SmokeVotes$Conclave", "draft", "I", false)
  | 11 => ("SmokeVotes$Conclave", "run", "I", false)
  | 12 => ("SmokeVotes$Conclave", "wind", "I", false)
  | 13 => ("SmokeVotes$Conclave", "chosen", "I", false)
  | 14 => ("SmokeVotes$Conclave", "rounds", "I", false)
  | 15 => ("SmokeVotes$Conclave", "day", "I", false)
  | 16 => ("SmokeVotes$Conclave", "z", "I", false)
  | 17 => ("SmokeVotes$Conclave", "smoke", "I", false)
  | _ => ("SmokeVotes$Conclave", "texts", "I", false)
def tyX0 : Nat → FieldType := fun k => match k with
  | 0 => .object "SmokeVotes$LawBook"
  | 1 => .array .int
  | 2 => .array .int
  | 3 => .array .int
  | 4 => .array .int
  | 5 => .array .int
  | 6 => .array .int
  | 7 => .array .int
  | 8 => .int
  | 9 => .int
  | 10 => .int
  | 11 => .int
  | 12 => .int
  | 13 => .int
  | 14 => .int
  | 15 => .int
  | 16 => .int
  | 17 => .int
  | _ => .int
abbrev wsX00 : List Cond := u_ws RX0 TX0 19
theorem nmX0 : ∀ a, a < 19 → ∀ b, b < 19 → a ≠ b → (TX0 a).2.1 ≠ (TX0 b).2.1 := by decide +kernel
theorem tyX0_ok : ∀ k, k < 19 → parseFieldDescriptor (TX0 k).2.2.1 = some (tyX0 k) := by decide +kernel
abbrev cX0_init : ByteArray := prog_2_method_1_code
def yX0_init : MethodName := ⟨RX0, "<init>", "(LSmokeVotes$LawBook;)V"⟩
abbrev cX0_become : ByteArray := prog_2_method_2_code
def yX0_become : MethodName := ⟨RX0, "become", "(LSmokeVotes$Conclave;)V"⟩
abbrev cX0_isVoter : ByteArray := prog_2_method_3_code
def yX0_isVoter : MethodName := ⟨RX0, "isVoter", "(I)Z"⟩
abbrev cX0_enter : ByteArray := prog_2_method_4_code
def yX0_enter : MethodName := ⟨RX0, "enter", "(IIII)V"⟩
abbrev cX0_enterDrawn : ByteArray := prog_2_method_5_code
def yX0_enterDrawn : MethodName := ⟨RX0, "enterDrawn", "()V"⟩
abbrev cX0_draw : ByteArray := prog_2_method_6_code
def yX0_draw : MethodName := ⟨RX0, "draw", "()I"⟩
abbrev cX0_startOver : ByteArray := prog_2_method_7_code
def yX0_startOver : MethodName := ⟨RX0, "startOver", "()V"⟩
abbrev cX0_convince : ByteArray := prog_2_method_8_code
def yX0_convince : MethodName := ⟨RX0, "convince", "(I)V"⟩
abbrev cX0_go : ByteArray := prog_2_method_9_code
def yX0_go : MethodName := ⟨RX0, "go", "(I)V"⟩
abbrev cX0_round : ByteArray := prog_2_method_10_code
def yX0_round : MethodName := ⟨RX0, "round", "()V"⟩
abbrev cX0_tally : ByteArray := prog_2_method_11_code
def yX0_tally : MethodName := ⟨RX0, "tally", "()V"⟩
abbrev cX0_elected : ByteArray := prog_2_method_12_code
def yX0_elected : MethodName := ⟨RX0, "elected", "()I"⟩
abbrev cX0_wanted : ByteArray := prog_2_method_13_code
def yX0_wanted : MethodName := ⟨RX0, "wanted", "()I"⟩
abbrev cX0_smokeNow : ByteArray := prog_2_method_14_code
def yX0_smokeNow : MethodName := ⟨RX0, "smokeNow", "()I"⟩
abbrev cX0_wetPapers : ByteArray := prog_2_method_15_code
def yX0_wetPapers : MethodName := ⟨RX0, "wetPapers", "()V"⟩
abbrev cX0_leader : ByteArray := prog_2_method_16_code
def yX0_leader : MethodName := ⟨RX0, "leader", "()I"⟩
abbrev cX0_mostVotes : ByteArray := prog_2_method_17_code
def yX0_mostVotes : MethodName := ⟨RX0, "mostVotes", "()I"⟩
abbrev cX0_runners : ByteArray := prog_2_method_18_code
def yX0_runners : MethodName := ⟨RX0, "runners", "()I"⟩
abbrev cX0_mostAmong : ByteArray := prog_2_method_19_code
def yX0_mostAmong : MethodName := ⟨RX0, "mostAmong", "(I)I"⟩
abbrev cX0_choice : ByteArray := prog_2_method_20_code
def yX0_choice : MethodName := ⟨RX0, "choice", "(III)I"⟩
abbrev cX0_choiceOfPlain : ByteArray := prog_2_method_21_code
def yX0_choiceOfPlain : MethodName := ⟨RX0, "choiceOfPlain", "(III)I"⟩
abbrev cX0_choiceOfLoyal : ByteArray := prog_2_method_22_code
def yX0_choiceOfLoyal : MethodName := ⟨RX0, "choiceOfLoyal", "(III)I"⟩
abbrev cX0_choiceOfSwayed : ByteArray := prog_2_method_23_code
def yX0_choiceOfSwayed : MethodName := ⟨RX0, "choiceOfSwayed", "(III)I"⟩
def RX1 : String := "SmokeVotes$Law"
def TX1 : u_T := fun k => match k with
  | 0 => ("SmokeVotes$Law", "key", "I", true)
  | 1 => ("SmokeVotes$Law", "leaves", "I", true)
  | _ => ("SmokeVotes$Law", "code", "[I", true)
def tyX1 : Nat → FieldType := fun k => match k with
  | 0 => .int
  | 1 => .int
  | _ => .array .int
abbrev wsX10 : List Cond := u_ws RX1 TX1 3
theorem nmX1 : ∀ a, a < 3 → ∀ b, b < 3 → a ≠ b → (TX1 a).2.1 ≠ (TX1 b).2.1 := by decide +kernel
theorem tyX1_ok : ∀ k, k < 3 → parseFieldDescriptor (TX1 k).2.2.1 = some (tyX1 k) := by decide +kernel
abbrev cX1_init : ByteArray := prog_3_method_1_code
def yX1_init : MethodName := ⟨RX1, "<init>", "(II[I)V"⟩
def RX2 : String := "SmokeVotes$LawBook"
def TX2 : u_T := fun k => match k with
  | 0 => ("SmokeVotes$LawBook", "laws", "[LSmokeVotes$Law;", true)
  | _ => ("SmokeVotes$LawBook", "stack", "[I", true)
def tyX2 : Nat → FieldType := fun k => match k with
  | 0 => .array (.object "SmokeVotes$Law")
  | _ => .array .int
abbrev wsX20 : List Cond := u_ws RX2 TX2 2
theorem nmX2 : ∀ a, a < 2 → ∀ b, b < 2 → a ≠ b → (TX2 a).2.1 ≠ (TX2 b).2.1 := by decide +kernel
theorem tyX2_ok : ∀ k, k < 2 → parseFieldDescriptor (TX2 k).2.2.1 = some (tyX2 k) := by decide +kernel
abbrev cX2_init : ByteArray := prog_4_method_1_code
def yX2_init : MethodName := ⟨RX2, "<init>", "()V"⟩
abbrev cX2_latest : ByteArray := prog_4_method_2_code
def yX2_latest : MethodName := ⟨RX2, "latest", "(II)I"⟩
abbrev cX2_value : ByteArray := prog_4_method_3_code
def yX2_value : MethodName := ⟨RX2, "value", "(IIII)I"⟩
abbrev cX2_leaf : ByteArray := prog_4_method_4_code
def yX2_leaf : MethodName := ⟨RX2, "leaf", "(IIII)I"⟩
abbrev cX2_joined : ByteArray := prog_4_method_5_code
def yX2_joined : MethodName := ⟨RX2, "joined", "(III)I"⟩
abbrev cX2_truth : ByteArray := prog_4_method_6_code
def yX2_truth : MethodName := ⟨RX2, "truth", "(Z)I"⟩
def RX3 : String := "SmokeVotes$Reader"
def TX3 : u_T := fun k => match k with
  | 0 => ("SmokeVotes$Reader", "bytes", "[I", true)
  | 1 => ("SmokeVotes$Reader", "length", "I", false)
  | 2 => ("SmokeVotes$Reader", "sort", "I", false)
  | 3 => ("SmokeVotes$Reader", "start", "I", false)
  | 4 => ("SmokeVotes$Reader", "end", "I", false)
  | 5 => ("SmokeVotes$Reader", "value", "I", false)
  | 6 => ("SmokeVotes$Reader", "key", "I", false)
  | 7 => ("SmokeVotes$Reader", "leaves", "I", false)
  | 8 => ("SmokeVotes$Reader", "code", "[I", true)
  | _ => ("SmokeVotes$Reader", "steps", "I", false)
def tyX3 : Nat → FieldType := fun k => match k with
  | 0 => .array .int
  | 1 => .int
  | 2 => .int
  | 3 => .int
  | 4 => .int
  | 5 => .int
  | 6 => .int
  | 7 => .int
  | 8 => .array .int
  | _ => .int
abbrev wsX30 : List Cond := u_ws RX3 TX3 10
theorem nmX3 : ∀ a, a < 10 → ∀ b, b < 10 → a ≠ b → (TX3 a).2.1 ≠ (TX3 b).2.1 := by decide +kernel
theorem tyX3_ok : ∀ k, k < 10 → parseFieldDescriptor (TX3 k).2.2.1 = some (tyX3 k) := by decide +kernel
abbrev cX3_init : ByteArray := prog_5_method_1_code
def yX3_init : MethodName := ⟨RX3, "<init>", "()V"⟩
abbrev cX3_addFour : ByteArray := prog_5_method_2_code
def yX3_addFour : MethodName := ⟨RX3, "addFour", "(I)V"⟩
abbrev cX3_read : ByteArray := prog_5_method_3_code
def yX3_read : MethodName := ⟨RX3, "read", "()I"⟩
abbrev cX3_law : ByteArray := prog_5_method_4_code
def yX3_law : MethodName := ⟨RX3, "law", "()LSmokeVotes$Law;"⟩
abbrev cX3_next : ByteArray := prog_5_method_5_code
def yX3_next : MethodName := ⟨RX3, "next", "()V"⟩
abbrev cX3_sortOf : ByteArray := prog_5_method_6_code
def yX3_sortOf : MethodName := ⟨RX3, "sortOf", "(I)I"⟩
abbrev cX3_endOfWord : ByteArray := prog_5_method_7_code
def yX3_endOfWord : MethodName := ⟨RX3, "endOfWord", "()I"⟩
abbrev cX3_readValue : ByteArray := prog_5_method_8_code
def yX3_readValue : MethodName := ⟨RX3, "readValue", "()V"⟩
abbrev cX3_readKey : ByteArray := prog_5_method_9_code
def yX3_readKey : MethodName := ⟨RX3, "readKey", "()Z"⟩
abbrev cX3_isWord : ByteArray := prog_5_method_10_code
def yX3_isWord : MethodName := ⟨RX3, "isWord", "(Ljava/lang/String;)Z"⟩
abbrev cX3_nameOfKey : ByteArray := prog_5_method_11_code
def yX3_nameOfKey : MethodName := ⟨RX3, "nameOfKey", "(I)Ljava/lang/String;"⟩
abbrev cX3_namesOfKey : ByteArray := prog_5_method_12_code
def yX3_namesOfKey : MethodName := ⟨RX3, "namesOfKey", "(I)Ljava/lang/String;"⟩
abbrev cX3_signsOf : ByteArray := prog_5_method_13_code
def yX3_signsOf : MethodName := ⟨RX3, "signsOf", "(I)Ljava/lang/String;"⟩
abbrev cX3_readChain : ByteArray := prog_5_method_14_code
def yX3_readChain : MethodName := ⟨RX3, "readChain", "(III)Z"⟩
abbrev cX3_isOneOf : ByteArray := prog_5_method_15_code
def yX3_isOneOf : MethodName := ⟨RX3, "isOneOf", "(Ljava/lang/String;)Z"⟩
abbrev cX3_readPiece : ByteArray := prog_5_method_16_code
def yX3_readPiece : MethodName := ⟨RX3, "readPiece", "(II)Z"⟩
abbrev cX3_readClosing : ByteArray := prog_5_method_17_code
def yX3_readClosing : MethodName := ⟨RX3, "readClosing", "()Z"⟩
abbrev cX3_addLeaf : ByteArray := prog_5_method_18_code
def yX3_addLeaf : MethodName := ⟨RX3, "addLeaf", "(I)Z"⟩
abbrev cX3_add : ByteArray := prog_5_method_19_code
def yX3_add : MethodName := ⟨RX3, "add", "(I)Z"⟩
def RX4 : String := "SmokeVotes$Sheet"
def TX4 : u_T := fun k => match k with
  | 0 => ("SmokeVotes$Sheet", "places", "[I", true)
  | 1 => ("SmokeVotes$Sheet", "sort", "I", false)
  | _ => ("SmokeVotes$Sheet", "size", "I", false)
def tyX4 : Nat → FieldType := fun k => match k with
  | 0 => .array .int
  | 1 => .int
  | _ => .int
abbrev wsX40 : List Cond := u_ws RX4 TX4 3
theorem nmX4 : ∀ a, a < 3 → ∀ b, b < 3 → a ≠ b → (TX4 a).2.1 ≠ (TX4 b).2.1 := by decide +kernel
theorem tyX4_ok : ∀ k, k < 3 → parseFieldDescriptor (TX4 k).2.2.1 = some (tyX4 k) := by decide +kernel
abbrev cX4_init : ByteArray := prog_6_method_1_code
def yX4_init : MethodName := ⟨RX4, "<init>", "()V"⟩
abbrev cX4_isMissing : ByteArray := prog_6_method_2_code
def yX4_isMissing : MethodName := ⟨RX4, "isMissing", "()Z"⟩
abbrev cX4_hasPlace : ByteArray := prog_6_method_3_code
def yX4_hasPlace : MethodName := ⟨RX4, "hasPlace", "(I)Z"⟩
abbrev cX4_hasStretch : ByteArray := prog_6_method_4_code
def yX4_hasStretch : MethodName := ⟨RX4, "hasStretch", "(II)Z"⟩
abbrev cX4_isNumber : ByteArray := prog_6_method_5_code
def yX4_isNumber : MethodName := ⟨RX4, "isNumber", "(I)Z"⟩
abbrev cX4_clear : ByteArray := prog_6_method_6_code
def yX4_clear : MethodName := ⟨RX4, "clear", "(II)V"⟩
abbrev cX4_become : ByteArray := prog_6_method_7_code
def yX4_become : MethodName := ⟨RX4, "become", "(LSmokeVotes$Sheet;)V"⟩
def RX5 : String := "SmokeVotes$Slot"
def TX5 : u_T := fun k => match k with
  | 0 => ("SmokeVotes$Slot", "row", "LSmokeVotes$Sheet;", true)
  | 1 => ("SmokeVotes$Slot", "thing", "I", false)
  | 2 => ("SmokeVotes$Slot", "kind", "I", false)
  | 3 => ("SmokeVotes$Slot", "faith", "I", false)
  | _ => ("SmokeVotes$Slot", "number", "I", false)
def tyX5 : Nat → FieldType := fun k => match k with
  | 0 => .object "SmokeVotes$Sheet"
  | 1 => .int
  | 2 => .int
  | 3 => .int
  | _ => .int
abbrev wsX50 : List Cond := u_ws RX5 TX5 5
theorem nmX5 : ∀ a, a < 5 → ∀ b, b < 5 → a ≠ b → (TX5 a).2.1 ≠ (TX5 b).2.1 := by decide +kernel
theorem tyX5_ok : ∀ k, k < 5 → parseFieldDescriptor (TX5 k).2.2.1 = some (tyX5 k) := by decide +kernel
abbrev cX5_init : ByteArray := prog_7_method_1_code
def yX5_init : MethodName := ⟨RX5, "<init>", "()V"⟩
def RX6 : String := "SmokeVotes"
def TX6 : u_T := fun k => match k with
  | 0 => ("SmokeVotes", "book", "LSmokeVotes$LawBook;", true)
  | 1 => ("SmokeVotes", "tape", "LSmokeVotes$Reader;", true)
  | 2 => ("SmokeVotes", "now", "LSmokeVotes$Conclave;", true)
  | 3 => ("SmokeVotes", "image", "LSmokeVotes$Conclave;", true)
  | 4 => ("SmokeVotes", "thought", "LSmokeVotes$Conclave;", true)
  | 5 => ("SmokeVotes", "sheets", "[LSmokeVotes$Sheet;", true)
  | 6 => ("SmokeVotes", "slots", "[LSmokeVotes$Slot;", true)
  | 7 => ("SmokeVotes", "waiting", "[I", true)
  | 8 => ("SmokeVotes", "ways", "[I", true)
  | 9 => ("SmokeVotes", "waits", "I", false)
  | _ => ("SmokeVotes", "kept", "Z", false)
def tyX6 : Nat → FieldType := fun k => match k with
  | 0 => .object "SmokeVotes$LawBook"
  | 1 => .object "SmokeVotes$Reader"
  | 2 => .object "SmokeVotes$Conclave"
  | 3 => .object "SmokeVotes$Conclave"
  | 4 => .object "SmokeVotes$Conclave"
  | 5 => .array (.object "SmokeVotes$Sheet")
  | 6 => .array (.object "SmokeVotes$Slot")
  | 7 => .array .int
  | 8 => .array .int
  | 9 => .int
  | _ => .boolean
abbrev wsX60 : List Cond := u_ws RX6 TX6 11
theorem nmX6 : ∀ a, a < 11 → ∀ b, b < 11 → a ≠ b → (TX6 a).2.1 ≠ (TX6 b).2.1 := by decide +kernel
theorem tyX6_ok : ∀ k, k < 11 → parseFieldDescriptor (TX6 k).2.2.1 = some (tyX6 k) := by decide +kernel
abbrev cX6_init : ByteArray := prog_1_method_1_code
def yX6_init : MethodName := ⟨RX6, "<init>", "()V"⟩
abbrev cX6_voter : ByteArray := prog_1_method_2_code
def yX6_voter : MethodName := ⟨RX6, "voter", "(IIII)I"⟩
abbrev cX6_told : ByteArray := prog_1_method_3_code
def yX6_told : MethodName := ⟨RX6, "told", "(II)I"⟩
abbrev cX6_as : ByteArray := prog_1_method_4_code
def yX6_as : MethodName := ⟨RX6, "as", "(II)I"⟩
abbrev cX6_turns : ByteArray := prog_1_method_5_code
def yX6_turns : MethodName := ⟨RX6, "turns", "(II)I"⟩
abbrev cX6_set : ByteArray := prog_1_method_6_code
def yX6_set : MethodName := ⟨RX6, "set", "(III)I"⟩
abbrev cX6_rule : ByteArray := prog_1_method_7_code
def yX6_rule : MethodName := ⟨RX6, "rule", "(II)I"⟩
abbrev cX6_again : ByteArray := prog_1_method_8_code
def yX6_again : MethodName := ⟨RX6, "again", "()I"⟩
abbrev cX6_deal : ByteArray := prog_1_method_9_code
def yX6_deal : MethodName := ⟨RX6, "deal", "(I)I"⟩
abbrev cX6_seed : ByteArray := prog_1_method_10_code
def yX6_seed : MethodName := ⟨RX6, "seed", "(I)I"⟩
abbrev cX6_rounds : ByteArray := prog_1_method_11_code
def yX6_rounds : MethodName := ⟨RX6, "rounds", "(I)I"⟩
abbrev cX6_conclave : ByteArray := prog_1_method_12_code
def yX6_conclave : MethodName := ⟨RX6, "conclave", "(I)I"⟩
abbrev cX6_butOne : ByteArray := prog_1_method_13_code
def yX6_butOne : MethodName := ⟨RX6, "butOne", "()I"⟩
abbrev cX6_decides : ByteArray := prog_1_method_14_code
def yX6_decides : MethodName := ⟨RX6, "decides", "()I"⟩
abbrev cX6_splits : ByteArray := prog_1_method_15_code
def yX6_splits : MethodName := ⟨RX6, "splits", "(II)I"⟩
abbrev cX6_behind : ByteArray := prog_1_method_16_code
def yX6_behind : MethodName := ⟨RX6, "behind", "(II)I"⟩
abbrev cX6_ends : ByteArray := prog_1_method_17_code
def yX6_ends : MethodName := ⟨RX6, "ends", "()I"⟩
abbrev cX6_won : ByteArray := prog_1_method_18_code
def yX6_won : MethodName := ⟨RX6, "won", "(III)I"⟩
abbrev cX6_party : ByteArray := prog_1_method_19_code
def yX6_party : MethodName := ⟨RX6, "party", "(I)I"⟩
abbrev cX6_smokes : ByteArray := prog_1_method_20_code
def yX6_smokes : MethodName := ⟨RX6, "smokes", "(I)I"⟩
abbrev cX6_fits : ByteArray := prog_1_method_21_code
def yX6_fits : MethodName := ⟨RX6, "fits", "(II)I"⟩
abbrev cX6_fee : ByteArray := prog_1_method_22_code
def yX6_fee : MethodName := ⟨RX6, "fee", "()I"⟩
abbrev cX6_fine : ByteArray := prog_1_method_23_code
def yX6_fine : MethodName := ⟨RX6, "fine", "(I)I"⟩
abbrev cX6_feed : ByteArray := prog_1_method_24_code
def yX6_feed : MethodName := ⟨RX6, "feed", "(III)I"⟩
abbrev cX6_trim : ByteArray := prog_1_method_25_code
def yX6_trim : MethodName := ⟨RX6, "trim", "(I)I"⟩
abbrev cX6_text : ByteArray := prog_1_method_26_code
def yX6_text : MethodName := ⟨RX6, "text", "()I"⟩
abbrev cX6_textTold : ByteArray := prog_1_method_27_code
def yX6_textTold : MethodName := ⟨RX6, "textTold", "(II)I"⟩
abbrev cX6_why : ByteArray := prog_1_method_28_code
def yX6_why : MethodName := ⟨RX6, "why", "(I)I"⟩
abbrev cX6_sheet : ByteArray := prog_1_method_29_code
def yX6_sheet : MethodName := ⟨RX6, "sheet", "(III)I"⟩
abbrev cX6_mark : ByteArray := prog_1_method_30_code
def yX6_mark : MethodName := ⟨RX6, "mark", "(III)I"⟩
abbrev cX6_pour : ByteArray := prog_1_method_31_code
def yX6_pour : MethodName := ⟨RX6, "pour", "(I)I"⟩
abbrev cX6_reads : ByteArray := prog_1_method_32_code
def yX6_reads : MethodName := ⟨RX6, "reads", "(I)I"⟩
abbrev cX6_copy : ByteArray := prog_1_method_33_code
def yX6_copy : MethodName := ⟨RX6, "copy", "(IIIII)I"⟩
abbrev cX6_lay : ByteArray := prog_1_method_34_code
def yX6_lay : MethodName := ⟨RX6, "lay", "(III)I"⟩
abbrev cX6_ask : ByteArray := prog_1_method_35_code
def yX6_ask : MethodName := ⟨RX6, "ask", "(II)I"⟩
abbrev cX6_item : ByteArray := prog_1_method_36_code
def yX6_item : MethodName := ⟨RX6, "item", "(II)I"⟩
abbrev cX6_rest : ByteArray := prog_1_method_37_code
def yX6_rest : MethodName := ⟨RX6, "rest", "(II)I"⟩
abbrev cX6_tell : ByteArray := prog_1_method_38_code
def yX6_tell : MethodName := ⟨RX6, "tell", "(I)I"⟩
abbrev cX6_check : ByteArray := prog_1_method_39_code
def yX6_check : MethodName := ⟨RX6, "check", "(I)I"⟩
abbrev cX6_keep : ByteArray := prog_1_method_40_code
def yX6_keep : MethodName := ⟨RX6, "keep", "()I"⟩
abbrev cX6_back : ByteArray := prog_1_method_41_code
def yX6_back : MethodName := ⟨RX6, "back", "()I"⟩
abbrev cX6_count : ByteArray := prog_1_method_42_code
def yX6_count : MethodName := ⟨RX6, "count", "(I)I"⟩
abbrev cX6_isTold : ByteArray := prog_1_method_43_code
def yX6_isTold : MethodName := ⟨RX6, "isTold", "(III)Z"⟩
abbrev cX6_waysWithOneMore : ByteArray := prog_1_method_44_code
def yX6_waysWithOneMore : MethodName := ⟨RX6, "waysWithOneMore", "(II)I"⟩
abbrev cX6_differenceWith : ByteArray := prog_1_method_45_code
def yX6_differenceWith : MethodName := ⟨RX6, "differenceWith", "(ILSmokeVotes$Sheet;)I"⟩
abbrev cX6_put : ByteArray := prog_1_method_46_code
def yX6_put : MethodName := ⟨RX6, "put", "([IIII)I"⟩
abbrev cX6_isWithin : ByteArray := prog_1_method_47_code
def yX6_isWithin : MethodName := ⟨RX6, "isWithin", "(III)Z"⟩
abbrev cX6_held : ByteArray := prog_1_method_48_code
def yX6_held : MethodName := ⟨RX6, "held", "(III)I"⟩
abbrev cX6_isSheet : ByteArray := prog_1_method_49_code
def yX6_isSheet : MethodName := ⟨RX6, "isSheet", "(I)Z"⟩
abbrev cX6_isSlot : ByteArray := prog_1_method_50_code
def yX6_isSlot : MethodName := ⟨RX6, "isSlot", "(I)Z"⟩
abbrev cX6_isOfKind : ByteArray := prog_1_method_51_code
def yX6_isOfKind : MethodName := ⟨RX6, "isOfKind", "(II)Z"⟩
abbrev cX6_weight : ByteArray := prog_1_method_52_code
def yX6_weight : MethodName := ⟨RX6, "weight", "(I)I"⟩
abbrev cX6_worth : ByteArray := prog_1_method_53_code
def yX6_worth : MethodName := ⟨RX6, "worth", "(II)I"⟩
def RX7 : String := "SmokeVotesModel"
def TX7 : u_T := fun k => match k with
  | 0 => ("SmokeVotesModel", "now", "[I", true)
  | 1 => ("SmokeVotesModel", "image", "[I", true)
  | 2 => ("SmokeVotesModel", "aside", "[I", true)
  | 3 => ("SmokeVotesModel", "hasImage", "Z", false)
  | 4 => ("SmokeVotesModel", "thenFor", "[I", true)
  | 5 => ("SmokeVotesModel", "ways", "[I", true)
  | 6 => ("SmokeVotesModel", "before", "[I", true)
  | 7 => ("SmokeVotesModel", "tape", "[I", true)
  | 8 => ("SmokeVotesModel", "taped", "I", false)
  | 9 => ("SmokeVotesModel", "next", "I", false)
  | 10 => ("SmokeVotesModel", "from", "I", false)
  | 11 => ("SmokeVotesModel", "token", "I", false)
  | 12 => ("SmokeVotesModel", "value", "I", false)
  | 13 => ("SmokeVotesModel", "ended", "I", false)
  | 14 => ("SmokeVotesModel", "key", "I", false)
  | 15 => ("SmokeVotesModel", "keys", "[C", true)
  | 16 => ("SmokeVotesModel", "keyAt", "[I", true)
  | 17 => ("SmokeVotesModel", "code", "[I", true)
  | 18 => ("SmokeVotesModel", "codes", "I", false)
  | 19 => ("SmokeVotesModel", "atoms", "I", false)
  | 20 => ("SmokeVotesModel", "waits", "[I", true)
  | 21 => ("SmokeVotesModel", "held", "I", false)
  | 22 => ("SmokeVotesModel", "tested", "[Z", true)
  | 23 => ("SmokeVotesModel", "stack", "[I", true)
  | 24 => ("SmokeVotesModel", "facts", "[I", true)
  | 25 => ("SmokeVotesModel", "sorts", "[I", true)
  | 26 => ("SmokeVotesModel", "sizes", "[I", true)
  | 27 => ("SmokeVotesModel", "cells", "[I", true)
  | 28 => ("SmokeVotesModel", "holds", "[I", true)
  | 29 => ("SmokeVotesModel", "holdsA", "[I", true)
  | 30 => ("SmokeVotesModel", "holdsB", "[I", true)
  | 31 => ("SmokeVotesModel", "heldCells", "[I", true)
  | 32 => ("SmokeVotesModel", "moved", "[I", true)
  | 33 => ("SmokeVotesModel", "tells", "[I", true)
  | _ => ("SmokeVotesModel", "waiting", "I", false)
def tyX7 : Nat → FieldType := fun k => match k with
  | 0 => .array .int
  | 1 => .array .int
  | 2 => .array .int
  | 3 => .boolean
  | 4 => .array .int
  | 5 => .array .int
  | 6 => .array .int
  | 7 => .array .int
  | 8 => .int
  | 9 => .int
  | 10 => .int
  | 11 => .int
  | 12 => .int
  | 13 => .int
  | 14 => .int
  | 15 => .array .char
  | 16 => .array .int
  | 17 => .array .int
  | 18 => .int
  | 19 => .int
  | 20 => .array .int
  | 21 => .int
  | 22 => .array .boolean
  | 23 => .array .int
  | 24 => .array .int
  | 25 => .array .int
  | 26 => .array .int
  | 27 => .array .int
  | 28 => .array .int
  | 29 => .array .int
  | 30 => .array .int
  | 31 => .array .int
  | 32 => .array .int
  | 33 => .array .int
  | _ => .int
abbrev wsX70 : List Cond := u_ws RX7 TX7 35
theorem nmX7 : ∀ a, a < 35 → ∀ b, b < 35 → a ≠ b → (TX7 a).2.1 ≠ (TX7 b).2.1 := by decide +kernel
theorem tyX7_ok : ∀ k, k < 35 → parseFieldDescriptor (TX7 k).2.2.1 = some (tyX7 k) := by decide +kernel
abbrev cX7_init : ByteArray := prog_9_method_1_code
def yX7_init : MethodName := ⟨RX7, "<init>", "()V"⟩
abbrev cX7_in : ByteArray := prog_9_method_2_code
def yX7_in : MethodName := ⟨RX7, "in", "(III)Z"⟩
abbrev cX7_within : ByteArray := prog_9_method_3_code
def yX7_within : MethodName := ⟨RX7, "within", "(III)I"⟩
abbrev cX7_copyAll : ByteArray := prog_9_method_4_code
def yX7_copyAll : MethodName := ⟨RX7, "copyAll", "([I[I)V"⟩
abbrev cX7_told0 : ByteArray := prog_9_method_5_code
def yX7_told0 : MethodName := ⟨RX7, "told0", "(I)I"⟩
abbrev cX7_isVoter : ByteArray := prog_9_method_6_code
def yX7_isVoter : MethodName := ⟨RX7, "isVoter", "(I)Z"⟩
abbrev cX7_of : ByteArray := prog_9_method_7_code
def yX7_of : MethodName := ⟨RX7, "of", "(II)I"⟩
abbrev cX7_put : ByteArray := prog_9_method_8_code
def yX7_put : MethodName := ⟨RX7, "put", "(III)V"⟩
abbrev cX7_becomes : ByteArray := prog_9_method_9_code
def yX7_becomes : MethodName := ⟨RX7, "becomes", "(II)I"⟩
abbrev cX7_comes : ByteArray := prog_9_method_10_code
def yX7_comes : MethodName := ⟨RX7, "comes", "(IIII)I"⟩
abbrev cX7_voter : ByteArray := prog_9_method_11_code
def yX7_voter : MethodName := ⟨RX7, "voter", "(IIII)I"⟩
abbrev cX7_weightOf : ByteArray := prog_9_method_12_code
def yX7_weightOf : MethodName := ⟨RX7, "weightOf", "(I)I"⟩
abbrev cX7_has : ByteArray := prog_9_method_13_code
def yX7_has : MethodName := ⟨RX7, "has", "(I)I"⟩
abbrev cX7_mostOf : ByteArray := prog_9_method_14_code
def yX7_mostOf : MethodName := ⟨RX7, "mostOf", "(I)I"⟩
abbrev cX7_all : ByteArray := prog_9_method_15_code
def yX7_all : MethodName := ⟨RX7, "all", "()I"⟩
abbrev cX7_runners : ByteArray := prog_9_method_16_code
def yX7_runners : MethodName := ⟨RX7, "runners", "()I"⟩
abbrev cX7_ofParty : ByteArray := prog_9_method_17_code
def yX7_ofParty : MethodName := ⟨RX7, "ofParty", "(I)I"⟩
abbrev cX7_plainly : ByteArray := prog_9_method_18_code
def yX7_plainly : MethodName := ⟨RX7, "plainly", "(II)I"⟩
abbrev cX7_loyally : ByteArray := prog_9_method_19_code
def yX7_loyally : MethodName := ⟨RX7, "loyally", "(II)I"⟩
abbrev cX7_swayed : ByteArray := prog_9_method_20_code
def yX7_swayed : MethodName := ⟨RX7, "swayed", "(II)I"⟩
abbrev cX7_votesFor : ByteArray := prog_9_method_21_code
def yX7_votesFor : MethodName := ⟨RX7, "votesFor", "(I)I"⟩
abbrev cX7_worthOf : ByteArray := prog_9_method_22_code
def yX7_worthOf : MethodName := ⟨RX7, "worthOf", "(I)I"⟩
abbrev cX7_told : ByteArray := prog_9_method_23_code
def yX7_told : MethodName := ⟨RX7, "told", "(II)I"⟩
abbrev cX7_isUnder : ByteArray := prog_9_method_24_code
def yX7_isUnder : MethodName := ⟨RX7, "isUnder", "(II)Z"⟩
abbrev cX7_as : ByteArray := prog_9_method_25_code
def yX7_as : MethodName := ⟨RX7, "as", "(II)I"⟩
abbrev cX7_turns : ByteArray := prog_9_method_26_code
def yX7_turns : MethodName := ⟨RX7, "turns", "(II)I"⟩
abbrev cX7_set : ByteArray := prog_9_method_27_code
def yX7_set : MethodName := ⟨RX7, "set", "(III)I"⟩
abbrev cX7_rule : ByteArray := prog_9_method_28_code
def yX7_rule : MethodName := ⟨RX7, "rule", "(II)I"⟩
abbrev cX7_again : ByteArray := prog_9_method_29_code
def yX7_again : MethodName := ⟨RX7, "again", "()I"⟩
abbrev cX7_draw : ByteArray := prog_9_method_30_code
def yX7_draw : MethodName := ⟨RX7, "draw", "()I"⟩
abbrev cX7_deal : ByteArray := prog_9_method_31_code
def yX7_deal : MethodName := ⟨RX7, "deal", "(I)I"⟩
abbrev cX7_seed : ByteArray := prog_9_method_32_code
def yX7_seed : MethodName := ⟨RX7, "seed", "(I)I"⟩
abbrev cX7_wanted : ByteArray := prog_9_method_33_code
def yX7_wanted : MethodName := ⟨RX7, "wanted", "()I"⟩
abbrev cX7_votes : ByteArray := prog_9_method_34_code
def yX7_votes : MethodName := ⟨RX7, "votes", "()V"⟩
abbrev cX7_round : ByteArray := prog_9_method_35_code
def yX7_round : MethodName := ⟨RX7, "round", "()V"⟩
abbrev cX7_goesOn : ByteArray := prog_9_method_36_code
def yX7_goesOn : MethodName := ⟨RX7, "goesOn", "(I)V"⟩
abbrev cX7_rounds : ByteArray := prog_9_method_37_code
def yX7_rounds : MethodName := ⟨RX7, "rounds", "(I)I"⟩
abbrev cX7_leader : ByteArray := prog_9_method_38_code
def yX7_leader : MethodName := ⟨RX7, "leader", "()I"⟩
abbrev cX7_conclave : ByteArray := prog_9_method_39_code
def yX7_conclave : MethodName := ⟨RX7, "conclave", "(I)I"⟩
abbrev cX7_butOne : ByteArray := prog_9_method_40_code
def yX7_butOne : MethodName := ⟨RX7, "butOne", "()I"⟩
abbrev cX7_decides : ByteArray := prog_9_method_41_code
def yX7_decides : MethodName := ⟨RX7, "decides", "()I"⟩
abbrev cX7_splits : ByteArray := prog_9_method_42_code
def yX7_splits : MethodName := ⟨RX7, "splits", "(II)I"⟩
abbrev cX7_thinks : ByteArray := prog_9_method_43_code
def yX7_thinks : MethodName := ⟨RX7, "thinks", "()V"⟩
abbrev cX7_putsBack : ByteArray := prog_9_method_44_code
def yX7_putsBack : MethodName := ⟨RX7, "putsBack", "()V"⟩
abbrev cX7_mostHad : ByteArray := prog_9_method_45_code
def yX7_mostHad : MethodName := ⟨RX7, "mostHad", "()I"⟩
abbrev cX7_behind : ByteArray := prog_9_method_46_code
def yX7_behind : MethodName := ⟨RX7, "behind", "(II)I"⟩
abbrev cX7_ends : ByteArray := prog_9_method_47_code
def yX7_ends : MethodName := ⟨RX7, "ends", "()I"⟩
abbrev cX7_won : ByteArray := prog_9_method_48_code
def yX7_won : MethodName := ⟨RX7, "won", "(III)I"⟩
abbrev cX7_party : ByteArray := prog_9_method_49_code
def yX7_party : MethodName := ⟨RX7, "party", "(I)I"⟩
abbrev cX7_smokes : ByteArray := prog_9_method_50_code
def yX7_smokes : MethodName := ⟨RX7, "smokes", "(I)I"⟩
abbrev cX7_offBy : ByteArray := prog_9_method_51_code
def yX7_offBy : MethodName := ⟨RX7, "offBy", "(II)J"⟩
abbrev cX7_fits : ByteArray := prog_9_method_52_code
def yX7_fits : MethodName := ⟨RX7, "fits", "(II)I"⟩
abbrev cX7_fee : ByteArray := prog_9_method_53_code
def yX7_fee : MethodName := ⟨RX7, "fee", "()I"⟩
abbrev cX7_fine : ByteArray := prog_9_method_54_code
def yX7_fine : MethodName := ⟨RX7, "fine", "(I)I"⟩
abbrev cX7_feed : ByteArray := prog_9_method_55_code
def yX7_feed : MethodName := ⟨RX7, "feed", "(III)I"⟩
abbrev cX7_trim : ByteArray := prog_9_method_56_code
def yX7_trim : MethodName := ⟨RX7, "trim", "(I)I"⟩
abbrev cX7_isLetter : ByteArray := prog_9_method_57_code
def yX7_isLetter : MethodName := ⟨RX7, "isLetter", "(I)Z"⟩
abbrev cX7_isFigure : ByteArray := prog_9_method_58_code
def yX7_isFigure : MethodName := ⟨RX7, "isFigure", "(I)Z"⟩
abbrev cX7_go : ByteArray := prog_9_method_59_code
def yX7_go : MethodName := ⟨RX7, "go", "()V"⟩
abbrev cX7_takesKey : ByteArray := prog_9_method_60_code
def yX7_takesKey : MethodName := ⟨RX7, "takesKey", "()Z"⟩
abbrev cX7_nameOf : ByteArray := prog_9_method_61_code
def yX7_nameOf : MethodName := ⟨RX7, "nameOf", "(I)I"⟩
abbrev cX7_rank : ByteArray := prog_9_method_62_code
def yX7_rank : MethodName := ⟨RX7, "rank", "(I)I"⟩
abbrev cX7_settle : ByteArray := prog_9_method_63_code
def yX7_settle : MethodName := ⟨RX7, "settle", "(I)V"⟩
abbrev cX7_signHere : ByteArray := prog_9_method_64_code
def yX7_signHere : MethodName := ⟨RX7, "signHere", "()I"⟩
abbrev cX7_takesPart : ByteArray := prog_9_method_65_code
def yX7_takesPart : MethodName := ⟨RX7, "takesPart", "()Z"⟩
abbrev cX7_takesE : ByteArray := prog_9_method_66_code
def yX7_takesE : MethodName := ⟨RX7, "takesE", "()Z"⟩
abbrev cX7_notsOpen : ByteArray := prog_9_method_67_code
def yX7_notsOpen : MethodName := ⟨RX7, "notsOpen", "()I"⟩
abbrev cX7_text : ByteArray := prog_9_method_68_code
def yX7_text : MethodName := ⟨RX7, "text", "()I"⟩
abbrev cX7_textTold : ByteArray := prog_9_method_69_code
def yX7_textTold : MethodName := ⟨RX7, "textTold", "(II)I"⟩
abbrev cX7_counts : ByteArray := prog_9_method_70_code
def yX7_counts : MethodName := ⟨RX7, "counts", "(I)I"⟩
abbrev cX7_why : ByteArray := prog_9_method_71_code
def yX7_why : MethodName := ⟨RX7, "why", "(I)I"⟩
abbrev cX7_two : ByteArray := prog_9_method_72_code
def yX7_two : MethodName := ⟨RX7, "two", "(III)I"⟩
abbrev cX7_worksOut : ByteArray := prog_9_method_73_code
def yX7_worksOut : MethodName := ⟨RX7, "worksOut", "(I)I"⟩
abbrev cX7_isSheet : ByteArray := prog_9_method_74_code
def yX7_isSheet : MethodName := ⟨RX7, "isSheet", "(I)Z"⟩
abbrev cX7_isSlot : ByteArray := prog_9_method_75_code
def yX7_isSlot : MethodName := ⟨RX7, "isSlot", "(I)Z"⟩
abbrev cX7_sheet : ByteArray := prog_9_method_76_code
def yX7_sheet : MethodName := ⟨RX7, "sheet", "(III)I"⟩
abbrev cX7_mark : ByteArray := prog_9_method_77_code
def yX7_mark : MethodName := ⟨RX7, "mark", "(III)I"⟩
abbrev cX7_pour : ByteArray := prog_9_method_78_code
def yX7_pour : MethodName := ⟨RX7, "pour", "(I)I"⟩
abbrev cX7_reads : ByteArray := prog_9_method_79_code
def yX7_reads : MethodName := ⟨RX7, "reads", "(I)I"⟩
abbrev cX7_copy : ByteArray := prog_9_method_80_code
def yX7_copy : MethodName := ⟨RX7, "copy", "(IIIII)I"⟩
abbrev cX7_lay : ByteArray := prog_9_method_81_code
def yX7_lay : MethodName := ⟨RX7, "lay", "(III)I"⟩
abbrev cX7_ask : ByteArray := prog_9_method_82_code
def yX7_ask : MethodName := ⟨RX7, "ask", "(II)I"⟩
abbrev cX7_item : ByteArray := prog_9_method_83_code
def yX7_item : MethodName := ⟨RX7, "item", "(II)I"⟩
abbrev cX7_rest : ByteArray := prog_9_method_84_code
def yX7_rest : MethodName := ⟨RX7, "rest", "(II)I"⟩
abbrev cX7_tell : ByteArray := prog_9_method_85_code
def yX7_tell : MethodName := ⟨RX7, "tell", "(I)I"⟩
abbrev cX7_check : ByteArray := prog_9_method_86_code
def yX7_check : MethodName := ⟨RX7, "check", "(I)I"⟩
abbrev cX7_keep : ByteArray := prog_9_method_87_code
def yX7_keep : MethodName := ⟨RX7, "keep", "()I"⟩
abbrev cX7_back : ByteArray := prog_9_method_88_code
def yX7_back : MethodName := ⟨RX7, "back", "()I"⟩
abbrev cX7_count : ByteArray := prog_9_method_89_code
def yX7_count : MethodName := ⟨RX7, "count", "(I)I"⟩
def RJx145de : String := "java/io/Serializable"
def TJx145de : u_T := fun k => match k with
  | _ => ("", "", "", false)
def tyJx145de : Nat → FieldType := fun k => match k with
  | _ => .int
abbrev wsJx145de0 : List Cond := u_ws RJx145de TJx145de 0
theorem nmJx145de : ∀ a, a < 0 → ∀ b, b < 0 → a ≠ b → (TJx145de a).2.1 ≠ (TJx145de b).2.1 := by decide +kernel
theorem tyJx145de_ok : ∀ k, k < 0 → parseFieldDescriptor (TJx145de k).2.2.1 = some (tyJx145de k) := by decide +kernel
def RJx9f9b0 : String := "java/lang/CharSequence"
def TJx9f9b0 : u_T := fun k => match k with
  | _ => ("", "", "", false)
def tyJx9f9b0 : Nat → FieldType := fun k => match k with
  | _ => .int
abbrev wsJx9f9b00 : List Cond := u_ws RJx9f9b0 TJx9f9b0 0
theorem nmJx9f9b0 : ∀ a, a < 0 → ∀ b, b < 0 → a ≠ b → (TJx9f9b0 a).2.1 ≠ (TJx9f9b0 b).2.1 := by decide +kernel
theorem tyJx9f9b0_ok : ∀ k, k < 0 → parseFieldDescriptor (TJx9f9b0 k).2.2.1 = some (tyJx9f9b0 k) := by decide +kernel
def RJ11 : String := "java/lang/Character"
def TJ11 : u_T := fun k => match k with
  | _ => ("", "", "", false)
def tyJ11 : Nat → FieldType := fun k => match k with
  | _ => .int
abbrev wsJ110 : List Cond := u_ws RJ11 TJ11 0
theorem nmJ11 : ∀ a, a < 0 → ∀ b, b < 0 → a ≠ b → (TJ11 a).2.1 ≠ (TJ11 b).2.1 := by decide +kernel
theorem tyJ11_ok : ∀ k, k < 0 → parseFieldDescriptor (TJ11 k).2.2.1 = some (tyJ11 k) := by decide +kernel
abbrev cJ11_isValidCodePoint_9a6ad : ByteArray := prog_10_method_11_code
def yJ11_isValidCodePoint_9a6ad : MethodName := ⟨RJ11, "isValidCodePoint", "(I)Z"⟩
abbrev cJ11_highSurrogate_5068e : ByteArray := prog_10_method_28_code
def yJ11_highSurrogate_5068e : MethodName := ⟨RJ11, "highSurrogate", "(I)C"⟩
abbrev cJ11_lowSurrogate_5068e : ByteArray := prog_10_method_29_code
def yJ11_lowSurrogate_5068e : MethodName := ⟨RJ11, "lowSurrogate", "(I)C"⟩
def RJx8e188 : String := "java/lang/Cloneable"
def TJx8e188 : u_T := fun k => match k with
  | _ => ("", "", "", false)
def tyJx8e188 : Nat → FieldType := fun k => match k with
  | _ => .int
abbrev wsJx8e1880 : List Cond := u_ws RJx8e188 TJx8e188 0
theorem nmJx8e188 : ∀ a, a < 0 → ∀ b, b < 0 → a ≠ b → (TJx8e188 a).2.1 ≠ (TJx8e188 b).2.1 := by decide +kernel
theorem tyJx8e188_ok : ∀ k, k < 0 → parseFieldDescriptor (TJx8e188 k).2.2.1 = some (tyJx8e188 k) := by decide +kernel
def RJxb160c : String := "java/lang/Comparable"
def TJxb160c : u_T := fun k => match k with
  | _ => ("", "", "", false)
def tyJxb160c : Nat → FieldType := fun k => match k with
  | _ => .int
abbrev wsJxb160c0 : List Cond := u_ws RJxb160c TJxb160c 0
theorem nmJxb160c : ∀ a, a < 0 → ∀ b, b < 0 → a ≠ b → (TJxb160c a).2.1 ≠ (TJxb160c b).2.1 := by decide +kernel
theorem tyJxb160c_ok : ∀ k, k < 0 → parseFieldDescriptor (TJxb160c k).2.2.1 = some (tyJxb160c k) := by decide +kernel
def RJ9 : String := "java/lang/Math"
def TJ9 : u_T := fun k => match k with
  | _ => ("", "", "", false)
def tyJ9 : Nat → FieldType := fun k => match k with
  | _ => .int
abbrev wsJ90 : List Cond := u_ws RJ9 TJ9 0
theorem nmJ9 : ∀ a, a < 0 → ∀ b, b < 0 → a ≠ b → (TJ9 a).2.1 ≠ (TJ9 b).2.1 := by decide +kernel
theorem tyJ9_ok : ∀ k, k < 0 → parseFieldDescriptor (TJ9 k).2.2.1 = some (tyJ9 k) := by decide +kernel
abbrev cJ9_abs_0f7a4 : ByteArray := prog_12_method_59_code
def yJ9_abs_0f7a4 : MethodName := ⟨RJ9, "abs", "(I)I"⟩
abbrev cJ9_max_7cf53 : ByteArray := prog_12_method_65_code
def yJ9_max_7cf53 : MethodName := ⟨RJ9, "max", "(II)I"⟩
abbrev cJ9_min_7cf53 : ByteArray := prog_12_method_69_code
def yJ9_min_7cf53 : MethodName := ⟨RJ9, "min", "(II)I"⟩
def RJ0 : String := "java/lang/String"
def TJ0 : u_T := fun k => match k with
  | _ => ("", "", "", false)
def tyJ0 : Nat → FieldType := fun k => match k with
  | _ => .int
abbrev wsJ00 : List Cond := u_ws RJ0 TJ0 0
theorem nmJ0 : ∀ a, a < 0 → ∀ b, b < 0 → a ≠ b → (TJ0 a).2.1 ≠ (TJ0 b).2.1 := by decide +kernel
theorem tyJ0_ok : ∀ k, k < 0 → parseFieldDescriptor (TJ0 k).2.2.1 = some (tyJ0 k) := by decide +kernel
abbrev cJ0_length_8abf5 : ByteArray := prog_13_method_54_code
def yJ0_length_8abf5 : MethodName := ⟨RJ0, "length", "()I"⟩
abbrev cJ0_charAt_5068e : ByteArray := prog_13_method_56_code
def yJ0_charAt_5068e : MethodName := ⟨RJ0, "charAt", "(I)C"⟩
abbrev cJ0_indexOf_0f7a4 : ByteArray := prog_13_method_79_code
def yJ0_indexOf_0f7a4 : MethodName := ⟨RJ0, "indexOf", "(I)I"⟩
abbrev cJ0_indexOf_7cf53 : ByteArray := prog_13_method_80_code
def yJ0_indexOf_7cf53 : MethodName := ⟨RJ0, "indexOf", "(II)I"⟩
abbrev cJ0_coder_7d493 : ByteArray := prog_13_method_152_code
def yJ0_coder_7d493 : MethodName := ⟨RJ0, "coder", "()B"⟩
abbrev cJ0_isLatin1_aae02 : ByteArray := prog_13_method_154_code
def yJ0_isLatin1_aae02 : MethodName := ⟨RJ0, "isLatin1", "()Z"⟩
abbrev cJ0_checkIndex_df160 : ByteArray := prog_13_method_155_code
def yJ0_checkIndex_df160 : MethodName := ⟨RJ0, "checkIndex", "(II)V"⟩
abbrev cJ0_checkBoundsBeginEnd_23922 : ByteArray := prog_13_method_158_code
def yJ0_checkBoundsBeginEnd_23922 : MethodName := ⟨RJ0, "checkBoundsBeginEnd", "(III)V"⟩
def RJ1 : String := "java/lang/StringLatin1"
def TJ1 : u_T := fun k => match k with
  | _ => ("", "", "", false)
def tyJ1 : Nat → FieldType := fun k => match k with
  | _ => .int
abbrev wsJ10 : List Cond := u_ws RJ1 TJ1 0
theorem nmJ1 : ∀ a, a < 0 → ∀ b, b < 0 → a ≠ b → (TJ1 a).2.1 ≠ (TJ1 b).2.1 := by decide +kernel
theorem tyJ1_ok : ∀ k, k < 0 → parseFieldDescriptor (TJ1 k).2.2.1 = some (tyJ1 k) := by decide +kernel
abbrev cJ1_charAt_3b067 : ByteArray := prog_14_method_2_code
def yJ1_charAt_3b067 : MethodName := ⟨RJ1, "charAt", "([BI)C"⟩
abbrev cJ1_canEncode_9a6ad : ByteArray := prog_14_method_4_code
def yJ1_canEncode_9a6ad : MethodName := ⟨RJ1, "canEncode", "(I)Z"⟩
abbrev cJ1_indexOf_4cfef : ByteArray := prog_14_method_22_code
def yJ1_indexOf_4cfef : MethodName := ⟨RJ1, "indexOf", "([BIII)I"⟩
abbrev cJ1_indexOfChar_4cfef : ByteArray := prog_14_method_23_code
def yJ1_indexOfChar_4cfef : MethodName := ⟨RJ1, "indexOfChar", "([BIII)I"⟩
def RJ2 : String := "java/lang/StringUTF16"
def TJ2 : u_T := fun k => match k with
  | _ => ("", "", "", false)
def tyJ2 : Nat → FieldType := fun k => match k with
  | _ => .int
abbrev wsJ20 : List Cond := u_ws RJ2 TJ2 0
theorem nmJ2 : ∀ a, a < 0 → ∀ b, b < 0 → a ≠ b → (TJ2 a).2.1 ≠ (TJ2 b).2.1 := by decide +kernel
theorem tyJ2_ok : ∀ k, k < 0 → parseFieldDescriptor (TJ2 k).2.2.1 = some (tyJ2 k) := by decide +kernel
abbrev cJ2_getChar_3b067 : ByteArray := prog_15_method_5_code
def yJ2_getChar_3b067 : MethodName := ⟨RJ2, "getChar", "([BI)C"⟩
abbrev cJ2_length_9d52b : ByteArray := prog_15_method_6_code
def yJ2_length_9d52b : MethodName := ⟨RJ2, "length", "([B)I"⟩
abbrev cJ2_indexOf_4cfef : ByteArray := prog_15_method_40_code
def yJ2_indexOf_4cfef : MethodName := ⟨RJ2, "indexOf", "([BIII)I"⟩
abbrev cJ2_indexOfChar_4cfef : ByteArray := prog_15_method_47_code
def yJ2_indexOfChar_4cfef : MethodName := ⟨RJ2, "indexOfChar", "([BIII)I"⟩
abbrev cJ2_indexOfCharUnsafe_4cfef : ByteArray := prog_15_method_48_code
def yJ2_indexOfCharUnsafe_4cfef : MethodName := ⟨RJ2, "indexOfCharUnsafe", "([BIII)I"⟩
abbrev cJ2_indexOfSupplementary_4cfef : ByteArray := prog_15_method_49_code
def yJ2_indexOfSupplementary_4cfef : MethodName := ⟨RJ2, "indexOfSupplementary", "([BIII)I"⟩
abbrev cJ2_charAt_3b067 : ByteArray := prog_15_method_83_code
def yJ2_charAt_3b067 : MethodName := ⟨RJ2, "charAt", "([BI)C"⟩
abbrev cJ2_checkIndex_2214a : ByteArray := prog_15_method_91_code
def yJ2_checkIndex_2214a : MethodName := ⟨RJ2, "checkIndex", "(I[B)V"⟩
abbrev cJ2_checkBoundsBeginEnd_d044e : ByteArray := prog_15_method_93_code
def yJ2_checkBoundsBeginEnd_d044e : MethodName := ⟨RJ2, "checkBoundsBeginEnd", "(II[B)V"⟩
def RJ10 : String := "java/lang/System"
def TJ10 : u_T := fun k => match k with
  | _ => ("", "", "", false)
def tyJ10 : Nat → FieldType := fun k => match k with
  | _ => .int
abbrev wsJ100 : List Cond := u_ws RJ10 TJ10 0
theorem nmJ10 : ∀ a, a < 0 → ∀ b, b < 0 → a ≠ b → (TJ10 a).2.1 ≠ (TJ10 b).2.1 := by decide +kernel
theorem tyJ10_ok : ∀ k, k < 0 → parseFieldDescriptor (TJ10 k).2.2.1 = some (tyJ10 k) := by decide +kernel
def RJxfd54e : String := "java/lang/constant/Constable"
def TJxfd54e : u_T := fun k => match k with
  | _ => ("", "", "", false)
def tyJxfd54e : Nat → FieldType := fun k => match k with
  | _ => .int
abbrev wsJxfd54e0 : List Cond := u_ws RJxfd54e TJxfd54e 0
theorem nmJxfd54e : ∀ a, a < 0 → ∀ b, b < 0 → a ≠ b → (TJxfd54e a).2.1 ≠ (TJxfd54e b).2.1 := by decide +kernel
theorem tyJxfd54e_ok : ∀ k, k < 0 → parseFieldDescriptor (TJxfd54e k).2.2.1 = some (tyJxfd54e k) := by decide +kernel
def RJx3cf43 : String := "java/lang/constant/ConstantDesc"
def TJx3cf43 : u_T := fun k => match k with
  | _ => ("", "", "", false)
def tyJx3cf43 : Nat → FieldType := fun k => match k with
  | _ => .int
abbrev wsJx3cf430 : List Cond := u_ws RJx3cf43 TJx3cf43 0
theorem nmJx3cf43 : ∀ a, a < 0 → ∀ b, b < 0 → a ≠ b → (TJx3cf43 a).2.1 ≠ (TJx3cf43 b).2.1 := by decide +kernel
theorem tyJx3cf43_ok : ∀ k, k < 0 → parseFieldDescriptor (TJx3cf43 k).2.2.1 = some (tyJx3cf43 k) := by decide +kernel
def RJ7 : String := "java/util/Arrays"
def TJ7 : u_T := fun k => match k with
  | _ => ("", "", "", false)
def tyJ7 : Nat → FieldType := fun k => match k with
  | _ => .int
abbrev wsJ70 : List Cond := u_ws RJ7 TJ7 0
theorem nmJ7 : ∀ a, a < 0 → ∀ b, b < 0 → a ≠ b → (TJ7 a).2.1 ≠ (TJ7 b).2.1 := by decide +kernel
theorem tyJ7_ok : ∀ k, k < 0 → parseFieldDescriptor (TJ7 k).2.2.1 = some (tyJ7 k) := by decide +kernel
abbrev cJ7_fill_53178 : ByteArray := prog_17_method_103_code
def yJ7_fill_53178 : MethodName := ⟨RJ7, "fill", "([II)V"⟩
abbrev cJ7_copyOf_59c91 : ByteArray := prog_17_method_123_code
def yJ7_copyOf_59c91 : MethodName := ⟨RJ7, "copyOf", "([II)[I"⟩
def RJ3 : String := "jdk/internal/util/Preconditions"
def TJ3 : u_T := fun k => match k with
  | _ => ("", "", "", false)
def tyJ3 : Nat → FieldType := fun k => match k with
  | _ => .int
abbrev wsJ30 : List Cond := u_ws RJ3 TJ3 0
theorem nmJ3 : ∀ a, a < 0 → ∀ b, b < 0 → a ≠ b → (TJ3 a).2.1 ≠ (TJ3 b).2.1 := by decide +kernel
theorem tyJ3_ok : ∀ k, k < 0 → parseFieldDescriptor (TJ3 k).2.2.1 = some (tyJ3 k) := by decide +kernel
abbrev cJ3_checkIndex_8e157 : ByteArray := prog_18_method_11_code
def yJ3_checkIndex_8e157 : MethodName := ⟨RJ3, "checkIndex", "(IILjava/util/function/BiFunction;)I"⟩
abbrev cJ3_checkFromToIndex_8c36e : ByteArray := prog_18_method_12_code
def yJ3_checkFromToIndex_8c36e : MethodName := ⟨RJ3, "checkFromToIndex", "(IIILjava/util/function/BiFunction;)I"⟩
def RL : String := "SmokeVotesLaw"
abbrev cL_law : ByteArray := code
def yL_law : MethodName := ⟨RL, "law", "([I)Z"⟩
abbrev vwCl : List vw_C := [(RX0, TX0, 19), (RX1, TX1, 3), (RX2, TX2, 2), (RX3, TX3, 10), (RX4, TX4, 3), (RX5, TX5, 5), (RX6, TX6, 11), (RX7, TX7, 35)]
end
section
theorem dX0_init_0 : decode cX0_init 0 = .ok (.aload_n 0, 1) := by decide +kernel
theorem dX0_init_1 : decode cX0_init 1 = .ok (.invokespecial 3, 3) := by decide +kernel
theorem dX0_init_4 : decode cX0_init 4 = .ok (.aload_n 0, 1) := by decide +kernel
theorem dX0_init_5 : decode cX0_init 5 = .ok (.bipush 10, 2) := by decide +kernel
theorem dX0_init_7 : decode cX0_init 7 = .ok (.newarray .int, 2) := by decide +kernel
theorem dX0_init_9 : decode cX0_init 9 = .ok (.putfield 9, 3) := by decide +kernel
theorem dX0_init_12 : decode cX0_init 12 = .ok (.aload_n 0, 1) := by decide +kernel
theorem dX0_init_13 : decode cX0_init 13 = .ok (.bipush 10, 2) := by decide +kernel
theorem dX0_init_15 : decode cX0_init 15 = .ok (.newarray .int, 2) := by decide +kernel
theorem dX0_init_17 : decode cX0_init 17 = .ok (.putfield 15, 3) := by decide +kernel
theorem dX0_init_20 : decode cX0_init 20 = .ok (.aload_n 0, 1) := by decide +kernel
theorem dX0_init_21 : decode cX0_init 21 = .ok (.bipush 10, 2) := by decide +kernel
theorem dX0_init_23 : decode cX0_init 23 = .ok (.newarray .int, 2) := by decide +kernel
theorem dX0_init_25 : decode cX0_init 25 = .ok (.putfield 18, 3) := by decide +kernel
theorem dX0_init_28 : decode cX0_init 28 = .ok (.aload_n 0, 1) := by decide +kernel
theorem dX0_init_29 : decode cX0_init 29 = .ok (.bipush 10, 2) := by decide +kernel
theorem dX0_init_31 : decode cX0_init 31 = .ok (.newarray .int, 2) := by decide +kernel
theorem dX0_init_33 : decode cX0_init 33 = .ok (.putfield 21, 3) := by decide +kernel
theorem dX0_init_36 : decode cX0_init 36 = .ok (.aload_n 0, 1) := by decide +kernel
theorem dX0_init_37 : decode cX0_init 37 = .ok (.bipush 10, 2) := by decide +kernel
theorem dX0_init_39 : decode cX0_init 39 = .ok (.newarray .int, 2) := by decide +kernel
theorem dX0_init_41 : decode cX0_init 41 = .ok (.putfield 24, 3) := by decide +kernel
theorem dX0_init_44 : decode cX0_init 44 = .ok (.aload_n 0, 1) := by decide +kernel
theorem dX0_init_45 : decode cX0_init 45 = .ok (.bipush 10, 2) := by decide +kernel
theorem dX0_init_47 : decode cX0_init 47 = .ok (.newarray .int, 2) := by decide +kernel
theorem dX0_init_49 : decode cX0_init 49 = .ok (.putfield 27, 3) := by decide +kernel
theorem dX0_init_52 : decode cX0_init 52 = .ok (.aload_n 0, 1) := by decide +kernel
theorem dX0_init_53 : decode cX0_init 53 = .ok (.bipush 10, 2) := by decide +kernel
theorem dX0_init_55 : decode cX0_init 55 = .ok (.newarray .int, 2) := by decide +kernel
theorem dX0_init_57 : decode cX0_init 57 = .ok (.putfield 30, 3) := by decide +kernel
theorem dX0_init_60 : decode cX0_init 60 = .ok (.aload_n 0, 1) := by decide +kernel
theorem dX0_init_61 : decode cX0_init 61 = .ok (.iconst 0, 1) := by decide +kernel
theorem dX0_init_62 : decode cX0_init 62 = .ok (.putfield 33, 3) := by decide +kernel
theorem dX0_init_65 : decode cX0_init 65 = .ok (.aload_n 0, 1) := by decide +kernel
theorem dX0_init_66 : decode cX0_init 66 = .ok (.iconst 0, 1) := by decide +kernel
theorem dX0_init_67 : decode cX0_init 67 = .ok (.putfield 37, 3) := by decide +kernel
theorem dX0_init_70 : decode cX0_init 70 = .ok (.aload_n 0, 1) := by decide +kernel
theorem dX0_init_71 : decode cX0_init 71 = .ok (.bipush 50, 2) := by decide +kernel
theorem dX0_init_73 : decode cX0_init 73 = .ok (.putfield 40, 3) := by decide +kernel
theorem dX0_init_76 : decode cX0_init 76 = .ok (.aload_n 0, 1) := by decide +kernel
theorem dX0_init_77 : decode cX0_init 77 = .ok (.bipush 10, 2) := by decide +kernel
theorem dX0_init_79 : decode cX0_init 79 = .ok (.putfield 43, 3) := by decide +kernel
theorem dX0_init_82 : decode cX0_init 82 = .ok (.aload_n 0, 1) := by decide +kernel
theorem dX0_init_83 : decode cX0_init 83 = .ok (.iconst 0, 1) := by decide +kernel
theorem dX0_init_84 : decode cX0_init 84 = .ok (.putfield 46, 3) := by decide +kernel
theorem dX0_init_87 : decode cX0_init 87 = .ok (.aload_n 0, 1) := by decide +kernel
theorem dX0_init_88 : decode cX0_init 88 = .ok (.iconst (-1), 1) := by decide +kernel
theorem dX0_init_89 : decode cX0_init 89 = .ok (.putfield 49, 3) := by decide +kernel
theorem dX0_init_92 : decode cX0_init 92 = .ok (.aload_n 0, 1) := by decide +kernel
theorem dX0_init_93 : decode cX0_init 93 = .ok (.iconst 0, 1) := by decide +kernel
theorem dX0_init_94 : decode cX0_init 94 = .ok (.putfield 52, 3) := by decide +kernel
theorem dX0_init_97 : decode cX0_init 97 = .ok (.aload_n 0, 1) := by decide +kernel
theorem dX0_init_98 : decode cX0_init 98 = .ok (.iconst 0, 1) := by decide +kernel
theorem dX0_init_99 : decode cX0_init 99 = .ok (.putfield 55, 3) := by decide +kernel
theorem dX0_init_102 : decode cX0_init 102 = .ok (.aload_n 0, 1) := by decide +kernel
theorem dX0_init_103 : decode cX0_init 103 = .ok (.iconst 1, 1) := by decide +kernel
theorem dX0_init_104 : decode cX0_init 104 = .ok (.putfield 58, 3) := by decide +kernel
theorem dX0_init_107 : decode cX0_init 107 = .ok (.aload_n 0, 1) := by decide +kernel
theorem dX0_init_108 : decode cX0_init 108 = .ok (.iconst 3, 1) := by decide +kernel
theorem dX0_init_109 : decode cX0_init 109 = .ok (.putfield 61, 3) := by decide +kernel
theorem dX0_init_112 : decode cX0_init 112 = .ok (.aload_n 0, 1) := by decide +kernel
theorem dX0_init_113 : decode cX0_init 113 = .ok (.iconst 0, 1) := by decide +kernel
theorem dX0_init_114 : decode cX0_init 114 = .ok (.putfield 64, 3) := by decide +kernel
theorem dX0_init_117 : decode cX0_init 117 = .ok (.aload_n 0, 1) := by decide +kernel
theorem dX0_init_118 : decode cX0_init 118 = .ok (.aload_n 1, 1) := by decide +kernel
theorem dX0_init_119 : decode cX0_init 119 = .ok (.putfield 67, 3) := by decide +kernel
theorem dX0_init_122 : decode cX0_init 122 = .ok (.return_, 1) := by decide +kernel
theorem dX0_become_0 : decode cX0_become 0 = .ok (.aload_n 0, 1) := by decide +kernel
theorem dX0_become_1 : decode cX0_become 1 = .ok (.aload_n 1, 1) := by decide +kernel
theorem dX0_become_2 : decode cX0_become 2 = .ok (.getfield 33, 3) := by decide +kernel
theorem dX0_become_5 : decode cX0_become 5 = .ok (.putfield 33, 3) := by decide +kernel
theorem dX0_become_8 : decode cX0_become 8 = .ok (.aload_n 0, 1) := by decide +kernel
theorem dX0_become_9 : decode cX0_become 9 = .ok (.aload_n 1, 1) := by decide +kernel
theorem dX0_become_10 : decode cX0_become 10 = .ok (.getfield 37, 3) := by decide +kernel
theorem dX0_become_13 : decode cX0_become 13 = .ok (.putfield 37, 3) := by decide +kernel
theorem dX0_become_16 : decode cX0_become 16 = .ok (.aload_n 0, 1) := by decide +kernel
theorem dX0_become_17 : decode cX0_become 17 = .ok (.aload_n 1, 1) := by decide +kernel
theorem dX0_become_18 : decode cX0_become 18 = .ok (.getfield 40, 3) := by decide +kernel
theorem dX0_become_21 : decode cX0_become 21 = .ok (.putfield 40, 3) := by decide +kernel
theorem dX0_become_24 : decode cX0_become 24 = .ok (.aload_n 0, 1) := by decide +kernel
theorem dX0_become_25 : decode cX0_become 25 = .ok (.aload_n 1, 1) := by decide +kernel
theorem dX0_become_26 : decode cX0_become 26 = .ok (.getfield 43, 3) := by decide +kernel
theorem dX0_become_29 : decode cX0_become 29 = .ok (.putfield 43, 3) := by decide +kernel
theorem dX0_become_32 : decode cX0_become 32 = .ok (.aload_n 0, 1) := by decide +kernel
theorem dX0_become_33 : decode cX0_become 33 = .ok (.aload_n 1, 1) := by decide +kernel
theorem dX0_become_34 : decode cX0_become 34 = .ok (.getfield 46, 3) := by decide +kernel
theorem dX0_become_37 : decode cX0_become 37 = .ok (.putfield 46, 3) := by decide +kernel
theorem dX0_become_40 : decode cX0_become 40 = .ok (.aload_n 0, 1) := by decide +kernel
theorem dX0_become_41 : decode cX0_become 41 = .ok (.aload_n 1, 1) := by decide +kernel
theorem dX0_become_42 : decode cX0_become 42 = .ok (.getfield 49, 3) := by decide +kernel
theorem dX0_become_45 : decode cX0_become 45 = .ok (.putfield 49, 3) := by decide +kernel
theorem dX0_become_48 : decode cX0_become 48 = .ok (.aload_n 0, 1) := by decide +kernel
theorem dX0_become_49 : decode cX0_become 49 = .ok (.aload_n 1, 1) := by decide +kernel
theorem dX0_become_50 : decode cX0_become 50 = .ok (.getfield 52, 3) := by decide +kernel
theorem dX0_become_53 : decode cX0_become 53 = .ok (.putfield 52, 3) := by decide +kernel
theorem dX0_become_56 : decode cX0_become 56 = .ok (.aload_n 0, 1) := by decide +kernel
theorem dX0_become_57 : decode cX0_become 57 = .ok (.aload_n 1, 1) := by decide +kernel
theorem dX0_become_58 : decode cX0_become 58 = .ok (.getfield 55, 3) := by decide +kernel
theorem dX0_become_61 : decode cX0_become 61 = .ok (.putfield 55, 3) := by decide +kernel
theorem dX0_become_64 : decode cX0_become 64 = .ok (.aload_n 0, 1) := by decide +kernel
theorem dX0_become_65 : decode cX0_become 65 = .ok (.aload_n 1, 1) := by decide +kernel
theorem dX0_become_66 : decode cX0_become 66 = .ok (.getfield 58, 3) := by decide +kernel
theorem dX0_become_69 : decode cX0_become 69 = .ok (.putfield 58, 3) := by decide +kernel
theorem dX0_become_72 : decode cX0_become 72 = .ok (.aload_n 0, 1) := by decide +kernel
theorem dX0_become_73 : decode cX0_become 73 = .ok (.aload_n 1, 1) := by decide +kernel
theorem dX0_become_74 : decode cX0_become 74 = .ok (.getfield 61, 3) := by decide +kernel
theorem dX0_become_77 : decode cX0_become 77 = .ok (.putfield 61, 3) := by decide +kernel
theorem dX0_become_80 : decode cX0_become 80 = .ok (.aload_n 0, 1) := by decide +kernel
theorem dX0_become_81 : decode cX0_become 81 = .ok (.aload_n 1, 1) := by decide +kernel
theorem dX0_become_82 : decode cX0_become 82 = .ok (.getfield 64, 3) := by decide +kernel
theorem dX0_become_85 : decode cX0_become 85 = .ok (.putfield 64, 3) := by decide +kernel
theorem dX0_become_88 : decode cX0_become 88 = .ok (.aload_n 1, 1) := by decide +kernel
theorem dX0_become_89 : decode cX0_become 89 = .ok (.getfield 9, 3) := by decide +kernel
theorem dX0_become_92 : decode cX0_become 92 = .ok (.iconst 0, 1) := by decide +kernel
theorem dX0_become_93 : decode cX0_become 93 = .ok (.aload_n 0, 1) := by decide +kernel
theorem dX0_become_94 : decode cX0_become 94 = .ok (.getfield 9, 3) := by decide +kernel
theorem dX0_become_97 : decode cX0_become 97 = .ok (.iconst 0, 1) := by decide +kernel
theorem dX0_become_98 : decode cX0_become 98 = .ok (.bipush 10, 2) := by decide +kernel
theorem dX0_become_100 : decode cX0_become 100 = .ok (.invokestatic 71, 3) := by decide +kernel
theorem dX0_become_103 : decode cX0_become 103 = .ok (.aload_n 1, 1) := by decide +kernel
theorem dX0_become_104 : decode cX0_become 104 = .ok (.getfield 15, 3) := by decide +kernel
theorem dX0_become_107 : decode cX0_become 107 = .ok (.iconst 0, 1) := by decide +kernel
theorem dX0_become_108 : decode cX0_become 108 = .ok (.aload_n 0, 1) := by decide +kernel
theorem dX0_become_109 : decode cX0_become 109 = .ok (.getfield 15, 3) := by decide +kernel
theorem dX0_become_112 : decode cX0_become 112 = .ok (.iconst 0, 1) := by decide +kernel
theorem dX0_become_113 : decode cX0_become 113 = .ok (.bipush 10, 2) := by decide +kernel
theorem dX0_become_115 : decode cX0_become 115 = .ok (.invokestatic 71, 3) := by decide +kernel
theorem dX0_become_118 : decode cX0_become 118 = .ok (.aload_n 1, 1) := by decide +kernel
theorem dX0_become_119 : decode cX0_become 119 = .ok (.getfield 18, 3) := by decide +kernel
theorem dX0_become_122 : decode cX0_become 122 = .ok (.iconst 0, 1) := by decide +kernel
theorem dX0_become_123 : decode cX0_become 123 = .ok (.aload_n 0, 1) := by decide +kernel
theorem dX0_become_124 : decode cX0_become 124 = .ok (.getfield 18, 3) := by decide +kernel
theorem dX0_become_127 : decode cX0_become 127 = .ok (.iconst 0, 1) := by decide +kernel
theorem dX0_become_128 : decode cX0_become 128 = .ok (.bipush 10, 2) := by decide +kernel
theorem dX0_become_130 : decode cX0_become 130 = .ok (.invokestatic 71, 3) := by decide +kernel
theorem dX0_become_133 : decode cX0_become 133 = .ok (.aload_n 1, 1) := by decide +kernel
theorem dX0_become_134 : decode cX0_become 134 = .ok (.getfield 21, 3) := by decide +kernel
theorem dX0_become_137 : decode cX0_become 137 = .ok (.iconst 0, 1) := by decide +kernel
theorem dX0_become_138 : decode cX0_become 138 = .ok (.aload_n 0, 1) := by decide +kernel
theorem dX0_become_139 : decode cX0_become 139 = .ok (.getfield 21, 3) := by decide +kernel
theorem dX0_become_142 : decode cX0_become 142 = .ok (.iconst 0, 1) := by decide +kernel
theorem dX0_become_143 : decode cX0_become 143 = .ok (.bipush 10, 2) := by decide +kernel
theorem dX0_become_145 : decode cX0_become 145 = .ok (.invokestatic 71, 3) := by decide +kernel
theorem dX0_become_148 : decode cX0_become 148 = .ok (.aload_n 1, 1) := by decide +kernel
theorem dX0_become_149 : decode cX0_become 149 = .ok (.getfield 24, 3) := by decide +kernel
theorem dX0_become_152 : decode cX0_become 152 = .ok (.iconst 0, 1) := by decide +kernel
theorem dX0_become_153 : decode cX0_become 153 = .ok (.aload_n 0, 1) := by decide +kernel
theorem dX0_become_154 : decode cX0_become 154 = .ok (.getfield 24, 3) := by decide +kernel
theorem dX0_become_157 : decode cX0_become 157 = .ok (.iconst 0, 1) := by decide +kernel
theorem dX0_become_158 : decode cX0_become 158 = .ok (.bipush 10, 2) := by decide +kernel
theorem dX0_become_160 : decode cX0_become 160 = .ok (.invokestatic 71, 3) := by decide +kernel
theorem dX0_become_163 : decode cX0_become 163 = .ok (.aload_n 1, 1) := by decide +kernel
theorem dX0_become_164 : decode cX0_become 164 = .ok (.getfield 27, 3) := by decide +kernel
theorem dX0_become_167 : decode cX0_become 167 = .ok (.iconst 0, 1) := by decide +kernel
theorem dX0_become_168 : decode cX0_become 168 = .ok (.aload_n 0, 1) := by decide +kernel
theorem dX0_become_169 : decode cX0_become 169 = .ok (.getfield 27, 3) := by decide +kernel
theorem dX0_become_172 : decode cX0_become 172 = .ok (.iconst 0, 1) := by decide +kernel
theorem dX0_become_173 : decode cX0_become 173 = .ok (.bipush 10, 2) := by decide +kernel
theorem dX0_become_175 : decode cX0_become 175 = .ok (.invokestatic 71, 3) := by decide +kernel
theorem dX0_become_178 : decode cX0_become 178 = .ok (.aload_n 1, 1) := by decide +kernel
theorem dX0_become_179 : decode cX0_become 179 = .ok (.getfield 30, 3) := by decide +kernel
theorem dX0_become_182 : decode cX0_become 182 = .ok (.iconst 0, 1) := by decide +kernel
theorem dX0_become_183 : decode cX0_become 183 = .ok (.aload_n 0, 1) := by decide +kernel
theorem dX0_become_184 : decode cX0_become 184 = .ok (.getfield 30, 3) := by decide +kernel
theorem dX0_become_187 : decode cX0_become 187 = .ok (.iconst 0, 1) := by decide +kernel
theorem dX0_become_188 : decode cX0_become 188 = .ok (.bipush 10, 2) := by decide +kernel
theorem dX0_become_190 : decode cX0_become 190 = .ok (.invokestatic 71, 3) := by decide +kernel
theorem dX0_become_193 : decode cX0_become 193 = .ok (.return_, 1) := by decide +kernel
theorem dX0_isVoter_0 : decode cX0_isVoter 0 = .ok (.iload_n 1, 1) := by decide +kernel
theorem dX0_isVoter_1 : decode cX0_isVoter 1 = .ok (.ifCond .lt 15, 3) := by decide +kernel
theorem dX0_isVoter_4 : decode cX0_isVoter 4 = .ok (.iload_n 1, 1) := by decide +kernel
theorem dX0_isVoter_5 : decode cX0_isVoter 5 = .ok (.aload_n 0, 1) := by decide +kernel
theorem dX0_isVoter_6 : decode cX0_isVoter 6 = .ok (.getfield 33, 3) := by decide +kernel
theorem dX0_isVoter_9 : decode cX0_isVoter 9 = .ok (.if_icmp .ge 7, 3) := by decide +kernel
theorem dX0_isVoter_12 : decode cX0_isVoter 12 = .ok (.iconst 1, 1) := by decide +kernel
theorem dX0_isVoter_13 : decode cX0_isVoter 13 = .ok (.goto 4, 3) := by decide +kernel
theorem dX0_isVoter_16 : decode cX0_isVoter 16 = .ok (.iconst 0, 1) := by decide +kernel
theorem dX0_isVoter_17 : decode cX0_isVoter 17 = .ok (.ireturn, 1) := by decide +kernel
theorem dX0_enter_0 : decode cX0_enter 0 = .ok (.aload_n 0, 1) := by decide +kernel
theorem dX0_enter_1 : decode cX0_enter 1 = .ok (.getfield 33, 3) := by decide +kernel
theorem dX0_enter_4 : decode cX0_enter 4 = .ok (.bipush 10, 2) := by decide +kernel
theorem dX0_enter_6 : decode cX0_enter 6 = .ok (.if_icmp .lt 4, 3) := by decide +kernel
theorem dX0_enter_9 : decode cX0_enter 9 = .ok (.return_, 1) := by decide +kernel
theorem dX0_enter_10 : decode cX0_enter 10 = .ok (.aload_n 0, 1) := by decide +kernel
theorem dX0_enter_11 : decode cX0_enter 11 = .ok (.getfield 9, 3) := by decide +kernel
theorem dX0_enter_14 : decode cX0_enter 14 = .ok (.aload_n 0, 1) := by decide +kernel
theorem dX0_enter_15 : decode cX0_enter 15 = .ok (.getfield 33, 3) := by decide +kernel
theorem dX0_enter_18 : decode cX0_enter 18 = .ok (.iload_n 1, 1) := by decide +kernel
theorem dX0_enter_19 : decode cX0_enter 19 = .ok (.iastore, 1) := by decide +kernel
theorem dX0_enter_20 : decode cX0_enter 20 = .ok (.aload_n 0, 1) := by decide +kernel
theorem dX0_enter_21 : decode cX0_enter 21 = .ok (.getfield 15, 3) := by decide +kernel
theorem dX0_enter_24 : decode cX0_enter 24 = .ok (.aload_n 0, 1) := by decide +kernel
theorem dX0_enter_25 : decode cX0_enter 25 = .ok (.getfield 33, 3) := by decide +kernel
theorem dX0_enter_28 : decode cX0_enter 28 = .ok (.iload_n 2, 1) := by decide +kernel
theorem dX0_enter_29 : decode cX0_enter 29 = .ok (.iastore, 1) := by decide +kernel
theorem dX0_enter_30 : decode cX0_enter 30 = .ok (.aload_n 0, 1) := by decide +kernel
theorem dX0_enter_31 : decode cX0_enter 31 = .ok (.getfield 18, 3) := by decide +kernel
theorem dX0_enter_34 : decode cX0_enter 34 = .ok (.aload_n 0, 1) := by decide +kernel
theorem dX0_enter_35 : decode cX0_enter 35 = .ok (.getfield 33, 3) := by decide +kernel
theorem dX0_enter_38 : decode cX0_enter 38 = .ok (.iload_n 3, 1) := by decide +kernel
theorem dX0_enter_39 : decode cX0_enter 39 = .ok (.iastore, 1) := by decide +kernel
theorem dX0_enter_40 : decode cX0_enter 40 = .ok (.aload_n 0, 1) := by decide +kernel
theorem dX0_enter_41 : decode cX0_enter 41 = .ok (.getfield 21, 3) := by decide +kernel
theorem dX0_enter_44 : decode cX0_enter 44 = .ok (.aload_n 0, 1) := by decide +kernel
theorem dX0_enter_45 : decode cX0_enter 45 = .ok (.getfield 33, 3) := by decide +kernel
theorem dX0_enter_48 : decode cX0_enter 48 = .ok (.iload 4, 2) := by decide +kernel
theorem dX0_enter_50 : decode cX0_enter 50 = .ok (.iastore, 1) := by decide +kernel
theorem dX0_enter_51 : decode cX0_enter 51 = .ok (.aload_n 0, 1) := by decide +kernel
theorem dX0_enter_52 : decode cX0_enter 52 = .ok (.getfield 24, 3) := by decide +kernel
theorem dX0_enter_55 : decode cX0_enter 55 = .ok (.aload_n 0, 1) := by decide +kernel
theorem dX0_enter_56 : decode cX0_enter 56 = .ok (.getfield 33, 3) := by decide +kernel
theorem dX0_enter_59 : decode cX0_enter 59 = .ok (.iconst 3, 1) := by decide +kernel
theorem dX0_enter_60 : decode cX0_enter 60 = .ok (.iastore, 1) := by decide +kernel
theorem dX0_enter_61 : decode cX0_enter 61 = .ok (.aload_n 0, 1) := by decide +kernel
theorem dX0_enter_62 : decode cX0_enter 62 = .ok (.getfield 27, 3) := by decide +kernel
theorem dX0_enter_65 : decode cX0_enter 65 = .ok (.aload_n 0, 1) := by decide +kernel
theorem dX0_enter_66 : decode cX0_enter 66 = .ok (.getfield 33, 3) := by decide +kernel
theorem dX0_enter_69 : decode cX0_enter 69 = .ok (.iconst (-1), 1) := by decide +kernel
theorem dX0_enter_70 : decode cX0_enter 70 = .ok (.iastore, 1) := by decide +kernel
theorem dX0_enter_71 : decode cX0_enter 71 = .ok (.aload_n 0, 1) := by decide +kernel
theorem dX0_enter_72 : decode cX0_enter 72 = .ok (.getfield 30, 3) := by decide +kernel
theorem dX0_enter_75 : decode cX0_enter 75 = .ok (.aload_n 0, 1) := by decide +kernel
theorem dX0_enter_76 : decode cX0_enter 76 = .ok (.getfield 33, 3) := by decide +kernel
theorem dX0_enter_79 : decode cX0_enter 79 = .ok (.iconst 0, 1) := by decide +kernel
theorem dX0_enter_80 : decode cX0_enter 80 = .ok (.iastore, 1) := by decide +kernel
theorem dX0_enter_81 : decode cX0_enter 81 = .ok (.aload_n 0, 1) := by decide +kernel
theorem dX0_enter_82 : decode cX0_enter 82 = .ok (.dup, 1) := by decide +kernel
theorem dX0_enter_83 : decode cX0_enter 83 = .ok (.getfield 33, 3) := by decide +kernel
theorem dX0_enter_86 : decode cX0_enter 86 = .ok (.iconst 1, 1) := by decide +kernel
theorem dX0_enter_87 : decode cX0_enter 87 = .ok (.iadd, 1) := by decide +kernel
theorem dX0_enter_88 : decode cX0_enter 88 = .ok (.putfield 33, 3) := by decide +kernel
theorem dX0_enter_91 : decode cX0_enter 91 = .ok (.return_, 1) := by decide +kernel
theorem dX0_enterDrawn_0 : decode cX0_enterDrawn 0 = .ok (.aload_n 0, 1) := by decide +kernel
theorem dX0_enterDrawn_1 : decode cX0_enterDrawn 1 = .ok (.invokevirtual 77, 3) := by decide +kernel
theorem dX0_enterDrawn_4 : decode cX0_enterDrawn 4 = .ok (.bipush 6, 2) := by decide +kernel
theorem dX0_enterDrawn_6 : decode cX0_enterDrawn 6 = .ok (.irem, 1) := by decide +kernel
theorem dX0_enterDrawn_7 : decode cX0_enterDrawn 7 = .ok (.istore_n 1, 1) := by decide +kernel
theorem dX0_enterDrawn_8 : decode cX0_enterDrawn 8 = .ok (.aload_n 0, 1) := by decide +kernel
theorem dX0_enterDrawn_9 : decode cX0_enterDrawn 9 = .ok (.invokevirtual 77, 3) := by decide +kernel
theorem dX0_enterDrawn_12 : decode cX0_enterDrawn 12 = .ok (.bipush 10, 2) := by decide +kernel
theorem dX0_enterDrawn_14 : decode cX0_enterDrawn 14 = .ok (.irem, 1) := by decide +kernel
theorem dX0_enterDrawn_15 : decode cX0_enterDrawn 15 = .ok (.istore_n 2, 1) := by decide +kernel
theorem dX0_enterDrawn_16 : decode cX0_enterDrawn 16 = .ok (.aload_n 0, 1) := by decide +kernel
theorem dX0_enterDrawn_17 : decode cX0_enterDrawn 17 = .ok (.invokevirtual 77, 3) := by decide +kernel
theorem dX0_enterDrawn_20 : decode cX0_enterDrawn 20 = .ok (.iconst 4, 1) := by decide +kernel
theorem dX0_enterDrawn_21 : decode cX0_enterDrawn 21 = .ok (.irem, 1) := by decide +kernel
theorem dX0_enterDrawn_22 : decode cX0_enterDrawn 22 = .ok (.istore_n 3, 1) := by decide +kernel
theorem dX0_enterDrawn_23 : decode cX0_enterDrawn 23 = .ok (.aload_n 0, 1) := by decide +kernel
theorem dX0_enterDrawn_24 : decode cX0_enterDrawn 24 = .ok (.invokevirtual 77, 3) := by decide +kernel
theorem dX0_enterDrawn_27 : decode cX0_enterDrawn 27 = .ok (.bipush 100, 2) := by decide +kernel
theorem dX0_enterDrawn_29 : decode cX0_enterDrawn 29 = .ok (.irem, 1) := by decide +kernel
theorem dX0_enterDrawn_30 : decode cX0_enterDrawn 30 = .ok (.istore 4, 2) := by decide +kernel
theorem dX0_enterDrawn_32 : decode cX0_enterDrawn 32 = .ok (.aload_n 0, 1) := by decide +kernel
theorem dX0_enterDrawn_33 : decode cX0_enterDrawn 33 = .ok (.iload_n 1, 1) := by decide +kernel
theorem dX0_enterDrawn_34 : decode cX0_enterDrawn 34 = .ok (.iload_n 2, 1) := by decide +kernel
theorem dX0_enterDrawn_35 : decode cX0_enterDrawn 35 = .ok (.iload_n 3, 1) := by decide +kernel
theorem dX0_enterDrawn_36 : decode cX0_enterDrawn 36 = .ok (.iload 4, 2) := by decide +kernel
theorem dX0_enterDrawn_38 : decode cX0_enterDrawn 38 = .ok (.invokevirtual 81, 3) := by decide +kernel
theorem dX0_enterDrawn_41 : decode cX0_enterDrawn 41 = .ok (.return_, 1) := by decide +kernel
theorem dX0_draw_0 : decode cX0_draw 0 = .ok (.aload_n 0, 1) := by decide +kernel
theorem dX0_draw_1 : decode cX0_draw 1 = .ok (.aload_n 0, 1) := by decide +kernel
theorem dX0_draw_2 : decode cX0_draw 2 = .ok (.getfield 58, 3) := by decide +kernel
theorem dX0_draw_5 : decode cX0_draw 5 = .ok (.ldc 85, 2) := by decide +kernel
theorem dX0_draw_7 : decode cX0_draw 7 = .ok (.imul, 1) := by decide +kernel
theorem dX0_draw_8 : decode cX0_draw 8 = .ok (.sipush 12345, 3) := by decide +kernel
theorem dX0_draw_11 : decode cX0_draw 11 = .ok (.iadd, 1) := by decide +kernel
theorem dX0_draw_12 : decode cX0_draw 12 = .ok (.putfield 58, 3) := by decide +kernel
theorem dX0_draw_15 : decode cX0_draw 15 = .ok (.aload_n 0, 1) := by decide +kernel
theorem dX0_draw_16 : decode cX0_draw 16 = .ok (.getfield 58, 3) := by decide +kernel
theorem dX0_draw_19 : decode cX0_draw 19 = .ok (.bipush 8, 2) := by decide +kernel
theorem dX0_draw_21 : decode cX0_draw 21 = .ok (.iushr, 1) := by decide +kernel
theorem dX0_draw_22 : decode cX0_draw 22 = .ok (.ireturn, 1) := by decide +kernel
theorem dX0_startOver_0 : decode cX0_startOver 0 = .ok (.aload_n 0, 1) := by decide +kernel
theorem dX0_startOver_1 : decode cX0_startOver 1 = .ok (.iconst (-1), 1) := by decide +kernel
theorem dX0_startOver_2 : decode cX0_startOver 2 = .ok (.putfield 49, 3) := by decide +kernel
theorem dX0_startOver_5 : decode cX0_startOver 5 = .ok (.aload_n 0, 1) := by decide +kernel
theorem dX0_startOver_6 : decode cX0_startOver 6 = .ok (.iconst 0, 1) := by decide +kernel
theorem dX0_startOver_7 : decode cX0_startOver 7 = .ok (.putfield 52, 3) := by decide +kernel
theorem dX0_startOver_10 : decode cX0_startOver 10 = .ok (.aload_n 0, 1) := by decide +kernel
theorem dX0_startOver_11 : decode cX0_startOver 11 = .ok (.iconst 3, 1) := by decide +kernel
theorem dX0_startOver_12 : decode cX0_startOver 12 = .ok (.putfield 61, 3) := by decide +kernel
theorem dX0_startOver_15 : decode cX0_startOver 15 = .ok (.aload_n 0, 1) := by decide +kernel
theorem dX0_startOver_16 : decode cX0_startOver 16 = .ok (.getfield 27, 3) := by decide +kernel
theorem dX0_startOver_19 : decode cX0_startOver 19 = .ok (.iconst (-1), 1) := by decide +kernel
theorem dX0_startOver_20 : decode cX0_startOver 20 = .ok (.invokestatic 86, 3) := by decide +kernel
theorem dX0_startOver_23 : decode cX0_startOver 23 = .ok (.aload_n 0, 1) := by decide +kernel
theorem dX0_startOver_24 : decode cX0_startOver 24 = .ok (.getfield 30, 3) := by decide +kernel
theorem dX0_startOver_27 : decode cX0_startOver 27 = .ok (.iconst 0, 1) := by decide +kernel
theorem dX0_startOver_28 : decode cX0_startOver 28 = .ok (.invokestatic 86, 3) := by decide +kernel
theorem dX0_startOver_31 : decode cX0_startOver 31 = .ok (.return_, 1) := by decide +kernel
theorem dX0_convince_0 : decode cX0_convince 0 = .ok (.iconst 0, 1) := by decide +kernel
theorem dX0_convince_1 : decode cX0_convince 1 = .ok (.istore_n 2, 1) := by decide +kernel
theorem dX0_convince_2 : decode cX0_convince 2 = .ok (.iload_n 2, 1) := by decide +kernel
theorem dX0_convince_3 : decode cX0_convince 3 = .ok (.aload_n 0, 1) := by decide +kernel
theorem dX0_convince_4 : decode cX0_convince 4 = .ok (.getfield 33, 3) := by decide +kernel
theorem dX0_convince_7 : decode cX0_convince 7 = .ok (.if_icmp .ge 27, 3) := by decide +kernel
theorem dX0_convince_10 : decode cX0_convince 10 = .ok (.aload_n 0, 1) := by decide +kernel
theorem dX0_convince_11 : decode cX0_convince 11 = .ok (.getfield 18, 3) := by decide +kernel
theorem dX0_convince_14 : decode cX0_convince 14 = .ok (.iload_n 2, 1) := by decide +kernel
theorem dX0_convince_15 : decode cX0_convince 15 = .ok (.iaload, 1) := by decide +kernel
theorem dX0_convince_16 : decode cX0_convince 16 = .ok (.iload_n 1, 1) := by decide +kernel
theorem dX0_convince_17 : decode cX0_convince 17 = .ok (.if_icmp .ne 11, 3) := by decide +kernel
theorem dX0_convince_20 : decode cX0_convince 20 = .ok (.aload_n 0, 1) := by decide +kernel
theorem dX0_convince_21 : decode cX0_convince 21 = .ok (.getfield 21, 3) := by decide +kernel
theorem dX0_convince_24 : decode cX0_convince 24 = .ok (.iload_n 2, 1) := by decide +kernel
theorem dX0_convince_25 : decode cX0_convince 25 = .ok (.bipush 99, 2) := by decide +kernel
theorem dX0_convince_27 : decode cX0_convince 27 = .ok (.iastore, 1) := by decide +kernel
theorem dX0_convince_28 : decode cX0_convince 28 = .ok (.iinc 2 1, 3) := by decide +kernel
theorem dX0_convince_31 : decode cX0_convince 31 = .ok (.goto (-29), 3) := by decide +kernel
theorem dX0_convince_34 : decode cX0_convince 34 = .ok (.return_, 1) := by decide +kernel
theorem dX0_go_0 : decode cX0_go 0 = .ok (.iconst 0, 1) := by decide +kernel
theorem dX0_go_1 : decode cX0_go 1 = .ok (.istore_n 2, 1) := by decide +kernel
theorem dX0_go_2 : decode cX0_go 2 = .ok (.iload_n 2, 1) := by decide +kernel
theorem dX0_go_3 : decode cX0_go 3 = .ok (.iload_n 1, 1) := by decide +kernel
theorem dX0_go_4 : decode cX0_go 4 = .ok (.if_icmp .ge 13, 3) := by decide +kernel
theorem dX0_go_7 : decode cX0_go 7 = .ok (.aload_n 0, 1) := by decide +kernel
theorem dX0_go_8 : decode cX0_go 8 = .ok (.invokevirtual 92, 3) := by decide +kernel
theorem dX0_go_11 : decode cX0_go 11 = .ok (.iinc 2 1, 3) := by decide +kernel
theorem dX0_go_14 : decode cX0_go 14 = .ok (.goto (-12), 3) := by decide +kernel
theorem dX0_go_17 : decode cX0_go 17 = .ok (.return_, 1) := by decide +kernel
theorem dX0_round_0 : decode cX0_round 0 = .ok (.aload_n 0, 1) := by decide +kernel
theorem dX0_round_1 : decode cX0_round 1 = .ok (.dup, 1) := by decide +kernel
theorem dX0_round_2 : decode cX0_round 2 = .ok (.getfield 55, 3) := by decide +kernel
theorem dX0_round_5 : decode cX0_round 5 = .ok (.iconst 1, 1) := by decide +kernel
theorem dX0_round_6 : decode cX0_round 6 = .ok (.iadd, 1) := by decide +kernel
theorem dX0_round_7 : decode cX0_round 7 = .ok (.putfield 55, 3) := by decide +kernel
theorem dX0_round_10 : decode cX0_round 10 = .ok (.aload_n 0, 1) := by decide +kernel
theorem dX0_round_11 : decode cX0_round 11 = .ok (.getfield 49, 3) := by decide +kernel
theorem dX0_round_14 : decode cX0_round 14 = .ok (.iconst (-1), 1) := by decide +kernel
theorem dX0_round_15 : decode cX0_round 15 = .ok (.if_icmp .ne 10, 3) := by decide +kernel
theorem dX0_round_18 : decode cX0_round 18 = .ok (.aload_n 0, 1) := by decide +kernel
theorem dX0_round_19 : decode cX0_round 19 = .ok (.getfield 33, 3) := by decide +kernel
theorem dX0_round_22 : decode cX0_round 22 = .ok (.ifCond .ne 4, 3) := by decide +kernel
theorem dX0_round_25 : decode cX0_round 25 = .ok (.return_, 1) := by decide +kernel
theorem dX0_round_26 : decode cX0_round 26 = .ok (.aload_n 0, 1) := by decide +kernel
theorem dX0_round_27 : decode cX0_round 27 = .ok (.invokevirtual 95, 3) := by decide +kernel
theorem dX0_round_30 : decode cX0_round 30 = .ok (.istore_n 1, 1) := by decide +kernel
theorem dX0_round_31 : decode cX0_round 31 = .ok (.aload_n 0, 1) := by decide +kernel
theorem dX0_round_32 : decode cX0_round 32 = .ok (.invokevirtual 98, 3) := by decide +kernel
theorem dX0_round_35 : decode cX0_round 35 = .ok (.istore_n 2, 1) := by decide +kernel
theorem dX0_round_36 : decode cX0_round 36 = .ok (.iconst 0, 1) := by decide +kernel
theorem dX0_round_37 : decode cX0_round 37 = .ok (.istore_n 3, 1) := by decide +kernel
theorem dX0_round_38 : decode cX0_round 38 = .ok (.iload_n 3, 1) := by decide +kernel
theorem dX0_round_39 : decode cX0_round 39 = .ok (.aload_n 0, 1) := by decide +kernel
theorem dX0_round_40 : decode cX0_round 40 = .ok (.getfield 33, 3) := by decide +kernel
theorem dX0_round_43 : decode cX0_round 43 = .ok (.if_icmp .ge 22, 3) := by decide +kernel
theorem dX0_round_46 : decode cX0_round 46 = .ok (.aload_n 0, 1) := by decide +kernel
theorem dX0_round_47 : decode cX0_round 47 = .ok (.getfield 27, 3) := by decide +kernel
theorem dX0_round_50 : decode cX0_round 50 = .ok (.iload_n 3, 1) := by decide +kernel
theorem dX0_round_51 : decode cX0_round 51 = .ok (.aload_n 0, 1) := by decide +kernel
theorem dX0_round_52 : decode cX0_round 52 = .ok (.iload_n 3, 1) := by decide +kernel
theorem dX0_round_53 : decode cX0_round 53 = .ok (.iload_n 1, 1) := by decide +kernel
theorem dX0_round_54 : decode cX0_round 54 = .ok (.iload_n 2, 1) := by decide +kernel
theorem dX0_round_55 : decode cX0_round 55 = .ok (.invokevirtual 101, 3) := by decide +kernel
theorem dX0_round_58 : decode cX0_round 58 = .ok (.iastore, 1) := by decide +kernel
theorem dX0_round_59 : decode cX0_round 59 = .ok (.iinc 3 1, 3) := by decide +kernel
theorem dX0_round_62 : decode cX0_round 62 = .ok (.goto (-24), 3) := by decide +kernel
theorem dX0_round_65 : decode cX0_round 65 = .ok (.aload_n 0, 1) := by decide +kernel
theorem dX0_round_66 : decode cX0_round 66 = .ok (.dup, 1) := by decide +kernel
theorem dX0_round_67 : decode cX0_round 67 = .ok (.getfield 52, 3) := by decide +kernel
theorem dX0_round_70 : decode cX0_round 70 = .ok (.iconst 1, 1) := by decide +kernel
theorem dX0_round_71 : decode cX0_round 71 = .ok (.iadd, 1) := by decide +kernel
theorem dX0_round_72 : decode cX0_round 72 = .ok (.putfield 52, 3) := by decide +kernel
theorem dX0_round_75 : decode cX0_round 75 = .ok (.aload_n 0, 1) := by decide +kernel
theorem dX0_round_76 : decode cX0_round 76 = .ok (.invokevirtual 105, 3) := by decide +kernel
theorem dX0_round_79 : decode cX0_round 79 = .ok (.aload_n 0, 1) := by decide +kernel
theorem dX0_round_80 : decode cX0_round 80 = .ok (.aload_n 0, 1) := by decide +kernel
theorem dX0_round_81 : decode cX0_round 81 = .ok (.invokevirtual 108, 3) := by decide +kernel
theorem dX0_round_84 : decode cX0_round 84 = .ok (.putfield 49, 3) := by decide +kernel
theorem dX0_round_87 : decode cX0_round 87 = .ok (.aload_n 0, 1) := by decide +kernel
theorem dX0_round_88 : decode cX0_round 88 = .ok (.aload_n 0, 1) := by decide +kernel
theorem dX0_round_89 : decode cX0_round 89 = .ok (.invokevirtual 111, 3) := by decide +kernel
theorem dX0_round_92 : decode cX0_round 92 = .ok (.putfield 61, 3) := by decide +kernel
theorem dX0_round_95 : decode cX0_round 95 = .ok (.aload_n 0, 1) := by decide +kernel
theorem dX0_round_96 : decode cX0_round 96 = .ok (.aload_n 0, 1) := by decide +kernel
theorem dX0_round_97 : decode cX0_round 97 = .ok (.invokevirtual 77, 3) := by decide +kernel
theorem dX0_round_100 : decode cX0_round 100 = .ok (.iconst 4, 1) := by decide +kernel
theorem dX0_round_101 : decode cX0_round 101 = .ok (.irem, 1) := by decide +kernel
theorem dX0_round_102 : decode cX0_round 102 = .ok (.putfield 46, 3) := by decide +kernel
theorem dX0_round_105 : decode cX0_round 105 = .ok (.aload_n 0, 1) := by decide +kernel
theorem dX0_round_106 : decode cX0_round 106 = .ok (.invokevirtual 114, 3) := by decide +kernel
theorem dX0_round_109 : decode cX0_round 109 = .ok (.return_, 1) := by decide +kernel
theorem dX0_tally_0 : decode cX0_tally 0 = .ok (.aload_n 0, 1) := by decide +kernel
theorem dX0_tally_1 : decode cX0_tally 1 = .ok (.getfield 30, 3) := by decide +kernel
theorem dX0_tally_4 : decode cX0_tally 4 = .ok (.iconst 0, 1) := by decide +kernel
theorem dX0_tally_5 : decode cX0_tally 5 = .ok (.invokestatic 86, 3) := by decide +kernel
theorem dX0_tally_8 : decode cX0_tally 8 = .ok (.iconst 0, 1) := by decide +kernel
theorem dX0_tally_9 : decode cX0_tally 9 = .ok (.istore_n 1, 1) := by decide +kernel
theorem dX0_tally_10 : decode cX0_tally 10 = .ok (.iload_n 1, 1) := by decide +kernel
theorem dX0_tally_11 : decode cX0_tally 11 = .ok (.aload_n 0, 1) := by decide +kernel
theorem dX0_tally_12 : decode cX0_tally 12 = .ok (.getfield 33, 3) := by decide +kernel
theorem dX0_tally_15 : decode cX0_tally 15 = .ok (.if_icmp .ge 45, 3) := by decide +kernel
theorem dX0_tally_18 : decode cX0_tally 18 = .ok (.aload_n 0, 1) := by decide +kernel
theorem dX0_tally_19 : decode cX0_tally 19 = .ok (.aload_n 0, 1) := by decide +kernel
theorem dX0_tally_20 : decode cX0_tally 20 = .ok (.getfield 27, 3) := by decide +kernel
theorem dX0_tally_23 : decode cX0_tally 23 = .ok (.iload_n 1, 1) := by decide +kernel
theorem dX0_tally_24 : decode cX0_tally 24 = .ok (.iaload, 1) := by decide +kernel
theorem dX0_tally_25 : decode cX0_tally 25 = .ok (.invokevirtual 117, 3) := by decide +kernel
theorem dX0_tally_28 : decode cX0_tally 28 = .ok (.ifCond .eq 26, 3) := by decide +kernel
theorem dX0_tally_31 : decode cX0_tally 31 = .ok (.aload_n 0, 1) := by decide +kernel
theorem dX0_tally_32 : decode cX0_tally 32 = .ok (.getfield 30, 3) := by decide +kernel
theorem dX0_tally_35 : decode cX0_tally 35 = .ok (.aload_n 0, 1) := by decide +kernel
theorem dX0_tally_36 : decode cX0_tally 36 = .ok (.getfield 27, 3) := by decide +kernel
theorem dX0_tally_39 : decode cX0_tally 39 = .ok (.iload_n 1, 1) := by decide +kernel
theorem dX0_tally_40 : decode cX0_tally 40 = .ok (.iaload, 1) := by decide +kernel
theorem dX0_tally_41 : decode cX0_tally 41 = .ok (.dup2, 1) := by decide +kernel
theorem dX0_tally_42 : decode cX0_tally 42 = .ok (.iaload, 1) := by decide +kernel
theorem dX0_tally_43 : decode cX0_tally 43 = .ok (.aload_n 0, 1) := by decide +kernel
theorem dX0_tally_44 : decode cX0_tally 44 = .ok (.getfield 9, 3) := by decide +kernel
theorem dX0_tally_47 : decode cX0_tally 47 = .ok (.iload_n 1, 1) := by decide +kernel
theorem dX0_tally_48 : decode cX0_tally 48 = .ok (.iaload, 1) := by decide +kernel
theorem dX0_tally_49 : decode cX0_tally 49 = .ok (.invokestatic 121, 3) := by decide +kernel
theorem dX0_tally_52 : decode cX0_tally 52 = .ok (.iadd, 1) := by decide +kernel
theorem dX0_tally_53 : decode cX0_tally 53 = .ok (.iastore, 1) := by decide +kernel
theorem dX0_tally_54 : decode cX0_tally 54 = .ok (.iinc 1 1, 3) := by decide +kernel
theorem dX0_tally_57 : decode cX0_tally 57 = .ok (.goto (-47), 3) := by decide +kernel
theorem dX0_tally_60 : decode cX0_tally 60 = .ok (.return_, 1) := by decide +kernel
theorem dX0_elected_0 : decode cX0_elected 0 = .ok (.aload_n 0, 1) := by decide +kernel
theorem dX0_elected_1 : decode cX0_elected 1 = .ok (.invokevirtual 125, 3) := by decide +kernel
theorem dX0_elected_4 : decode cX0_elected 4 = .ok (.istore_n 1, 1) := by decide +kernel
theorem dX0_elected_5 : decode cX0_elected 5 = .ok (.iconst 0, 1) := by decide +kernel
theorem dX0_elected_6 : decode cX0_elected 6 = .ok (.istore_n 2, 1) := by decide +kernel
theorem dX0_elected_7 : decode cX0_elected 7 = .ok (.iload_n 2, 1) := by decide +kernel
theorem dX0_elected_8 : decode cX0_elected 8 = .ok (.aload_n 0, 1) := by decide +kernel
theorem dX0_elected_9 : decode cX0_elected 9 = .ok (.getfield 33, 3) := by decide +kernel
theorem dX0_elected_12 : decode cX0_elected 12 = .ok (.if_icmp .ge 21, 3) := by decide +kernel
theorem dX0_elected_15 : decode cX0_elected 15 = .ok (.aload_n 0, 1) := by decide +kernel
theorem dX0_elected_16 : decode cX0_elected 16 = .ok (.getfield 30, 3) := by decide +kernel
theorem dX0_elected_19 : decode cX0_elected 19 = .ok (.iload_n 2, 1) := by decide +kernel
theorem dX0_elected_20 : decode cX0_elected 20 = .ok (.iaload, 1) := by decide +kernel
theorem dX0_elected_21 : decode cX0_elected 21 = .ok (.iload_n 1, 1) := by decide +kernel
theorem dX0_elected_22 : decode cX0_elected 22 = .ok (.if_icmp .lt 5, 3) := by decide +kernel
theorem dX0_elected_25 : decode cX0_elected 25 = .ok (.iload_n 2, 1) := by decide +kernel
theorem dX0_elected_26 : decode cX0_elected 26 = .ok (.ireturn, 1) := by decide +kernel
theorem dX0_elected_27 : decode cX0_elected 27 = .ok (.iinc 2 1, 3) := by decide +kernel
theorem dX0_elected_30 : decode cX0_elected 30 = .ok (.goto (-23), 3) := by decide +kernel
theorem dX0_elected_33 : decode cX0_elected 33 = .ok (.iconst (-1), 1) := by decide +kernel
theorem dX0_elected_34 : decode cX0_elected 34 = .ok (.ireturn, 1) := by decide +kernel
theorem dX0_wanted_0 : decode cX0_wanted 0 = .ok (.iconst 0, 1) := by decide +kernel
theorem dX0_wanted_1 : decode cX0_wanted 1 = .ok (.istore_n 1, 1) := by decide +kernel
theorem dX0_wanted_2 : decode cX0_wanted 2 = .ok (.iconst 0, 1) := by decide +kernel
theorem dX0_wanted_3 : decode cX0_wanted 3 = .ok (.istore_n 2, 1) := by decide +kernel
theorem dX0_wanted_4 : decode cX0_wanted 4 = .ok (.iload_n 2, 1) := by decide +kernel
theorem dX0_wanted_5 : decode cX0_wanted 5 = .ok (.aload_n 0, 1) := by decide +kernel
theorem dX0_wanted_6 : decode cX0_wanted 6 = .ok (.getfield 33, 3) := by decide +kernel
theorem dX0_wanted_9 : decode cX0_wanted 9 = .ok (.if_icmp .ge 21, 3) := by decide +kernel
theorem dX0_wanted_12 : decode cX0_wanted 12 = .ok (.iload_n 1, 1) := by decide +kernel
theorem dX0_wanted_13 : decode cX0_wanted 13 = .ok (.aload_n 0, 1) := by decide +kernel
theorem dX0_wanted_14 : decode cX0_wanted 14 = .ok (.getfield 9, 3) := by decide +kernel
theorem dX0_wanted_17 : decode cX0_wanted 17 = .ok (.iload_n 2, 1) := by decide +kernel
theorem dX0_wanted_18 : decode cX0_wanted 18 = .ok (.iaload, 1) := by decide +kernel
theorem dX0_wanted_19 : decode cX0_wanted 19 = .ok (.invokestatic 121, 3) := by decide +kernel
theorem dX0_wanted_22 : decode cX0_wanted 22 = .ok (.iadd, 1) := by decide +kernel
theorem dX0_wanted_23 : decode cX0_wanted 23 = .ok (.istore_n 1, 1) := by decide +kernel
theorem dX0_wanted_24 : decode cX0_wanted 24 = .ok (.iinc 2 1, 3) := by decide +kernel
theorem dX0_wanted_27 : decode cX0_wanted 27 = .ok (.goto (-23), 3) := by decide +kernel
theorem dX0_wanted_30 : decode cX0_wanted 30 = .ok (.iconst 2, 1) := by decide +kernel
theorem dX0_wanted_31 : decode cX0_wanted 31 = .ok (.iload_n 1, 1) := by decide +kernel
theorem dX0_wanted_32 : decode cX0_wanted 32 = .ok (.imul, 1) := by decide +kernel
theorem dX0_wanted_33 : decode cX0_wanted 33 = .ok (.iconst 2, 1) := by decide +kernel
theorem dX0_wanted_34 : decode cX0_wanted 34 = .ok (.iadd, 1) := by decide +kernel
theorem dX0_wanted_35 : decode cX0_wanted 35 = .ok (.iconst 3, 1) := by decide +kernel
theorem dX0_wanted_36 : decode cX0_wanted 36 = .ok (.idiv, 1) := by decide +kernel
theorem dX0_wanted_37 : decode cX0_wanted 37 = .ok (.ireturn, 1) := by decide +kernel
theorem dX0_smokeNow_0 : decode cX0_smokeNow 0 = .ok (.aload_n 0, 1) := by decide +kernel
theorem dX0_smokeNow_1 : decode cX0_smokeNow 1 = .ok (.getfield 49, 3) := by decide +kernel
theorem dX0_smokeNow_4 : decode cX0_smokeNow 4 = .ok (.iconst (-1), 1) := by decide +kernel
theorem dX0_smokeNow_5 : decode cX0_smokeNow 5 = .ok (.if_icmp .eq 5, 3) := by decide +kernel
theorem dX0_smokeNow_8 : decode cX0_smokeNow 8 = .ok (.iconst 0, 1) := by decide +kernel
theorem dX0_smokeNow_9 : decode cX0_smokeNow 9 = .ok (.ireturn, 1) := by decide +kernel
theorem dX0_smokeNow_10 : decode cX0_smokeNow 10 = .ok (.aload_n 0, 1) := by decide +kernel
theorem dX0_smokeNow_11 : decode cX0_smokeNow 11 = .ok (.getfield 37, 3) := by decide +kernel
theorem dX0_smokeNow_14 : decode cX0_smokeNow 14 = .ok (.aload_n 0, 1) := by decide +kernel
theorem dX0_smokeNow_15 : decode cX0_smokeNow 15 = .ok (.getfield 40, 3) := by decide +kernel
theorem dX0_smokeNow_18 : decode cX0_smokeNow 18 = .ok (.bipush 10, 2) := by decide +kernel
theorem dX0_smokeNow_20 : decode cX0_smokeNow 20 = .ok (.idiv, 1) := by decide +kernel
theorem dX0_smokeNow_21 : decode cX0_smokeNow 21 = .ok (.isub, 1) := by decide +kernel
theorem dX0_smokeNow_22 : decode cX0_smokeNow 22 = .ok (.istore_n 1, 1) := by decide +kernel
theorem dX0_smokeNow_23 : decode cX0_smokeNow 23 = .ok (.iconst 0, 1) := by decide +kernel
theorem dX0_smokeNow_24 : decode cX0_smokeNow 24 = .ok (.istore_n 2, 1) := by decide +kernel
theorem dX0_smokeNow_25 : decode cX0_smokeNow 25 = .ok (.iload_n 2, 1) := by decide +kernel
theorem dX0_smokeNow_26 : decode cX0_smokeNow 26 = .ok (.aload_n 0, 1) := by decide +kernel
theorem dX0_smokeNow_27 : decode cX0_smokeNow 27 = .ok (.getfield 33, 3) := by decide +kernel
theorem dX0_smokeNow_30 : decode cX0_smokeNow 30 = .ok (.if_icmp .ge 28, 3) := by decide +kernel
theorem dX0_smokeNow_33 : decode cX0_smokeNow 33 = .ok (.aload_n 0, 1) := by decide +kernel
theorem dX0_smokeNow_34 : decode cX0_smokeNow 34 = .ok (.getfield 27, 3) := by decide +kernel
theorem dX0_smokeNow_37 : decode cX0_smokeNow 37 = .ok (.iload_n 2, 1) := by decide +kernel
theorem dX0_smokeNow_38 : decode cX0_smokeNow 38 = .ok (.iaload, 1) := by decide +kernel
theorem dX0_smokeNow_39 : decode cX0_smokeNow 39 = .ok (.iconst (-1), 1) := by decide +kernel
theorem dX0_smokeNow_40 : decode cX0_smokeNow 40 = .ok (.if_icmp .eq 12, 3) := by decide +kernel
theorem dX0_smokeNow_43 : decode cX0_smokeNow 43 = .ok (.iload_n 1, 1) := by decide +kernel
theorem dX0_smokeNow_44 : decode cX0_smokeNow 44 = .ok (.aload_n 0, 1) := by decide +kernel
theorem dX0_smokeNow_45 : decode cX0_smokeNow 45 = .ok (.getfield 24, 3) := by decide +kernel
theorem dX0_smokeNow_48 : decode cX0_smokeNow 48 = .ok (.iload_n 2, 1) := by decide +kernel
theorem dX0_smokeNow_49 : decode cX0_smokeNow 49 = .ok (.iaload, 1) := by decide +kernel
theorem dX0_smokeNow_50 : decode cX0_smokeNow 50 = .ok (.iadd, 1) := by decide +kernel
theorem dX0_smokeNow_51 : decode cX0_smokeNow 51 = .ok (.istore_n 1, 1) := by decide +kernel
theorem dX0_smokeNow_52 : decode cX0_smokeNow 52 = .ok (.iinc 2 1, 3) := by decide +kernel
theorem dX0_smokeNow_55 : decode cX0_smokeNow 55 = .ok (.goto (-30), 3) := by decide +kernel
theorem dX0_smokeNow_58 : decode cX0_smokeNow 58 = .ok (.iload_n 1, 1) := by decide +kernel
theorem dX0_smokeNow_59 : decode cX0_smokeNow 59 = .ok (.bipush 10, 2) := by decide +kernel
theorem dX0_smokeNow_61 : decode cX0_smokeNow 61 = .ok (.if_icmp .ge 5, 3) := by decide +kernel
theorem dX0_smokeNow_64 : decode cX0_smokeNow 64 = .ok (.iconst 1, 1) := by decide +kernel
theorem dX0_smokeNow_65 : decode cX0_smokeNow 65 = .ok (.ireturn, 1) := by decide +kernel
theorem dX0_smokeNow_66 : decode cX0_smokeNow 66 = .ok (.iload_n 1, 1) := by decide +kernel
theorem dX0_smokeNow_67 : decode cX0_smokeNow 67 = .ok (.bipush 25, 2) := by decide +kernel
theorem dX0_smokeNow_69 : decode cX0_smokeNow 69 = .ok (.if_icmp .ge 7, 3) := by decide +kernel
theorem dX0_smokeNow_72 : decode cX0_smokeNow 72 = .ok (.iconst 2, 1) := by decide +kernel
theorem dX0_smokeNow_73 : decode cX0_smokeNow 73 = .ok (.goto 4, 3) := by decide +kernel
theorem dX0_smokeNow_76 : decode cX0_smokeNow 76 = .ok (.iconst 3, 1) := by decide +kernel
theorem dX0_smokeNow_77 : decode cX0_smokeNow 77 = .ok (.ireturn, 1) := by decide +kernel
theorem dX0_wetPapers_0 : decode cX0_wetPapers 0 = .ok (.iconst 0, 1) := by decide +kernel
theorem dX0_wetPapers_1 : decode cX0_wetPapers 1 = .ok (.istore_n 1, 1) := by decide +kernel
theorem dX0_wetPapers_2 : decode cX0_wetPapers 2 = .ok (.iload_n 1, 1) := by decide +kernel
theorem dX0_wetPapers_3 : decode cX0_wetPapers 3 = .ok (.aload_n 0, 1) := by decide +kernel
theorem dX0_wetPapers_4 : decode cX0_wetPapers 4 = .ok (.getfield 33, 3) := by decide +kernel
theorem dX0_wetPapers_7 : decode cX0_wetPapers 7 = .ok (.if_icmp .ge 32, 3) := by decide +kernel
theorem dX0_wetPapers_10 : decode cX0_wetPapers 10 = .ok (.aload_n 0, 1) := by decide +kernel
theorem dX0_wetPapers_11 : decode cX0_wetPapers 11 = .ok (.getfield 27, 3) := by decide +kernel
theorem dX0_wetPapers_14 : decode cX0_wetPapers 14 = .ok (.iload_n 1, 1) := by decide +kernel
theorem dX0_wetPapers_15 : decode cX0_wetPapers 15 = .ok (.iaload, 1) := by decide +kernel
theorem dX0_wetPapers_16 : decode cX0_wetPapers 16 = .ok (.iconst (-1), 1) := by decide +kernel
theorem dX0_wetPapers_17 : decode cX0_wetPapers 17 = .ok (.if_icmp .eq 16, 3) := by decide +kernel
theorem dX0_wetPapers_20 : decode cX0_wetPapers 20 = .ok (.aload_n 0, 1) := by decide +kernel
theorem dX0_wetPapers_21 : decode cX0_wetPapers 21 = .ok (.getfield 24, 3) := by decide +kernel
theorem dX0_wetPapers_24 : decode cX0_wetPapers 24 = .ok (.iload_n 1, 1) := by decide +kernel
theorem dX0_wetPapers_25 : decode cX0_wetPapers 25 = .ok (.aload_n 0, 1) := by decide +kernel
theorem dX0_wetPapers_26 : decode cX0_wetPapers 26 = .ok (.invokevirtual 77, 3) := by decide +kernel
theorem dX0_wetPapers_29 : decode cX0_wetPapers 29 = .ok (.bipush 10, 2) := by decide +kernel
theorem dX0_wetPapers_31 : decode cX0_wetPapers 31 = .ok (.irem, 1) := by decide +kernel
theorem dX0_wetPapers_32 : decode cX0_wetPapers 32 = .ok (.iastore, 1) := by decide +kernel
theorem dX0_wetPapers_33 : decode cX0_wetPapers 33 = .ok (.iinc 1 1, 3) := by decide +kernel
theorem dX0_wetPapers_36 : decode cX0_wetPapers 36 = .ok (.goto (-34), 3) := by decide +kernel
theorem dX0_wetPapers_39 : decode cX0_wetPapers 39 = .ok (.return_, 1) := by decide +kernel
theorem dX0_leader_0 : decode cX0_leader 0 = .ok (.aload_n 0, 1) := by decide +kernel
theorem dX0_leader_1 : decode cX0_leader 1 = .ok (.iconst 1, 1) := by decide +kernel
theorem dX0_leader_2 : decode cX0_leader 2 = .ok (.aload_n 0, 1) := by decide +kernel
theorem dX0_leader_3 : decode cX0_leader 3 = .ok (.getfield 33, 3) := by decide +kernel
theorem dX0_leader_6 : decode cX0_leader 6 = .ok (.ishl, 1) := by decide +kernel
theorem dX0_leader_7 : decode cX0_leader 7 = .ok (.iconst 1, 1) := by decide +kernel
theorem dX0_leader_8 : decode cX0_leader 8 = .ok (.isub, 1) := by decide +kernel
theorem dX0_leader_9 : decode cX0_leader 9 = .ok (.invokevirtual 128, 3) := by decide +kernel
theorem dX0_leader_12 : decode cX0_leader 12 = .ok (.ireturn, 1) := by decide +kernel
theorem dX0_mostVotes_0 : decode cX0_mostVotes 0 = .ok (.aload_n 0, 1) := by decide +kernel
theorem dX0_mostVotes_1 : decode cX0_mostVotes 1 = .ok (.invokevirtual 98, 3) := by decide +kernel
theorem dX0_mostVotes_4 : decode cX0_mostVotes 4 = .ok (.istore_n 1, 1) := by decide +kernel
theorem dX0_mostVotes_5 : decode cX0_mostVotes 5 = .ok (.aload_n 0, 1) := by decide +kernel
theorem dX0_mostVotes_6 : decode cX0_mostVotes 6 = .ok (.iload_n 1, 1) := by decide +kernel
theorem dX0_mostVotes_7 : decode cX0_mostVotes 7 = .ok (.invokevirtual 117, 3) := by decide +kernel
theorem dX0_mostVotes_10 : decode cX0_mostVotes 10 = .ok (.ifCond .eq 12, 3) := by decide +kernel
theorem dX0_mostVotes_13 : decode cX0_mostVotes 13 = .ok (.aload_n 0, 1) := by decide +kernel
theorem dX0_mostVotes_14 : decode cX0_mostVotes 14 = .ok (.getfield 30, 3) := by decide +kernel
theorem dX0_mostVotes_17 : decode cX0_mostVotes 17 = .ok (.iload_n 1, 1) := by decide +kernel
theorem dX0_mostVotes_18 : decode cX0_mostVotes 18 = .ok (.iaload, 1) := by decide +kernel
theorem dX0_mostVotes_19 : decode cX0_mostVotes 19 = .ok (.goto 4, 3) := by decide +kernel
theorem dX0_mostVotes_22 : decode cX0_mostVotes 22 = .ok (.iconst 0, 1) := by decide +kernel
theorem dX0_mostVotes_23 : decode cX0_mostVotes 23 = .ok (.ireturn, 1) := by decide +kernel
theorem dX0_runners_0 : decode cX0_runners 0 = .ok (.iconst 1, 1) := by decide +kernel
theorem dX0_runners_1 : decode cX0_runners 1 = .ok (.aload_n 0, 1) := by decide +kernel
theorem dX0_runners_2 : decode cX0_runners 2 = .ok (.getfield 33, 3) := by decide +kernel
theorem dX0_runners_5 : decode cX0_runners 5 = .ok (.ishl, 1) := by decide +kernel
theorem dX0_runners_6 : decode cX0_runners 6 = .ok (.iconst 1, 1) := by decide +kernel
theorem dX0_runners_7 : decode cX0_runners 7 = .ok (.isub, 1) := by decide +kernel
theorem dX0_runners_8 : decode cX0_runners 8 = .ok (.istore_n 1, 1) := by decide +kernel
theorem dX0_runners_9 : decode cX0_runners 9 = .ok (.aload_n 0, 1) := by decide +kernel
theorem dX0_runners_10 : decode cX0_runners 10 = .ok (.iload_n 1, 1) := by decide +kernel
theorem dX0_runners_11 : decode cX0_runners 11 = .ok (.invokevirtual 128, 3) := by decide +kernel
theorem dX0_runners_14 : decode cX0_runners 14 = .ok (.istore_n 2, 1) := by decide +kernel
theorem dX0_runners_15 : decode cX0_runners 15 = .ok (.aload_n 0, 1) := by decide +kernel
theorem dX0_runners_16 : decode cX0_runners 16 = .ok (.getfield 52, 3) := by decide +kernel
theorem dX0_runners_19 : decode cX0_runners 19 = .ok (.aload_n 0, 1) := by decide +kernel
theorem dX0_runners_20 : decode cX0_runners 20 = .ok (.getfield 43, 3) := by decide +kernel
theorem dX0_runners_23 : decode cX0_runners 23 = .ok (.if_icmp .lt 20, 3) := by decide +kernel
theorem dX0_runners_26 : decode cX0_runners 26 = .ok (.aload_n 0, 1) := by decide +kernel
theorem dX0_runners_27 : decode cX0_runners 27 = .ok (.iload_n 2, 1) := by decide +kernel
theorem dX0_runners_28 : decode cX0_runners 28 = .ok (.invokevirtual 117, 3) := by decide +kernel
theorem dX0_runners_31 : decode cX0_runners 31 = .ok (.ifCond .eq 12, 3) := by decide +kernel
theorem dX0_runners_34 : decode cX0_runners 34 = .ok (.aload_n 0, 1) := by decide +kernel
theorem dX0_runners_35 : decode cX0_runners 35 = .ok (.getfield 30, 3) := by decide +kernel
theorem dX0_runners_38 : decode cX0_runners 38 = .ok (.iload_n 2, 1) := by decide +kernel
theorem dX0_runners_39 : decode cX0_runners 39 = .ok (.iaload, 1) := by decide +kernel
theorem dX0_runners_40 : decode cX0_runners 40 = .ok (.ifCond .ne 5, 3) := by decide +kernel
theorem dX0_runners_43 : decode cX0_runners 43 = .ok (.iload_n 1, 1) := by decide +kernel
theorem dX0_runners_44 : decode cX0_runners 44 = .ok (.ireturn, 1) := by decide +kernel
theorem dX0_runners_45 : decode cX0_runners 45 = .ok (.aload_n 0, 1) := by decide +kernel
theorem dX0_runners_46 : decode cX0_runners 46 = .ok (.iload_n 1, 1) := by decide +kernel
theorem dX0_runners_47 : decode cX0_runners 47 = .ok (.iconst 1, 1) := by decide +kernel
theorem dX0_runners_48 : decode cX0_runners 48 = .ok (.iload_n 2, 1) := by decide +kernel
theorem dX0_runners_49 : decode cX0_runners 49 = .ok (.ishl, 1) := by decide +kernel
theorem dX0_runners_50 : decode cX0_runners 50 = .ok (.iconst (-1), 1) := by decide +kernel
theorem dX0_runners_51 : decode cX0_runners 51 = .ok (.ixor, 1) := by decide +kernel
theorem dX0_runners_52 : decode cX0_runners 52 = .ok (.iand, 1) := by decide +kernel
theorem dX0_runners_53 : decode cX0_runners 53 = .ok (.invokevirtual 128, 3) := by decide +kernel
theorem dX0_runners_56 : decode cX0_runners 56 = .ok (.istore_n 3, 1) := by decide +kernel
theorem dX0_runners_57 : decode cX0_runners 57 = .ok (.aload_n 0, 1) := by decide +kernel
theorem dX0_runners_58 : decode cX0_runners 58 = .ok (.iload_n 3, 1) := by decide +kernel
theorem dX0_runners_59 : decode cX0_runners 59 = .ok (.invokevirtual 117, 3) := by decide +kernel
theorem dX0_runners_62 : decode cX0_runners 62 = .ok (.ifCond .eq 12, 3) := by decide +kernel
theorem dX0_runners_65 : decode cX0_runners 65 = .ok (.aload_n 0, 1) := by decide +kernel
theorem dX0_runners_66 : decode cX0_runners 66 = .ok (.getfield 30, 3) := by decide +kernel
theorem dX0_runners_69 : decode cX0_runners 69 = .ok (.iload_n 3, 1) := by decide +kernel
theorem dX0_runners_70 : decode cX0_runners 70 = .ok (.iaload, 1) := by decide +kernel
theorem dX0_runners_71 : decode cX0_runners 71 = .ok (.ifCond .ne 7, 3) := by decide +kernel
theorem dX0_runners_74 : decode cX0_runners 74 = .ok (.iconst 1, 1) := by decide +kernel
theorem dX0_runners_75 : decode cX0_runners 75 = .ok (.iload_n 2, 1) := by decide +kernel
theorem dX0_runners_76 : decode cX0_runners 76 = .ok (.ishl, 1) := by decide +kernel
theorem dX0_runners_77 : decode cX0_runners 77 = .ok (.ireturn, 1) := by decide +kernel
theorem dX0_runners_78 : decode cX0_runners 78 = .ok (.iconst 1, 1) := by decide +kernel
theorem dX0_runners_79 : decode cX0_runners 79 = .ok (.iload_n 2, 1) := by decide +kernel
theorem dX0_runners_80 : decode cX0_runners 80 = .ok (.ishl, 1) := by decide +kernel
theorem dX0_runners_81 : decode cX0_runners 81 = .ok (.iconst 1, 1) := by decide +kernel
theorem dX0_runners_82 : decode cX0_runners 82 = .ok (.iload_n 3, 1) := by decide +kernel
theorem dX0_runners_83 : decode cX0_runners 83 = .ok (.ishl, 1) := by decide +kernel
theorem dX0_runners_84 : decode cX0_runners 84 = .ok (.ior, 1) := by decide +kernel
theorem dX0_runners_85 : decode cX0_runners 85 = .ok (.ireturn, 1) := by decide +kernel
theorem dX0_mostAmong_0 : decode cX0_mostAmong 0 = .ok (.iconst (-1), 1) := by decide +kernel
theorem dX0_mostAmong_1 : decode cX0_mostAmong 1 = .ok (.istore_n 2, 1) := by decide +kernel
theorem dX0_mostAmong_2 : decode cX0_mostAmong 2 = .ok (.iconst (-1), 1) := by decide +kernel
theorem dX0_mostAmong_3 : decode cX0_mostAmong 3 = .ok (.istore_n 3, 1) := by decide +kernel
theorem dX0_mostAmong_4 : decode cX0_mostAmong 4 = .ok (.iconst 0, 1) := by decide +kernel
theorem dX0_mostAmong_5 : decode cX0_mostAmong 5 = .ok (.istore 4, 2) := by decide +kernel
theorem dX0_mostAmong_7 : decode cX0_mostAmong 7 = .ok (.iload 4, 2) := by decide +kernel
theorem dX0_mostAmong_9 : decode cX0_mostAmong 9 = .ok (.aload_n 0, 1) := by decide +kernel
theorem dX0_mostAmong_10 : decode cX0_mostAmong 10 = .ok (.getfield 33, 3) := by decide +kernel
theorem dX0_mostAmong_13 : decode cX0_mostAmong 13 = .ok (.if_icmp .ge 41, 3) := by decide +kernel
theorem dX0_mostAmong_16 : decode cX0_mostAmong 16 = .ok (.iload_n 1, 1) := by decide +kernel
theorem dX0_mostAmong_17 : decode cX0_mostAmong 17 = .ok (.iload 4, 2) := by decide +kernel
theorem dX0_mostAmong_19 : decode cX0_mostAmong 19 = .ok (.ishr, 1) := by decide +kernel
theorem dX0_mostAmong_20 : decode cX0_mostAmong 20 = .ok (.iconst 1, 1) := by decide +kernel
theorem dX0_mostAmong_21 : decode cX0_mostAmong 21 = .ok (.iand, 1) := by decide +kernel
theorem dX0_mostAmong_22 : decode cX0_mostAmong 22 = .ok (.iconst 1, 1) := by decide +kernel
theorem dX0_mostAmong_23 : decode cX0_mostAmong 23 = .ok (.if_icmp .ne 25, 3) := by decide +kernel
theorem dX0_mostAmong_26 : decode cX0_mostAmong 26 = .ok (.aload_n 0, 1) := by decide +kernel
theorem dX0_mostAmong_27 : decode cX0_mostAmong 27 = .ok (.getfield 30, 3) := by decide +kernel
theorem dX0_mostAmong_30 : decode cX0_mostAmong 30 = .ok (.iload 4, 2) := by decide +kernel
theorem dX0_mostAmong_32 : decode cX0_mostAmong 32 = .ok (.iaload, 1) := by decide +kernel
theorem dX0_mostAmong_33 : decode cX0_mostAmong 33 = .ok (.iload_n 3, 1) := by decide +kernel
theorem dX0_mostAmong_34 : decode cX0_mostAmong 34 = .ok (.if_icmp .le 14, 3) := by decide +kernel
theorem dX0_mostAmong_37 : decode cX0_mostAmong 37 = .ok (.iload 4, 2) := by decide +kernel
theorem dX0_mostAmong_39 : decode cX0_mostAmong 39 = .ok (.istore_n 2, 1) := by decide +kernel
theorem dX0_mostAmong_40 : decode cX0_mostAmong 40 = .ok (.aload_n 0, 1) := by decide +kernel
theorem dX0_mostAmong_41 : decode cX0_mostAmong 41 = .ok (.getfield 30, 3) := by decide +kernel
theorem dX0_mostAmong_44 : decode cX0_mostAmong 44 = .ok (.iload 4, 2) := by decide +kernel
theorem dX0_mostAmong_46 : decode cX0_mostAmong 46 = .ok (.iaload, 1) := by decide +kernel
theorem dX0_mostAmong_47 : decode cX0_mostAmong 47 = .ok (.istore_n 3, 1) := by decide +kernel
theorem dX0_mostAmong_48 : decode cX0_mostAmong 48 = .ok (.iinc 4 1, 3) := by decide +kernel
theorem dX0_mostAmong_51 : decode cX0_mostAmong 51 = .ok (.goto (-44), 3) := by decide +kernel
theorem dX0_mostAmong_54 : decode cX0_mostAmong 54 = .ok (.iload_n 2, 1) := by decide +kernel
theorem dX0_mostAmong_55 : decode cX0_mostAmong 55 = .ok (.ireturn, 1) := by decide +kernel
theorem dX0_choice_0 : decode cX0_choice 0 = .ok (.aload_n 0, 1) := by decide +kernel
theorem dX0_choice_1 : decode cX0_choice 1 = .ok (.getfield 9, 3) := by decide +kernel
theorem dX0_choice_4 : decode cX0_choice 4 = .ok (.iload_n 1, 1) := by decide +kernel
theorem dX0_choice_5 : decode cX0_choice 5 = .ok (.iaload, 1) := by decide +kernel
theorem dX0_choice_6 : decode cX0_choice 6 = .ok (.tableswitch 111 1 4 #[30, 82, 38, 90], 30) := by decide +kernel
theorem dX0_choice_36 : decode cX0_choice 36 = .ok (.aload_n 0, 1) := by decide +kernel
theorem dX0_choice_37 : decode cX0_choice 37 = .ok (.iload_n 1, 1) := by decide +kernel
theorem dX0_choice_38 : decode cX0_choice 38 = .ok (.iload_n 2, 1) := by decide +kernel
theorem dX0_choice_39 : decode cX0_choice 39 = .ok (.iload_n 3, 1) := by decide +kernel
theorem dX0_choice_40 : decode cX0_choice 40 = .ok (.invokevirtual 131, 3) := by decide +kernel
theorem dX0_choice_43 : decode cX0_choice 43 = .ok (.ireturn, 1) := by decide +kernel
theorem dX0_choice_44 : decode cX0_choice 44 = .ok (.iload_n 2, 1) := by decide +kernel
theorem dX0_choice_45 : decode cX0_choice 45 = .ok (.iload_n 1, 1) := by decide +kernel
theorem dX0_choice_46 : decode cX0_choice 46 = .ok (.ishr, 1) := by decide +kernel
theorem dX0_choice_47 : decode cX0_choice 47 = .ok (.iconst 1, 1) := by decide +kernel
theorem dX0_choice_48 : decode cX0_choice 48 = .ok (.iand, 1) := by decide +kernel
theorem dX0_choice_49 : decode cX0_choice 49 = .ok (.iconst 1, 1) := by decide +kernel
theorem dX0_choice_50 : decode cX0_choice 50 = .ok (.if_icmp .ne 18, 3) := by decide +kernel
theorem dX0_choice_53 : decode cX0_choice 53 = .ok (.aload_n 0, 1) := by decide +kernel
theorem dX0_choice_54 : decode cX0_choice 54 = .ok (.getfield 21, 3) := by decide +kernel
theorem dX0_choice_57 : decode cX0_choice 57 = .ok (.iload_n 1, 1) := by decide +kernel
theorem dX0_choice_58 : decode cX0_choice 58 = .ok (.iaload, 1) := by decide +kernel
theorem dX0_choice_59 : decode cX0_choice 59 = .ok (.bipush 50, 2) := by decide +kernel
theorem dX0_choice_61 : decode cX0_choice 61 = .ok (.if_icmp .lt 7, 3) := by decide +kernel
theorem dX0_choice_64 : decode cX0_choice 64 = .ok (.iconst 1, 1) := by decide +kernel
theorem dX0_choice_65 : decode cX0_choice 65 = .ok (.goto 4, 3) := by decide +kernel
theorem dX0_choice_68 : decode cX0_choice 68 = .ok (.iconst 0, 1) := by decide +kernel
theorem dX0_choice_69 : decode cX0_choice 69 = .ok (.istore 4, 2) := by decide +kernel
theorem dX0_choice_71 : decode cX0_choice 71 = .ok (.iload 4, 2) := by decide +kernel
theorem dX0_choice_73 : decode cX0_choice 73 = .ok (.ifCond .eq 7, 3) := by decide +kernel
theorem dX0_choice_76 : decode cX0_choice 76 = .ok (.iload_n 1, 1) := by decide +kernel
theorem dX0_choice_77 : decode cX0_choice 77 = .ok (.goto 10, 3) := by decide +kernel
theorem dX0_choice_80 : decode cX0_choice 80 = .ok (.aload_n 0, 1) := by decide +kernel
theorem dX0_choice_81 : decode cX0_choice 81 = .ok (.iload_n 1, 1) := by decide +kernel
theorem dX0_choice_82 : decode cX0_choice 82 = .ok (.iload_n 2, 1) := by decide +kernel
theorem dX0_choice_83 : decode cX0_choice 83 = .ok (.iload_n 3, 1) := by decide +kernel
theorem dX0_choice_84 : decode cX0_choice 84 = .ok (.invokevirtual 131, 3) := by decide +kernel
theorem dX0_choice_87 : decode cX0_choice 87 = .ok (.ireturn, 1) := by decide +kernel
theorem dX0_choice_88 : decode cX0_choice 88 = .ok (.aload_n 0, 1) := by decide +kernel
theorem dX0_choice_89 : decode cX0_choice 89 = .ok (.iload_n 1, 1) := by decide +kernel
theorem dX0_choice_90 : decode cX0_choice 90 = .ok (.iload_n 2, 1) := by decide +kernel
theorem dX0_choice_91 : decode cX0_choice 91 = .ok (.iload_n 3, 1) := by decide +kernel
theorem dX0_choice_92 : decode cX0_choice 92 = .ok (.invokevirtual 134, 3) := by decide +kernel
theorem dX0_choice_95 : decode cX0_choice 95 = .ok (.ireturn, 1) := by decide +kernel
theorem dX0_choice_96 : decode cX0_choice 96 = .ok (.aload_n 0, 1) := by decide +kernel
theorem dX0_choice_97 : decode cX0_choice 97 = .ok (.getfield 52, 3) := by decide +kernel
theorem dX0_choice_100 : decode cX0_choice 100 = .ok (.iconst 2, 1) := by decide +kernel
theorem dX0_choice_101 : decode cX0_choice 101 = .ok (.irem, 1) := by decide +kernel
theorem dX0_choice_102 : decode cX0_choice 102 = .ok (.ifCond .eq 7, 3) := by decide +kernel
theorem dX0_choice_105 : decode cX0_choice 105 = .ok (.iconst (-1), 1) := by decide +kernel
theorem dX0_choice_106 : decode cX0_choice 106 = .ok (.goto 10, 3) := by decide +kernel
theorem dX0_choice_109 : decode cX0_choice 109 = .ok (.aload_n 0, 1) := by decide +kernel
theorem dX0_choice_110 : decode cX0_choice 110 = .ok (.iload_n 1, 1) := by decide +kernel
theorem dX0_choice_111 : decode cX0_choice 111 = .ok (.iload_n 2, 1) := by decide +kernel
theorem dX0_choice_112 : decode cX0_choice 112 = .ok (.iload_n 3, 1) := by decide +kernel
theorem dX0_choice_113 : decode cX0_choice 113 = .ok (.invokevirtual 134, 3) := by decide +kernel
theorem dX0_choice_116 : decode cX0_choice 116 = .ok (.ireturn, 1) := by decide +kernel
theorem dX0_choice_117 : decode cX0_choice 117 = .ok (.aload_n 0, 1) := by decide +kernel
theorem dX0_choice_118 : decode cX0_choice 118 = .ok (.iload_n 1, 1) := by decide +kernel
theorem dX0_choice_119 : decode cX0_choice 119 = .ok (.iload_n 2, 1) := by decide +kernel
theorem dX0_choice_120 : decode cX0_choice 120 = .ok (.iload_n 3, 1) := by decide +kernel
theorem dX0_choice_121 : decode cX0_choice 121 = .ok (.invokevirtual 137, 3) := by decide +kernel
theorem dX0_choice_124 : decode cX0_choice 124 = .ok (.ireturn, 1) := by decide +kernel
theorem dX0_choiceOfPlain_0 : decode cX0_choiceOfPlain 0 = .ok (.iload_n 2, 1) := by decide +kernel
theorem dX0_choiceOfPlain_1 : decode cX0_choiceOfPlain 1 = .ok (.aload_n 0, 1) := by decide +kernel
theorem dX0_choiceOfPlain_2 : decode cX0_choiceOfPlain 2 = .ok (.getfield 15, 3) := by decide +kernel
theorem dX0_choiceOfPlain_5 : decode cX0_choiceOfPlain 5 = .ok (.iload_n 1, 1) := by decide +kernel
theorem dX0_choiceOfPlain_6 : decode cX0_choiceOfPlain 6 = .ok (.iaload, 1) := by decide +kernel
theorem dX0_choiceOfPlain_7 : decode cX0_choiceOfPlain 7 = .ok (.ishr, 1) := by decide +kernel
theorem dX0_choiceOfPlain_8 : decode cX0_choiceOfPlain 8 = .ok (.iconst 1, 1) := by decide +kernel
theorem dX0_choiceOfPlain_9 : decode cX0_choiceOfPlain 9 = .ok (.iand, 1) := by decide +kernel
theorem dX0_choiceOfPlain_10 : decode cX0_choiceOfPlain 10 = .ok (.iconst 1, 1) := by decide +kernel
theorem dX0_choiceOfPlain_11 : decode cX0_choiceOfPlain 11 = .ok (.if_icmp .ne 12, 3) := by decide +kernel
theorem dX0_choiceOfPlain_14 : decode cX0_choiceOfPlain 14 = .ok (.aload_n 0, 1) := by decide +kernel
theorem dX0_choiceOfPlain_15 : decode cX0_choiceOfPlain 15 = .ok (.getfield 15, 3) := by decide +kernel
theorem dX0_choiceOfPlain_18 : decode cX0_choiceOfPlain 18 = .ok (.iload_n 1, 1) := by decide +kernel
theorem dX0_choiceOfPlain_19 : decode cX0_choiceOfPlain 19 = .ok (.iaload, 1) := by decide +kernel
theorem dX0_choiceOfPlain_20 : decode cX0_choiceOfPlain 20 = .ok (.goto 4, 3) := by decide +kernel
theorem dX0_choiceOfPlain_23 : decode cX0_choiceOfPlain 23 = .ok (.iload_n 3, 1) := by decide +kernel
theorem dX0_choiceOfPlain_24 : decode cX0_choiceOfPlain 24 = .ok (.ireturn, 1) := by decide +kernel
theorem dX0_choiceOfLoyal_0 : decode cX0_choiceOfLoyal 0 = .ok (.iconst 0, 1) := by decide +kernel
theorem dX0_choiceOfLoyal_1 : decode cX0_choiceOfLoyal 1 = .ok (.istore 4, 2) := by decide +kernel
theorem dX0_choiceOfLoyal_3 : decode cX0_choiceOfLoyal 3 = .ok (.iconst 0, 1) := by decide +kernel
theorem dX0_choiceOfLoyal_4 : decode cX0_choiceOfLoyal 4 = .ok (.istore 5, 2) := by decide +kernel
theorem dX0_choiceOfLoyal_6 : decode cX0_choiceOfLoyal 6 = .ok (.iload 5, 2) := by decide +kernel
theorem dX0_choiceOfLoyal_8 : decode cX0_choiceOfLoyal 8 = .ok (.aload_n 0, 1) := by decide +kernel
theorem dX0_choiceOfLoyal_9 : decode cX0_choiceOfLoyal 9 = .ok (.getfield 33, 3) := by decide +kernel
theorem dX0_choiceOfLoyal_12 : decode cX0_choiceOfLoyal 12 = .ok (.if_icmp .ge 34, 3) := by decide +kernel
theorem dX0_choiceOfLoyal_15 : decode cX0_choiceOfLoyal 15 = .ok (.aload_n 0, 1) := by decide +kernel
theorem dX0_choiceOfLoyal_16 : decode cX0_choiceOfLoyal 16 = .ok (.getfield 18, 3) := by decide +kernel
theorem dX0_choiceOfLoyal_19 : decode cX0_choiceOfLoyal 19 = .ok (.iload 5, 2) := by decide +kernel
theorem dX0_choiceOfLoyal_21 : decode cX0_choiceOfLoyal 21 = .ok (.iaload, 1) := by decide +kernel
theorem dX0_choiceOfLoyal_22 : decode cX0_choiceOfLoyal 22 = .ok (.aload_n 0, 1) := by decide +kernel
theorem dX0_choiceOfLoyal_23 : decode cX0_choiceOfLoyal 23 = .ok (.getfield 18, 3) := by decide +kernel
theorem dX0_choiceOfLoyal_26 : decode cX0_choiceOfLoyal 26 = .ok (.iload_n 1, 1) := by decide +kernel
theorem dX0_choiceOfLoyal_27 : decode cX0_choiceOfLoyal 27 = .ok (.iaload, 1) := by decide +kernel
theorem dX0_choiceOfLoyal_28 : decode cX0_choiceOfLoyal 28 = .ok (.if_icmp .ne 12, 3) := by decide +kernel
theorem dX0_choiceOfLoyal_31 : decode cX0_choiceOfLoyal 31 = .ok (.iload 4, 2) := by decide +kernel
theorem dX0_choiceOfLoyal_33 : decode cX0_choiceOfLoyal 33 = .ok (.iconst 1, 1) := by decide +kernel
theorem dX0_choiceOfLoyal_34 : decode cX0_choiceOfLoyal 34 = .ok (.iload 5, 2) := by decide +kernel
theorem dX0_choiceOfLoyal_36 : decode cX0_choiceOfLoyal 36 = .ok (.ishl, 1) := by decide +kernel
theorem dX0_choiceOfLoyal_37 : decode cX0_choiceOfLoyal 37 = .ok (.ior, 1) := by decide +kernel
theorem dX0_choiceOfLoyal_38 : decode cX0_choiceOfLoyal 38 = .ok (.istore 4, 2) := by decide +kernel
theorem dX0_choiceOfLoyal_40 : decode cX0_choiceOfLoyal 40 = .ok (.iinc 5 1, 3) := by decide +kernel
theorem dX0_choiceOfLoyal_43 : decode cX0_choiceOfLoyal 43 = .ok (.goto (-37), 3) := by decide +kernel
theorem dX0_choiceOfLoyal_46 : decode cX0_choiceOfLoyal 46 = .ok (.aload_n 0, 1) := by decide +kernel
theorem dX0_choiceOfLoyal_47 : decode cX0_choiceOfLoyal 47 = .ok (.iload_n 2, 1) := by decide +kernel
theorem dX0_choiceOfLoyal_48 : decode cX0_choiceOfLoyal 48 = .ok (.iload 4, 2) := by decide +kernel
theorem dX0_choiceOfLoyal_50 : decode cX0_choiceOfLoyal 50 = .ok (.iand, 1) := by decide +kernel
theorem dX0_choiceOfLoyal_51 : decode cX0_choiceOfLoyal 51 = .ok (.invokevirtual 128, 3) := by decide +kernel
theorem dX0_choiceOfLoyal_54 : decode cX0_choiceOfLoyal 54 = .ok (.istore 5, 2) := by decide +kernel
theorem dX0_choiceOfLoyal_56 : decode cX0_choiceOfLoyal 56 = .ok (.iload 5, 2) := by decide +kernel
theorem dX0_choiceOfLoyal_58 : decode cX0_choiceOfLoyal 58 = .ok (.iconst (-1), 1) := by decide +kernel
theorem dX0_choiceOfLoyal_59 : decode cX0_choiceOfLoyal 59 = .ok (.if_icmp .ne 13, 3) := by decide +kernel
theorem dX0_choiceOfLoyal_62 : decode cX0_choiceOfLoyal 62 = .ok (.aload_n 0, 1) := by decide +kernel
theorem dX0_choiceOfLoyal_63 : decode cX0_choiceOfLoyal 63 = .ok (.iload_n 1, 1) := by decide +kernel
theorem dX0_choiceOfLoyal_64 : decode cX0_choiceOfLoyal 64 = .ok (.iload_n 2, 1) := by decide +kernel
theorem dX0_choiceOfLoyal_65 : decode cX0_choiceOfLoyal 65 = .ok (.iload_n 3, 1) := by decide +kernel
theorem dX0_choiceOfLoyal_66 : decode cX0_choiceOfLoyal 66 = .ok (.invokevirtual 137, 3) := by decide +kernel
theorem dX0_choiceOfLoyal_69 : decode cX0_choiceOfLoyal 69 = .ok (.goto 5, 3) := by decide +kernel
theorem dX0_choiceOfLoyal_72 : decode cX0_choiceOfLoyal 72 = .ok (.iload 5, 2) := by decide +kernel
theorem dX0_choiceOfLoyal_74 : decode cX0_choiceOfLoyal 74 = .ok (.ireturn, 1) := by decide +kernel
theorem dX0_choiceOfSwayed_0 : decode cX0_choiceOfSwayed 0 = .ok (.aload_n 0, 1) := by decide +kernel
theorem dX0_choiceOfSwayed_1 : decode cX0_choiceOfSwayed 1 = .ok (.getfield 67, 3) := by decide +kernel
theorem dX0_choiceOfSwayed_4 : decode cX0_choiceOfSwayed 4 = .ok (.iconst 0, 1) := by decide +kernel
theorem dX0_choiceOfSwayed_5 : decode cX0_choiceOfSwayed 5 = .ok (.aload_n 0, 1) := by decide +kernel
theorem dX0_choiceOfSwayed_6 : decode cX0_choiceOfSwayed 6 = .ok (.getfield 64, 3) := by decide +kernel
theorem dX0_choiceOfSwayed_9 : decode cX0_choiceOfSwayed 9 = .ok (.invokevirtual 140, 3) := by decide +kernel
theorem dX0_choiceOfSwayed_12 : decode cX0_choiceOfSwayed 12 = .ok (.istore 4, 2) := by decide +kernel
theorem dX0_choiceOfSwayed_14 : decode cX0_choiceOfSwayed 14 = .ok (.iload 4, 2) := by decide +kernel
theorem dX0_choiceOfSwayed_16 : decode cX0_choiceOfSwayed 16 = .ok (.ifCond .ge 15, 3) := by decide +kernel
theorem dX0_choiceOfSwayed_19 : decode cX0_choiceOfSwayed 19 = .ok (.aload_n 0, 1) := by decide +kernel
theorem dX0_choiceOfSwayed_20 : decode cX0_choiceOfSwayed 20 = .ok (.getfield 21, 3) := by decide +kernel
theorem dX0_choiceOfSwayed_23 : decode cX0_choiceOfSwayed 23 = .ok (.iload_n 1, 1) := by decide +kernel
theorem dX0_choiceOfSwayed_24 : decode cX0_choiceOfSwayed 24 = .ok (.iaload, 1) := by decide +kernel
theorem dX0_choiceOfSwayed_25 : decode cX0_choiceOfSwayed 25 = .ok (.bipush 10, 2) := by decide +kernel
theorem dX0_choiceOfSwayed_27 : decode cX0_choiceOfSwayed 27 = .ok (.idiv, 1) := by decide +kernel
theorem dX0_choiceOfSwayed_28 : decode cX0_choiceOfSwayed 28 = .ok (.goto 28, 3) := by decide +kernel
theorem dX0_choiceOfSwayed_31 : decode cX0_choiceOfSwayed 31 = .ok (.aload_n 0, 1) := by decide +kernel
theorem dX0_choiceOfSwayed_32 : decode cX0_choiceOfSwayed 32 = .ok (.getfield 67, 3) := by decide +kernel
theorem dX0_choiceOfSwayed_35 : decode cX0_choiceOfSwayed 35 = .ok (.iload 4, 2) := by decide +kernel
theorem dX0_choiceOfSwayed_37 : decode cX0_choiceOfSwayed 37 = .ok (.aload_n 0, 1) := by decide +kernel
theorem dX0_choiceOfSwayed_38 : decode cX0_choiceOfSwayed 38 = .ok (.getfield 21, 3) := by decide +kernel
theorem dX0_choiceOfSwayed_41 : decode cX0_choiceOfSwayed 41 = .ok (.iload_n 1, 1) := by decide +kernel
theorem dX0_choiceOfSwayed_42 : decode cX0_choiceOfSwayed 42 = .ok (.iaload, 1) := by decide +kernel
theorem dX0_choiceOfSwayed_43 : decode cX0_choiceOfSwayed 43 = .ok (.aload_n 0, 1) := by decide +kernel
theorem dX0_choiceOfSwayed_44 : decode cX0_choiceOfSwayed 44 = .ok (.getfield 52, 3) := by decide +kernel
theorem dX0_choiceOfSwayed_47 : decode cX0_choiceOfSwayed 47 = .ok (.aload_n 0, 1) := by decide +kernel
theorem dX0_choiceOfSwayed_48 : decode cX0_choiceOfSwayed 48 = .ok (.getfield 18, 3) := by decide +kernel
theorem dX0_choiceOfSwayed_51 : decode cX0_choiceOfSwayed 51 = .ok (.iload_n 1, 1) := by decide +kernel
theorem dX0_choiceOfSwayed_52 : decode cX0_choiceOfSwayed 52 = .ok (.iaload, 1) := by decide +kernel
theorem dX0_choiceOfSwayed_53 : decode cX0_choiceOfSwayed 53 = .ok (.invokevirtual 146, 3) := by decide +kernel
theorem dX0_choiceOfSwayed_56 : decode cX0_choiceOfSwayed 56 = .ok (.istore 5, 2) := by decide +kernel
theorem dX0_choiceOfSwayed_58 : decode cX0_choiceOfSwayed 58 = .ok (.aload_n 0, 1) := by decide +kernel
theorem dX0_choiceOfSwayed_59 : decode cX0_choiceOfSwayed 59 = .ok (.iload_n 3, 1) := by decide +kernel
theorem dX0_choiceOfSwayed_60 : decode cX0_choiceOfSwayed 60 = .ok (.invokevirtual 117, 3) := by decide +kernel
theorem dX0_choiceOfSwayed_63 : decode cX0_choiceOfSwayed 63 = .ok (.ifCond .eq 24, 3) := by decide +kernel
theorem dX0_choiceOfSwayed_66 : decode cX0_choiceOfSwayed 66 = .ok (.aload_n 0, 1) := by decide +kernel
theorem dX0_choiceOfSwayed_67 : decode cX0_choiceOfSwayed 67 = .ok (.getfield 30, 3) := by decide +kernel
theorem dX0_choiceOfSwayed_70 : decode cX0_choiceOfSwayed 70 = .ok (.iload_n 3, 1) := by decide +kernel
theorem dX0_choiceOfSwayed_71 : decode cX0_choiceOfSwayed 71 = .ok (.iaload, 1) := by decide +kernel
theorem dX0_choiceOfSwayed_72 : decode cX0_choiceOfSwayed 72 = .ok (.iload 5, 2) := by decide +kernel
theorem dX0_choiceOfSwayed_74 : decode cX0_choiceOfSwayed 74 = .ok (.iconst 0, 1) := by decide +kernel
theorem dX0_choiceOfSwayed_75 : decode cX0_choiceOfSwayed 75 = .ok (.bipush 99, 2) := by decide +kernel
theorem dX0_choiceOfSwayed_77 : decode cX0_choiceOfSwayed 77 = .ok (.invokestatic 150, 3) := by decide +kernel
theorem dX0_choiceOfSwayed_80 : decode cX0_choiceOfSwayed 80 = .ok (.if_icmp .le 7, 3) := by decide +kernel
theorem dX0_choiceOfSwayed_83 : decode cX0_choiceOfSwayed 83 = .ok (.iconst 1, 1) := by decide +kernel
theorem dX0_choiceOfSwayed_84 : decode cX0_choiceOfSwayed 84 = .ok (.goto 4, 3) := by decide +kernel
theorem dX0_choiceOfSwayed_87 : decode cX0_choiceOfSwayed 87 = .ok (.iconst 0, 1) := by decide +kernel
theorem dX0_choiceOfSwayed_88 : decode cX0_choiceOfSwayed 88 = .ok (.istore 6, 2) := by decide +kernel
theorem dX0_choiceOfSwayed_90 : decode cX0_choiceOfSwayed 90 = .ok (.iload 6, 2) := by decide +kernel
theorem dX0_choiceOfSwayed_92 : decode cX0_choiceOfSwayed 92 = .ok (.ifCond .eq 7, 3) := by decide +kernel
theorem dX0_choiceOfSwayed_95 : decode cX0_choiceOfSwayed 95 = .ok (.iload_n 3, 1) := by decide +kernel
theorem dX0_choiceOfSwayed_96 : decode cX0_choiceOfSwayed 96 = .ok (.goto 10, 3) := by decide +kernel
theorem dX0_choiceOfSwayed_99 : decode cX0_choiceOfSwayed 99 = .ok (.aload_n 0, 1) := by decide +kernel
theorem dX0_choiceOfSwayed_100 : decode cX0_choiceOfSwayed 100 = .ok (.iload_n 1, 1) := by decide +kernel
theorem dX0_choiceOfSwayed_101 : decode cX0_choiceOfSwayed 101 = .ok (.iload_n 2, 1) := by decide +kernel
theorem dX0_choiceOfSwayed_102 : decode cX0_choiceOfSwayed 102 = .ok (.iload_n 3, 1) := by decide +kernel
theorem dX0_choiceOfSwayed_103 : decode cX0_choiceOfSwayed 103 = .ok (.invokevirtual 137, 3) := by decide +kernel
theorem dX0_choiceOfSwayed_106 : decode cX0_choiceOfSwayed 106 = .ok (.ireturn, 1) := by decide +kernel
theorem dX1_init_0 : decode cX1_init 0 = .ok (.aload_n 0, 1) := by decide +kernel
theorem dX1_init_1 : decode cX1_init 1 = .ok (.invokespecial 1, 3) := by decide +kernel
theorem dX1_init_4 : decode cX1_init 4 = .ok (.aload_n 0, 1) := by decide +kernel
theorem dX1_init_5 : decode cX1_init 5 = .ok (.iload_n 1, 1) := by decide +kernel
theorem dX1_init_6 : decode cX1_init 6 = .ok (.putfield 7, 3) := by decide +kernel
theorem dX1_init_9 : decode cX1_init 9 = .ok (.aload_n 0, 1) := by decide +kernel
theorem dX1_init_10 : decode cX1_init 10 = .ok (.iload_n 2, 1) := by decide +kernel
theorem dX1_init_11 : decode cX1_init 11 = .ok (.putfield 13, 3) := by decide +kernel
theorem dX1_init_14 : decode cX1_init 14 = .ok (.aload_n 0, 1) := by decide +kernel
theorem dX1_init_15 : decode cX1_init 15 = .ok (.aload_n 3, 1) := by decide +kernel
theorem dX1_init_16 : decode cX1_init 16 = .ok (.putfield 16, 3) := by decide +kernel
theorem dX1_init_19 : decode cX1_init 19 = .ok (.return_, 1) := by decide +kernel
theorem dX2_init_0 : decode cX2_init 0 = .ok (.aload_n 0, 1) := by decide +kernel
theorem dX2_init_1 : decode cX2_init 1 = .ok (.invokespecial 3, 3) := by decide +kernel
theorem dX2_init_4 : decode cX2_init 4 = .ok (.aload_n 0, 1) := by decide +kernel
theorem dX2_init_5 : decode cX2_init 5 = .ok (.bipush 14, 2) := by decide +kernel
theorem dX2_init_7 : decode cX2_init 7 = .ok (.anewarray 9, 3) := by decide +kernel
theorem dX2_init_10 : decode cX2_init 10 = .ok (.putfield 11, 3) := by decide +kernel
theorem dX2_init_13 : decode cX2_init 13 = .ok (.aload_n 0, 1) := by decide +kernel
theorem dX2_init_14 : decode cX2_init 14 = .ok (.bipush 96, 2) := by decide +kernel
theorem dX2_init_16 : decode cX2_init 16 = .ok (.newarray .int, 2) := by decide +kernel
theorem dX2_init_18 : decode cX2_init 18 = .ok (.putfield 17, 3) := by decide +kernel
theorem dX2_init_21 : decode cX2_init 21 = .ok (.return_, 1) := by decide +kernel
theorem dX2_latest_0 : decode cX2_latest 0 = .ok (.iload_n 2, 1) := by decide +kernel
theorem dX2_latest_1 : decode cX2_latest 1 = .ok (.bipush 14, 2) := by decide +kernel
theorem dX2_latest_3 : decode cX2_latest 3 = .ok (.invokestatic 21, 3) := by decide +kernel
theorem dX2_latest_6 : decode cX2_latest 6 = .ok (.iconst 1, 1) := by decide +kernel
theorem dX2_latest_7 : decode cX2_latest 7 = .ok (.isub, 1) := by decide +kernel
theorem dX2_latest_8 : decode cX2_latest 8 = .ok (.istore_n 3, 1) := by decide +kernel
theorem dX2_latest_9 : decode cX2_latest 9 = .ok (.iload_n 3, 1) := by decide +kernel
theorem dX2_latest_10 : decode cX2_latest 10 = .ok (.ifCond .lt 33, 3) := by decide +kernel
theorem dX2_latest_13 : decode cX2_latest 13 = .ok (.aload_n 0, 1) := by decide +kernel
theorem dX2_latest_14 : decode cX2_latest 14 = .ok (.getfield 11, 3) := by decide +kernel
theorem dX2_latest_17 : decode cX2_latest 17 = .ok (.iload_n 3, 1) := by decide +kernel
theorem dX2_latest_18 : decode cX2_latest 18 = .ok (.aaload, 1) := by decide +kernel
theorem dX2_latest_19 : decode cX2_latest 19 = .ok (.astore 4, 2) := by decide +kernel
theorem dX2_latest_21 : decode cX2_latest 21 = .ok (.aload 4, 2) := by decide +kernel
theorem dX2_latest_23 : decode cX2_latest 23 = .ok (.ifnull 14, 3) := by decide +kernel
theorem dX2_latest_26 : decode cX2_latest 26 = .ok (.aload 4, 2) := by decide +kernel
theorem dX2_latest_28 : decode cX2_latest 28 = .ok (.getfield 27, 3) := by decide +kernel
theorem dX2_latest_31 : decode cX2_latest 31 = .ok (.iload_n 1, 1) := by decide +kernel
theorem dX2_latest_32 : decode cX2_latest 32 = .ok (.if_icmp .ne 5, 3) := by decide +kernel
theorem dX2_latest_35 : decode cX2_latest 35 = .ok (.iload_n 3, 1) := by decide +kernel
theorem dX2_latest_36 : decode cX2_latest 36 = .ok (.ireturn, 1) := by decide +kernel
theorem dX2_latest_37 : decode cX2_latest 37 = .ok (.iinc 3 (-1), 3) := by decide +kernel
theorem dX2_latest_40 : decode cX2_latest 40 = .ok (.goto (-31), 3) := by decide +kernel
theorem dX2_latest_43 : decode cX2_latest 43 = .ok (.iconst (-1), 1) := by decide +kernel
theorem dX2_latest_44 : decode cX2_latest 44 = .ok (.ireturn, 1) := by decide +kernel
theorem dX2_value_0 : decode cX2_value 0 = .ok (.iload_n 1, 1) := by decide +kernel
theorem dX2_value_1 : decode cX2_value 1 = .ok (.iconst 0, 1) := by decide +kernel
theorem dX2_value_2 : decode cX2_value 2 = .ok (.bipush 13, 2) := by decide +kernel
theorem dX2_value_4 : decode cX2_value 4 = .ok (.invokestatic 31, 3) := by decide +kernel
theorem dX2_value_7 : decode cX2_value 7 = .ok (.ifCond .eq 12, 3) := by decide +kernel
theorem dX2_value_10 : decode cX2_value 10 = .ok (.aload_n 0, 1) := by decide +kernel
theorem dX2_value_11 : decode cX2_value 11 = .ok (.getfield 11, 3) := by decide +kernel
theorem dX2_value_14 : decode cX2_value 14 = .ok (.iload_n 1, 1) := by decide +kernel
theorem dX2_value_15 : decode cX2_value 15 = .ok (.aaload, 1) := by decide +kernel
theorem dX2_value_16 : decode cX2_value 16 = .ok (.goto 4, 3) := by decide +kernel
theorem dX2_value_19 : decode cX2_value 19 = .ok (.aconst_null, 1) := by decide +kernel
theorem dX2_value_20 : decode cX2_value 20 = .ok (.astore 5, 2) := by decide +kernel
theorem dX2_value_22 : decode cX2_value 22 = .ok (.aload 5, 2) := by decide +kernel
theorem dX2_value_24 : decode cX2_value 24 = .ok (.ifnonnull 5, 3) := by decide +kernel
theorem dX2_value_27 : decode cX2_value 27 = .ok (.iconst 0, 1) := by decide +kernel
theorem dX2_value_28 : decode cX2_value 28 = .ok (.ireturn, 1) := by decide +kernel
theorem dX2_value_29 : decode cX2_value 29 = .ok (.iconst 0, 1) := by decide +kernel
theorem dX2_value_30 : decode cX2_value 30 = .ok (.istore 6, 2) := by decide +kernel
theorem dX2_value_32 : decode cX2_value 32 = .ok (.iconst 0, 1) := by decide +kernel
theorem dX2_value_33 : decode cX2_value 33 = .ok (.istore 7, 2) := by decide +kernel
theorem dX2_value_35 : decode cX2_value 35 = .ok (.iload 7, 2) := by decide +kernel
theorem dX2_value_37 : decode cX2_value 37 = .ok (.aload 5, 2) := by decide +kernel
theorem dX2_value_39 : decode cX2_value 39 = .ok (.getfield 35, 3) := by decide +kernel
theorem dX2_value_42 : decode cX2_value 42 = .ok (.arraylength, 1) := by decide +kernel
theorem dX2_value_43 : decode cX2_value 43 = .ok (.if_icmp .ge 148, 3) := by decide +kernel
theorem dX2_value_46 : decode cX2_value 46 = .ok (.aload 5, 2) := by decide +kernel
theorem dX2_value_48 : decode cX2_value 48 = .ok (.getfield 35, 3) := by decide +kernel
theorem dX2_value_51 : decode cX2_value 51 = .ok (.iload 7, 2) := by decide +kernel
theorem dX2_value_53 : decode cX2_value 53 = .ok (.iaload, 1) := by decide +kernel
theorem dX2_value_54 : decode cX2_value 54 = .ok (.istore 8, 2) := by decide +kernel
theorem dX2_value_56 : decode cX2_value 56 = .ok (.iload 8, 2) := by decide +kernel
theorem dX2_value_58 : decode cX2_value 58 = .ok (.sipush 20000, 3) := by decide +kernel
theorem dX2_value_61 : decode cX2_value 61 = .ok (.if_icmp .ge 35, 3) := by decide +kernel
theorem dX2_value_64 : decode cX2_value 64 = .ok (.iload 6, 2) := by decide +kernel
theorem dX2_value_66 : decode cX2_value 66 = .ok (.aload_n 0, 1) := by decide +kernel
theorem dX2_value_67 : decode cX2_value 67 = .ok (.getfield 17, 3) := by decide +kernel
theorem dX2_value_70 : decode cX2_value 70 = .ok (.arraylength, 1) := by decide +kernel
theorem dX2_value_71 : decode cX2_value 71 = .ok (.if_icmp .ge 114, 3) := by decide +kernel
theorem dX2_value_74 : decode cX2_value 74 = .ok (.aload_n 0, 1) := by decide +kernel
theorem dX2_value_75 : decode cX2_value 75 = .ok (.getfield 17, 3) := by decide +kernel
theorem dX2_value_78 : decode cX2_value 78 = .ok (.iload 6, 2) := by decide +kernel
theorem dX2_value_80 : decode cX2_value 80 = .ok (.iload 8, 2) := by decide +kernel
theorem dX2_value_82 : decode cX2_value 82 = .ok (.iload_n 2, 1) := by decide +kernel
theorem dX2_value_83 : decode cX2_value 83 = .ok (.iload_n 3, 1) := by decide +kernel
theorem dX2_value_84 : decode cX2_value 84 = .ok (.iload 4, 2) := by decide +kernel
theorem dX2_value_86 : decode cX2_value 86 = .ok (.invokestatic 38, 3) := by decide +kernel
theorem dX2_value_89 : decode cX2_value 89 = .ok (.iastore, 1) := by decide +kernel
theorem dX2_value_90 : decode cX2_value 90 = .ok (.iinc 6 1, 3) := by decide +kernel
theorem dX2_value_93 : decode cX2_value 93 = .ok (.goto 92, 3) := by decide +kernel
theorem dX2_value_96 : decode cX2_value 96 = .ok (.iload 8, 2) := by decide +kernel
theorem dX2_value_98 : decode cX2_value 98 = .ok (.sipush 20033, 3) := by decide +kernel
theorem dX2_value_101 : decode cX2_value 101 = .ok (.if_icmp .ne 41, 3) := by decide +kernel
theorem dX2_value_104 : decode cX2_value 104 = .ok (.iload 6, 2) := by decide +kernel
theorem dX2_value_106 : decode cX2_value 106 = .ok (.iconst 1, 1) := by decide +kernel
theorem dX2_value_107 : decode cX2_value 107 = .ok (.if_icmp .lt 78, 3) := by decide +kernel
theorem dX2_value_110 : decode cX2_value 110 = .ok (.aload_n 0, 1) := by decide +kernel
theorem dX2_value_111 : decode cX2_value 111 = .ok (.getfield 17, 3) := by decide +kernel
theorem dX2_value_114 : decode cX2_value 114 = .ok (.iload 6, 2) := by decide +kernel
theorem dX2_value_116 : decode cX2_value 116 = .ok (.iconst 1, 1) := by decide +kernel
theorem dX2_value_117 : decode cX2_value 117 = .ok (.isub, 1) := by decide +kernel
theorem dX2_value_118 : decode cX2_value 118 = .ok (.aload_n 0, 1) := by decide +kernel
theorem dX2_value_119 : decode cX2_value 119 = .ok (.getfield 17, 3) := by decide +kernel
theorem dX2_value_122 : decode cX2_value 122 = .ok (.iload 6, 2) := by decide +kernel
theorem dX2_value_124 : decode cX2_value 124 = .ok (.iconst 1, 1) := by decide +kernel
theorem dX2_value_125 : decode cX2_value 125 = .ok (.isub, 1) := by decide +kernel
theorem dX2_value_126 : decode cX2_value 126 = .ok (.iaload, 1) := by decide +kernel
theorem dX2_value_127 : decode cX2_value 127 = .ok (.ifCond .ne 7, 3) := by decide +kernel
theorem dX2_value_130 : decode cX2_value 130 = .ok (.iconst 1, 1) := by decide +kernel
theorem dX2_value_131 : decode cX2_value 131 = .ok (.goto 4, 3) := by decide +kernel
theorem dX2_value_134 : decode cX2_value 134 = .ok (.iconst 0, 1) := by decide +kernel
theorem dX2_value_135 : decode cX2_value 135 = .ok (.invokestatic 42, 3) := by decide +kernel
theorem dX2_value_138 : decode cX2_value 138 = .ok (.iastore, 1) := by decide +kernel
theorem dX2_value_139 : decode cX2_value 139 = .ok (.goto 46, 3) := by decide +kernel
theorem dX2_value_142 : decode cX2_value 142 = .ok (.iload 6, 2) := by decide +kernel
theorem dX2_value_144 : decode cX2_value 144 = .ok (.iconst 2, 1) := by decide +kernel
theorem dX2_value_145 : decode cX2_value 145 = .ok (.if_icmp .lt 40, 3) := by decide +kernel
theorem dX2_value_148 : decode cX2_value 148 = .ok (.iinc 6 (-1), 3) := by decide +kernel
theorem dX2_value_151 : decode cX2_value 151 = .ok (.aload_n 0, 1) := by decide +kernel
theorem dX2_value_152 : decode cX2_value 152 = .ok (.getfield 17, 3) := by decide +kernel
theorem dX2_value_155 : decode cX2_value 155 = .ok (.iload 6, 2) := by decide +kernel
theorem dX2_value_157 : decode cX2_value 157 = .ok (.iconst 1, 1) := by decide +kernel
theorem dX2_value_158 : decode cX2_value 158 = .ok (.isub, 1) := by decide +kernel
theorem dX2_value_159 : decode cX2_value 159 = .ok (.iload 8, 2) := by decide +kernel
theorem dX2_value_161 : decode cX2_value 161 = .ok (.sipush 20000, 3) := by decide +kernel
theorem dX2_value_164 : decode cX2_value 164 = .ok (.isub, 1) := by decide +kernel
theorem dX2_value_165 : decode cX2_value 165 = .ok (.aload_n 0, 1) := by decide +kernel
theorem dX2_value_166 : decode cX2_value 166 = .ok (.getfield 17, 3) := by decide +kernel
theorem dX2_value_169 : decode cX2_value 169 = .ok (.iload 6, 2) := by decide +kernel
theorem dX2_value_171 : decode cX2_value 171 = .ok (.iconst 1, 1) := by decide +kernel
theorem dX2_value_172 : decode cX2_value 172 = .ok (.isub, 1) := by decide +kernel
theorem dX2_value_173 : decode cX2_value 173 = .ok (.iaload, 1) := by decide +kernel
theorem dX2_value_174 : decode cX2_value 174 = .ok (.aload_n 0, 1) := by decide +kernel
theorem dX2_value_175 : decode cX2_value 175 = .ok (.getfield 17, 3) := by decide +kernel
theorem dX2_value_178 : decode cX2_value 178 = .ok (.iload 6, 2) := by decide +kernel
theorem dX2_value_180 : decode cX2_value 180 = .ok (.iaload, 1) := by decide +kernel
theorem dX2_value_181 : decode cX2_value 181 = .ok (.invokestatic 46, 3) := by decide +kernel
theorem dX2_value_184 : decode cX2_value 184 = .ok (.iastore, 1) := by decide +kernel
theorem dX2_value_185 : decode cX2_value 185 = .ok (.iinc 7 1, 3) := by decide +kernel
theorem dX2_value_188 : decode cX2_value 188 = .ok (.goto (-153), 3) := by decide +kernel
theorem dX2_value_191 : decode cX2_value 191 = .ok (.iload 6, 2) := by decide +kernel
theorem dX2_value_193 : decode cX2_value 193 = .ok (.ifCond .le 12, 3) := by decide +kernel
theorem dX2_value_196 : decode cX2_value 196 = .ok (.aload_n 0, 1) := by decide +kernel
theorem dX2_value_197 : decode cX2_value 197 = .ok (.getfield 17, 3) := by decide +kernel
theorem dX2_value_200 : decode cX2_value 200 = .ok (.iconst 0, 1) := by decide +kernel
theorem dX2_value_201 : decode cX2_value 201 = .ok (.iaload, 1) := by decide +kernel
theorem dX2_value_202 : decode cX2_value 202 = .ok (.goto 4, 3) := by decide +kernel
theorem dX2_value_205 : decode cX2_value 205 = .ok (.iconst 0, 1) := by decide +kernel
theorem dX2_value_206 : decode cX2_value 206 = .ok (.ireturn, 1) := by decide +kernel
theorem dX2_leaf_0 : decode cX2_leaf 0 = .ok (.iload_n 0, 1) := by decide +kernel
theorem dX2_leaf_1 : decode cX2_leaf 1 = .ok (.tableswitch 33 10000 10002 #[27, 29, 31], 27) := by decide +kernel
theorem dX2_leaf_28 : decode cX2_leaf 28 = .ok (.iload_n 1, 1) := by decide +kernel
theorem dX2_leaf_29 : decode cX2_leaf 29 = .ok (.ireturn, 1) := by decide +kernel
theorem dX2_leaf_30 : decode cX2_leaf 30 = .ok (.iload_n 2, 1) := by decide +kernel
theorem dX2_leaf_31 : decode cX2_leaf 31 = .ok (.ireturn, 1) := by decide +kernel
theorem dX2_leaf_32 : decode cX2_leaf 32 = .ok (.iload_n 3, 1) := by decide +kernel
theorem dX2_leaf_33 : decode cX2_leaf 33 = .ok (.ireturn, 1) := by decide +kernel
theorem dX2_leaf_34 : decode cX2_leaf 34 = .ok (.iload_n 0, 1) := by decide +kernel
theorem dX2_leaf_35 : decode cX2_leaf 35 = .ok (.ireturn, 1) := by decide +kernel
theorem dX2_joined_0 : decode cX2_joined 0 = .ok (.iload_n 0, 1) := by decide +kernel
theorem dX2_joined_1 : decode cX2_joined 1 = .ok (.lookupswitch 163 #[(38, 92), (42, 159), (43, 151), (45, 155), (60, 109), (61, 123), (62, 137), (124, 75)], 75) := by decide +kernel
theorem dX2_joined_76 : decode cX2_joined 76 = .ok (.iload_n 1, 1) := by decide +kernel
theorem dX2_joined_77 : decode cX2_joined 77 = .ok (.ifCond .ne 7, 3) := by decide +kernel
theorem dX2_joined_80 : decode cX2_joined 80 = .ok (.iload_n 2, 1) := by decide +kernel
theorem dX2_joined_81 : decode cX2_joined 81 = .ok (.ifCond .eq 7, 3) := by decide +kernel
theorem dX2_joined_84 : decode cX2_joined 84 = .ok (.iconst 1, 1) := by decide +kernel
theorem dX2_joined_85 : decode cX2_joined 85 = .ok (.goto 4, 3) := by decide +kernel
theorem dX2_joined_88 : decode cX2_joined 88 = .ok (.iconst 0, 1) := by decide +kernel
theorem dX2_joined_89 : decode cX2_joined 89 = .ok (.invokestatic 42, 3) := by decide +kernel
theorem dX2_joined_92 : decode cX2_joined 92 = .ok (.ireturn, 1) := by decide +kernel
theorem dX2_joined_93 : decode cX2_joined 93 = .ok (.iload_n 1, 1) := by decide +kernel
theorem dX2_joined_94 : decode cX2_joined 94 = .ok (.ifCond .eq 11, 3) := by decide +kernel
theorem dX2_joined_97 : decode cX2_joined 97 = .ok (.iload_n 2, 1) := by decide +kernel
theorem dX2_joined_98 : decode cX2_joined 98 = .ok (.ifCond .eq 7, 3) := by decide +kernel
theorem dX2_joined_101 : decode cX2_joined 101 = .ok (.iconst 1, 1) := by decide +kernel
theorem dX2_joined_102 : decode cX2_joined 102 = .ok (.goto 4, 3) := by decide +kernel
theorem dX2_joined_105 : decode cX2_joined 105 = .ok (.iconst 0, 1) := by decide +kernel
theorem dX2_joined_106 : decode cX2_joined 106 = .ok (.invokestatic 42, 3) := by decide +kernel
theorem dX2_joined_109 : decode cX2_joined 109 = .ok (.ireturn, 1) := by decide +kernel
theorem dX2_joined_110 : decode cX2_joined 110 = .ok (.iload_n 1, 1) := by decide +kernel
theorem dX2_joined_111 : decode cX2_joined 111 = .ok (.iload_n 2, 1) := by decide +kernel
theorem dX2_joined_112 : decode cX2_joined 112 = .ok (.if_icmp .ge 7, 3) := by decide +kernel
theorem dX2_joined_115 : decode cX2_joined 115 = .ok (.iconst 1, 1) := by decide +kernel
theorem dX2_joined_116 : decode cX2_joined 116 = .ok (.goto 4, 3) := by decide +kernel
theorem dX2_joined_119 : decode cX2_joined 119 = .ok (.iconst 0, 1) := by decide +kernel
theorem dX2_joined_120 : decode cX2_joined 120 = .ok (.invokestatic 42, 3) := by decide +kernel
theorem dX2_joined_123 : decode cX2_joined 123 = .ok (.ireturn, 1) := by decide +kernel
theorem dX2_joined_124 : decode cX2_joined 124 = .ok (.iload_n 1, 1) := by decide +kernel
theorem dX2_joined_125 : decode cX2_joined 125 = .ok (.iload_n 2, 1) := by decide +kernel
theorem dX2_joined_126 : decode cX2_joined 126 = .ok (.if_icmp .ne 7, 3) := by decide +kernel
theorem dX2_joined_129 : decode cX2_joined 129 = .ok (.iconst 1, 1) := by decide +kernel
theorem dX2_joined_130 : decode cX2_joined 130 = .ok (.goto 4, 3) := by decide +kernel
theorem dX2_joined_133 : decode cX2_joined 133 = .ok (.iconst 0, 1) := by decide +kernel
theorem dX2_joined_134 : decode cX2_joined 134 = .ok (.invokestatic 42, 3) := by decide +kernel
theorem dX2_joined_137 : decode cX2_joined 137 = .ok (.ireturn, 1) := by decide +kernel
theorem dX2_joined_138 : decode cX2_joined 138 = .ok (.iload_n 1, 1) := by decide +kernel
theorem dX2_joined_139 : decode cX2_joined 139 = .ok (.iload_n 2, 1) := by decide +kernel
theorem dX2_joined_140 : decode cX2_joined 140 = .ok (.if_icmp .le 7, 3) := by decide +kernel
theorem dX2_joined_143 : decode cX2_joined 143 = .ok (.iconst 1, 1) := by decide +kernel
theorem dX2_joined_144 : decode cX2_joined 144 = .ok (.goto 4, 3) := by decide +kernel
theorem dX2_joined_147 : decode cX2_joined 147 = .ok (.iconst 0, 1) := by decide +kernel
theorem dX2_joined_148 : decode cX2_joined 148 = .ok (.invokestatic 42, 3) := by decide +kernel
theorem dX2_joined_151 : decode cX2_joined 151 = .ok (.ireturn, 1) := by decide +kernel
theorem dX2_joined_152 : decode cX2_joined 152 = .ok (.iload_n 1, 1) := by decide +kernel
theorem dX2_joined_153 : decode cX2_joined 153 = .ok (.iload_n 2, 1) := by decide +kernel
theorem dX2_joined_154 : decode cX2_joined 154 = .ok (.iadd, 1) := by decide +kernel
theorem dX2_joined_155 : decode cX2_joined 155 = .ok (.ireturn, 1) := by decide +kernel
theorem dX2_joined_156 : decode cX2_joined 156 = .ok (.iload_n 1, 1) := by decide +kernel
theorem dX2_joined_157 : decode cX2_joined 157 = .ok (.iload_n 2, 1) := by decide +kernel
theorem dX2_joined_158 : decode cX2_joined 158 = .ok (.isub, 1) := by decide +kernel
theorem dX2_joined_159 : decode cX2_joined 159 = .ok (.ireturn, 1) := by decide +kernel
theorem dX2_joined_160 : decode cX2_joined 160 = .ok (.iload_n 1, 1) := by decide +kernel
theorem dX2_joined_161 : decode cX2_joined 161 = .ok (.iload_n 2, 1) := by decide +kernel
theorem dX2_joined_162 : decode cX2_joined 162 = .ok (.imul, 1) := by decide +kernel
theorem dX2_joined_163 : decode cX2_joined 163 = .ok (.ireturn, 1) := by decide +kernel
theorem dX2_joined_164 : decode cX2_joined 164 = .ok (.iload_n 2, 1) := by decide +kernel
theorem dX2_joined_165 : decode cX2_joined 165 = .ok (.ifCond .ne 7, 3) := by decide +kernel
theorem dX2_joined_168 : decode cX2_joined 168 = .ok (.iconst 0, 1) := by decide +kernel
theorem dX2_joined_169 : decode cX2_joined 169 = .ok (.goto 6, 3) := by decide +kernel
theorem dX2_joined_172 : decode cX2_joined 172 = .ok (.iload_n 1, 1) := by decide +kernel
theorem dX2_joined_173 : decode cX2_joined 173 = .ok (.iload_n 2, 1) := by decide +kernel
theorem dX2_joined_174 : decode cX2_joined 174 = .ok (.idiv, 1) := by decide +kernel
theorem dX2_joined_175 : decode cX2_joined 175 = .ok (.ireturn, 1) := by decide +kernel
theorem dX2_truth_0 : decode cX2_truth 0 = .ok (.iload_n 0, 1) := by decide +kernel
theorem dX2_truth_1 : decode cX2_truth 1 = .ok (.ifCond .eq 7, 3) := by decide +kernel
theorem dX2_truth_4 : decode cX2_truth 4 = .ok (.iconst 1, 1) := by decide +kernel
theorem dX2_truth_5 : decode cX2_truth 5 = .ok (.goto 4, 3) := by decide +kernel
theorem dX2_truth_8 : decode cX2_truth 8 = .ok (.iconst 0, 1) := by decide +kernel
theorem dX2_truth_9 : decode cX2_truth 9 = .ok (.ireturn, 1) := by decide +kernel
theorem dX3_init_0 : decode cX3_init 0 = .ok (.aload_n 0, 1) := by decide +kernel
theorem dX3_init_1 : decode cX3_init 1 = .ok (.invokespecial 3, 3) := by decide +kernel
theorem dX3_init_4 : decode cX3_init 4 = .ok (.aload_n 0, 1) := by decide +kernel
theorem dX3_init_5 : decode cX3_init 5 = .ok (.bipush 96, 2) := by decide +kernel
theorem dX3_init_7 : decode cX3_init 7 = .ok (.newarray .int, 2) := by decide +kernel
theorem dX3_init_9 : decode cX3_init 9 = .ok (.putfield 9, 3) := by decide +kernel
theorem dX3_init_12 : decode cX3_init 12 = .ok (.aload_n 0, 1) := by decide +kernel
theorem dX3_init_13 : decode cX3_init 13 = .ok (.iconst 0, 1) := by decide +kernel
theorem dX3_init_14 : decode cX3_init 14 = .ok (.putfield 15, 3) := by decide +kernel
theorem dX3_init_17 : decode cX3_init 17 = .ok (.aload_n 0, 1) := by decide +kernel
theorem dX3_init_18 : decode cX3_init 18 = .ok (.iconst 0, 1) := by decide +kernel
theorem dX3_init_19 : decode cX3_init 19 = .ok (.putfield 19, 3) := by decide +kernel
theorem dX3_init_22 : decode cX3_init 22 = .ok (.aload_n 0, 1) := by decide +kernel
theorem dX3_init_23 : decode cX3_init 23 = .ok (.iconst 0, 1) := by decide +kernel
theorem dX3_init_24 : decode cX3_init 24 = .ok (.putfield 22, 3) := by decide +kernel
theorem dX3_init_27 : decode cX3_init 27 = .ok (.aload_n 0, 1) := by decide +kernel
theorem dX3_init_28 : decode cX3_init 28 = .ok (.iconst 0, 1) := by decide +kernel
theorem dX3_init_29 : decode cX3_init 29 = .ok (.putfield 25, 3) := by decide +kernel
theorem dX3_init_32 : decode cX3_init 32 = .ok (.aload_n 0, 1) := by decide +kernel
theorem dX3_init_33 : decode cX3_init 33 = .ok (.iconst 0, 1) := by decide +kernel
theorem dX3_init_34 : decode cX3_init 34 = .ok (.putfield 28, 3) := by decide +kernel
theorem dX3_init_37 : decode cX3_init 37 = .ok (.aload_n 0, 1) := by decide +kernel
theorem dX3_init_38 : decode cX3_init 38 = .ok (.iconst 0, 1) := by decide +kernel
theorem dX3_init_39 : decode cX3_init 39 = .ok (.putfield 31, 3) := by decide +kernel
theorem dX3_init_42 : decode cX3_init 42 = .ok (.aload_n 0, 1) := by decide +kernel
theorem dX3_init_43 : decode cX3_init 43 = .ok (.iconst 0, 1) := by decide +kernel
theorem dX3_init_44 : decode cX3_init 44 = .ok (.putfield 34, 3) := by decide +kernel
theorem dX3_init_47 : decode cX3_init 47 = .ok (.aload_n 0, 1) := by decide +kernel
theorem dX3_init_48 : decode cX3_init 48 = .ok (.bipush 96, 2) := by decide +kernel
theorem dX3_init_50 : decode cX3_init 50 = .ok (.newarray .int, 2) := by decide +kernel
theorem dX3_init_52 : decode cX3_init 52 = .ok (.putfield 37, 3) := by decide +kernel
theorem dX3_init_55 : decode cX3_init 55 = .ok (.aload_n 0, 1) := by decide +kernel
theorem dX3_init_56 : decode cX3_init 56 = .ok (.iconst 0, 1) := by decide +kernel
theorem dX3_init_57 : decode cX3_init 57 = .ok (.putfield 40, 3) := by decide +kernel
theorem dX3_init_60 : decode cX3_init 60 = .ok (.return_, 1) := by decide +kernel
theorem dX3_addFour_0 : decode cX3_addFour 0 = .ok (.bipush 24, 2) := by decide +kernel
theorem dX3_addFour_2 : decode cX3_addFour 2 = .ok (.istore_n 2, 1) := by decide +kernel
theorem dX3_addFour_3 : decode cX3_addFour 3 = .ok (.iload_n 2, 1) := by decide +kernel
theorem dX3_addFour_4 : decode cX3_addFour 4 = .ok (.ifCond .lt 44, 3) := by decide +kernel
theorem dX3_addFour_7 : decode cX3_addFour 7 = .ok (.aload_n 0, 1) := by decide +kernel
theorem dX3_addFour_8 : decode cX3_addFour 8 = .ok (.getfield 15, 3) := by decide +kernel
theorem dX3_addFour_11 : decode cX3_addFour 11 = .ok (.bipush 96, 2) := by decide +kernel
theorem dX3_addFour_13 : decode cX3_addFour 13 = .ok (.if_icmp .ge 35, 3) := by decide +kernel
theorem dX3_addFour_16 : decode cX3_addFour 16 = .ok (.aload_n 0, 1) := by decide +kernel
theorem dX3_addFour_17 : decode cX3_addFour 17 = .ok (.getfield 9, 3) := by decide +kernel
theorem dX3_addFour_20 : decode cX3_addFour 20 = .ok (.aload_n 0, 1) := by decide +kernel
theorem dX3_addFour_21 : decode cX3_addFour 21 = .ok (.getfield 15, 3) := by decide +kernel
theorem dX3_addFour_24 : decode cX3_addFour 24 = .ok (.iload_n 1, 1) := by decide +kernel
theorem dX3_addFour_25 : decode cX3_addFour 25 = .ok (.iload_n 2, 1) := by decide +kernel
theorem dX3_addFour_26 : decode cX3_addFour 26 = .ok (.iushr, 1) := by decide +kernel
theorem dX3_addFour_27 : decode cX3_addFour 27 = .ok (.sipush 255, 3) := by decide +kernel
theorem dX3_addFour_30 : decode cX3_addFour 30 = .ok (.iand, 1) := by decide +kernel
theorem dX3_addFour_31 : decode cX3_addFour 31 = .ok (.iastore, 1) := by decide +kernel
theorem dX3_addFour_32 : decode cX3_addFour 32 = .ok (.aload_n 0, 1) := by decide +kernel
theorem dX3_addFour_33 : decode cX3_addFour 33 = .ok (.dup, 1) := by decide +kernel
theorem dX3_addFour_34 : decode cX3_addFour 34 = .ok (.getfield 15, 3) := by decide +kernel
theorem dX3_addFour_37 : decode cX3_addFour 37 = .ok (.iconst 1, 1) := by decide +kernel
theorem dX3_addFour_38 : decode cX3_addFour 38 = .ok (.iadd, 1) := by decide +kernel
theorem dX3_addFour_39 : decode cX3_addFour 39 = .ok (.putfield 15, 3) := by decide +kernel
theorem dX3_addFour_42 : decode cX3_addFour 42 = .ok (.iinc 2 (-8), 3) := by decide +kernel
theorem dX3_addFour_45 : decode cX3_addFour 45 = .ok (.goto (-42), 3) := by decide +kernel
theorem dX3_addFour_48 : decode cX3_addFour 48 = .ok (.return_, 1) := by decide +kernel
theorem dX3_read_0 : decode cX3_read 0 = .ok (.aload_n 0, 1) := by decide +kernel
theorem dX3_read_1 : decode cX3_read 1 = .ok (.iconst 0, 1) := by decide +kernel
theorem dX3_read_2 : decode cX3_read 2 = .ok (.putfield 19, 3) := by decide +kernel
theorem dX3_read_5 : decode cX3_read 5 = .ok (.aload_n 0, 1) := by decide +kernel
theorem dX3_read_6 : decode cX3_read 6 = .ok (.iconst 0, 1) := by decide +kernel
theorem dX3_read_7 : decode cX3_read 7 = .ok (.putfield 25, 3) := by decide +kernel
theorem dX3_read_10 : decode cX3_read 10 = .ok (.aload_n 0, 1) := by decide +kernel
theorem dX3_read_11 : decode cX3_read 11 = .ok (.iconst 0, 1) := by decide +kernel
theorem dX3_read_12 : decode cX3_read 12 = .ok (.putfield 34, 3) := by decide +kernel
theorem dX3_read_15 : decode cX3_read 15 = .ok (.aload_n 0, 1) := by decide +kernel
theorem dX3_read_16 : decode cX3_read 16 = .ok (.iconst 0, 1) := by decide +kernel
theorem dX3_read_17 : decode cX3_read 17 = .ok (.putfield 40, 3) := by decide +kernel
theorem dX3_read_20 : decode cX3_read 20 = .ok (.aload_n 0, 1) := by decide +kernel
theorem dX3_read_21 : decode cX3_read 21 = .ok (.invokevirtual 43, 3) := by decide +kernel
theorem dX3_read_24 : decode cX3_read 24 = .ok (.aload_n 0, 1) := by decide +kernel
theorem dX3_read_25 : decode cX3_read 25 = .ok (.invokevirtual 46, 3) := by decide +kernel
theorem dX3_read_28 : decode cX3_read 28 = .ok (.ifCond .eq 24, 3) := by decide +kernel
theorem dX3_read_31 : decode cX3_read 31 = .ok (.aload_n 0, 1) := by decide +kernel
theorem dX3_read_32 : decode cX3_read 32 = .ok (.iconst 0, 1) := by decide +kernel
theorem dX3_read_33 : decode cX3_read 33 = .ok (.iconst 0, 1) := by decide +kernel
theorem dX3_read_34 : decode cX3_read 34 = .ok (.iconst 0, 1) := by decide +kernel
theorem dX3_read_35 : decode cX3_read 35 = .ok (.invokevirtual 50, 3) := by decide +kernel
theorem dX3_read_38 : decode cX3_read 38 = .ok (.ifCond .eq 14, 3) := by decide +kernel
theorem dX3_read_41 : decode cX3_read 41 = .ok (.aload_n 0, 1) := by decide +kernel
theorem dX3_read_42 : decode cX3_read 42 = .ok (.getfield 19, 3) := by decide +kernel
theorem dX3_read_45 : decode cX3_read 45 = .ok (.ifCond .ne 7, 3) := by decide +kernel
theorem dX3_read_48 : decode cX3_read 48 = .ok (.iconst 1, 1) := by decide +kernel
theorem dX3_read_49 : decode cX3_read 49 = .ok (.goto 4, 3) := by decide +kernel
theorem dX3_read_52 : decode cX3_read 52 = .ok (.iconst 0, 1) := by decide +kernel
theorem dX3_read_53 : decode cX3_read 53 = .ok (.istore_n 1, 1) := by decide +kernel
theorem dX3_read_54 : decode cX3_read 54 = .ok (.iload_n 1, 1) := by decide +kernel
theorem dX3_read_55 : decode cX3_read 55 = .ok (.ifCond .eq 7, 3) := by decide +kernel
theorem dX3_read_58 : decode cX3_read 58 = .ok (.iconst (-1), 1) := by decide +kernel
theorem dX3_read_59 : decode cX3_read 59 = .ok (.goto 7, 3) := by decide +kernel
theorem dX3_read_62 : decode cX3_read 62 = .ok (.aload_n 0, 1) := by decide +kernel
theorem dX3_read_63 : decode cX3_read 63 = .ok (.getfield 22, 3) := by decide +kernel
theorem dX3_read_66 : decode cX3_read 66 = .ok (.ireturn, 1) := by decide +kernel
theorem dX3_law_0 : decode cX3_law 0 = .ok (.new 54, 3) := by decide +kernel
theorem dX3_law_3 : decode cX3_law 3 = .ok (.dup, 1) := by decide +kernel
theorem dX3_law_4 : decode cX3_law 4 = .ok (.aload_n 0, 1) := by decide +kernel
theorem dX3_law_5 : decode cX3_law 5 = .ok (.getfield 31, 3) := by decide +kernel
theorem dX3_law_8 : decode cX3_law 8 = .ok (.aload_n 0, 1) := by decide +kernel
theorem dX3_law_9 : decode cX3_law 9 = .ok (.getfield 34, 3) := by decide +kernel
theorem dX3_law_12 : decode cX3_law 12 = .ok (.aload_n 0, 1) := by decide +kernel
theorem dX3_law_13 : decode cX3_law 13 = .ok (.getfield 37, 3) := by decide +kernel
theorem dX3_law_16 : decode cX3_law 16 = .ok (.aload_n 0, 1) := by decide +kernel
theorem dX3_law_17 : decode cX3_law 17 = .ok (.getfield 40, 3) := by decide +kernel
theorem dX3_law_20 : decode cX3_law 20 = .ok (.invokestatic 56, 3) := by decide +kernel
theorem dX3_law_23 : decode cX3_law 23 = .ok (.invokespecial 62, 3) := by decide +kernel
theorem dX3_law_26 : decode cX3_law 26 = .ok (.areturn, 1) := by decide +kernel
theorem dX3_next_0 : decode cX3_next 0 = .ok (.aload_n 0, 1) := by decide +kernel
theorem dX3_next_1 : decode cX3_next 1 = .ok (.getfield 19, 3) := by decide +kernel
theorem dX3_next_4 : decode cX3_next 4 = .ok (.iconst 1, 1) := by decide +kernel
theorem dX3_next_5 : decode cX3_next 5 = .ok (.if_icmp .eq 11, 3) := by decide +kernel
theorem dX3_next_8 : decode cX3_next 8 = .ok (.aload_n 0, 1) := by decide +kernel
theorem dX3_next_9 : decode cX3_next 9 = .ok (.getfield 19, 3) := by decide +kernel
theorem dX3_next_12 : decode cX3_next 12 = .ok (.iconst 2, 1) := by decide +kernel
theorem dX3_next_13 : decode cX3_next 13 = .ok (.if_icmp .ne 7, 3) := by decide +kernel
theorem dX3_next_16 : decode cX3_next 16 = .ok (.iconst 1, 1) := by decide +kernel
theorem dX3_next_17 : decode cX3_next 17 = .ok (.goto 4, 3) := by decide +kernel
theorem dX3_next_20 : decode cX3_next 20 = .ok (.iconst 0, 1) := by decide +kernel
theorem dX3_next_21 : decode cX3_next 21 = .ok (.istore_n 1, 1) := by decide +kernel
theorem dX3_next_22 : decode cX3_next 22 = .ok (.aload_n 0, 1) := by decide +kernel
theorem dX3_next_23 : decode cX3_next 23 = .ok (.getfield 25, 3) := by decide +kernel
theorem dX3_next_26 : decode cX3_next 26 = .ok (.istore_n 2, 1) := by decide +kernel
theorem dX3_next_27 : decode cX3_next 27 = .ok (.aload_n 0, 1) := by decide +kernel
theorem dX3_next_28 : decode cX3_next 28 = .ok (.aload_n 0, 1) := by decide +kernel
theorem dX3_next_29 : decode cX3_next 29 = .ok (.getfield 25, 3) := by decide +kernel
theorem dX3_next_32 : decode cX3_next 32 = .ok (.putfield 22, 3) := by decide +kernel
theorem dX3_next_35 : decode cX3_next 35 = .ok (.aload_n 0, 1) := by decide +kernel
theorem dX3_next_36 : decode cX3_next 36 = .ok (.getfield 22, 3) := by decide +kernel
theorem dX3_next_39 : decode cX3_next 39 = .ok (.aload_n 0, 1) := by decide +kernel
theorem dX3_next_40 : decode cX3_next 40 = .ok (.getfield 15, 3) := by decide +kernel
theorem dX3_next_43 : decode cX3_next 43 = .ok (.if_icmp .ge 30, 3) := by decide +kernel
theorem dX3_next_46 : decode cX3_next 46 = .ok (.aload_n 0, 1) := by decide +kernel
theorem dX3_next_47 : decode cX3_next 47 = .ok (.getfield 9, 3) := by decide +kernel
theorem dX3_next_50 : decode cX3_next 50 = .ok (.aload_n 0, 1) := by decide +kernel
theorem dX3_next_51 : decode cX3_next 51 = .ok (.getfield 22, 3) := by decide +kernel
theorem dX3_next_54 : decode cX3_next 54 = .ok (.iaload, 1) := by decide +kernel
theorem dX3_next_55 : decode cX3_next 55 = .ok (.bipush 32, 2) := by decide +kernel
theorem dX3_next_57 : decode cX3_next 57 = .ok (.if_icmp .ne 16, 3) := by decide +kernel
theorem dX3_next_60 : decode cX3_next 60 = .ok (.aload_n 0, 1) := by decide +kernel
theorem dX3_next_61 : decode cX3_next 61 = .ok (.dup, 1) := by decide +kernel
theorem dX3_next_62 : decode cX3_next 62 = .ok (.getfield 22, 3) := by decide +kernel
theorem dX3_next_65 : decode cX3_next 65 = .ok (.iconst 1, 1) := by decide +kernel
theorem dX3_next_66 : decode cX3_next 66 = .ok (.iadd, 1) := by decide +kernel
theorem dX3_next_67 : decode cX3_next 67 = .ok (.putfield 22, 3) := by decide +kernel
theorem dX3_next_70 : decode cX3_next 70 = .ok (.goto (-35), 3) := by decide +kernel
theorem dX3_next_73 : decode cX3_next 73 = .ok (.aload_n 0, 1) := by decide +kernel
theorem dX3_next_74 : decode cX3_next 74 = .ok (.aload_n 0, 1) := by decide +kernel
theorem dX3_next_75 : decode cX3_next 75 = .ok (.getfield 22, 3) := by decide +kernel
theorem dX3_next_78 : decode cX3_next 78 = .ok (.putfield 25, 3) := by decide +kernel
theorem dX3_next_81 : decode cX3_next 81 = .ok (.aload_n 0, 1) := by decide +kernel
theorem dX3_next_82 : decode cX3_next 82 = .ok (.getfield 22, 3) := by decide +kernel
theorem dX3_next_85 : decode cX3_next 85 = .ok (.aload_n 0, 1) := by decide +kernel
theorem dX3_next_86 : decode cX3_next 86 = .ok (.getfield 15, 3) := by decide +kernel
theorem dX3_next_89 : decode cX3_next 89 = .ok (.if_icmp .lt 9, 3) := by decide +kernel
theorem dX3_next_92 : decode cX3_next 92 = .ok (.aload_n 0, 1) := by decide +kernel
theorem dX3_next_93 : decode cX3_next 93 = .ok (.iconst 0, 1) := by decide +kernel
theorem dX3_next_94 : decode cX3_next 94 = .ok (.putfield 19, 3) := by decide +kernel
theorem dX3_next_97 : decode cX3_next 97 = .ok (.return_, 1) := by decide +kernel
theorem dX3_next_98 : decode cX3_next 98 = .ok (.aload_n 0, 1) := by decide +kernel
theorem dX3_next_99 : decode cX3_next 99 = .ok (.aload_n 0, 1) := by decide +kernel
theorem dX3_next_100 : decode cX3_next 100 = .ok (.getfield 9, 3) := by decide +kernel
theorem dX3_next_103 : decode cX3_next 103 = .ok (.aload_n 0, 1) := by decide +kernel
theorem dX3_next_104 : decode cX3_next 104 = .ok (.getfield 22, 3) := by decide +kernel
theorem dX3_next_107 : decode cX3_next 107 = .ok (.iaload, 1) := by decide +kernel
theorem dX3_next_108 : decode cX3_next 108 = .ok (.putfield 28, 3) := by decide +kernel
theorem dX3_next_111 : decode cX3_next 111 = .ok (.aload_n 0, 1) := by decide +kernel
theorem dX3_next_112 : decode cX3_next 112 = .ok (.aload_n 0, 1) := by decide +kernel
theorem dX3_next_113 : decode cX3_next 113 = .ok (.getfield 28, 3) := by decide +kernel
theorem dX3_next_116 : decode cX3_next 116 = .ok (.invokestatic 65, 3) := by decide +kernel
theorem dX3_next_119 : decode cX3_next 119 = .ok (.putfield 19, 3) := by decide +kernel
theorem dX3_next_122 : decode cX3_next 122 = .ok (.aload_n 0, 1) := by decide +kernel
theorem dX3_next_123 : decode cX3_next 123 = .ok (.aload_n 0, 1) := by decide +kernel
theorem dX3_next_124 : decode cX3_next 124 = .ok (.getfield 19, 3) := by decide +kernel
theorem dX3_next_127 : decode cX3_next 127 = .ok (.iconst 3, 1) := by decide +kernel
theorem dX3_next_128 : decode cX3_next 128 = .ok (.if_icmp .ne 12, 3) := by decide +kernel
theorem dX3_next_131 : decode cX3_next 131 = .ok (.aload_n 0, 1) := by decide +kernel
theorem dX3_next_132 : decode cX3_next 132 = .ok (.getfield 22, 3) := by decide +kernel
theorem dX3_next_135 : decode cX3_next 135 = .ok (.iconst 1, 1) := by decide +kernel
theorem dX3_next_136 : decode cX3_next 136 = .ok (.iadd, 1) := by decide +kernel
theorem dX3_next_137 : decode cX3_next 137 = .ok (.goto 7, 3) := by decide +kernel
theorem dX3_next_140 : decode cX3_next 140 = .ok (.aload_n 0, 1) := by decide +kernel
theorem dX3_next_141 : decode cX3_next 141 = .ok (.invokevirtual 69, 3) := by decide +kernel
theorem dX3_next_144 : decode cX3_next 144 = .ok (.putfield 25, 3) := by decide +kernel
theorem dX3_next_147 : decode cX3_next 147 = .ok (.aload_n 0, 1) := by decide +kernel
theorem dX3_next_148 : decode cX3_next 148 = .ok (.getfield 19, 3) := by decide +kernel
theorem dX3_next_151 : decode cX3_next 151 = .ok (.iconst 2, 1) := by decide +kernel
theorem dX3_next_152 : decode cX3_next 152 = .ok (.if_icmp .ne 7, 3) := by decide +kernel
theorem dX3_next_155 : decode cX3_next 155 = .ok (.aload_n 0, 1) := by decide +kernel
theorem dX3_next_156 : decode cX3_next 156 = .ok (.invokevirtual 73, 3) := by decide +kernel
theorem dX3_next_159 : decode cX3_next 159 = .ok (.aload_n 0, 1) := by decide +kernel
theorem dX3_next_160 : decode cX3_next 160 = .ok (.getfield 19, 3) := by decide +kernel
theorem dX3_next_163 : decode cX3_next 163 = .ok (.iconst 3, 1) := by decide +kernel
theorem dX3_next_164 : decode cX3_next 164 = .ok (.if_icmp .eq 20, 3) := by decide +kernel
theorem dX3_next_167 : decode cX3_next 167 = .ok (.iload_n 1, 1) := by decide +kernel
theorem dX3_next_168 : decode cX3_next 168 = .ok (.ifCond .eq 16, 3) := by decide +kernel
theorem dX3_next_171 : decode cX3_next 171 = .ok (.aload_n 0, 1) := by decide +kernel
theorem dX3_next_172 : decode cX3_next 172 = .ok (.getfield 22, 3) := by decide +kernel
theorem dX3_next_175 : decode cX3_next 175 = .ok (.iload_n 2, 1) := by decide +kernel
theorem dX3_next_176 : decode cX3_next 176 = .ok (.if_icmp .ne 8, 3) := by decide +kernel
theorem dX3_next_179 : decode cX3_next 179 = .ok (.aload_n 0, 1) := by decide +kernel
theorem dX3_next_180 : decode cX3_next 180 = .ok (.iconst 4, 1) := by decide +kernel
theorem dX3_next_181 : decode cX3_next 181 = .ok (.putfield 19, 3) := by decide +kernel
theorem dX3_next_184 : decode cX3_next 184 = .ok (.return_, 1) := by decide +kernel
theorem dX3_sortOf_0 : decode cX3_sortOf 0 = .ok (.iload_n 0, 1) := by decide +kernel
theorem dX3_sortOf_1 : decode cX3_sortOf 1 = .ok (.bipush 97, 2) := by decide +kernel
theorem dX3_sortOf_3 : decode cX3_sortOf 3 = .ok (.if_icmp .lt 11, 3) := by decide +kernel
theorem dX3_sortOf_6 : decode cX3_sortOf 6 = .ok (.iload_n 0, 1) := by decide +kernel
theorem dX3_sortOf_7 : decode cX3_sortOf 7 = .ok (.bipush 122, 2) := by decide +kernel
theorem dX3_sortOf_9 : decode cX3_sortOf 9 = .ok (.if_icmp .gt 5, 3) := by decide +kernel
theorem dX3_sortOf_12 : decode cX3_sortOf 12 = .ok (.iconst 1, 1) := by decide +kernel
theorem dX3_sortOf_13 : decode cX3_sortOf 13 = .ok (.ireturn, 1) := by decide +kernel
theorem dX3_sortOf_14 : decode cX3_sortOf 14 = .ok (.iload_n 0, 1) := by decide +kernel
theorem dX3_sortOf_15 : decode cX3_sortOf 15 = .ok (.bipush 48, 2) := by decide +kernel
theorem dX3_sortOf_17 : decode cX3_sortOf 17 = .ok (.if_icmp .lt 13, 3) := by decide +kernel
theorem dX3_sortOf_20 : decode cX3_sortOf 20 = .ok (.iload_n 0, 1) := by decide +kernel
theorem dX3_sortOf_21 : decode cX3_sortOf 21 = .ok (.bipush 57, 2) := by decide +kernel
theorem dX3_sortOf_23 : decode cX3_sortOf 23 = .ok (.if_icmp .gt 7, 3) := by decide +kernel
theorem dX3_sortOf_26 : decode cX3_sortOf 26 = .ok (.iconst 2, 1) := by decide +kernel
theorem dX3_sortOf_27 : decode cX3_sortOf 27 = .ok (.goto 4, 3) := by decide +kernel
theorem dX3_sortOf_30 : decode cX3_sortOf 30 = .ok (.iconst 3, 1) := by decide +kernel
theorem dX3_sortOf_31 : decode cX3_sortOf 31 = .ok (.ireturn, 1) := by decide +kernel
theorem dX3_endOfWord_0 : decode cX3_endOfWord 0 = .ok (.aload_n 0, 1) := by decide +kernel
theorem dX3_endOfWord_1 : decode cX3_endOfWord 1 = .ok (.getfield 22, 3) := by decide +kernel
theorem dX3_endOfWord_4 : decode cX3_endOfWord 4 = .ok (.istore_n 1, 1) := by decide +kernel
theorem dX3_endOfWord_5 : decode cX3_endOfWord 5 = .ok (.iload_n 1, 1) := by decide +kernel
theorem dX3_endOfWord_6 : decode cX3_endOfWord 6 = .ok (.aload_n 0, 1) := by decide +kernel
theorem dX3_endOfWord_7 : decode cX3_endOfWord 7 = .ok (.getfield 15, 3) := by decide +kernel
theorem dX3_endOfWord_10 : decode cX3_endOfWord 10 = .ok (.if_icmp .ge 25, 3) := by decide +kernel
theorem dX3_endOfWord_13 : decode cX3_endOfWord 13 = .ok (.aload_n 0, 1) := by decide +kernel
theorem dX3_endOfWord_14 : decode cX3_endOfWord 14 = .ok (.getfield 9, 3) := by decide +kernel
theorem dX3_endOfWord_17 : decode cX3_endOfWord 17 = .ok (.iload_n 1, 1) := by decide +kernel
theorem dX3_endOfWord_18 : decode cX3_endOfWord 18 = .ok (.iaload, 1) := by decide +kernel
theorem dX3_endOfWord_19 : decode cX3_endOfWord 19 = .ok (.invokestatic 65, 3) := by decide +kernel
theorem dX3_endOfWord_22 : decode cX3_endOfWord 22 = .ok (.aload_n 0, 1) := by decide +kernel
theorem dX3_endOfWord_23 : decode cX3_endOfWord 23 = .ok (.getfield 19, 3) := by decide +kernel
theorem dX3_endOfWord_26 : decode cX3_endOfWord 26 = .ok (.if_icmp .ne 9, 3) := by decide +kernel
theorem dX3_endOfWord_29 : decode cX3_endOfWord 29 = .ok (.iinc 1 1, 3) := by decide +kernel
theorem dX3_endOfWord_32 : decode cX3_endOfWord 32 = .ok (.goto (-27), 3) := by decide +kernel
theorem dX3_endOfWord_35 : decode cX3_endOfWord 35 = .ok (.iload_n 1, 1) := by decide +kernel
theorem dX3_endOfWord_36 : decode cX3_endOfWord 36 = .ok (.ireturn, 1) := by decide +kernel
theorem dX3_readValue_0 : decode cX3_readValue 0 = .ok (.aload_n 0, 1) := by decide +kernel
theorem dX3_readValue_1 : decode cX3_readValue 1 = .ok (.getfield 25, 3) := by decide +kernel
theorem dX3_readValue_4 : decode cX3_readValue 4 = .ok (.aload_n 0, 1) := by decide +kernel
theorem dX3_readValue_5 : decode cX3_readValue 5 = .ok (.getfield 22, 3) := by decide +kernel
theorem dX3_readValue_8 : decode cX3_readValue 8 = .ok (.isub, 1) := by decide +kernel
theorem dX3_readValue_9 : decode cX3_readValue 9 = .ok (.iconst 4, 1) := by decide +kernel
theorem dX3_readValue_10 : decode cX3_readValue 10 = .ok (.if_icmp .le 9, 3) := by decide +kernel
theorem dX3_readValue_13 : decode cX3_readValue 13 = .ok (.aload_n 0, 1) := by decide +kernel
theorem dX3_readValue_14 : decode cX3_readValue 14 = .ok (.iconst 4, 1) := by decide +kernel
theorem dX3_readValue_15 : decode cX3_readValue 15 = .ok (.putfield 19, 3) := by decide +kernel
theorem dX3_readValue_18 : decode cX3_readValue 18 = .ok (.return_, 1) := by decide +kernel
theorem dX3_readValue_19 : decode cX3_readValue 19 = .ok (.aload_n 0, 1) := by decide +kernel
theorem dX3_readValue_20 : decode cX3_readValue 20 = .ok (.iconst 0, 1) := by decide +kernel
theorem dX3_readValue_21 : decode cX3_readValue 21 = .ok (.putfield 28, 3) := by decide +kernel
theorem dX3_readValue_24 : decode cX3_readValue 24 = .ok (.aload_n 0, 1) := by decide +kernel
theorem dX3_readValue_25 : decode cX3_readValue 25 = .ok (.getfield 22, 3) := by decide +kernel
theorem dX3_readValue_28 : decode cX3_readValue 28 = .ok (.istore_n 1, 1) := by decide +kernel
theorem dX3_readValue_29 : decode cX3_readValue 29 = .ok (.iload_n 1, 1) := by decide +kernel
theorem dX3_readValue_30 : decode cX3_readValue 30 = .ok (.aload_n 0, 1) := by decide +kernel
theorem dX3_readValue_31 : decode cX3_readValue 31 = .ok (.getfield 25, 3) := by decide +kernel
theorem dX3_readValue_34 : decode cX3_readValue 34 = .ok (.if_icmp .ge 30, 3) := by decide +kernel
theorem dX3_readValue_37 : decode cX3_readValue 37 = .ok (.aload_n 0, 1) := by decide +kernel
theorem dX3_readValue_38 : decode cX3_readValue 38 = .ok (.aload_n 0, 1) := by decide +kernel
theorem dX3_readValue_39 : decode cX3_readValue 39 = .ok (.getfield 28, 3) := by decide +kernel
theorem dX3_readValue_42 : decode cX3_readValue 42 = .ok (.bipush 10, 2) := by decide +kernel
theorem dX3_readValue_44 : decode cX3_readValue 44 = .ok (.imul, 1) := by decide +kernel
theorem dX3_readValue_45 : decode cX3_readValue 45 = .ok (.aload_n 0, 1) := by decide +kernel
theorem dX3_readValue_46 : decode cX3_readValue 46 = .ok (.getfield 9, 3) := by decide +kernel
theorem dX3_readValue_49 : decode cX3_readValue 49 = .ok (.iload_n 1, 1) := by decide +kernel
theorem dX3_readValue_50 : decode cX3_readValue 50 = .ok (.iaload, 1) := by decide +kernel
theorem dX3_readValue_51 : decode cX3_readValue 51 = .ok (.iadd, 1) := by decide +kernel
theorem dX3_readValue_52 : decode cX3_readValue 52 = .ok (.bipush 48, 2) := by decide +kernel
theorem dX3_readValue_54 : decode cX3_readValue 54 = .ok (.isub, 1) := by decide +kernel
theorem dX3_readValue_55 : decode cX3_readValue 55 = .ok (.putfield 28, 3) := by decide +kernel
theorem dX3_readValue_58 : decode cX3_readValue 58 = .ok (.iinc 1 1, 3) := by decide +kernel
theorem dX3_readValue_61 : decode cX3_readValue 61 = .ok (.goto (-32), 3) := by decide +kernel
theorem dX3_readValue_64 : decode cX3_readValue 64 = .ok (.return_, 1) := by decide +kernel
theorem dX3_readKey_0 : decode cX3_readKey 0 = .ok (.iconst 0, 1) := by decide +kernel
theorem dX3_readKey_1 : decode cX3_readKey 1 = .ok (.istore_n 1, 1) := by decide +kernel
theorem dX3_readKey_2 : decode cX3_readKey 2 = .ok (.iload_n 1, 1) := by decide +kernel
theorem dX3_readKey_3 : decode cX3_readKey 3 = .ok (.iconst 3, 1) := by decide +kernel
theorem dX3_readKey_4 : decode cX3_readKey 4 = .ok (.if_icmp .ge 31, 3) := by decide +kernel
theorem dX3_readKey_7 : decode cX3_readKey 7 = .ok (.aload_n 0, 1) := by decide +kernel
theorem dX3_readKey_8 : decode cX3_readKey 8 = .ok (.iload_n 1, 1) := by decide +kernel
theorem dX3_readKey_9 : decode cX3_readKey 9 = .ok (.invokestatic 76, 3) := by decide +kernel
theorem dX3_readKey_12 : decode cX3_readKey 12 = .ok (.invokevirtual 80, 3) := by decide +kernel
theorem dX3_readKey_15 : decode cX3_readKey 15 = .ok (.ifCond .eq 14, 3) := by decide +kernel
theorem dX3_readKey_18 : decode cX3_readKey 18 = .ok (.aload_n 0, 1) := by decide +kernel
theorem dX3_readKey_19 : decode cX3_readKey 19 = .ok (.iload_n 1, 1) := by decide +kernel
theorem dX3_readKey_20 : decode cX3_readKey 20 = .ok (.putfield 31, 3) := by decide +kernel
theorem dX3_readKey_23 : decode cX3_readKey 23 = .ok (.aload_n 0, 1) := by decide +kernel
theorem dX3_readKey_24 : decode cX3_readKey 24 = .ok (.invokevirtual 43, 3) := by decide +kernel
theorem dX3_readKey_27 : decode cX3_readKey 27 = .ok (.iconst 1, 1) := by decide +kernel
theorem dX3_readKey_28 : decode cX3_readKey 28 = .ok (.ireturn, 1) := by decide +kernel
theorem dX3_readKey_29 : decode cX3_readKey 29 = .ok (.iinc 1 1, 3) := by decide +kernel
theorem dX3_readKey_32 : decode cX3_readKey 32 = .ok (.goto (-30), 3) := by decide +kernel
theorem dX3_readKey_35 : decode cX3_readKey 35 = .ok (.iconst 0, 1) := by decide +kernel
theorem dX3_readKey_36 : decode cX3_readKey 36 = .ok (.ireturn, 1) := by decide +kernel
theorem dX3_isWord_0 : decode cX3_isWord 0 = .ok (.aload_n 0, 1) := by decide +kernel
theorem dX3_isWord_1 : decode cX3_isWord 1 = .ok (.getfield 19, 3) := by decide +kernel
theorem dX3_isWord_4 : decode cX3_isWord 4 = .ok (.iconst 1, 1) := by decide +kernel
theorem dX3_isWord_5 : decode cX3_isWord 5 = .ok (.if_icmp .ne 19, 3) := by decide +kernel
theorem dX3_isWord_8 : decode cX3_isWord 8 = .ok (.aload_n 0, 1) := by decide +kernel
theorem dX3_isWord_9 : decode cX3_isWord 9 = .ok (.getfield 25, 3) := by decide +kernel
theorem dX3_isWord_12 : decode cX3_isWord 12 = .ok (.aload_n 0, 1) := by decide +kernel
theorem dX3_isWord_13 : decode cX3_isWord 13 = .ok (.getfield 22, 3) := by decide +kernel
theorem dX3_isWord_16 : decode cX3_isWord 16 = .ok (.isub, 1) := by decide +kernel
theorem dX3_isWord_17 : decode cX3_isWord 17 = .ok (.aload_n 1, 1) := by decide +kernel
theorem dX3_isWord_18 : decode cX3_isWord 18 = .ok (.invokevirtual 84, 3) := by decide +kernel
theorem dX3_isWord_21 : decode cX3_isWord 21 = .ok (.if_icmp .eq 5, 3) := by decide +kernel
theorem dX3_isWord_24 : decode cX3_isWord 24 = .ok (.iconst 0, 1) := by decide +kernel
theorem dX3_isWord_25 : decode cX3_isWord 25 = .ok (.ireturn, 1) := by decide +kernel
theorem dX3_isWord_26 : decode cX3_isWord 26 = .ok (.iconst 0, 1) := by decide +kernel
theorem dX3_isWord_27 : decode cX3_isWord 27 = .ok (.istore_n 2, 1) := by decide +kernel
theorem dX3_isWord_28 : decode cX3_isWord 28 = .ok (.iload_n 2, 1) := by decide +kernel
theorem dX3_isWord_29 : decode cX3_isWord 29 = .ok (.aload_n 1, 1) := by decide +kernel
theorem dX3_isWord_30 : decode cX3_isWord 30 = .ok (.invokevirtual 84, 3) := by decide +kernel
theorem dX3_isWord_33 : decode cX3_isWord 33 = .ok (.if_icmp .ge 30, 3) := by decide +kernel
theorem dX3_isWord_36 : decode cX3_isWord 36 = .ok (.aload_n 0, 1) := by decide +kernel
theorem dX3_isWord_37 : decode cX3_isWord 37 = .ok (.getfield 9, 3) := by decide +kernel
theorem dX3_isWord_40 : decode cX3_isWord 40 = .ok (.aload_n 0, 1) := by decide +kernel
theorem dX3_isWord_41 : decode cX3_isWord 41 = .ok (.getfield 22, 3) := by decide +kernel
theorem dX3_isWord_44 : decode cX3_isWord 44 = .ok (.iload_n 2, 1) := by decide +kernel
theorem dX3_isWord_45 : decode cX3_isWord 45 = .ok (.iadd, 1) := by decide +kernel
theorem dX3_isWord_46 : decode cX3_isWord 46 = .ok (.iaload, 1) := by decide +kernel
theorem dX3_isWord_47 : decode cX3_isWord 47 = .ok (.aload_n 1, 1) := by decide +kernel
theorem dX3_isWord_48 : decode cX3_isWord 48 = .ok (.iload_n 2, 1) := by decide +kernel
theorem dX3_isWord_49 : decode cX3_isWord 49 = .ok (.invokevirtual 88, 3) := by decide +kernel
theorem dX3_isWord_52 : decode cX3_isWord 52 = .ok (.if_icmp .eq 5, 3) := by decide +kernel
theorem dX3_isWord_55 : decode cX3_isWord 55 = .ok (.iconst 0, 1) := by decide +kernel
theorem dX3_isWord_56 : decode cX3_isWord 56 = .ok (.ireturn, 1) := by decide +kernel
theorem dX3_isWord_57 : decode cX3_isWord 57 = .ok (.iinc 2 1, 3) := by decide +kernel
theorem dX3_isWord_60 : decode cX3_isWord 60 = .ok (.goto (-32), 3) := by decide +kernel
theorem dX3_isWord_63 : decode cX3_isWord 63 = .ok (.iconst 1, 1) := by decide +kernel
theorem dX3_isWord_64 : decode cX3_isWord 64 = .ok (.ireturn, 1) := by decide +kernel
theorem dX3_nameOfKey_0 : decode cX3_nameOfKey 0 = .ok (.iload_n 0, 1) := by decide +kernel
theorem dX3_nameOfKey_1 : decode cX3_nameOfKey 1 = .ok (.lookupswitch 33 #[(0, 27), (1, 30)], 27) := by decide +kernel
theorem dX3_nameOfKey_28 : decode cX3_nameOfKey 28 = .ok (.ldc 92, 2) := by decide +kernel
theorem dX3_nameOfKey_30 : decode cX3_nameOfKey 30 = .ok (.areturn, 1) := by decide +kernel
theorem dX3_nameOfKey_31 : decode cX3_nameOfKey 31 = .ok (.ldc 94, 2) := by decide +kernel
theorem dX3_nameOfKey_33 : decode cX3_nameOfKey 33 = .ok (.areturn, 1) := by decide +kernel
theorem dX3_nameOfKey_34 : decode cX3_nameOfKey 34 = .ok (.ldc 96, 2) := by decide +kernel
theorem dX3_nameOfKey_36 : decode cX3_nameOfKey 36 = .ok (.areturn, 1) := by decide +kernel
theorem dX3_namesOfKey_0 : decode cX3_namesOfKey 0 = .ok (.iload_n 0, 1) := by decide +kernel
theorem dX3_namesOfKey_1 : decode cX3_namesOfKey 1 = .ok (.lookupswitch 33 #[(0, 27), (1, 30)], 27) := by decide +kernel
theorem dX3_namesOfKey_28 : decode cX3_namesOfKey 28 = .ok (.ldc 98, 2) := by decide +kernel
theorem dX3_namesOfKey_30 : decode cX3_namesOfKey 30 = .ok (.areturn, 1) := by decide +kernel
theorem dX3_namesOfKey_31 : decode cX3_namesOfKey 31 = .ok (.ldc 100, 2) := by decide +kernel
theorem dX3_namesOfKey_33 : decode cX3_namesOfKey 33 = .ok (.areturn, 1) := by decide +kernel
theorem dX3_namesOfKey_34 : decode cX3_namesOfKey 34 = .ok (.ldc 102, 2) := by decide +kernel
theorem dX3_namesOfKey_36 : decode cX3_namesOfKey 36 = .ok (.areturn, 1) := by decide +kernel
theorem dX3_signsOf_0 : decode cX3_signsOf 0 = .ok (.iload_n 0, 1) := by decide +kernel
theorem dX3_signsOf_1 : decode cX3_signsOf 1 = .ok (.tableswitch 43 0 3 #[31, 34, 37, 40], 31) := by decide +kernel
theorem dX3_signsOf_32 : decode cX3_signsOf 32 = .ok (.ldc 104, 2) := by decide +kernel
theorem dX3_signsOf_34 : decode cX3_signsOf 34 = .ok (.areturn, 1) := by decide +kernel
theorem dX3_signsOf_35 : decode cX3_signsOf 35 = .ok (.ldc 106, 2) := by decide +kernel
theorem dX3_signsOf_37 : decode cX3_signsOf 37 = .ok (.areturn, 1) := by decide +kernel
theorem dX3_signsOf_38 : decode cX3_signsOf 38 = .ok (.ldc 108, 2) := by decide +kernel
theorem dX3_signsOf_40 : decode cX3_signsOf 40 = .ok (.areturn, 1) := by decide +kernel
theorem dX3_signsOf_41 : decode cX3_signsOf 41 = .ok (.ldc 110, 2) := by decide +kernel
theorem dX3_signsOf_43 : decode cX3_signsOf 43 = .ok (.areturn, 1) := by decide +kernel
theorem dX3_signsOf_44 : decode cX3_signsOf 44 = .ok (.ldc 112, 2) := by decide +kernel
theorem dX3_signsOf_46 : decode cX3_signsOf 46 = .ok (.areturn, 1) := by decide +kernel
theorem dX3_readChain_0 : decode cX3_readChain 0 = .ok (.iload_n 1, 1) := by decide +kernel
theorem dX3_readChain_1 : decode cX3_readChain 1 = .ok (.iconst 4, 1) := by decide +kernel
theorem dX3_readChain_2 : decode cX3_readChain 2 = .ok (.if_icmp .le 10, 3) := by decide +kernel
theorem dX3_readChain_5 : decode cX3_readChain 5 = .ok (.aload_n 0, 1) := by decide +kernel
theorem dX3_readChain_6 : decode cX3_readChain 6 = .ok (.iload_n 2, 1) := by decide +kernel
theorem dX3_readChain_7 : decode cX3_readChain 7 = .ok (.iload_n 3, 1) := by decide +kernel
theorem dX3_readChain_8 : decode cX3_readChain 8 = .ok (.invokevirtual 114, 3) := by decide +kernel
theorem dX3_readChain_11 : decode cX3_readChain 11 = .ok (.ireturn, 1) := by decide +kernel
theorem dX3_readChain_12 : decode cX3_readChain 12 = .ok (.aload_n 0, 1) := by decide +kernel
theorem dX3_readChain_13 : decode cX3_readChain 13 = .ok (.iload_n 1, 1) := by decide +kernel
theorem dX3_readChain_14 : decode cX3_readChain 14 = .ok (.iconst 1, 1) := by decide +kernel
theorem dX3_readChain_15 : decode cX3_readChain 15 = .ok (.iadd, 1) := by decide +kernel
theorem dX3_readChain_16 : decode cX3_readChain 16 = .ok (.iload_n 2, 1) := by decide +kernel
theorem dX3_readChain_17 : decode cX3_readChain 17 = .ok (.iload_n 3, 1) := by decide +kernel
theorem dX3_readChain_18 : decode cX3_readChain 18 = .ok (.invokevirtual 50, 3) := by decide +kernel
theorem dX3_readChain_21 : decode cX3_readChain 21 = .ok (.ifCond .ne 5, 3) := by decide +kernel
theorem dX3_readChain_24 : decode cX3_readChain 24 = .ok (.iconst 0, 1) := by decide +kernel
theorem dX3_readChain_25 : decode cX3_readChain 25 = .ok (.ireturn, 1) := by decide +kernel
theorem dX3_readChain_26 : decode cX3_readChain 26 = .ok (.iload_n 1, 1) := by decide +kernel
theorem dX3_readChain_27 : decode cX3_readChain 27 = .ok (.iconst 2, 1) := by decide +kernel
theorem dX3_readChain_28 : decode cX3_readChain 28 = .ok (.if_icmp .ne 7, 3) := by decide +kernel
theorem dX3_readChain_31 : decode cX3_readChain 31 = .ok (.iconst 1, 1) := by decide +kernel
theorem dX3_readChain_32 : decode cX3_readChain 32 = .ok (.goto 5, 3) := by decide +kernel
theorem dX3_readChain_35 : decode cX3_readChain 35 = .ok (.bipush 96, 2) := by decide +kernel
theorem dX3_readChain_37 : decode cX3_readChain 37 = .ok (.istore 4, 2) := by decide +kernel
theorem dX3_readChain_39 : decode cX3_readChain 39 = .ok (.iconst 0, 1) := by decide +kernel
theorem dX3_readChain_40 : decode cX3_readChain 40 = .ok (.istore 5, 2) := by decide +kernel
theorem dX3_readChain_42 : decode cX3_readChain 42 = .ok (.iload 5, 2) := by decide +kernel
theorem dX3_readChain_44 : decode cX3_readChain 44 = .ok (.iload 4, 2) := by decide +kernel
theorem dX3_readChain_46 : decode cX3_readChain 46 = .ok (.if_icmp .ge 55, 3) := by decide +kernel
theorem dX3_readChain_49 : decode cX3_readChain 49 = .ok (.aload_n 0, 1) := by decide +kernel
theorem dX3_readChain_50 : decode cX3_readChain 50 = .ok (.iload_n 1, 1) := by decide +kernel
theorem dX3_readChain_51 : decode cX3_readChain 51 = .ok (.invokestatic 118, 3) := by decide +kernel
theorem dX3_readChain_54 : decode cX3_readChain 54 = .ok (.invokevirtual 121, 3) := by decide +kernel
theorem dX3_readChain_57 : decode cX3_readChain 57 = .ok (.ifCond .eq 44, 3) := by decide +kernel
theorem dX3_readChain_60 : decode cX3_readChain 60 = .ok (.aload_n 0, 1) := by decide +kernel
theorem dX3_readChain_61 : decode cX3_readChain 61 = .ok (.getfield 28, 3) := by decide +kernel
theorem dX3_readChain_64 : decode cX3_readChain 64 = .ok (.istore 6, 2) := by decide +kernel
theorem dX3_readChain_66 : decode cX3_readChain 66 = .ok (.aload_n 0, 1) := by decide +kernel
theorem dX3_readChain_67 : decode cX3_readChain 67 = .ok (.invokevirtual 43, 3) := by decide +kernel
theorem dX3_readChain_70 : decode cX3_readChain 70 = .ok (.aload_n 0, 1) := by decide +kernel
theorem dX3_readChain_71 : decode cX3_readChain 71 = .ok (.iload_n 1, 1) := by decide +kernel
theorem dX3_readChain_72 : decode cX3_readChain 72 = .ok (.iconst 1, 1) := by decide +kernel
theorem dX3_readChain_73 : decode cX3_readChain 73 = .ok (.iadd, 1) := by decide +kernel
theorem dX3_readChain_74 : decode cX3_readChain 74 = .ok (.iload_n 2, 1) := by decide +kernel
theorem dX3_readChain_75 : decode cX3_readChain 75 = .ok (.iload_n 3, 1) := by decide +kernel
theorem dX3_readChain_76 : decode cX3_readChain 76 = .ok (.invokevirtual 50, 3) := by decide +kernel
theorem dX3_readChain_79 : decode cX3_readChain 79 = .ok (.ifCond .ne 5, 3) := by decide +kernel
theorem dX3_readChain_82 : decode cX3_readChain 82 = .ok (.iconst 0, 1) := by decide +kernel
theorem dX3_readChain_83 : decode cX3_readChain 83 = .ok (.ireturn, 1) := by decide +kernel
theorem dX3_readChain_84 : decode cX3_readChain 84 = .ok (.aload_n 0, 1) := by decide +kernel
theorem dX3_readChain_85 : decode cX3_readChain 85 = .ok (.sipush 20000, 3) := by decide +kernel
theorem dX3_readChain_88 : decode cX3_readChain 88 = .ok (.iload 6, 2) := by decide +kernel
theorem dX3_readChain_90 : decode cX3_readChain 90 = .ok (.iadd, 1) := by decide +kernel
theorem dX3_readChain_91 : decode cX3_readChain 91 = .ok (.invokevirtual 124, 3) := by decide +kernel
theorem dX3_readChain_94 : decode cX3_readChain 94 = .ok (.pop, 1) := by decide +kernel
theorem dX3_readChain_95 : decode cX3_readChain 95 = .ok (.iinc 5 1, 3) := by decide +kernel
theorem dX3_readChain_98 : decode cX3_readChain 98 = .ok (.goto (-56), 3) := by decide +kernel
theorem dX3_readChain_101 : decode cX3_readChain 101 = .ok (.iconst 1, 1) := by decide +kernel
theorem dX3_readChain_102 : decode cX3_readChain 102 = .ok (.ireturn, 1) := by decide +kernel
theorem dX3_isOneOf_0 : decode cX3_isOneOf 0 = .ok (.aload_n 0, 1) := by decide +kernel
theorem dX3_isOneOf_1 : decode cX3_isOneOf 1 = .ok (.getfield 19, 3) := by decide +kernel
theorem dX3_isOneOf_4 : decode cX3_isOneOf 4 = .ok (.iconst 3, 1) := by decide +kernel
theorem dX3_isOneOf_5 : decode cX3_isOneOf 5 = .ok (.if_icmp .ne 19, 3) := by decide +kernel
theorem dX3_isOneOf_8 : decode cX3_isOneOf 8 = .ok (.aload_n 1, 1) := by decide +kernel
theorem dX3_isOneOf_9 : decode cX3_isOneOf 9 = .ok (.aload_n 0, 1) := by decide +kernel
theorem dX3_isOneOf_10 : decode cX3_isOneOf 10 = .ok (.getfield 28, 3) := by decide +kernel
theorem dX3_isOneOf_13 : decode cX3_isOneOf 13 = .ok (.i2c, 1) := by decide +kernel
theorem dX3_isOneOf_14 : decode cX3_isOneOf 14 = .ok (.invokevirtual 128, 3) := by decide +kernel
theorem dX3_isOneOf_17 : decode cX3_isOneOf 17 = .ok (.ifCond .lt 7, 3) := by decide +kernel
theorem dX3_isOneOf_20 : decode cX3_isOneOf 20 = .ok (.iconst 1, 1) := by decide +kernel
theorem dX3_isOneOf_21 : decode cX3_isOneOf 21 = .ok (.goto 4, 3) := by decide +kernel
theorem dX3_isOneOf_24 : decode cX3_isOneOf 24 = .ok (.iconst 0, 1) := by decide +kernel
theorem dX3_isOneOf_25 : decode cX3_isOneOf 25 = .ok (.ireturn, 1) := by decide +kernel
theorem dX3_readPiece_0 : decode cX3_readPiece 0 = .ok (.aload_n 0, 1) := by decide +kernel
theorem dX3_readPiece_1 : decode cX3_readPiece 1 = .ok (.getfield 19, 3) := by decide +kernel
theorem dX3_readPiece_4 : decode cX3_readPiece 4 = .ok (.iconst 2, 1) := by decide +kernel
theorem dX3_readPiece_5 : decode cX3_readPiece 5 = .ok (.if_icmp .ne 12, 3) := by decide +kernel
theorem dX3_readPiece_8 : decode cX3_readPiece 8 = .ok (.aload_n 0, 1) := by decide +kernel
theorem dX3_readPiece_9 : decode cX3_readPiece 9 = .ok (.aload_n 0, 1) := by decide +kernel
theorem dX3_readPiece_10 : decode cX3_readPiece 10 = .ok (.getfield 28, 3) := by decide +kernel
theorem dX3_readPiece_13 : decode cX3_readPiece 13 = .ok (.invokevirtual 131, 3) := by decide +kernel
theorem dX3_readPiece_16 : decode cX3_readPiece 16 = .ok (.ireturn, 1) := by decide +kernel
theorem dX3_readPiece_17 : decode cX3_readPiece 17 = .ok (.aload_n 0, 1) := by decide +kernel
theorem dX3_readPiece_18 : decode cX3_readPiece 18 = .ok (.getfield 19, 3) := by decide +kernel
theorem dX3_readPiece_21 : decode cX3_readPiece 21 = .ok (.iconst 1, 1) := by decide +kernel
theorem dX3_readPiece_22 : decode cX3_readPiece 22 = .ok (.if_icmp .ne 54, 3) := by decide +kernel
theorem dX3_readPiece_25 : decode cX3_readPiece 25 = .ok (.aload_n 0, 1) := by decide +kernel
theorem dX3_readPiece_26 : decode cX3_readPiece 26 = .ok (.getfield 31, 3) := by decide +kernel
theorem dX3_readPiece_29 : decode cX3_readPiece 29 = .ok (.invokestatic 134, 3) := by decide +kernel
theorem dX3_readPiece_32 : decode cX3_readPiece 32 = .ok (.aload_n 0, 1) := by decide +kernel
theorem dX3_readPiece_33 : decode cX3_readPiece 33 = .ok (.getfield 28, 3) := by decide +kernel
theorem dX3_readPiece_36 : decode cX3_readPiece 36 = .ok (.i2c, 1) := by decide +kernel
theorem dX3_readPiece_37 : decode cX3_readPiece 37 = .ok (.invokevirtual 128, 3) := by decide +kernel
theorem dX3_readPiece_40 : decode cX3_readPiece 40 = .ok (.istore_n 3, 1) := by decide +kernel
theorem dX3_readPiece_41 : decode cX3_readPiece 41 = .ok (.aload_n 0, 1) := by decide +kernel
theorem dX3_readPiece_42 : decode cX3_readPiece 42 = .ok (.getfield 25, 3) := by decide +kernel
theorem dX3_readPiece_45 : decode cX3_readPiece 45 = .ok (.aload_n 0, 1) := by decide +kernel
theorem dX3_readPiece_46 : decode cX3_readPiece 46 = .ok (.getfield 22, 3) := by decide +kernel
theorem dX3_readPiece_49 : decode cX3_readPiece 49 = .ok (.isub, 1) := by decide +kernel
theorem dX3_readPiece_50 : decode cX3_readPiece 50 = .ok (.iconst 1, 1) := by decide +kernel
theorem dX3_readPiece_51 : decode cX3_readPiece 51 = .ok (.if_icmp .ne 23, 3) := by decide +kernel
theorem dX3_readPiece_54 : decode cX3_readPiece 54 = .ok (.iload_n 3, 1) := by decide +kernel
theorem dX3_readPiece_55 : decode cX3_readPiece 55 = .ok (.ifCond .lt 19, 3) := by decide +kernel
theorem dX3_readPiece_58 : decode cX3_readPiece 58 = .ok (.aload_n 0, 1) := by decide +kernel
theorem dX3_readPiece_59 : decode cX3_readPiece 59 = .ok (.sipush 10000, 3) := by decide +kernel
theorem dX3_readPiece_62 : decode cX3_readPiece 62 = .ok (.iload_n 3, 1) := by decide +kernel
theorem dX3_readPiece_63 : decode cX3_readPiece 63 = .ok (.iadd, 1) := by decide +kernel
theorem dX3_readPiece_64 : decode cX3_readPiece 64 = .ok (.invokevirtual 131, 3) := by decide +kernel
theorem dX3_readPiece_67 : decode cX3_readPiece 67 = .ok (.ifCond .eq 7, 3) := by decide +kernel
theorem dX3_readPiece_70 : decode cX3_readPiece 70 = .ok (.iconst 1, 1) := by decide +kernel
theorem dX3_readPiece_71 : decode cX3_readPiece 71 = .ok (.goto 4, 3) := by decide +kernel
theorem dX3_readPiece_74 : decode cX3_readPiece 74 = .ok (.iconst 0, 1) := by decide +kernel
theorem dX3_readPiece_75 : decode cX3_readPiece 75 = .ok (.ireturn, 1) := by decide +kernel
theorem dX3_readPiece_76 : decode cX3_readPiece 76 = .ok (.aload_n 0, 1) := by decide +kernel
theorem dX3_readPiece_77 : decode cX3_readPiece 77 = .ok (.ldc 137, 2) := by decide +kernel
theorem dX3_readPiece_79 : decode cX3_readPiece 79 = .ok (.invokevirtual 121, 3) := by decide +kernel
theorem dX3_readPiece_82 : decode cX3_readPiece 82 = .ok (.ifCond .eq 40, 3) := by decide +kernel
theorem dX3_readPiece_85 : decode cX3_readPiece 85 = .ok (.iload_n 2, 1) := by decide +kernel
theorem dX3_readPiece_86 : decode cX3_readPiece 86 = .ok (.bipush 8, 2) := by decide +kernel
theorem dX3_readPiece_88 : decode cX3_readPiece 88 = .ok (.if_icmp .ge 34, 3) := by decide +kernel
theorem dX3_readPiece_91 : decode cX3_readPiece 91 = .ok (.aload_n 0, 1) := by decide +kernel
theorem dX3_readPiece_92 : decode cX3_readPiece 92 = .ok (.invokevirtual 43, 3) := by decide +kernel
theorem dX3_readPiece_95 : decode cX3_readPiece 95 = .ok (.aload_n 0, 1) := by decide +kernel
theorem dX3_readPiece_96 : decode cX3_readPiece 96 = .ok (.iload_n 1, 1) := by decide +kernel
theorem dX3_readPiece_97 : decode cX3_readPiece 97 = .ok (.iload_n 2, 1) := by decide +kernel
theorem dX3_readPiece_98 : decode cX3_readPiece 98 = .ok (.iconst 1, 1) := by decide +kernel
theorem dX3_readPiece_99 : decode cX3_readPiece 99 = .ok (.iadd, 1) := by decide +kernel
theorem dX3_readPiece_100 : decode cX3_readPiece 100 = .ok (.invokevirtual 114, 3) := by decide +kernel
theorem dX3_readPiece_103 : decode cX3_readPiece 103 = .ok (.ifCond .eq 17, 3) := by decide +kernel
theorem dX3_readPiece_106 : decode cX3_readPiece 106 = .ok (.aload_n 0, 1) := by decide +kernel
theorem dX3_readPiece_107 : decode cX3_readPiece 107 = .ok (.sipush 20033, 3) := by decide +kernel
theorem dX3_readPiece_110 : decode cX3_readPiece 110 = .ok (.invokevirtual 124, 3) := by decide +kernel
theorem dX3_readPiece_113 : decode cX3_readPiece 113 = .ok (.ifCond .eq 7, 3) := by decide +kernel
theorem dX3_readPiece_116 : decode cX3_readPiece 116 = .ok (.iconst 1, 1) := by decide +kernel
theorem dX3_readPiece_117 : decode cX3_readPiece 117 = .ok (.goto 4, 3) := by decide +kernel
theorem dX3_readPiece_120 : decode cX3_readPiece 120 = .ok (.iconst 0, 1) := by decide +kernel
theorem dX3_readPiece_121 : decode cX3_readPiece 121 = .ok (.ireturn, 1) := by decide +kernel
theorem dX3_readPiece_122 : decode cX3_readPiece 122 = .ok (.aload_n 0, 1) := by decide +kernel
theorem dX3_readPiece_123 : decode cX3_readPiece 123 = .ok (.ldc 139, 2) := by decide +kernel
theorem dX3_readPiece_125 : decode cX3_readPiece 125 = .ok (.invokevirtual 121, 3) := by decide +kernel
theorem dX3_readPiece_128 : decode cX3_readPiece 128 = .ok (.ifCond .eq 38, 3) := by decide +kernel
theorem dX3_readPiece_131 : decode cX3_readPiece 131 = .ok (.iload_n 1, 1) := by decide +kernel
theorem dX3_readPiece_132 : decode cX3_readPiece 132 = .ok (.bipush 8, 2) := by decide +kernel
theorem dX3_readPiece_134 : decode cX3_readPiece 134 = .ok (.if_icmp .ge 32, 3) := by decide +kernel
theorem dX3_readPiece_137 : decode cX3_readPiece 137 = .ok (.aload_n 0, 1) := by decide +kernel
theorem dX3_readPiece_138 : decode cX3_readPiece 138 = .ok (.invokevirtual 43, 3) := by decide +kernel
theorem dX3_readPiece_141 : decode cX3_readPiece 141 = .ok (.aload_n 0, 1) := by decide +kernel
theorem dX3_readPiece_142 : decode cX3_readPiece 142 = .ok (.iconst 0, 1) := by decide +kernel
theorem dX3_readPiece_143 : decode cX3_readPiece 143 = .ok (.iload_n 1, 1) := by decide +kernel
theorem dX3_readPiece_144 : decode cX3_readPiece 144 = .ok (.iconst 1, 1) := by decide +kernel
theorem dX3_readPiece_145 : decode cX3_readPiece 145 = .ok (.iadd, 1) := by decide +kernel
theorem dX3_readPiece_146 : decode cX3_readPiece 146 = .ok (.iload_n 2, 1) := by decide +kernel
theorem dX3_readPiece_147 : decode cX3_readPiece 147 = .ok (.invokevirtual 50, 3) := by decide +kernel
theorem dX3_readPiece_150 : decode cX3_readPiece 150 = .ok (.ifCond .eq 14, 3) := by decide +kernel
theorem dX3_readPiece_153 : decode cX3_readPiece 153 = .ok (.aload_n 0, 1) := by decide +kernel
theorem dX3_readPiece_154 : decode cX3_readPiece 154 = .ok (.invokevirtual 141, 3) := by decide +kernel
theorem dX3_readPiece_157 : decode cX3_readPiece 157 = .ok (.ifCond .eq 7, 3) := by decide +kernel
theorem dX3_readPiece_160 : decode cX3_readPiece 160 = .ok (.iconst 1, 1) := by decide +kernel
theorem dX3_readPiece_161 : decode cX3_readPiece 161 = .ok (.goto 4, 3) := by decide +kernel
theorem dX3_readPiece_164 : decode cX3_readPiece 164 = .ok (.iconst 0, 1) := by decide +kernel
theorem dX3_readPiece_165 : decode cX3_readPiece 165 = .ok (.ireturn, 1) := by decide +kernel
theorem dX3_readPiece_166 : decode cX3_readPiece 166 = .ok (.iconst 0, 1) := by decide +kernel
theorem dX3_readPiece_167 : decode cX3_readPiece 167 = .ok (.ireturn, 1) := by decide +kernel
theorem dX3_readClosing_0 : decode cX3_readClosing 0 = .ok (.aload_n 0, 1) := by decide +kernel
theorem dX3_readClosing_1 : decode cX3_readClosing 1 = .ok (.ldc 144, 2) := by decide +kernel
theorem dX3_readClosing_3 : decode cX3_readClosing 3 = .ok (.invokevirtual 121, 3) := by decide +kernel
theorem dX3_readClosing_6 : decode cX3_readClosing 6 = .ok (.ifCond .ne 5, 3) := by decide +kernel
theorem dX3_readClosing_9 : decode cX3_readClosing 9 = .ok (.iconst 0, 1) := by decide +kernel
theorem dX3_readClosing_10 : decode cX3_readClosing 10 = .ok (.ireturn, 1) := by decide +kernel
theorem dX3_readClosing_11 : decode cX3_readClosing 11 = .ok (.aload_n 0, 1) := by decide +kernel
theorem dX3_readClosing_12 : decode cX3_readClosing 12 = .ok (.invokevirtual 43, 3) := by decide +kernel
theorem dX3_readClosing_15 : decode cX3_readClosing 15 = .ok (.iconst 1, 1) := by decide +kernel
theorem dX3_readClosing_16 : decode cX3_readClosing 16 = .ok (.ireturn, 1) := by decide +kernel
theorem dX3_addLeaf_0 : decode cX3_addLeaf 0 = .ok (.aload_n 0, 1) := by decide +kernel
theorem dX3_addLeaf_1 : decode cX3_addLeaf 1 = .ok (.dup, 1) := by decide +kernel
theorem dX3_addLeaf_2 : decode cX3_addLeaf 2 = .ok (.getfield 34, 3) := by decide +kernel
theorem dX3_addLeaf_5 : decode cX3_addLeaf 5 = .ok (.iconst 1, 1) := by decide +kernel
theorem dX3_addLeaf_6 : decode cX3_addLeaf 6 = .ok (.iadd, 1) := by decide +kernel
theorem dX3_addLeaf_7 : decode cX3_addLeaf 7 = .ok (.putfield 34, 3) := by decide +kernel
theorem dX3_addLeaf_10 : decode cX3_addLeaf 10 = .ok (.aload_n 0, 1) := by decide +kernel
theorem dX3_addLeaf_11 : decode cX3_addLeaf 11 = .ok (.invokevirtual 43, 3) := by decide +kernel
theorem dX3_addLeaf_14 : decode cX3_addLeaf 14 = .ok (.aload_n 0, 1) := by decide +kernel
theorem dX3_addLeaf_15 : decode cX3_addLeaf 15 = .ok (.iload_n 1, 1) := by decide +kernel
theorem dX3_addLeaf_16 : decode cX3_addLeaf 16 = .ok (.invokevirtual 124, 3) := by decide +kernel
theorem dX3_addLeaf_19 : decode cX3_addLeaf 19 = .ok (.ireturn, 1) := by decide +kernel
theorem dX3_add_0 : decode cX3_add 0 = .ok (.aload_n 0, 1) := by decide +kernel
theorem dX3_add_1 : decode cX3_add 1 = .ok (.getfield 40, 3) := by decide +kernel
theorem dX3_add_4 : decode cX3_add 4 = .ok (.bipush 96, 2) := by decide +kernel
theorem dX3_add_6 : decode cX3_add 6 = .ok (.if_icmp .lt 5, 3) := by decide +kernel
theorem dX3_add_9 : decode cX3_add 9 = .ok (.iconst 0, 1) := by decide +kernel
theorem dX3_add_10 : decode cX3_add 10 = .ok (.ireturn, 1) := by decide +kernel
theorem dX3_add_11 : decode cX3_add 11 = .ok (.aload_n 0, 1) := by decide +kernel
theorem dX3_add_12 : decode cX3_add 12 = .ok (.getfield 37, 3) := by decide +kernel
theorem dX3_add_15 : decode cX3_add 15 = .ok (.aload_n 0, 1) := by decide +kernel
theorem dX3_add_16 : decode cX3_add 16 = .ok (.getfield 40, 3) := by decide +kernel
theorem dX3_add_19 : decode cX3_add 19 = .ok (.iload_n 1, 1) := by decide +kernel
theorem dX3_add_20 : decode cX3_add 20 = .ok (.iastore, 1) := by decide +kernel
theorem dX3_add_21 : decode cX3_add 21 = .ok (.aload_n 0, 1) := by decide +kernel
theorem dX3_add_22 : decode cX3_add 22 = .ok (.dup, 1) := by decide +kernel
theorem dX3_add_23 : decode cX3_add 23 = .ok (.getfield 40, 3) := by decide +kernel
theorem dX3_add_26 : decode cX3_add 26 = .ok (.iconst 1, 1) := by decide +kernel
theorem dX3_add_27 : decode cX3_add 27 = .ok (.iadd, 1) := by decide +kernel
theorem dX3_add_28 : decode cX3_add 28 = .ok (.putfield 40, 3) := by decide +kernel
theorem dX3_add_31 : decode cX3_add 31 = .ok (.iconst 1, 1) := by decide +kernel
theorem dX3_add_32 : decode cX3_add 32 = .ok (.ireturn, 1) := by decide +kernel
theorem dX4_init_0 : decode cX4_init 0 = .ok (.aload_n 0, 1) := by decide +kernel
theorem dX4_init_1 : decode cX4_init 1 = .ok (.invokespecial 3, 3) := by decide +kernel
theorem dX4_init_4 : decode cX4_init 4 = .ok (.aload_n 0, 1) := by decide +kernel
theorem dX4_init_5 : decode cX4_init 5 = .ok (.bipush 24, 2) := by decide +kernel
theorem dX4_init_7 : decode cX4_init 7 = .ok (.newarray .int, 2) := by decide +kernel
theorem dX4_init_9 : decode cX4_init 9 = .ok (.putfield 9, 3) := by decide +kernel
theorem dX4_init_12 : decode cX4_init 12 = .ok (.aload_n 0, 1) := by decide +kernel
theorem dX4_init_13 : decode cX4_init 13 = .ok (.iconst (-1), 1) := by decide +kernel
theorem dX4_init_14 : decode cX4_init 14 = .ok (.putfield 15, 3) := by decide +kernel
theorem dX4_init_17 : decode cX4_init 17 = .ok (.aload_n 0, 1) := by decide +kernel
theorem dX4_init_18 : decode cX4_init 18 = .ok (.iconst 0, 1) := by decide +kernel
theorem dX4_init_19 : decode cX4_init 19 = .ok (.putfield 19, 3) := by decide +kernel
theorem dX4_init_22 : decode cX4_init 22 = .ok (.return_, 1) := by decide +kernel
theorem dX4_isMissing_0 : decode cX4_isMissing 0 = .ok (.aload_n 0, 1) := by decide +kernel
theorem dX4_isMissing_1 : decode cX4_isMissing 1 = .ok (.getfield 15, 3) := by decide +kernel
theorem dX4_isMissing_4 : decode cX4_isMissing 4 = .ok (.iconst (-1), 1) := by decide +kernel
theorem dX4_isMissing_5 : decode cX4_isMissing 5 = .ok (.if_icmp .ne 7, 3) := by decide +kernel
theorem dX4_isMissing_8 : decode cX4_isMissing 8 = .ok (.iconst 1, 1) := by decide +kernel
theorem dX4_isMissing_9 : decode cX4_isMissing 9 = .ok (.goto 4, 3) := by decide +kernel
theorem dX4_isMissing_12 : decode cX4_isMissing 12 = .ok (.iconst 0, 1) := by decide +kernel
theorem dX4_isMissing_13 : decode cX4_isMissing 13 = .ok (.ireturn, 1) := by decide +kernel
theorem dX4_hasPlace_0 : decode cX4_hasPlace 0 = .ok (.iload_n 1, 1) := by decide +kernel
theorem dX4_hasPlace_1 : decode cX4_hasPlace 1 = .ok (.ifCond .lt 15, 3) := by decide +kernel
theorem dX4_hasPlace_4 : decode cX4_hasPlace 4 = .ok (.iload_n 1, 1) := by decide +kernel
theorem dX4_hasPlace_5 : decode cX4_hasPlace 5 = .ok (.aload_n 0, 1) := by decide +kernel
theorem dX4_hasPlace_6 : decode cX4_hasPlace 6 = .ok (.getfield 19, 3) := by decide +kernel
theorem dX4_hasPlace_9 : decode cX4_hasPlace 9 = .ok (.if_icmp .ge 7, 3) := by decide +kernel
theorem dX4_hasPlace_12 : decode cX4_hasPlace 12 = .ok (.iconst 1, 1) := by decide +kernel
theorem dX4_hasPlace_13 : decode cX4_hasPlace 13 = .ok (.goto 4, 3) := by decide +kernel
theorem dX4_hasPlace_16 : decode cX4_hasPlace 16 = .ok (.iconst 0, 1) := by decide +kernel
theorem dX4_hasPlace_17 : decode cX4_hasPlace 17 = .ok (.ireturn, 1) := by decide +kernel
theorem dX4_hasStretch_0 : decode cX4_hasStretch 0 = .ok (.iload_n 1, 1) := by decide +kernel
theorem dX4_hasStretch_1 : decode cX4_hasStretch 1 = .ok (.ifCond .lt 29, 3) := by decide +kernel
theorem dX4_hasStretch_4 : decode cX4_hasStretch 4 = .ok (.iload_n 2, 1) := by decide +kernel
theorem dX4_hasStretch_5 : decode cX4_hasStretch 5 = .ok (.ifCond .lt 25, 3) := by decide +kernel
theorem dX4_hasStretch_8 : decode cX4_hasStretch 8 = .ok (.iload_n 1, 1) := by decide +kernel
theorem dX4_hasStretch_9 : decode cX4_hasStretch 9 = .ok (.aload_n 0, 1) := by decide +kernel
theorem dX4_hasStretch_10 : decode cX4_hasStretch 10 = .ok (.getfield 19, 3) := by decide +kernel
theorem dX4_hasStretch_13 : decode cX4_hasStretch 13 = .ok (.if_icmp .gt 17, 3) := by decide +kernel
theorem dX4_hasStretch_16 : decode cX4_hasStretch 16 = .ok (.iload_n 2, 1) := by decide +kernel
theorem dX4_hasStretch_17 : decode cX4_hasStretch 17 = .ok (.aload_n 0, 1) := by decide +kernel
theorem dX4_hasStretch_18 : decode cX4_hasStretch 18 = .ok (.getfield 19, 3) := by decide +kernel
theorem dX4_hasStretch_21 : decode cX4_hasStretch 21 = .ok (.iload_n 1, 1) := by decide +kernel
theorem dX4_hasStretch_22 : decode cX4_hasStretch 22 = .ok (.isub, 1) := by decide +kernel
theorem dX4_hasStretch_23 : decode cX4_hasStretch 23 = .ok (.if_icmp .gt 7, 3) := by decide +kernel
theorem dX4_hasStretch_26 : decode cX4_hasStretch 26 = .ok (.iconst 1, 1) := by decide +kernel
theorem dX4_hasStretch_27 : decode cX4_hasStretch 27 = .ok (.goto 4, 3) := by decide +kernel
theorem dX4_hasStretch_30 : decode cX4_hasStretch 30 = .ok (.iconst 0, 1) := by decide +kernel
theorem dX4_hasStretch_31 : decode cX4_hasStretch 31 = .ok (.ireturn, 1) := by decide +kernel
theorem dX4_isNumber_0 : decode cX4_isNumber 0 = .ok (.aload_n 0, 1) := by decide +kernel
theorem dX4_isNumber_1 : decode cX4_isNumber 1 = .ok (.iload_n 1, 1) := by decide +kernel
theorem dX4_isNumber_2 : decode cX4_isNumber 2 = .ok (.invokevirtual 22, 3) := by decide +kernel
theorem dX4_isNumber_5 : decode cX4_isNumber 5 = .ok (.ifCond .eq 18, 3) := by decide +kernel
theorem dX4_isNumber_8 : decode cX4_isNumber 8 = .ok (.aload_n 0, 1) := by decide +kernel
theorem dX4_isNumber_9 : decode cX4_isNumber 9 = .ok (.getfield 9, 3) := by decide +kernel
theorem dX4_isNumber_12 : decode cX4_isNumber 12 = .ok (.iload_n 1, 1) := by decide +kernel
theorem dX4_isNumber_13 : decode cX4_isNumber 13 = .ok (.iaload, 1) := by decide +kernel
theorem dX4_isNumber_14 : decode cX4_isNumber 14 = .ok (.ldc 26, 2) := by decide +kernel
theorem dX4_isNumber_16 : decode cX4_isNumber 16 = .ok (.if_icmp .eq 7, 3) := by decide +kernel
theorem dX4_isNumber_19 : decode cX4_isNumber 19 = .ok (.iconst 1, 1) := by decide +kernel
theorem dX4_isNumber_20 : decode cX4_isNumber 20 = .ok (.goto 4, 3) := by decide +kernel
theorem dX4_isNumber_23 : decode cX4_isNumber 23 = .ok (.iconst 0, 1) := by decide +kernel
theorem dX4_isNumber_24 : decode cX4_isNumber 24 = .ok (.ireturn, 1) := by decide +kernel
theorem dX4_clear_0 : decode cX4_clear 0 = .ok (.aload_n 0, 1) := by decide +kernel
theorem dX4_clear_1 : decode cX4_clear 1 = .ok (.iload_n 1, 1) := by decide +kernel
theorem dX4_clear_2 : decode cX4_clear 2 = .ok (.putfield 15, 3) := by decide +kernel
theorem dX4_clear_5 : decode cX4_clear 5 = .ok (.aload_n 0, 1) := by decide +kernel
theorem dX4_clear_6 : decode cX4_clear 6 = .ok (.iload_n 2, 1) := by decide +kernel
theorem dX4_clear_7 : decode cX4_clear 7 = .ok (.putfield 19, 3) := by decide +kernel
theorem dX4_clear_10 : decode cX4_clear 10 = .ok (.aload_n 0, 1) := by decide +kernel
theorem dX4_clear_11 : decode cX4_clear 11 = .ok (.getfield 9, 3) := by decide +kernel
theorem dX4_clear_14 : decode cX4_clear 14 = .ok (.iconst 0, 1) := by decide +kernel
theorem dX4_clear_15 : decode cX4_clear 15 = .ok (.invokestatic 27, 3) := by decide +kernel
theorem dX4_clear_18 : decode cX4_clear 18 = .ok (.return_, 1) := by decide +kernel
theorem dX4_become_0 : decode cX4_become 0 = .ok (.aload_n 0, 1) := by decide +kernel
theorem dX4_become_1 : decode cX4_become 1 = .ok (.aload_n 1, 1) := by decide +kernel
theorem dX4_become_2 : decode cX4_become 2 = .ok (.getfield 15, 3) := by decide +kernel
theorem dX4_become_5 : decode cX4_become 5 = .ok (.putfield 15, 3) := by decide +kernel
theorem dX4_become_8 : decode cX4_become 8 = .ok (.aload_n 0, 1) := by decide +kernel
theorem dX4_become_9 : decode cX4_become 9 = .ok (.aload_n 1, 1) := by decide +kernel
theorem dX4_become_10 : decode cX4_become 10 = .ok (.getfield 19, 3) := by decide +kernel
theorem dX4_become_13 : decode cX4_become 13 = .ok (.putfield 19, 3) := by decide +kernel
theorem dX4_become_16 : decode cX4_become 16 = .ok (.aload_n 1, 1) := by decide +kernel
theorem dX4_become_17 : decode cX4_become 17 = .ok (.getfield 9, 3) := by decide +kernel
theorem dX4_become_20 : decode cX4_become 20 = .ok (.iconst 0, 1) := by decide +kernel
theorem dX4_become_21 : decode cX4_become 21 = .ok (.aload_n 0, 1) := by decide +kernel
theorem dX4_become_22 : decode cX4_become 22 = .ok (.getfield 9, 3) := by decide +kernel
theorem dX4_become_25 : decode cX4_become 25 = .ok (.iconst 0, 1) := by decide +kernel
theorem dX4_become_26 : decode cX4_become 26 = .ok (.bipush 24, 2) := by decide +kernel
theorem dX4_become_28 : decode cX4_become 28 = .ok (.invokestatic 33, 3) := by decide +kernel
theorem dX4_become_31 : decode cX4_become 31 = .ok (.return_, 1) := by decide +kernel
theorem dX5_init_0 : decode cX5_init 0 = .ok (.aload_n 0, 1) := by decide +kernel
theorem dX5_init_1 : decode cX5_init 1 = .ok (.invokespecial 3, 3) := by decide +kernel
theorem dX5_init_4 : decode cX5_init 4 = .ok (.aload_n 0, 1) := by decide +kernel
theorem dX5_init_5 : decode cX5_init 5 = .ok (.new 9, 3) := by decide +kernel
theorem dX5_init_8 : decode cX5_init 8 = .ok (.dup, 1) := by decide +kernel
theorem dX5_init_9 : decode cX5_init 9 = .ok (.invokespecial 11, 3) := by decide +kernel
theorem dX5_init_12 : decode cX5_init 12 = .ok (.putfield 12, 3) := by decide +kernel
theorem dX5_init_15 : decode cX5_init 15 = .ok (.aload_n 0, 1) := by decide +kernel
theorem dX5_init_16 : decode cX5_init 16 = .ok (.iconst 0, 1) := by decide +kernel
theorem dX5_init_17 : decode cX5_init 17 = .ok (.putfield 18, 3) := by decide +kernel
theorem dX5_init_20 : decode cX5_init 20 = .ok (.aload_n 0, 1) := by decide +kernel
theorem dX5_init_21 : decode cX5_init 21 = .ok (.iconst 0, 1) := by decide +kernel
theorem dX5_init_22 : decode cX5_init 22 = .ok (.putfield 22, 3) := by decide +kernel
theorem dX5_init_25 : decode cX5_init 25 = .ok (.aload_n 0, 1) := by decide +kernel
theorem dX5_init_26 : decode cX5_init 26 = .ok (.iconst 0, 1) := by decide +kernel
theorem dX5_init_27 : decode cX5_init 27 = .ok (.putfield 25, 3) := by decide +kernel
theorem dX5_init_30 : decode cX5_init 30 = .ok (.aload_n 0, 1) := by decide +kernel
theorem dX5_init_31 : decode cX5_init 31 = .ok (.iconst 0, 1) := by decide +kernel
theorem dX5_init_32 : decode cX5_init 32 = .ok (.putfield 28, 3) := by decide +kernel
theorem dX5_init_35 : decode cX5_init 35 = .ok (.return_, 1) := by decide +kernel
theorem dX6_init_0 : decode cX6_init 0 = .ok (.aload_n 0, 1) := by decide +kernel
theorem dX6_init_1 : decode cX6_init 1 = .ok (.invokespecial 1, 3) := by decide +kernel
theorem dX6_init_4 : decode cX6_init 4 = .ok (.aload_n 0, 1) := by decide +kernel
theorem dX6_init_5 : decode cX6_init 5 = .ok (.new 7, 3) := by decide +kernel
theorem dX6_init_8 : decode cX6_init 8 = .ok (.dup, 1) := by decide +kernel
theorem dX6_init_9 : decode cX6_init 9 = .ok (.invokespecial 9, 3) := by decide +kernel
theorem dX6_init_12 : decode cX6_init 12 = .ok (.putfield 10, 3) := by decide +kernel
theorem dX6_init_15 : decode cX6_init 15 = .ok (.aload_n 0, 1) := by decide +kernel
theorem dX6_init_16 : decode cX6_init 16 = .ok (.new 16, 3) := by decide +kernel
theorem dX6_init_19 : decode cX6_init 19 = .ok (.dup, 1) := by decide +kernel
theorem dX6_init_20 : decode cX6_init 20 = .ok (.invokespecial 18, 3) := by decide +kernel
theorem dX6_init_23 : decode cX6_init 23 = .ok (.putfield 19, 3) := by decide +kernel
theorem dX6_init_26 : decode cX6_init 26 = .ok (.aload_n 0, 1) := by decide +kernel
theorem dX6_init_27 : decode cX6_init 27 = .ok (.new 23, 3) := by decide +kernel
theorem dX6_init_30 : decode cX6_init 30 = .ok (.dup, 1) := by decide +kernel
theorem dX6_init_31 : decode cX6_init 31 = .ok (.aload_n 0, 1) := by decide +kernel
theorem dX6_init_32 : decode cX6_init 32 = .ok (.getfield 10, 3) := by decide +kernel
theorem dX6_init_35 : decode cX6_init 35 = .ok (.invokespecial 25, 3) := by decide +kernel
theorem dX6_init_38 : decode cX6_init 38 = .ok (.putfield 28, 3) := by decide +kernel
theorem dX6_init_41 : decode cX6_init 41 = .ok (.aload_n 0, 1) := by decide +kernel
theorem dX6_init_42 : decode cX6_init 42 = .ok (.new 23, 3) := by decide +kernel
theorem dX6_init_45 : decode cX6_init 45 = .ok (.dup, 1) := by decide +kernel
theorem dX6_init_46 : decode cX6_init 46 = .ok (.aload_n 0, 1) := by decide +kernel
theorem dX6_init_47 : decode cX6_init 47 = .ok (.getfield 10, 3) := by decide +kernel
theorem dX6_init_50 : decode cX6_init 50 = .ok (.invokespecial 25, 3) := by decide +kernel
theorem dX6_init_53 : decode cX6_init 53 = .ok (.putfield 32, 3) := by decide +kernel
theorem dX6_init_56 : decode cX6_init 56 = .ok (.aload_n 0, 1) := by decide +kernel
theorem dX6_init_57 : decode cX6_init 57 = .ok (.new 23, 3) := by decide +kernel
theorem dX6_init_60 : decode cX6_init 60 = .ok (.dup, 1) := by decide +kernel
theorem dX6_init_61 : decode cX6_init 61 = .ok (.aload_n 0, 1) := by decide +kernel
theorem dX6_init_62 : decode cX6_init 62 = .ok (.getfield 10, 3) := by decide +kernel
theorem dX6_init_65 : decode cX6_init 65 = .ok (.invokespecial 25, 3) := by decide +kernel
theorem dX6_init_68 : decode cX6_init 68 = .ok (.putfield 35, 3) := by decide +kernel
theorem dX6_init_71 : decode cX6_init 71 = .ok (.aload_n 0, 1) := by decide +kernel
theorem dX6_init_72 : decode cX6_init 72 = .ok (.iconst 4, 1) := by decide +kernel
theorem dX6_init_73 : decode cX6_init 73 = .ok (.anewarray 38, 3) := by decide +kernel
theorem dX6_init_76 : decode cX6_init 76 = .ok (.putfield 40, 3) := by decide +kernel
theorem dX6_init_79 : decode cX6_init 79 = .ok (.iconst 0, 1) := by decide +kernel
theorem dX6_init_80 : decode cX6_init 80 = .ok (.istore_n 1, 1) := by decide +kernel
theorem dX6_init_81 : decode cX6_init 81 = .ok (.iload_n 1, 1) := by decide +kernel
theorem dX6_init_82 : decode cX6_init 82 = .ok (.iconst 4, 1) := by decide +kernel
theorem dX6_init_83 : decode cX6_init 83 = .ok (.if_icmp .ge 22, 3) := by decide +kernel
theorem dX6_init_86 : decode cX6_init 86 = .ok (.aload_n 0, 1) := by decide +kernel
theorem dX6_init_87 : decode cX6_init 87 = .ok (.getfield 40, 3) := by decide +kernel
theorem dX6_init_90 : decode cX6_init 90 = .ok (.iload_n 1, 1) := by decide +kernel
theorem dX6_init_91 : decode cX6_init 91 = .ok (.new 38, 3) := by decide +kernel
theorem dX6_init_94 : decode cX6_init 94 = .ok (.dup, 1) := by decide +kernel
theorem dX6_init_95 : decode cX6_init 95 = .ok (.invokespecial 44, 3) := by decide +kernel
theorem dX6_init_98 : decode cX6_init 98 = .ok (.aastore, 1) := by decide +kernel
theorem dX6_init_99 : decode cX6_init 99 = .ok (.iinc 1 1, 3) := by decide +kernel
theorem dX6_init_102 : decode cX6_init 102 = .ok (.goto (-21), 3) := by decide +kernel
theorem dX6_init_105 : decode cX6_init 105 = .ok (.aload_n 0, 1) := by decide +kernel
theorem dX6_init_106 : decode cX6_init 106 = .ok (.iconst 5, 1) := by decide +kernel
theorem dX6_init_107 : decode cX6_init 107 = .ok (.anewarray 45, 3) := by decide +kernel
theorem dX6_init_110 : decode cX6_init 110 = .ok (.putfield 47, 3) := by decide +kernel
theorem dX6_init_113 : decode cX6_init 113 = .ok (.iconst 0, 1) := by decide +kernel
theorem dX6_init_114 : decode cX6_init 114 = .ok (.istore_n 1, 1) := by decide +kernel
theorem dX6_init_115 : decode cX6_init 115 = .ok (.iload_n 1, 1) := by decide +kernel
theorem dX6_init_116 : decode cX6_init 116 = .ok (.iconst 5, 1) := by decide +kernel
theorem dX6_init_117 : decode cX6_init 117 = .ok (.if_icmp .ge 22, 3) := by decide +kernel
theorem dX6_init_120 : decode cX6_init 120 = .ok (.aload_n 0, 1) := by decide +kernel
theorem dX6_init_121 : decode cX6_init 121 = .ok (.getfield 47, 3) := by decide +kernel
theorem dX6_init_124 : decode cX6_init 124 = .ok (.iload_n 1, 1) := by decide +kernel
theorem dX6_init_125 : decode cX6_init 125 = .ok (.new 45, 3) := by decide +kernel
theorem dX6_init_128 : decode cX6_init 128 = .ok (.dup, 1) := by decide +kernel
theorem dX6_init_129 : decode cX6_init 129 = .ok (.invokespecial 51, 3) := by decide +kernel
theorem dX6_init_132 : decode cX6_init 132 = .ok (.aastore, 1) := by decide +kernel
theorem dX6_init_133 : decode cX6_init 133 = .ok (.iinc 1 1, 3) := by decide +kernel
theorem dX6_init_136 : decode cX6_init 136 = .ok (.goto (-21), 3) := by decide +kernel
theorem dX6_init_139 : decode cX6_init 139 = .ok (.aload_n 0, 1) := by decide +kernel
theorem dX6_init_140 : decode cX6_init 140 = .ok (.bipush 60, 2) := by decide +kernel
theorem dX6_init_142 : decode cX6_init 142 = .ok (.newarray .int, 2) := by decide +kernel
theorem dX6_init_144 : decode cX6_init 144 = .ok (.putfield 52, 3) := by decide +kernel
theorem dX6_init_147 : decode cX6_init 147 = .ok (.aload_n 0, 1) := by decide +kernel
theorem dX6_init_148 : decode cX6_init 148 = .ok (.bipush 13, 2) := by decide +kernel
theorem dX6_init_150 : decode cX6_init 150 = .ok (.newarray .int, 2) := by decide +kernel
theorem dX6_init_152 : decode cX6_init 152 = .ok (.putfield 56, 3) := by decide +kernel
theorem dX6_init_155 : decode cX6_init 155 = .ok (.aload_n 0, 1) := by decide +kernel
theorem dX6_init_156 : decode cX6_init 156 = .ok (.iconst 0, 1) := by decide +kernel
theorem dX6_init_157 : decode cX6_init 157 = .ok (.putfield 59, 3) := by decide +kernel
theorem dX6_init_160 : decode cX6_init 160 = .ok (.aload_n 0, 1) := by decide +kernel
theorem dX6_init_161 : decode cX6_init 161 = .ok (.iconst 0, 1) := by decide +kernel
theorem dX6_init_162 : decode cX6_init 162 = .ok (.putfield 63, 3) := by decide +kernel
theorem dX6_init_165 : decode cX6_init 165 = .ok (.return_, 1) := by decide +kernel
theorem dX6_voter_0 : decode cX6_voter 0 = .ok (.iload_n 1, 1) := by decide +kernel
theorem dX6_voter_1 : decode cX6_voter 1 = .ok (.iconst 0, 1) := by decide +kernel
theorem dX6_voter_2 : decode cX6_voter 2 = .ok (.iconst 5, 1) := by decide +kernel
theorem dX6_voter_3 : decode cX6_voter 3 = .ok (.invokestatic 67, 3) := by decide +kernel
theorem dX6_voter_6 : decode cX6_voter 6 = .ok (.ifCond .eq 37, 3) := by decide +kernel
theorem dX6_voter_9 : decode cX6_voter 9 = .ok (.iload_n 2, 1) := by decide +kernel
theorem dX6_voter_10 : decode cX6_voter 10 = .ok (.iconst 0, 1) := by decide +kernel
theorem dX6_voter_11 : decode cX6_voter 11 = .ok (.bipush 9, 2) := by decide +kernel
theorem dX6_voter_13 : decode cX6_voter 13 = .ok (.invokestatic 67, 3) := by decide +kernel
theorem dX6_voter_16 : decode cX6_voter 16 = .ok (.ifCond .eq 27, 3) := by decide +kernel
theorem dX6_voter_19 : decode cX6_voter 19 = .ok (.iload_n 3, 1) := by decide +kernel
theorem dX6_voter_20 : decode cX6_voter 20 = .ok (.iconst 0, 1) := by decide +kernel
theorem dX6_voter_21 : decode cX6_voter 21 = .ok (.iconst 3, 1) := by decide +kernel
theorem dX6_voter_22 : decode cX6_voter 22 = .ok (.invokestatic 67, 3) := by decide +kernel
theorem dX6_voter_25 : decode cX6_voter 25 = .ok (.ifCond .eq 18, 3) := by decide +kernel
theorem dX6_voter_28 : decode cX6_voter 28 = .ok (.iload 4, 2) := by decide +kernel
theorem dX6_voter_30 : decode cX6_voter 30 = .ok (.iconst 0, 1) := by decide +kernel
theorem dX6_voter_31 : decode cX6_voter 31 = .ok (.bipush 99, 2) := by decide +kernel
theorem dX6_voter_33 : decode cX6_voter 33 = .ok (.invokestatic 67, 3) := by decide +kernel
theorem dX6_voter_36 : decode cX6_voter 36 = .ok (.ifCond .eq 7, 3) := by decide +kernel
theorem dX6_voter_39 : decode cX6_voter 39 = .ok (.iconst 1, 1) := by decide +kernel
theorem dX6_voter_40 : decode cX6_voter 40 = .ok (.goto 4, 3) := by decide +kernel
theorem dX6_voter_43 : decode cX6_voter 43 = .ok (.iconst 0, 1) := by decide +kernel
theorem dX6_voter_44 : decode cX6_voter 44 = .ok (.istore 5, 2) := by decide +kernel
theorem dX6_voter_46 : decode cX6_voter 46 = .ok (.iload 5, 2) := by decide +kernel
theorem dX6_voter_48 : decode cX6_voter 48 = .ok (.ifCond .ne 6, 3) := by decide +kernel
theorem dX6_voter_51 : decode cX6_voter 51 = .ok (.ldc 71, 2) := by decide +kernel
theorem dX6_voter_53 : decode cX6_voter 53 = .ok (.ireturn, 1) := by decide +kernel
theorem dX6_voter_54 : decode cX6_voter 54 = .ok (.aload_n 0, 1) := by decide +kernel
theorem dX6_voter_55 : decode cX6_voter 55 = .ok (.getfield 28, 3) := by decide +kernel
theorem dX6_voter_58 : decode cX6_voter 58 = .ok (.getfield 72, 3) := by decide +kernel
theorem dX6_voter_61 : decode cX6_voter 61 = .ok (.bipush 10, 2) := by decide +kernel
theorem dX6_voter_63 : decode cX6_voter 63 = .ok (.if_icmp .lt 6, 3) := by decide +kernel
theorem dX6_voter_66 : decode cX6_voter 66 = .ok (.ldc 75, 2) := by decide +kernel
theorem dX6_voter_68 : decode cX6_voter 68 = .ok (.ireturn, 1) := by decide +kernel
theorem dX6_voter_69 : decode cX6_voter 69 = .ok (.aload_n 0, 1) := by decide +kernel
theorem dX6_voter_70 : decode cX6_voter 70 = .ok (.getfield 28, 3) := by decide +kernel
theorem dX6_voter_73 : decode cX6_voter 73 = .ok (.iload_n 1, 1) := by decide +kernel
theorem dX6_voter_74 : decode cX6_voter 74 = .ok (.iload_n 2, 1) := by decide +kernel
theorem dX6_voter_75 : decode cX6_voter 75 = .ok (.iload_n 3, 1) := by decide +kernel
theorem dX6_voter_76 : decode cX6_voter 76 = .ok (.iload 4, 2) := by decide +kernel
theorem dX6_voter_78 : decode cX6_voter 78 = .ok (.invokevirtual 76, 3) := by decide +kernel
theorem dX6_voter_81 : decode cX6_voter 81 = .ok (.aload_n 0, 1) := by decide +kernel
theorem dX6_voter_82 : decode cX6_voter 82 = .ok (.getfield 28, 3) := by decide +kernel
theorem dX6_voter_85 : decode cX6_voter 85 = .ok (.getfield 72, 3) := by decide +kernel
theorem dX6_voter_88 : decode cX6_voter 88 = .ok (.iconst 1, 1) := by decide +kernel
theorem dX6_voter_89 : decode cX6_voter 89 = .ok (.isub, 1) := by decide +kernel
theorem dX6_voter_90 : decode cX6_voter 90 = .ok (.ireturn, 1) := by decide +kernel
theorem dX6_told_0 : decode cX6_told 0 = .ok (.aload_n 0, 1) := by decide +kernel
theorem dX6_told_1 : decode cX6_told 1 = .ok (.getfield 28, 3) := by decide +kernel
theorem dX6_told_4 : decode cX6_told 4 = .ok (.iload_n 1, 1) := by decide +kernel
theorem dX6_told_5 : decode cX6_told 5 = .ok (.invokevirtual 80, 3) := by decide +kernel
theorem dX6_told_8 : decode cX6_told 8 = .ok (.ifCond .ne 6, 3) := by decide +kernel
theorem dX6_told_11 : decode cX6_told 11 = .ok (.ldc 71, 2) := by decide +kernel
theorem dX6_told_13 : decode cX6_told 13 = .ok (.ireturn, 1) := by decide +kernel
theorem dX6_told_14 : decode cX6_told 14 = .ok (.iload_n 2, 1) := by decide +kernel
theorem dX6_told_15 : decode cX6_told 15 = .ok (.tableswitch 181 0 9 #[53, 63, 73, 83, 93, 103, 113, 123, 146, 159], 53) := by decide +kernel
theorem dX6_told_68 : decode cX6_told 68 = .ok (.aload_n 0, 1) := by decide +kernel
theorem dX6_told_69 : decode cX6_told 69 = .ok (.getfield 28, 3) := by decide +kernel
theorem dX6_told_72 : decode cX6_told 72 = .ok (.getfield 84, 3) := by decide +kernel
theorem dX6_told_75 : decode cX6_told 75 = .ok (.iload_n 1, 1) := by decide +kernel
theorem dX6_told_76 : decode cX6_told 76 = .ok (.iaload, 1) := by decide +kernel
theorem dX6_told_77 : decode cX6_told 77 = .ok (.ireturn, 1) := by decide +kernel
theorem dX6_told_78 : decode cX6_told 78 = .ok (.aload_n 0, 1) := by decide +kernel
theorem dX6_told_79 : decode cX6_told 79 = .ok (.getfield 28, 3) := by decide +kernel
theorem dX6_told_82 : decode cX6_told 82 = .ok (.getfield 87, 3) := by decide +kernel
theorem dX6_told_85 : decode cX6_told 85 = .ok (.iload_n 1, 1) := by decide +kernel
theorem dX6_told_86 : decode cX6_told 86 = .ok (.iaload, 1) := by decide +kernel
theorem dX6_told_87 : decode cX6_told 87 = .ok (.ireturn, 1) := by decide +kernel
theorem dX6_told_88 : decode cX6_told 88 = .ok (.aload_n 0, 1) := by decide +kernel
theorem dX6_told_89 : decode cX6_told 89 = .ok (.getfield 28, 3) := by decide +kernel
theorem dX6_told_92 : decode cX6_told 92 = .ok (.getfield 90, 3) := by decide +kernel
theorem dX6_told_95 : decode cX6_told 95 = .ok (.iload_n 1, 1) := by decide +kernel
theorem dX6_told_96 : decode cX6_told 96 = .ok (.iaload, 1) := by decide +kernel
theorem dX6_told_97 : decode cX6_told 97 = .ok (.ireturn, 1) := by decide +kernel
theorem dX6_told_98 : decode cX6_told 98 = .ok (.aload_n 0, 1) := by decide +kernel
theorem dX6_told_99 : decode cX6_told 99 = .ok (.getfield 28, 3) := by decide +kernel
theorem dX6_told_102 : decode cX6_told 102 = .ok (.getfield 93, 3) := by decide +kernel
theorem dX6_told_105 : decode cX6_told 105 = .ok (.iload_n 1, 1) := by decide +kernel
theorem dX6_told_106 : decode cX6_told 106 = .ok (.iaload, 1) := by decide +kernel
theorem dX6_told_107 : decode cX6_told 107 = .ok (.ireturn, 1) := by decide +kernel
theorem dX6_told_108 : decode cX6_told 108 = .ok (.aload_n 0, 1) := by decide +kernel
theorem dX6_told_109 : decode cX6_told 109 = .ok (.getfield 28, 3) := by decide +kernel
theorem dX6_told_112 : decode cX6_told 112 = .ok (.getfield 96, 3) := by decide +kernel
theorem dX6_told_115 : decode cX6_told 115 = .ok (.iload_n 1, 1) := by decide +kernel
theorem dX6_told_116 : decode cX6_told 116 = .ok (.iaload, 1) := by decide +kernel
theorem dX6_told_117 : decode cX6_told 117 = .ok (.ireturn, 1) := by decide +kernel
theorem dX6_told_118 : decode cX6_told 118 = .ok (.aload_n 0, 1) := by decide +kernel
theorem dX6_told_119 : decode cX6_told 119 = .ok (.getfield 28, 3) := by decide +kernel
theorem dX6_told_122 : decode cX6_told 122 = .ok (.getfield 99, 3) := by decide +kernel
theorem dX6_told_125 : decode cX6_told 125 = .ok (.iload_n 1, 1) := by decide +kernel
theorem dX6_told_126 : decode cX6_told 126 = .ok (.iaload, 1) := by decide +kernel
theorem dX6_told_127 : decode cX6_told 127 = .ok (.ireturn, 1) := by decide +kernel
theorem dX6_told_128 : decode cX6_told 128 = .ok (.aload_n 0, 1) := by decide +kernel
theorem dX6_told_129 : decode cX6_told 129 = .ok (.getfield 28, 3) := by decide +kernel
theorem dX6_told_132 : decode cX6_told 132 = .ok (.getfield 102, 3) := by decide +kernel
theorem dX6_told_135 : decode cX6_told 135 = .ok (.iload_n 1, 1) := by decide +kernel
theorem dX6_told_136 : decode cX6_told 136 = .ok (.iaload, 1) := by decide +kernel
theorem dX6_told_137 : decode cX6_told 137 = .ok (.ireturn, 1) := by decide +kernel
theorem dX6_told_138 : decode cX6_told 138 = .ok (.aload_n 0, 1) := by decide +kernel
theorem dX6_told_139 : decode cX6_told 139 = .ok (.getfield 28, 3) := by decide +kernel
theorem dX6_told_142 : decode cX6_told 142 = .ok (.iload_n 1, 1) := by decide +kernel
theorem dX6_told_143 : decode cX6_told 143 = .ok (.aload_n 0, 1) := by decide +kernel
theorem dX6_told_144 : decode cX6_told 144 = .ok (.getfield 28, 3) := by decide +kernel
theorem dX6_told_147 : decode cX6_told 147 = .ok (.invokevirtual 105, 3) := by decide +kernel
theorem dX6_told_150 : decode cX6_told 150 = .ok (.aload_n 0, 1) := by decide +kernel
theorem dX6_told_151 : decode cX6_told 151 = .ok (.getfield 28, 3) := by decide +kernel
theorem dX6_told_154 : decode cX6_told 154 = .ok (.invokevirtual 109, 3) := by decide +kernel
theorem dX6_told_157 : decode cX6_told 157 = .ok (.invokevirtual 112, 3) := by decide +kernel
theorem dX6_told_160 : decode cX6_told 160 = .ok (.ireturn, 1) := by decide +kernel
theorem dX6_told_161 : decode cX6_told 161 = .ok (.aload_n 0, 1) := by decide +kernel
theorem dX6_told_162 : decode cX6_told 162 = .ok (.getfield 28, 3) := by decide +kernel
theorem dX6_told_165 : decode cX6_told 165 = .ok (.getfield 84, 3) := by decide +kernel
theorem dX6_told_168 : decode cX6_told 168 = .ok (.iload_n 1, 1) := by decide +kernel
theorem dX6_told_169 : decode cX6_told 169 = .ok (.iaload, 1) := by decide +kernel
theorem dX6_told_170 : decode cX6_told 170 = .ok (.invokestatic 116, 3) := by decide +kernel
theorem dX6_told_173 : decode cX6_told 173 = .ok (.ireturn, 1) := by decide +kernel
theorem dX6_told_174 : decode cX6_told 174 = .ok (.aload_n 0, 1) := by decide +kernel
theorem dX6_told_175 : decode cX6_told 175 = .ok (.getfield 28, 3) := by decide +kernel
theorem dX6_told_178 : decode cX6_told 178 = .ok (.getfield 84, 3) := by decide +kernel
theorem dX6_told_181 : decode cX6_told 181 = .ok (.iload_n 1, 1) := by decide +kernel
theorem dX6_told_182 : decode cX6_told 182 = .ok (.iaload, 1) := by decide +kernel
theorem dX6_told_183 : decode cX6_told 183 = .ok (.aload_n 0, 1) := by decide +kernel
theorem dX6_told_184 : decode cX6_told 184 = .ok (.getfield 28, 3) := by decide +kernel
theorem dX6_told_187 : decode cX6_told 187 = .ok (.getfield 93, 3) := by decide +kernel
theorem dX6_told_190 : decode cX6_told 190 = .ok (.iload_n 1, 1) := by decide +kernel
theorem dX6_told_191 : decode cX6_told 191 = .ok (.iaload, 1) := by decide +kernel
theorem dX6_told_192 : decode cX6_told 192 = .ok (.invokestatic 120, 3) := by decide +kernel
theorem dX6_told_195 : decode cX6_told 195 = .ok (.ireturn, 1) := by decide +kernel
theorem dX6_told_196 : decode cX6_told 196 = .ok (.ldc 71, 2) := by decide +kernel
theorem dX6_told_198 : decode cX6_told 198 = .ok (.ireturn, 1) := by decide +kernel
theorem dX6_as_0 : decode cX6_as 0 = .ok (.aload_n 0, 1) := by decide +kernel
theorem dX6_as_1 : decode cX6_as 1 = .ok (.getfield 28, 3) := by decide +kernel
theorem dX6_as_4 : decode cX6_as 4 = .ok (.iload_n 1, 1) := by decide +kernel
theorem dX6_as_5 : decode cX6_as 5 = .ok (.invokevirtual 80, 3) := by decide +kernel
theorem dX6_as_8 : decode cX6_as 8 = .ok (.ifCond .eq 12, 3) := by decide +kernel
theorem dX6_as_11 : decode cX6_as 11 = .ok (.iload_n 2, 1) := by decide +kernel
theorem dX6_as_12 : decode cX6_as 12 = .ok (.iconst 0, 1) := by decide +kernel
theorem dX6_as_13 : decode cX6_as 13 = .ok (.iconst 5, 1) := by decide +kernel
theorem dX6_as_14 : decode cX6_as 14 = .ok (.invokestatic 67, 3) := by decide +kernel
theorem dX6_as_17 : decode cX6_as 17 = .ok (.ifCond .ne 6, 3) := by decide +kernel
theorem dX6_as_20 : decode cX6_as 20 = .ok (.ldc 71, 2) := by decide +kernel
theorem dX6_as_22 : decode cX6_as 22 = .ok (.ireturn, 1) := by decide +kernel
theorem dX6_as_23 : decode cX6_as 23 = .ok (.aload_n 0, 1) := by decide +kernel
theorem dX6_as_24 : decode cX6_as 24 = .ok (.getfield 28, 3) := by decide +kernel
theorem dX6_as_27 : decode cX6_as 27 = .ok (.getfield 84, 3) := by decide +kernel
theorem dX6_as_30 : decode cX6_as 30 = .ok (.iload_n 1, 1) := by decide +kernel
theorem dX6_as_31 : decode cX6_as 31 = .ok (.iaload, 1) := by decide +kernel
theorem dX6_as_32 : decode cX6_as 32 = .ok (.iload_n 2, 1) := by decide +kernel
theorem dX6_as_33 : decode cX6_as 33 = .ok (.invokestatic 124, 3) := by decide +kernel
theorem dX6_as_36 : decode cX6_as 36 = .ok (.ifCond .eq 15, 3) := by decide +kernel
theorem dX6_as_39 : decode cX6_as 39 = .ok (.aload_n 0, 1) := by decide +kernel
theorem dX6_as_40 : decode cX6_as 40 = .ok (.getfield 28, 3) := by decide +kernel
theorem dX6_as_43 : decode cX6_as 43 = .ok (.getfield 93, 3) := by decide +kernel
theorem dX6_as_46 : decode cX6_as 46 = .ok (.iload_n 1, 1) := by decide +kernel
theorem dX6_as_47 : decode cX6_as 47 = .ok (.iaload, 1) := by decide +kernel
theorem dX6_as_48 : decode cX6_as 48 = .ok (.goto 5, 3) := by decide +kernel
theorem dX6_as_51 : decode cX6_as 51 = .ok (.ldc 128, 2) := by decide +kernel
theorem dX6_as_53 : decode cX6_as 53 = .ok (.ireturn, 1) := by decide +kernel
theorem dX6_turns_0 : decode cX6_turns 0 = .ok (.aload_n 0, 1) := by decide +kernel
theorem dX6_turns_1 : decode cX6_turns 1 = .ok (.getfield 28, 3) := by decide +kernel
theorem dX6_turns_4 : decode cX6_turns 4 = .ok (.iload_n 1, 1) := by decide +kernel
theorem dX6_turns_5 : decode cX6_turns 5 = .ok (.invokevirtual 80, 3) := by decide +kernel
theorem dX6_turns_8 : decode cX6_turns 8 = .ok (.ifCond .eq 12, 3) := by decide +kernel
theorem dX6_turns_11 : decode cX6_turns 11 = .ok (.iload_n 2, 1) := by decide +kernel
theorem dX6_turns_12 : decode cX6_turns 12 = .ok (.iconst 0, 1) := by decide +kernel
theorem dX6_turns_13 : decode cX6_turns 13 = .ok (.iconst 5, 1) := by decide +kernel
theorem dX6_turns_14 : decode cX6_turns 14 = .ok (.invokestatic 67, 3) := by decide +kernel
theorem dX6_turns_17 : decode cX6_turns 17 = .ok (.ifCond .ne 6, 3) := by decide +kernel
theorem dX6_turns_20 : decode cX6_turns 20 = .ok (.ldc 71, 2) := by decide +kernel
theorem dX6_turns_22 : decode cX6_turns 22 = .ok (.ireturn, 1) := by decide +kernel
theorem dX6_turns_23 : decode cX6_turns 23 = .ok (.aload_n 0, 1) := by decide +kernel
theorem dX6_turns_24 : decode cX6_turns 24 = .ok (.getfield 28, 3) := by decide +kernel
theorem dX6_turns_27 : decode cX6_turns 27 = .ok (.getfield 84, 3) := by decide +kernel
theorem dX6_turns_30 : decode cX6_turns 30 = .ok (.iload_n 1, 1) := by decide +kernel
theorem dX6_turns_31 : decode cX6_turns 31 = .ok (.iaload, 1) := by decide +kernel
theorem dX6_turns_32 : decode cX6_turns 32 = .ok (.istore_n 3, 1) := by decide +kernel
theorem dX6_turns_33 : decode cX6_turns 33 = .ok (.aload_n 0, 1) := by decide +kernel
theorem dX6_turns_34 : decode cX6_turns 34 = .ok (.getfield 28, 3) := by decide +kernel
theorem dX6_turns_37 : decode cX6_turns 37 = .ok (.getfield 84, 3) := by decide +kernel
theorem dX6_turns_40 : decode cX6_turns 40 = .ok (.iload_n 1, 1) := by decide +kernel
theorem dX6_turns_41 : decode cX6_turns 41 = .ok (.iload_n 2, 1) := by decide +kernel
theorem dX6_turns_42 : decode cX6_turns 42 = .ok (.iastore, 1) := by decide +kernel
theorem dX6_turns_43 : decode cX6_turns 43 = .ok (.aload_n 0, 1) := by decide +kernel
theorem dX6_turns_44 : decode cX6_turns 44 = .ok (.getfield 28, 3) := by decide +kernel
theorem dX6_turns_47 : decode cX6_turns 47 = .ok (.invokevirtual 129, 3) := by decide +kernel
theorem dX6_turns_50 : decode cX6_turns 50 = .ok (.iload_n 3, 1) := by decide +kernel
theorem dX6_turns_51 : decode cX6_turns 51 = .ok (.ireturn, 1) := by decide +kernel
theorem dX6_set_0 : decode cX6_set 0 = .ok (.aload_n 0, 1) := by decide +kernel
theorem dX6_set_1 : decode cX6_set 1 = .ok (.getfield 28, 3) := by decide +kernel
theorem dX6_set_4 : decode cX6_set 4 = .ok (.iload_n 1, 1) := by decide +kernel
theorem dX6_set_5 : decode cX6_set 5 = .ok (.invokevirtual 80, 3) := by decide +kernel
theorem dX6_set_8 : decode cX6_set 8 = .ok (.ifCond .ne 6, 3) := by decide +kernel
theorem dX6_set_11 : decode cX6_set 11 = .ok (.ldc 71, 2) := by decide +kernel
theorem dX6_set_13 : decode cX6_set 13 = .ok (.ireturn, 1) := by decide +kernel
theorem dX6_set_14 : decode cX6_set 14 = .ok (.iload_n 2, 1) := by decide +kernel
theorem dX6_set_15 : decode cX6_set 15 = .ok (.tableswitch 88 1 4 #[29, 44, 58, 73], 29) := by decide +kernel
theorem dX6_set_44 : decode cX6_set 44 = .ok (.aload_n 0, 1) := by decide +kernel
theorem dX6_set_45 : decode cX6_set 45 = .ok (.getfield 28, 3) := by decide +kernel
theorem dX6_set_48 : decode cX6_set 48 = .ok (.getfield 87, 3) := by decide +kernel
theorem dX6_set_51 : decode cX6_set 51 = .ok (.iload_n 1, 1) := by decide +kernel
theorem dX6_set_52 : decode cX6_set 52 = .ok (.iload_n 3, 1) := by decide +kernel
theorem dX6_set_53 : decode cX6_set 53 = .ok (.bipush 9, 2) := by decide +kernel
theorem dX6_set_55 : decode cX6_set 55 = .ok (.invokestatic 132, 3) := by decide +kernel
theorem dX6_set_58 : decode cX6_set 58 = .ok (.ireturn, 1) := by decide +kernel
theorem dX6_set_59 : decode cX6_set 59 = .ok (.aload_n 0, 1) := by decide +kernel
theorem dX6_set_60 : decode cX6_set 60 = .ok (.getfield 28, 3) := by decide +kernel
theorem dX6_set_63 : decode cX6_set 63 = .ok (.getfield 90, 3) := by decide +kernel
theorem dX6_set_66 : decode cX6_set 66 = .ok (.iload_n 1, 1) := by decide +kernel
theorem dX6_set_67 : decode cX6_set 67 = .ok (.iload_n 3, 1) := by decide +kernel
theorem dX6_set_68 : decode cX6_set 68 = .ok (.iconst 3, 1) := by decide +kernel
theorem dX6_set_69 : decode cX6_set 69 = .ok (.invokestatic 132, 3) := by decide +kernel
theorem dX6_set_72 : decode cX6_set 72 = .ok (.ireturn, 1) := by decide +kernel
theorem dX6_set_73 : decode cX6_set 73 = .ok (.aload_n 0, 1) := by decide +kernel
theorem dX6_set_74 : decode cX6_set 74 = .ok (.getfield 28, 3) := by decide +kernel
theorem dX6_set_77 : decode cX6_set 77 = .ok (.getfield 93, 3) := by decide +kernel
theorem dX6_set_80 : decode cX6_set 80 = .ok (.iload_n 1, 1) := by decide +kernel
theorem dX6_set_81 : decode cX6_set 81 = .ok (.iload_n 3, 1) := by decide +kernel
theorem dX6_set_82 : decode cX6_set 82 = .ok (.bipush 99, 2) := by decide +kernel
theorem dX6_set_84 : decode cX6_set 84 = .ok (.invokestatic 132, 3) := by decide +kernel
theorem dX6_set_87 : decode cX6_set 87 = .ok (.ireturn, 1) := by decide +kernel
theorem dX6_set_88 : decode cX6_set 88 = .ok (.aload_n 0, 1) := by decide +kernel
theorem dX6_set_89 : decode cX6_set 89 = .ok (.getfield 28, 3) := by decide +kernel
theorem dX6_set_92 : decode cX6_set 92 = .ok (.getfield 96, 3) := by decide +kernel
theorem dX6_set_95 : decode cX6_set 95 = .ok (.iload_n 1, 1) := by decide +kernel
theorem dX6_set_96 : decode cX6_set 96 = .ok (.iload_n 3, 1) := by decide +kernel
theorem dX6_set_97 : decode cX6_set 97 = .ok (.bipush 9, 2) := by decide +kernel
theorem dX6_set_99 : decode cX6_set 99 = .ok (.invokestatic 132, 3) := by decide +kernel
theorem dX6_set_102 : decode cX6_set 102 = .ok (.ireturn, 1) := by decide +kernel
theorem dX6_set_103 : decode cX6_set 103 = .ok (.ldc 71, 2) := by decide +kernel
theorem dX6_set_105 : decode cX6_set 105 = .ok (.ireturn, 1) := by decide +kernel
theorem dX6_rule_0 : decode cX6_rule 0 = .ok (.iload_n 1, 1) := by decide +kernel
theorem dX6_rule_1 : decode cX6_rule 1 = .ok (.iconst 2, 1) := by decide +kernel
theorem dX6_rule_2 : decode cX6_rule 2 = .ok (.if_icmp .ne 7, 3) := by decide +kernel
theorem dX6_rule_5 : decode cX6_rule 5 = .ok (.iconst 1, 1) := by decide +kernel
theorem dX6_rule_6 : decode cX6_rule 6 = .ok (.goto 4, 3) := by decide +kernel
theorem dX6_rule_9 : decode cX6_rule 9 = .ok (.iconst 0, 1) := by decide +kernel
theorem dX6_rule_10 : decode cX6_rule 10 = .ok (.istore_n 3, 1) := by decide +kernel
theorem dX6_rule_11 : decode cX6_rule 11 = .ok (.iload_n 1, 1) := by decide +kernel
theorem dX6_rule_12 : decode cX6_rule 12 = .ok (.iconst 0, 1) := by decide +kernel
theorem dX6_rule_13 : decode cX6_rule 13 = .ok (.iconst 2, 1) := by decide +kernel
theorem dX6_rule_14 : decode cX6_rule 14 = .ok (.invokestatic 67, 3) := by decide +kernel
theorem dX6_rule_17 : decode cX6_rule 17 = .ok (.ifCond .eq 13, 3) := by decide +kernel
theorem dX6_rule_20 : decode cX6_rule 20 = .ok (.iload_n 2, 1) := by decide +kernel
theorem dX6_rule_21 : decode cX6_rule 21 = .ok (.iload_n 3, 1) := by decide +kernel
theorem dX6_rule_22 : decode cX6_rule 22 = .ok (.bipush 99, 2) := by decide +kernel
theorem dX6_rule_24 : decode cX6_rule 24 = .ok (.invokestatic 67, 3) := by decide +kernel
theorem dX6_rule_27 : decode cX6_rule 27 = .ok (.ifCond .ne 6, 3) := by decide +kernel
theorem dX6_rule_30 : decode cX6_rule 30 = .ok (.ldc 71, 2) := by decide +kernel
theorem dX6_rule_32 : decode cX6_rule 32 = .ok (.ireturn, 1) := by decide +kernel
theorem dX6_rule_33 : decode cX6_rule 33 = .ok (.iload_n 1, 1) := by decide +kernel
theorem dX6_rule_34 : decode cX6_rule 34 = .ok (.ifCond .ne 23, 3) := by decide +kernel
theorem dX6_rule_37 : decode cX6_rule 37 = .ok (.aload_n 0, 1) := by decide +kernel
theorem dX6_rule_38 : decode cX6_rule 38 = .ok (.getfield 28, 3) := by decide +kernel
theorem dX6_rule_41 : decode cX6_rule 41 = .ok (.getfield 136, 3) := by decide +kernel
theorem dX6_rule_44 : decode cX6_rule 44 = .ok (.istore 4, 2) := by decide +kernel
theorem dX6_rule_46 : decode cX6_rule 46 = .ok (.aload_n 0, 1) := by decide +kernel
theorem dX6_rule_47 : decode cX6_rule 47 = .ok (.getfield 28, 3) := by decide +kernel
theorem dX6_rule_50 : decode cX6_rule 50 = .ok (.iload_n 2, 1) := by decide +kernel
theorem dX6_rule_51 : decode cX6_rule 51 = .ok (.putfield 136, 3) := by decide +kernel
theorem dX6_rule_54 : decode cX6_rule 54 = .ok (.goto 45, 3) := by decide +kernel
theorem dX6_rule_57 : decode cX6_rule 57 = .ok (.iload_n 1, 1) := by decide +kernel
theorem dX6_rule_58 : decode cX6_rule 58 = .ok (.iconst 1, 1) := by decide +kernel
theorem dX6_rule_59 : decode cX6_rule 59 = .ok (.if_icmp .ne 23, 3) := by decide +kernel
theorem dX6_rule_62 : decode cX6_rule 62 = .ok (.aload_n 0, 1) := by decide +kernel
theorem dX6_rule_63 : decode cX6_rule 63 = .ok (.getfield 28, 3) := by decide +kernel
theorem dX6_rule_66 : decode cX6_rule 66 = .ok (.getfield 139, 3) := by decide +kernel
theorem dX6_rule_69 : decode cX6_rule 69 = .ok (.istore 4, 2) := by decide +kernel
theorem dX6_rule_71 : decode cX6_rule 71 = .ok (.aload_n 0, 1) := by decide +kernel
theorem dX6_rule_72 : decode cX6_rule 72 = .ok (.getfield 28, 3) := by decide +kernel
theorem dX6_rule_75 : decode cX6_rule 75 = .ok (.iload_n 2, 1) := by decide +kernel
theorem dX6_rule_76 : decode cX6_rule 76 = .ok (.putfield 139, 3) := by decide +kernel
theorem dX6_rule_79 : decode cX6_rule 79 = .ok (.goto 20, 3) := by decide +kernel
theorem dX6_rule_82 : decode cX6_rule 82 = .ok (.aload_n 0, 1) := by decide +kernel
theorem dX6_rule_83 : decode cX6_rule 83 = .ok (.getfield 28, 3) := by decide +kernel
theorem dX6_rule_86 : decode cX6_rule 86 = .ok (.getfield 142, 3) := by decide +kernel
theorem dX6_rule_89 : decode cX6_rule 89 = .ok (.istore 4, 2) := by decide +kernel
theorem dX6_rule_91 : decode cX6_rule 91 = .ok (.aload_n 0, 1) := by decide +kernel
theorem dX6_rule_92 : decode cX6_rule 92 = .ok (.getfield 28, 3) := by decide +kernel
theorem dX6_rule_95 : decode cX6_rule 95 = .ok (.iload_n 2, 1) := by decide +kernel
theorem dX6_rule_96 : decode cX6_rule 96 = .ok (.putfield 142, 3) := by decide +kernel
theorem dX6_rule_99 : decode cX6_rule 99 = .ok (.iload 4, 2) := by decide +kernel
theorem dX6_rule_101 : decode cX6_rule 101 = .ok (.ireturn, 1) := by decide +kernel
theorem dX6_again_0 : decode cX6_again 0 = .ok (.aload_n 0, 1) := by decide +kernel
theorem dX6_again_1 : decode cX6_again 1 = .ok (.getfield 28, 3) := by decide +kernel
theorem dX6_again_4 : decode cX6_again 4 = .ok (.getfield 145, 3) := by decide +kernel
theorem dX6_again_7 : decode cX6_again 7 = .ok (.istore_n 1, 1) := by decide +kernel
theorem dX6_again_8 : decode cX6_again 8 = .ok (.aload_n 0, 1) := by decide +kernel
theorem dX6_again_9 : decode cX6_again 9 = .ok (.getfield 28, 3) := by decide +kernel
theorem dX6_again_12 : decode cX6_again 12 = .ok (.invokevirtual 148, 3) := by decide +kernel
theorem dX6_again_15 : decode cX6_again 15 = .ok (.iload_n 1, 1) := by decide +kernel
theorem dX6_again_16 : decode cX6_again 16 = .ok (.ireturn, 1) := by decide +kernel
theorem dX6_deal_0 : decode cX6_deal 0 = .ok (.iload_n 1, 1) := by decide +kernel
theorem dX6_deal_1 : decode cX6_deal 1 = .ok (.iconst 1, 1) := by decide +kernel
theorem dX6_deal_2 : decode cX6_deal 2 = .ok (.bipush 10, 2) := by decide +kernel
theorem dX6_deal_4 : decode cX6_deal 4 = .ok (.invokestatic 67, 3) := by decide +kernel
theorem dX6_deal_7 : decode cX6_deal 7 = .ok (.ifCond .ne 6, 3) := by decide +kernel
theorem dX6_deal_10 : decode cX6_deal 10 = .ok (.ldc 71, 2) := by decide +kernel
theorem dX6_deal_12 : decode cX6_deal 12 = .ok (.ireturn, 1) := by decide +kernel
theorem dX6_deal_13 : decode cX6_deal 13 = .ok (.iload_n 1, 1) := by decide +kernel
theorem dX6_deal_14 : decode cX6_deal 14 = .ok (.bipush 10, 2) := by decide +kernel
theorem dX6_deal_16 : decode cX6_deal 16 = .ok (.aload_n 0, 1) := by decide +kernel
theorem dX6_deal_17 : decode cX6_deal 17 = .ok (.getfield 28, 3) := by decide +kernel
theorem dX6_deal_20 : decode cX6_deal 20 = .ok (.getfield 72, 3) := by decide +kernel
theorem dX6_deal_23 : decode cX6_deal 23 = .ok (.isub, 1) := by decide +kernel
theorem dX6_deal_24 : decode cX6_deal 24 = .ok (.invokestatic 151, 3) := by decide +kernel
theorem dX6_deal_27 : decode cX6_deal 27 = .ok (.istore_n 2, 1) := by decide +kernel
theorem dX6_deal_28 : decode cX6_deal 28 = .ok (.iconst 0, 1) := by decide +kernel
theorem dX6_deal_29 : decode cX6_deal 29 = .ok (.istore_n 3, 1) := by decide +kernel
theorem dX6_deal_30 : decode cX6_deal 30 = .ok (.iload_n 3, 1) := by decide +kernel
theorem dX6_deal_31 : decode cX6_deal 31 = .ok (.iload_n 2, 1) := by decide +kernel
theorem dX6_deal_32 : decode cX6_deal 32 = .ok (.if_icmp .ge 16, 3) := by decide +kernel
theorem dX6_deal_35 : decode cX6_deal 35 = .ok (.aload_n 0, 1) := by decide +kernel
theorem dX6_deal_36 : decode cX6_deal 36 = .ok (.getfield 28, 3) := by decide +kernel
theorem dX6_deal_39 : decode cX6_deal 39 = .ok (.invokevirtual 156, 3) := by decide +kernel
theorem dX6_deal_42 : decode cX6_deal 42 = .ok (.iinc 3 1, 3) := by decide +kernel
theorem dX6_deal_45 : decode cX6_deal 45 = .ok (.goto (-15), 3) := by decide +kernel
theorem dX6_deal_48 : decode cX6_deal 48 = .ok (.iload_n 2, 1) := by decide +kernel
theorem dX6_deal_49 : decode cX6_deal 49 = .ok (.ireturn, 1) := by decide +kernel
theorem dX6_seed_0 : decode cX6_seed 0 = .ok (.aload_n 0, 1) := by decide +kernel
theorem dX6_seed_1 : decode cX6_seed 1 = .ok (.getfield 28, 3) := by decide +kernel
theorem dX6_seed_4 : decode cX6_seed 4 = .ok (.getfield 159, 3) := by decide +kernel
theorem dX6_seed_7 : decode cX6_seed 7 = .ok (.istore_n 2, 1) := by decide +kernel
theorem dX6_seed_8 : decode cX6_seed 8 = .ok (.aload_n 0, 1) := by decide +kernel
theorem dX6_seed_9 : decode cX6_seed 9 = .ok (.getfield 28, 3) := by decide +kernel
theorem dX6_seed_12 : decode cX6_seed 12 = .ok (.iload_n 1, 1) := by decide +kernel
theorem dX6_seed_13 : decode cX6_seed 13 = .ok (.putfield 159, 3) := by decide +kernel
theorem dX6_seed_16 : decode cX6_seed 16 = .ok (.iload_n 2, 1) := by decide +kernel
theorem dX6_seed_17 : decode cX6_seed 17 = .ok (.ireturn, 1) := by decide +kernel
theorem dX6_rounds_0 : decode cX6_rounds 0 = .ok (.iload_n 1, 1) := by decide +kernel
theorem dX6_rounds_1 : decode cX6_rounds 1 = .ok (.iconst 1, 1) := by decide +kernel
theorem dX6_rounds_2 : decode cX6_rounds 2 = .ok (.bipush 100, 2) := by decide +kernel
theorem dX6_rounds_4 : decode cX6_rounds 4 = .ok (.invokestatic 67, 3) := by decide +kernel
theorem dX6_rounds_7 : decode cX6_rounds 7 = .ok (.ifCond .ne 6, 3) := by decide +kernel
theorem dX6_rounds_10 : decode cX6_rounds 10 = .ok (.ldc 71, 2) := by decide +kernel
theorem dX6_rounds_12 : decode cX6_rounds 12 = .ok (.ireturn, 1) := by decide +kernel
theorem dX6_rounds_13 : decode cX6_rounds 13 = .ok (.aload_n 0, 1) := by decide +kernel
theorem dX6_rounds_14 : decode cX6_rounds 14 = .ok (.getfield 28, 3) := by decide +kernel
theorem dX6_rounds_17 : decode cX6_rounds 17 = .ok (.iload_n 1, 1) := by decide +kernel
theorem dX6_rounds_18 : decode cX6_rounds 18 = .ok (.sipush 9999, 3) := by decide +kernel
theorem dX6_rounds_21 : decode cX6_rounds 21 = .ok (.aload_n 0, 1) := by decide +kernel
theorem dX6_rounds_22 : decode cX6_rounds 22 = .ok (.getfield 28, 3) := by decide +kernel
theorem dX6_rounds_25 : decode cX6_rounds 25 = .ok (.getfield 162, 3) := by decide +kernel
theorem dX6_rounds_28 : decode cX6_rounds 28 = .ok (.isub, 1) := by decide +kernel
theorem dX6_rounds_29 : decode cX6_rounds 29 = .ok (.invokestatic 151, 3) := by decide +kernel
theorem dX6_rounds_32 : decode cX6_rounds 32 = .ok (.invokevirtual 165, 3) := by decide +kernel
theorem dX6_rounds_35 : decode cX6_rounds 35 = .ok (.aload_n 0, 1) := by decide +kernel
theorem dX6_rounds_36 : decode cX6_rounds 36 = .ok (.getfield 28, 3) := by decide +kernel
theorem dX6_rounds_39 : decode cX6_rounds 39 = .ok (.getfield 169, 3) := by decide +kernel
theorem dX6_rounds_42 : decode cX6_rounds 42 = .ok (.ireturn, 1) := by decide +kernel
theorem dX6_conclave_0 : decode cX6_conclave 0 = .ok (.iload_n 1, 1) := by decide +kernel
theorem dX6_conclave_1 : decode cX6_conclave 1 = .ok (.tableswitch 102 0 5 #[39, 47, 55, 63, 71, 79], 39) := by decide +kernel
theorem dX6_conclave_40 : decode cX6_conclave 40 = .ok (.aload_n 0, 1) := by decide +kernel
theorem dX6_conclave_41 : decode cX6_conclave 41 = .ok (.getfield 28, 3) := by decide +kernel
theorem dX6_conclave_44 : decode cX6_conclave 44 = .ok (.getfield 169, 3) := by decide +kernel
theorem dX6_conclave_47 : decode cX6_conclave 47 = .ok (.ireturn, 1) := by decide +kernel
theorem dX6_conclave_48 : decode cX6_conclave 48 = .ok (.aload_n 0, 1) := by decide +kernel
theorem dX6_conclave_49 : decode cX6_conclave 49 = .ok (.getfield 28, 3) := by decide +kernel
theorem dX6_conclave_52 : decode cX6_conclave 52 = .ok (.invokevirtual 172, 3) := by decide +kernel
theorem dX6_conclave_55 : decode cX6_conclave 55 = .ok (.ireturn, 1) := by decide +kernel
theorem dX6_conclave_56 : decode cX6_conclave 56 = .ok (.aload_n 0, 1) := by decide +kernel
theorem dX6_conclave_57 : decode cX6_conclave 57 = .ok (.getfield 28, 3) := by decide +kernel
theorem dX6_conclave_60 : decode cX6_conclave 60 = .ok (.getfield 175, 3) := by decide +kernel
theorem dX6_conclave_63 : decode cX6_conclave 63 = .ok (.ireturn, 1) := by decide +kernel
theorem dX6_conclave_64 : decode cX6_conclave 64 = .ok (.aload_n 0, 1) := by decide +kernel
theorem dX6_conclave_65 : decode cX6_conclave 65 = .ok (.getfield 28, 3) := by decide +kernel
theorem dX6_conclave_68 : decode cX6_conclave 68 = .ok (.getfield 178, 3) := by decide +kernel
theorem dX6_conclave_71 : decode cX6_conclave 71 = .ok (.ireturn, 1) := by decide +kernel
theorem dX6_conclave_72 : decode cX6_conclave 72 = .ok (.aload_n 0, 1) := by decide +kernel
theorem dX6_conclave_73 : decode cX6_conclave 73 = .ok (.getfield 28, 3) := by decide +kernel
theorem dX6_conclave_76 : decode cX6_conclave 76 = .ok (.invokevirtual 105, 3) := by decide +kernel
theorem dX6_conclave_79 : decode cX6_conclave 79 = .ok (.ireturn, 1) := by decide +kernel
theorem dX6_conclave_80 : decode cX6_conclave 80 = .ok (.aload_n 0, 1) := by decide +kernel
theorem dX6_conclave_81 : decode cX6_conclave 81 = .ok (.getfield 28, 3) := by decide +kernel
theorem dX6_conclave_84 : decode cX6_conclave 84 = .ok (.invokevirtual 181, 3) := by decide +kernel
theorem dX6_conclave_87 : decode cX6_conclave 87 = .ok (.ifCond .le 13, 3) := by decide +kernel
theorem dX6_conclave_90 : decode cX6_conclave 90 = .ok (.aload_n 0, 1) := by decide +kernel
theorem dX6_conclave_91 : decode cX6_conclave 91 = .ok (.getfield 28, 3) := by decide +kernel
theorem dX6_conclave_94 : decode cX6_conclave 94 = .ok (.invokevirtual 109, 3) := by decide +kernel
theorem dX6_conclave_97 : decode cX6_conclave 97 = .ok (.goto 5, 3) := by decide +kernel
theorem dX6_conclave_100 : decode cX6_conclave 100 = .ok (.ldc 184, 2) := by decide +kernel
theorem dX6_conclave_102 : decode cX6_conclave 102 = .ok (.ireturn, 1) := by decide +kernel
theorem dX6_conclave_103 : decode cX6_conclave 103 = .ok (.ldc 71, 2) := by decide +kernel
theorem dX6_conclave_105 : decode cX6_conclave 105 = .ok (.ireturn, 1) := by decide +kernel
theorem dX6_butOne_0 : decode cX6_butOne 0 = .ok (.aload_n 0, 1) := by decide +kernel
theorem dX6_butOne_1 : decode cX6_butOne 1 = .ok (.getfield 28, 3) := by decide +kernel
theorem dX6_butOne_4 : decode cX6_butOne 4 = .ok (.invokevirtual 172, 3) := by decide +kernel
theorem dX6_butOne_7 : decode cX6_butOne 7 = .ok (.iconst 1, 1) := by decide +kernel
theorem dX6_butOne_8 : decode cX6_butOne 8 = .ok (.isub, 1) := by decide +kernel
theorem dX6_butOne_9 : decode cX6_butOne 9 = .ok (.istore_n 1, 1) := by decide +kernel
theorem dX6_butOne_10 : decode cX6_butOne 10 = .ok (.iconst 0, 1) := by decide +kernel
theorem dX6_butOne_11 : decode cX6_butOne 11 = .ok (.istore_n 2, 1) := by decide +kernel
theorem dX6_butOne_12 : decode cX6_butOne 12 = .ok (.iconst 0, 1) := by decide +kernel
theorem dX6_butOne_13 : decode cX6_butOne 13 = .ok (.istore_n 3, 1) := by decide +kernel
theorem dX6_butOne_14 : decode cX6_butOne 14 = .ok (.iload_n 3, 1) := by decide +kernel
theorem dX6_butOne_15 : decode cX6_butOne 15 = .ok (.aload_n 0, 1) := by decide +kernel
theorem dX6_butOne_16 : decode cX6_butOne 16 = .ok (.getfield 28, 3) := by decide +kernel
theorem dX6_butOne_19 : decode cX6_butOne 19 = .ok (.getfield 72, 3) := by decide +kernel
theorem dX6_butOne_22 : decode cX6_butOne 22 = .ok (.if_icmp .ge 28, 3) := by decide +kernel
theorem dX6_butOne_25 : decode cX6_butOne 25 = .ok (.aload_n 0, 1) := by decide +kernel
theorem dX6_butOne_26 : decode cX6_butOne 26 = .ok (.getfield 28, 3) := by decide +kernel
theorem dX6_butOne_29 : decode cX6_butOne 29 = .ok (.getfield 102, 3) := by decide +kernel
theorem dX6_butOne_32 : decode cX6_butOne 32 = .ok (.iload_n 3, 1) := by decide +kernel
theorem dX6_butOne_33 : decode cX6_butOne 33 = .ok (.iaload, 1) := by decide +kernel
theorem dX6_butOne_34 : decode cX6_butOne 34 = .ok (.iload_n 1, 1) := by decide +kernel
theorem dX6_butOne_35 : decode cX6_butOne 35 = .ok (.if_icmp .ne 9, 3) := by decide +kernel
theorem dX6_butOne_38 : decode cX6_butOne 38 = .ok (.iload_n 2, 1) := by decide +kernel
theorem dX6_butOne_39 : decode cX6_butOne 39 = .ok (.iconst 1, 1) := by decide +kernel
theorem dX6_butOne_40 : decode cX6_butOne 40 = .ok (.iload_n 3, 1) := by decide +kernel
theorem dX6_butOne_41 : decode cX6_butOne 41 = .ok (.ishl, 1) := by decide +kernel
theorem dX6_butOne_42 : decode cX6_butOne 42 = .ok (.ior, 1) := by decide +kernel
theorem dX6_butOne_43 : decode cX6_butOne 43 = .ok (.istore_n 2, 1) := by decide +kernel
theorem dX6_butOne_44 : decode cX6_butOne 44 = .ok (.iinc 3 1, 3) := by decide +kernel
theorem dX6_butOne_47 : decode cX6_butOne 47 = .ok (.goto (-33), 3) := by decide +kernel
theorem dX6_butOne_50 : decode cX6_butOne 50 = .ok (.iload_n 2, 1) := by decide +kernel
theorem dX6_butOne_51 : decode cX6_butOne 51 = .ok (.ireturn, 1) := by decide +kernel
theorem dX6_decides_0 : decode cX6_decides 0 = .ok (.aload_n 0, 1) := by decide +kernel
theorem dX6_decides_1 : decode cX6_decides 1 = .ok (.getfield 28, 3) := by decide +kernel
theorem dX6_decides_4 : decode cX6_decides 4 = .ok (.invokevirtual 172, 3) := by decide +kernel
theorem dX6_decides_7 : decode cX6_decides 7 = .ok (.istore_n 1, 1) := by decide +kernel
theorem dX6_decides_8 : decode cX6_decides 8 = .ok (.iconst 0, 1) := by decide +kernel
theorem dX6_decides_9 : decode cX6_decides 9 = .ok (.istore_n 2, 1) := by decide +kernel
theorem dX6_decides_10 : decode cX6_decides 10 = .ok (.iconst 0, 1) := by decide +kernel
theorem dX6_decides_11 : decode cX6_decides 11 = .ok (.istore_n 3, 1) := by decide +kernel
theorem dX6_decides_12 : decode cX6_decides 12 = .ok (.iload_n 3, 1) := by decide +kernel
theorem dX6_decides_13 : decode cX6_decides 13 = .ok (.aload_n 0, 1) := by decide +kernel
theorem dX6_decides_14 : decode cX6_decides 14 = .ok (.getfield 28, 3) := by decide +kernel
theorem dX6_decides_17 : decode cX6_decides 17 = .ok (.getfield 72, 3) := by decide +kernel
theorem dX6_decides_20 : decode cX6_decides 20 = .ok (.if_icmp .ge 79, 3) := by decide +kernel
theorem dX6_decides_23 : decode cX6_decides 23 = .ok (.aload_n 0, 1) := by decide +kernel
theorem dX6_decides_24 : decode cX6_decides 24 = .ok (.getfield 28, 3) := by decide +kernel
theorem dX6_decides_27 : decode cX6_decides 27 = .ok (.getfield 99, 3) := by decide +kernel
theorem dX6_decides_30 : decode cX6_decides 30 = .ok (.iload_n 3, 1) := by decide +kernel
theorem dX6_decides_31 : decode cX6_decides 31 = .ok (.iaload, 1) := by decide +kernel
theorem dX6_decides_32 : decode cX6_decides 32 = .ok (.istore 4, 2) := by decide +kernel
theorem dX6_decides_34 : decode cX6_decides 34 = .ok (.aload_n 0, 1) := by decide +kernel
theorem dX6_decides_35 : decode cX6_decides 35 = .ok (.getfield 28, 3) := by decide +kernel
theorem dX6_decides_38 : decode cX6_decides 38 = .ok (.iload 4, 2) := by decide +kernel
theorem dX6_decides_40 : decode cX6_decides 40 = .ok (.invokevirtual 80, 3) := by decide +kernel
theorem dX6_decides_43 : decode cX6_decides 43 = .ok (.ifCond .eq 50, 3) := by decide +kernel
theorem dX6_decides_46 : decode cX6_decides 46 = .ok (.aload_n 0, 1) := by decide +kernel
theorem dX6_decides_47 : decode cX6_decides 47 = .ok (.getfield 28, 3) := by decide +kernel
theorem dX6_decides_50 : decode cX6_decides 50 = .ok (.getfield 102, 3) := by decide +kernel
theorem dX6_decides_53 : decode cX6_decides 53 = .ok (.iload 4, 2) := by decide +kernel
theorem dX6_decides_55 : decode cX6_decides 55 = .ok (.iaload, 1) := by decide +kernel
theorem dX6_decides_56 : decode cX6_decides 56 = .ok (.iload_n 1, 1) := by decide +kernel
theorem dX6_decides_57 : decode cX6_decides 57 = .ok (.if_icmp .lt 36, 3) := by decide +kernel
theorem dX6_decides_60 : decode cX6_decides 60 = .ok (.aload_n 0, 1) := by decide +kernel
theorem dX6_decides_61 : decode cX6_decides 61 = .ok (.getfield 28, 3) := by decide +kernel
theorem dX6_decides_64 : decode cX6_decides 64 = .ok (.getfield 102, 3) := by decide +kernel
theorem dX6_decides_67 : decode cX6_decides 67 = .ok (.iload 4, 2) := by decide +kernel
theorem dX6_decides_69 : decode cX6_decides 69 = .ok (.iaload, 1) := by decide +kernel
theorem dX6_decides_70 : decode cX6_decides 70 = .ok (.aload_n 0, 1) := by decide +kernel
theorem dX6_decides_71 : decode cX6_decides 71 = .ok (.getfield 28, 3) := by decide +kernel
theorem dX6_decides_74 : decode cX6_decides 74 = .ok (.getfield 84, 3) := by decide +kernel
theorem dX6_decides_77 : decode cX6_decides 77 = .ok (.iload_n 3, 1) := by decide +kernel
theorem dX6_decides_78 : decode cX6_decides 78 = .ok (.iaload, 1) := by decide +kernel
theorem dX6_decides_79 : decode cX6_decides 79 = .ok (.invokestatic 116, 3) := by decide +kernel
theorem dX6_decides_82 : decode cX6_decides 82 = .ok (.isub, 1) := by decide +kernel
theorem dX6_decides_83 : decode cX6_decides 83 = .ok (.iload_n 1, 1) := by decide +kernel
theorem dX6_decides_84 : decode cX6_decides 84 = .ok (.if_icmp .ge 9, 3) := by decide +kernel
theorem dX6_decides_87 : decode cX6_decides 87 = .ok (.iload_n 2, 1) := by decide +kernel
theorem dX6_decides_88 : decode cX6_decides 88 = .ok (.iconst 1, 1) := by decide +kernel
theorem dX6_decides_89 : decode cX6_decides 89 = .ok (.iload_n 3, 1) := by decide +kernel
theorem dX6_decides_90 : decode cX6_decides 90 = .ok (.ishl, 1) := by decide +kernel
theorem dX6_decides_91 : decode cX6_decides 91 = .ok (.ior, 1) := by decide +kernel
theorem dX6_decides_92 : decode cX6_decides 92 = .ok (.istore_n 2, 1) := by decide +kernel
theorem dX6_decides_93 : decode cX6_decides 93 = .ok (.iinc 3 1, 3) := by decide +kernel
theorem dX6_decides_96 : decode cX6_decides 96 = .ok (.goto (-84), 3) := by decide +kernel
theorem dX6_decides_99 : decode cX6_decides 99 = .ok (.iload_n 2, 1) := by decide +kernel
theorem dX6_decides_100 : decode cX6_decides 100 = .ok (.ireturn, 1) := by decide +kernel
theorem dX6_splits_0 : decode cX6_splits 0 = .ok (.iload_n 1, 1) := by decide +kernel
theorem dX6_splits_1 : decode cX6_splits 1 = .ok (.iconst 0, 1) := by decide +kernel
theorem dX6_splits_2 : decode cX6_splits 2 = .ok (.bipush 12, 2) := by decide +kernel
theorem dX6_splits_4 : decode cX6_splits 4 = .ok (.invokestatic 67, 3) := by decide +kernel
theorem dX6_splits_7 : decode cX6_splits 7 = .ok (.ifCond .eq 13, 3) := by decide +kernel
theorem dX6_splits_10 : decode cX6_splits 10 = .ok (.iload_n 2, 1) := by decide +kernel
theorem dX6_splits_11 : decode cX6_splits 11 = .ok (.iconst 1, 1) := by decide +kernel
theorem dX6_splits_12 : decode cX6_splits 12 = .ok (.bipush 6, 2) := by decide +kernel
theorem dX6_splits_14 : decode cX6_splits 14 = .ok (.invokestatic 67, 3) := by decide +kernel
theorem dX6_splits_17 : decode cX6_splits 17 = .ok (.ifCond .ne 6, 3) := by decide +kernel
theorem dX6_splits_20 : decode cX6_splits 20 = .ok (.ldc 71, 2) := by decide +kernel
theorem dX6_splits_22 : decode cX6_splits 22 = .ok (.ireturn, 1) := by decide +kernel
theorem dX6_splits_23 : decode cX6_splits 23 = .ok (.aload_n 0, 1) := by decide +kernel
theorem dX6_splits_24 : decode cX6_splits 24 = .ok (.getfield 56, 3) := by decide +kernel
theorem dX6_splits_27 : decode cX6_splits 27 = .ok (.iconst 0, 1) := by decide +kernel
theorem dX6_splits_28 : decode cX6_splits 28 = .ok (.invokestatic 185, 3) := by decide +kernel
theorem dX6_splits_31 : decode cX6_splits 31 = .ok (.aload_n 0, 1) := by decide +kernel
theorem dX6_splits_32 : decode cX6_splits 32 = .ok (.getfield 56, 3) := by decide +kernel
theorem dX6_splits_35 : decode cX6_splits 35 = .ok (.iconst 0, 1) := by decide +kernel
theorem dX6_splits_36 : decode cX6_splits 36 = .ok (.iconst 1, 1) := by decide +kernel
theorem dX6_splits_37 : decode cX6_splits 37 = .ok (.iastore, 1) := by decide +kernel
theorem dX6_splits_38 : decode cX6_splits 38 = .ok (.iconst 0, 1) := by decide +kernel
theorem dX6_splits_39 : decode cX6_splits 39 = .ok (.istore_n 3, 1) := by decide +kernel
theorem dX6_splits_40 : decode cX6_splits 40 = .ok (.iload_n 3, 1) := by decide +kernel
theorem dX6_splits_41 : decode cX6_splits 41 = .ok (.iload_n 2, 1) := by decide +kernel
theorem dX6_splits_42 : decode cX6_splits 42 = .ok (.if_icmp .ge 37, 3) := by decide +kernel
theorem dX6_splits_45 : decode cX6_splits 45 = .ok (.iload_n 1, 1) := by decide +kernel
theorem dX6_splits_46 : decode cX6_splits 46 = .ok (.istore 4, 2) := by decide +kernel
theorem dX6_splits_48 : decode cX6_splits 48 = .ok (.iload 4, 2) := by decide +kernel
theorem dX6_splits_50 : decode cX6_splits 50 = .ok (.ifCond .lt 23, 3) := by decide +kernel
theorem dX6_splits_53 : decode cX6_splits 53 = .ok (.aload_n 0, 1) := by decide +kernel
theorem dX6_splits_54 : decode cX6_splits 54 = .ok (.getfield 56, 3) := by decide +kernel
theorem dX6_splits_57 : decode cX6_splits 57 = .ok (.iload 4, 2) := by decide +kernel
theorem dX6_splits_59 : decode cX6_splits 59 = .ok (.aload_n 0, 1) := by decide +kernel
theorem dX6_splits_60 : decode cX6_splits 60 = .ok (.iload 4, 2) := by decide +kernel
theorem dX6_splits_62 : decode cX6_splits 62 = .ok (.iload_n 1, 1) := by decide +kernel
theorem dX6_splits_63 : decode cX6_splits 63 = .ok (.invokevirtual 191, 3) := by decide +kernel
theorem dX6_splits_66 : decode cX6_splits 66 = .ok (.iastore, 1) := by decide +kernel
theorem dX6_splits_67 : decode cX6_splits 67 = .ok (.iinc 4 (-1), 3) := by decide +kernel
theorem dX6_splits_70 : decode cX6_splits 70 = .ok (.goto (-22), 3) := by decide +kernel
theorem dX6_splits_73 : decode cX6_splits 73 = .ok (.iinc 3 1, 3) := by decide +kernel
theorem dX6_splits_76 : decode cX6_splits 76 = .ok (.goto (-36), 3) := by decide +kernel
theorem dX6_splits_79 : decode cX6_splits 79 = .ok (.aload_n 0, 1) := by decide +kernel
theorem dX6_splits_80 : decode cX6_splits 80 = .ok (.getfield 56, 3) := by decide +kernel
theorem dX6_splits_83 : decode cX6_splits 83 = .ok (.iload_n 1, 1) := by decide +kernel
theorem dX6_splits_84 : decode cX6_splits 84 = .ok (.iaload, 1) := by decide +kernel
theorem dX6_splits_85 : decode cX6_splits 85 = .ok (.ireturn, 1) := by decide +kernel
theorem dX6_behind_0 : decode cX6_behind 0 = .ok (.iload_n 2, 1) := by decide +kernel
theorem dX6_behind_1 : decode cX6_behind 1 = .ok (.iconst 0, 1) := by decide +kernel
theorem dX6_behind_2 : decode cX6_behind 2 = .ok (.iconst 2, 1) := by decide +kernel
theorem dX6_behind_3 : decode cX6_behind 3 = .ok (.invokestatic 67, 3) := by decide +kernel
theorem dX6_behind_6 : decode cX6_behind 6 = .ok (.ifCond .ne 21, 3) := by decide +kernel
theorem dX6_behind_9 : decode cX6_behind 9 = .ok (.iload_n 2, 1) := by decide +kernel
theorem dX6_behind_10 : decode cX6_behind 10 = .ok (.iconst 3, 1) := by decide +kernel
theorem dX6_behind_11 : decode cX6_behind 11 = .ok (.if_icmp .lt 20, 3) := by decide +kernel
theorem dX6_behind_14 : decode cX6_behind 14 = .ok (.aload_n 0, 1) := by decide +kernel
theorem dX6_behind_15 : decode cX6_behind 15 = .ok (.getfield 28, 3) := by decide +kernel
theorem dX6_behind_18 : decode cX6_behind 18 = .ok (.iload_n 2, 1) := by decide +kernel
theorem dX6_behind_19 : decode cX6_behind 19 = .ok (.iconst 3, 1) := by decide +kernel
theorem dX6_behind_20 : decode cX6_behind 20 = .ok (.isub, 1) := by decide +kernel
theorem dX6_behind_21 : decode cX6_behind 21 = .ok (.invokevirtual 80, 3) := by decide +kernel
theorem dX6_behind_24 : decode cX6_behind 24 = .ok (.ifCond .eq 7, 3) := by decide +kernel
theorem dX6_behind_27 : decode cX6_behind 27 = .ok (.iconst 1, 1) := by decide +kernel
theorem dX6_behind_28 : decode cX6_behind 28 = .ok (.goto 4, 3) := by decide +kernel
theorem dX6_behind_31 : decode cX6_behind 31 = .ok (.iconst 0, 1) := by decide +kernel
theorem dX6_behind_32 : decode cX6_behind 32 = .ok (.istore_n 3, 1) := by decide +kernel
theorem dX6_behind_33 : decode cX6_behind 33 = .ok (.iload_n 1, 1) := by decide +kernel
theorem dX6_behind_34 : decode cX6_behind 34 = .ok (.iconst 0, 1) := by decide +kernel
theorem dX6_behind_35 : decode cX6_behind 35 = .ok (.bipush 100, 2) := by decide +kernel
theorem dX6_behind_37 : decode cX6_behind 37 = .ok (.invokestatic 67, 3) := by decide +kernel
theorem dX6_behind_40 : decode cX6_behind 40 = .ok (.ifCond .eq 7, 3) := by decide +kernel
theorem dX6_behind_43 : decode cX6_behind 43 = .ok (.iload_n 3, 1) := by decide +kernel
theorem dX6_behind_44 : decode cX6_behind 44 = .ok (.ifCond .ne 6, 3) := by decide +kernel
theorem dX6_behind_47 : decode cX6_behind 47 = .ok (.ldc 71, 2) := by decide +kernel
theorem dX6_behind_49 : decode cX6_behind 49 = .ok (.ireturn, 1) := by decide +kernel
theorem dX6_behind_50 : decode cX6_behind 50 = .ok (.aload_n 0, 1) := by decide +kernel
theorem dX6_behind_51 : decode cX6_behind 51 = .ok (.getfield 35, 3) := by decide +kernel
theorem dX6_behind_54 : decode cX6_behind 54 = .ok (.aload_n 0, 1) := by decide +kernel
theorem dX6_behind_55 : decode cX6_behind 55 = .ok (.getfield 28, 3) := by decide +kernel
theorem dX6_behind_58 : decode cX6_behind 58 = .ok (.invokevirtual 194, 3) := by decide +kernel
theorem dX6_behind_61 : decode cX6_behind 61 = .ok (.aload_n 0, 1) := by decide +kernel
theorem dX6_behind_62 : decode cX6_behind 62 = .ok (.getfield 35, 3) := by decide +kernel
theorem dX6_behind_65 : decode cX6_behind 65 = .ok (.iload_n 1, 1) := by decide +kernel
theorem dX6_behind_66 : decode cX6_behind 66 = .ok (.invokevirtual 165, 3) := by decide +kernel
theorem dX6_behind_69 : decode cX6_behind 69 = .ok (.iload_n 2, 1) := by decide +kernel
theorem dX6_behind_70 : decode cX6_behind 70 = .ok (.tableswitch 50 0 2 #[26, 34, 42], 26) := by decide +kernel
theorem dX6_behind_96 : decode cX6_behind 96 = .ok (.aload_n 0, 1) := by decide +kernel
theorem dX6_behind_97 : decode cX6_behind 97 = .ok (.getfield 35, 3) := by decide +kernel
theorem dX6_behind_100 : decode cX6_behind 100 = .ok (.getfield 169, 3) := by decide +kernel
theorem dX6_behind_103 : decode cX6_behind 103 = .ok (.ireturn, 1) := by decide +kernel
theorem dX6_behind_104 : decode cX6_behind 104 = .ok (.aload_n 0, 1) := by decide +kernel
theorem dX6_behind_105 : decode cX6_behind 105 = .ok (.getfield 35, 3) := by decide +kernel
theorem dX6_behind_108 : decode cX6_behind 108 = .ok (.invokevirtual 181, 3) := by decide +kernel
theorem dX6_behind_111 : decode cX6_behind 111 = .ok (.ireturn, 1) := by decide +kernel
theorem dX6_behind_112 : decode cX6_behind 112 = .ok (.aload_n 0, 1) := by decide +kernel
theorem dX6_behind_113 : decode cX6_behind 113 = .ok (.getfield 35, 3) := by decide +kernel
theorem dX6_behind_116 : decode cX6_behind 116 = .ok (.getfield 175, 3) := by decide +kernel
theorem dX6_behind_119 : decode cX6_behind 119 = .ok (.ireturn, 1) := by decide +kernel
theorem dX6_behind_120 : decode cX6_behind 120 = .ok (.aload_n 0, 1) := by decide +kernel
theorem dX6_behind_121 : decode cX6_behind 121 = .ok (.getfield 35, 3) := by decide +kernel
theorem dX6_behind_124 : decode cX6_behind 124 = .ok (.getfield 99, 3) := by decide +kernel
theorem dX6_behind_127 : decode cX6_behind 127 = .ok (.iload_n 2, 1) := by decide +kernel
theorem dX6_behind_128 : decode cX6_behind 128 = .ok (.iconst 3, 1) := by decide +kernel
theorem dX6_behind_129 : decode cX6_behind 129 = .ok (.isub, 1) := by decide +kernel
theorem dX6_behind_130 : decode cX6_behind 130 = .ok (.iaload, 1) := by decide +kernel
theorem dX6_behind_131 : decode cX6_behind 131 = .ok (.ireturn, 1) := by decide +kernel
theorem dX6_ends_0 : decode cX6_ends 0 = .ok (.aload_n 0, 1) := by decide +kernel
theorem dX6_ends_1 : decode cX6_ends 1 = .ok (.getfield 35, 3) := by decide +kernel
theorem dX6_ends_4 : decode cX6_ends 4 = .ok (.aload_n 0, 1) := by decide +kernel
theorem dX6_ends_5 : decode cX6_ends 5 = .ok (.getfield 28, 3) := by decide +kernel
theorem dX6_ends_8 : decode cX6_ends 8 = .ok (.invokevirtual 194, 3) := by decide +kernel
theorem dX6_ends_11 : decode cX6_ends 11 = .ok (.iconst 0, 1) := by decide +kernel
theorem dX6_ends_12 : decode cX6_ends 12 = .ok (.istore_n 1, 1) := by decide +kernel
theorem dX6_ends_13 : decode cX6_ends 13 = .ok (.iload_n 1, 1) := by decide +kernel
theorem dX6_ends_14 : decode cX6_ends 14 = .ok (.bipush 100, 2) := by decide +kernel
theorem dX6_ends_16 : decode cX6_ends 16 = .ok (.if_icmp .gt 29, 3) := by decide +kernel
theorem dX6_ends_19 : decode cX6_ends 19 = .ok (.aload_n 0, 1) := by decide +kernel
theorem dX6_ends_20 : decode cX6_ends 20 = .ok (.getfield 35, 3) := by decide +kernel
theorem dX6_ends_23 : decode cX6_ends 23 = .ok (.getfield 169, 3) := by decide +kernel
theorem dX6_ends_26 : decode cX6_ends 26 = .ok (.iconst (-1), 1) := by decide +kernel
theorem dX6_ends_27 : decode cX6_ends 27 = .ok (.if_icmp .eq 5, 3) := by decide +kernel
theorem dX6_ends_30 : decode cX6_ends 30 = .ok (.iload_n 1, 1) := by decide +kernel
theorem dX6_ends_31 : decode cX6_ends 31 = .ok (.ireturn, 1) := by decide +kernel
theorem dX6_ends_32 : decode cX6_ends 32 = .ok (.aload_n 0, 1) := by decide +kernel
theorem dX6_ends_33 : decode cX6_ends 33 = .ok (.getfield 35, 3) := by decide +kernel
theorem dX6_ends_36 : decode cX6_ends 36 = .ok (.invokevirtual 198, 3) := by decide +kernel
theorem dX6_ends_39 : decode cX6_ends 39 = .ok (.iinc 1 1, 3) := by decide +kernel
theorem dX6_ends_42 : decode cX6_ends 42 = .ok (.goto (-29), 3) := by decide +kernel
theorem dX6_ends_45 : decode cX6_ends 45 = .ok (.ldc 184, 2) := by decide +kernel
theorem dX6_ends_47 : decode cX6_ends 47 = .ok (.ireturn, 1) := by decide +kernel
theorem dX6_won_0 : decode cX6_won 0 = .ok (.iload_n 1, 1) := by decide +kernel
theorem dX6_won_1 : decode cX6_won 1 = .ok (.iconst 1, 1) := by decide +kernel
theorem dX6_won_2 : decode cX6_won 2 = .ok (.bipush 40, 2) := by decide +kernel
theorem dX6_won_4 : decode cX6_won 4 = .ok (.invokestatic 67, 3) := by decide +kernel
theorem dX6_won_7 : decode cX6_won 7 = .ok (.ifCond .eq 23, 3) := by decide +kernel
theorem dX6_won_10 : decode cX6_won 10 = .ok (.aload_n 0, 1) := by decide +kernel
theorem dX6_won_11 : decode cX6_won 11 = .ok (.getfield 28, 3) := by decide +kernel
theorem dX6_won_14 : decode cX6_won 14 = .ok (.iload_n 2, 1) := by decide +kernel
theorem dX6_won_15 : decode cX6_won 15 = .ok (.invokevirtual 80, 3) := by decide +kernel
theorem dX6_won_18 : decode cX6_won 18 = .ok (.ifCond .eq 12, 3) := by decide +kernel
theorem dX6_won_21 : decode cX6_won 21 = .ok (.iload_n 3, 1) := by decide +kernel
theorem dX6_won_22 : decode cX6_won 22 = .ok (.iconst 0, 1) := by decide +kernel
theorem dX6_won_23 : decode cX6_won 23 = .ok (.iconst 1, 1) := by decide +kernel
theorem dX6_won_24 : decode cX6_won 24 = .ok (.invokestatic 67, 3) := by decide +kernel
theorem dX6_won_27 : decode cX6_won 27 = .ok (.ifCond .ne 6, 3) := by decide +kernel
theorem dX6_won_30 : decode cX6_won 30 = .ok (.ldc 71, 2) := by decide +kernel
theorem dX6_won_32 : decode cX6_won 32 = .ok (.ireturn, 1) := by decide +kernel
theorem dX6_won_33 : decode cX6_won 33 = .ok (.iconst 0, 1) := by decide +kernel
theorem dX6_won_34 : decode cX6_won 34 = .ok (.istore 4, 2) := by decide +kernel
theorem dX6_won_36 : decode cX6_won 36 = .ok (.iconst (-1), 1) := by decide +kernel
theorem dX6_won_37 : decode cX6_won 37 = .ok (.istore 5, 2) := by decide +kernel
theorem dX6_won_39 : decode cX6_won 39 = .ok (.iconst 0, 1) := by decide +kernel
theorem dX6_won_40 : decode cX6_won 40 = .ok (.istore 6, 2) := by decide +kernel
theorem dX6_won_42 : decode cX6_won 42 = .ok (.iload 6, 2) := by decide +kernel
theorem dX6_won_44 : decode cX6_won 44 = .ok (.aload_n 0, 1) := by decide +kernel
theorem dX6_won_45 : decode cX6_won 45 = .ok (.getfield 28, 3) := by decide +kernel
theorem dX6_won_48 : decode cX6_won 48 = .ok (.getfield 72, 3) := by decide +kernel
theorem dX6_won_51 : decode cX6_won 51 = .ok (.if_icmp .ge 68, 3) := by decide +kernel
theorem dX6_won_54 : decode cX6_won 54 = .ok (.aload_n 0, 1) := by decide +kernel
theorem dX6_won_55 : decode cX6_won 55 = .ok (.getfield 35, 3) := by decide +kernel
theorem dX6_won_58 : decode cX6_won 58 = .ok (.aload_n 0, 1) := by decide +kernel
theorem dX6_won_59 : decode cX6_won 59 = .ok (.getfield 28, 3) := by decide +kernel
theorem dX6_won_62 : decode cX6_won 62 = .ok (.invokevirtual 194, 3) := by decide +kernel
theorem dX6_won_65 : decode cX6_won 65 = .ok (.aload_n 0, 1) := by decide +kernel
theorem dX6_won_66 : decode cX6_won 66 = .ok (.getfield 35, 3) := by decide +kernel
theorem dX6_won_69 : decode cX6_won 69 = .ok (.getfield 87, 3) := by decide +kernel
theorem dX6_won_72 : decode cX6_won 72 = .ok (.iload 6, 2) := by decide +kernel
theorem dX6_won_74 : decode cX6_won 74 = .ok (.iload_n 2, 1) := by decide +kernel
theorem dX6_won_75 : decode cX6_won 75 = .ok (.iastore, 1) := by decide +kernel
theorem dX6_won_76 : decode cX6_won 76 = .ok (.aload_n 0, 1) := by decide +kernel
theorem dX6_won_77 : decode cX6_won 77 = .ok (.getfield 35, 3) := by decide +kernel
theorem dX6_won_80 : decode cX6_won 80 = .ok (.iload_n 1, 1) := by decide +kernel
theorem dX6_won_81 : decode cX6_won 81 = .ok (.invokevirtual 165, 3) := by decide +kernel
theorem dX6_won_84 : decode cX6_won 84 = .ok (.aload_n 0, 1) := by decide +kernel
theorem dX6_won_85 : decode cX6_won 85 = .ok (.getfield 35, 3) := by decide +kernel
theorem dX6_won_88 : decode cX6_won 88 = .ok (.getfield 102, 3) := by decide +kernel
theorem dX6_won_91 : decode cX6_won 91 = .ok (.iload_n 2, 1) := by decide +kernel
theorem dX6_won_92 : decode cX6_won 92 = .ok (.iaload, 1) := by decide +kernel
theorem dX6_won_93 : decode cX6_won 93 = .ok (.iload 5, 2) := by decide +kernel
theorem dX6_won_95 : decode cX6_won 95 = .ok (.if_icmp .le 18, 3) := by decide +kernel
theorem dX6_won_98 : decode cX6_won 98 = .ok (.iload 6, 2) := by decide +kernel
theorem dX6_won_100 : decode cX6_won 100 = .ok (.istore 4, 2) := by decide +kernel
theorem dX6_won_102 : decode cX6_won 102 = .ok (.aload_n 0, 1) := by decide +kernel
theorem dX6_won_103 : decode cX6_won 103 = .ok (.getfield 35, 3) := by decide +kernel
theorem dX6_won_106 : decode cX6_won 106 = .ok (.getfield 102, 3) := by decide +kernel
theorem dX6_won_109 : decode cX6_won 109 = .ok (.iload_n 2, 1) := by decide +kernel
theorem dX6_won_110 : decode cX6_won 110 = .ok (.iaload, 1) := by decide +kernel
theorem dX6_won_111 : decode cX6_won 111 = .ok (.istore 5, 2) := by decide +kernel
theorem dX6_won_113 : decode cX6_won 113 = .ok (.iinc 6 1, 3) := by decide +kernel
theorem dX6_won_116 : decode cX6_won 116 = .ok (.goto (-74), 3) := by decide +kernel
theorem dX6_won_119 : decode cX6_won 119 = .ok (.iload_n 3, 1) := by decide +kernel
theorem dX6_won_120 : decode cX6_won 120 = .ok (.ifCond .ne 8, 3) := by decide +kernel
theorem dX6_won_123 : decode cX6_won 123 = .ok (.iload 4, 2) := by decide +kernel
theorem dX6_won_125 : decode cX6_won 125 = .ok (.goto 5, 3) := by decide +kernel
theorem dX6_won_128 : decode cX6_won 128 = .ok (.iload 5, 2) := by decide +kernel
theorem dX6_won_130 : decode cX6_won 130 = .ok (.ireturn, 1) := by decide +kernel
theorem dX6_party_0 : decode cX6_party 0 = .ok (.iload_n 1, 1) := by decide +kernel
theorem dX6_party_1 : decode cX6_party 1 = .ok (.iconst 1, 1) := by decide +kernel
theorem dX6_party_2 : decode cX6_party 2 = .ok (.bipush 40, 2) := by decide +kernel
theorem dX6_party_4 : decode cX6_party 4 = .ok (.invokestatic 67, 3) := by decide +kernel
theorem dX6_party_7 : decode cX6_party 7 = .ok (.ifCond .ne 6, 3) := by decide +kernel
theorem dX6_party_10 : decode cX6_party 10 = .ok (.ldc 71, 2) := by decide +kernel
theorem dX6_party_12 : decode cX6_party 12 = .ok (.ireturn, 1) := by decide +kernel
theorem dX6_party_13 : decode cX6_party 13 = .ok (.iconst 0, 1) := by decide +kernel
theorem dX6_party_14 : decode cX6_party 14 = .ok (.istore_n 2, 1) := by decide +kernel
theorem dX6_party_15 : decode cX6_party 15 = .ok (.iload_n 2, 1) := by decide +kernel
theorem dX6_party_16 : decode cX6_party 16 = .ok (.iconst 4, 1) := by decide +kernel
theorem dX6_party_17 : decode cX6_party 17 = .ok (.if_icmp .ge 74, 3) := by decide +kernel
theorem dX6_party_20 : decode cX6_party 20 = .ok (.aload_n 0, 1) := by decide +kernel
theorem dX6_party_21 : decode cX6_party 21 = .ok (.getfield 35, 3) := by decide +kernel
theorem dX6_party_24 : decode cX6_party 24 = .ok (.aload_n 0, 1) := by decide +kernel
theorem dX6_party_25 : decode cX6_party 25 = .ok (.getfield 28, 3) := by decide +kernel
theorem dX6_party_28 : decode cX6_party 28 = .ok (.invokevirtual 194, 3) := by decide +kernel
theorem dX6_party_31 : decode cX6_party 31 = .ok (.aload_n 0, 1) := by decide +kernel
theorem dX6_party_32 : decode cX6_party 32 = .ok (.getfield 35, 3) := by decide +kernel
theorem dX6_party_35 : decode cX6_party 35 = .ok (.iload_n 2, 1) := by decide +kernel
theorem dX6_party_36 : decode cX6_party 36 = .ok (.invokevirtual 201, 3) := by decide +kernel
theorem dX6_party_39 : decode cX6_party 39 = .ok (.aload_n 0, 1) := by decide +kernel
theorem dX6_party_40 : decode cX6_party 40 = .ok (.getfield 35, 3) := by decide +kernel
theorem dX6_party_43 : decode cX6_party 43 = .ok (.iload_n 1, 1) := by decide +kernel
theorem dX6_party_44 : decode cX6_party 44 = .ok (.invokevirtual 165, 3) := by decide +kernel
theorem dX6_party_47 : decode cX6_party 47 = .ok (.aload_n 0, 1) := by decide +kernel
theorem dX6_party_48 : decode cX6_party 48 = .ok (.getfield 35, 3) := by decide +kernel
theorem dX6_party_51 : decode cX6_party 51 = .ok (.aload_n 0, 1) := by decide +kernel
theorem dX6_party_52 : decode cX6_party 52 = .ok (.getfield 35, 3) := by decide +kernel
theorem dX6_party_55 : decode cX6_party 55 = .ok (.getfield 169, 3) := by decide +kernel
theorem dX6_party_58 : decode cX6_party 58 = .ok (.invokevirtual 80, 3) := by decide +kernel
theorem dX6_party_61 : decode cX6_party 61 = .ok (.ifCond .eq 24, 3) := by decide +kernel
theorem dX6_party_64 : decode cX6_party 64 = .ok (.aload_n 0, 1) := by decide +kernel
theorem dX6_party_65 : decode cX6_party 65 = .ok (.getfield 35, 3) := by decide +kernel
theorem dX6_party_68 : decode cX6_party 68 = .ok (.getfield 90, 3) := by decide +kernel
theorem dX6_party_71 : decode cX6_party 71 = .ok (.aload_n 0, 1) := by decide +kernel
theorem dX6_party_72 : decode cX6_party 72 = .ok (.getfield 35, 3) := by decide +kernel
theorem dX6_party_75 : decode cX6_party 75 = .ok (.getfield 169, 3) := by decide +kernel
theorem dX6_party_78 : decode cX6_party 78 = .ok (.iaload, 1) := by decide +kernel
theorem dX6_party_79 : decode cX6_party 79 = .ok (.iload_n 2, 1) := by decide +kernel
theorem dX6_party_80 : decode cX6_party 80 = .ok (.if_icmp .ne 5, 3) := by decide +kernel
theorem dX6_party_83 : decode cX6_party 83 = .ok (.iload_n 2, 1) := by decide +kernel
theorem dX6_party_84 : decode cX6_party 84 = .ok (.ireturn, 1) := by decide +kernel
theorem dX6_party_85 : decode cX6_party 85 = .ok (.iinc 2 1, 3) := by decide +kernel
theorem dX6_party_88 : decode cX6_party 88 = .ok (.goto (-73), 3) := by decide +kernel
theorem dX6_party_91 : decode cX6_party 91 = .ok (.ldc 184, 2) := by decide +kernel
theorem dX6_party_93 : decode cX6_party 93 = .ok (.ireturn, 1) := by decide +kernel
theorem dX6_smokes_0 : decode cX6_smokes 0 = .ok (.iload_n 1, 1) := by decide +kernel
theorem dX6_smokes_1 : decode cX6_smokes 1 = .ok (.iconst 1, 1) := by decide +kernel
theorem dX6_smokes_2 : decode cX6_smokes 2 = .ok (.bipush 12, 2) := by decide +kernel
theorem dX6_smokes_4 : decode cX6_smokes 4 = .ok (.invokestatic 67, 3) := by decide +kernel
theorem dX6_smokes_7 : decode cX6_smokes 7 = .ok (.ifCond .ne 6, 3) := by decide +kernel
theorem dX6_smokes_10 : decode cX6_smokes 10 = .ok (.ldc 71, 2) := by decide +kernel
theorem dX6_smokes_12 : decode cX6_smokes 12 = .ok (.ireturn, 1) := by decide +kernel
theorem dX6_smokes_13 : decode cX6_smokes 13 = .ok (.aload_n 0, 1) := by decide +kernel
theorem dX6_smokes_14 : decode cX6_smokes 14 = .ok (.getfield 35, 3) := by decide +kernel
theorem dX6_smokes_17 : decode cX6_smokes 17 = .ok (.aload_n 0, 1) := by decide +kernel
theorem dX6_smokes_18 : decode cX6_smokes 18 = .ok (.getfield 28, 3) := by decide +kernel
theorem dX6_smokes_21 : decode cX6_smokes 21 = .ok (.invokevirtual 194, 3) := by decide +kernel
theorem dX6_smokes_24 : decode cX6_smokes 24 = .ok (.iconst 0, 1) := by decide +kernel
theorem dX6_smokes_25 : decode cX6_smokes 25 = .ok (.istore_n 2, 1) := by decide +kernel
theorem dX6_smokes_26 : decode cX6_smokes 26 = .ok (.iconst 0, 1) := by decide +kernel
theorem dX6_smokes_27 : decode cX6_smokes 27 = .ok (.istore_n 3, 1) := by decide +kernel
theorem dX6_smokes_28 : decode cX6_smokes 28 = .ok (.iload_n 3, 1) := by decide +kernel
theorem dX6_smokes_29 : decode cX6_smokes 29 = .ok (.iload_n 1, 1) := by decide +kernel
theorem dX6_smokes_30 : decode cX6_smokes 30 = .ok (.if_icmp .ge 28, 3) := by decide +kernel
theorem dX6_smokes_33 : decode cX6_smokes 33 = .ok (.aload_n 0, 1) := by decide +kernel
theorem dX6_smokes_34 : decode cX6_smokes 34 = .ok (.getfield 35, 3) := by decide +kernel
theorem dX6_smokes_37 : decode cX6_smokes 37 = .ok (.invokevirtual 198, 3) := by decide +kernel
theorem dX6_smokes_40 : decode cX6_smokes 40 = .ok (.iload_n 2, 1) := by decide +kernel
theorem dX6_smokes_41 : decode cX6_smokes 41 = .ok (.iconst 4, 1) := by decide +kernel
theorem dX6_smokes_42 : decode cX6_smokes 42 = .ok (.imul, 1) := by decide +kernel
theorem dX6_smokes_43 : decode cX6_smokes 43 = .ok (.aload_n 0, 1) := by decide +kernel
theorem dX6_smokes_44 : decode cX6_smokes 44 = .ok (.getfield 35, 3) := by decide +kernel
theorem dX6_smokes_47 : decode cX6_smokes 47 = .ok (.getfield 175, 3) := by decide +kernel
theorem dX6_smokes_50 : decode cX6_smokes 50 = .ok (.iadd, 1) := by decide +kernel
theorem dX6_smokes_51 : decode cX6_smokes 51 = .ok (.istore_n 2, 1) := by decide +kernel
theorem dX6_smokes_52 : decode cX6_smokes 52 = .ok (.iinc 3 1, 3) := by decide +kernel
theorem dX6_smokes_55 : decode cX6_smokes 55 = .ok (.goto (-27), 3) := by decide +kernel
theorem dX6_smokes_58 : decode cX6_smokes 58 = .ok (.iload_n 2, 1) := by decide +kernel
theorem dX6_smokes_59 : decode cX6_smokes 59 = .ok (.ireturn, 1) := by decide +kernel
theorem dX6_fits_0 : decode cX6_fits 0 = .ok (.iload_n 1, 1) := by decide +kernel
theorem dX6_fits_1 : decode cX6_fits 1 = .ok (.invokestatic 204, 3) := by decide +kernel
theorem dX6_fits_4 : decode cX6_fits 4 = .ok (.ifCond .eq 12, 3) := by decide +kernel
theorem dX6_fits_7 : decode cX6_fits 7 = .ok (.iload_n 2, 1) := by decide +kernel
theorem dX6_fits_8 : decode cX6_fits 8 = .ok (.iconst 0, 1) := by decide +kernel
theorem dX6_fits_9 : decode cX6_fits 9 = .ok (.iconst 1, 1) := by decide +kernel
theorem dX6_fits_10 : decode cX6_fits 10 = .ok (.invokestatic 67, 3) := by decide +kernel
theorem dX6_fits_13 : decode cX6_fits 13 = .ok (.ifCond .ne 6, 3) := by decide +kernel
theorem dX6_fits_16 : decode cX6_fits 16 = .ok (.ldc 71, 2) := by decide +kernel
theorem dX6_fits_18 : decode cX6_fits 18 = .ok (.ireturn, 1) := by decide +kernel
theorem dX6_fits_19 : decode cX6_fits 19 = .ok (.aload_n 0, 1) := by decide +kernel
theorem dX6_fits_20 : decode cX6_fits 20 = .ok (.getfield 40, 3) := by decide +kernel
theorem dX6_fits_23 : decode cX6_fits 23 = .ok (.iload_n 1, 1) := by decide +kernel
theorem dX6_fits_24 : decode cX6_fits 24 = .ok (.aaload, 1) := by decide +kernel
theorem dX6_fits_25 : decode cX6_fits 25 = .ok (.astore_n 3, 1) := by decide +kernel
theorem dX6_fits_26 : decode cX6_fits 26 = .ok (.aload_n 3, 1) := by decide +kernel
theorem dX6_fits_27 : decode cX6_fits 27 = .ok (.invokevirtual 207, 3) := by decide +kernel
theorem dX6_fits_30 : decode cX6_fits 30 = .ok (.ifCond .eq 6, 3) := by decide +kernel
theorem dX6_fits_33 : decode cX6_fits 33 = .ok (.ldc 211, 2) := by decide +kernel
theorem dX6_fits_35 : decode cX6_fits 35 = .ok (.ireturn, 1) := by decide +kernel
theorem dX6_fits_36 : decode cX6_fits 36 = .ok (.iconst 1, 1) := by decide +kernel
theorem dX6_fits_37 : decode cX6_fits 37 = .ok (.istore 4, 2) := by decide +kernel
theorem dX6_fits_39 : decode cX6_fits 39 = .ok (.aload_n 0, 1) := by decide +kernel
theorem dX6_fits_40 : decode cX6_fits 40 = .ok (.iconst 1, 1) := by decide +kernel
theorem dX6_fits_41 : decode cX6_fits 41 = .ok (.aload_n 3, 1) := by decide +kernel
theorem dX6_fits_42 : decode cX6_fits 42 = .ok (.invokevirtual 212, 3) := by decide +kernel
theorem dX6_fits_45 : decode cX6_fits 45 = .ok (.istore 5, 2) := by decide +kernel
theorem dX6_fits_47 : decode cX6_fits 47 = .ok (.iconst 2, 1) := by decide +kernel
theorem dX6_fits_48 : decode cX6_fits 48 = .ok (.istore 6, 2) := by decide +kernel
theorem dX6_fits_50 : decode cX6_fits 50 = .ok (.iload 6, 2) := by decide +kernel
theorem dX6_fits_52 : decode cX6_fits 52 = .ok (.bipush 20, 2) := by decide +kernel
theorem dX6_fits_54 : decode cX6_fits 54 = .ok (.if_icmp .gt 33, 3) := by decide +kernel
theorem dX6_fits_57 : decode cX6_fits 57 = .ok (.aload_n 0, 1) := by decide +kernel
theorem dX6_fits_58 : decode cX6_fits 58 = .ok (.iload 6, 2) := by decide +kernel
theorem dX6_fits_60 : decode cX6_fits 60 = .ok (.aload_n 3, 1) := by decide +kernel
theorem dX6_fits_61 : decode cX6_fits 61 = .ok (.invokevirtual 212, 3) := by decide +kernel
theorem dX6_fits_64 : decode cX6_fits 64 = .ok (.istore 7, 2) := by decide +kernel
theorem dX6_fits_66 : decode cX6_fits 66 = .ok (.iload 7, 2) := by decide +kernel
theorem dX6_fits_68 : decode cX6_fits 68 = .ok (.iload 5, 2) := by decide +kernel
theorem dX6_fits_70 : decode cX6_fits 70 = .ok (.if_icmp .ge 11, 3) := by decide +kernel
theorem dX6_fits_73 : decode cX6_fits 73 = .ok (.iload 6, 2) := by decide +kernel
theorem dX6_fits_75 : decode cX6_fits 75 = .ok (.istore 4, 2) := by decide +kernel
theorem dX6_fits_77 : decode cX6_fits 77 = .ok (.iload 7, 2) := by decide +kernel
theorem dX6_fits_79 : decode cX6_fits 79 = .ok (.istore 5, 2) := by decide +kernel
theorem dX6_fits_81 : decode cX6_fits 81 = .ok (.iinc 6 1, 3) := by decide +kernel
theorem dX6_fits_84 : decode cX6_fits 84 = .ok (.goto (-34), 3) := by decide +kernel
theorem dX6_fits_87 : decode cX6_fits 87 = .ok (.iload_n 2, 1) := by decide +kernel
theorem dX6_fits_88 : decode cX6_fits 88 = .ok (.ifCond .ne 8, 3) := by decide +kernel
theorem dX6_fits_91 : decode cX6_fits 91 = .ok (.iload 4, 2) := by decide +kernel
theorem dX6_fits_93 : decode cX6_fits 93 = .ok (.goto 5, 3) := by decide +kernel
theorem dX6_fits_96 : decode cX6_fits 96 = .ok (.iload 5, 2) := by decide +kernel
theorem dX6_fits_98 : decode cX6_fits 98 = .ok (.ireturn, 1) := by decide +kernel
theorem dX6_fee_0 : decode cX6_fee 0 = .ok (.aload_n 0, 1) := by decide +kernel
theorem dX6_fee_1 : decode cX6_fee 1 = .ok (.getfield 10, 3) := by decide +kernel
theorem dX6_fee_4 : decode cX6_fee 4 = .ok (.iconst 1, 1) := by decide +kernel
theorem dX6_fee_5 : decode cX6_fee 5 = .ok (.aload_n 0, 1) := by decide +kernel
theorem dX6_fee_6 : decode cX6_fee 6 = .ok (.getfield 28, 3) := by decide +kernel
theorem dX6_fee_9 : decode cX6_fee 9 = .ok (.getfield 216, 3) := by decide +kernel
theorem dX6_fee_12 : decode cX6_fee 12 = .ok (.invokevirtual 219, 3) := by decide +kernel
theorem dX6_fee_15 : decode cX6_fee 15 = .ok (.istore_n 1, 1) := by decide +kernel
theorem dX6_fee_16 : decode cX6_fee 16 = .ok (.iload_n 1, 1) := by decide +kernel
theorem dX6_fee_17 : decode cX6_fee 17 = .ok (.ifCond .ge 13, 3) := by decide +kernel
theorem dX6_fee_20 : decode cX6_fee 20 = .ok (.aload_n 0, 1) := by decide +kernel
theorem dX6_fee_21 : decode cX6_fee 21 = .ok (.getfield 28, 3) := by decide +kernel
theorem dX6_fee_24 : decode cX6_fee 24 = .ok (.getfield 145, 3) := by decide +kernel
theorem dX6_fee_27 : decode cX6_fee 27 = .ok (.goto 26, 3) := by decide +kernel
theorem dX6_fee_30 : decode cX6_fee 30 = .ok (.aload_n 0, 1) := by decide +kernel
theorem dX6_fee_31 : decode cX6_fee 31 = .ok (.getfield 10, 3) := by decide +kernel
theorem dX6_fee_34 : decode cX6_fee 34 = .ok (.iload_n 1, 1) := by decide +kernel
theorem dX6_fee_35 : decode cX6_fee 35 = .ok (.aload_n 0, 1) := by decide +kernel
theorem dX6_fee_36 : decode cX6_fee 36 = .ok (.getfield 28, 3) := by decide +kernel
theorem dX6_fee_39 : decode cX6_fee 39 = .ok (.getfield 145, 3) := by decide +kernel
theorem dX6_fee_42 : decode cX6_fee 42 = .ok (.aload_n 0, 1) := by decide +kernel
theorem dX6_fee_43 : decode cX6_fee 43 = .ok (.getfield 28, 3) := by decide +kernel
theorem dX6_fee_46 : decode cX6_fee 46 = .ok (.getfield 178, 3) := by decide +kernel
theorem dX6_fee_49 : decode cX6_fee 49 = .ok (.iconst 0, 1) := by decide +kernel
theorem dX6_fee_50 : decode cX6_fee 50 = .ok (.invokevirtual 222, 3) := by decide +kernel
theorem dX6_fee_53 : decode cX6_fee 53 = .ok (.ireturn, 1) := by decide +kernel
theorem dX6_fine_0 : decode cX6_fine 0 = .ok (.aload_n 0, 1) := by decide +kernel
theorem dX6_fine_1 : decode cX6_fine 1 = .ok (.getfield 28, 3) := by decide +kernel
theorem dX6_fine_4 : decode cX6_fine 4 = .ok (.iload_n 1, 1) := by decide +kernel
theorem dX6_fine_5 : decode cX6_fine 5 = .ok (.invokevirtual 80, 3) := by decide +kernel
theorem dX6_fine_8 : decode cX6_fine 8 = .ok (.ifCond .ne 6, 3) := by decide +kernel
theorem dX6_fine_11 : decode cX6_fine 11 = .ok (.ldc 71, 2) := by decide +kernel
theorem dX6_fine_13 : decode cX6_fine 13 = .ok (.ireturn, 1) := by decide +kernel
theorem dX6_fine_14 : decode cX6_fine 14 = .ok (.aload_n 0, 1) := by decide +kernel
theorem dX6_fine_15 : decode cX6_fine 15 = .ok (.getfield 28, 3) := by decide +kernel
theorem dX6_fine_18 : decode cX6_fine 18 = .ok (.getfield 96, 3) := by decide +kernel
theorem dX6_fine_21 : decode cX6_fine 21 = .ok (.iload_n 1, 1) := by decide +kernel
theorem dX6_fine_22 : decode cX6_fine 22 = .ok (.iaload, 1) := by decide +kernel
theorem dX6_fine_23 : decode cX6_fine 23 = .ok (.istore_n 2, 1) := by decide +kernel
theorem dX6_fine_24 : decode cX6_fine 24 = .ok (.aload_n 0, 1) := by decide +kernel
theorem dX6_fine_25 : decode cX6_fine 25 = .ok (.getfield 10, 3) := by decide +kernel
theorem dX6_fine_28 : decode cX6_fine 28 = .ok (.iconst 2, 1) := by decide +kernel
theorem dX6_fine_29 : decode cX6_fine 29 = .ok (.aload_n 0, 1) := by decide +kernel
theorem dX6_fine_30 : decode cX6_fine 30 = .ok (.getfield 28, 3) := by decide +kernel
theorem dX6_fine_33 : decode cX6_fine 33 = .ok (.getfield 216, 3) := by decide +kernel
theorem dX6_fine_36 : decode cX6_fine 36 = .ok (.invokevirtual 219, 3) := by decide +kernel
theorem dX6_fine_39 : decode cX6_fine 39 = .ok (.istore_n 3, 1) := by decide +kernel
theorem dX6_fine_40 : decode cX6_fine 40 = .ok (.iload_n 3, 1) := by decide +kernel
theorem dX6_fine_41 : decode cX6_fine 41 = .ok (.ifCond .ge 7, 3) := by decide +kernel
theorem dX6_fine_44 : decode cX6_fine 44 = .ok (.iload_n 2, 1) := by decide +kernel
theorem dX6_fine_45 : decode cX6_fine 45 = .ok (.goto 22, 3) := by decide +kernel
theorem dX6_fine_48 : decode cX6_fine 48 = .ok (.aload_n 0, 1) := by decide +kernel
theorem dX6_fine_49 : decode cX6_fine 49 = .ok (.getfield 10, 3) := by decide +kernel
theorem dX6_fine_52 : decode cX6_fine 52 = .ok (.iload_n 3, 1) := by decide +kernel
theorem dX6_fine_53 : decode cX6_fine 53 = .ok (.aload_n 0, 1) := by decide +kernel
theorem dX6_fine_54 : decode cX6_fine 54 = .ok (.getfield 28, 3) := by decide +kernel
theorem dX6_fine_57 : decode cX6_fine 57 = .ok (.getfield 93, 3) := by decide +kernel
theorem dX6_fine_60 : decode cX6_fine 60 = .ok (.iload_n 1, 1) := by decide +kernel
theorem dX6_fine_61 : decode cX6_fine 61 = .ok (.iaload, 1) := by decide +kernel
theorem dX6_fine_62 : decode cX6_fine 62 = .ok (.iload_n 2, 1) := by decide +kernel
theorem dX6_fine_63 : decode cX6_fine 63 = .ok (.iconst 0, 1) := by decide +kernel
theorem dX6_fine_64 : decode cX6_fine 64 = .ok (.invokevirtual 222, 3) := by decide +kernel
theorem dX6_fine_67 : decode cX6_fine 67 = .ok (.ireturn, 1) := by decide +kernel
theorem dX6_feed_0 : decode cX6_feed 0 = .ok (.aload_n 0, 1) := by decide +kernel
theorem dX6_feed_1 : decode cX6_feed 1 = .ok (.getfield 19, 3) := by decide +kernel
theorem dX6_feed_4 : decode cX6_feed 4 = .ok (.getfield 226, 3) := by decide +kernel
theorem dX6_feed_7 : decode cX6_feed 7 = .ok (.bipush 12, 2) := by decide +kernel
theorem dX6_feed_9 : decode cX6_feed 9 = .ok (.iadd, 1) := by decide +kernel
theorem dX6_feed_10 : decode cX6_feed 10 = .ok (.bipush 96, 2) := by decide +kernel
theorem dX6_feed_12 : decode cX6_feed 12 = .ok (.if_icmp .le 6, 3) := by decide +kernel
theorem dX6_feed_15 : decode cX6_feed 15 = .ok (.ldc 75, 2) := by decide +kernel
theorem dX6_feed_17 : decode cX6_feed 17 = .ok (.ireturn, 1) := by decide +kernel
theorem dX6_feed_18 : decode cX6_feed 18 = .ok (.aload_n 0, 1) := by decide +kernel
theorem dX6_feed_19 : decode cX6_feed 19 = .ok (.getfield 19, 3) := by decide +kernel
theorem dX6_feed_22 : decode cX6_feed 22 = .ok (.iload_n 1, 1) := by decide +kernel
theorem dX6_feed_23 : decode cX6_feed 23 = .ok (.invokevirtual 229, 3) := by decide +kernel
theorem dX6_feed_26 : decode cX6_feed 26 = .ok (.aload_n 0, 1) := by decide +kernel
theorem dX6_feed_27 : decode cX6_feed 27 = .ok (.getfield 19, 3) := by decide +kernel
theorem dX6_feed_30 : decode cX6_feed 30 = .ok (.iload_n 2, 1) := by decide +kernel
theorem dX6_feed_31 : decode cX6_feed 31 = .ok (.invokevirtual 229, 3) := by decide +kernel
theorem dX6_feed_34 : decode cX6_feed 34 = .ok (.aload_n 0, 1) := by decide +kernel
theorem dX6_feed_35 : decode cX6_feed 35 = .ok (.getfield 19, 3) := by decide +kernel
theorem dX6_feed_38 : decode cX6_feed 38 = .ok (.iload_n 3, 1) := by decide +kernel
theorem dX6_feed_39 : decode cX6_feed 39 = .ok (.invokevirtual 229, 3) := by decide +kernel
theorem dX6_feed_42 : decode cX6_feed 42 = .ok (.aload_n 0, 1) := by decide +kernel
theorem dX6_feed_43 : decode cX6_feed 43 = .ok (.getfield 19, 3) := by decide +kernel
theorem dX6_feed_46 : decode cX6_feed 46 = .ok (.getfield 226, 3) := by decide +kernel
theorem dX6_feed_49 : decode cX6_feed 49 = .ok (.ireturn, 1) := by decide +kernel
theorem dX6_trim_0 : decode cX6_trim 0 = .ok (.iload_n 1, 1) := by decide +kernel
theorem dX6_trim_1 : decode cX6_trim 1 = .ok (.iconst 0, 1) := by decide +kernel
theorem dX6_trim_2 : decode cX6_trim 2 = .ok (.aload_n 0, 1) := by decide +kernel
theorem dX6_trim_3 : decode cX6_trim 3 = .ok (.getfield 19, 3) := by decide +kernel
theorem dX6_trim_6 : decode cX6_trim 6 = .ok (.getfield 226, 3) := by decide +kernel
theorem dX6_trim_9 : decode cX6_trim 9 = .ok (.invokestatic 67, 3) := by decide +kernel
theorem dX6_trim_12 : decode cX6_trim 12 = .ok (.ifCond .ne 6, 3) := by decide +kernel
theorem dX6_trim_15 : decode cX6_trim 15 = .ok (.ldc 71, 2) := by decide +kernel
theorem dX6_trim_17 : decode cX6_trim 17 = .ok (.ireturn, 1) := by decide +kernel
theorem dX6_trim_18 : decode cX6_trim 18 = .ok (.aload_n 0, 1) := by decide +kernel
theorem dX6_trim_19 : decode cX6_trim 19 = .ok (.getfield 19, 3) := by decide +kernel
theorem dX6_trim_22 : decode cX6_trim 22 = .ok (.iload_n 1, 1) := by decide +kernel
theorem dX6_trim_23 : decode cX6_trim 23 = .ok (.putfield 226, 3) := by decide +kernel
theorem dX6_trim_26 : decode cX6_trim 26 = .ok (.iload_n 1, 1) := by decide +kernel
theorem dX6_trim_27 : decode cX6_trim 27 = .ok (.ireturn, 1) := by decide +kernel
theorem dX6_text_0 : decode cX6_text 0 = .ok (.aload_n 0, 1) := by decide +kernel
theorem dX6_text_1 : decode cX6_text 1 = .ok (.getfield 19, 3) := by decide +kernel
theorem dX6_text_4 : decode cX6_text 4 = .ok (.invokevirtual 232, 3) := by decide +kernel
theorem dX6_text_7 : decode cX6_text 7 = .ok (.istore_n 1, 1) := by decide +kernel
theorem dX6_text_8 : decode cX6_text 8 = .ok (.aload_n 0, 1) := by decide +kernel
theorem dX6_text_9 : decode cX6_text 9 = .ok (.getfield 19, 3) := by decide +kernel
theorem dX6_text_12 : decode cX6_text 12 = .ok (.iconst 0, 1) := by decide +kernel
theorem dX6_text_13 : decode cX6_text 13 = .ok (.putfield 226, 3) := by decide +kernel
theorem dX6_text_16 : decode cX6_text 16 = .ok (.iload_n 1, 1) := by decide +kernel
theorem dX6_text_17 : decode cX6_text 17 = .ok (.ifCond .lt 8, 3) := by decide +kernel
theorem dX6_text_20 : decode cX6_text 20 = .ok (.bipush (-100), 2) := by decide +kernel
theorem dX6_text_22 : decode cX6_text 22 = .ok (.iload_n 1, 1) := by decide +kernel
theorem dX6_text_23 : decode cX6_text 23 = .ok (.isub, 1) := by decide +kernel
theorem dX6_text_24 : decode cX6_text 24 = .ok (.ireturn, 1) := by decide +kernel
theorem dX6_text_25 : decode cX6_text 25 = .ok (.aload_n 0, 1) := by decide +kernel
theorem dX6_text_26 : decode cX6_text 26 = .ok (.getfield 28, 3) := by decide +kernel
theorem dX6_text_29 : decode cX6_text 29 = .ok (.getfield 216, 3) := by decide +kernel
theorem dX6_text_32 : decode cX6_text 32 = .ok (.bipush 14, 2) := by decide +kernel
theorem dX6_text_34 : decode cX6_text 34 = .ok (.if_icmp .lt 6, 3) := by decide +kernel
theorem dX6_text_37 : decode cX6_text 37 = .ok (.ldc 75, 2) := by decide +kernel
theorem dX6_text_39 : decode cX6_text 39 = .ok (.ireturn, 1) := by decide +kernel
theorem dX6_text_40 : decode cX6_text 40 = .ok (.aload_n 0, 1) := by decide +kernel
theorem dX6_text_41 : decode cX6_text 41 = .ok (.getfield 10, 3) := by decide +kernel
theorem dX6_text_44 : decode cX6_text 44 = .ok (.getfield 235, 3) := by decide +kernel
theorem dX6_text_47 : decode cX6_text 47 = .ok (.aload_n 0, 1) := by decide +kernel
theorem dX6_text_48 : decode cX6_text 48 = .ok (.getfield 28, 3) := by decide +kernel
theorem dX6_text_51 : decode cX6_text 51 = .ok (.getfield 216, 3) := by decide +kernel
theorem dX6_text_54 : decode cX6_text 54 = .ok (.aload_n 0, 1) := by decide +kernel
theorem dX6_text_55 : decode cX6_text 55 = .ok (.getfield 19, 3) := by decide +kernel
theorem dX6_text_58 : decode cX6_text 58 = .ok (.invokevirtual 239, 3) := by decide +kernel
theorem dX6_text_61 : decode cX6_text 61 = .ok (.aastore, 1) := by decide +kernel
theorem dX6_text_62 : decode cX6_text 62 = .ok (.aload_n 0, 1) := by decide +kernel
theorem dX6_text_63 : decode cX6_text 63 = .ok (.getfield 28, 3) := by decide +kernel
theorem dX6_text_66 : decode cX6_text 66 = .ok (.dup, 1) := by decide +kernel
theorem dX6_text_67 : decode cX6_text 67 = .ok (.getfield 216, 3) := by decide +kernel
theorem dX6_text_70 : decode cX6_text 70 = .ok (.iconst 1, 1) := by decide +kernel
theorem dX6_text_71 : decode cX6_text 71 = .ok (.iadd, 1) := by decide +kernel
theorem dX6_text_72 : decode cX6_text 72 = .ok (.putfield 216, 3) := by decide +kernel
theorem dX6_text_75 : decode cX6_text 75 = .ok (.aload_n 0, 1) := by decide +kernel
theorem dX6_text_76 : decode cX6_text 76 = .ok (.getfield 28, 3) := by decide +kernel
theorem dX6_text_79 : decode cX6_text 79 = .ok (.getfield 216, 3) := by decide +kernel
theorem dX6_text_82 : decode cX6_text 82 = .ok (.iconst 1, 1) := by decide +kernel
theorem dX6_text_83 : decode cX6_text 83 = .ok (.isub, 1) := by decide +kernel
theorem dX6_text_84 : decode cX6_text 84 = .ok (.ireturn, 1) := by decide +kernel
theorem dX6_textTold_0 : decode cX6_textTold 0 = .ok (.iload_n 1, 1) := by decide +kernel
theorem dX6_textTold_1 : decode cX6_textTold 1 = .ok (.iconst 0, 1) := by decide +kernel
theorem dX6_textTold_2 : decode cX6_textTold 2 = .ok (.aload_n 0, 1) := by decide +kernel
theorem dX6_textTold_3 : decode cX6_textTold 3 = .ok (.getfield 28, 3) := by decide +kernel
theorem dX6_textTold_6 : decode cX6_textTold 6 = .ok (.getfield 216, 3) := by decide +kernel
theorem dX6_textTold_9 : decode cX6_textTold 9 = .ok (.iconst 1, 1) := by decide +kernel
theorem dX6_textTold_10 : decode cX6_textTold 10 = .ok (.isub, 1) := by decide +kernel
theorem dX6_textTold_11 : decode cX6_textTold 11 = .ok (.invokestatic 67, 3) := by decide +kernel
theorem dX6_textTold_14 : decode cX6_textTold 14 = .ok (.ifCond .eq 12, 3) := by decide +kernel
theorem dX6_textTold_17 : decode cX6_textTold 17 = .ok (.iload_n 2, 1) := by decide +kernel
theorem dX6_textTold_18 : decode cX6_textTold 18 = .ok (.iconst 0, 1) := by decide +kernel
theorem dX6_textTold_19 : decode cX6_textTold 19 = .ok (.iconst 1, 1) := by decide +kernel
theorem dX6_textTold_20 : decode cX6_textTold 20 = .ok (.invokestatic 67, 3) := by decide +kernel
theorem dX6_textTold_23 : decode cX6_textTold 23 = .ok (.ifCond .ne 6, 3) := by decide +kernel
theorem dX6_textTold_26 : decode cX6_textTold 26 = .ok (.ldc 71, 2) := by decide +kernel
theorem dX6_textTold_28 : decode cX6_textTold 28 = .ok (.ireturn, 1) := by decide +kernel
theorem dX6_textTold_29 : decode cX6_textTold 29 = .ok (.aload_n 0, 1) := by decide +kernel
theorem dX6_textTold_30 : decode cX6_textTold 30 = .ok (.getfield 10, 3) := by decide +kernel
theorem dX6_textTold_33 : decode cX6_textTold 33 = .ok (.getfield 235, 3) := by decide +kernel
theorem dX6_textTold_36 : decode cX6_textTold 36 = .ok (.iload_n 1, 1) := by decide +kernel
theorem dX6_textTold_37 : decode cX6_textTold 37 = .ok (.aaload, 1) := by decide +kernel
theorem dX6_textTold_38 : decode cX6_textTold 38 = .ok (.astore_n 3, 1) := by decide +kernel
theorem dX6_textTold_39 : decode cX6_textTold 39 = .ok (.aload_n 3, 1) := by decide +kernel
theorem dX6_textTold_40 : decode cX6_textTold 40 = .ok (.ifnonnull 6, 3) := by decide +kernel
theorem dX6_textTold_43 : decode cX6_textTold 43 = .ok (.ldc 71, 2) := by decide +kernel
theorem dX6_textTold_45 : decode cX6_textTold 45 = .ok (.ireturn, 1) := by decide +kernel
theorem dX6_textTold_46 : decode cX6_textTold 46 = .ok (.iload_n 2, 1) := by decide +kernel
theorem dX6_textTold_47 : decode cX6_textTold 47 = .ok (.ifCond .ne 10, 3) := by decide +kernel
theorem dX6_textTold_50 : decode cX6_textTold 50 = .ok (.aload_n 3, 1) := by decide +kernel
theorem dX6_textTold_51 : decode cX6_textTold 51 = .ok (.getfield 243, 3) := by decide +kernel
theorem dX6_textTold_54 : decode cX6_textTold 54 = .ok (.goto 7, 3) := by decide +kernel
theorem dX6_textTold_57 : decode cX6_textTold 57 = .ok (.aload_n 3, 1) := by decide +kernel
theorem dX6_textTold_58 : decode cX6_textTold 58 = .ok (.getfield 248, 3) := by decide +kernel
theorem dX6_textTold_61 : decode cX6_textTold 61 = .ok (.ireturn, 1) := by decide +kernel
theorem dX6_why_0 : decode cX6_why 0 = .ok (.iload_n 1, 1) := by decide +kernel
theorem dX6_why_1 : decode cX6_why 1 = .ok (.iconst 0, 1) := by decide +kernel
theorem dX6_why_2 : decode cX6_why 2 = .ok (.iconst 2, 1) := by decide +kernel
theorem dX6_why_3 : decode cX6_why 3 = .ok (.invokestatic 67, 3) := by decide +kernel
theorem dX6_why_6 : decode cX6_why 6 = .ok (.ifCond .ne 6, 3) := by decide +kernel
theorem dX6_why_9 : decode cX6_why 9 = .ok (.ldc 71, 2) := by decide +kernel
theorem dX6_why_11 : decode cX6_why 11 = .ok (.ireturn, 1) := by decide +kernel
theorem dX6_why_12 : decode cX6_why 12 = .ok (.aload_n 0, 1) := by decide +kernel
theorem dX6_why_13 : decode cX6_why 13 = .ok (.getfield 10, 3) := by decide +kernel
theorem dX6_why_16 : decode cX6_why 16 = .ok (.iload_n 1, 1) := by decide +kernel
theorem dX6_why_17 : decode cX6_why 17 = .ok (.aload_n 0, 1) := by decide +kernel
theorem dX6_why_18 : decode cX6_why 18 = .ok (.getfield 28, 3) := by decide +kernel
theorem dX6_why_21 : decode cX6_why 21 = .ok (.getfield 216, 3) := by decide +kernel
theorem dX6_why_24 : decode cX6_why 24 = .ok (.invokevirtual 219, 3) := by decide +kernel
theorem dX6_why_27 : decode cX6_why 27 = .ok (.istore_n 2, 1) := by decide +kernel
theorem dX6_why_28 : decode cX6_why 28 = .ok (.iload_n 2, 1) := by decide +kernel
theorem dX6_why_29 : decode cX6_why 29 = .ok (.ifCond .ge 8, 3) := by decide +kernel
theorem dX6_why_32 : decode cX6_why 32 = .ok (.ldc 184, 2) := by decide +kernel
theorem dX6_why_34 : decode cX6_why 34 = .ok (.goto 4, 3) := by decide +kernel
theorem dX6_why_37 : decode cX6_why 37 = .ok (.iload_n 2, 1) := by decide +kernel
theorem dX6_why_38 : decode cX6_why 38 = .ok (.ireturn, 1) := by decide +kernel
theorem dX6_sheet_0 : decode cX6_sheet 0 = .ok (.iload_n 1, 1) := by decide +kernel
theorem dX6_sheet_1 : decode cX6_sheet 1 = .ok (.invokestatic 204, 3) := by decide +kernel
theorem dX6_sheet_4 : decode cX6_sheet 4 = .ok (.ifCond .eq 12, 3) := by decide +kernel
theorem dX6_sheet_7 : decode cX6_sheet 7 = .ok (.iload_n 2, 1) := by decide +kernel
theorem dX6_sheet_8 : decode cX6_sheet 8 = .ok (.iconst (-1), 1) := by decide +kernel
theorem dX6_sheet_9 : decode cX6_sheet 9 = .ok (.iconst 1, 1) := by decide +kernel
theorem dX6_sheet_10 : decode cX6_sheet 10 = .ok (.invokestatic 67, 3) := by decide +kernel
theorem dX6_sheet_13 : decode cX6_sheet 13 = .ok (.ifCond .ne 6, 3) := by decide +kernel
theorem dX6_sheet_16 : decode cX6_sheet 16 = .ok (.ldc 71, 2) := by decide +kernel
theorem dX6_sheet_18 : decode cX6_sheet 18 = .ok (.ireturn, 1) := by decide +kernel
theorem dX6_sheet_19 : decode cX6_sheet 19 = .ok (.iload_n 2, 1) := by decide +kernel
theorem dX6_sheet_20 : decode cX6_sheet 20 = .ok (.iconst (-1), 1) := by decide +kernel
theorem dX6_sheet_21 : decode cX6_sheet 21 = .ok (.if_icmp .ne 16, 3) := by decide +kernel
theorem dX6_sheet_24 : decode cX6_sheet 24 = .ok (.aload_n 0, 1) := by decide +kernel
theorem dX6_sheet_25 : decode cX6_sheet 25 = .ok (.getfield 40, 3) := by decide +kernel
theorem dX6_sheet_28 : decode cX6_sheet 28 = .ok (.iload_n 1, 1) := by decide +kernel
theorem dX6_sheet_29 : decode cX6_sheet 29 = .ok (.aaload, 1) := by decide +kernel
theorem dX6_sheet_30 : decode cX6_sheet 30 = .ok (.iconst (-1), 1) := by decide +kernel
theorem dX6_sheet_31 : decode cX6_sheet 31 = .ok (.iconst 0, 1) := by decide +kernel
theorem dX6_sheet_32 : decode cX6_sheet 32 = .ok (.invokevirtual 251, 3) := by decide +kernel
theorem dX6_sheet_35 : decode cX6_sheet 35 = .ok (.iconst 0, 1) := by decide +kernel
theorem dX6_sheet_36 : decode cX6_sheet 36 = .ok (.ireturn, 1) := by decide +kernel
theorem dX6_sheet_37 : decode cX6_sheet 37 = .ok (.iload_n 3, 1) := by decide +kernel
theorem dX6_sheet_38 : decode cX6_sheet 38 = .ok (.bipush 24, 2) := by decide +kernel
theorem dX6_sheet_40 : decode cX6_sheet 40 = .ok (.if_icmp .le 6, 3) := by decide +kernel
theorem dX6_sheet_43 : decode cX6_sheet 43 = .ok (.ldc 71, 2) := by decide +kernel
theorem dX6_sheet_45 : decode cX6_sheet 45 = .ok (.ireturn, 1) := by decide +kernel
theorem dX6_sheet_46 : decode cX6_sheet 46 = .ok (.iload_n 3, 1) := by decide +kernel
theorem dX6_sheet_47 : decode cX6_sheet 47 = .ok (.ifCond .ge 6, 3) := by decide +kernel
theorem dX6_sheet_50 : decode cX6_sheet 50 = .ok (.ldc 255, 2) := by decide +kernel
theorem dX6_sheet_52 : decode cX6_sheet 52 = .ok (.ireturn, 1) := by decide +kernel
theorem dX6_sheet_53 : decode cX6_sheet 53 = .ok (.aload_n 0, 1) := by decide +kernel
theorem dX6_sheet_54 : decode cX6_sheet 54 = .ok (.getfield 40, 3) := by decide +kernel
theorem dX6_sheet_57 : decode cX6_sheet 57 = .ok (.iload_n 1, 1) := by decide +kernel
theorem dX6_sheet_58 : decode cX6_sheet 58 = .ok (.aaload, 1) := by decide +kernel
theorem dX6_sheet_59 : decode cX6_sheet 59 = .ok (.iload_n 2, 1) := by decide +kernel
theorem dX6_sheet_60 : decode cX6_sheet 60 = .ok (.iload_n 3, 1) := by decide +kernel
theorem dX6_sheet_61 : decode cX6_sheet 61 = .ok (.invokevirtual 251, 3) := by decide +kernel
theorem dX6_sheet_64 : decode cX6_sheet 64 = .ok (.iload_n 3, 1) := by decide +kernel
theorem dX6_sheet_65 : decode cX6_sheet 65 = .ok (.ireturn, 1) := by decide +kernel
theorem dX6_mark_0 : decode cX6_mark 0 = .ok (.iload_n 1, 1) := by decide +kernel
theorem dX6_mark_1 : decode cX6_mark 1 = .ok (.invokestatic 204, 3) := by decide +kernel
theorem dX6_mark_4 : decode cX6_mark 4 = .ok (.ifCond .ne 6, 3) := by decide +kernel
theorem dX6_mark_7 : decode cX6_mark 7 = .ok (.ldc 71, 2) := by decide +kernel
theorem dX6_mark_9 : decode cX6_mark 9 = .ok (.ireturn, 1) := by decide +kernel
theorem dX6_mark_10 : decode cX6_mark 10 = .ok (.aload_n 0, 1) := by decide +kernel
theorem dX6_mark_11 : decode cX6_mark 11 = .ok (.getfield 40, 3) := by decide +kernel
theorem dX6_mark_14 : decode cX6_mark 14 = .ok (.iload_n 1, 1) := by decide +kernel
theorem dX6_mark_15 : decode cX6_mark 15 = .ok (.aaload, 1) := by decide +kernel
theorem dX6_mark_16 : decode cX6_mark 16 = .ok (.astore 4, 2) := by decide +kernel
theorem dX6_mark_18 : decode cX6_mark 18 = .ok (.aload 4, 2) := by decide +kernel
theorem dX6_mark_20 : decode cX6_mark 20 = .ok (.invokevirtual 207, 3) := by decide +kernel
theorem dX6_mark_23 : decode cX6_mark 23 = .ok (.ifCond .eq 6, 3) := by decide +kernel
theorem dX6_mark_26 : decode cX6_mark 26 = .ok (.ldc 211, 2) := by decide +kernel
theorem dX6_mark_28 : decode cX6_mark 28 = .ok (.ireturn, 1) := by decide +kernel
theorem dX6_mark_29 : decode cX6_mark 29 = .ok (.aload 4, 2) := by decide +kernel
theorem dX6_mark_31 : decode cX6_mark 31 = .ok (.iload_n 2, 1) := by decide +kernel
theorem dX6_mark_32 : decode cX6_mark 32 = .ok (.invokevirtual 256, 3) := by decide +kernel
theorem dX6_mark_35 : decode cX6_mark 35 = .ok (.ifCond .ne 7, 3) := by decide +kernel
theorem dX6_mark_38 : decode cX6_mark 38 = .ok (.ldc_w 259, 3) := by decide +kernel
theorem dX6_mark_41 : decode cX6_mark 41 = .ok (.ireturn, 1) := by decide +kernel
theorem dX6_mark_42 : decode cX6_mark 42 = .ok (.aload 4, 2) := by decide +kernel
theorem dX6_mark_44 : decode cX6_mark 44 = .ok (.getfield 260, 3) := by decide +kernel
theorem dX6_mark_47 : decode cX6_mark 47 = .ok (.ifCond .ne 23, 3) := by decide +kernel
theorem dX6_mark_50 : decode cX6_mark 50 = .ok (.iload_n 3, 1) := by decide +kernel
theorem dX6_mark_51 : decode cX6_mark 51 = .ok (.ldc 184, 2) := by decide +kernel
theorem dX6_mark_53 : decode cX6_mark 53 = .ok (.if_icmp .ne 6, 3) := by decide +kernel
theorem dX6_mark_56 : decode cX6_mark 56 = .ok (.ldc 128, 2) := by decide +kernel
theorem dX6_mark_58 : decode cX6_mark 58 = .ok (.ireturn, 1) := by decide +kernel
theorem dX6_mark_59 : decode cX6_mark 59 = .ok (.aload 4, 2) := by decide +kernel
theorem dX6_mark_61 : decode cX6_mark 61 = .ok (.getfield 263, 3) := by decide +kernel
theorem dX6_mark_64 : decode cX6_mark 64 = .ok (.iload_n 2, 1) := by decide +kernel
theorem dX6_mark_65 : decode cX6_mark 65 = .ok (.iload_n 3, 1) := by decide +kernel
theorem dX6_mark_66 : decode cX6_mark 66 = .ok (.i2s, 1) := by decide +kernel
theorem dX6_mark_67 : decode cX6_mark 67 = .ok (.iastore, 1) := by decide +kernel
theorem dX6_mark_68 : decode cX6_mark 68 = .ok (.iconst 1, 1) := by decide +kernel
theorem dX6_mark_69 : decode cX6_mark 69 = .ok (.ireturn, 1) := by decide +kernel
theorem dX6_mark_70 : decode cX6_mark 70 = .ok (.iload_n 3, 1) := by decide +kernel
theorem dX6_mark_71 : decode cX6_mark 71 = .ok (.ldc 184, 2) := by decide +kernel
theorem dX6_mark_73 : decode cX6_mark 73 = .ok (.if_icmp .eq 19, 3) := by decide +kernel
theorem dX6_mark_76 : decode cX6_mark 76 = .ok (.iload_n 3, 1) := by decide +kernel
theorem dX6_mark_77 : decode cX6_mark 77 = .ok (.ldc_w 266, 3) := by decide +kernel
theorem dX6_mark_80 : decode cX6_mark 80 = .ok (.ldc_w 267, 3) := by decide +kernel
theorem dX6_mark_83 : decode cX6_mark 83 = .ok (.invokestatic 67, 3) := by decide +kernel
theorem dX6_mark_86 : decode cX6_mark 86 = .ok (.ifCond .ne 6, 3) := by decide +kernel
theorem dX6_mark_89 : decode cX6_mark 89 = .ok (.ldc 71, 2) := by decide +kernel
theorem dX6_mark_91 : decode cX6_mark 91 = .ok (.ireturn, 1) := by decide +kernel
theorem dX6_mark_92 : decode cX6_mark 92 = .ok (.aload 4, 2) := by decide +kernel
theorem dX6_mark_94 : decode cX6_mark 94 = .ok (.getfield 263, 3) := by decide +kernel
theorem dX6_mark_97 : decode cX6_mark 97 = .ok (.iload_n 2, 1) := by decide +kernel
theorem dX6_mark_98 : decode cX6_mark 98 = .ok (.iload_n 3, 1) := by decide +kernel
theorem dX6_mark_99 : decode cX6_mark 99 = .ok (.iastore, 1) := by decide +kernel
theorem dX6_mark_100 : decode cX6_mark 100 = .ok (.iconst 1, 1) := by decide +kernel
theorem dX6_mark_101 : decode cX6_mark 101 = .ok (.ireturn, 1) := by decide +kernel
theorem dX6_pour_0 : decode cX6_pour 0 = .ok (.iload_n 1, 1) := by decide +kernel
theorem dX6_pour_1 : decode cX6_pour 1 = .ok (.invokestatic 204, 3) := by decide +kernel
theorem dX6_pour_4 : decode cX6_pour 4 = .ok (.ifCond .ne 6, 3) := by decide +kernel
theorem dX6_pour_7 : decode cX6_pour 7 = .ok (.ldc 71, 2) := by decide +kernel
theorem dX6_pour_9 : decode cX6_pour 9 = .ok (.ireturn, 1) := by decide +kernel
theorem dX6_pour_10 : decode cX6_pour 10 = .ok (.aload_n 0, 1) := by decide +kernel
theorem dX6_pour_11 : decode cX6_pour 11 = .ok (.getfield 40, 3) := by decide +kernel
theorem dX6_pour_14 : decode cX6_pour 14 = .ok (.iload_n 1, 1) := by decide +kernel
theorem dX6_pour_15 : decode cX6_pour 15 = .ok (.aaload, 1) := by decide +kernel
theorem dX6_pour_16 : decode cX6_pour 16 = .ok (.astore_n 2, 1) := by decide +kernel
theorem dX6_pour_17 : decode cX6_pour 17 = .ok (.aload_n 2, 1) := by decide +kernel
theorem dX6_pour_18 : decode cX6_pour 18 = .ok (.invokevirtual 207, 3) := by decide +kernel
theorem dX6_pour_21 : decode cX6_pour 21 = .ok (.ifCond .eq 6, 3) := by decide +kernel
theorem dX6_pour_24 : decode cX6_pour 24 = .ok (.ldc 211, 2) := by decide +kernel
theorem dX6_pour_26 : decode cX6_pour 26 = .ok (.ireturn, 1) := by decide +kernel
theorem dX6_pour_27 : decode cX6_pour 27 = .ok (.iconst 0, 1) := by decide +kernel
theorem dX6_pour_28 : decode cX6_pour 28 = .ok (.istore_n 3, 1) := by decide +kernel
theorem dX6_pour_29 : decode cX6_pour 29 = .ok (.iconst 0, 1) := by decide +kernel
theorem dX6_pour_30 : decode cX6_pour 30 = .ok (.istore 4, 2) := by decide +kernel
theorem dX6_pour_32 : decode cX6_pour 32 = .ok (.iload 4, 2) := by decide +kernel
theorem dX6_pour_34 : decode cX6_pour 34 = .ok (.aload_n 0, 1) := by decide +kernel
theorem dX6_pour_35 : decode cX6_pour 35 = .ok (.getfield 28, 3) := by decide +kernel
theorem dX6_pour_38 : decode cX6_pour 38 = .ok (.getfield 72, 3) := by decide +kernel
theorem dX6_pour_41 : decode cX6_pour 41 = .ok (.if_icmp .ge 77, 3) := by decide +kernel
theorem dX6_pour_44 : decode cX6_pour 44 = .ok (.iload 4, 2) := by decide +kernel
theorem dX6_pour_46 : decode cX6_pour 46 = .ok (.aload_n 2, 1) := by decide +kernel
theorem dX6_pour_47 : decode cX6_pour 47 = .ok (.getfield 268, 3) := by decide +kernel
theorem dX6_pour_50 : decode cX6_pour 50 = .ok (.if_icmp .ge 68, 3) := by decide +kernel
theorem dX6_pour_53 : decode cX6_pour 53 = .ok (.aload_n 2, 1) := by decide +kernel
theorem dX6_pour_54 : decode cX6_pour 54 = .ok (.iload 4, 2) := by decide +kernel
theorem dX6_pour_56 : decode cX6_pour 56 = .ok (.invokevirtual 271, 3) := by decide +kernel
theorem dX6_pour_59 : decode cX6_pour 59 = .ok (.ifCond .eq 53, 3) := by decide +kernel
theorem dX6_pour_62 : decode cX6_pour 62 = .ok (.aload_n 2, 1) := by decide +kernel
theorem dX6_pour_63 : decode cX6_pour 63 = .ok (.getfield 263, 3) := by decide +kernel
theorem dX6_pour_66 : decode cX6_pour 66 = .ok (.iload 4, 2) := by decide +kernel
theorem dX6_pour_68 : decode cX6_pour 68 = .ok (.iaload, 1) := by decide +kernel
theorem dX6_pour_69 : decode cX6_pour 69 = .ok (.iconst 0, 1) := by decide +kernel
theorem dX6_pour_70 : decode cX6_pour 70 = .ok (.bipush 9, 2) := by decide +kernel
theorem dX6_pour_72 : decode cX6_pour 72 = .ok (.invokestatic 274, 3) := by decide +kernel
theorem dX6_pour_75 : decode cX6_pour 75 = .ok (.istore 5, 2) := by decide +kernel
theorem dX6_pour_77 : decode cX6_pour 77 = .ok (.iload_n 3, 1) := by decide +kernel
theorem dX6_pour_78 : decode cX6_pour 78 = .ok (.iload 5, 2) := by decide +kernel
theorem dX6_pour_80 : decode cX6_pour 80 = .ok (.aload_n 0, 1) := by decide +kernel
theorem dX6_pour_81 : decode cX6_pour 81 = .ok (.getfield 28, 3) := by decide +kernel
theorem dX6_pour_84 : decode cX6_pour 84 = .ok (.getfield 96, 3) := by decide +kernel
theorem dX6_pour_87 : decode cX6_pour 87 = .ok (.iload 4, 2) := by decide +kernel
theorem dX6_pour_89 : decode cX6_pour 89 = .ok (.iaload, 1) := by decide +kernel
theorem dX6_pour_90 : decode cX6_pour 90 = .ok (.if_icmp .ne 7, 3) := by decide +kernel
theorem dX6_pour_93 : decode cX6_pour 93 = .ok (.iconst 0, 1) := by decide +kernel
theorem dX6_pour_94 : decode cX6_pour 94 = .ok (.goto 4, 3) := by decide +kernel
theorem dX6_pour_97 : decode cX6_pour 97 = .ok (.iconst 1, 1) := by decide +kernel
theorem dX6_pour_98 : decode cX6_pour 98 = .ok (.iadd, 1) := by decide +kernel
theorem dX6_pour_99 : decode cX6_pour 99 = .ok (.istore_n 3, 1) := by decide +kernel
theorem dX6_pour_100 : decode cX6_pour 100 = .ok (.aload_n 0, 1) := by decide +kernel
theorem dX6_pour_101 : decode cX6_pour 101 = .ok (.getfield 28, 3) := by decide +kernel
theorem dX6_pour_104 : decode cX6_pour 104 = .ok (.getfield 96, 3) := by decide +kernel
theorem dX6_pour_107 : decode cX6_pour 107 = .ok (.iload 4, 2) := by decide +kernel
theorem dX6_pour_109 : decode cX6_pour 109 = .ok (.iload 5, 2) := by decide +kernel
theorem dX6_pour_111 : decode cX6_pour 111 = .ok (.iastore, 1) := by decide +kernel
theorem dX6_pour_112 : decode cX6_pour 112 = .ok (.iinc 4 1, 3) := by decide +kernel
theorem dX6_pour_115 : decode cX6_pour 115 = .ok (.goto (-83), 3) := by decide +kernel
theorem dX6_pour_118 : decode cX6_pour 118 = .ok (.iload_n 3, 1) := by decide +kernel
theorem dX6_pour_119 : decode cX6_pour 119 = .ok (.ireturn, 1) := by decide +kernel
theorem dX6_reads_0 : decode cX6_reads 0 = .ok (.iload_n 1, 1) := by decide +kernel
theorem dX6_reads_1 : decode cX6_reads 1 = .ok (.invokestatic 204, 3) := by decide +kernel
theorem dX6_reads_4 : decode cX6_reads 4 = .ok (.ifCond .ne 6, 3) := by decide +kernel
theorem dX6_reads_7 : decode cX6_reads 7 = .ok (.ldc 71, 2) := by decide +kernel
theorem dX6_reads_9 : decode cX6_reads 9 = .ok (.ireturn, 1) := by decide +kernel
theorem dX6_reads_10 : decode cX6_reads 10 = .ok (.aload_n 0, 1) := by decide +kernel
theorem dX6_reads_11 : decode cX6_reads 11 = .ok (.getfield 40, 3) := by decide +kernel
theorem dX6_reads_14 : decode cX6_reads 14 = .ok (.iload_n 1, 1) := by decide +kernel
theorem dX6_reads_15 : decode cX6_reads 15 = .ok (.aaload, 1) := by decide +kernel
theorem dX6_reads_16 : decode cX6_reads 16 = .ok (.astore_n 2, 1) := by decide +kernel
theorem dX6_reads_17 : decode cX6_reads 17 = .ok (.aload_n 2, 1) := by decide +kernel
theorem dX6_reads_18 : decode cX6_reads 18 = .ok (.invokevirtual 207, 3) := by decide +kernel
theorem dX6_reads_21 : decode cX6_reads 21 = .ok (.ifCond .eq 6, 3) := by decide +kernel
theorem dX6_reads_24 : decode cX6_reads 24 = .ok (.ldc 211, 2) := by decide +kernel
theorem dX6_reads_26 : decode cX6_reads 26 = .ok (.ireturn, 1) := by decide +kernel
theorem dX6_reads_27 : decode cX6_reads 27 = .ok (.iconst 0, 1) := by decide +kernel
theorem dX6_reads_28 : decode cX6_reads 28 = .ok (.istore_n 3, 1) := by decide +kernel
theorem dX6_reads_29 : decode cX6_reads 29 = .ok (.iload_n 3, 1) := by decide +kernel
theorem dX6_reads_30 : decode cX6_reads 30 = .ok (.aload_n 2, 1) := by decide +kernel
theorem dX6_reads_31 : decode cX6_reads 31 = .ok (.getfield 268, 3) := by decide +kernel
theorem dX6_reads_34 : decode cX6_reads 34 = .ok (.if_icmp .ge 60, 3) := by decide +kernel
theorem dX6_reads_37 : decode cX6_reads 37 = .ok (.aload_n 0, 1) := by decide +kernel
theorem dX6_reads_38 : decode cX6_reads 38 = .ok (.getfield 28, 3) := by decide +kernel
theorem dX6_reads_41 : decode cX6_reads 41 = .ok (.iload_n 3, 1) := by decide +kernel
theorem dX6_reads_42 : decode cX6_reads 42 = .ok (.invokevirtual 80, 3) := by decide +kernel
theorem dX6_reads_45 : decode cX6_reads 45 = .ok (.ifCond .eq 25, 3) := by decide +kernel
theorem dX6_reads_48 : decode cX6_reads 48 = .ok (.aload_n 2, 1) := by decide +kernel
theorem dX6_reads_49 : decode cX6_reads 49 = .ok (.getfield 263, 3) := by decide +kernel
theorem dX6_reads_52 : decode cX6_reads 52 = .ok (.iload_n 3, 1) := by decide +kernel
theorem dX6_reads_53 : decode cX6_reads 53 = .ok (.iaload, 1) := by decide +kernel
theorem dX6_reads_54 : decode cX6_reads 54 = .ok (.aload_n 0, 1) := by decide +kernel
theorem dX6_reads_55 : decode cX6_reads 55 = .ok (.getfield 28, 3) := by decide +kernel
theorem dX6_reads_58 : decode cX6_reads 58 = .ok (.getfield 102, 3) := by decide +kernel
theorem dX6_reads_61 : decode cX6_reads 61 = .ok (.iload_n 3, 1) := by decide +kernel
theorem dX6_reads_62 : decode cX6_reads 62 = .ok (.iaload, 1) := by decide +kernel
theorem dX6_reads_63 : decode cX6_reads 63 = .ok (.if_icmp .ne 7, 3) := by decide +kernel
theorem dX6_reads_66 : decode cX6_reads 66 = .ok (.iconst 1, 1) := by decide +kernel
theorem dX6_reads_67 : decode cX6_reads 67 = .ok (.goto 4, 3) := by decide +kernel
theorem dX6_reads_70 : decode cX6_reads 70 = .ok (.iconst 0, 1) := by decide +kernel
theorem dX6_reads_71 : decode cX6_reads 71 = .ok (.istore 4, 2) := by decide +kernel
theorem dX6_reads_73 : decode cX6_reads 73 = .ok (.aload_n 2, 1) := by decide +kernel
theorem dX6_reads_74 : decode cX6_reads 74 = .ok (.iload_n 3, 1) := by decide +kernel
theorem dX6_reads_75 : decode cX6_reads 75 = .ok (.invokevirtual 271, 3) := by decide +kernel
theorem dX6_reads_78 : decode cX6_reads 78 = .ok (.ifCond .eq 10, 3) := by decide +kernel
theorem dX6_reads_81 : decode cX6_reads 81 = .ok (.iload 4, 2) := by decide +kernel
theorem dX6_reads_83 : decode cX6_reads 83 = .ok (.ifCond .ne 5, 3) := by decide +kernel
theorem dX6_reads_86 : decode cX6_reads 86 = .ok (.iload_n 3, 1) := by decide +kernel
theorem dX6_reads_87 : decode cX6_reads 87 = .ok (.ireturn, 1) := by decide +kernel
theorem dX6_reads_88 : decode cX6_reads 88 = .ok (.iinc 3 1, 3) := by decide +kernel
theorem dX6_reads_91 : decode cX6_reads 91 = .ok (.goto (-62), 3) := by decide +kernel
theorem dX6_reads_94 : decode cX6_reads 94 = .ok (.ldc 184, 2) := by decide +kernel
theorem dX6_reads_96 : decode cX6_reads 96 = .ok (.ireturn, 1) := by decide +kernel
theorem dX6_copy_0 : decode cX6_copy 0 = .ok (.iload_n 1, 1) := by decide +kernel
theorem dX6_copy_1 : decode cX6_copy 1 = .ok (.invokestatic 204, 3) := by decide +kernel
theorem dX6_copy_4 : decode cX6_copy 4 = .ok (.ifCond .eq 10, 3) := by decide +kernel
theorem dX6_copy_7 : decode cX6_copy 7 = .ok (.iload_n 3, 1) := by decide +kernel
theorem dX6_copy_8 : decode cX6_copy 8 = .ok (.invokestatic 204, 3) := by decide +kernel
theorem dX6_copy_11 : decode cX6_copy 11 = .ok (.ifCond .ne 6, 3) := by decide +kernel
theorem dX6_copy_14 : decode cX6_copy 14 = .ok (.ldc 71, 2) := by decide +kernel
theorem dX6_copy_16 : decode cX6_copy 16 = .ok (.ireturn, 1) := by decide +kernel
theorem dX6_copy_17 : decode cX6_copy 17 = .ok (.aload_n 0, 1) := by decide +kernel
theorem dX6_copy_18 : decode cX6_copy 18 = .ok (.getfield 40, 3) := by decide +kernel
theorem dX6_copy_21 : decode cX6_copy 21 = .ok (.iload_n 1, 1) := by decide +kernel
theorem dX6_copy_22 : decode cX6_copy 22 = .ok (.aaload, 1) := by decide +kernel
theorem dX6_copy_23 : decode cX6_copy 23 = .ok (.astore 6, 2) := by decide +kernel
theorem dX6_copy_25 : decode cX6_copy 25 = .ok (.aload_n 0, 1) := by decide +kernel
theorem dX6_copy_26 : decode cX6_copy 26 = .ok (.getfield 40, 3) := by decide +kernel
theorem dX6_copy_29 : decode cX6_copy 29 = .ok (.iload_n 3, 1) := by decide +kernel
theorem dX6_copy_30 : decode cX6_copy 30 = .ok (.aaload, 1) := by decide +kernel
theorem dX6_copy_31 : decode cX6_copy 31 = .ok (.astore 7, 2) := by decide +kernel
theorem dX6_copy_33 : decode cX6_copy 33 = .ok (.aload 6, 2) := by decide +kernel
theorem dX6_copy_35 : decode cX6_copy 35 = .ok (.invokevirtual 207, 3) := by decide +kernel
theorem dX6_copy_38 : decode cX6_copy 38 = .ok (.ifCond .ne 11, 3) := by decide +kernel
theorem dX6_copy_41 : decode cX6_copy 41 = .ok (.aload 7, 2) := by decide +kernel
theorem dX6_copy_43 : decode cX6_copy 43 = .ok (.invokevirtual 207, 3) := by decide +kernel
theorem dX6_copy_46 : decode cX6_copy 46 = .ok (.ifCond .eq 6, 3) := by decide +kernel
theorem dX6_copy_49 : decode cX6_copy 49 = .ok (.ldc 211, 2) := by decide +kernel
theorem dX6_copy_51 : decode cX6_copy 51 = .ok (.ireturn, 1) := by decide +kernel
theorem dX6_copy_52 : decode cX6_copy 52 = .ok (.aload 6, 2) := by decide +kernel
theorem dX6_copy_54 : decode cX6_copy 54 = .ok (.getfield 260, 3) := by decide +kernel
theorem dX6_copy_57 : decode cX6_copy 57 = .ok (.aload 7, 2) := by decide +kernel
theorem dX6_copy_59 : decode cX6_copy 59 = .ok (.getfield 260, 3) := by decide +kernel
theorem dX6_copy_62 : decode cX6_copy 62 = .ok (.if_icmp .eq 6, 3) := by decide +kernel
theorem dX6_copy_65 : decode cX6_copy 65 = .ok (.ldc 128, 2) := by decide +kernel
theorem dX6_copy_67 : decode cX6_copy 67 = .ok (.ireturn, 1) := by decide +kernel
theorem dX6_copy_68 : decode cX6_copy 68 = .ok (.aload 6, 2) := by decide +kernel
theorem dX6_copy_70 : decode cX6_copy 70 = .ok (.iload_n 2, 1) := by decide +kernel
theorem dX6_copy_71 : decode cX6_copy 71 = .ok (.iload 5, 2) := by decide +kernel
theorem dX6_copy_73 : decode cX6_copy 73 = .ok (.invokevirtual 277, 3) := by decide +kernel
theorem dX6_copy_76 : decode cX6_copy 76 = .ok (.ifCond .eq 15, 3) := by decide +kernel
theorem dX6_copy_79 : decode cX6_copy 79 = .ok (.aload 7, 2) := by decide +kernel
theorem dX6_copy_81 : decode cX6_copy 81 = .ok (.iload 4, 2) := by decide +kernel
theorem dX6_copy_83 : decode cX6_copy 83 = .ok (.iload 5, 2) := by decide +kernel
theorem dX6_copy_85 : decode cX6_copy 85 = .ok (.invokevirtual 277, 3) := by decide +kernel
theorem dX6_copy_88 : decode cX6_copy 88 = .ok (.ifCond .ne 7, 3) := by decide +kernel
theorem dX6_copy_91 : decode cX6_copy 91 = .ok (.ldc_w 259, 3) := by decide +kernel
theorem dX6_copy_94 : decode cX6_copy 94 = .ok (.ireturn, 1) := by decide +kernel
theorem dX6_copy_95 : decode cX6_copy 95 = .ok (.aload 6, 2) := by decide +kernel
theorem dX6_copy_97 : decode cX6_copy 97 = .ok (.getfield 263, 3) := by decide +kernel
theorem dX6_copy_100 : decode cX6_copy 100 = .ok (.iload_n 2, 1) := by decide +kernel
theorem dX6_copy_101 : decode cX6_copy 101 = .ok (.aload 7, 2) := by decide +kernel
theorem dX6_copy_103 : decode cX6_copy 103 = .ok (.getfield 263, 3) := by decide +kernel
theorem dX6_copy_106 : decode cX6_copy 106 = .ok (.iload 4, 2) := by decide +kernel
theorem dX6_copy_108 : decode cX6_copy 108 = .ok (.iload 5, 2) := by decide +kernel
theorem dX6_copy_110 : decode cX6_copy 110 = .ok (.invokestatic 280, 3) := by decide +kernel
theorem dX6_copy_113 : decode cX6_copy 113 = .ok (.iload 5, 2) := by decide +kernel
theorem dX6_copy_115 : decode cX6_copy 115 = .ok (.ireturn, 1) := by decide +kernel
theorem dX6_lay_0 : decode cX6_lay 0 = .ok (.iload_n 1, 1) := by decide +kernel
theorem dX6_lay_1 : decode cX6_lay 1 = .ok (.invokestatic 286, 3) := by decide +kernel
theorem dX6_lay_4 : decode cX6_lay 4 = .ok (.ifCond .eq 12, 3) := by decide +kernel
theorem dX6_lay_7 : decode cX6_lay 7 = .ok (.iload_n 2, 1) := by decide +kernel
theorem dX6_lay_8 : decode cX6_lay 8 = .ok (.iconst 0, 1) := by decide +kernel
theorem dX6_lay_9 : decode cX6_lay 9 = .ok (.iconst 3, 1) := by decide +kernel
theorem dX6_lay_10 : decode cX6_lay 10 = .ok (.invokestatic 67, 3) := by decide +kernel
theorem dX6_lay_13 : decode cX6_lay 13 = .ok (.ifCond .ne 6, 3) := by decide +kernel
theorem dX6_lay_16 : decode cX6_lay 16 = .ok (.ldc 71, 2) := by decide +kernel
theorem dX6_lay_18 : decode cX6_lay 18 = .ok (.ireturn, 1) := by decide +kernel
theorem dX6_lay_19 : decode cX6_lay 19 = .ok (.iload_n 2, 1) := by decide +kernel
theorem dX6_lay_20 : decode cX6_lay 20 = .ok (.iconst 1, 1) := by decide +kernel
theorem dX6_lay_21 : decode cX6_lay 21 = .ok (.if_icmp .ne 17, 3) := by decide +kernel
theorem dX6_lay_24 : decode cX6_lay 24 = .ok (.aload_n 0, 1) := by decide +kernel
theorem dX6_lay_25 : decode cX6_lay 25 = .ok (.getfield 28, 3) := by decide +kernel
theorem dX6_lay_28 : decode cX6_lay 28 = .ok (.iload_n 3, 1) := by decide +kernel
theorem dX6_lay_29 : decode cX6_lay 29 = .ok (.invokevirtual 80, 3) := by decide +kernel
theorem dX6_lay_32 : decode cX6_lay 32 = .ok (.ifCond .ne 6, 3) := by decide +kernel
theorem dX6_lay_35 : decode cX6_lay 35 = .ok (.ldc 71, 2) := by decide +kernel
theorem dX6_lay_37 : decode cX6_lay 37 = .ok (.ireturn, 1) := by decide +kernel
theorem dX6_lay_38 : decode cX6_lay 38 = .ok (.iload_n 2, 1) := by decide +kernel
theorem dX6_lay_39 : decode cX6_lay 39 = .ok (.iconst 2, 1) := by decide +kernel
theorem dX6_lay_40 : decode cX6_lay 40 = .ok (.if_icmp .ne 28, 3) := by decide +kernel
theorem dX6_lay_43 : decode cX6_lay 43 = .ok (.iload_n 3, 1) := by decide +kernel
theorem dX6_lay_44 : decode cX6_lay 44 = .ok (.invokestatic 204, 3) := by decide +kernel
theorem dX6_lay_47 : decode cX6_lay 47 = .ok (.ifCond .ne 6, 3) := by decide +kernel
theorem dX6_lay_50 : decode cX6_lay 50 = .ok (.ldc 71, 2) := by decide +kernel
theorem dX6_lay_52 : decode cX6_lay 52 = .ok (.ireturn, 1) := by decide +kernel
theorem dX6_lay_53 : decode cX6_lay 53 = .ok (.aload_n 0, 1) := by decide +kernel
theorem dX6_lay_54 : decode cX6_lay 54 = .ok (.getfield 40, 3) := by decide +kernel
theorem dX6_lay_57 : decode cX6_lay 57 = .ok (.iload_n 3, 1) := by decide +kernel
theorem dX6_lay_58 : decode cX6_lay 58 = .ok (.aaload, 1) := by decide +kernel
theorem dX6_lay_59 : decode cX6_lay 59 = .ok (.invokevirtual 207, 3) := by decide +kernel
theorem dX6_lay_62 : decode cX6_lay 62 = .ok (.ifCond .eq 6, 3) := by decide +kernel
theorem dX6_lay_65 : decode cX6_lay 65 = .ok (.ldc 211, 2) := by decide +kernel
theorem dX6_lay_67 : decode cX6_lay 67 = .ok (.ireturn, 1) := by decide +kernel
theorem dX6_lay_68 : decode cX6_lay 68 = .ok (.aload_n 0, 1) := by decide +kernel
theorem dX6_lay_69 : decode cX6_lay 69 = .ok (.getfield 47, 3) := by decide +kernel
theorem dX6_lay_72 : decode cX6_lay 72 = .ok (.iload_n 1, 1) := by decide +kernel
theorem dX6_lay_73 : decode cX6_lay 73 = .ok (.aaload, 1) := by decide +kernel
theorem dX6_lay_74 : decode cX6_lay 74 = .ok (.astore 4, 2) := by decide +kernel
theorem dX6_lay_76 : decode cX6_lay 76 = .ok (.aload 4, 2) := by decide +kernel
theorem dX6_lay_78 : decode cX6_lay 78 = .ok (.getfield 289, 3) := by decide +kernel
theorem dX6_lay_81 : decode cX6_lay 81 = .ok (.istore 5, 2) := by decide +kernel
theorem dX6_lay_83 : decode cX6_lay 83 = .ok (.aload 4, 2) := by decide +kernel
theorem dX6_lay_85 : decode cX6_lay 85 = .ok (.iload_n 2, 1) := by decide +kernel
theorem dX6_lay_86 : decode cX6_lay 86 = .ok (.putfield 289, 3) := by decide +kernel
theorem dX6_lay_89 : decode cX6_lay 89 = .ok (.iload_n 2, 1) := by decide +kernel
theorem dX6_lay_90 : decode cX6_lay 90 = .ok (.iconst 1, 1) := by decide +kernel
theorem dX6_lay_91 : decode cX6_lay 91 = .ok (.if_icmp .ne 34, 3) := by decide +kernel
theorem dX6_lay_94 : decode cX6_lay 94 = .ok (.aload 4, 2) := by decide +kernel
theorem dX6_lay_96 : decode cX6_lay 96 = .ok (.aload_n 0, 1) := by decide +kernel
theorem dX6_lay_97 : decode cX6_lay 97 = .ok (.getfield 28, 3) := by decide +kernel
theorem dX6_lay_100 : decode cX6_lay 100 = .ok (.getfield 84, 3) := by decide +kernel
theorem dX6_lay_103 : decode cX6_lay 103 = .ok (.iload_n 3, 1) := by decide +kernel
theorem dX6_lay_104 : decode cX6_lay 104 = .ok (.iaload, 1) := by decide +kernel
theorem dX6_lay_105 : decode cX6_lay 105 = .ok (.putfield 292, 3) := by decide +kernel
theorem dX6_lay_108 : decode cX6_lay 108 = .ok (.aload 4, 2) := by decide +kernel
theorem dX6_lay_110 : decode cX6_lay 110 = .ok (.aload_n 0, 1) := by decide +kernel
theorem dX6_lay_111 : decode cX6_lay 111 = .ok (.getfield 28, 3) := by decide +kernel
theorem dX6_lay_114 : decode cX6_lay 114 = .ok (.getfield 93, 3) := by decide +kernel
theorem dX6_lay_117 : decode cX6_lay 117 = .ok (.iload_n 3, 1) := by decide +kernel
theorem dX6_lay_118 : decode cX6_lay 118 = .ok (.iaload, 1) := by decide +kernel
theorem dX6_lay_119 : decode cX6_lay 119 = .ok (.putfield 295, 3) := by decide +kernel
theorem dX6_lay_122 : decode cX6_lay 122 = .ok (.goto 36, 3) := by decide +kernel
theorem dX6_lay_125 : decode cX6_lay 125 = .ok (.iload_n 2, 1) := by decide +kernel
theorem dX6_lay_126 : decode cX6_lay 126 = .ok (.iconst 2, 1) := by decide +kernel
theorem dX6_lay_127 : decode cX6_lay 127 = .ok (.if_icmp .ne 20, 3) := by decide +kernel
theorem dX6_lay_130 : decode cX6_lay 130 = .ok (.aload 4, 2) := by decide +kernel
theorem dX6_lay_132 : decode cX6_lay 132 = .ok (.getfield 298, 3) := by decide +kernel
theorem dX6_lay_135 : decode cX6_lay 135 = .ok (.aload_n 0, 1) := by decide +kernel
theorem dX6_lay_136 : decode cX6_lay 136 = .ok (.getfield 40, 3) := by decide +kernel
theorem dX6_lay_139 : decode cX6_lay 139 = .ok (.iload_n 3, 1) := by decide +kernel
theorem dX6_lay_140 : decode cX6_lay 140 = .ok (.aaload, 1) := by decide +kernel
theorem dX6_lay_141 : decode cX6_lay 141 = .ok (.invokevirtual 302, 3) := by decide +kernel
theorem dX6_lay_144 : decode cX6_lay 144 = .ok (.goto 14, 3) := by decide +kernel
theorem dX6_lay_147 : decode cX6_lay 147 = .ok (.iload_n 2, 1) := by decide +kernel
theorem dX6_lay_148 : decode cX6_lay 148 = .ok (.iconst 3, 1) := by decide +kernel
theorem dX6_lay_149 : decode cX6_lay 149 = .ok (.if_icmp .ne 9, 3) := by decide +kernel
theorem dX6_lay_152 : decode cX6_lay 152 = .ok (.aload 4, 2) := by decide +kernel
theorem dX6_lay_154 : decode cX6_lay 154 = .ok (.iload_n 3, 1) := by decide +kernel
theorem dX6_lay_155 : decode cX6_lay 155 = .ok (.putfield 305, 3) := by decide +kernel
theorem dX6_lay_158 : decode cX6_lay 158 = .ok (.iload 5, 2) := by decide +kernel
theorem dX6_lay_160 : decode cX6_lay 160 = .ok (.ireturn, 1) := by decide +kernel
theorem dX6_ask_0 : decode cX6_ask 0 = .ok (.iload_n 1, 1) := by decide +kernel
theorem dX6_ask_1 : decode cX6_ask 1 = .ok (.invokestatic 286, 3) := by decide +kernel
theorem dX6_ask_4 : decode cX6_ask 4 = .ok (.ifCond .eq 12, 3) := by decide +kernel
theorem dX6_ask_7 : decode cX6_ask 7 = .ok (.iload_n 2, 1) := by decide +kernel
theorem dX6_ask_8 : decode cX6_ask 8 = .ok (.iconst 0, 1) := by decide +kernel
theorem dX6_ask_9 : decode cX6_ask 9 = .ok (.iconst 5, 1) := by decide +kernel
theorem dX6_ask_10 : decode cX6_ask 10 = .ok (.invokestatic 67, 3) := by decide +kernel
theorem dX6_ask_13 : decode cX6_ask 13 = .ok (.ifCond .ne 6, 3) := by decide +kernel
theorem dX6_ask_16 : decode cX6_ask 16 = .ok (.ldc 71, 2) := by decide +kernel
theorem dX6_ask_18 : decode cX6_ask 18 = .ok (.ireturn, 1) := by decide +kernel
theorem dX6_ask_19 : decode cX6_ask 19 = .ok (.aload_n 0, 1) := by decide +kernel
theorem dX6_ask_20 : decode cX6_ask 20 = .ok (.getfield 47, 3) := by decide +kernel
theorem dX6_ask_23 : decode cX6_ask 23 = .ok (.iload_n 1, 1) := by decide +kernel
theorem dX6_ask_24 : decode cX6_ask 24 = .ok (.aaload, 1) := by decide +kernel
theorem dX6_ask_25 : decode cX6_ask 25 = .ok (.astore_n 3, 1) := by decide +kernel
theorem dX6_ask_26 : decode cX6_ask 26 = .ok (.aload_n 3, 1) := by decide +kernel
theorem dX6_ask_27 : decode cX6_ask 27 = .ok (.getfield 289, 3) := by decide +kernel
theorem dX6_ask_30 : decode cX6_ask 30 = .ok (.ifCond .ne 6, 3) := by decide +kernel
theorem dX6_ask_33 : decode cX6_ask 33 = .ok (.ldc 211, 2) := by decide +kernel
theorem dX6_ask_35 : decode cX6_ask 35 = .ok (.ireturn, 1) := by decide +kernel
theorem dX6_ask_36 : decode cX6_ask 36 = .ok (.aload_n 3, 1) := by decide +kernel
theorem dX6_ask_37 : decode cX6_ask 37 = .ok (.getfield 289, 3) := by decide +kernel
theorem dX6_ask_40 : decode cX6_ask 40 = .ok (.iconst 1, 1) := by decide +kernel
theorem dX6_ask_41 : decode cX6_ask 41 = .ok (.if_icmp .ne 14, 3) := by decide +kernel
theorem dX6_ask_44 : decode cX6_ask 44 = .ok (.aload_n 3, 1) := by decide +kernel
theorem dX6_ask_45 : decode cX6_ask 45 = .ok (.getfield 292, 3) := by decide +kernel
theorem dX6_ask_48 : decode cX6_ask 48 = .ok (.iload_n 2, 1) := by decide +kernel
theorem dX6_ask_49 : decode cX6_ask 49 = .ok (.invokestatic 124, 3) := by decide +kernel
theorem dX6_ask_52 : decode cX6_ask 52 = .ok (.ifCond .ne 6, 3) := by decide +kernel
theorem dX6_ask_55 : decode cX6_ask 55 = .ok (.ldc 128, 2) := by decide +kernel
theorem dX6_ask_57 : decode cX6_ask 57 = .ok (.ireturn, 1) := by decide +kernel
theorem dX6_ask_58 : decode cX6_ask 58 = .ok (.aload_n 3, 1) := by decide +kernel
theorem dX6_ask_59 : decode cX6_ask 59 = .ok (.getfield 292, 3) := by decide +kernel
theorem dX6_ask_62 : decode cX6_ask 62 = .ok (.aload_n 3, 1) := by decide +kernel
theorem dX6_ask_63 : decode cX6_ask 63 = .ok (.getfield 295, 3) := by decide +kernel
theorem dX6_ask_66 : decode cX6_ask 66 = .ok (.invokestatic 120, 3) := by decide +kernel
theorem dX6_ask_69 : decode cX6_ask 69 = .ok (.ireturn, 1) := by decide +kernel
theorem dX6_item_0 : decode cX6_item 0 = .ok (.iload_n 1, 1) := by decide +kernel
theorem dX6_item_1 : decode cX6_item 1 = .ok (.invokestatic 286, 3) := by decide +kernel
theorem dX6_item_4 : decode cX6_item 4 = .ok (.ifCond .ne 6, 3) := by decide +kernel
theorem dX6_item_7 : decode cX6_item 7 = .ok (.ldc 71, 2) := by decide +kernel
theorem dX6_item_9 : decode cX6_item 9 = .ok (.ireturn, 1) := by decide +kernel
theorem dX6_item_10 : decode cX6_item 10 = .ok (.aload_n 0, 1) := by decide +kernel
theorem dX6_item_11 : decode cX6_item 11 = .ok (.getfield 47, 3) := by decide +kernel
theorem dX6_item_14 : decode cX6_item 14 = .ok (.iload_n 1, 1) := by decide +kernel
theorem dX6_item_15 : decode cX6_item 15 = .ok (.aaload, 1) := by decide +kernel
theorem dX6_item_16 : decode cX6_item 16 = .ok (.astore_n 3, 1) := by decide +kernel
theorem dX6_item_17 : decode cX6_item 17 = .ok (.aload_n 3, 1) := by decide +kernel
theorem dX6_item_18 : decode cX6_item 18 = .ok (.getfield 289, 3) := by decide +kernel
theorem dX6_item_21 : decode cX6_item 21 = .ok (.ifCond .ne 6, 3) := by decide +kernel
theorem dX6_item_24 : decode cX6_item 24 = .ok (.ldc 211, 2) := by decide +kernel
theorem dX6_item_26 : decode cX6_item 26 = .ok (.ireturn, 1) := by decide +kernel
theorem dX6_item_27 : decode cX6_item 27 = .ok (.aload_n 3, 1) := by decide +kernel
theorem dX6_item_28 : decode cX6_item 28 = .ok (.getfield 289, 3) := by decide +kernel
theorem dX6_item_31 : decode cX6_item 31 = .ok (.iconst 2, 1) := by decide +kernel
theorem dX6_item_32 : decode cX6_item 32 = .ok (.if_icmp .eq 6, 3) := by decide +kernel
theorem dX6_item_35 : decode cX6_item 35 = .ok (.ldc 128, 2) := by decide +kernel
theorem dX6_item_37 : decode cX6_item 37 = .ok (.ireturn, 1) := by decide +kernel
theorem dX6_item_38 : decode cX6_item 38 = .ok (.aload_n 3, 1) := by decide +kernel
theorem dX6_item_39 : decode cX6_item 39 = .ok (.getfield 298, 3) := by decide +kernel
theorem dX6_item_42 : decode cX6_item 42 = .ok (.iload_n 2, 1) := by decide +kernel
theorem dX6_item_43 : decode cX6_item 43 = .ok (.invokevirtual 256, 3) := by decide +kernel
theorem dX6_item_46 : decode cX6_item 46 = .ok (.ifCond .ne 7, 3) := by decide +kernel
theorem dX6_item_49 : decode cX6_item 49 = .ok (.ldc_w 259, 3) := by decide +kernel
theorem dX6_item_52 : decode cX6_item 52 = .ok (.ireturn, 1) := by decide +kernel
theorem dX6_item_53 : decode cX6_item 53 = .ok (.aload_n 3, 1) := by decide +kernel
theorem dX6_item_54 : decode cX6_item 54 = .ok (.getfield 298, 3) := by decide +kernel
theorem dX6_item_57 : decode cX6_item 57 = .ok (.iload_n 2, 1) := by decide +kernel
theorem dX6_item_58 : decode cX6_item 58 = .ok (.invokevirtual 271, 3) := by decide +kernel
theorem dX6_item_61 : decode cX6_item 61 = .ok (.ifCond .eq 15, 3) := by decide +kernel
theorem dX6_item_64 : decode cX6_item 64 = .ok (.aload_n 3, 1) := by decide +kernel
theorem dX6_item_65 : decode cX6_item 65 = .ok (.getfield 298, 3) := by decide +kernel
theorem dX6_item_68 : decode cX6_item 68 = .ok (.getfield 263, 3) := by decide +kernel
theorem dX6_item_71 : decode cX6_item 71 = .ok (.iload_n 2, 1) := by decide +kernel
theorem dX6_item_72 : decode cX6_item 72 = .ok (.iaload, 1) := by decide +kernel
theorem dX6_item_73 : decode cX6_item 73 = .ok (.goto 5, 3) := by decide +kernel
theorem dX6_item_76 : decode cX6_item 76 = .ok (.ldc 128, 2) := by decide +kernel
theorem dX6_item_78 : decode cX6_item 78 = .ok (.ireturn, 1) := by decide +kernel
theorem dX6_rest_0 : decode cX6_rest 0 = .ok (.iload_n 1, 1) := by decide +kernel
theorem dX6_rest_1 : decode cX6_rest 1 = .ok (.invokestatic 286, 3) := by decide +kernel
theorem dX6_rest_4 : decode cX6_rest 4 = .ok (.ifCond .ne 6, 3) := by decide +kernel
theorem dX6_rest_7 : decode cX6_rest 7 = .ok (.ldc 71, 2) := by decide +kernel
theorem dX6_rest_9 : decode cX6_rest 9 = .ok (.ireturn, 1) := by decide +kernel
theorem dX6_rest_10 : decode cX6_rest 10 = .ok (.aload_n 0, 1) := by decide +kernel
theorem dX6_rest_11 : decode cX6_rest 11 = .ok (.getfield 47, 3) := by decide +kernel
theorem dX6_rest_14 : decode cX6_rest 14 = .ok (.iload_n 1, 1) := by decide +kernel
theorem dX6_rest_15 : decode cX6_rest 15 = .ok (.aaload, 1) := by decide +kernel
theorem dX6_rest_16 : decode cX6_rest 16 = .ok (.astore_n 3, 1) := by decide +kernel
theorem dX6_rest_17 : decode cX6_rest 17 = .ok (.aload_n 3, 1) := by decide +kernel
theorem dX6_rest_18 : decode cX6_rest 18 = .ok (.getfield 289, 3) := by decide +kernel
theorem dX6_rest_21 : decode cX6_rest 21 = .ok (.ifCond .ne 6, 3) := by decide +kernel
theorem dX6_rest_24 : decode cX6_rest 24 = .ok (.ldc 211, 2) := by decide +kernel
theorem dX6_rest_26 : decode cX6_rest 26 = .ok (.ireturn, 1) := by decide +kernel
theorem dX6_rest_27 : decode cX6_rest 27 = .ok (.aload_n 3, 1) := by decide +kernel
theorem dX6_rest_28 : decode cX6_rest 28 = .ok (.getfield 289, 3) := by decide +kernel
theorem dX6_rest_31 : decode cX6_rest 31 = .ok (.iconst 3, 1) := by decide +kernel
theorem dX6_rest_32 : decode cX6_rest 32 = .ok (.if_icmp .eq 6, 3) := by decide +kernel
theorem dX6_rest_35 : decode cX6_rest 35 = .ok (.ldc 128, 2) := by decide +kernel
theorem dX6_rest_37 : decode cX6_rest 37 = .ok (.ireturn, 1) := by decide +kernel
theorem dX6_rest_38 : decode cX6_rest 38 = .ok (.iload_n 2, 1) := by decide +kernel
theorem dX6_rest_39 : decode cX6_rest 39 = .ok (.ifCond .ne 9, 3) := by decide +kernel
theorem dX6_rest_42 : decode cX6_rest 42 = .ok (.ldc_w 308, 3) := by decide +kernel
theorem dX6_rest_45 : decode cX6_rest 45 = .ok (.goto 9, 3) := by decide +kernel
theorem dX6_rest_48 : decode cX6_rest 48 = .ok (.aload_n 3, 1) := by decide +kernel
theorem dX6_rest_49 : decode cX6_rest 49 = .ok (.getfield 305, 3) := by decide +kernel
theorem dX6_rest_52 : decode cX6_rest 52 = .ok (.iload_n 2, 1) := by decide +kernel
theorem dX6_rest_53 : decode cX6_rest 53 = .ok (.irem, 1) := by decide +kernel
theorem dX6_rest_54 : decode cX6_rest 54 = .ok (.ireturn, 1) := by decide +kernel
theorem dX6_tell_0 : decode cX6_tell 0 = .ok (.aload_n 0, 1) := by decide +kernel
theorem dX6_tell_1 : decode cX6_tell 1 = .ok (.getfield 59, 3) := by decide +kernel
theorem dX6_tell_4 : decode cX6_tell 4 = .ok (.bipush 60, 2) := by decide +kernel
theorem dX6_tell_6 : decode cX6_tell 6 = .ok (.if_icmp .lt 6, 3) := by decide +kernel
theorem dX6_tell_9 : decode cX6_tell 9 = .ok (.ldc 75, 2) := by decide +kernel
theorem dX6_tell_11 : decode cX6_tell 11 = .ok (.ireturn, 1) := by decide +kernel
theorem dX6_tell_12 : decode cX6_tell 12 = .ok (.aload_n 0, 1) := by decide +kernel
theorem dX6_tell_13 : decode cX6_tell 13 = .ok (.getfield 52, 3) := by decide +kernel
theorem dX6_tell_16 : decode cX6_tell 16 = .ok (.aload_n 0, 1) := by decide +kernel
theorem dX6_tell_17 : decode cX6_tell 17 = .ok (.getfield 59, 3) := by decide +kernel
theorem dX6_tell_20 : decode cX6_tell 20 = .ok (.iload_n 1, 1) := by decide +kernel
theorem dX6_tell_21 : decode cX6_tell 21 = .ok (.iastore, 1) := by decide +kernel
theorem dX6_tell_22 : decode cX6_tell 22 = .ok (.aload_n 0, 1) := by decide +kernel
theorem dX6_tell_23 : decode cX6_tell 23 = .ok (.dup, 1) := by decide +kernel
theorem dX6_tell_24 : decode cX6_tell 24 = .ok (.getfield 59, 3) := by decide +kernel
theorem dX6_tell_27 : decode cX6_tell 27 = .ok (.iconst 1, 1) := by decide +kernel
theorem dX6_tell_28 : decode cX6_tell 28 = .ok (.iadd, 1) := by decide +kernel
theorem dX6_tell_29 : decode cX6_tell 29 = .ok (.putfield 59, 3) := by decide +kernel
theorem dX6_tell_32 : decode cX6_tell 32 = .ok (.aload_n 0, 1) := by decide +kernel
theorem dX6_tell_33 : decode cX6_tell 33 = .ok (.getfield 59, 3) := by decide +kernel
theorem dX6_tell_36 : decode cX6_tell 36 = .ok (.ireturn, 1) := by decide +kernel
theorem dX6_check_0 : decode cX6_check 0 = .ok (.aload_n 0, 1) := by decide +kernel
theorem dX6_check_1 : decode cX6_check 1 = .ok (.getfield 59, 3) := by decide +kernel
theorem dX6_check_4 : decode cX6_check 4 = .ok (.istore_n 2, 1) := by decide +kernel
theorem dX6_check_5 : decode cX6_check 5 = .ok (.aload_n 0, 1) := by decide +kernel
theorem dX6_check_6 : decode cX6_check 6 = .ok (.iconst 0, 1) := by decide +kernel
theorem dX6_check_7 : decode cX6_check 7 = .ok (.putfield 59, 3) := by decide +kernel
theorem dX6_check_10 : decode cX6_check 10 = .ok (.iload_n 1, 1) := by decide +kernel
theorem dX6_check_11 : decode cX6_check 11 = .ok (.iconst 1, 1) := by decide +kernel
theorem dX6_check_12 : decode cX6_check 12 = .ok (.bipush 30, 2) := by decide +kernel
theorem dX6_check_14 : decode cX6_check 14 = .ok (.invokestatic 67, 3) := by decide +kernel
theorem dX6_check_17 : decode cX6_check 17 = .ok (.ifCond .ne 6, 3) := by decide +kernel
theorem dX6_check_20 : decode cX6_check 20 = .ok (.ldc 71, 2) := by decide +kernel
theorem dX6_check_22 : decode cX6_check 22 = .ok (.ireturn, 1) := by decide +kernel
theorem dX6_check_23 : decode cX6_check 23 = .ok (.aload_n 0, 1) := by decide +kernel
theorem dX6_check_24 : decode cX6_check 24 = .ok (.getfield 63, 3) := by decide +kernel
theorem dX6_check_27 : decode cX6_check 27 = .ok (.ifCond .ne 7, 3) := by decide +kernel
theorem dX6_check_30 : decode cX6_check 30 = .ok (.ldc_w 308, 3) := by decide +kernel
theorem dX6_check_33 : decode cX6_check 33 = .ok (.ireturn, 1) := by decide +kernel
theorem dX6_check_34 : decode cX6_check 34 = .ok (.aload_n 0, 1) := by decide +kernel
theorem dX6_check_35 : decode cX6_check 35 = .ok (.getfield 35, 3) := by decide +kernel
theorem dX6_check_38 : decode cX6_check 38 = .ok (.aload_n 0, 1) := by decide +kernel
theorem dX6_check_39 : decode cX6_check 39 = .ok (.getfield 32, 3) := by decide +kernel
theorem dX6_check_42 : decode cX6_check 42 = .ok (.invokevirtual 194, 3) := by decide +kernel
theorem dX6_check_45 : decode cX6_check 45 = .ok (.iconst 0, 1) := by decide +kernel
theorem dX6_check_46 : decode cX6_check 46 = .ok (.istore_n 3, 1) := by decide +kernel
theorem dX6_check_47 : decode cX6_check 47 = .ok (.iconst 0, 1) := by decide +kernel
theorem dX6_check_48 : decode cX6_check 48 = .ok (.istore 4, 2) := by decide +kernel
theorem dX6_check_50 : decode cX6_check 50 = .ok (.iload 4, 2) := by decide +kernel
theorem dX6_check_52 : decode cX6_check 52 = .ok (.iload_n 1, 1) := by decide +kernel
theorem dX6_check_53 : decode cX6_check 53 = .ok (.if_icmp .ge 75, 3) := by decide +kernel
theorem dX6_check_56 : decode cX6_check 56 = .ok (.aload_n 0, 1) := by decide +kernel
theorem dX6_check_57 : decode cX6_check 57 = .ok (.getfield 35, 3) := by decide +kernel
theorem dX6_check_60 : decode cX6_check 60 = .ok (.getfield 162, 3) := by decide +kernel
theorem dX6_check_63 : decode cX6_check 63 = .ok (.sipush 9999, 3) := by decide +kernel
theorem dX6_check_66 : decode cX6_check 66 = .ok (.if_icmp .ge 62, 3) := by decide +kernel
theorem dX6_check_69 : decode cX6_check 69 = .ok (.aload_n 0, 1) := by decide +kernel
theorem dX6_check_70 : decode cX6_check 70 = .ok (.getfield 35, 3) := by decide +kernel
theorem dX6_check_73 : decode cX6_check 73 = .ok (.invokevirtual 198, 3) := by decide +kernel
theorem dX6_check_76 : decode cX6_check 76 = .ok (.aload_n 0, 1) := by decide +kernel
theorem dX6_check_77 : decode cX6_check 77 = .ok (.iload_n 3, 1) := by decide +kernel
theorem dX6_check_78 : decode cX6_check 78 = .ok (.iload_n 2, 1) := by decide +kernel
theorem dX6_check_79 : decode cX6_check 79 = .ok (.aload_n 0, 1) := by decide +kernel
theorem dX6_check_80 : decode cX6_check 80 = .ok (.getfield 35, 3) := by decide +kernel
theorem dX6_check_83 : decode cX6_check 83 = .ok (.getfield 175, 3) := by decide +kernel
theorem dX6_check_86 : decode cX6_check 86 = .ok (.invokevirtual 309, 3) := by decide +kernel
theorem dX6_check_89 : decode cX6_check 89 = .ok (.ifCond .ne 7, 3) := by decide +kernel
theorem dX6_check_92 : decode cX6_check 92 = .ok (.iconst 1, 1) := by decide +kernel
theorem dX6_check_93 : decode cX6_check 93 = .ok (.iload_n 3, 1) := by decide +kernel
theorem dX6_check_94 : decode cX6_check 94 = .ok (.iadd, 1) := by decide +kernel
theorem dX6_check_95 : decode cX6_check 95 = .ok (.ireturn, 1) := by decide +kernel
theorem dX6_check_96 : decode cX6_check 96 = .ok (.iinc 3 1, 3) := by decide +kernel
theorem dX6_check_99 : decode cX6_check 99 = .ok (.aload_n 0, 1) := by decide +kernel
theorem dX6_check_100 : decode cX6_check 100 = .ok (.iload_n 3, 1) := by decide +kernel
theorem dX6_check_101 : decode cX6_check 101 = .ok (.iload_n 2, 1) := by decide +kernel
theorem dX6_check_102 : decode cX6_check 102 = .ok (.aload_n 0, 1) := by decide +kernel
theorem dX6_check_103 : decode cX6_check 103 = .ok (.getfield 35, 3) := by decide +kernel
theorem dX6_check_106 : decode cX6_check 106 = .ok (.invokevirtual 181, 3) := by decide +kernel
theorem dX6_check_109 : decode cX6_check 109 = .ok (.invokevirtual 309, 3) := by decide +kernel
theorem dX6_check_112 : decode cX6_check 112 = .ok (.ifCond .ne 7, 3) := by decide +kernel
theorem dX6_check_115 : decode cX6_check 115 = .ok (.iconst 1, 1) := by decide +kernel
theorem dX6_check_116 : decode cX6_check 116 = .ok (.iload_n 3, 1) := by decide +kernel
theorem dX6_check_117 : decode cX6_check 117 = .ok (.iadd, 1) := by decide +kernel
theorem dX6_check_118 : decode cX6_check 118 = .ok (.ireturn, 1) := by decide +kernel
theorem dX6_check_119 : decode cX6_check 119 = .ok (.iinc 3 1, 3) := by decide +kernel
theorem dX6_check_122 : decode cX6_check 122 = .ok (.iinc 4 1, 3) := by decide +kernel
theorem dX6_check_125 : decode cX6_check 125 = .ok (.goto (-75), 3) := by decide +kernel
theorem dX6_check_128 : decode cX6_check 128 = .ok (.iload_n 3, 1) := by decide +kernel
theorem dX6_check_129 : decode cX6_check 129 = .ok (.iload_n 2, 1) := by decide +kernel
theorem dX6_check_130 : decode cX6_check 130 = .ok (.if_icmp .ge 9, 3) := by decide +kernel
theorem dX6_check_133 : decode cX6_check 133 = .ok (.iconst 1, 1) := by decide +kernel
theorem dX6_check_134 : decode cX6_check 134 = .ok (.iload_n 3, 1) := by decide +kernel
theorem dX6_check_135 : decode cX6_check 135 = .ok (.iadd, 1) := by decide +kernel
theorem dX6_check_136 : decode cX6_check 136 = .ok (.goto 4, 3) := by decide +kernel
theorem dX6_check_139 : decode cX6_check 139 = .ok (.iconst 0, 1) := by decide +kernel
theorem dX6_check_140 : decode cX6_check 140 = .ok (.ireturn, 1) := by decide +kernel
theorem dX6_keep_0 : decode cX6_keep 0 = .ok (.aload_n 0, 1) := by decide +kernel
theorem dX6_keep_1 : decode cX6_keep 1 = .ok (.getfield 32, 3) := by decide +kernel
theorem dX6_keep_4 : decode cX6_keep 4 = .ok (.aload_n 0, 1) := by decide +kernel
theorem dX6_keep_5 : decode cX6_keep 5 = .ok (.getfield 28, 3) := by decide +kernel
theorem dX6_keep_8 : decode cX6_keep 8 = .ok (.invokevirtual 194, 3) := by decide +kernel
theorem dX6_keep_11 : decode cX6_keep 11 = .ok (.aload_n 0, 1) := by decide +kernel
theorem dX6_keep_12 : decode cX6_keep 12 = .ok (.iconst 1, 1) := by decide +kernel
theorem dX6_keep_13 : decode cX6_keep 13 = .ok (.putfield 63, 3) := by decide +kernel
theorem dX6_keep_16 : decode cX6_keep 16 = .ok (.aload_n 0, 1) := by decide +kernel
theorem dX6_keep_17 : decode cX6_keep 17 = .ok (.getfield 28, 3) := by decide +kernel
theorem dX6_keep_20 : decode cX6_keep 20 = .ok (.getfield 72, 3) := by decide +kernel
theorem dX6_keep_23 : decode cX6_keep 23 = .ok (.ireturn, 1) := by decide +kernel
theorem dX6_back_0 : decode cX6_back 0 = .ok (.aload_n 0, 1) := by decide +kernel
theorem dX6_back_1 : decode cX6_back 1 = .ok (.getfield 63, 3) := by decide +kernel
theorem dX6_back_4 : decode cX6_back 4 = .ok (.ifCond .ne 7, 3) := by decide +kernel
theorem dX6_back_7 : decode cX6_back 7 = .ok (.ldc_w 308, 3) := by decide +kernel
theorem dX6_back_10 : decode cX6_back 10 = .ok (.ireturn, 1) := by decide +kernel
theorem dX6_back_11 : decode cX6_back 11 = .ok (.aload_n 0, 1) := by decide +kernel
theorem dX6_back_12 : decode cX6_back 12 = .ok (.getfield 28, 3) := by decide +kernel
theorem dX6_back_15 : decode cX6_back 15 = .ok (.aload_n 0, 1) := by decide +kernel
theorem dX6_back_16 : decode cX6_back 16 = .ok (.getfield 32, 3) := by decide +kernel
theorem dX6_back_19 : decode cX6_back 19 = .ok (.invokevirtual 194, 3) := by decide +kernel
theorem dX6_back_22 : decode cX6_back 22 = .ok (.aload_n 0, 1) := by decide +kernel
theorem dX6_back_23 : decode cX6_back 23 = .ok (.getfield 28, 3) := by decide +kernel
theorem dX6_back_26 : decode cX6_back 26 = .ok (.getfield 72, 3) := by decide +kernel
theorem dX6_back_29 : decode cX6_back 29 = .ok (.ireturn, 1) := by decide +kernel
theorem dX6_count_0 : decode cX6_count 0 = .ok (.iload_n 1, 1) := by decide +kernel
theorem dX6_count_1 : decode cX6_count 1 = .ok (.tableswitch 132 0 9 #[55, 63, 71, 79, 87, 95, 103, 111, 116, 124], 55) := by decide +kernel
theorem dX6_count_56 : decode cX6_count 56 = .ok (.aload_n 0, 1) := by decide +kernel
theorem dX6_count_57 : decode cX6_count 57 = .ok (.getfield 28, 3) := by decide +kernel
theorem dX6_count_60 : decode cX6_count 60 = .ok (.getfield 72, 3) := by decide +kernel
theorem dX6_count_63 : decode cX6_count 63 = .ok (.ireturn, 1) := by decide +kernel
theorem dX6_count_64 : decode cX6_count 64 = .ok (.aload_n 0, 1) := by decide +kernel
theorem dX6_count_65 : decode cX6_count 65 = .ok (.getfield 28, 3) := by decide +kernel
theorem dX6_count_68 : decode cX6_count 68 = .ok (.getfield 162, 3) := by decide +kernel
theorem dX6_count_71 : decode cX6_count 71 = .ok (.ireturn, 1) := by decide +kernel
theorem dX6_count_72 : decode cX6_count 72 = .ok (.aload_n 0, 1) := by decide +kernel
theorem dX6_count_73 : decode cX6_count 73 = .ok (.getfield 28, 3) := by decide +kernel
theorem dX6_count_76 : decode cX6_count 76 = .ok (.getfield 145, 3) := by decide +kernel
theorem dX6_count_79 : decode cX6_count 79 = .ok (.ireturn, 1) := by decide +kernel
theorem dX6_count_80 : decode cX6_count 80 = .ok (.aload_n 0, 1) := by decide +kernel
theorem dX6_count_81 : decode cX6_count 81 = .ok (.getfield 28, 3) := by decide +kernel
theorem dX6_count_84 : decode cX6_count 84 = .ok (.getfield 136, 3) := by decide +kernel
theorem dX6_count_87 : decode cX6_count 87 = .ok (.ireturn, 1) := by decide +kernel
theorem dX6_count_88 : decode cX6_count 88 = .ok (.aload_n 0, 1) := by decide +kernel
theorem dX6_count_89 : decode cX6_count 89 = .ok (.getfield 28, 3) := by decide +kernel
theorem dX6_count_92 : decode cX6_count 92 = .ok (.getfield 139, 3) := by decide +kernel
theorem dX6_count_95 : decode cX6_count 95 = .ok (.ireturn, 1) := by decide +kernel
theorem dX6_count_96 : decode cX6_count 96 = .ok (.aload_n 0, 1) := by decide +kernel
theorem dX6_count_97 : decode cX6_count 97 = .ok (.getfield 28, 3) := by decide +kernel
theorem dX6_count_100 : decode cX6_count 100 = .ok (.getfield 142, 3) := by decide +kernel
theorem dX6_count_103 : decode cX6_count 103 = .ok (.ireturn, 1) := by decide +kernel
theorem dX6_count_104 : decode cX6_count 104 = .ok (.aload_n 0, 1) := by decide +kernel
theorem dX6_count_105 : decode cX6_count 105 = .ok (.getfield 28, 3) := by decide +kernel
theorem dX6_count_108 : decode cX6_count 108 = .ok (.getfield 216, 3) := by decide +kernel
theorem dX6_count_111 : decode cX6_count 111 = .ok (.ireturn, 1) := by decide +kernel
theorem dX6_count_112 : decode cX6_count 112 = .ok (.aload_n 0, 1) := by decide +kernel
theorem dX6_count_113 : decode cX6_count 113 = .ok (.getfield 59, 3) := by decide +kernel
theorem dX6_count_116 : decode cX6_count 116 = .ok (.ireturn, 1) := by decide +kernel
theorem dX6_count_117 : decode cX6_count 117 = .ok (.aload_n 0, 1) := by decide +kernel
theorem dX6_count_118 : decode cX6_count 118 = .ok (.getfield 19, 3) := by decide +kernel
theorem dX6_count_121 : decode cX6_count 121 = .ok (.getfield 226, 3) := by decide +kernel
theorem dX6_count_124 : decode cX6_count 124 = .ok (.ireturn, 1) := by decide +kernel
theorem dX6_count_125 : decode cX6_count 125 = .ok (.aload_n 0, 1) := by decide +kernel
theorem dX6_count_126 : decode cX6_count 126 = .ok (.getfield 28, 3) := by decide +kernel
theorem dX6_count_129 : decode cX6_count 129 = .ok (.getfield 159, 3) := by decide +kernel
theorem dX6_count_132 : decode cX6_count 132 = .ok (.ireturn, 1) := by decide +kernel
theorem dX6_count_133 : decode cX6_count 133 = .ok (.ldc 71, 2) := by decide +kernel
theorem dX6_count_135 : decode cX6_count 135 = .ok (.ireturn, 1) := by decide +kernel
theorem dX6_isTold_0 : decode cX6_isTold 0 = .ok (.iload_n 1, 1) := by decide +kernel
theorem dX6_isTold_1 : decode cX6_isTold 1 = .ok (.iload_n 2, 1) := by decide +kernel
theorem dX6_isTold_2 : decode cX6_isTold 2 = .ok (.if_icmp .ge 23, 3) := by decide +kernel
theorem dX6_isTold_5 : decode cX6_isTold 5 = .ok (.iload_n 1, 1) := by decide +kernel
theorem dX6_isTold_6 : decode cX6_isTold 6 = .ok (.bipush 60, 2) := by decide +kernel
theorem dX6_isTold_8 : decode cX6_isTold 8 = .ok (.if_icmp .ge 17, 3) := by decide +kernel
theorem dX6_isTold_11 : decode cX6_isTold 11 = .ok (.aload_n 0, 1) := by decide +kernel
theorem dX6_isTold_12 : decode cX6_isTold 12 = .ok (.getfield 52, 3) := by decide +kernel
theorem dX6_isTold_15 : decode cX6_isTold 15 = .ok (.iload_n 1, 1) := by decide +kernel
theorem dX6_isTold_16 : decode cX6_isTold 16 = .ok (.iaload, 1) := by decide +kernel
theorem dX6_isTold_17 : decode cX6_isTold 17 = .ok (.iload_n 3, 1) := by decide +kernel
theorem dX6_isTold_18 : decode cX6_isTold 18 = .ok (.if_icmp .ne 7, 3) := by decide +kernel
theorem dX6_isTold_21 : decode cX6_isTold 21 = .ok (.iconst 1, 1) := by decide +kernel
theorem dX6_isTold_22 : decode cX6_isTold 22 = .ok (.goto 4, 3) := by decide +kernel
theorem dX6_isTold_25 : decode cX6_isTold 25 = .ok (.iconst 0, 1) := by decide +kernel
theorem dX6_isTold_26 : decode cX6_isTold 26 = .ok (.ireturn, 1) := by decide +kernel
theorem dX6_waysWithOneMore_0 : decode cX6_waysWithOneMore 0 = .ok (.iconst 0, 1) := by decide +kernel
theorem dX6_waysWithOneMore_1 : decode cX6_waysWithOneMore 1 = .ok (.istore_n 3, 1) := by decide +kernel
theorem dX6_waysWithOneMore_2 : decode cX6_waysWithOneMore 2 = .ok (.iconst 0, 1) := by decide +kernel
theorem dX6_waysWithOneMore_3 : decode cX6_waysWithOneMore 3 = .ok (.istore 4, 2) := by decide +kernel
theorem dX6_waysWithOneMore_5 : decode cX6_waysWithOneMore 5 = .ok (.iload 4, 2) := by decide +kernel
theorem dX6_waysWithOneMore_7 : decode cX6_waysWithOneMore 7 = .ok (.iload_n 1, 1) := by decide +kernel
theorem dX6_waysWithOneMore_8 : decode cX6_waysWithOneMore 8 = .ok (.if_icmp .gt 31, 3) := by decide +kernel
theorem dX6_waysWithOneMore_11 : decode cX6_waysWithOneMore 11 = .ok (.iload 4, 2) := by decide +kernel
theorem dX6_waysWithOneMore_13 : decode cX6_waysWithOneMore 13 = .ok (.iconst 3, 1) := by decide +kernel
theorem dX6_waysWithOneMore_14 : decode cX6_waysWithOneMore 14 = .ok (.imul, 1) := by decide +kernel
theorem dX6_waysWithOneMore_15 : decode cX6_waysWithOneMore 15 = .ok (.iload_n 2, 1) := by decide +kernel
theorem dX6_waysWithOneMore_16 : decode cX6_waysWithOneMore 16 = .ok (.iconst 2, 1) := by decide +kernel
theorem dX6_waysWithOneMore_17 : decode cX6_waysWithOneMore 17 = .ok (.imul, 1) := by decide +kernel
theorem dX6_waysWithOneMore_18 : decode cX6_waysWithOneMore 18 = .ok (.if_icmp .ge 21, 3) := by decide +kernel
theorem dX6_waysWithOneMore_21 : decode cX6_waysWithOneMore 21 = .ok (.iload_n 3, 1) := by decide +kernel
theorem dX6_waysWithOneMore_22 : decode cX6_waysWithOneMore 22 = .ok (.aload_n 0, 1) := by decide +kernel
theorem dX6_waysWithOneMore_23 : decode cX6_waysWithOneMore 23 = .ok (.getfield 56, 3) := by decide +kernel
theorem dX6_waysWithOneMore_26 : decode cX6_waysWithOneMore 26 = .ok (.iload_n 1, 1) := by decide +kernel
theorem dX6_waysWithOneMore_27 : decode cX6_waysWithOneMore 27 = .ok (.iload 4, 2) := by decide +kernel
theorem dX6_waysWithOneMore_29 : decode cX6_waysWithOneMore 29 = .ok (.isub, 1) := by decide +kernel
theorem dX6_waysWithOneMore_30 : decode cX6_waysWithOneMore 30 = .ok (.iaload, 1) := by decide +kernel
theorem dX6_waysWithOneMore_31 : decode cX6_waysWithOneMore 31 = .ok (.iadd, 1) := by decide +kernel
theorem dX6_waysWithOneMore_32 : decode cX6_waysWithOneMore 32 = .ok (.istore_n 3, 1) := by decide +kernel
theorem dX6_waysWithOneMore_33 : decode cX6_waysWithOneMore 33 = .ok (.iinc 4 1, 3) := by decide +kernel
theorem dX6_waysWithOneMore_36 : decode cX6_waysWithOneMore 36 = .ok (.goto (-31), 3) := by decide +kernel
theorem dX6_waysWithOneMore_39 : decode cX6_waysWithOneMore 39 = .ok (.iload_n 3, 1) := by decide +kernel
theorem dX6_waysWithOneMore_40 : decode cX6_waysWithOneMore 40 = .ok (.ireturn, 1) := by decide +kernel
theorem dX6_differenceWith_0 : decode cX6_differenceWith 0 = .ok (.aload_n 0, 1) := by decide +kernel
theorem dX6_differenceWith_1 : decode cX6_differenceWith 1 = .ok (.getfield 35, 3) := by decide +kernel
theorem dX6_differenceWith_4 : decode cX6_differenceWith 4 = .ok (.aload_n 0, 1) := by decide +kernel
theorem dX6_differenceWith_5 : decode cX6_differenceWith 5 = .ok (.getfield 28, 3) := by decide +kernel
theorem dX6_differenceWith_8 : decode cX6_differenceWith 8 = .ok (.invokevirtual 194, 3) := by decide +kernel
theorem dX6_differenceWith_11 : decode cX6_differenceWith 11 = .ok (.aload_n 0, 1) := by decide +kernel
theorem dX6_differenceWith_12 : decode cX6_differenceWith 12 = .ok (.getfield 35, 3) := by decide +kernel
theorem dX6_differenceWith_15 : decode cX6_differenceWith 15 = .ok (.iload_n 1, 1) := by decide +kernel
theorem dX6_differenceWith_16 : decode cX6_differenceWith 16 = .ok (.putfield 142, 3) := by decide +kernel
theorem dX6_differenceWith_19 : decode cX6_differenceWith 19 = .ok (.iconst 0, 1) := by decide +kernel
theorem dX6_differenceWith_20 : decode cX6_differenceWith 20 = .ok (.istore_n 3, 1) := by decide +kernel
theorem dX6_differenceWith_21 : decode cX6_differenceWith 21 = .ok (.iconst 0, 1) := by decide +kernel
theorem dX6_differenceWith_22 : decode cX6_differenceWith 22 = .ok (.istore 4, 2) := by decide +kernel
theorem dX6_differenceWith_24 : decode cX6_differenceWith 24 = .ok (.iload 4, 2) := by decide +kernel
theorem dX6_differenceWith_26 : decode cX6_differenceWith 26 = .ok (.aload_n 2, 1) := by decide +kernel
theorem dX6_differenceWith_27 : decode cX6_differenceWith 27 = .ok (.getfield 268, 3) := by decide +kernel
theorem dX6_differenceWith_30 : decode cX6_differenceWith 30 = .ok (.if_icmp .ge 46, 3) := by decide +kernel
theorem dX6_differenceWith_33 : decode cX6_differenceWith 33 = .ok (.aload_n 0, 1) := by decide +kernel
theorem dX6_differenceWith_34 : decode cX6_differenceWith 34 = .ok (.getfield 35, 3) := by decide +kernel
theorem dX6_differenceWith_37 : decode cX6_differenceWith 37 = .ok (.invokevirtual 198, 3) := by decide +kernel
theorem dX6_differenceWith_40 : decode cX6_differenceWith 40 = .ok (.aload_n 2, 1) := by decide +kernel
theorem dX6_differenceWith_41 : decode cX6_differenceWith 41 = .ok (.iload 4, 2) := by decide +kernel
theorem dX6_differenceWith_43 : decode cX6_differenceWith 43 = .ok (.invokevirtual 271, 3) := by decide +kernel
theorem dX6_differenceWith_46 : decode cX6_differenceWith 46 = .ok (.ifCond .eq 24, 3) := by decide +kernel
theorem dX6_differenceWith_49 : decode cX6_differenceWith 49 = .ok (.iload_n 3, 1) := by decide +kernel
theorem dX6_differenceWith_50 : decode cX6_differenceWith 50 = .ok (.aload_n 0, 1) := by decide +kernel
theorem dX6_differenceWith_51 : decode cX6_differenceWith 51 = .ok (.getfield 35, 3) := by decide +kernel
theorem dX6_differenceWith_54 : decode cX6_differenceWith 54 = .ok (.getfield 175, 3) := by decide +kernel
theorem dX6_differenceWith_57 : decode cX6_differenceWith 57 = .ok (.aload_n 2, 1) := by decide +kernel
theorem dX6_differenceWith_58 : decode cX6_differenceWith 58 = .ok (.getfield 263, 3) := by decide +kernel
theorem dX6_differenceWith_61 : decode cX6_differenceWith 61 = .ok (.iload 4, 2) := by decide +kernel
theorem dX6_differenceWith_63 : decode cX6_differenceWith 63 = .ok (.iaload, 1) := by decide +kernel
theorem dX6_differenceWith_64 : decode cX6_differenceWith 64 = .ok (.isub, 1) := by decide +kernel
theorem dX6_differenceWith_65 : decode cX6_differenceWith 65 = .ok (.invokestatic 312, 3) := by decide +kernel
theorem dX6_differenceWith_68 : decode cX6_differenceWith 68 = .ok (.iadd, 1) := by decide +kernel
theorem dX6_differenceWith_69 : decode cX6_differenceWith 69 = .ok (.istore_n 3, 1) := by decide +kernel
theorem dX6_differenceWith_70 : decode cX6_differenceWith 70 = .ok (.iinc 4 1, 3) := by decide +kernel
theorem dX6_differenceWith_73 : decode cX6_differenceWith 73 = .ok (.goto (-49), 3) := by decide +kernel
theorem dX6_differenceWith_76 : decode cX6_differenceWith 76 = .ok (.iload_n 3, 1) := by decide +kernel
theorem dX6_differenceWith_77 : decode cX6_differenceWith 77 = .ok (.ireturn, 1) := by decide +kernel
theorem dX6_put_0 : decode cX6_put 0 = .ok (.iload_n 2, 1) := by decide +kernel
theorem dX6_put_1 : decode cX6_put 1 = .ok (.iconst 0, 1) := by decide +kernel
theorem dX6_put_2 : decode cX6_put 2 = .ok (.iload_n 3, 1) := by decide +kernel
theorem dX6_put_3 : decode cX6_put 3 = .ok (.invokestatic 67, 3) := by decide +kernel
theorem dX6_put_6 : decode cX6_put 6 = .ok (.ifCond .ne 6, 3) := by decide +kernel
theorem dX6_put_9 : decode cX6_put 9 = .ok (.ldc 71, 2) := by decide +kernel
theorem dX6_put_11 : decode cX6_put 11 = .ok (.ireturn, 1) := by decide +kernel
theorem dX6_put_12 : decode cX6_put 12 = .ok (.aload_n 0, 1) := by decide +kernel
theorem dX6_put_13 : decode cX6_put 13 = .ok (.iload_n 1, 1) := by decide +kernel
theorem dX6_put_14 : decode cX6_put 14 = .ok (.iaload, 1) := by decide +kernel
theorem dX6_put_15 : decode cX6_put 15 = .ok (.istore 4, 2) := by decide +kernel
theorem dX6_put_17 : decode cX6_put 17 = .ok (.aload_n 0, 1) := by decide +kernel
theorem dX6_put_18 : decode cX6_put 18 = .ok (.iload_n 1, 1) := by decide +kernel
theorem dX6_put_19 : decode cX6_put 19 = .ok (.iload_n 2, 1) := by decide +kernel
theorem dX6_put_20 : decode cX6_put 20 = .ok (.iastore, 1) := by decide +kernel
theorem dX6_put_21 : decode cX6_put 21 = .ok (.iload 4, 2) := by decide +kernel
theorem dX6_put_23 : decode cX6_put 23 = .ok (.ireturn, 1) := by decide +kernel
theorem dX6_isWithin_0 : decode cX6_isWithin 0 = .ok (.iload_n 0, 1) := by decide +kernel
theorem dX6_isWithin_1 : decode cX6_isWithin 1 = .ok (.iload_n 1, 1) := by decide +kernel
theorem dX6_isWithin_2 : decode cX6_isWithin 2 = .ok (.if_icmp .lt 12, 3) := by decide +kernel
theorem dX6_isWithin_5 : decode cX6_isWithin 5 = .ok (.iload_n 0, 1) := by decide +kernel
theorem dX6_isWithin_6 : decode cX6_isWithin 6 = .ok (.iload_n 2, 1) := by decide +kernel
theorem dX6_isWithin_7 : decode cX6_isWithin 7 = .ok (.if_icmp .gt 7, 3) := by decide +kernel
theorem dX6_isWithin_10 : decode cX6_isWithin 10 = .ok (.iconst 1, 1) := by decide +kernel
theorem dX6_isWithin_11 : decode cX6_isWithin 11 = .ok (.goto 4, 3) := by decide +kernel
theorem dX6_isWithin_14 : decode cX6_isWithin 14 = .ok (.iconst 0, 1) := by decide +kernel
theorem dX6_isWithin_15 : decode cX6_isWithin 15 = .ok (.ireturn, 1) := by decide +kernel
theorem dX6_held_0 : decode cX6_held 0 = .ok (.iload_n 1, 1) := by decide +kernel
theorem dX6_held_1 : decode cX6_held 1 = .ok (.iload_n 2, 1) := by decide +kernel
theorem dX6_held_2 : decode cX6_held 2 = .ok (.iload_n 0, 1) := by decide +kernel
theorem dX6_held_3 : decode cX6_held 3 = .ok (.invokestatic 151, 3) := by decide +kernel
theorem dX6_held_6 : decode cX6_held 6 = .ok (.invokestatic 315, 3) := by decide +kernel
theorem dX6_held_9 : decode cX6_held 9 = .ok (.ireturn, 1) := by decide +kernel
theorem dX6_isSheet_0 : decode cX6_isSheet 0 = .ok (.iload_n 0, 1) := by decide +kernel
theorem dX6_isSheet_1 : decode cX6_isSheet 1 = .ok (.iconst 0, 1) := by decide +kernel
theorem dX6_isSheet_2 : decode cX6_isSheet 2 = .ok (.iconst 3, 1) := by decide +kernel
theorem dX6_isSheet_3 : decode cX6_isSheet 3 = .ok (.invokestatic 67, 3) := by decide +kernel
theorem dX6_isSheet_6 : decode cX6_isSheet 6 = .ok (.ireturn, 1) := by decide +kernel
theorem dX6_isSlot_0 : decode cX6_isSlot 0 = .ok (.iload_n 0, 1) := by decide +kernel
theorem dX6_isSlot_1 : decode cX6_isSlot 1 = .ok (.iconst 0, 1) := by decide +kernel
theorem dX6_isSlot_2 : decode cX6_isSlot 2 = .ok (.iconst 4, 1) := by decide +kernel
theorem dX6_isSlot_3 : decode cX6_isSlot 3 = .ok (.invokestatic 67, 3) := by decide +kernel
theorem dX6_isSlot_6 : decode cX6_isSlot 6 = .ok (.ireturn, 1) := by decide +kernel
theorem dX6_isOfKind_0 : decode cX6_isOfKind 0 = .ok (.iload_n 0, 1) := by decide +kernel
theorem dX6_isOfKind_1 : decode cX6_isOfKind 1 = .ok (.istore_n 2, 1) := by decide +kernel
theorem dX6_isOfKind_2 : decode cX6_isOfKind 2 = .ok (.iconst 0, 1) := by decide +kernel
theorem dX6_isOfKind_3 : decode cX6_isOfKind 3 = .ok (.istore_n 3, 1) := by decide +kernel
theorem dX6_isOfKind_4 : decode cX6_isOfKind 4 = .ok (.iload_n 3, 1) := by decide +kernel
theorem dX6_isOfKind_5 : decode cX6_isOfKind 5 = .ok (.bipush 6, 2) := by decide +kernel
theorem dX6_isOfKind_7 : decode cX6_isOfKind 7 = .ok (.if_icmp .ge 31, 3) := by decide +kernel
theorem dX6_isOfKind_10 : decode cX6_isOfKind 10 = .ok (.iload_n 2, 1) := by decide +kernel
theorem dX6_isOfKind_11 : decode cX6_isOfKind 11 = .ok (.iconst 0, 1) := by decide +kernel
theorem dX6_isOfKind_12 : decode cX6_isOfKind 12 = .ok (.iconst 5, 1) := by decide +kernel
theorem dX6_isOfKind_13 : decode cX6_isOfKind 13 = .ok (.invokestatic 67, 3) := by decide +kernel
theorem dX6_isOfKind_16 : decode cX6_isOfKind 16 = .ok (.ifCond .eq 22, 3) := by decide +kernel
theorem dX6_isOfKind_19 : decode cX6_isOfKind 19 = .ok (.iload_n 2, 1) := by decide +kernel
theorem dX6_isOfKind_20 : decode cX6_isOfKind 20 = .ok (.iload_n 1, 1) := by decide +kernel
theorem dX6_isOfKind_21 : decode cX6_isOfKind 21 = .ok (.if_icmp .ne 5, 3) := by decide +kernel
theorem dX6_isOfKind_24 : decode cX6_isOfKind 24 = .ok (.iconst 1, 1) := by decide +kernel
theorem dX6_isOfKind_25 : decode cX6_isOfKind 25 = .ok (.ireturn, 1) := by decide +kernel
theorem dX6_isOfKind_26 : decode cX6_isOfKind 26 = .ok (.getstatic 318, 3) := by decide +kernel
theorem dX6_isOfKind_29 : decode cX6_isOfKind 29 = .ok (.iload_n 2, 1) := by decide +kernel
theorem dX6_isOfKind_30 : decode cX6_isOfKind 30 = .ok (.iaload, 1) := by decide +kernel
theorem dX6_isOfKind_31 : decode cX6_isOfKind 31 = .ok (.istore_n 2, 1) := by decide +kernel
theorem dX6_isOfKind_32 : decode cX6_isOfKind 32 = .ok (.iinc 3 1, 3) := by decide +kernel
theorem dX6_isOfKind_35 : decode cX6_isOfKind 35 = .ok (.goto (-31), 3) := by decide +kernel
theorem dX6_isOfKind_38 : decode cX6_isOfKind 38 = .ok (.iconst 0, 1) := by decide +kernel
theorem dX6_isOfKind_39 : decode cX6_isOfKind 39 = .ok (.ireturn, 1) := by decide +kernel
theorem dX6_weight_0 : decode cX6_weight 0 = .ok (.iload_n 0, 1) := by decide +kernel
theorem dX6_weight_1 : decode cX6_weight 1 = .ok (.iconst 5, 1) := by decide +kernel
theorem dX6_weight_2 : decode cX6_weight 2 = .ok (.if_icmp .ne 7, 3) := by decide +kernel
theorem dX6_weight_5 : decode cX6_weight 5 = .ok (.iconst 2, 1) := by decide +kernel
theorem dX6_weight_6 : decode cX6_weight 6 = .ok (.goto 4, 3) := by decide +kernel
theorem dX6_weight_9 : decode cX6_weight 9 = .ok (.iconst 1, 1) := by decide +kernel
theorem dX6_weight_10 : decode cX6_weight 10 = .ok (.ireturn, 1) := by decide +kernel
theorem dX6_worth_0 : decode cX6_worth 0 = .ok (.iload_n 0, 1) := by decide +kernel
theorem dX6_worth_1 : decode cX6_worth 1 = .ok (.tableswitch 62 1 5 #[35, 47, 40, 52, 60], 35) := by decide +kernel
theorem dX6_worth_36 : decode cX6_worth 36 = .ok (.iload_n 1, 1) := by decide +kernel
theorem dX6_worth_37 : decode cX6_worth 37 = .ok (.bipush 6, 2) := by decide +kernel
theorem dX6_worth_39 : decode cX6_worth 39 = .ok (.iadd, 1) := by decide +kernel
theorem dX6_worth_40 : decode cX6_worth 40 = .ok (.ireturn, 1) := by decide +kernel
theorem dX6_worth_41 : decode cX6_worth 41 = .ok (.iconst 2, 1) := by decide +kernel
theorem dX6_worth_42 : decode cX6_worth 42 = .ok (.iload_n 1, 1) := by decide +kernel
theorem dX6_worth_43 : decode cX6_worth 43 = .ok (.bipush 6, 2) := by decide +kernel
theorem dX6_worth_45 : decode cX6_worth 45 = .ok (.iadd, 1) := by decide +kernel
theorem dX6_worth_46 : decode cX6_worth 46 = .ok (.imul, 1) := by decide +kernel
theorem dX6_worth_47 : decode cX6_worth 47 = .ok (.ireturn, 1) := by decide +kernel
theorem dX6_worth_48 : decode cX6_worth 48 = .ok (.bipush 99, 2) := by decide +kernel
theorem dX6_worth_50 : decode cX6_worth 50 = .ok (.iload_n 1, 1) := by decide +kernel
theorem dX6_worth_51 : decode cX6_worth 51 = .ok (.isub, 1) := by decide +kernel
theorem dX6_worth_52 : decode cX6_worth 52 = .ok (.ireturn, 1) := by decide +kernel
theorem dX6_worth_53 : decode cX6_worth 53 = .ok (.bipush 99, 2) := by decide +kernel
theorem dX6_worth_55 : decode cX6_worth 55 = .ok (.iload_n 1, 1) := by decide +kernel
theorem dX6_worth_56 : decode cX6_worth 56 = .ok (.isub, 1) := by decide +kernel
theorem dX6_worth_57 : decode cX6_worth 57 = .ok (.bipush 8, 2) := by decide +kernel
theorem dX6_worth_59 : decode cX6_worth 59 = .ok (.isub, 1) := by decide +kernel
theorem dX6_worth_60 : decode cX6_worth 60 = .ok (.ireturn, 1) := by decide +kernel
theorem dX6_worth_61 : decode cX6_worth 61 = .ok (.iconst 2, 1) := by decide +kernel
theorem dX6_worth_62 : decode cX6_worth 62 = .ok (.ireturn, 1) := by decide +kernel
theorem dX6_worth_63 : decode cX6_worth 63 = .ok (.iload_n 1, 1) := by decide +kernel
theorem dX6_worth_64 : decode cX6_worth 64 = .ok (.ireturn, 1) := by decide +kernel
theorem dJ11_isValidCodePoint_9a6ad_0 : decode cJ11_isValidCodePoint_9a6ad 0 = .ok (.iload_n 0, 1) := by decide +kernel
theorem dJ11_isValidCodePoint_9a6ad_1 : decode cJ11_isValidCodePoint_9a6ad 1 = .ok (.bipush 16, 2) := by decide +kernel
theorem dJ11_isValidCodePoint_9a6ad_3 : decode cJ11_isValidCodePoint_9a6ad 3 = .ok (.iushr, 1) := by decide +kernel
theorem dJ11_isValidCodePoint_9a6ad_4 : decode cJ11_isValidCodePoint_9a6ad 4 = .ok (.istore_n 1, 1) := by decide +kernel
theorem dJ11_isValidCodePoint_9a6ad_5 : decode cJ11_isValidCodePoint_9a6ad 5 = .ok (.iload_n 1, 1) := by decide +kernel
theorem dJ11_isValidCodePoint_9a6ad_6 : decode cJ11_isValidCodePoint_9a6ad 6 = .ok (.bipush 17, 2) := by decide +kernel
theorem dJ11_isValidCodePoint_9a6ad_8 : decode cJ11_isValidCodePoint_9a6ad 8 = .ok (.if_icmp .ge 7, 3) := by decide +kernel
theorem dJ11_isValidCodePoint_9a6ad_11 : decode cJ11_isValidCodePoint_9a6ad 11 = .ok (.iconst 1, 1) := by decide +kernel
theorem dJ11_isValidCodePoint_9a6ad_12 : decode cJ11_isValidCodePoint_9a6ad 12 = .ok (.goto 4, 3) := by decide +kernel
theorem dJ11_isValidCodePoint_9a6ad_15 : decode cJ11_isValidCodePoint_9a6ad 15 = .ok (.iconst 0, 1) := by decide +kernel
theorem dJ11_isValidCodePoint_9a6ad_16 : decode cJ11_isValidCodePoint_9a6ad 16 = .ok (.ireturn, 1) := by decide +kernel
theorem dJ11_highSurrogate_5068e_0 : decode cJ11_highSurrogate_5068e 0 = .ok (.iload_n 0, 1) := by decide +kernel
theorem dJ11_highSurrogate_5068e_1 : decode cJ11_highSurrogate_5068e 1 = .ok (.bipush 10, 2) := by decide +kernel
theorem dJ11_highSurrogate_5068e_3 : decode cJ11_highSurrogate_5068e 3 = .ok (.iushr, 1) := by decide +kernel
theorem dJ11_highSurrogate_5068e_4 : decode cJ11_highSurrogate_5068e 4 = .ok (.ldc 110, 2) := by decide +kernel
theorem dJ11_highSurrogate_5068e_6 : decode cJ11_highSurrogate_5068e 6 = .ok (.iadd, 1) := by decide +kernel
theorem dJ11_highSurrogate_5068e_7 : decode cJ11_highSurrogate_5068e 7 = .ok (.i2c, 1) := by decide +kernel
theorem dJ11_highSurrogate_5068e_8 : decode cJ11_highSurrogate_5068e 8 = .ok (.ireturn, 1) := by decide +kernel
theorem dJ11_lowSurrogate_5068e_0 : decode cJ11_lowSurrogate_5068e 0 = .ok (.iload_n 0, 1) := by decide +kernel
theorem dJ11_lowSurrogate_5068e_1 : decode cJ11_lowSurrogate_5068e 1 = .ok (.sipush 1023, 3) := by decide +kernel
theorem dJ11_lowSurrogate_5068e_4 : decode cJ11_lowSurrogate_5068e 4 = .ok (.iand, 1) := by decide +kernel
theorem dJ11_lowSurrogate_5068e_5 : decode cJ11_lowSurrogate_5068e 5 = .ok (.ldc 76, 2) := by decide +kernel
theorem dJ11_lowSurrogate_5068e_7 : decode cJ11_lowSurrogate_5068e 7 = .ok (.iadd, 1) := by decide +kernel
theorem dJ11_lowSurrogate_5068e_8 : decode cJ11_lowSurrogate_5068e 8 = .ok (.i2c, 1) := by decide +kernel
theorem dJ11_lowSurrogate_5068e_9 : decode cJ11_lowSurrogate_5068e 9 = .ok (.ireturn, 1) := by decide +kernel
theorem dJ9_abs_0f7a4_0 : decode cJ9_abs_0f7a4 0 = .ok (.iload_n 0, 1) := by decide +kernel
theorem dJ9_abs_0f7a4_1 : decode cJ9_abs_0f7a4 1 = .ok (.ifCond .ge 8, 3) := by decide +kernel
theorem dJ9_abs_0f7a4_4 : decode cJ9_abs_0f7a4 4 = .ok (.iload_n 0, 1) := by decide +kernel
theorem dJ9_abs_0f7a4_5 : decode cJ9_abs_0f7a4 5 = .ok (.ineg, 1) := by decide +kernel
theorem dJ9_abs_0f7a4_6 : decode cJ9_abs_0f7a4 6 = .ok (.goto 4, 3) := by decide +kernel
theorem dJ9_abs_0f7a4_9 : decode cJ9_abs_0f7a4 9 = .ok (.iload_n 0, 1) := by decide +kernel
theorem dJ9_abs_0f7a4_10 : decode cJ9_abs_0f7a4 10 = .ok (.ireturn, 1) := by decide +kernel
theorem dJ9_max_7cf53_0 : decode cJ9_max_7cf53 0 = .ok (.iload_n 0, 1) := by decide +kernel
theorem dJ9_max_7cf53_1 : decode cJ9_max_7cf53 1 = .ok (.iload_n 1, 1) := by decide +kernel
theorem dJ9_max_7cf53_2 : decode cJ9_max_7cf53 2 = .ok (.if_icmp .lt 7, 3) := by decide +kernel
theorem dJ9_max_7cf53_5 : decode cJ9_max_7cf53 5 = .ok (.iload_n 0, 1) := by decide +kernel
theorem dJ9_max_7cf53_6 : decode cJ9_max_7cf53 6 = .ok (.goto 4, 3) := by decide +kernel
theorem dJ9_max_7cf53_9 : decode cJ9_max_7cf53 9 = .ok (.iload_n 1, 1) := by decide +kernel
theorem dJ9_max_7cf53_10 : decode cJ9_max_7cf53 10 = .ok (.ireturn, 1) := by decide +kernel
theorem dJ9_min_7cf53_0 : decode cJ9_min_7cf53 0 = .ok (.iload_n 0, 1) := by decide +kernel
theorem dJ9_min_7cf53_1 : decode cJ9_min_7cf53 1 = .ok (.iload_n 1, 1) := by decide +kernel
theorem dJ9_min_7cf53_2 : decode cJ9_min_7cf53 2 = .ok (.if_icmp .gt 7, 3) := by decide +kernel
theorem dJ9_min_7cf53_5 : decode cJ9_min_7cf53 5 = .ok (.iload_n 0, 1) := by decide +kernel
theorem dJ9_min_7cf53_6 : decode cJ9_min_7cf53 6 = .ok (.goto 4, 3) := by decide +kernel
theorem dJ9_min_7cf53_9 : decode cJ9_min_7cf53 9 = .ok (.iload_n 1, 1) := by decide +kernel
theorem dJ9_min_7cf53_10 : decode cJ9_min_7cf53 10 = .ok (.ireturn, 1) := by decide +kernel
theorem dJ0_length_8abf5_0 : decode cJ0_length_8abf5 0 = .ok (.aload_n 0, 1) := by decide +kernel
theorem dJ0_length_8abf5_1 : decode cJ0_length_8abf5 1 = .ok (.getfield 9, 3) := by decide +kernel
theorem dJ0_length_8abf5_4 : decode cJ0_length_8abf5 4 = .ok (.arraylength, 1) := by decide +kernel
theorem dJ0_length_8abf5_5 : decode cJ0_length_8abf5 5 = .ok (.aload_n 0, 1) := by decide +kernel
theorem dJ0_length_8abf5_6 : decode cJ0_length_8abf5 6 = .ok (.invokevirtual 335, 3) := by decide +kernel
theorem dJ0_length_8abf5_9 : decode cJ0_length_8abf5 9 = .ok (.ishr, 1) := by decide +kernel
theorem dJ0_length_8abf5_10 : decode cJ0_length_8abf5 10 = .ok (.ireturn, 1) := by decide +kernel
theorem dJ0_charAt_5068e_0 : decode cJ0_charAt_5068e 0 = .ok (.aload_n 0, 1) := by decide +kernel
theorem dJ0_charAt_5068e_1 : decode cJ0_charAt_5068e 1 = .ok (.invokevirtual 492, 3) := by decide +kernel
theorem dJ0_charAt_5068e_4 : decode cJ0_charAt_5068e 4 = .ok (.ifCond .eq 12, 3) := by decide +kernel
theorem dJ0_charAt_5068e_7 : decode cJ0_charAt_5068e 7 = .ok (.aload_n 0, 1) := by decide +kernel
theorem dJ0_charAt_5068e_8 : decode cJ0_charAt_5068e 8 = .ok (.getfield 9, 3) := by decide +kernel
theorem dJ0_charAt_5068e_11 : decode cJ0_charAt_5068e 11 = .ok (.iload_n 1, 1) := by decide +kernel
theorem dJ0_charAt_5068e_12 : decode cJ0_charAt_5068e 12 = .ok (.invokestatic 495, 3) := by decide +kernel
theorem dJ0_charAt_5068e_15 : decode cJ0_charAt_5068e 15 = .ok (.ireturn, 1) := by decide +kernel
theorem dJ0_charAt_5068e_16 : decode cJ0_charAt_5068e 16 = .ok (.aload_n 0, 1) := by decide +kernel
theorem dJ0_charAt_5068e_17 : decode cJ0_charAt_5068e 17 = .ok (.getfield 9, 3) := by decide +kernel
theorem dJ0_charAt_5068e_20 : decode cJ0_charAt_5068e 20 = .ok (.iload_n 1, 1) := by decide +kernel
theorem dJ0_charAt_5068e_21 : decode cJ0_charAt_5068e 21 = .ok (.invokestatic 498, 3) := by decide +kernel
theorem dJ0_charAt_5068e_24 : decode cJ0_charAt_5068e 24 = .ok (.ireturn, 1) := by decide +kernel
theorem dJ0_indexOf_0f7a4_0 : decode cJ0_indexOf_0f7a4 0 = .ok (.aload_n 0, 1) := by decide +kernel
theorem dJ0_indexOf_0f7a4_1 : decode cJ0_indexOf_0f7a4 1 = .ok (.iload_n 1, 1) := by decide +kernel
theorem dJ0_indexOf_0f7a4_2 : decode cJ0_indexOf_0f7a4 2 = .ok (.iconst 0, 1) := by decide +kernel
theorem dJ0_indexOf_0f7a4_3 : decode cJ0_indexOf_0f7a4 3 = .ok (.invokevirtual 633, 3) := by decide +kernel
theorem dJ0_indexOf_0f7a4_6 : decode cJ0_indexOf_0f7a4 6 = .ok (.ireturn, 1) := by decide +kernel
theorem dJ0_indexOf_7cf53_0 : decode cJ0_indexOf_7cf53 0 = .ok (.aload_n 0, 1) := by decide +kernel
theorem dJ0_indexOf_7cf53_1 : decode cJ0_indexOf_7cf53 1 = .ok (.invokevirtual 492, 3) := by decide +kernel
theorem dJ0_indexOf_7cf53_4 : decode cJ0_indexOf_7cf53 4 = .ok (.ifCond .eq 19, 3) := by decide +kernel
theorem dJ0_indexOf_7cf53_7 : decode cJ0_indexOf_7cf53 7 = .ok (.aload_n 0, 1) := by decide +kernel
theorem dJ0_indexOf_7cf53_8 : decode cJ0_indexOf_7cf53 8 = .ok (.getfield 9, 3) := by decide +kernel
theorem dJ0_indexOf_7cf53_11 : decode cJ0_indexOf_7cf53 11 = .ok (.iload_n 1, 1) := by decide +kernel
theorem dJ0_indexOf_7cf53_12 : decode cJ0_indexOf_7cf53 12 = .ok (.iload_n 2, 1) := by decide +kernel
theorem dJ0_indexOf_7cf53_13 : decode cJ0_indexOf_7cf53 13 = .ok (.aload_n 0, 1) := by decide +kernel
theorem dJ0_indexOf_7cf53_14 : decode cJ0_indexOf_7cf53 14 = .ok (.invokevirtual 505, 3) := by decide +kernel
theorem dJ0_indexOf_7cf53_17 : decode cJ0_indexOf_7cf53 17 = .ok (.invokestatic 637, 3) := by decide +kernel
theorem dJ0_indexOf_7cf53_20 : decode cJ0_indexOf_7cf53 20 = .ok (.goto 16, 3) := by decide +kernel
theorem dJ0_indexOf_7cf53_23 : decode cJ0_indexOf_7cf53 23 = .ok (.aload_n 0, 1) := by decide +kernel
theorem dJ0_indexOf_7cf53_24 : decode cJ0_indexOf_7cf53 24 = .ok (.getfield 9, 3) := by decide +kernel
theorem dJ0_indexOf_7cf53_27 : decode cJ0_indexOf_7cf53 27 = .ok (.iload_n 1, 1) := by decide +kernel
theorem dJ0_indexOf_7cf53_28 : decode cJ0_indexOf_7cf53 28 = .ok (.iload_n 2, 1) := by decide +kernel
theorem dJ0_indexOf_7cf53_29 : decode cJ0_indexOf_7cf53 29 = .ok (.aload_n 0, 1) := by decide +kernel
theorem dJ0_indexOf_7cf53_30 : decode cJ0_indexOf_7cf53 30 = .ok (.invokevirtual 505, 3) := by decide +kernel
theorem dJ0_indexOf_7cf53_33 : decode cJ0_indexOf_7cf53 33 = .ok (.invokestatic 640, 3) := by decide +kernel
theorem dJ0_indexOf_7cf53_36 : decode cJ0_indexOf_7cf53 36 = .ok (.ireturn, 1) := by decide +kernel
theorem dJ0_coder_7d493_0 : decode cJ0_coder_7d493 0 = .ok (.getstatic 38, 3) := by decide +kernel
theorem dJ0_coder_7d493_3 : decode cJ0_coder_7d493 3 = .ok (.ifCond .eq 10, 3) := by decide +kernel
theorem dJ0_coder_7d493_6 : decode cJ0_coder_7d493 6 = .ok (.aload_n 0, 1) := by decide +kernel
theorem dJ0_coder_7d493_7 : decode cJ0_coder_7d493 7 = .ok (.getfield 15, 3) := by decide +kernel
theorem dJ0_coder_7d493_10 : decode cJ0_coder_7d493 10 = .ok (.goto 4, 3) := by decide +kernel
theorem dJ0_coder_7d493_13 : decode cJ0_coder_7d493 13 = .ok (.iconst 1, 1) := by decide +kernel
theorem dJ0_coder_7d493_14 : decode cJ0_coder_7d493 14 = .ok (.ireturn, 1) := by decide +kernel
theorem dJ0_isLatin1_aae02_0 : decode cJ0_isLatin1_aae02 0 = .ok (.getstatic 38, 3) := by decide +kernel
theorem dJ0_isLatin1_aae02_3 : decode cJ0_isLatin1_aae02 3 = .ok (.ifCond .eq 14, 3) := by decide +kernel
theorem dJ0_isLatin1_aae02_6 : decode cJ0_isLatin1_aae02 6 = .ok (.aload_n 0, 1) := by decide +kernel
theorem dJ0_isLatin1_aae02_7 : decode cJ0_isLatin1_aae02 7 = .ok (.getfield 15, 3) := by decide +kernel
theorem dJ0_isLatin1_aae02_10 : decode cJ0_isLatin1_aae02 10 = .ok (.ifCond .ne 7, 3) := by decide +kernel
theorem dJ0_isLatin1_aae02_13 : decode cJ0_isLatin1_aae02 13 = .ok (.iconst 1, 1) := by decide +kernel
theorem dJ0_isLatin1_aae02_14 : decode cJ0_isLatin1_aae02 14 = .ok (.goto 4, 3) := by decide +kernel
theorem dJ0_isLatin1_aae02_17 : decode cJ0_isLatin1_aae02 17 = .ok (.iconst 0, 1) := by decide +kernel
theorem dJ0_isLatin1_aae02_18 : decode cJ0_isLatin1_aae02 18 = .ok (.ireturn, 1) := by decide +kernel
theorem dJ0_checkIndex_df160_0 : decode cJ0_checkIndex_df160 0 = .ok (.iload_n 0, 1) := by decide +kernel
theorem dJ0_checkIndex_df160_1 : decode cJ0_checkIndex_df160 1 = .ok (.iload_n 1, 1) := by decide +kernel
theorem dJ0_checkIndex_df160_2 : decode cJ0_checkIndex_df160 2 = .ok (.getstatic 1053, 3) := by decide +kernel
theorem dJ0_checkIndex_df160_5 : decode cJ0_checkIndex_df160 5 = .ok (.invokestatic 1059, 3) := by decide +kernel
theorem dJ0_checkIndex_df160_8 : decode cJ0_checkIndex_df160 8 = .ok (.pop, 1) := by decide +kernel
theorem dJ0_checkIndex_df160_9 : decode cJ0_checkIndex_df160 9 = .ok (.return_, 1) := by decide +kernel
theorem dJ0_checkBoundsBeginEnd_23922_0 : decode cJ0_checkBoundsBeginEnd_23922 0 = .ok (.iload_n 0, 1) := by decide +kernel
theorem dJ0_checkBoundsBeginEnd_23922_1 : decode cJ0_checkBoundsBeginEnd_23922 1 = .ok (.iload_n 1, 1) := by decide +kernel
theorem dJ0_checkBoundsBeginEnd_23922_2 : decode cJ0_checkBoundsBeginEnd_23922 2 = .ok (.iload_n 2, 1) := by decide +kernel
theorem dJ0_checkBoundsBeginEnd_23922_3 : decode cJ0_checkBoundsBeginEnd_23922 3 = .ok (.getstatic 1053, 3) := by decide +kernel
theorem dJ0_checkBoundsBeginEnd_23922_6 : decode cJ0_checkBoundsBeginEnd_23922 6 = .ok (.invokestatic 1062, 3) := by decide +kernel
theorem dJ0_checkBoundsBeginEnd_23922_9 : decode cJ0_checkBoundsBeginEnd_23922 9 = .ok (.pop, 1) := by decide +kernel
theorem dJ0_checkBoundsBeginEnd_23922_10 : decode cJ0_checkBoundsBeginEnd_23922 10 = .ok (.return_, 1) := by decide +kernel
theorem dJ1_charAt_3b067_0 : decode cJ1_charAt_3b067 0 = .ok (.iload_n 1, 1) := by decide +kernel
theorem dJ1_charAt_3b067_1 : decode cJ1_charAt_3b067 1 = .ok (.aload_n 0, 1) := by decide +kernel
theorem dJ1_charAt_3b067_2 : decode cJ1_charAt_3b067 2 = .ok (.arraylength, 1) := by decide +kernel
theorem dJ1_charAt_3b067_3 : decode cJ1_charAt_3b067 3 = .ok (.invokestatic 9, 3) := by decide +kernel
theorem dJ1_charAt_3b067_6 : decode cJ1_charAt_3b067 6 = .ok (.aload_n 0, 1) := by decide +kernel
theorem dJ1_charAt_3b067_7 : decode cJ1_charAt_3b067 7 = .ok (.iload_n 1, 1) := by decide +kernel
theorem dJ1_charAt_3b067_8 : decode cJ1_charAt_3b067 8 = .ok (.baload, 1) := by decide +kernel
theorem dJ1_charAt_3b067_9 : decode cJ1_charAt_3b067 9 = .ok (.sipush 255, 3) := by decide +kernel
theorem dJ1_charAt_3b067_12 : decode cJ1_charAt_3b067 12 = .ok (.iand, 1) := by decide +kernel
theorem dJ1_charAt_3b067_13 : decode cJ1_charAt_3b067 13 = .ok (.i2c, 1) := by decide +kernel
theorem dJ1_charAt_3b067_14 : decode cJ1_charAt_3b067 14 = .ok (.ireturn, 1) := by decide +kernel
theorem dJ1_canEncode_9a6ad_0 : decode cJ1_canEncode_9a6ad 0 = .ok (.iload_n 0, 1) := by decide +kernel
theorem dJ1_canEncode_9a6ad_1 : decode cJ1_canEncode_9a6ad 1 = .ok (.ifCond .lt 14, 3) := by decide +kernel
theorem dJ1_canEncode_9a6ad_4 : decode cJ1_canEncode_9a6ad 4 = .ok (.iload_n 0, 1) := by decide +kernel
theorem dJ1_canEncode_9a6ad_5 : decode cJ1_canEncode_9a6ad 5 = .ok (.sipush 255, 3) := by decide +kernel
theorem dJ1_canEncode_9a6ad_8 : decode cJ1_canEncode_9a6ad 8 = .ok (.if_icmp .gt 7, 3) := by decide +kernel
theorem dJ1_canEncode_9a6ad_11 : decode cJ1_canEncode_9a6ad 11 = .ok (.iconst 1, 1) := by decide +kernel
theorem dJ1_canEncode_9a6ad_12 : decode cJ1_canEncode_9a6ad 12 = .ok (.goto 4, 3) := by decide +kernel
theorem dJ1_canEncode_9a6ad_15 : decode cJ1_canEncode_9a6ad 15 = .ok (.iconst 0, 1) := by decide +kernel
theorem dJ1_canEncode_9a6ad_16 : decode cJ1_canEncode_9a6ad 16 = .ok (.ireturn, 1) := by decide +kernel
theorem dJ1_indexOf_4cfef_0 : decode cJ1_indexOf_4cfef 0 = .ok (.iload_n 1, 1) := by decide +kernel
theorem dJ1_indexOf_4cfef_1 : decode cJ1_indexOf_4cfef 1 = .ok (.invokestatic 88, 3) := by decide +kernel
theorem dJ1_indexOf_4cfef_4 : decode cJ1_indexOf_4cfef 4 = .ok (.ifCond .ne 5, 3) := by decide +kernel
theorem dJ1_indexOf_4cfef_7 : decode cJ1_indexOf_4cfef 7 = .ok (.iconst (-1), 1) := by decide +kernel
theorem dJ1_indexOf_4cfef_8 : decode cJ1_indexOf_4cfef 8 = .ok (.ireturn, 1) := by decide +kernel
theorem dJ1_indexOf_4cfef_9 : decode cJ1_indexOf_4cfef 9 = .ok (.iload_n 2, 1) := by decide +kernel
theorem dJ1_indexOf_4cfef_10 : decode cJ1_indexOf_4cfef 10 = .ok (.iconst 0, 1) := by decide +kernel
theorem dJ1_indexOf_4cfef_11 : decode cJ1_indexOf_4cfef 11 = .ok (.invokestatic 92, 3) := by decide +kernel
theorem dJ1_indexOf_4cfef_14 : decode cJ1_indexOf_4cfef 14 = .ok (.istore_n 2, 1) := by decide +kernel
theorem dJ1_indexOf_4cfef_15 : decode cJ1_indexOf_4cfef 15 = .ok (.iload_n 3, 1) := by decide +kernel
theorem dJ1_indexOf_4cfef_16 : decode cJ1_indexOf_4cfef 16 = .ok (.aload_n 0, 1) := by decide +kernel
theorem dJ1_indexOf_4cfef_17 : decode cJ1_indexOf_4cfef 17 = .ok (.arraylength, 1) := by decide +kernel
theorem dJ1_indexOf_4cfef_18 : decode cJ1_indexOf_4cfef 18 = .ok (.invokestatic 38, 3) := by decide +kernel
theorem dJ1_indexOf_4cfef_21 : decode cJ1_indexOf_4cfef 21 = .ok (.istore_n 3, 1) := by decide +kernel
theorem dJ1_indexOf_4cfef_22 : decode cJ1_indexOf_4cfef 22 = .ok (.iload_n 2, 1) := by decide +kernel
theorem dJ1_indexOf_4cfef_23 : decode cJ1_indexOf_4cfef 23 = .ok (.iload_n 3, 1) := by decide +kernel
theorem dJ1_indexOf_4cfef_24 : decode cJ1_indexOf_4cfef 24 = .ok (.if_icmp .lt 5, 3) := by decide +kernel
theorem dJ1_indexOf_4cfef_27 : decode cJ1_indexOf_4cfef 27 = .ok (.iconst (-1), 1) := by decide +kernel
theorem dJ1_indexOf_4cfef_28 : decode cJ1_indexOf_4cfef 28 = .ok (.ireturn, 1) := by decide +kernel
theorem dJ1_indexOf_4cfef_29 : decode cJ1_indexOf_4cfef 29 = .ok (.aload_n 0, 1) := by decide +kernel
theorem dJ1_indexOf_4cfef_30 : decode cJ1_indexOf_4cfef 30 = .ok (.iload_n 1, 1) := by decide +kernel
theorem dJ1_indexOf_4cfef_31 : decode cJ1_indexOf_4cfef 31 = .ok (.iload_n 2, 1) := by decide +kernel
theorem dJ1_indexOf_4cfef_32 : decode cJ1_indexOf_4cfef 32 = .ok (.iload_n 3, 1) := by decide +kernel
theorem dJ1_indexOf_4cfef_33 : decode cJ1_indexOf_4cfef 33 = .ok (.invokestatic 95, 3) := by decide +kernel
theorem dJ1_indexOf_4cfef_36 : decode cJ1_indexOf_4cfef 36 = .ok (.ireturn, 1) := by decide +kernel
theorem dJ1_indexOfChar_4cfef_0 : decode cJ1_indexOfChar_4cfef 0 = .ok (.iload_n 1, 1) := by decide +kernel
theorem dJ1_indexOfChar_4cfef_1 : decode cJ1_indexOfChar_4cfef 1 = .ok (.i2b, 1) := by decide +kernel
theorem dJ1_indexOfChar_4cfef_2 : decode cJ1_indexOfChar_4cfef 2 = .ok (.istore 4, 2) := by decide +kernel
theorem dJ1_indexOfChar_4cfef_4 : decode cJ1_indexOfChar_4cfef 4 = .ok (.iload_n 2, 1) := by decide +kernel
theorem dJ1_indexOfChar_4cfef_5 : decode cJ1_indexOfChar_4cfef 5 = .ok (.istore 5, 2) := by decide +kernel
theorem dJ1_indexOfChar_4cfef_7 : decode cJ1_indexOfChar_4cfef 7 = .ok (.iload 5, 2) := by decide +kernel
theorem dJ1_indexOfChar_4cfef_9 : decode cJ1_indexOfChar_4cfef 9 = .ok (.iload_n 3, 1) := by decide +kernel
theorem dJ1_indexOfChar_4cfef_10 : decode cJ1_indexOfChar_4cfef 10 = .ok (.if_icmp .ge 21, 3) := by decide +kernel
theorem dJ1_indexOfChar_4cfef_13 : decode cJ1_indexOfChar_4cfef 13 = .ok (.aload_n 0, 1) := by decide +kernel
theorem dJ1_indexOfChar_4cfef_14 : decode cJ1_indexOfChar_4cfef 14 = .ok (.iload 5, 2) := by decide +kernel
theorem dJ1_indexOfChar_4cfef_16 : decode cJ1_indexOfChar_4cfef 16 = .ok (.baload, 1) := by decide +kernel
theorem dJ1_indexOfChar_4cfef_17 : decode cJ1_indexOfChar_4cfef 17 = .ok (.iload 4, 2) := by decide +kernel
theorem dJ1_indexOfChar_4cfef_19 : decode cJ1_indexOfChar_4cfef 19 = .ok (.if_icmp .ne 6, 3) := by decide +kernel
theorem dJ1_indexOfChar_4cfef_22 : decode cJ1_indexOfChar_4cfef 22 = .ok (.iload 5, 2) := by decide +kernel
theorem dJ1_indexOfChar_4cfef_24 : decode cJ1_indexOfChar_4cfef 24 = .ok (.ireturn, 1) := by decide +kernel
theorem dJ1_indexOfChar_4cfef_25 : decode cJ1_indexOfChar_4cfef 25 = .ok (.iinc 5 1, 3) := by decide +kernel
theorem dJ1_indexOfChar_4cfef_28 : decode cJ1_indexOfChar_4cfef 28 = .ok (.goto (-21), 3) := by decide +kernel
theorem dJ1_indexOfChar_4cfef_31 : decode cJ1_indexOfChar_4cfef 31 = .ok (.iconst (-1), 1) := by decide +kernel
theorem dJ1_indexOfChar_4cfef_32 : decode cJ1_indexOfChar_4cfef 32 = .ok (.ireturn, 1) := by decide +kernel
theorem dJ2_getChar_3b067_0 : decode cJ2_getChar_3b067 0 = .ok (.getstatic 44, 3) := by decide +kernel
theorem dJ2_getChar_3b067_3 : decode cJ2_getChar_3b067 3 = .ok (.ifCond .ne 25, 3) := by decide +kernel
theorem dJ2_getChar_3b067_6 : decode cJ2_getChar_3b067 6 = .ok (.iload_n 1, 1) := by decide +kernel
theorem dJ2_getChar_3b067_7 : decode cJ2_getChar_3b067 7 = .ok (.ifCond .lt 11, 3) := by decide +kernel
theorem dJ2_getChar_3b067_10 : decode cJ2_getChar_3b067 10 = .ok (.iload_n 1, 1) := by decide +kernel
theorem dJ2_getChar_3b067_11 : decode cJ2_getChar_3b067 11 = .ok (.aload_n 0, 1) := by decide +kernel
theorem dJ2_getChar_3b067_12 : decode cJ2_getChar_3b067 12 = .ok (.invokestatic 48, 3) := by decide +kernel
theorem dJ2_getChar_3b067_15 : decode cJ2_getChar_3b067 15 = .ok (.if_icmp .lt 13, 3) := by decide +kernel
theorem dJ2_getChar_3b067_18 : decode cJ2_getChar_3b067 18 = .ok (.new 52, 3) := by decide +kernel
theorem dJ2_getChar_3b067_21 : decode cJ2_getChar_3b067 21 = .ok (.dup, 1) := by decide +kernel
theorem dJ2_getChar_3b067_22 : decode cJ2_getChar_3b067 22 = .ok (.ldc 54, 2) := by decide +kernel
theorem dJ2_getChar_3b067_24 : decode cJ2_getChar_3b067 24 = .ok (.invokespecial 56, 3) := by decide +kernel
theorem dJ2_getChar_3b067_27 : decode cJ2_getChar_3b067 27 = .ok (.athrow, 1) := by decide +kernel
theorem dJ2_getChar_3b067_28 : decode cJ2_getChar_3b067 28 = .ok (.iload_n 1, 1) := by decide +kernel
theorem dJ2_getChar_3b067_29 : decode cJ2_getChar_3b067 29 = .ok (.iconst 1, 1) := by decide +kernel
theorem dJ2_getChar_3b067_30 : decode cJ2_getChar_3b067 30 = .ok (.ishl, 1) := by decide +kernel
theorem dJ2_getChar_3b067_31 : decode cJ2_getChar_3b067 31 = .ok (.istore_n 1, 1) := by decide +kernel
theorem dJ2_getChar_3b067_32 : decode cJ2_getChar_3b067 32 = .ok (.aload_n 0, 1) := by decide +kernel
theorem dJ2_getChar_3b067_33 : decode cJ2_getChar_3b067 33 = .ok (.iload_n 1, 1) := by decide +kernel
theorem dJ2_getChar_3b067_34 : decode cJ2_getChar_3b067 34 = .ok (.iinc 1 1, 3) := by decide +kernel
theorem dJ2_getChar_3b067_37 : decode cJ2_getChar_3b067 37 = .ok (.baload, 1) := by decide +kernel
theorem dJ2_getChar_3b067_38 : decode cJ2_getChar_3b067 38 = .ok (.sipush 255, 3) := by decide +kernel
theorem dJ2_getChar_3b067_41 : decode cJ2_getChar_3b067 41 = .ok (.iand, 1) := by decide +kernel
theorem dJ2_getChar_3b067_42 : decode cJ2_getChar_3b067 42 = .ok (.getstatic 59, 3) := by decide +kernel
theorem dJ2_getChar_3b067_45 : decode cJ2_getChar_3b067 45 = .ok (.ishl, 1) := by decide +kernel
theorem dJ2_getChar_3b067_46 : decode cJ2_getChar_3b067 46 = .ok (.aload_n 0, 1) := by decide +kernel
theorem dJ2_getChar_3b067_47 : decode cJ2_getChar_3b067 47 = .ok (.iload_n 1, 1) := by decide +kernel
theorem dJ2_getChar_3b067_48 : decode cJ2_getChar_3b067 48 = .ok (.baload, 1) := by decide +kernel
theorem dJ2_getChar_3b067_49 : decode cJ2_getChar_3b067 49 = .ok (.sipush 255, 3) := by decide +kernel
theorem dJ2_getChar_3b067_52 : decode cJ2_getChar_3b067 52 = .ok (.iand, 1) := by decide +kernel
theorem dJ2_getChar_3b067_53 : decode cJ2_getChar_3b067 53 = .ok (.getstatic 63, 3) := by decide +kernel
theorem dJ2_getChar_3b067_56 : decode cJ2_getChar_3b067 56 = .ok (.ishl, 1) := by decide +kernel
theorem dJ2_getChar_3b067_57 : decode cJ2_getChar_3b067 57 = .ok (.ior, 1) := by decide +kernel
theorem dJ2_getChar_3b067_58 : decode cJ2_getChar_3b067 58 = .ok (.i2c, 1) := by decide +kernel
theorem dJ2_getChar_3b067_59 : decode cJ2_getChar_3b067 59 = .ok (.ireturn, 1) := by decide +kernel
theorem dJ2_length_9d52b_0 : decode cJ2_length_9d52b 0 = .ok (.aload_n 0, 1) := by decide +kernel
theorem dJ2_length_9d52b_1 : decode cJ2_length_9d52b 1 = .ok (.arraylength, 1) := by decide +kernel
theorem dJ2_length_9d52b_2 : decode cJ2_length_9d52b 2 = .ok (.iconst 1, 1) := by decide +kernel
theorem dJ2_length_9d52b_3 : decode cJ2_length_9d52b 3 = .ok (.ishr, 1) := by decide +kernel
theorem dJ2_length_9d52b_4 : decode cJ2_length_9d52b 4 = .ok (.ireturn, 1) := by decide +kernel
theorem dJ2_indexOf_4cfef_0 : decode cJ2_indexOf_4cfef 0 = .ok (.iload_n 2, 1) := by decide +kernel
theorem dJ2_indexOf_4cfef_1 : decode cJ2_indexOf_4cfef 1 = .ok (.iconst 0, 1) := by decide +kernel
theorem dJ2_indexOf_4cfef_2 : decode cJ2_indexOf_4cfef 2 = .ok (.invokestatic 224, 3) := by decide +kernel
theorem dJ2_indexOf_4cfef_5 : decode cJ2_indexOf_4cfef 5 = .ok (.istore_n 2, 1) := by decide +kernel
theorem dJ2_indexOf_4cfef_6 : decode cJ2_indexOf_4cfef 6 = .ok (.iload_n 3, 1) := by decide +kernel
theorem dJ2_indexOf_4cfef_7 : decode cJ2_indexOf_4cfef 7 = .ok (.aload_n 0, 1) := by decide +kernel
theorem dJ2_indexOf_4cfef_8 : decode cJ2_indexOf_4cfef 8 = .ok (.arraylength, 1) := by decide +kernel
theorem dJ2_indexOf_4cfef_9 : decode cJ2_indexOf_4cfef 9 = .ok (.iconst 1, 1) := by decide +kernel
theorem dJ2_indexOf_4cfef_10 : decode cJ2_indexOf_4cfef 10 = .ok (.ishr, 1) := by decide +kernel
theorem dJ2_indexOf_4cfef_11 : decode cJ2_indexOf_4cfef 11 = .ok (.invokestatic 183, 3) := by decide +kernel
theorem dJ2_indexOf_4cfef_14 : decode cJ2_indexOf_4cfef 14 = .ok (.istore_n 3, 1) := by decide +kernel
theorem dJ2_indexOf_4cfef_15 : decode cJ2_indexOf_4cfef 15 = .ok (.iload_n 2, 1) := by decide +kernel
theorem dJ2_indexOf_4cfef_16 : decode cJ2_indexOf_4cfef 16 = .ok (.iload_n 3, 1) := by decide +kernel
theorem dJ2_indexOf_4cfef_17 : decode cJ2_indexOf_4cfef 17 = .ok (.if_icmp .lt 5, 3) := by decide +kernel
theorem dJ2_indexOf_4cfef_20 : decode cJ2_indexOf_4cfef 20 = .ok (.iconst (-1), 1) := by decide +kernel
theorem dJ2_indexOf_4cfef_21 : decode cJ2_indexOf_4cfef 21 = .ok (.ireturn, 1) := by decide +kernel
theorem dJ2_indexOf_4cfef_22 : decode cJ2_indexOf_4cfef 22 = .ok (.iload_n 1, 1) := by decide +kernel
theorem dJ2_indexOf_4cfef_23 : decode cJ2_indexOf_4cfef 23 = .ok (.ldc 227, 2) := by decide +kernel
theorem dJ2_indexOf_4cfef_25 : decode cJ2_indexOf_4cfef 25 = .ok (.if_icmp .ge 11, 3) := by decide +kernel
theorem dJ2_indexOf_4cfef_28 : decode cJ2_indexOf_4cfef 28 = .ok (.aload_n 0, 1) := by decide +kernel
theorem dJ2_indexOf_4cfef_29 : decode cJ2_indexOf_4cfef 29 = .ok (.iload_n 1, 1) := by decide +kernel
theorem dJ2_indexOf_4cfef_30 : decode cJ2_indexOf_4cfef 30 = .ok (.iload_n 2, 1) := by decide +kernel
theorem dJ2_indexOf_4cfef_31 : decode cJ2_indexOf_4cfef 31 = .ok (.iload_n 3, 1) := by decide +kernel
theorem dJ2_indexOf_4cfef_32 : decode cJ2_indexOf_4cfef 32 = .ok (.invokestatic 228, 3) := by decide +kernel
theorem dJ2_indexOf_4cfef_35 : decode cJ2_indexOf_4cfef 35 = .ok (.ireturn, 1) := by decide +kernel
theorem dJ2_indexOf_4cfef_36 : decode cJ2_indexOf_4cfef 36 = .ok (.aload_n 0, 1) := by decide +kernel
theorem dJ2_indexOf_4cfef_37 : decode cJ2_indexOf_4cfef 37 = .ok (.iload_n 1, 1) := by decide +kernel
theorem dJ2_indexOf_4cfef_38 : decode cJ2_indexOf_4cfef 38 = .ok (.iload_n 2, 1) := by decide +kernel
theorem dJ2_indexOf_4cfef_39 : decode cJ2_indexOf_4cfef 39 = .ok (.iload_n 3, 1) := by decide +kernel
theorem dJ2_indexOf_4cfef_40 : decode cJ2_indexOf_4cfef 40 = .ok (.invokestatic 232, 3) := by decide +kernel
theorem dJ2_indexOf_4cfef_43 : decode cJ2_indexOf_4cfef 43 = .ok (.ireturn, 1) := by decide +kernel
theorem dJ2_indexOfChar_4cfef_0 : decode cJ2_indexOfChar_4cfef 0 = .ok (.iload_n 2, 1) := by decide +kernel
theorem dJ2_indexOfChar_4cfef_1 : decode cJ2_indexOfChar_4cfef 1 = .ok (.iload_n 3, 1) := by decide +kernel
theorem dJ2_indexOfChar_4cfef_2 : decode cJ2_indexOfChar_4cfef 2 = .ok (.aload_n 0, 1) := by decide +kernel
theorem dJ2_indexOfChar_4cfef_3 : decode cJ2_indexOfChar_4cfef 3 = .ok (.invokestatic 96, 3) := by decide +kernel
theorem dJ2_indexOfChar_4cfef_6 : decode cJ2_indexOfChar_4cfef 6 = .ok (.aload_n 0, 1) := by decide +kernel
theorem dJ2_indexOfChar_4cfef_7 : decode cJ2_indexOfChar_4cfef 7 = .ok (.iload_n 1, 1) := by decide +kernel
theorem dJ2_indexOfChar_4cfef_8 : decode cJ2_indexOfChar_4cfef 8 = .ok (.iload_n 2, 1) := by decide +kernel
theorem dJ2_indexOfChar_4cfef_9 : decode cJ2_indexOfChar_4cfef 9 = .ok (.iload_n 3, 1) := by decide +kernel
theorem dJ2_indexOfChar_4cfef_10 : decode cJ2_indexOfChar_4cfef 10 = .ok (.invokestatic 244, 3) := by decide +kernel
theorem dJ2_indexOfChar_4cfef_13 : decode cJ2_indexOfChar_4cfef 13 = .ok (.ireturn, 1) := by decide +kernel
theorem dJ2_indexOfCharUnsafe_4cfef_0 : decode cJ2_indexOfCharUnsafe_4cfef 0 = .ok (.iload_n 2, 1) := by decide +kernel
theorem dJ2_indexOfCharUnsafe_4cfef_1 : decode cJ2_indexOfCharUnsafe_4cfef 1 = .ok (.istore 4, 2) := by decide +kernel
theorem dJ2_indexOfCharUnsafe_4cfef_3 : decode cJ2_indexOfCharUnsafe_4cfef 3 = .ok (.iload 4, 2) := by decide +kernel
theorem dJ2_indexOfCharUnsafe_4cfef_5 : decode cJ2_indexOfCharUnsafe_4cfef 5 = .ok (.iload_n 3, 1) := by decide +kernel
theorem dJ2_indexOfCharUnsafe_4cfef_6 : decode cJ2_indexOfCharUnsafe_4cfef 6 = .ok (.if_icmp .ge 22, 3) := by decide +kernel
theorem dJ2_indexOfCharUnsafe_4cfef_9 : decode cJ2_indexOfCharUnsafe_4cfef 9 = .ok (.aload_n 0, 1) := by decide +kernel
theorem dJ2_indexOfCharUnsafe_4cfef_10 : decode cJ2_indexOfCharUnsafe_4cfef 10 = .ok (.iload 4, 2) := by decide +kernel
theorem dJ2_indexOfCharUnsafe_4cfef_12 : decode cJ2_indexOfCharUnsafe_4cfef 12 = .ok (.invokestatic 71, 3) := by decide +kernel
theorem dJ2_indexOfCharUnsafe_4cfef_15 : decode cJ2_indexOfCharUnsafe_4cfef 15 = .ok (.iload_n 1, 1) := by decide +kernel
theorem dJ2_indexOfCharUnsafe_4cfef_16 : decode cJ2_indexOfCharUnsafe_4cfef 16 = .ok (.if_icmp .ne 6, 3) := by decide +kernel
theorem dJ2_indexOfCharUnsafe_4cfef_19 : decode cJ2_indexOfCharUnsafe_4cfef 19 = .ok (.iload 4, 2) := by decide +kernel
theorem dJ2_indexOfCharUnsafe_4cfef_21 : decode cJ2_indexOfCharUnsafe_4cfef 21 = .ok (.ireturn, 1) := by decide +kernel
theorem dJ2_indexOfCharUnsafe_4cfef_22 : decode cJ2_indexOfCharUnsafe_4cfef 22 = .ok (.iinc 4 1, 3) := by decide +kernel
theorem dJ2_indexOfCharUnsafe_4cfef_25 : decode cJ2_indexOfCharUnsafe_4cfef 25 = .ok (.goto (-22), 3) := by decide +kernel
theorem dJ2_indexOfCharUnsafe_4cfef_28 : decode cJ2_indexOfCharUnsafe_4cfef 28 = .ok (.iconst (-1), 1) := by decide +kernel
theorem dJ2_indexOfCharUnsafe_4cfef_29 : decode cJ2_indexOfCharUnsafe_4cfef 29 = .ok (.ireturn, 1) := by decide +kernel
theorem dJ2_indexOfSupplementary_4cfef_0 : decode cJ2_indexOfSupplementary_4cfef 0 = .ok (.iload_n 1, 1) := by decide +kernel
theorem dJ2_indexOfSupplementary_4cfef_1 : decode cJ2_indexOfSupplementary_4cfef 1 = .ok (.invokestatic 164, 3) := by decide +kernel
theorem dJ2_indexOfSupplementary_4cfef_4 : decode cJ2_indexOfSupplementary_4cfef 4 = .ok (.ifCond .eq 65, 3) := by decide +kernel
theorem dJ2_indexOfSupplementary_4cfef_7 : decode cJ2_indexOfSupplementary_4cfef 7 = .ok (.iload_n 1, 1) := by decide +kernel
theorem dJ2_indexOfSupplementary_4cfef_8 : decode cJ2_indexOfSupplementary_4cfef 8 = .ok (.invokestatic 157, 3) := by decide +kernel
theorem dJ2_indexOfSupplementary_4cfef_11 : decode cJ2_indexOfSupplementary_4cfef 11 = .ok (.istore 4, 2) := by decide +kernel
theorem dJ2_indexOfSupplementary_4cfef_13 : decode cJ2_indexOfSupplementary_4cfef 13 = .ok (.iload_n 1, 1) := by decide +kernel
theorem dJ2_indexOfSupplementary_4cfef_14 : decode cJ2_indexOfSupplementary_4cfef 14 = .ok (.invokestatic 161, 3) := by decide +kernel
theorem dJ2_indexOfSupplementary_4cfef_17 : decode cJ2_indexOfSupplementary_4cfef 17 = .ok (.istore 5, 2) := by decide +kernel
theorem dJ2_indexOfSupplementary_4cfef_19 : decode cJ2_indexOfSupplementary_4cfef 19 = .ok (.iload_n 2, 1) := by decide +kernel
theorem dJ2_indexOfSupplementary_4cfef_20 : decode cJ2_indexOfSupplementary_4cfef 20 = .ok (.iload_n 3, 1) := by decide +kernel
theorem dJ2_indexOfSupplementary_4cfef_21 : decode cJ2_indexOfSupplementary_4cfef 21 = .ok (.aload_n 0, 1) := by decide +kernel
theorem dJ2_indexOfSupplementary_4cfef_22 : decode cJ2_indexOfSupplementary_4cfef 22 = .ok (.invokestatic 96, 3) := by decide +kernel
theorem dJ2_indexOfSupplementary_4cfef_25 : decode cJ2_indexOfSupplementary_4cfef 25 = .ok (.iload_n 2, 1) := by decide +kernel
theorem dJ2_indexOfSupplementary_4cfef_26 : decode cJ2_indexOfSupplementary_4cfef 26 = .ok (.istore 6, 2) := by decide +kernel
theorem dJ2_indexOfSupplementary_4cfef_28 : decode cJ2_indexOfSupplementary_4cfef 28 = .ok (.iload 6, 2) := by decide +kernel
theorem dJ2_indexOfSupplementary_4cfef_30 : decode cJ2_indexOfSupplementary_4cfef 30 = .ok (.iload_n 3, 1) := by decide +kernel
theorem dJ2_indexOfSupplementary_4cfef_31 : decode cJ2_indexOfSupplementary_4cfef 31 = .ok (.iconst 1, 1) := by decide +kernel
theorem dJ2_indexOfSupplementary_4cfef_32 : decode cJ2_indexOfSupplementary_4cfef 32 = .ok (.isub, 1) := by decide +kernel
theorem dJ2_indexOfSupplementary_4cfef_33 : decode cJ2_indexOfSupplementary_4cfef 33 = .ok (.if_icmp .ge 36, 3) := by decide +kernel
theorem dJ2_indexOfSupplementary_4cfef_36 : decode cJ2_indexOfSupplementary_4cfef 36 = .ok (.aload_n 0, 1) := by decide +kernel
theorem dJ2_indexOfSupplementary_4cfef_37 : decode cJ2_indexOfSupplementary_4cfef 37 = .ok (.iload 6, 2) := by decide +kernel
theorem dJ2_indexOfSupplementary_4cfef_39 : decode cJ2_indexOfSupplementary_4cfef 39 = .ok (.invokestatic 71, 3) := by decide +kernel
theorem dJ2_indexOfSupplementary_4cfef_42 : decode cJ2_indexOfSupplementary_4cfef 42 = .ok (.iload 4, 2) := by decide +kernel
theorem dJ2_indexOfSupplementary_4cfef_44 : decode cJ2_indexOfSupplementary_4cfef 44 = .ok (.if_icmp .ne 19, 3) := by decide +kernel
theorem dJ2_indexOfSupplementary_4cfef_47 : decode cJ2_indexOfSupplementary_4cfef 47 = .ok (.aload_n 0, 1) := by decide +kernel
theorem dJ2_indexOfSupplementary_4cfef_48 : decode cJ2_indexOfSupplementary_4cfef 48 = .ok (.iload 6, 2) := by decide +kernel
theorem dJ2_indexOfSupplementary_4cfef_50 : decode cJ2_indexOfSupplementary_4cfef 50 = .ok (.iconst 1, 1) := by decide +kernel
theorem dJ2_indexOfSupplementary_4cfef_51 : decode cJ2_indexOfSupplementary_4cfef 51 = .ok (.iadd, 1) := by decide +kernel
theorem dJ2_indexOfSupplementary_4cfef_52 : decode cJ2_indexOfSupplementary_4cfef 52 = .ok (.invokestatic 71, 3) := by decide +kernel
theorem dJ2_indexOfSupplementary_4cfef_55 : decode cJ2_indexOfSupplementary_4cfef 55 = .ok (.iload 5, 2) := by decide +kernel
theorem dJ2_indexOfSupplementary_4cfef_57 : decode cJ2_indexOfSupplementary_4cfef 57 = .ok (.if_icmp .ne 6, 3) := by decide +kernel
theorem dJ2_indexOfSupplementary_4cfef_60 : decode cJ2_indexOfSupplementary_4cfef 60 = .ok (.iload 6, 2) := by decide +kernel
theorem dJ2_indexOfSupplementary_4cfef_62 : decode cJ2_indexOfSupplementary_4cfef 62 = .ok (.ireturn, 1) := by decide +kernel
theorem dJ2_indexOfSupplementary_4cfef_63 : decode cJ2_indexOfSupplementary_4cfef 63 = .ok (.iinc 6 1, 3) := by decide +kernel
theorem dJ2_indexOfSupplementary_4cfef_66 : decode cJ2_indexOfSupplementary_4cfef 66 = .ok (.goto (-38), 3) := by decide +kernel
theorem dJ2_indexOfSupplementary_4cfef_69 : decode cJ2_indexOfSupplementary_4cfef 69 = .ok (.iconst (-1), 1) := by decide +kernel
theorem dJ2_indexOfSupplementary_4cfef_70 : decode cJ2_indexOfSupplementary_4cfef 70 = .ok (.ireturn, 1) := by decide +kernel
theorem dJ2_charAt_3b067_0 : decode cJ2_charAt_3b067 0 = .ok (.iload_n 1, 1) := by decide +kernel
theorem dJ2_charAt_3b067_1 : decode cJ2_charAt_3b067 1 = .ok (.aload_n 0, 1) := by decide +kernel
theorem dJ2_charAt_3b067_2 : decode cJ2_charAt_3b067 2 = .ok (.invokestatic 67, 3) := by decide +kernel
theorem dJ2_charAt_3b067_5 : decode cJ2_charAt_3b067 5 = .ok (.aload_n 0, 1) := by decide +kernel
theorem dJ2_charAt_3b067_6 : decode cJ2_charAt_3b067 6 = .ok (.iload_n 1, 1) := by decide +kernel
theorem dJ2_charAt_3b067_7 : decode cJ2_charAt_3b067 7 = .ok (.invokestatic 71, 3) := by decide +kernel
theorem dJ2_charAt_3b067_10 : decode cJ2_charAt_3b067 10 = .ok (.ireturn, 1) := by decide +kernel
theorem dJ2_checkIndex_2214a_0 : decode cJ2_checkIndex_2214a 0 = .ok (.iload_n 0, 1) := by decide +kernel
theorem dJ2_checkIndex_2214a_1 : decode cJ2_checkIndex_2214a 1 = .ok (.aload_n 1, 1) := by decide +kernel
theorem dJ2_checkIndex_2214a_2 : decode cJ2_checkIndex_2214a 2 = .ok (.invokestatic 48, 3) := by decide +kernel
theorem dJ2_checkIndex_2214a_5 : decode cJ2_checkIndex_2214a 5 = .ok (.invokestatic 414, 3) := by decide +kernel
theorem dJ2_checkIndex_2214a_8 : decode cJ2_checkIndex_2214a 8 = .ok (.return_, 1) := by decide +kernel
theorem dJ2_checkBoundsBeginEnd_d044e_0 : decode cJ2_checkBoundsBeginEnd_d044e 0 = .ok (.iload_n 0, 1) := by decide +kernel
theorem dJ2_checkBoundsBeginEnd_d044e_1 : decode cJ2_checkBoundsBeginEnd_d044e 1 = .ok (.iload_n 1, 1) := by decide +kernel
theorem dJ2_checkBoundsBeginEnd_d044e_2 : decode cJ2_checkBoundsBeginEnd_d044e 2 = .ok (.aload_n 2, 1) := by decide +kernel
theorem dJ2_checkBoundsBeginEnd_d044e_3 : decode cJ2_checkBoundsBeginEnd_d044e 3 = .ok (.invokestatic 48, 3) := by decide +kernel
theorem dJ2_checkBoundsBeginEnd_d044e_6 : decode cJ2_checkBoundsBeginEnd_d044e 6 = .ok (.invokestatic 241, 3) := by decide +kernel
theorem dJ2_checkBoundsBeginEnd_d044e_9 : decode cJ2_checkBoundsBeginEnd_d044e 9 = .ok (.return_, 1) := by decide +kernel
theorem dJ7_fill_53178_0 : decode cJ7_fill_53178 0 = .ok (.iconst 0, 1) := by decide +kernel
theorem dJ7_fill_53178_1 : decode cJ7_fill_53178 1 = .ok (.istore_n 2, 1) := by decide +kernel
theorem dJ7_fill_53178_2 : decode cJ7_fill_53178 2 = .ok (.aload_n 0, 1) := by decide +kernel
theorem dJ7_fill_53178_3 : decode cJ7_fill_53178 3 = .ok (.arraylength, 1) := by decide +kernel
theorem dJ7_fill_53178_4 : decode cJ7_fill_53178 4 = .ok (.istore_n 3, 1) := by decide +kernel
theorem dJ7_fill_53178_5 : decode cJ7_fill_53178 5 = .ok (.iload_n 2, 1) := by decide +kernel
theorem dJ7_fill_53178_6 : decode cJ7_fill_53178 6 = .ok (.iload_n 3, 1) := by decide +kernel
theorem dJ7_fill_53178_7 : decode cJ7_fill_53178 7 = .ok (.if_icmp .ge 13, 3) := by decide +kernel
theorem dJ7_fill_53178_10 : decode cJ7_fill_53178 10 = .ok (.aload_n 0, 1) := by decide +kernel
theorem dJ7_fill_53178_11 : decode cJ7_fill_53178 11 = .ok (.iload_n 2, 1) := by decide +kernel
theorem dJ7_fill_53178_12 : decode cJ7_fill_53178 12 = .ok (.iload_n 1, 1) := by decide +kernel
theorem dJ7_fill_53178_13 : decode cJ7_fill_53178 13 = .ok (.iastore, 1) := by decide +kernel
theorem dJ7_fill_53178_14 : decode cJ7_fill_53178 14 = .ok (.iinc 2 1, 3) := by decide +kernel
theorem dJ7_fill_53178_17 : decode cJ7_fill_53178 17 = .ok (.goto (-12), 3) := by decide +kernel
theorem dJ7_fill_53178_20 : decode cJ7_fill_53178 20 = .ok (.return_, 1) := by decide +kernel
theorem dJ7_copyOf_59c91_0 : decode cJ7_copyOf_59c91 0 = .ok (.iload_n 1, 1) := by decide +kernel
theorem dJ7_copyOf_59c91_1 : decode cJ7_copyOf_59c91 1 = .ok (.aload_n 0, 1) := by decide +kernel
theorem dJ7_copyOf_59c91_2 : decode cJ7_copyOf_59c91 2 = .ok (.arraylength, 1) := by decide +kernel
theorem dJ7_copyOf_59c91_3 : decode cJ7_copyOf_59c91 3 = .ok (.if_icmp .ne 11, 3) := by decide +kernel
theorem dJ7_copyOf_59c91_6 : decode cJ7_copyOf_59c91 6 = .ok (.aload_n 0, 1) := by decide +kernel
theorem dJ7_copyOf_59c91_7 : decode cJ7_copyOf_59c91 7 = .ok (.invokevirtual 316, 3) := by decide +kernel
theorem dJ7_copyOf_59c91_10 : decode cJ7_copyOf_59c91 10 = .ok (.checkcast 317, 3) := by decide +kernel
theorem dJ7_copyOf_59c91_13 : decode cJ7_copyOf_59c91 13 = .ok (.areturn, 1) := by decide +kernel
theorem dJ7_copyOf_59c91_14 : decode cJ7_copyOf_59c91 14 = .ok (.iload_n 1, 1) := by decide +kernel
theorem dJ7_copyOf_59c91_15 : decode cJ7_copyOf_59c91 15 = .ok (.newarray .int, 2) := by decide +kernel
theorem dJ7_copyOf_59c91_17 : decode cJ7_copyOf_59c91 17 = .ok (.astore_n 2, 1) := by decide +kernel
theorem dJ7_copyOf_59c91_18 : decode cJ7_copyOf_59c91 18 = .ok (.aload_n 0, 1) := by decide +kernel
theorem dJ7_copyOf_59c91_19 : decode cJ7_copyOf_59c91 19 = .ok (.iconst 0, 1) := by decide +kernel
theorem dJ7_copyOf_59c91_20 : decode cJ7_copyOf_59c91 20 = .ok (.aload_n 2, 1) := by decide +kernel
theorem dJ7_copyOf_59c91_21 : decode cJ7_copyOf_59c91 21 = .ok (.iconst 0, 1) := by decide +kernel
theorem dJ7_copyOf_59c91_22 : decode cJ7_copyOf_59c91 22 = .ok (.aload_n 0, 1) := by decide +kernel
theorem dJ7_copyOf_59c91_23 : decode cJ7_copyOf_59c91 23 = .ok (.arraylength, 1) := by decide +kernel
theorem dJ7_copyOf_59c91_24 : decode cJ7_copyOf_59c91 24 = .ok (.iload_n 1, 1) := by decide +kernel
theorem dJ7_copyOf_59c91_25 : decode cJ7_copyOf_59c91 25 = .ok (.invokestatic 304, 3) := by decide +kernel
theorem dJ7_copyOf_59c91_28 : decode cJ7_copyOf_59c91 28 = .ok (.invokestatic 150, 3) := by decide +kernel
theorem dJ7_copyOf_59c91_31 : decode cJ7_copyOf_59c91 31 = .ok (.aload_n 2, 1) := by decide +kernel
theorem dJ7_copyOf_59c91_32 : decode cJ7_copyOf_59c91 32 = .ok (.areturn, 1) := by decide +kernel
theorem dJ3_checkIndex_8e157_0 : decode cJ3_checkIndex_8e157 0 = .ok (.iload_n 0, 1) := by decide +kernel
theorem dJ3_checkIndex_8e157_1 : decode cJ3_checkIndex_8e157 1 = .ok (.ifCond .lt 8, 3) := by decide +kernel
theorem dJ3_checkIndex_8e157_4 : decode cJ3_checkIndex_8e157 4 = .ok (.iload_n 0, 1) := by decide +kernel
theorem dJ3_checkIndex_8e157_5 : decode cJ3_checkIndex_8e157 5 = .ok (.iload_n 1, 1) := by decide +kernel
theorem dJ3_checkIndex_8e157_6 : decode cJ3_checkIndex_8e157 6 = .ok (.if_icmp .lt 10, 3) := by decide +kernel
theorem dJ3_checkIndex_8e157_9 : decode cJ3_checkIndex_8e157 9 = .ok (.aload_n 2, 1) := by decide +kernel
theorem dJ3_checkIndex_8e157_10 : decode cJ3_checkIndex_8e157 10 = .ok (.iload_n 0, 1) := by decide +kernel
theorem dJ3_checkIndex_8e157_11 : decode cJ3_checkIndex_8e157 11 = .ok (.iload_n 1, 1) := by decide +kernel
theorem dJ3_checkIndex_8e157_12 : decode cJ3_checkIndex_8e157 12 = .ok (.invokestatic 95, 3) := by decide +kernel
theorem dJ3_checkIndex_8e157_15 : decode cJ3_checkIndex_8e157 15 = .ok (.athrow, 1) := by decide +kernel
theorem dJ3_checkIndex_8e157_16 : decode cJ3_checkIndex_8e157 16 = .ok (.iload_n 0, 1) := by decide +kernel
theorem dJ3_checkIndex_8e157_17 : decode cJ3_checkIndex_8e157 17 = .ok (.ireturn, 1) := by decide +kernel
theorem dJ3_checkFromToIndex_8c36e_0 : decode cJ3_checkFromToIndex_8c36e 0 = .ok (.iload_n 0, 1) := by decide +kernel
theorem dJ3_checkFromToIndex_8c36e_1 : decode cJ3_checkFromToIndex_8c36e 1 = .ok (.ifCond .lt 13, 3) := by decide +kernel
theorem dJ3_checkFromToIndex_8c36e_4 : decode cJ3_checkFromToIndex_8c36e 4 = .ok (.iload_n 0, 1) := by decide +kernel
theorem dJ3_checkFromToIndex_8c36e_5 : decode cJ3_checkFromToIndex_8c36e 5 = .ok (.iload_n 1, 1) := by decide +kernel
theorem dJ3_checkFromToIndex_8c36e_6 : decode cJ3_checkFromToIndex_8c36e 6 = .ok (.if_icmp .gt 8, 3) := by decide +kernel
theorem dJ3_checkFromToIndex_8c36e_9 : decode cJ3_checkFromToIndex_8c36e 9 = .ok (.iload_n 1, 1) := by decide +kernel
theorem dJ3_checkFromToIndex_8c36e_10 : decode cJ3_checkFromToIndex_8c36e 10 = .ok (.iload_n 2, 1) := by decide +kernel
theorem dJ3_checkFromToIndex_8c36e_11 : decode cJ3_checkFromToIndex_8c36e 11 = .ok (.if_icmp .le 11, 3) := by decide +kernel
theorem dJ3_checkFromToIndex_8c36e_14 : decode cJ3_checkFromToIndex_8c36e 14 = .ok (.aload_n 3, 1) := by decide +kernel
theorem dJ3_checkFromToIndex_8c36e_15 : decode cJ3_checkFromToIndex_8c36e 15 = .ok (.iload_n 0, 1) := by decide +kernel
theorem dJ3_checkFromToIndex_8c36e_16 : decode cJ3_checkFromToIndex_8c36e 16 = .ok (.iload_n 1, 1) := by decide +kernel
theorem dJ3_checkFromToIndex_8c36e_17 : decode cJ3_checkFromToIndex_8c36e 17 = .ok (.iload_n 2, 1) := by decide +kernel
theorem dJ3_checkFromToIndex_8c36e_18 : decode cJ3_checkFromToIndex_8c36e 18 = .ok (.invokestatic 99, 3) := by decide +kernel
theorem dJ3_checkFromToIndex_8c36e_21 : decode cJ3_checkFromToIndex_8c36e 21 = .ok (.athrow, 1) := by decide +kernel
theorem dJ3_checkFromToIndex_8c36e_22 : decode cJ3_checkFromToIndex_8c36e 22 = .ok (.iload_n 0, 1) := by decide +kernel
theorem dJ3_checkFromToIndex_8c36e_23 : decode cJ3_checkFromToIndex_8c36e 23 = .ok (.ireturn, 1) := by decide +kernel
end
section
theorem dX7_init_0 : decode cX7_init 0 = .ok (.aload_n 0, 1) := by decide +kernel
theorem dX7_init_1 : decode cX7_init 1 = .ok (.invokespecial 1, 3) := by decide +kernel
theorem dX7_init_4 : decode cX7_init 4 = .ok (.aload_n 0, 1) := by decide +kernel
theorem dX7_init_5 : decode cX7_init 5 = .ok (.sipush 1443, 3) := by decide +kernel
theorem dX7_init_8 : decode cX7_init 8 = .ok (.newarray .int, 2) := by decide +kernel
theorem dX7_init_10 : decode cX7_init 10 = .ok (.putfield 9, 3) := by decide +kernel
theorem dX7_init_13 : decode cX7_init 13 = .ok (.aload_n 0, 1) := by decide +kernel
theorem dX7_init_14 : decode cX7_init 14 = .ok (.sipush 1443, 3) := by decide +kernel
theorem dX7_init_17 : decode cX7_init 17 = .ok (.newarray .int, 2) := by decide +kernel
theorem dX7_init_19 : decode cX7_init 19 = .ok (.putfield 13, 3) := by decide +kernel
theorem dX7_init_22 : decode cX7_init 22 = .ok (.aload_n 0, 1) := by decide +kernel
theorem dX7_init_23 : decode cX7_init 23 = .ok (.sipush 1443, 3) := by decide +kernel
theorem dX7_init_26 : decode cX7_init 26 = .ok (.newarray .int, 2) := by decide +kernel
theorem dX7_init_28 : decode cX7_init 28 = .ok (.putfield 16, 3) := by decide +kernel
theorem dX7_init_31 : decode cX7_init 31 = .ok (.aload_n 0, 1) := by decide +kernel
theorem dX7_init_32 : decode cX7_init 32 = .ok (.bipush 10, 2) := by decide +kernel
theorem dX7_init_34 : decode cX7_init 34 = .ok (.newarray .int, 2) := by decide +kernel
theorem dX7_init_36 : decode cX7_init 36 = .ok (.putfield 19, 3) := by decide +kernel
theorem dX7_init_39 : decode cX7_init 39 = .ok (.aload_n 0, 1) := by decide +kernel
theorem dX7_init_40 : decode cX7_init 40 = .ok (.bipush 13, 2) := by decide +kernel
theorem dX7_init_42 : decode cX7_init 42 = .ok (.newarray .int, 2) := by decide +kernel
theorem dX7_init_44 : decode cX7_init 44 = .ok (.putfield 22, 3) := by decide +kernel
theorem dX7_init_47 : decode cX7_init 47 = .ok (.aload_n 0, 1) := by decide +kernel
theorem dX7_init_48 : decode cX7_init 48 = .ok (.bipush 71, 2) := by decide +kernel
theorem dX7_init_50 : decode cX7_init 50 = .ok (.newarray .int, 2) := by decide +kernel
theorem dX7_init_52 : decode cX7_init 52 = .ok (.putfield 25, 3) := by decide +kernel
theorem dX7_init_55 : decode cX7_init 55 = .ok (.aload_n 0, 1) := by decide +kernel
theorem dX7_init_56 : decode cX7_init 56 = .ok (.bipush 96, 2) := by decide +kernel
theorem dX7_init_58 : decode cX7_init 58 = .ok (.newarray .int, 2) := by decide +kernel
theorem dX7_init_60 : decode cX7_init 60 = .ok (.putfield 28, 3) := by decide +kernel
theorem dX7_init_63 : decode cX7_init 63 = .ok (.aload_n 0, 1) := by decide +kernel
theorem dX7_init_64 : decode cX7_init 64 = .ok (.bipush 11, 2) := by decide +kernel
theorem dX7_init_66 : decode cX7_init 66 = .ok (.newarray .char, 2) := by decide +kernel
theorem dX7_init_68 : decode cX7_init 68 = .ok (.dup, 1) := by decide +kernel
theorem dX7_init_69 : decode cX7_init 69 = .ok (.iconst 0, 1) := by decide +kernel
theorem dX7_init_70 : decode cX7_init 70 = .ok (.bipush 115, 2) := by decide +kernel
theorem dX7_init_72 : decode cX7_init 72 = .ok (.castore, 1) := by decide +kernel
theorem dX7_init_73 : decode cX7_init 73 = .ok (.dup, 1) := by decide +kernel
theorem dX7_init_74 : decode cX7_init 74 = .ok (.iconst 1, 1) := by decide +kernel
theorem dX7_init_75 : decode cX7_init 75 = .ok (.bipush 119, 2) := by decide +kernel
theorem dX7_init_77 : decode cX7_init 77 = .ok (.castore, 1) := by decide +kernel
theorem dX7_init_78 : decode cX7_init 78 = .ok (.dup, 1) := by decide +kernel
theorem dX7_init_79 : decode cX7_init 79 = .ok (.iconst 2, 1) := by decide +kernel
theorem dX7_init_80 : decode cX7_init 80 = .ok (.bipush 97, 2) := by decide +kernel
theorem dX7_init_82 : decode cX7_init 82 = .ok (.castore, 1) := by decide +kernel
theorem dX7_init_83 : decode cX7_init 83 = .ok (.dup, 1) := by decide +kernel
theorem dX7_init_84 : decode cX7_init 84 = .ok (.iconst 3, 1) := by decide +kernel
theorem dX7_init_85 : decode cX7_init 85 = .ok (.bipush 121, 2) := by decide +kernel
theorem dX7_init_87 : decode cX7_init 87 = .ok (.castore, 1) := by decide +kernel
theorem dX7_init_88 : decode cX7_init 88 = .ok (.dup, 1) := by decide +kernel
theorem dX7_init_89 : decode cX7_init 89 = .ok (.iconst 4, 1) := by decide +kernel
theorem dX7_init_90 : decode cX7_init 90 = .ok (.bipush 102, 2) := by decide +kernel
theorem dX7_init_92 : decode cX7_init 92 = .ok (.castore, 1) := by decide +kernel
theorem dX7_init_93 : decode cX7_init 93 = .ok (.dup, 1) := by decide +kernel
theorem dX7_init_94 : decode cX7_init 94 = .ok (.iconst 5, 1) := by decide +kernel
theorem dX7_init_95 : decode cX7_init 95 = .ok (.bipush 101, 2) := by decide +kernel
theorem dX7_init_97 : decode cX7_init 97 = .ok (.castore, 1) := by decide +kernel
theorem dX7_init_98 : decode cX7_init 98 = .ok (.dup, 1) := by decide +kernel
theorem dX7_init_99 : decode cX7_init 99 = .ok (.bipush 6, 2) := by decide +kernel
theorem dX7_init_101 : decode cX7_init 101 = .ok (.bipush 101, 2) := by decide +kernel
theorem dX7_init_103 : decode cX7_init 103 = .ok (.castore, 1) := by decide +kernel
theorem dX7_init_104 : decode cX7_init 104 = .ok (.dup, 1) := by decide +kernel
theorem dX7_init_105 : decode cX7_init 105 = .ok (.bipush 7, 2) := by decide +kernel
theorem dX7_init_107 : decode cX7_init 107 = .ok (.bipush 102, 2) := by decide +kernel
theorem dX7_init_109 : decode cX7_init 109 = .ok (.castore, 1) := by decide +kernel
theorem dX7_init_110 : decode cX7_init 110 = .ok (.dup, 1) := by decide +kernel
theorem dX7_init_111 : decode cX7_init 111 = .ok (.bipush 8, 2) := by decide +kernel
theorem dX7_init_113 : decode cX7_init 113 = .ok (.bipush 105, 2) := by decide +kernel
theorem dX7_init_115 : decode cX7_init 115 = .ok (.castore, 1) := by decide +kernel
theorem dX7_init_116 : decode cX7_init 116 = .ok (.dup, 1) := by decide +kernel
theorem dX7_init_117 : decode cX7_init 117 = .ok (.bipush 9, 2) := by decide +kernel
theorem dX7_init_119 : decode cX7_init 119 = .ok (.bipush 110, 2) := by decide +kernel
theorem dX7_init_121 : decode cX7_init 121 = .ok (.castore, 1) := by decide +kernel
theorem dX7_init_122 : decode cX7_init 122 = .ok (.dup, 1) := by decide +kernel
theorem dX7_init_123 : decode cX7_init 123 = .ok (.bipush 10, 2) := by decide +kernel
theorem dX7_init_125 : decode cX7_init 125 = .ok (.bipush 101, 2) := by decide +kernel
theorem dX7_init_127 : decode cX7_init 127 = .ok (.castore, 1) := by decide +kernel
theorem dX7_init_128 : decode cX7_init 128 = .ok (.putfield 31, 3) := by decide +kernel
theorem dX7_init_131 : decode cX7_init 131 = .ok (.aload_n 0, 1) := by decide +kernel
theorem dX7_init_132 : decode cX7_init 132 = .ok (.iconst 4, 1) := by decide +kernel
theorem dX7_init_133 : decode cX7_init 133 = .ok (.newarray .int, 2) := by decide +kernel
theorem dX7_init_135 : decode cX7_init 135 = .ok (.dup, 1) := by decide +kernel
theorem dX7_init_136 : decode cX7_init 136 = .ok (.iconst 0, 1) := by decide +kernel
theorem dX7_init_137 : decode cX7_init 137 = .ok (.iconst 0, 1) := by decide +kernel
theorem dX7_init_138 : decode cX7_init 138 = .ok (.iastore, 1) := by decide +kernel
theorem dX7_init_139 : decode cX7_init 139 = .ok (.dup, 1) := by decide +kernel
theorem dX7_init_140 : decode cX7_init 140 = .ok (.iconst 1, 1) := by decide +kernel
theorem dX7_init_141 : decode cX7_init 141 = .ok (.iconst 4, 1) := by decide +kernel
theorem dX7_init_142 : decode cX7_init 142 = .ok (.iastore, 1) := by decide +kernel
theorem dX7_init_143 : decode cX7_init 143 = .ok (.dup, 1) := by decide +kernel
theorem dX7_init_144 : decode cX7_init 144 = .ok (.iconst 2, 1) := by decide +kernel
theorem dX7_init_145 : decode cX7_init 145 = .ok (.bipush 7, 2) := by decide +kernel
theorem dX7_init_147 : decode cX7_init 147 = .ok (.iastore, 1) := by decide +kernel
theorem dX7_init_148 : decode cX7_init 148 = .ok (.dup, 1) := by decide +kernel
theorem dX7_init_149 : decode cX7_init 149 = .ok (.iconst 3, 1) := by decide +kernel
theorem dX7_init_150 : decode cX7_init 150 = .ok (.bipush 11, 2) := by decide +kernel
theorem dX7_init_152 : decode cX7_init 152 = .ok (.iastore, 1) := by decide +kernel
theorem dX7_init_153 : decode cX7_init 153 = .ok (.putfield 35, 3) := by decide +kernel
theorem dX7_init_156 : decode cX7_init 156 = .ok (.aload_n 0, 1) := by decide +kernel
theorem dX7_init_157 : decode cX7_init 157 = .ok (.bipush 96, 2) := by decide +kernel
theorem dX7_init_159 : decode cX7_init 159 = .ok (.newarray .int, 2) := by decide +kernel
theorem dX7_init_161 : decode cX7_init 161 = .ok (.putfield 38, 3) := by decide +kernel
theorem dX7_init_164 : decode cX7_init 164 = .ok (.aload_n 0, 1) := by decide +kernel
theorem dX7_init_165 : decode cX7_init 165 = .ok (.bipush 96, 2) := by decide +kernel
theorem dX7_init_167 : decode cX7_init 167 = .ok (.newarray .int, 2) := by decide +kernel
theorem dX7_init_169 : decode cX7_init 169 = .ok (.putfield 41, 3) := by decide +kernel
theorem dX7_init_172 : decode cX7_init 172 = .ok (.aload_n 0, 1) := by decide +kernel
theorem dX7_init_173 : decode cX7_init 173 = .ok (.bipush 10, 2) := by decide +kernel
theorem dX7_init_175 : decode cX7_init 175 = .ok (.newarray .boolean, 2) := by decide +kernel
theorem dX7_init_177 : decode cX7_init 177 = .ok (.putfield 44, 3) := by decide +kernel
theorem dX7_init_180 : decode cX7_init 180 = .ok (.aload_n 0, 1) := by decide +kernel
theorem dX7_init_181 : decode cX7_init 181 = .ok (.bipush 96, 2) := by decide +kernel
theorem dX7_init_183 : decode cX7_init 183 = .ok (.newarray .int, 2) := by decide +kernel
theorem dX7_init_185 : decode cX7_init 185 = .ok (.putfield 48, 3) := by decide +kernel
theorem dX7_init_188 : decode cX7_init 188 = .ok (.aload_n 0, 1) := by decide +kernel
theorem dX7_init_189 : decode cX7_init 189 = .ok (.iconst 4, 1) := by decide +kernel
theorem dX7_init_190 : decode cX7_init 190 = .ok (.newarray .int, 2) := by decide +kernel
theorem dX7_init_192 : decode cX7_init 192 = .ok (.putfield 51, 3) := by decide +kernel
theorem dX7_init_195 : decode cX7_init 195 = .ok (.aload_n 0, 1) := by decide +kernel
theorem dX7_init_196 : decode cX7_init 196 = .ok (.iconst 4, 1) := by decide +kernel
theorem dX7_init_197 : decode cX7_init 197 = .ok (.newarray .int, 2) := by decide +kernel
theorem dX7_init_199 : decode cX7_init 199 = .ok (.dup, 1) := by decide +kernel
theorem dX7_init_200 : decode cX7_init 200 = .ok (.iconst 0, 1) := by decide +kernel
theorem dX7_init_201 : decode cX7_init 201 = .ok (.iconst (-1), 1) := by decide +kernel
theorem dX7_init_202 : decode cX7_init 202 = .ok (.iastore, 1) := by decide +kernel
theorem dX7_init_203 : decode cX7_init 203 = .ok (.dup, 1) := by decide +kernel
theorem dX7_init_204 : decode cX7_init 204 = .ok (.iconst 1, 1) := by decide +kernel
theorem dX7_init_205 : decode cX7_init 205 = .ok (.iconst (-1), 1) := by decide +kernel
theorem dX7_init_206 : decode cX7_init 206 = .ok (.iastore, 1) := by decide +kernel
theorem dX7_init_207 : decode cX7_init 207 = .ok (.dup, 1) := by decide +kernel
theorem dX7_init_208 : decode cX7_init 208 = .ok (.iconst 2, 1) := by decide +kernel
theorem dX7_init_209 : decode cX7_init 209 = .ok (.iconst (-1), 1) := by decide +kernel
theorem dX7_init_210 : decode cX7_init 210 = .ok (.iastore, 1) := by decide +kernel
theorem dX7_init_211 : decode cX7_init 211 = .ok (.dup, 1) := by decide +kernel
theorem dX7_init_212 : decode cX7_init 212 = .ok (.iconst 3, 1) := by decide +kernel
theorem dX7_init_213 : decode cX7_init 213 = .ok (.iconst (-1), 1) := by decide +kernel
theorem dX7_init_214 : decode cX7_init 214 = .ok (.iastore, 1) := by decide +kernel
theorem dX7_init_215 : decode cX7_init 215 = .ok (.putfield 54, 3) := by decide +kernel
theorem dX7_init_218 : decode cX7_init 218 = .ok (.aload_n 0, 1) := by decide +kernel
theorem dX7_init_219 : decode cX7_init 219 = .ok (.iconst 4, 1) := by decide +kernel
theorem dX7_init_220 : decode cX7_init 220 = .ok (.newarray .int, 2) := by decide +kernel
theorem dX7_init_222 : decode cX7_init 222 = .ok (.putfield 57, 3) := by decide +kernel
theorem dX7_init_225 : decode cX7_init 225 = .ok (.aload_n 0, 1) := by decide +kernel
theorem dX7_init_226 : decode cX7_init 226 = .ok (.bipush 96, 2) := by decide +kernel
theorem dX7_init_228 : decode cX7_init 228 = .ok (.newarray .int, 2) := by decide +kernel
theorem dX7_init_230 : decode cX7_init 230 = .ok (.putfield 60, 3) := by decide +kernel
theorem dX7_init_233 : decode cX7_init 233 = .ok (.aload_n 0, 1) := by decide +kernel
theorem dX7_init_234 : decode cX7_init 234 = .ok (.iconst 5, 1) := by decide +kernel
theorem dX7_init_235 : decode cX7_init 235 = .ok (.newarray .int, 2) := by decide +kernel
theorem dX7_init_237 : decode cX7_init 237 = .ok (.putfield 63, 3) := by decide +kernel
theorem dX7_init_240 : decode cX7_init 240 = .ok (.aload_n 0, 1) := by decide +kernel
theorem dX7_init_241 : decode cX7_init 241 = .ok (.iconst 5, 1) := by decide +kernel
theorem dX7_init_242 : decode cX7_init 242 = .ok (.newarray .int, 2) := by decide +kernel
theorem dX7_init_244 : decode cX7_init 244 = .ok (.putfield 66, 3) := by decide +kernel
theorem dX7_init_247 : decode cX7_init 247 = .ok (.aload_n 0, 1) := by decide +kernel
theorem dX7_init_248 : decode cX7_init 248 = .ok (.iconst 5, 1) := by decide +kernel
theorem dX7_init_249 : decode cX7_init 249 = .ok (.newarray .int, 2) := by decide +kernel
theorem dX7_init_251 : decode cX7_init 251 = .ok (.putfield 69, 3) := by decide +kernel
theorem dX7_init_254 : decode cX7_init 254 = .ok (.aload_n 0, 1) := by decide +kernel
theorem dX7_init_255 : decode cX7_init 255 = .ok (.bipush 120, 2) := by decide +kernel
theorem dX7_init_257 : decode cX7_init 257 = .ok (.newarray .int, 2) := by decide +kernel
theorem dX7_init_259 : decode cX7_init 259 = .ok (.putfield 72, 3) := by decide +kernel
theorem dX7_init_262 : decode cX7_init 262 = .ok (.aload_n 0, 1) := by decide +kernel
theorem dX7_init_263 : decode cX7_init 263 = .ok (.bipush 24, 2) := by decide +kernel
theorem dX7_init_265 : decode cX7_init 265 = .ok (.newarray .int, 2) := by decide +kernel
theorem dX7_init_267 : decode cX7_init 267 = .ok (.putfield 75, 3) := by decide +kernel
theorem dX7_init_270 : decode cX7_init 270 = .ok (.aload_n 0, 1) := by decide +kernel
theorem dX7_init_271 : decode cX7_init 271 = .ok (.bipush 60, 2) := by decide +kernel
theorem dX7_init_273 : decode cX7_init 273 = .ok (.newarray .int, 2) := by decide +kernel
theorem dX7_init_275 : decode cX7_init 275 = .ok (.putfield 78, 3) := by decide +kernel
theorem dX7_init_278 : decode cX7_init 278 = .ok (.aload_n 0, 1) := by decide +kernel
theorem dX7_init_279 : decode cX7_init 279 = .ok (.getfield 9, 3) := by decide +kernel
theorem dX7_init_282 : decode cX7_init 282 = .ok (.iconst 0, 1) := by decide +kernel
theorem dX7_init_283 : decode cX7_init 283 = .ok (.iconst 1, 1) := by decide +kernel
theorem dX7_init_284 : decode cX7_init 284 = .ok (.iastore, 1) := by decide +kernel
theorem dX7_init_285 : decode cX7_init 285 = .ok (.aload_n 0, 1) := by decide +kernel
theorem dX7_init_286 : decode cX7_init 286 = .ok (.getfield 9, 3) := by decide +kernel
theorem dX7_init_289 : decode cX7_init 289 = .ok (.iconst 5, 1) := by decide +kernel
theorem dX7_init_290 : decode cX7_init 290 = .ok (.bipush 50, 2) := by decide +kernel
theorem dX7_init_292 : decode cX7_init 292 = .ok (.iastore, 1) := by decide +kernel
theorem dX7_init_293 : decode cX7_init 293 = .ok (.aload_n 0, 1) := by decide +kernel
theorem dX7_init_294 : decode cX7_init 294 = .ok (.getfield 9, 3) := by decide +kernel
theorem dX7_init_297 : decode cX7_init 297 = .ok (.bipush 6, 2) := by decide +kernel
theorem dX7_init_299 : decode cX7_init 299 = .ok (.bipush 10, 2) := by decide +kernel
theorem dX7_init_301 : decode cX7_init 301 = .ok (.iastore, 1) := by decide +kernel
theorem dX7_init_302 : decode cX7_init 302 = .ok (.aload_n 0, 1) := by decide +kernel
theorem dX7_init_303 : decode cX7_init 303 = .ok (.getfield 9, 3) := by decide +kernel
theorem dX7_init_306 : decode cX7_init 306 = .ok (.bipush 7, 2) := by decide +kernel
theorem dX7_init_308 : decode cX7_init 308 = .ok (.iconst (-1), 1) := by decide +kernel
theorem dX7_init_309 : decode cX7_init 309 = .ok (.iastore, 1) := by decide +kernel
theorem dX7_init_310 : decode cX7_init 310 = .ok (.aload_n 0, 1) := by decide +kernel
theorem dX7_init_311 : decode cX7_init 311 = .ok (.getfield 9, 3) := by decide +kernel
theorem dX7_init_314 : decode cX7_init 314 = .ok (.bipush 8, 2) := by decide +kernel
theorem dX7_init_316 : decode cX7_init 316 = .ok (.iconst 3, 1) := by decide +kernel
theorem dX7_init_317 : decode cX7_init 317 = .ok (.iastore, 1) := by decide +kernel
theorem dX7_init_318 : decode cX7_init 318 = .ok (.return_, 1) := by decide +kernel
theorem dX7_in_0 : decode cX7_in 0 = .ok (.iload_n 0, 1) := by decide +kernel
theorem dX7_in_1 : decode cX7_in 1 = .ok (.iload_n 1, 1) := by decide +kernel
theorem dX7_in_2 : decode cX7_in 2 = .ok (.if_icmp .lt 12, 3) := by decide +kernel
theorem dX7_in_5 : decode cX7_in 5 = .ok (.iload_n 0, 1) := by decide +kernel
theorem dX7_in_6 : decode cX7_in 6 = .ok (.iload_n 2, 1) := by decide +kernel
theorem dX7_in_7 : decode cX7_in 7 = .ok (.if_icmp .gt 7, 3) := by decide +kernel
theorem dX7_in_10 : decode cX7_in 10 = .ok (.iconst 1, 1) := by decide +kernel
theorem dX7_in_11 : decode cX7_in 11 = .ok (.goto 4, 3) := by decide +kernel
theorem dX7_in_14 : decode cX7_in 14 = .ok (.iconst 0, 1) := by decide +kernel
theorem dX7_in_15 : decode cX7_in 15 = .ok (.ireturn, 1) := by decide +kernel
theorem dX7_within_0 : decode cX7_within 0 = .ok (.iload_n 0, 1) := by decide +kernel
theorem dX7_within_1 : decode cX7_within 1 = .ok (.iload_n 1, 1) := by decide +kernel
theorem dX7_within_2 : decode cX7_within 2 = .ok (.if_icmp .ge 7, 3) := by decide +kernel
theorem dX7_within_5 : decode cX7_within 5 = .ok (.iload_n 1, 1) := by decide +kernel
theorem dX7_within_6 : decode cX7_within 6 = .ok (.goto 13, 3) := by decide +kernel
theorem dX7_within_9 : decode cX7_within 9 = .ok (.iload_n 0, 1) := by decide +kernel
theorem dX7_within_10 : decode cX7_within 10 = .ok (.iload_n 2, 1) := by decide +kernel
theorem dX7_within_11 : decode cX7_within 11 = .ok (.if_icmp .le 7, 3) := by decide +kernel
theorem dX7_within_14 : decode cX7_within 14 = .ok (.iload_n 2, 1) := by decide +kernel
theorem dX7_within_15 : decode cX7_within 15 = .ok (.goto 4, 3) := by decide +kernel
theorem dX7_within_18 : decode cX7_within 18 = .ok (.iload_n 0, 1) := by decide +kernel
theorem dX7_within_19 : decode cX7_within 19 = .ok (.ireturn, 1) := by decide +kernel
theorem dX7_copyAll_0 : decode cX7_copyAll 0 = .ok (.iconst 0, 1) := by decide +kernel
theorem dX7_copyAll_1 : decode cX7_copyAll 1 = .ok (.istore_n 2, 1) := by decide +kernel
theorem dX7_copyAll_2 : decode cX7_copyAll 2 = .ok (.iload_n 2, 1) := by decide +kernel
theorem dX7_copyAll_3 : decode cX7_copyAll 3 = .ok (.sipush 1443, 3) := by decide +kernel
theorem dX7_copyAll_6 : decode cX7_copyAll 6 = .ok (.if_icmp .ge 15, 3) := by decide +kernel
theorem dX7_copyAll_9 : decode cX7_copyAll 9 = .ok (.aload_n 1, 1) := by decide +kernel
theorem dX7_copyAll_10 : decode cX7_copyAll 10 = .ok (.iload_n 2, 1) := by decide +kernel
theorem dX7_copyAll_11 : decode cX7_copyAll 11 = .ok (.aload_n 0, 1) := by decide +kernel
theorem dX7_copyAll_12 : decode cX7_copyAll 12 = .ok (.iload_n 2, 1) := by decide +kernel
theorem dX7_copyAll_13 : decode cX7_copyAll 13 = .ok (.iaload, 1) := by decide +kernel
theorem dX7_copyAll_14 : decode cX7_copyAll 14 = .ok (.iastore, 1) := by decide +kernel
theorem dX7_copyAll_15 : decode cX7_copyAll 15 = .ok (.iinc 2 1, 3) := by decide +kernel
theorem dX7_copyAll_18 : decode cX7_copyAll 18 = .ok (.goto (-16), 3) := by decide +kernel
theorem dX7_copyAll_21 : decode cX7_copyAll 21 = .ok (.return_, 1) := by decide +kernel
theorem dX7_told0_0 : decode cX7_told0 0 = .ok (.iload_n 0, 1) := by decide +kernel
theorem dX7_told0_1 : decode cX7_told0 1 = .ok (.ifCond .ge 8, 3) := by decide +kernel
theorem dX7_told0_4 : decode cX7_told0 4 = .ok (.ldc 81, 2) := by decide +kernel
theorem dX7_told0_6 : decode cX7_told0 6 = .ok (.goto 4, 3) := by decide +kernel
theorem dX7_told0_9 : decode cX7_told0 9 = .ok (.iload_n 0, 1) := by decide +kernel
theorem dX7_told0_10 : decode cX7_told0 10 = .ok (.ireturn, 1) := by decide +kernel
theorem dX7_isVoter_0 : decode cX7_isVoter 0 = .ok (.iload_n 1, 1) := by decide +kernel
theorem dX7_isVoter_1 : decode cX7_isVoter 1 = .ok (.iconst 0, 1) := by decide +kernel
theorem dX7_isVoter_2 : decode cX7_isVoter 2 = .ok (.aload_n 0, 1) := by decide +kernel
theorem dX7_isVoter_3 : decode cX7_isVoter 3 = .ok (.getfield 9, 3) := by decide +kernel
theorem dX7_isVoter_6 : decode cX7_isVoter 6 = .ok (.iconst 1, 1) := by decide +kernel
theorem dX7_isVoter_7 : decode cX7_isVoter 7 = .ok (.iaload, 1) := by decide +kernel
theorem dX7_isVoter_8 : decode cX7_isVoter 8 = .ok (.iconst 1, 1) := by decide +kernel
theorem dX7_isVoter_9 : decode cX7_isVoter 9 = .ok (.isub, 1) := by decide +kernel
theorem dX7_isVoter_10 : decode cX7_isVoter 10 = .ok (.invokestatic 82, 3) := by decide +kernel
theorem dX7_isVoter_13 : decode cX7_isVoter 13 = .ok (.ireturn, 1) := by decide +kernel
theorem dX7_of_0 : decode cX7_of 0 = .ok (.aload_n 0, 1) := by decide +kernel
theorem dX7_of_1 : decode cX7_of 1 = .ok (.getfield 9, 3) := by decide +kernel
theorem dX7_of_4 : decode cX7_of 4 = .ok (.bipush 11, 2) := by decide +kernel
theorem dX7_of_6 : decode cX7_of 6 = .ok (.bipush 6, 2) := by decide +kernel
theorem dX7_of_8 : decode cX7_of 8 = .ok (.iload_n 1, 1) := by decide +kernel
theorem dX7_of_9 : decode cX7_of 9 = .ok (.imul, 1) := by decide +kernel
theorem dX7_of_10 : decode cX7_of 10 = .ok (.iadd, 1) := by decide +kernel
theorem dX7_of_11 : decode cX7_of 11 = .ok (.iload_n 2, 1) := by decide +kernel
theorem dX7_of_12 : decode cX7_of 12 = .ok (.iadd, 1) := by decide +kernel
theorem dX7_of_13 : decode cX7_of 13 = .ok (.iaload, 1) := by decide +kernel
theorem dX7_of_14 : decode cX7_of 14 = .ok (.ireturn, 1) := by decide +kernel
theorem dX7_put_0 : decode cX7_put 0 = .ok (.aload_n 0, 1) := by decide +kernel
theorem dX7_put_1 : decode cX7_put 1 = .ok (.getfield 9, 3) := by decide +kernel
theorem dX7_put_4 : decode cX7_put 4 = .ok (.bipush 11, 2) := by decide +kernel
theorem dX7_put_6 : decode cX7_put 6 = .ok (.bipush 6, 2) := by decide +kernel
theorem dX7_put_8 : decode cX7_put 8 = .ok (.iload_n 1, 1) := by decide +kernel
theorem dX7_put_9 : decode cX7_put 9 = .ok (.imul, 1) := by decide +kernel
theorem dX7_put_10 : decode cX7_put 10 = .ok (.iadd, 1) := by decide +kernel
theorem dX7_put_11 : decode cX7_put 11 = .ok (.iload_n 2, 1) := by decide +kernel
theorem dX7_put_12 : decode cX7_put 12 = .ok (.iadd, 1) := by decide +kernel
theorem dX7_put_13 : decode cX7_put 13 = .ok (.iload_n 3, 1) := by decide +kernel
theorem dX7_put_14 : decode cX7_put 14 = .ok (.iastore, 1) := by decide +kernel
theorem dX7_put_15 : decode cX7_put 15 = .ok (.return_, 1) := by decide +kernel
theorem dX7_becomes_0 : decode cX7_becomes 0 = .ok (.aload_n 0, 1) := by decide +kernel
theorem dX7_becomes_1 : decode cX7_becomes 1 = .ok (.getfield 9, 3) := by decide +kernel
theorem dX7_becomes_4 : decode cX7_becomes 4 = .ok (.iload_n 1, 1) := by decide +kernel
theorem dX7_becomes_5 : decode cX7_becomes 5 = .ok (.iaload, 1) := by decide +kernel
theorem dX7_becomes_6 : decode cX7_becomes 6 = .ok (.istore_n 3, 1) := by decide +kernel
theorem dX7_becomes_7 : decode cX7_becomes 7 = .ok (.aload_n 0, 1) := by decide +kernel
theorem dX7_becomes_8 : decode cX7_becomes 8 = .ok (.getfield 9, 3) := by decide +kernel
theorem dX7_becomes_11 : decode cX7_becomes 11 = .ok (.iload_n 1, 1) := by decide +kernel
theorem dX7_becomes_12 : decode cX7_becomes 12 = .ok (.iload_n 2, 1) := by decide +kernel
theorem dX7_becomes_13 : decode cX7_becomes 13 = .ok (.iastore, 1) := by decide +kernel
theorem dX7_becomes_14 : decode cX7_becomes 14 = .ok (.iload_n 3, 1) := by decide +kernel
theorem dX7_becomes_15 : decode cX7_becomes 15 = .ok (.ireturn, 1) := by decide +kernel
theorem dX7_comes_0 : decode cX7_comes 0 = .ok (.aload_n 0, 1) := by decide +kernel
theorem dX7_comes_1 : decode cX7_comes 1 = .ok (.getfield 9, 3) := by decide +kernel
theorem dX7_comes_4 : decode cX7_comes 4 = .ok (.iconst 1, 1) := by decide +kernel
theorem dX7_comes_5 : decode cX7_comes 5 = .ok (.iaload, 1) := by decide +kernel
theorem dX7_comes_6 : decode cX7_comes 6 = .ok (.istore 5, 2) := by decide +kernel
theorem dX7_comes_8 : decode cX7_comes 8 = .ok (.aload_n 0, 1) := by decide +kernel
theorem dX7_comes_9 : decode cX7_comes 9 = .ok (.getfield 9, 3) := by decide +kernel
theorem dX7_comes_12 : decode cX7_comes 12 = .ok (.iconst 1, 1) := by decide +kernel
theorem dX7_comes_13 : decode cX7_comes 13 = .ok (.dup2, 1) := by decide +kernel
theorem dX7_comes_14 : decode cX7_comes 14 = .ok (.iaload, 1) := by decide +kernel
theorem dX7_comes_15 : decode cX7_comes 15 = .ok (.iconst 1, 1) := by decide +kernel
theorem dX7_comes_16 : decode cX7_comes 16 = .ok (.iadd, 1) := by decide +kernel
theorem dX7_comes_17 : decode cX7_comes 17 = .ok (.iastore, 1) := by decide +kernel
theorem dX7_comes_18 : decode cX7_comes 18 = .ok (.aload_n 0, 1) := by decide +kernel
theorem dX7_comes_19 : decode cX7_comes 19 = .ok (.iload 5, 2) := by decide +kernel
theorem dX7_comes_21 : decode cX7_comes 21 = .ok (.iconst 0, 1) := by decide +kernel
theorem dX7_comes_22 : decode cX7_comes 22 = .ok (.iload_n 1, 1) := by decide +kernel
theorem dX7_comes_23 : decode cX7_comes 23 = .ok (.invokevirtual 86, 3) := by decide +kernel
theorem dX7_comes_26 : decode cX7_comes 26 = .ok (.aload_n 0, 1) := by decide +kernel
theorem dX7_comes_27 : decode cX7_comes 27 = .ok (.iload 5, 2) := by decide +kernel
theorem dX7_comes_29 : decode cX7_comes 29 = .ok (.iconst 1, 1) := by decide +kernel
theorem dX7_comes_30 : decode cX7_comes 30 = .ok (.iload_n 2, 1) := by decide +kernel
theorem dX7_comes_31 : decode cX7_comes 31 = .ok (.invokevirtual 86, 3) := by decide +kernel
theorem dX7_comes_34 : decode cX7_comes 34 = .ok (.aload_n 0, 1) := by decide +kernel
theorem dX7_comes_35 : decode cX7_comes 35 = .ok (.iload 5, 2) := by decide +kernel
theorem dX7_comes_37 : decode cX7_comes 37 = .ok (.iconst 2, 1) := by decide +kernel
theorem dX7_comes_38 : decode cX7_comes 38 = .ok (.iload_n 3, 1) := by decide +kernel
theorem dX7_comes_39 : decode cX7_comes 39 = .ok (.invokevirtual 86, 3) := by decide +kernel
theorem dX7_comes_42 : decode cX7_comes 42 = .ok (.aload_n 0, 1) := by decide +kernel
theorem dX7_comes_43 : decode cX7_comes 43 = .ok (.iload 5, 2) := by decide +kernel
theorem dX7_comes_45 : decode cX7_comes 45 = .ok (.iconst 3, 1) := by decide +kernel
theorem dX7_comes_46 : decode cX7_comes 46 = .ok (.iload 4, 2) := by decide +kernel
theorem dX7_comes_48 : decode cX7_comes 48 = .ok (.invokevirtual 86, 3) := by decide +kernel
theorem dX7_comes_51 : decode cX7_comes 51 = .ok (.aload_n 0, 1) := by decide +kernel
theorem dX7_comes_52 : decode cX7_comes 52 = .ok (.iload 5, 2) := by decide +kernel
theorem dX7_comes_54 : decode cX7_comes 54 = .ok (.iconst 4, 1) := by decide +kernel
theorem dX7_comes_55 : decode cX7_comes 55 = .ok (.iconst 3, 1) := by decide +kernel
theorem dX7_comes_56 : decode cX7_comes 56 = .ok (.invokevirtual 86, 3) := by decide +kernel
theorem dX7_comes_59 : decode cX7_comes 59 = .ok (.aload_n 0, 1) := by decide +kernel
theorem dX7_comes_60 : decode cX7_comes 60 = .ok (.iload 5, 2) := by decide +kernel
theorem dX7_comes_62 : decode cX7_comes 62 = .ok (.iconst 5, 1) := by decide +kernel
theorem dX7_comes_63 : decode cX7_comes 63 = .ok (.iconst (-1), 1) := by decide +kernel
theorem dX7_comes_64 : decode cX7_comes 64 = .ok (.invokevirtual 86, 3) := by decide +kernel
theorem dX7_comes_67 : decode cX7_comes 67 = .ok (.iload 5, 2) := by decide +kernel
theorem dX7_comes_69 : decode cX7_comes 69 = .ok (.ireturn, 1) := by decide +kernel
theorem dX7_voter_0 : decode cX7_voter 0 = .ok (.iload_n 1, 1) := by decide +kernel
theorem dX7_voter_1 : decode cX7_voter 1 = .ok (.iconst 0, 1) := by decide +kernel
theorem dX7_voter_2 : decode cX7_voter 2 = .ok (.iconst 5, 1) := by decide +kernel
theorem dX7_voter_3 : decode cX7_voter 3 = .ok (.invokestatic 82, 3) := by decide +kernel
theorem dX7_voter_6 : decode cX7_voter 6 = .ok (.ifCond .eq 33, 3) := by decide +kernel
theorem dX7_voter_9 : decode cX7_voter 9 = .ok (.iload_n 2, 1) := by decide +kernel
theorem dX7_voter_10 : decode cX7_voter 10 = .ok (.iconst 0, 1) := by decide +kernel
theorem dX7_voter_11 : decode cX7_voter 11 = .ok (.bipush 9, 2) := by decide +kernel
theorem dX7_voter_13 : decode cX7_voter 13 = .ok (.invokestatic 82, 3) := by decide +kernel
theorem dX7_voter_16 : decode cX7_voter 16 = .ok (.ifCond .eq 23, 3) := by decide +kernel
theorem dX7_voter_19 : decode cX7_voter 19 = .ok (.iload_n 3, 1) := by decide +kernel
theorem dX7_voter_20 : decode cX7_voter 20 = .ok (.iconst 0, 1) := by decide +kernel
theorem dX7_voter_21 : decode cX7_voter 21 = .ok (.iconst 3, 1) := by decide +kernel
theorem dX7_voter_22 : decode cX7_voter 22 = .ok (.invokestatic 82, 3) := by decide +kernel
theorem dX7_voter_25 : decode cX7_voter 25 = .ok (.ifCond .eq 14, 3) := by decide +kernel
theorem dX7_voter_28 : decode cX7_voter 28 = .ok (.iload 4, 2) := by decide +kernel
theorem dX7_voter_30 : decode cX7_voter 30 = .ok (.iconst 0, 1) := by decide +kernel
theorem dX7_voter_31 : decode cX7_voter 31 = .ok (.bipush 99, 2) := by decide +kernel
theorem dX7_voter_33 : decode cX7_voter 33 = .ok (.invokestatic 82, 3) := by decide +kernel
theorem dX7_voter_36 : decode cX7_voter 36 = .ok (.ifCond .ne 6, 3) := by decide +kernel
theorem dX7_voter_39 : decode cX7_voter 39 = .ok (.ldc 90, 2) := by decide +kernel
theorem dX7_voter_41 : decode cX7_voter 41 = .ok (.ireturn, 1) := by decide +kernel
theorem dX7_voter_42 : decode cX7_voter 42 = .ok (.aload_n 0, 1) := by decide +kernel
theorem dX7_voter_43 : decode cX7_voter 43 = .ok (.getfield 9, 3) := by decide +kernel
theorem dX7_voter_46 : decode cX7_voter 46 = .ok (.iconst 1, 1) := by decide +kernel
theorem dX7_voter_47 : decode cX7_voter 47 = .ok (.iaload, 1) := by decide +kernel
theorem dX7_voter_48 : decode cX7_voter 48 = .ok (.bipush 10, 2) := by decide +kernel
theorem dX7_voter_50 : decode cX7_voter 50 = .ok (.if_icmp .ne 8, 3) := by decide +kernel
theorem dX7_voter_53 : decode cX7_voter 53 = .ok (.ldc 91, 2) := by decide +kernel
theorem dX7_voter_55 : decode cX7_voter 55 = .ok (.goto 12, 3) := by decide +kernel
theorem dX7_voter_58 : decode cX7_voter 58 = .ok (.aload_n 0, 1) := by decide +kernel
theorem dX7_voter_59 : decode cX7_voter 59 = .ok (.iload_n 1, 1) := by decide +kernel
theorem dX7_voter_60 : decode cX7_voter 60 = .ok (.iload_n 2, 1) := by decide +kernel
theorem dX7_voter_61 : decode cX7_voter 61 = .ok (.iload_n 3, 1) := by decide +kernel
theorem dX7_voter_62 : decode cX7_voter 62 = .ok (.iload 4, 2) := by decide +kernel
theorem dX7_voter_64 : decode cX7_voter 64 = .ok (.invokevirtual 92, 3) := by decide +kernel
theorem dX7_voter_67 : decode cX7_voter 67 = .ok (.ireturn, 1) := by decide +kernel
theorem dX7_weightOf_0 : decode cX7_weightOf 0 = .ok (.aload_n 0, 1) := by decide +kernel
theorem dX7_weightOf_1 : decode cX7_weightOf 1 = .ok (.iload_n 1, 1) := by decide +kernel
theorem dX7_weightOf_2 : decode cX7_weightOf 2 = .ok (.iconst 0, 1) := by decide +kernel
theorem dX7_weightOf_3 : decode cX7_weightOf 3 = .ok (.invokevirtual 96, 3) := by decide +kernel
theorem dX7_weightOf_6 : decode cX7_weightOf 6 = .ok (.iconst 5, 1) := by decide +kernel
theorem dX7_weightOf_7 : decode cX7_weightOf 7 = .ok (.if_icmp .ne 7, 3) := by decide +kernel
theorem dX7_weightOf_10 : decode cX7_weightOf 10 = .ok (.iconst 2, 1) := by decide +kernel
theorem dX7_weightOf_11 : decode cX7_weightOf 11 = .ok (.goto 4, 3) := by decide +kernel
theorem dX7_weightOf_14 : decode cX7_weightOf 14 = .ok (.iconst 1, 1) := by decide +kernel
theorem dX7_weightOf_15 : decode cX7_weightOf 15 = .ok (.ireturn, 1) := by decide +kernel
theorem dX7_has_0 : decode cX7_has 0 = .ok (.iconst 0, 1) := by decide +kernel
theorem dX7_has_1 : decode cX7_has 1 = .ok (.istore_n 2, 1) := by decide +kernel
theorem dX7_has_2 : decode cX7_has 2 = .ok (.iconst 0, 1) := by decide +kernel
theorem dX7_has_3 : decode cX7_has 3 = .ok (.istore_n 3, 1) := by decide +kernel
theorem dX7_has_4 : decode cX7_has 4 = .ok (.iload_n 3, 1) := by decide +kernel
theorem dX7_has_5 : decode cX7_has 5 = .ok (.aload_n 0, 1) := by decide +kernel
theorem dX7_has_6 : decode cX7_has 6 = .ok (.getfield 9, 3) := by decide +kernel
theorem dX7_has_9 : decode cX7_has 9 = .ok (.iconst 1, 1) := by decide +kernel
theorem dX7_has_10 : decode cX7_has 10 = .ok (.iaload, 1) := by decide +kernel
theorem dX7_has_11 : decode cX7_has 11 = .ok (.if_icmp .ge 31, 3) := by decide +kernel
theorem dX7_has_14 : decode cX7_has 14 = .ok (.iload_n 2, 1) := by decide +kernel
theorem dX7_has_15 : decode cX7_has 15 = .ok (.aload_n 0, 1) := by decide +kernel
theorem dX7_has_16 : decode cX7_has 16 = .ok (.iload_n 3, 1) := by decide +kernel
theorem dX7_has_17 : decode cX7_has 17 = .ok (.iconst 5, 1) := by decide +kernel
theorem dX7_has_18 : decode cX7_has 18 = .ok (.invokevirtual 96, 3) := by decide +kernel
theorem dX7_has_21 : decode cX7_has 21 = .ok (.iload_n 1, 1) := by decide +kernel
theorem dX7_has_22 : decode cX7_has 22 = .ok (.if_icmp .ne 11, 3) := by decide +kernel
theorem dX7_has_25 : decode cX7_has 25 = .ok (.aload_n 0, 1) := by decide +kernel
theorem dX7_has_26 : decode cX7_has 26 = .ok (.iload_n 3, 1) := by decide +kernel
theorem dX7_has_27 : decode cX7_has 27 = .ok (.invokevirtual 100, 3) := by decide +kernel
theorem dX7_has_30 : decode cX7_has 30 = .ok (.goto 4, 3) := by decide +kernel
theorem dX7_has_33 : decode cX7_has 33 = .ok (.iconst 0, 1) := by decide +kernel
theorem dX7_has_34 : decode cX7_has 34 = .ok (.iadd, 1) := by decide +kernel
theorem dX7_has_35 : decode cX7_has 35 = .ok (.istore_n 2, 1) := by decide +kernel
theorem dX7_has_36 : decode cX7_has 36 = .ok (.iinc 3 1, 3) := by decide +kernel
theorem dX7_has_39 : decode cX7_has 39 = .ok (.goto (-35), 3) := by decide +kernel
theorem dX7_has_42 : decode cX7_has 42 = .ok (.iload_n 2, 1) := by decide +kernel
theorem dX7_has_43 : decode cX7_has 43 = .ok (.ireturn, 1) := by decide +kernel
theorem dX7_mostOf_0 : decode cX7_mostOf 0 = .ok (.iconst (-1), 1) := by decide +kernel
theorem dX7_mostOf_1 : decode cX7_mostOf 1 = .ok (.istore_n 2, 1) := by decide +kernel
theorem dX7_mostOf_2 : decode cX7_mostOf 2 = .ok (.iconst 0, 1) := by decide +kernel
theorem dX7_mostOf_3 : decode cX7_mostOf 3 = .ok (.istore_n 3, 1) := by decide +kernel
theorem dX7_mostOf_4 : decode cX7_mostOf 4 = .ok (.iload_n 3, 1) := by decide +kernel
theorem dX7_mostOf_5 : decode cX7_mostOf 5 = .ok (.aload_n 0, 1) := by decide +kernel
theorem dX7_mostOf_6 : decode cX7_mostOf 6 = .ok (.getfield 9, 3) := by decide +kernel
theorem dX7_mostOf_9 : decode cX7_mostOf 9 = .ok (.iconst 1, 1) := by decide +kernel
theorem dX7_mostOf_10 : decode cX7_mostOf 10 = .ok (.iaload, 1) := by decide +kernel
theorem dX7_mostOf_11 : decode cX7_mostOf 11 = .ok (.if_icmp .ge 37, 3) := by decide +kernel
theorem dX7_mostOf_14 : decode cX7_mostOf 14 = .ok (.iload_n 1, 1) := by decide +kernel
theorem dX7_mostOf_15 : decode cX7_mostOf 15 = .ok (.iload_n 3, 1) := by decide +kernel
theorem dX7_mostOf_16 : decode cX7_mostOf 16 = .ok (.ishr, 1) := by decide +kernel
theorem dX7_mostOf_17 : decode cX7_mostOf 17 = .ok (.iconst 1, 1) := by decide +kernel
theorem dX7_mostOf_18 : decode cX7_mostOf 18 = .ok (.iand, 1) := by decide +kernel
theorem dX7_mostOf_19 : decode cX7_mostOf 19 = .ok (.iconst 1, 1) := by decide +kernel
theorem dX7_mostOf_20 : decode cX7_mostOf 20 = .ok (.if_icmp .ne 22, 3) := by decide +kernel
theorem dX7_mostOf_23 : decode cX7_mostOf 23 = .ok (.iload_n 2, 1) := by decide +kernel
theorem dX7_mostOf_24 : decode cX7_mostOf 24 = .ok (.ifCond .lt 16, 3) := by decide +kernel
theorem dX7_mostOf_27 : decode cX7_mostOf 27 = .ok (.aload_n 0, 1) := by decide +kernel
theorem dX7_mostOf_28 : decode cX7_mostOf 28 = .ok (.iload_n 3, 1) := by decide +kernel
theorem dX7_mostOf_29 : decode cX7_mostOf 29 = .ok (.invokevirtual 104, 3) := by decide +kernel
theorem dX7_mostOf_32 : decode cX7_mostOf 32 = .ok (.aload_n 0, 1) := by decide +kernel
theorem dX7_mostOf_33 : decode cX7_mostOf 33 = .ok (.iload_n 2, 1) := by decide +kernel
theorem dX7_mostOf_34 : decode cX7_mostOf 34 = .ok (.invokevirtual 104, 3) := by decide +kernel
theorem dX7_mostOf_37 : decode cX7_mostOf 37 = .ok (.if_icmp .le 5, 3) := by decide +kernel
theorem dX7_mostOf_40 : decode cX7_mostOf 40 = .ok (.iload_n 3, 1) := by decide +kernel
theorem dX7_mostOf_41 : decode cX7_mostOf 41 = .ok (.istore_n 2, 1) := by decide +kernel
theorem dX7_mostOf_42 : decode cX7_mostOf 42 = .ok (.iinc 3 1, 3) := by decide +kernel
theorem dX7_mostOf_45 : decode cX7_mostOf 45 = .ok (.goto (-41), 3) := by decide +kernel
theorem dX7_mostOf_48 : decode cX7_mostOf 48 = .ok (.iload_n 2, 1) := by decide +kernel
theorem dX7_mostOf_49 : decode cX7_mostOf 49 = .ok (.ireturn, 1) := by decide +kernel
theorem dX7_all_0 : decode cX7_all 0 = .ok (.iconst 1, 1) := by decide +kernel
theorem dX7_all_1 : decode cX7_all 1 = .ok (.aload_n 0, 1) := by decide +kernel
theorem dX7_all_2 : decode cX7_all 2 = .ok (.getfield 9, 3) := by decide +kernel
theorem dX7_all_5 : decode cX7_all 5 = .ok (.iconst 1, 1) := by decide +kernel
theorem dX7_all_6 : decode cX7_all 6 = .ok (.iaload, 1) := by decide +kernel
theorem dX7_all_7 : decode cX7_all 7 = .ok (.ishl, 1) := by decide +kernel
theorem dX7_all_8 : decode cX7_all 8 = .ok (.iconst 1, 1) := by decide +kernel
theorem dX7_all_9 : decode cX7_all 9 = .ok (.isub, 1) := by decide +kernel
theorem dX7_all_10 : decode cX7_all 10 = .ok (.ireturn, 1) := by decide +kernel
theorem dX7_runners_0 : decode cX7_runners 0 = .ok (.aload_n 0, 1) := by decide +kernel
theorem dX7_runners_1 : decode cX7_runners 1 = .ok (.aload_n 0, 1) := by decide +kernel
theorem dX7_runners_2 : decode cX7_runners 2 = .ok (.invokevirtual 107, 3) := by decide +kernel
theorem dX7_runners_5 : decode cX7_runners 5 = .ok (.invokevirtual 111, 3) := by decide +kernel
theorem dX7_runners_8 : decode cX7_runners 8 = .ok (.istore_n 1, 1) := by decide +kernel
theorem dX7_runners_9 : decode cX7_runners 9 = .ok (.aload_n 0, 1) := by decide +kernel
theorem dX7_runners_10 : decode cX7_runners 10 = .ok (.getfield 9, 3) := by decide +kernel
theorem dX7_runners_13 : decode cX7_runners 13 = .ok (.iconst 3, 1) := by decide +kernel
theorem dX7_runners_14 : decode cX7_runners 14 = .ok (.iaload, 1) := by decide +kernel
theorem dX7_runners_15 : decode cX7_runners 15 = .ok (.aload_n 0, 1) := by decide +kernel
theorem dX7_runners_16 : decode cX7_runners 16 = .ok (.getfield 9, 3) := by decide +kernel
theorem dX7_runners_19 : decode cX7_runners 19 = .ok (.bipush 6, 2) := by decide +kernel
theorem dX7_runners_21 : decode cX7_runners 21 = .ok (.iaload, 1) := by decide +kernel
theorem dX7_runners_22 : decode cX7_runners 22 = .ok (.if_icmp .lt 15, 3) := by decide +kernel
theorem dX7_runners_25 : decode cX7_runners 25 = .ok (.iload_n 1, 1) := by decide +kernel
theorem dX7_runners_26 : decode cX7_runners 26 = .ok (.ifCond .lt 11, 3) := by decide +kernel
theorem dX7_runners_29 : decode cX7_runners 29 = .ok (.aload_n 0, 1) := by decide +kernel
theorem dX7_runners_30 : decode cX7_runners 30 = .ok (.iload_n 1, 1) := by decide +kernel
theorem dX7_runners_31 : decode cX7_runners 31 = .ok (.invokevirtual 104, 3) := by decide +kernel
theorem dX7_runners_34 : decode cX7_runners 34 = .ok (.ifCond .ne 8, 3) := by decide +kernel
theorem dX7_runners_37 : decode cX7_runners 37 = .ok (.aload_n 0, 1) := by decide +kernel
theorem dX7_runners_38 : decode cX7_runners 38 = .ok (.invokevirtual 107, 3) := by decide +kernel
theorem dX7_runners_41 : decode cX7_runners 41 = .ok (.ireturn, 1) := by decide +kernel
theorem dX7_runners_42 : decode cX7_runners 42 = .ok (.aload_n 0, 1) := by decide +kernel
theorem dX7_runners_43 : decode cX7_runners 43 = .ok (.aload_n 0, 1) := by decide +kernel
theorem dX7_runners_44 : decode cX7_runners 44 = .ok (.invokevirtual 107, 3) := by decide +kernel
theorem dX7_runners_47 : decode cX7_runners 47 = .ok (.iconst 1, 1) := by decide +kernel
theorem dX7_runners_48 : decode cX7_runners 48 = .ok (.iload_n 1, 1) := by decide +kernel
theorem dX7_runners_49 : decode cX7_runners 49 = .ok (.ishl, 1) := by decide +kernel
theorem dX7_runners_50 : decode cX7_runners 50 = .ok (.iconst (-1), 1) := by decide +kernel
theorem dX7_runners_51 : decode cX7_runners 51 = .ok (.ixor, 1) := by decide +kernel
theorem dX7_runners_52 : decode cX7_runners 52 = .ok (.iand, 1) := by decide +kernel
theorem dX7_runners_53 : decode cX7_runners 53 = .ok (.invokevirtual 111, 3) := by decide +kernel
theorem dX7_runners_56 : decode cX7_runners 56 = .ok (.istore_n 2, 1) := by decide +kernel
theorem dX7_runners_57 : decode cX7_runners 57 = .ok (.iconst 1, 1) := by decide +kernel
theorem dX7_runners_58 : decode cX7_runners 58 = .ok (.iload_n 1, 1) := by decide +kernel
theorem dX7_runners_59 : decode cX7_runners 59 = .ok (.ishl, 1) := by decide +kernel
theorem dX7_runners_60 : decode cX7_runners 60 = .ok (.iload_n 2, 1) := by decide +kernel
theorem dX7_runners_61 : decode cX7_runners 61 = .ok (.ifCond .lt 11, 3) := by decide +kernel
theorem dX7_runners_64 : decode cX7_runners 64 = .ok (.aload_n 0, 1) := by decide +kernel
theorem dX7_runners_65 : decode cX7_runners 65 = .ok (.iload_n 2, 1) := by decide +kernel
theorem dX7_runners_66 : decode cX7_runners 66 = .ok (.invokevirtual 104, 3) := by decide +kernel
theorem dX7_runners_69 : decode cX7_runners 69 = .ok (.ifCond .ne 7, 3) := by decide +kernel
theorem dX7_runners_72 : decode cX7_runners 72 = .ok (.iconst 0, 1) := by decide +kernel
theorem dX7_runners_73 : decode cX7_runners 73 = .ok (.goto 6, 3) := by decide +kernel
theorem dX7_runners_76 : decode cX7_runners 76 = .ok (.iconst 1, 1) := by decide +kernel
theorem dX7_runners_77 : decode cX7_runners 77 = .ok (.iload_n 2, 1) := by decide +kernel
theorem dX7_runners_78 : decode cX7_runners 78 = .ok (.ishl, 1) := by decide +kernel
theorem dX7_runners_79 : decode cX7_runners 79 = .ok (.ior, 1) := by decide +kernel
theorem dX7_runners_80 : decode cX7_runners 80 = .ok (.ireturn, 1) := by decide +kernel
theorem dX7_ofParty_0 : decode cX7_ofParty 0 = .ok (.iconst 0, 1) := by decide +kernel
theorem dX7_ofParty_1 : decode cX7_ofParty 1 = .ok (.istore_n 2, 1) := by decide +kernel
theorem dX7_ofParty_2 : decode cX7_ofParty 2 = .ok (.iconst 0, 1) := by decide +kernel
theorem dX7_ofParty_3 : decode cX7_ofParty 3 = .ok (.istore_n 3, 1) := by decide +kernel
theorem dX7_ofParty_4 : decode cX7_ofParty 4 = .ok (.iload_n 3, 1) := by decide +kernel
theorem dX7_ofParty_5 : decode cX7_ofParty 5 = .ok (.aload_n 0, 1) := by decide +kernel
theorem dX7_ofParty_6 : decode cX7_ofParty 6 = .ok (.getfield 9, 3) := by decide +kernel
theorem dX7_ofParty_9 : decode cX7_ofParty 9 = .ok (.iconst 1, 1) := by decide +kernel
theorem dX7_ofParty_10 : decode cX7_ofParty 10 = .ok (.iaload, 1) := by decide +kernel
theorem dX7_ofParty_11 : decode cX7_ofParty 11 = .ok (.if_icmp .ge 29, 3) := by decide +kernel
theorem dX7_ofParty_14 : decode cX7_ofParty 14 = .ok (.iload_n 2, 1) := by decide +kernel
theorem dX7_ofParty_15 : decode cX7_ofParty 15 = .ok (.aload_n 0, 1) := by decide +kernel
theorem dX7_ofParty_16 : decode cX7_ofParty 16 = .ok (.iload_n 3, 1) := by decide +kernel
theorem dX7_ofParty_17 : decode cX7_ofParty 17 = .ok (.iconst 2, 1) := by decide +kernel
theorem dX7_ofParty_18 : decode cX7_ofParty 18 = .ok (.invokevirtual 96, 3) := by decide +kernel
theorem dX7_ofParty_21 : decode cX7_ofParty 21 = .ok (.iload_n 1, 1) := by decide +kernel
theorem dX7_ofParty_22 : decode cX7_ofParty 22 = .ok (.if_icmp .ne 9, 3) := by decide +kernel
theorem dX7_ofParty_25 : decode cX7_ofParty 25 = .ok (.iconst 1, 1) := by decide +kernel
theorem dX7_ofParty_26 : decode cX7_ofParty 26 = .ok (.iload_n 3, 1) := by decide +kernel
theorem dX7_ofParty_27 : decode cX7_ofParty 27 = .ok (.ishl, 1) := by decide +kernel
theorem dX7_ofParty_28 : decode cX7_ofParty 28 = .ok (.goto 4, 3) := by decide +kernel
theorem dX7_ofParty_31 : decode cX7_ofParty 31 = .ok (.iconst 0, 1) := by decide +kernel
theorem dX7_ofParty_32 : decode cX7_ofParty 32 = .ok (.ior, 1) := by decide +kernel
theorem dX7_ofParty_33 : decode cX7_ofParty 33 = .ok (.istore_n 2, 1) := by decide +kernel
theorem dX7_ofParty_34 : decode cX7_ofParty 34 = .ok (.iinc 3 1, 3) := by decide +kernel
theorem dX7_ofParty_37 : decode cX7_ofParty 37 = .ok (.goto (-33), 3) := by decide +kernel
theorem dX7_ofParty_40 : decode cX7_ofParty 40 = .ok (.iload_n 2, 1) := by decide +kernel
theorem dX7_ofParty_41 : decode cX7_ofParty 41 = .ok (.ireturn, 1) := by decide +kernel
theorem dX7_plainly_0 : decode cX7_plainly 0 = .ok (.iload_n 2, 1) := by decide +kernel
theorem dX7_plainly_1 : decode cX7_plainly 1 = .ok (.aload_n 0, 1) := by decide +kernel
theorem dX7_plainly_2 : decode cX7_plainly 2 = .ok (.iload_n 1, 1) := by decide +kernel
theorem dX7_plainly_3 : decode cX7_plainly 3 = .ok (.iconst 1, 1) := by decide +kernel
theorem dX7_plainly_4 : decode cX7_plainly 4 = .ok (.invokevirtual 96, 3) := by decide +kernel
theorem dX7_plainly_7 : decode cX7_plainly 7 = .ok (.ishr, 1) := by decide +kernel
theorem dX7_plainly_8 : decode cX7_plainly 8 = .ok (.iconst 1, 1) := by decide +kernel
theorem dX7_plainly_9 : decode cX7_plainly 9 = .ok (.iand, 1) := by decide +kernel
theorem dX7_plainly_10 : decode cX7_plainly 10 = .ok (.iconst 1, 1) := by decide +kernel
theorem dX7_plainly_11 : decode cX7_plainly 11 = .ok (.if_icmp .ne 12, 3) := by decide +kernel
theorem dX7_plainly_14 : decode cX7_plainly 14 = .ok (.aload_n 0, 1) := by decide +kernel
theorem dX7_plainly_15 : decode cX7_plainly 15 = .ok (.iload_n 1, 1) := by decide +kernel
theorem dX7_plainly_16 : decode cX7_plainly 16 = .ok (.iconst 1, 1) := by decide +kernel
theorem dX7_plainly_17 : decode cX7_plainly 17 = .ok (.invokevirtual 96, 3) := by decide +kernel
theorem dX7_plainly_20 : decode cX7_plainly 20 = .ok (.goto 8, 3) := by decide +kernel
theorem dX7_plainly_23 : decode cX7_plainly 23 = .ok (.aload_n 0, 1) := by decide +kernel
theorem dX7_plainly_24 : decode cX7_plainly 24 = .ok (.iload_n 2, 1) := by decide +kernel
theorem dX7_plainly_25 : decode cX7_plainly 25 = .ok (.invokevirtual 111, 3) := by decide +kernel
theorem dX7_plainly_28 : decode cX7_plainly 28 = .ok (.ireturn, 1) := by decide +kernel
theorem dX7_loyally_0 : decode cX7_loyally 0 = .ok (.aload_n 0, 1) := by decide +kernel
theorem dX7_loyally_1 : decode cX7_loyally 1 = .ok (.iload_n 2, 1) := by decide +kernel
theorem dX7_loyally_2 : decode cX7_loyally 2 = .ok (.aload_n 0, 1) := by decide +kernel
theorem dX7_loyally_3 : decode cX7_loyally 3 = .ok (.aload_n 0, 1) := by decide +kernel
theorem dX7_loyally_4 : decode cX7_loyally 4 = .ok (.iload_n 1, 1) := by decide +kernel
theorem dX7_loyally_5 : decode cX7_loyally 5 = .ok (.iconst 2, 1) := by decide +kernel
theorem dX7_loyally_6 : decode cX7_loyally 6 = .ok (.invokevirtual 96, 3) := by decide +kernel
theorem dX7_loyally_9 : decode cX7_loyally 9 = .ok (.invokevirtual 114, 3) := by decide +kernel
theorem dX7_loyally_12 : decode cX7_loyally 12 = .ok (.iand, 1) := by decide +kernel
theorem dX7_loyally_13 : decode cX7_loyally 13 = .ok (.invokevirtual 111, 3) := by decide +kernel
theorem dX7_loyally_16 : decode cX7_loyally 16 = .ok (.istore_n 3, 1) := by decide +kernel
theorem dX7_loyally_17 : decode cX7_loyally 17 = .ok (.iload_n 3, 1) := by decide +kernel
theorem dX7_loyally_18 : decode cX7_loyally 18 = .ok (.ifCond .ge 12, 3) := by decide +kernel
theorem dX7_loyally_21 : decode cX7_loyally 21 = .ok (.aload_n 0, 1) := by decide +kernel
theorem dX7_loyally_22 : decode cX7_loyally 22 = .ok (.iload_n 1, 1) := by decide +kernel
theorem dX7_loyally_23 : decode cX7_loyally 23 = .ok (.iload_n 2, 1) := by decide +kernel
theorem dX7_loyally_24 : decode cX7_loyally 24 = .ok (.invokevirtual 117, 3) := by decide +kernel
theorem dX7_loyally_27 : decode cX7_loyally 27 = .ok (.goto 4, 3) := by decide +kernel
theorem dX7_loyally_30 : decode cX7_loyally 30 = .ok (.iload_n 3, 1) := by decide +kernel
theorem dX7_loyally_31 : decode cX7_loyally 31 = .ok (.ireturn, 1) := by decide +kernel
theorem dX7_swayed_0 : decode cX7_swayed 0 = .ok (.aload_n 0, 1) := by decide +kernel
theorem dX7_swayed_1 : decode cX7_swayed 1 = .ok (.iconst 0, 1) := by decide +kernel
theorem dX7_swayed_2 : decode cX7_swayed 2 = .ok (.invokevirtual 120, 3) := by decide +kernel
theorem dX7_swayed_5 : decode cX7_swayed 5 = .ok (.istore_n 3, 1) := by decide +kernel
theorem dX7_swayed_6 : decode cX7_swayed 6 = .ok (.aload_n 0, 1) := by decide +kernel
theorem dX7_swayed_7 : decode cX7_swayed 7 = .ok (.getfield 51, 3) := by decide +kernel
theorem dX7_swayed_10 : decode cX7_swayed 10 = .ok (.iconst 0, 1) := by decide +kernel
theorem dX7_swayed_11 : decode cX7_swayed 11 = .ok (.aload_n 0, 1) := by decide +kernel
theorem dX7_swayed_12 : decode cX7_swayed 12 = .ok (.iload_n 1, 1) := by decide +kernel
theorem dX7_swayed_13 : decode cX7_swayed 13 = .ok (.iconst 3, 1) := by decide +kernel
theorem dX7_swayed_14 : decode cX7_swayed 14 = .ok (.invokevirtual 96, 3) := by decide +kernel
theorem dX7_swayed_17 : decode cX7_swayed 17 = .ok (.iastore, 1) := by decide +kernel
theorem dX7_swayed_18 : decode cX7_swayed 18 = .ok (.aload_n 0, 1) := by decide +kernel
theorem dX7_swayed_19 : decode cX7_swayed 19 = .ok (.getfield 51, 3) := by decide +kernel
theorem dX7_swayed_22 : decode cX7_swayed 22 = .ok (.iconst 1, 1) := by decide +kernel
theorem dX7_swayed_23 : decode cX7_swayed 23 = .ok (.aload_n 0, 1) := by decide +kernel
theorem dX7_swayed_24 : decode cX7_swayed 24 = .ok (.getfield 9, 3) := by decide +kernel
theorem dX7_swayed_27 : decode cX7_swayed 27 = .ok (.iconst 3, 1) := by decide +kernel
theorem dX7_swayed_28 : decode cX7_swayed 28 = .ok (.iaload, 1) := by decide +kernel
theorem dX7_swayed_29 : decode cX7_swayed 29 = .ok (.iastore, 1) := by decide +kernel
theorem dX7_swayed_30 : decode cX7_swayed 30 = .ok (.aload_n 0, 1) := by decide +kernel
theorem dX7_swayed_31 : decode cX7_swayed 31 = .ok (.getfield 51, 3) := by decide +kernel
theorem dX7_swayed_34 : decode cX7_swayed 34 = .ok (.iconst 2, 1) := by decide +kernel
theorem dX7_swayed_35 : decode cX7_swayed 35 = .ok (.aload_n 0, 1) := by decide +kernel
theorem dX7_swayed_36 : decode cX7_swayed 36 = .ok (.iload_n 1, 1) := by decide +kernel
theorem dX7_swayed_37 : decode cX7_swayed 37 = .ok (.iconst 2, 1) := by decide +kernel
theorem dX7_swayed_38 : decode cX7_swayed 38 = .ok (.invokevirtual 96, 3) := by decide +kernel
theorem dX7_swayed_41 : decode cX7_swayed 41 = .ok (.iastore, 1) := by decide +kernel
theorem dX7_swayed_42 : decode cX7_swayed 42 = .ok (.iload_n 3, 1) := by decide +kernel
theorem dX7_swayed_43 : decode cX7_swayed 43 = .ok (.ifCond .ge 15, 3) := by decide +kernel
theorem dX7_swayed_46 : decode cX7_swayed 46 = .ok (.aload_n 0, 1) := by decide +kernel
theorem dX7_swayed_47 : decode cX7_swayed 47 = .ok (.iload_n 1, 1) := by decide +kernel
theorem dX7_swayed_48 : decode cX7_swayed 48 = .ok (.iconst 3, 1) := by decide +kernel
theorem dX7_swayed_49 : decode cX7_swayed 49 = .ok (.invokevirtual 96, 3) := by decide +kernel
theorem dX7_swayed_52 : decode cX7_swayed 52 = .ok (.bipush 10, 2) := by decide +kernel
theorem dX7_swayed_54 : decode cX7_swayed 54 = .ok (.idiv, 1) := by decide +kernel
theorem dX7_swayed_55 : decode cX7_swayed 55 = .ok (.goto 14, 3) := by decide +kernel
theorem dX7_swayed_58 : decode cX7_swayed 58 = .ok (.aload_n 0, 1) := by decide +kernel
theorem dX7_swayed_59 : decode cX7_swayed 59 = .ok (.iload_n 3, 1) := by decide +kernel
theorem dX7_swayed_60 : decode cX7_swayed 60 = .ok (.invokevirtual 123, 3) := by decide +kernel
theorem dX7_swayed_63 : decode cX7_swayed 63 = .ok (.iconst 0, 1) := by decide +kernel
theorem dX7_swayed_64 : decode cX7_swayed 64 = .ok (.bipush 99, 2) := by decide +kernel
theorem dX7_swayed_66 : decode cX7_swayed 66 = .ok (.invokestatic 126, 3) := by decide +kernel
theorem dX7_swayed_69 : decode cX7_swayed 69 = .ok (.istore 4, 2) := by decide +kernel
theorem dX7_swayed_71 : decode cX7_swayed 71 = .ok (.aload_n 0, 1) := by decide +kernel
theorem dX7_swayed_72 : decode cX7_swayed 72 = .ok (.iload_n 2, 1) := by decide +kernel
theorem dX7_swayed_73 : decode cX7_swayed 73 = .ok (.invokevirtual 111, 3) := by decide +kernel
theorem dX7_swayed_76 : decode cX7_swayed 76 = .ok (.istore 5, 2) := by decide +kernel
theorem dX7_swayed_78 : decode cX7_swayed 78 = .ok (.aload_n 0, 1) := by decide +kernel
theorem dX7_swayed_79 : decode cX7_swayed 79 = .ok (.iload 5, 2) := by decide +kernel
theorem dX7_swayed_81 : decode cX7_swayed 81 = .ok (.invokevirtual 104, 3) := by decide +kernel
theorem dX7_swayed_84 : decode cX7_swayed 84 = .ok (.iload 4, 2) := by decide +kernel
theorem dX7_swayed_86 : decode cX7_swayed 86 = .ok (.if_icmp .le 8, 3) := by decide +kernel
theorem dX7_swayed_89 : decode cX7_swayed 89 = .ok (.iload 5, 2) := by decide +kernel
theorem dX7_swayed_91 : decode cX7_swayed 91 = .ok (.goto 9, 3) := by decide +kernel
theorem dX7_swayed_94 : decode cX7_swayed 94 = .ok (.aload_n 0, 1) := by decide +kernel
theorem dX7_swayed_95 : decode cX7_swayed 95 = .ok (.iload_n 1, 1) := by decide +kernel
theorem dX7_swayed_96 : decode cX7_swayed 96 = .ok (.iload_n 2, 1) := by decide +kernel
theorem dX7_swayed_97 : decode cX7_swayed 97 = .ok (.invokevirtual 117, 3) := by decide +kernel
theorem dX7_swayed_100 : decode cX7_swayed 100 = .ok (.ireturn, 1) := by decide +kernel
theorem dX7_votesFor_0 : decode cX7_votesFor 0 = .ok (.aload_n 0, 1) := by decide +kernel
theorem dX7_votesFor_1 : decode cX7_votesFor 1 = .ok (.invokevirtual 130, 3) := by decide +kernel
theorem dX7_votesFor_4 : decode cX7_votesFor 4 = .ok (.istore_n 2, 1) := by decide +kernel
theorem dX7_votesFor_5 : decode cX7_votesFor 5 = .ok (.aload_n 0, 1) := by decide +kernel
theorem dX7_votesFor_6 : decode cX7_votesFor 6 = .ok (.iload_n 1, 1) := by decide +kernel
theorem dX7_votesFor_7 : decode cX7_votesFor 7 = .ok (.iconst 0, 1) := by decide +kernel
theorem dX7_votesFor_8 : decode cX7_votesFor 8 = .ok (.invokevirtual 96, 3) := by decide +kernel
theorem dX7_votesFor_11 : decode cX7_votesFor 11 = .ok (.tableswitch 97 1 4 #[29, 36, 43, 74], 29) := by decide +kernel
theorem dX7_votesFor_40 : decode cX7_votesFor 40 = .ok (.aload_n 0, 1) := by decide +kernel
theorem dX7_votesFor_41 : decode cX7_votesFor 41 = .ok (.iload_n 1, 1) := by decide +kernel
theorem dX7_votesFor_42 : decode cX7_votesFor 42 = .ok (.iload_n 2, 1) := by decide +kernel
theorem dX7_votesFor_43 : decode cX7_votesFor 43 = .ok (.invokevirtual 133, 3) := by decide +kernel
theorem dX7_votesFor_46 : decode cX7_votesFor 46 = .ok (.ireturn, 1) := by decide +kernel
theorem dX7_votesFor_47 : decode cX7_votesFor 47 = .ok (.aload_n 0, 1) := by decide +kernel
theorem dX7_votesFor_48 : decode cX7_votesFor 48 = .ok (.iload_n 1, 1) := by decide +kernel
theorem dX7_votesFor_49 : decode cX7_votesFor 49 = .ok (.iload_n 2, 1) := by decide +kernel
theorem dX7_votesFor_50 : decode cX7_votesFor 50 = .ok (.invokevirtual 136, 3) := by decide +kernel
theorem dX7_votesFor_53 : decode cX7_votesFor 53 = .ok (.ireturn, 1) := by decide +kernel
theorem dX7_votesFor_54 : decode cX7_votesFor 54 = .ok (.iload_n 2, 1) := by decide +kernel
theorem dX7_votesFor_55 : decode cX7_votesFor 55 = .ok (.iload_n 1, 1) := by decide +kernel
theorem dX7_votesFor_56 : decode cX7_votesFor 56 = .ok (.ishr, 1) := by decide +kernel
theorem dX7_votesFor_57 : decode cX7_votesFor 57 = .ok (.iconst 1, 1) := by decide +kernel
theorem dX7_votesFor_58 : decode cX7_votesFor 58 = .ok (.iand, 1) := by decide +kernel
theorem dX7_votesFor_59 : decode cX7_votesFor 59 = .ok (.iconst 1, 1) := by decide +kernel
theorem dX7_votesFor_60 : decode cX7_votesFor 60 = .ok (.if_icmp .ne 18, 3) := by decide +kernel
theorem dX7_votesFor_63 : decode cX7_votesFor 63 = .ok (.aload_n 0, 1) := by decide +kernel
theorem dX7_votesFor_64 : decode cX7_votesFor 64 = .ok (.iload_n 1, 1) := by decide +kernel
theorem dX7_votesFor_65 : decode cX7_votesFor 65 = .ok (.iconst 3, 1) := by decide +kernel
theorem dX7_votesFor_66 : decode cX7_votesFor 66 = .ok (.invokevirtual 96, 3) := by decide +kernel
theorem dX7_votesFor_69 : decode cX7_votesFor 69 = .ok (.bipush 50, 2) := by decide +kernel
theorem dX7_votesFor_71 : decode cX7_votesFor 71 = .ok (.if_icmp .lt 7, 3) := by decide +kernel
theorem dX7_votesFor_74 : decode cX7_votesFor 74 = .ok (.iload_n 1, 1) := by decide +kernel
theorem dX7_votesFor_75 : decode cX7_votesFor 75 = .ok (.goto 9, 3) := by decide +kernel
theorem dX7_votesFor_78 : decode cX7_votesFor 78 = .ok (.aload_n 0, 1) := by decide +kernel
theorem dX7_votesFor_79 : decode cX7_votesFor 79 = .ok (.iload_n 1, 1) := by decide +kernel
theorem dX7_votesFor_80 : decode cX7_votesFor 80 = .ok (.iload_n 2, 1) := by decide +kernel
theorem dX7_votesFor_81 : decode cX7_votesFor 81 = .ok (.invokevirtual 133, 3) := by decide +kernel
theorem dX7_votesFor_84 : decode cX7_votesFor 84 = .ok (.ireturn, 1) := by decide +kernel
theorem dX7_votesFor_85 : decode cX7_votesFor 85 = .ok (.aload_n 0, 1) := by decide +kernel
theorem dX7_votesFor_86 : decode cX7_votesFor 86 = .ok (.getfield 9, 3) := by decide +kernel
theorem dX7_votesFor_89 : decode cX7_votesFor 89 = .ok (.iconst 3, 1) := by decide +kernel
theorem dX7_votesFor_90 : decode cX7_votesFor 90 = .ok (.iaload, 1) := by decide +kernel
theorem dX7_votesFor_91 : decode cX7_votesFor 91 = .ok (.iconst 2, 1) := by decide +kernel
theorem dX7_votesFor_92 : decode cX7_votesFor 92 = .ok (.irem, 1) := by decide +kernel
theorem dX7_votesFor_93 : decode cX7_votesFor 93 = .ok (.iconst 1, 1) := by decide +kernel
theorem dX7_votesFor_94 : decode cX7_votesFor 94 = .ok (.if_icmp .ne 7, 3) := by decide +kernel
theorem dX7_votesFor_97 : decode cX7_votesFor 97 = .ok (.iconst (-1), 1) := by decide +kernel
theorem dX7_votesFor_98 : decode cX7_votesFor 98 = .ok (.goto 9, 3) := by decide +kernel
theorem dX7_votesFor_101 : decode cX7_votesFor 101 = .ok (.aload_n 0, 1) := by decide +kernel
theorem dX7_votesFor_102 : decode cX7_votesFor 102 = .ok (.iload_n 1, 1) := by decide +kernel
theorem dX7_votesFor_103 : decode cX7_votesFor 103 = .ok (.iload_n 2, 1) := by decide +kernel
theorem dX7_votesFor_104 : decode cX7_votesFor 104 = .ok (.invokevirtual 136, 3) := by decide +kernel
theorem dX7_votesFor_107 : decode cX7_votesFor 107 = .ok (.ireturn, 1) := by decide +kernel
theorem dX7_votesFor_108 : decode cX7_votesFor 108 = .ok (.aload_n 0, 1) := by decide +kernel
theorem dX7_votesFor_109 : decode cX7_votesFor 109 = .ok (.iload_n 1, 1) := by decide +kernel
theorem dX7_votesFor_110 : decode cX7_votesFor 110 = .ok (.iload_n 2, 1) := by decide +kernel
theorem dX7_votesFor_111 : decode cX7_votesFor 111 = .ok (.invokevirtual 117, 3) := by decide +kernel
theorem dX7_votesFor_114 : decode cX7_votesFor 114 = .ok (.ireturn, 1) := by decide +kernel
theorem dX7_worthOf_0 : decode cX7_worthOf 0 = .ok (.aload_n 0, 1) := by decide +kernel
theorem dX7_worthOf_1 : decode cX7_worthOf 1 = .ok (.iload_n 1, 1) := by decide +kernel
theorem dX7_worthOf_2 : decode cX7_worthOf 2 = .ok (.iconst 3, 1) := by decide +kernel
theorem dX7_worthOf_3 : decode cX7_worthOf 3 = .ok (.invokevirtual 96, 3) := by decide +kernel
theorem dX7_worthOf_6 : decode cX7_worthOf 6 = .ok (.istore_n 2, 1) := by decide +kernel
theorem dX7_worthOf_7 : decode cX7_worthOf 7 = .ok (.aload_n 0, 1) := by decide +kernel
theorem dX7_worthOf_8 : decode cX7_worthOf 8 = .ok (.iload_n 1, 1) := by decide +kernel
theorem dX7_worthOf_9 : decode cX7_worthOf 9 = .ok (.iconst 0, 1) := by decide +kernel
theorem dX7_worthOf_10 : decode cX7_worthOf 10 = .ok (.invokevirtual 96, 3) := by decide +kernel
theorem dX7_worthOf_13 : decode cX7_worthOf 13 = .ok (.tableswitch 59 1 5 #[35, 40, 45, 52, 57], 35) := by decide +kernel
theorem dX7_worthOf_48 : decode cX7_worthOf 48 = .ok (.iload_n 2, 1) := by decide +kernel
theorem dX7_worthOf_49 : decode cX7_worthOf 49 = .ok (.bipush 6, 2) := by decide +kernel
theorem dX7_worthOf_51 : decode cX7_worthOf 51 = .ok (.iadd, 1) := by decide +kernel
theorem dX7_worthOf_52 : decode cX7_worthOf 52 = .ok (.ireturn, 1) := by decide +kernel
theorem dX7_worthOf_53 : decode cX7_worthOf 53 = .ok (.bipush 99, 2) := by decide +kernel
theorem dX7_worthOf_55 : decode cX7_worthOf 55 = .ok (.iload_n 2, 1) := by decide +kernel
theorem dX7_worthOf_56 : decode cX7_worthOf 56 = .ok (.isub, 1) := by decide +kernel
theorem dX7_worthOf_57 : decode cX7_worthOf 57 = .ok (.ireturn, 1) := by decide +kernel
theorem dX7_worthOf_58 : decode cX7_worthOf 58 = .ok (.iconst 2, 1) := by decide +kernel
theorem dX7_worthOf_59 : decode cX7_worthOf 59 = .ok (.iload_n 2, 1) := by decide +kernel
theorem dX7_worthOf_60 : decode cX7_worthOf 60 = .ok (.bipush 6, 2) := by decide +kernel
theorem dX7_worthOf_62 : decode cX7_worthOf 62 = .ok (.iadd, 1) := by decide +kernel
theorem dX7_worthOf_63 : decode cX7_worthOf 63 = .ok (.imul, 1) := by decide +kernel
theorem dX7_worthOf_64 : decode cX7_worthOf 64 = .ok (.ireturn, 1) := by decide +kernel
theorem dX7_worthOf_65 : decode cX7_worthOf 65 = .ok (.bipush 91, 2) := by decide +kernel
theorem dX7_worthOf_67 : decode cX7_worthOf 67 = .ok (.iload_n 2, 1) := by decide +kernel
theorem dX7_worthOf_68 : decode cX7_worthOf 68 = .ok (.isub, 1) := by decide +kernel
theorem dX7_worthOf_69 : decode cX7_worthOf 69 = .ok (.ireturn, 1) := by decide +kernel
theorem dX7_worthOf_70 : decode cX7_worthOf 70 = .ok (.iconst 2, 1) := by decide +kernel
theorem dX7_worthOf_71 : decode cX7_worthOf 71 = .ok (.ireturn, 1) := by decide +kernel
theorem dX7_worthOf_72 : decode cX7_worthOf 72 = .ok (.iload_n 2, 1) := by decide +kernel
theorem dX7_worthOf_73 : decode cX7_worthOf 73 = .ok (.ireturn, 1) := by decide +kernel
theorem dX7_told_0 : decode cX7_told 0 = .ok (.aload_n 0, 1) := by decide +kernel
theorem dX7_told_1 : decode cX7_told 1 = .ok (.iload_n 1, 1) := by decide +kernel
theorem dX7_told_2 : decode cX7_told 2 = .ok (.invokevirtual 139, 3) := by decide +kernel
theorem dX7_told_5 : decode cX7_told 5 = .ok (.ifCond .ne 6, 3) := by decide +kernel
theorem dX7_told_8 : decode cX7_told 8 = .ok (.ldc 90, 2) := by decide +kernel
theorem dX7_told_10 : decode cX7_told 10 = .ok (.ireturn, 1) := by decide +kernel
theorem dX7_told_11 : decode cX7_told 11 = .ok (.iload_n 2, 1) := by decide +kernel
theorem dX7_told_12 : decode cX7_told 12 = .ok (.tableswitch 87 0 9 #[56, 56, 56, 56, 56, 56, 63, 69, 75, 81], 56) := by decide +kernel
theorem dX7_told_68 : decode cX7_told 68 = .ok (.aload_n 0, 1) := by decide +kernel
theorem dX7_told_69 : decode cX7_told 69 = .ok (.iload_n 1, 1) := by decide +kernel
theorem dX7_told_70 : decode cX7_told 70 = .ok (.iload_n 2, 1) := by decide +kernel
theorem dX7_told_71 : decode cX7_told 71 = .ok (.invokevirtual 96, 3) := by decide +kernel
theorem dX7_told_74 : decode cX7_told 74 = .ok (.ireturn, 1) := by decide +kernel
theorem dX7_told_75 : decode cX7_told 75 = .ok (.aload_n 0, 1) := by decide +kernel
theorem dX7_told_76 : decode cX7_told 76 = .ok (.iload_n 1, 1) := by decide +kernel
theorem dX7_told_77 : decode cX7_told 77 = .ok (.invokevirtual 104, 3) := by decide +kernel
theorem dX7_told_80 : decode cX7_told 80 = .ok (.ireturn, 1) := by decide +kernel
theorem dX7_told_81 : decode cX7_told 81 = .ok (.aload_n 0, 1) := by decide +kernel
theorem dX7_told_82 : decode cX7_told 82 = .ok (.iload_n 1, 1) := by decide +kernel
theorem dX7_told_83 : decode cX7_told 83 = .ok (.invokevirtual 143, 3) := by decide +kernel
theorem dX7_told_86 : decode cX7_told 86 = .ok (.ireturn, 1) := by decide +kernel
theorem dX7_told_87 : decode cX7_told 87 = .ok (.aload_n 0, 1) := by decide +kernel
theorem dX7_told_88 : decode cX7_told 88 = .ok (.iload_n 1, 1) := by decide +kernel
theorem dX7_told_89 : decode cX7_told 89 = .ok (.invokevirtual 100, 3) := by decide +kernel
theorem dX7_told_92 : decode cX7_told 92 = .ok (.ireturn, 1) := by decide +kernel
theorem dX7_told_93 : decode cX7_told 93 = .ok (.aload_n 0, 1) := by decide +kernel
theorem dX7_told_94 : decode cX7_told 94 = .ok (.iload_n 1, 1) := by decide +kernel
theorem dX7_told_95 : decode cX7_told 95 = .ok (.invokevirtual 146, 3) := by decide +kernel
theorem dX7_told_98 : decode cX7_told 98 = .ok (.ireturn, 1) := by decide +kernel
theorem dX7_told_99 : decode cX7_told 99 = .ok (.ldc 90, 2) := by decide +kernel
theorem dX7_told_101 : decode cX7_told 101 = .ok (.ireturn, 1) := by decide +kernel
theorem dX7_isUnder_0 : decode cX7_isUnder 0 = .ok (.iload_n 1, 1) := by decide +kernel
theorem dX7_isUnder_1 : decode cX7_isUnder 1 = .ok (.ifCond .eq 28, 3) := by decide +kernel
theorem dX7_isUnder_4 : decode cX7_isUnder 4 = .ok (.iload_n 0, 1) := by decide +kernel
theorem dX7_isUnder_5 : decode cX7_isUnder 5 = .ok (.iload_n 1, 1) := by decide +kernel
theorem dX7_isUnder_6 : decode cX7_isUnder 6 = .ok (.if_icmp .eq 23, 3) := by decide +kernel
theorem dX7_isUnder_9 : decode cX7_isUnder 9 = .ok (.iload_n 1, 1) := by decide +kernel
theorem dX7_isUnder_10 : decode cX7_isUnder 10 = .ok (.iconst 1, 1) := by decide +kernel
theorem dX7_isUnder_11 : decode cX7_isUnder 11 = .ok (.if_icmp .ne 8, 3) := by decide +kernel
theorem dX7_isUnder_14 : decode cX7_isUnder 14 = .ok (.iload_n 0, 1) := by decide +kernel
theorem dX7_isUnder_15 : decode cX7_isUnder 15 = .ok (.iconst 3, 1) := by decide +kernel
theorem dX7_isUnder_16 : decode cX7_isUnder 16 = .ok (.if_icmp .eq 13, 3) := by decide +kernel
theorem dX7_isUnder_19 : decode cX7_isUnder 19 = .ok (.iload_n 1, 1) := by decide +kernel
theorem dX7_isUnder_20 : decode cX7_isUnder 20 = .ok (.iconst 2, 1) := by decide +kernel
theorem dX7_isUnder_21 : decode cX7_isUnder 21 = .ok (.if_icmp .ne 12, 3) := by decide +kernel
theorem dX7_isUnder_24 : decode cX7_isUnder 24 = .ok (.iload_n 0, 1) := by decide +kernel
theorem dX7_isUnder_25 : decode cX7_isUnder 25 = .ok (.iconst 4, 1) := by decide +kernel
theorem dX7_isUnder_26 : decode cX7_isUnder 26 = .ok (.if_icmp .ne 7, 3) := by decide +kernel
theorem dX7_isUnder_29 : decode cX7_isUnder 29 = .ok (.iconst 1, 1) := by decide +kernel
theorem dX7_isUnder_30 : decode cX7_isUnder 30 = .ok (.goto 4, 3) := by decide +kernel
theorem dX7_isUnder_33 : decode cX7_isUnder 33 = .ok (.iconst 0, 1) := by decide +kernel
theorem dX7_isUnder_34 : decode cX7_isUnder 34 = .ok (.ireturn, 1) := by decide +kernel
theorem dX7_as_0 : decode cX7_as 0 = .ok (.aload_n 0, 1) := by decide +kernel
theorem dX7_as_1 : decode cX7_as 1 = .ok (.iload_n 1, 1) := by decide +kernel
theorem dX7_as_2 : decode cX7_as 2 = .ok (.invokevirtual 139, 3) := by decide +kernel
theorem dX7_as_5 : decode cX7_as 5 = .ok (.ifCond .eq 12, 3) := by decide +kernel
theorem dX7_as_8 : decode cX7_as 8 = .ok (.iload_n 2, 1) := by decide +kernel
theorem dX7_as_9 : decode cX7_as 9 = .ok (.iconst 0, 1) := by decide +kernel
theorem dX7_as_10 : decode cX7_as 10 = .ok (.iconst 5, 1) := by decide +kernel
theorem dX7_as_11 : decode cX7_as 11 = .ok (.invokestatic 82, 3) := by decide +kernel
theorem dX7_as_14 : decode cX7_as 14 = .ok (.ifCond .ne 6, 3) := by decide +kernel
theorem dX7_as_17 : decode cX7_as 17 = .ok (.ldc 90, 2) := by decide +kernel
theorem dX7_as_19 : decode cX7_as 19 = .ok (.ireturn, 1) := by decide +kernel
theorem dX7_as_20 : decode cX7_as 20 = .ok (.aload_n 0, 1) := by decide +kernel
theorem dX7_as_21 : decode cX7_as 21 = .ok (.iload_n 1, 1) := by decide +kernel
theorem dX7_as_22 : decode cX7_as 22 = .ok (.iconst 0, 1) := by decide +kernel
theorem dX7_as_23 : decode cX7_as 23 = .ok (.invokevirtual 96, 3) := by decide +kernel
theorem dX7_as_26 : decode cX7_as 26 = .ok (.iload_n 2, 1) := by decide +kernel
theorem dX7_as_27 : decode cX7_as 27 = .ok (.invokestatic 149, 3) := by decide +kernel
theorem dX7_as_30 : decode cX7_as 30 = .ok (.ifCond .eq 12, 3) := by decide +kernel
theorem dX7_as_33 : decode cX7_as 33 = .ok (.aload_n 0, 1) := by decide +kernel
theorem dX7_as_34 : decode cX7_as 34 = .ok (.iload_n 1, 1) := by decide +kernel
theorem dX7_as_35 : decode cX7_as 35 = .ok (.iconst 3, 1) := by decide +kernel
theorem dX7_as_36 : decode cX7_as 36 = .ok (.invokevirtual 96, 3) := by decide +kernel
theorem dX7_as_39 : decode cX7_as 39 = .ok (.goto 5, 3) := by decide +kernel
theorem dX7_as_42 : decode cX7_as 42 = .ok (.ldc 153, 2) := by decide +kernel
theorem dX7_as_44 : decode cX7_as 44 = .ok (.ireturn, 1) := by decide +kernel
theorem dX7_turns_0 : decode cX7_turns 0 = .ok (.aload_n 0, 1) := by decide +kernel
theorem dX7_turns_1 : decode cX7_turns 1 = .ok (.iload_n 1, 1) := by decide +kernel
theorem dX7_turns_2 : decode cX7_turns 2 = .ok (.invokevirtual 139, 3) := by decide +kernel
theorem dX7_turns_5 : decode cX7_turns 5 = .ok (.ifCond .eq 27, 3) := by decide +kernel
theorem dX7_turns_8 : decode cX7_turns 8 = .ok (.iload_n 2, 1) := by decide +kernel
theorem dX7_turns_9 : decode cX7_turns 9 = .ok (.iconst 0, 1) := by decide +kernel
theorem dX7_turns_10 : decode cX7_turns 10 = .ok (.iconst 5, 1) := by decide +kernel
theorem dX7_turns_11 : decode cX7_turns 11 = .ok (.invokestatic 82, 3) := by decide +kernel
theorem dX7_turns_14 : decode cX7_turns 14 = .ok (.ifCond .eq 18, 3) := by decide +kernel
theorem dX7_turns_17 : decode cX7_turns 17 = .ok (.aload_n 0, 1) := by decide +kernel
theorem dX7_turns_18 : decode cX7_turns 18 = .ok (.bipush 11, 2) := by decide +kernel
theorem dX7_turns_20 : decode cX7_turns 20 = .ok (.bipush 6, 2) := by decide +kernel
theorem dX7_turns_22 : decode cX7_turns 22 = .ok (.iload_n 1, 1) := by decide +kernel
theorem dX7_turns_23 : decode cX7_turns 23 = .ok (.imul, 1) := by decide +kernel
theorem dX7_turns_24 : decode cX7_turns 24 = .ok (.iadd, 1) := by decide +kernel
theorem dX7_turns_25 : decode cX7_turns 25 = .ok (.iload_n 2, 1) := by decide +kernel
theorem dX7_turns_26 : decode cX7_turns 26 = .ok (.invokevirtual 154, 3) := by decide +kernel
theorem dX7_turns_29 : decode cX7_turns 29 = .ok (.goto 5, 3) := by decide +kernel
theorem dX7_turns_32 : decode cX7_turns 32 = .ok (.ldc 90, 2) := by decide +kernel
theorem dX7_turns_34 : decode cX7_turns 34 = .ok (.ireturn, 1) := by decide +kernel
theorem dX7_set_0 : decode cX7_set 0 = .ok (.iload_n 2, 1) := by decide +kernel
theorem dX7_set_1 : decode cX7_set 1 = .ok (.iconst 2, 1) := by decide +kernel
theorem dX7_set_2 : decode cX7_set 2 = .ok (.if_icmp .ne 7, 3) := by decide +kernel
theorem dX7_set_5 : decode cX7_set 5 = .ok (.iconst 3, 1) := by decide +kernel
theorem dX7_set_6 : decode cX7_set 6 = .ok (.goto 15, 3) := by decide +kernel
theorem dX7_set_9 : decode cX7_set 9 = .ok (.iload_n 2, 1) := by decide +kernel
theorem dX7_set_10 : decode cX7_set 10 = .ok (.iconst 3, 1) := by decide +kernel
theorem dX7_set_11 : decode cX7_set 11 = .ok (.if_icmp .ne 8, 3) := by decide +kernel
theorem dX7_set_14 : decode cX7_set 14 = .ok (.bipush 99, 2) := by decide +kernel
theorem dX7_set_16 : decode cX7_set 16 = .ok (.goto 5, 3) := by decide +kernel
theorem dX7_set_19 : decode cX7_set 19 = .ok (.bipush 9, 2) := by decide +kernel
theorem dX7_set_21 : decode cX7_set 21 = .ok (.istore 4, 2) := by decide +kernel
theorem dX7_set_23 : decode cX7_set 23 = .ok (.aload_n 0, 1) := by decide +kernel
theorem dX7_set_24 : decode cX7_set 24 = .ok (.iload_n 1, 1) := by decide +kernel
theorem dX7_set_25 : decode cX7_set 25 = .ok (.invokevirtual 139, 3) := by decide +kernel
theorem dX7_set_28 : decode cX7_set 28 = .ok (.ifCond .eq 39, 3) := by decide +kernel
theorem dX7_set_31 : decode cX7_set 31 = .ok (.iload_n 2, 1) := by decide +kernel
theorem dX7_set_32 : decode cX7_set 32 = .ok (.iconst 1, 1) := by decide +kernel
theorem dX7_set_33 : decode cX7_set 33 = .ok (.iconst 4, 1) := by decide +kernel
theorem dX7_set_34 : decode cX7_set 34 = .ok (.invokestatic 82, 3) := by decide +kernel
theorem dX7_set_37 : decode cX7_set 37 = .ok (.ifCond .eq 30, 3) := by decide +kernel
theorem dX7_set_40 : decode cX7_set 40 = .ok (.iload_n 3, 1) := by decide +kernel
theorem dX7_set_41 : decode cX7_set 41 = .ok (.iconst 0, 1) := by decide +kernel
theorem dX7_set_42 : decode cX7_set 42 = .ok (.iload 4, 2) := by decide +kernel
theorem dX7_set_44 : decode cX7_set 44 = .ok (.invokestatic 82, 3) := by decide +kernel
theorem dX7_set_47 : decode cX7_set 47 = .ok (.ifCond .eq 20, 3) := by decide +kernel
theorem dX7_set_50 : decode cX7_set 50 = .ok (.aload_n 0, 1) := by decide +kernel
theorem dX7_set_51 : decode cX7_set 51 = .ok (.bipush 11, 2) := by decide +kernel
theorem dX7_set_53 : decode cX7_set 53 = .ok (.bipush 6, 2) := by decide +kernel
theorem dX7_set_55 : decode cX7_set 55 = .ok (.iload_n 1, 1) := by decide +kernel
theorem dX7_set_56 : decode cX7_set 56 = .ok (.imul, 1) := by decide +kernel
theorem dX7_set_57 : decode cX7_set 57 = .ok (.iadd, 1) := by decide +kernel
theorem dX7_set_58 : decode cX7_set 58 = .ok (.iload_n 2, 1) := by decide +kernel
theorem dX7_set_59 : decode cX7_set 59 = .ok (.iadd, 1) := by decide +kernel
theorem dX7_set_60 : decode cX7_set 60 = .ok (.iload_n 3, 1) := by decide +kernel
theorem dX7_set_61 : decode cX7_set 61 = .ok (.invokevirtual 154, 3) := by decide +kernel
theorem dX7_set_64 : decode cX7_set 64 = .ok (.goto 5, 3) := by decide +kernel
theorem dX7_set_67 : decode cX7_set 67 = .ok (.ldc 90, 2) := by decide +kernel
theorem dX7_set_69 : decode cX7_set 69 = .ok (.ireturn, 1) := by decide +kernel
theorem dX7_rule_0 : decode cX7_rule 0 = .ok (.iload_n 1, 1) := by decide +kernel
theorem dX7_rule_1 : decode cX7_rule 1 = .ok (.iconst 0, 1) := by decide +kernel
theorem dX7_rule_2 : decode cX7_rule 2 = .ok (.iconst 2, 1) := by decide +kernel
theorem dX7_rule_3 : decode cX7_rule 3 = .ok (.invokestatic 82, 3) := by decide +kernel
theorem dX7_rule_6 : decode cX7_rule 6 = .ok (.ifCond .eq 33, 3) := by decide +kernel
theorem dX7_rule_9 : decode cX7_rule 9 = .ok (.iload_n 2, 1) := by decide +kernel
theorem dX7_rule_10 : decode cX7_rule 10 = .ok (.iload_n 1, 1) := by decide +kernel
theorem dX7_rule_11 : decode cX7_rule 11 = .ok (.iconst 2, 1) := by decide +kernel
theorem dX7_rule_12 : decode cX7_rule 12 = .ok (.if_icmp .ne 7, 3) := by decide +kernel
theorem dX7_rule_15 : decode cX7_rule 15 = .ok (.iconst 1, 1) := by decide +kernel
theorem dX7_rule_16 : decode cX7_rule 16 = .ok (.goto 4, 3) := by decide +kernel
theorem dX7_rule_19 : decode cX7_rule 19 = .ok (.iconst 0, 1) := by decide +kernel
theorem dX7_rule_20 : decode cX7_rule 20 = .ok (.bipush 99, 2) := by decide +kernel
theorem dX7_rule_22 : decode cX7_rule 22 = .ok (.invokestatic 82, 3) := by decide +kernel
theorem dX7_rule_25 : decode cX7_rule 25 = .ok (.ifCond .eq 14, 3) := by decide +kernel
theorem dX7_rule_28 : decode cX7_rule 28 = .ok (.aload_n 0, 1) := by decide +kernel
theorem dX7_rule_29 : decode cX7_rule 29 = .ok (.iconst 4, 1) := by decide +kernel
theorem dX7_rule_30 : decode cX7_rule 30 = .ok (.iload_n 1, 1) := by decide +kernel
theorem dX7_rule_31 : decode cX7_rule 31 = .ok (.iadd, 1) := by decide +kernel
theorem dX7_rule_32 : decode cX7_rule 32 = .ok (.iload_n 2, 1) := by decide +kernel
theorem dX7_rule_33 : decode cX7_rule 33 = .ok (.invokevirtual 154, 3) := by decide +kernel
theorem dX7_rule_36 : decode cX7_rule 36 = .ok (.goto 5, 3) := by decide +kernel
theorem dX7_rule_39 : decode cX7_rule 39 = .ok (.ldc 90, 2) := by decide +kernel
theorem dX7_rule_41 : decode cX7_rule 41 = .ok (.ireturn, 1) := by decide +kernel
theorem dX7_again_0 : decode cX7_again 0 = .ok (.aload_n 0, 1) := by decide +kernel
theorem dX7_again_1 : decode cX7_again 1 = .ok (.getfield 9, 3) := by decide +kernel
theorem dX7_again_4 : decode cX7_again 4 = .ok (.iconst 3, 1) := by decide +kernel
theorem dX7_again_5 : decode cX7_again 5 = .ok (.iaload, 1) := by decide +kernel
theorem dX7_again_6 : decode cX7_again 6 = .ok (.istore_n 1, 1) := by decide +kernel
theorem dX7_again_7 : decode cX7_again 7 = .ok (.aload_n 0, 1) := by decide +kernel
theorem dX7_again_8 : decode cX7_again 8 = .ok (.getfield 9, 3) := by decide +kernel
theorem dX7_again_11 : decode cX7_again 11 = .ok (.iconst 3, 1) := by decide +kernel
theorem dX7_again_12 : decode cX7_again 12 = .ok (.iconst 0, 1) := by decide +kernel
theorem dX7_again_13 : decode cX7_again 13 = .ok (.iastore, 1) := by decide +kernel
theorem dX7_again_14 : decode cX7_again 14 = .ok (.aload_n 0, 1) := by decide +kernel
theorem dX7_again_15 : decode cX7_again 15 = .ok (.getfield 9, 3) := by decide +kernel
theorem dX7_again_18 : decode cX7_again 18 = .ok (.bipush 7, 2) := by decide +kernel
theorem dX7_again_20 : decode cX7_again 20 = .ok (.iconst (-1), 1) := by decide +kernel
theorem dX7_again_21 : decode cX7_again 21 = .ok (.iastore, 1) := by decide +kernel
theorem dX7_again_22 : decode cX7_again 22 = .ok (.aload_n 0, 1) := by decide +kernel
theorem dX7_again_23 : decode cX7_again 23 = .ok (.getfield 9, 3) := by decide +kernel
theorem dX7_again_26 : decode cX7_again 26 = .ok (.bipush 8, 2) := by decide +kernel
theorem dX7_again_28 : decode cX7_again 28 = .ok (.iconst 3, 1) := by decide +kernel
theorem dX7_again_29 : decode cX7_again 29 = .ok (.iastore, 1) := by decide +kernel
theorem dX7_again_30 : decode cX7_again 30 = .ok (.iconst 0, 1) := by decide +kernel
theorem dX7_again_31 : decode cX7_again 31 = .ok (.istore_n 2, 1) := by decide +kernel
theorem dX7_again_32 : decode cX7_again 32 = .ok (.iload_n 2, 1) := by decide +kernel
theorem dX7_again_33 : decode cX7_again 33 = .ok (.aload_n 0, 1) := by decide +kernel
theorem dX7_again_34 : decode cX7_again 34 = .ok (.getfield 9, 3) := by decide +kernel
theorem dX7_again_37 : decode cX7_again 37 = .ok (.iconst 1, 1) := by decide +kernel
theorem dX7_again_38 : decode cX7_again 38 = .ok (.iaload, 1) := by decide +kernel
theorem dX7_again_39 : decode cX7_again 39 = .ok (.if_icmp .ge 16, 3) := by decide +kernel
theorem dX7_again_42 : decode cX7_again 42 = .ok (.aload_n 0, 1) := by decide +kernel
theorem dX7_again_43 : decode cX7_again 43 = .ok (.iload_n 2, 1) := by decide +kernel
theorem dX7_again_44 : decode cX7_again 44 = .ok (.iconst 5, 1) := by decide +kernel
theorem dX7_again_45 : decode cX7_again 45 = .ok (.iconst (-1), 1) := by decide +kernel
theorem dX7_again_46 : decode cX7_again 46 = .ok (.invokevirtual 86, 3) := by decide +kernel
theorem dX7_again_49 : decode cX7_again 49 = .ok (.iinc 2 1, 3) := by decide +kernel
theorem dX7_again_52 : decode cX7_again 52 = .ok (.goto (-20), 3) := by decide +kernel
theorem dX7_again_55 : decode cX7_again 55 = .ok (.iload_n 1, 1) := by decide +kernel
theorem dX7_again_56 : decode cX7_again 56 = .ok (.ireturn, 1) := by decide +kernel
theorem dX7_draw_0 : decode cX7_draw 0 = .ok (.aload_n 0, 1) := by decide +kernel
theorem dX7_draw_1 : decode cX7_draw 1 = .ok (.getfield 9, 3) := by decide +kernel
theorem dX7_draw_4 : decode cX7_draw 4 = .ok (.iconst 0, 1) := by decide +kernel
theorem dX7_draw_5 : decode cX7_draw 5 = .ok (.aload_n 0, 1) := by decide +kernel
theorem dX7_draw_6 : decode cX7_draw 6 = .ok (.getfield 9, 3) := by decide +kernel
theorem dX7_draw_9 : decode cX7_draw 9 = .ok (.iconst 0, 1) := by decide +kernel
theorem dX7_draw_10 : decode cX7_draw 10 = .ok (.iaload, 1) := by decide +kernel
theorem dX7_draw_11 : decode cX7_draw 11 = .ok (.ldc 157, 2) := by decide +kernel
theorem dX7_draw_13 : decode cX7_draw 13 = .ok (.imul, 1) := by decide +kernel
theorem dX7_draw_14 : decode cX7_draw 14 = .ok (.sipush 12345, 3) := by decide +kernel
theorem dX7_draw_17 : decode cX7_draw 17 = .ok (.iadd, 1) := by decide +kernel
theorem dX7_draw_18 : decode cX7_draw 18 = .ok (.iastore, 1) := by decide +kernel
theorem dX7_draw_19 : decode cX7_draw 19 = .ok (.aload_n 0, 1) := by decide +kernel
theorem dX7_draw_20 : decode cX7_draw 20 = .ok (.getfield 9, 3) := by decide +kernel
theorem dX7_draw_23 : decode cX7_draw 23 = .ok (.iconst 0, 1) := by decide +kernel
theorem dX7_draw_24 : decode cX7_draw 24 = .ok (.iaload, 1) := by decide +kernel
theorem dX7_draw_25 : decode cX7_draw 25 = .ok (.bipush 8, 2) := by decide +kernel
theorem dX7_draw_27 : decode cX7_draw 27 = .ok (.iushr, 1) := by decide +kernel
theorem dX7_draw_28 : decode cX7_draw 28 = .ok (.ireturn, 1) := by decide +kernel
theorem dX7_deal_0 : decode cX7_deal 0 = .ok (.iload_n 1, 1) := by decide +kernel
theorem dX7_deal_1 : decode cX7_deal 1 = .ok (.iconst 1, 1) := by decide +kernel
theorem dX7_deal_2 : decode cX7_deal 2 = .ok (.bipush 10, 2) := by decide +kernel
theorem dX7_deal_4 : decode cX7_deal 4 = .ok (.invokestatic 82, 3) := by decide +kernel
theorem dX7_deal_7 : decode cX7_deal 7 = .ok (.ifCond .ne 6, 3) := by decide +kernel
theorem dX7_deal_10 : decode cX7_deal 10 = .ok (.ldc 90, 2) := by decide +kernel
theorem dX7_deal_12 : decode cX7_deal 12 = .ok (.ireturn, 1) := by decide +kernel
theorem dX7_deal_13 : decode cX7_deal 13 = .ok (.iconst 0, 1) := by decide +kernel
theorem dX7_deal_14 : decode cX7_deal 14 = .ok (.istore_n 2, 1) := by decide +kernel
theorem dX7_deal_15 : decode cX7_deal 15 = .ok (.iload_n 2, 1) := by decide +kernel
theorem dX7_deal_16 : decode cX7_deal 16 = .ok (.iload_n 1, 1) := by decide +kernel
theorem dX7_deal_17 : decode cX7_deal 17 = .ok (.if_icmp .ge 63, 3) := by decide +kernel
theorem dX7_deal_20 : decode cX7_deal 20 = .ok (.aload_n 0, 1) := by decide +kernel
theorem dX7_deal_21 : decode cX7_deal 21 = .ok (.getfield 9, 3) := by decide +kernel
theorem dX7_deal_24 : decode cX7_deal 24 = .ok (.iconst 1, 1) := by decide +kernel
theorem dX7_deal_25 : decode cX7_deal 25 = .ok (.iaload, 1) := by decide +kernel
theorem dX7_deal_26 : decode cX7_deal 26 = .ok (.bipush 10, 2) := by decide +kernel
theorem dX7_deal_28 : decode cX7_deal 28 = .ok (.if_icmp .ge 52, 3) := by decide +kernel
theorem dX7_deal_31 : decode cX7_deal 31 = .ok (.aload_n 0, 1) := by decide +kernel
theorem dX7_deal_32 : decode cX7_deal 32 = .ok (.invokevirtual 158, 3) := by decide +kernel
theorem dX7_deal_35 : decode cX7_deal 35 = .ok (.bipush 6, 2) := by decide +kernel
theorem dX7_deal_37 : decode cX7_deal 37 = .ok (.irem, 1) := by decide +kernel
theorem dX7_deal_38 : decode cX7_deal 38 = .ok (.istore_n 3, 1) := by decide +kernel
theorem dX7_deal_39 : decode cX7_deal 39 = .ok (.aload_n 0, 1) := by decide +kernel
theorem dX7_deal_40 : decode cX7_deal 40 = .ok (.invokevirtual 158, 3) := by decide +kernel
theorem dX7_deal_43 : decode cX7_deal 43 = .ok (.bipush 10, 2) := by decide +kernel
theorem dX7_deal_45 : decode cX7_deal 45 = .ok (.irem, 1) := by decide +kernel
theorem dX7_deal_46 : decode cX7_deal 46 = .ok (.istore 4, 2) := by decide +kernel
theorem dX7_deal_48 : decode cX7_deal 48 = .ok (.aload_n 0, 1) := by decide +kernel
theorem dX7_deal_49 : decode cX7_deal 49 = .ok (.invokevirtual 158, 3) := by decide +kernel
theorem dX7_deal_52 : decode cX7_deal 52 = .ok (.iconst 4, 1) := by decide +kernel
theorem dX7_deal_53 : decode cX7_deal 53 = .ok (.irem, 1) := by decide +kernel
theorem dX7_deal_54 : decode cX7_deal 54 = .ok (.istore 5, 2) := by decide +kernel
theorem dX7_deal_56 : decode cX7_deal 56 = .ok (.aload_n 0, 1) := by decide +kernel
theorem dX7_deal_57 : decode cX7_deal 57 = .ok (.iload_n 3, 1) := by decide +kernel
theorem dX7_deal_58 : decode cX7_deal 58 = .ok (.iload 4, 2) := by decide +kernel
theorem dX7_deal_60 : decode cX7_deal 60 = .ok (.iload 5, 2) := by decide +kernel
theorem dX7_deal_62 : decode cX7_deal 62 = .ok (.aload_n 0, 1) := by decide +kernel
theorem dX7_deal_63 : decode cX7_deal 63 = .ok (.invokevirtual 158, 3) := by decide +kernel
theorem dX7_deal_66 : decode cX7_deal 66 = .ok (.bipush 100, 2) := by decide +kernel
theorem dX7_deal_68 : decode cX7_deal 68 = .ok (.irem, 1) := by decide +kernel
theorem dX7_deal_69 : decode cX7_deal 69 = .ok (.invokevirtual 92, 3) := by decide +kernel
theorem dX7_deal_72 : decode cX7_deal 72 = .ok (.istore 6, 2) := by decide +kernel
theorem dX7_deal_74 : decode cX7_deal 74 = .ok (.iinc 2 1, 3) := by decide +kernel
theorem dX7_deal_77 : decode cX7_deal 77 = .ok (.goto (-62), 3) := by decide +kernel
theorem dX7_deal_80 : decode cX7_deal 80 = .ok (.iload_n 2, 1) := by decide +kernel
theorem dX7_deal_81 : decode cX7_deal 81 = .ok (.ireturn, 1) := by decide +kernel
theorem dX7_seed_0 : decode cX7_seed 0 = .ok (.aload_n 0, 1) := by decide +kernel
theorem dX7_seed_1 : decode cX7_seed 1 = .ok (.iconst 0, 1) := by decide +kernel
theorem dX7_seed_2 : decode cX7_seed 2 = .ok (.iload_n 1, 1) := by decide +kernel
theorem dX7_seed_3 : decode cX7_seed 3 = .ok (.invokevirtual 154, 3) := by decide +kernel
theorem dX7_seed_6 : decode cX7_seed 6 = .ok (.ireturn, 1) := by decide +kernel
theorem dX7_wanted_0 : decode cX7_wanted 0 = .ok (.iconst 0, 1) := by decide +kernel
theorem dX7_wanted_1 : decode cX7_wanted 1 = .ok (.istore_n 1, 1) := by decide +kernel
theorem dX7_wanted_2 : decode cX7_wanted 2 = .ok (.iconst 0, 1) := by decide +kernel
theorem dX7_wanted_3 : decode cX7_wanted 3 = .ok (.istore_n 2, 1) := by decide +kernel
theorem dX7_wanted_4 : decode cX7_wanted 4 = .ok (.iload_n 2, 1) := by decide +kernel
theorem dX7_wanted_5 : decode cX7_wanted 5 = .ok (.aload_n 0, 1) := by decide +kernel
theorem dX7_wanted_6 : decode cX7_wanted 6 = .ok (.getfield 9, 3) := by decide +kernel
theorem dX7_wanted_9 : decode cX7_wanted 9 = .ok (.iconst 1, 1) := by decide +kernel
theorem dX7_wanted_10 : decode cX7_wanted 10 = .ok (.iaload, 1) := by decide +kernel
theorem dX7_wanted_11 : decode cX7_wanted 11 = .ok (.if_icmp .ge 17, 3) := by decide +kernel
theorem dX7_wanted_14 : decode cX7_wanted 14 = .ok (.iload_n 1, 1) := by decide +kernel
theorem dX7_wanted_15 : decode cX7_wanted 15 = .ok (.aload_n 0, 1) := by decide +kernel
theorem dX7_wanted_16 : decode cX7_wanted 16 = .ok (.iload_n 2, 1) := by decide +kernel
theorem dX7_wanted_17 : decode cX7_wanted 17 = .ok (.invokevirtual 100, 3) := by decide +kernel
theorem dX7_wanted_20 : decode cX7_wanted 20 = .ok (.iadd, 1) := by decide +kernel
theorem dX7_wanted_21 : decode cX7_wanted 21 = .ok (.istore_n 1, 1) := by decide +kernel
theorem dX7_wanted_22 : decode cX7_wanted 22 = .ok (.iinc 2 1, 3) := by decide +kernel
theorem dX7_wanted_25 : decode cX7_wanted 25 = .ok (.goto (-21), 3) := by decide +kernel
theorem dX7_wanted_28 : decode cX7_wanted 28 = .ok (.iconst 2, 1) := by decide +kernel
theorem dX7_wanted_29 : decode cX7_wanted 29 = .ok (.iload_n 1, 1) := by decide +kernel
theorem dX7_wanted_30 : decode cX7_wanted 30 = .ok (.imul, 1) := by decide +kernel
theorem dX7_wanted_31 : decode cX7_wanted 31 = .ok (.iconst 2, 1) := by decide +kernel
theorem dX7_wanted_32 : decode cX7_wanted 32 = .ok (.iadd, 1) := by decide +kernel
theorem dX7_wanted_33 : decode cX7_wanted 33 = .ok (.iconst 3, 1) := by decide +kernel
theorem dX7_wanted_34 : decode cX7_wanted 34 = .ok (.idiv, 1) := by decide +kernel
theorem dX7_wanted_35 : decode cX7_wanted 35 = .ok (.ireturn, 1) := by decide +kernel
theorem dX7_votes_0 : decode cX7_votes 0 = .ok (.iconst 0, 1) := by decide +kernel
theorem dX7_votes_1 : decode cX7_votes 1 = .ok (.istore_n 1, 1) := by decide +kernel
theorem dX7_votes_2 : decode cX7_votes 2 = .ok (.iload_n 1, 1) := by decide +kernel
theorem dX7_votes_3 : decode cX7_votes 3 = .ok (.aload_n 0, 1) := by decide +kernel
theorem dX7_votes_4 : decode cX7_votes 4 = .ok (.getfield 9, 3) := by decide +kernel
theorem dX7_votes_7 : decode cX7_votes 7 = .ok (.iconst 1, 1) := by decide +kernel
theorem dX7_votes_8 : decode cX7_votes 8 = .ok (.iaload, 1) := by decide +kernel
theorem dX7_votes_9 : decode cX7_votes 9 = .ok (.if_icmp .ge 20, 3) := by decide +kernel
theorem dX7_votes_12 : decode cX7_votes 12 = .ok (.aload_n 0, 1) := by decide +kernel
theorem dX7_votes_13 : decode cX7_votes 13 = .ok (.getfield 19, 3) := by decide +kernel
theorem dX7_votes_16 : decode cX7_votes 16 = .ok (.iload_n 1, 1) := by decide +kernel
theorem dX7_votes_17 : decode cX7_votes 17 = .ok (.aload_n 0, 1) := by decide +kernel
theorem dX7_votes_18 : decode cX7_votes 18 = .ok (.iload_n 1, 1) := by decide +kernel
theorem dX7_votes_19 : decode cX7_votes 19 = .ok (.invokevirtual 143, 3) := by decide +kernel
theorem dX7_votes_22 : decode cX7_votes 22 = .ok (.iastore, 1) := by decide +kernel
theorem dX7_votes_23 : decode cX7_votes 23 = .ok (.iinc 1 1, 3) := by decide +kernel
theorem dX7_votes_26 : decode cX7_votes 26 = .ok (.goto (-24), 3) := by decide +kernel
theorem dX7_votes_29 : decode cX7_votes 29 = .ok (.aload_n 0, 1) := by decide +kernel
theorem dX7_votes_30 : decode cX7_votes 30 = .ok (.getfield 9, 3) := by decide +kernel
theorem dX7_votes_33 : decode cX7_votes 33 = .ok (.iconst 4, 1) := by decide +kernel
theorem dX7_votes_34 : decode cX7_votes 34 = .ok (.iaload, 1) := by decide +kernel
theorem dX7_votes_35 : decode cX7_votes 35 = .ok (.aload_n 0, 1) := by decide +kernel
theorem dX7_votes_36 : decode cX7_votes 36 = .ok (.getfield 9, 3) := by decide +kernel
theorem dX7_votes_39 : decode cX7_votes 39 = .ok (.iconst 5, 1) := by decide +kernel
theorem dX7_votes_40 : decode cX7_votes 40 = .ok (.iaload, 1) := by decide +kernel
theorem dX7_votes_41 : decode cX7_votes 41 = .ok (.bipush 10, 2) := by decide +kernel
theorem dX7_votes_43 : decode cX7_votes 43 = .ok (.idiv, 1) := by decide +kernel
theorem dX7_votes_44 : decode cX7_votes 44 = .ok (.isub, 1) := by decide +kernel
theorem dX7_votes_45 : decode cX7_votes 45 = .ok (.istore_n 1, 1) := by decide +kernel
theorem dX7_votes_46 : decode cX7_votes 46 = .ok (.iconst 0, 1) := by decide +kernel
theorem dX7_votes_47 : decode cX7_votes 47 = .ok (.istore_n 2, 1) := by decide +kernel
theorem dX7_votes_48 : decode cX7_votes 48 = .ok (.iload_n 2, 1) := by decide +kernel
theorem dX7_votes_49 : decode cX7_votes 49 = .ok (.aload_n 0, 1) := by decide +kernel
theorem dX7_votes_50 : decode cX7_votes 50 = .ok (.getfield 9, 3) := by decide +kernel
theorem dX7_votes_53 : decode cX7_votes 53 = .ok (.iconst 1, 1) := by decide +kernel
theorem dX7_votes_54 : decode cX7_votes 54 = .ok (.iaload, 1) := by decide +kernel
theorem dX7_votes_55 : decode cX7_votes 55 = .ok (.if_icmp .ge 43, 3) := by decide +kernel
theorem dX7_votes_58 : decode cX7_votes 58 = .ok (.aload_n 0, 1) := by decide +kernel
theorem dX7_votes_59 : decode cX7_votes 59 = .ok (.iload_n 2, 1) := by decide +kernel
theorem dX7_votes_60 : decode cX7_votes 60 = .ok (.iconst 5, 1) := by decide +kernel
theorem dX7_votes_61 : decode cX7_votes 61 = .ok (.aload_n 0, 1) := by decide +kernel
theorem dX7_votes_62 : decode cX7_votes 62 = .ok (.getfield 19, 3) := by decide +kernel
theorem dX7_votes_65 : decode cX7_votes 65 = .ok (.iload_n 2, 1) := by decide +kernel
theorem dX7_votes_66 : decode cX7_votes 66 = .ok (.iaload, 1) := by decide +kernel
theorem dX7_votes_67 : decode cX7_votes 67 = .ok (.invokevirtual 86, 3) := by decide +kernel
theorem dX7_votes_70 : decode cX7_votes 70 = .ok (.iload_n 1, 1) := by decide +kernel
theorem dX7_votes_71 : decode cX7_votes 71 = .ok (.aload_n 0, 1) := by decide +kernel
theorem dX7_votes_72 : decode cX7_votes 72 = .ok (.getfield 19, 3) := by decide +kernel
theorem dX7_votes_75 : decode cX7_votes 75 = .ok (.iload_n 2, 1) := by decide +kernel
theorem dX7_votes_76 : decode cX7_votes 76 = .ok (.iaload, 1) := by decide +kernel
theorem dX7_votes_77 : decode cX7_votes 77 = .ok (.ifCond .ge 7, 3) := by decide +kernel
theorem dX7_votes_80 : decode cX7_votes 80 = .ok (.iconst 0, 1) := by decide +kernel
theorem dX7_votes_81 : decode cX7_votes 81 = .ok (.goto 9, 3) := by decide +kernel
theorem dX7_votes_84 : decode cX7_votes 84 = .ok (.aload_n 0, 1) := by decide +kernel
theorem dX7_votes_85 : decode cX7_votes 85 = .ok (.iload_n 2, 1) := by decide +kernel
theorem dX7_votes_86 : decode cX7_votes 86 = .ok (.iconst 4, 1) := by decide +kernel
theorem dX7_votes_87 : decode cX7_votes 87 = .ok (.invokevirtual 96, 3) := by decide +kernel
theorem dX7_votes_90 : decode cX7_votes 90 = .ok (.iadd, 1) := by decide +kernel
theorem dX7_votes_91 : decode cX7_votes 91 = .ok (.istore_n 1, 1) := by decide +kernel
theorem dX7_votes_92 : decode cX7_votes 92 = .ok (.iinc 2 1, 3) := by decide +kernel
theorem dX7_votes_95 : decode cX7_votes 95 = .ok (.goto (-47), 3) := by decide +kernel
theorem dX7_votes_98 : decode cX7_votes 98 = .ok (.aload_n 0, 1) := by decide +kernel
theorem dX7_votes_99 : decode cX7_votes 99 = .ok (.getfield 9, 3) := by decide +kernel
theorem dX7_votes_102 : decode cX7_votes 102 = .ok (.iconst 3, 1) := by decide +kernel
theorem dX7_votes_103 : decode cX7_votes 103 = .ok (.dup2, 1) := by decide +kernel
theorem dX7_votes_104 : decode cX7_votes 104 = .ok (.iaload, 1) := by decide +kernel
theorem dX7_votes_105 : decode cX7_votes 105 = .ok (.iconst 1, 1) := by decide +kernel
theorem dX7_votes_106 : decode cX7_votes 106 = .ok (.iadd, 1) := by decide +kernel
theorem dX7_votes_107 : decode cX7_votes 107 = .ok (.iastore, 1) := by decide +kernel
theorem dX7_votes_108 : decode cX7_votes 108 = .ok (.aload_n 0, 1) := by decide +kernel
theorem dX7_votes_109 : decode cX7_votes 109 = .ok (.getfield 9, 3) := by decide +kernel
theorem dX7_votes_112 : decode cX7_votes 112 = .ok (.iconst 1, 1) := by decide +kernel
theorem dX7_votes_113 : decode cX7_votes 113 = .ok (.iaload, 1) := by decide +kernel
theorem dX7_votes_114 : decode cX7_votes 114 = .ok (.iconst 1, 1) := by decide +kernel
theorem dX7_votes_115 : decode cX7_votes 115 = .ok (.isub, 1) := by decide +kernel
theorem dX7_votes_116 : decode cX7_votes 116 = .ok (.istore_n 2, 1) := by decide +kernel
theorem dX7_votes_117 : decode cX7_votes 117 = .ok (.iload_n 2, 1) := by decide +kernel
theorem dX7_votes_118 : decode cX7_votes 118 = .ok (.ifCond .lt 39, 3) := by decide +kernel
theorem dX7_votes_121 : decode cX7_votes 121 = .ok (.aload_n 0, 1) := by decide +kernel
theorem dX7_votes_122 : decode cX7_votes 122 = .ok (.getfield 9, 3) := by decide +kernel
theorem dX7_votes_125 : decode cX7_votes 125 = .ok (.bipush 7, 2) := by decide +kernel
theorem dX7_votes_127 : decode cX7_votes 127 = .ok (.aload_n 0, 1) := by decide +kernel
theorem dX7_votes_128 : decode cX7_votes 128 = .ok (.iload_n 2, 1) := by decide +kernel
theorem dX7_votes_129 : decode cX7_votes 129 = .ok (.invokevirtual 104, 3) := by decide +kernel
theorem dX7_votes_132 : decode cX7_votes 132 = .ok (.aload_n 0, 1) := by decide +kernel
theorem dX7_votes_133 : decode cX7_votes 133 = .ok (.invokevirtual 161, 3) := by decide +kernel
theorem dX7_votes_136 : decode cX7_votes 136 = .ok (.if_icmp .lt 7, 3) := by decide +kernel
theorem dX7_votes_139 : decode cX7_votes 139 = .ok (.iload_n 2, 1) := by decide +kernel
theorem dX7_votes_140 : decode cX7_votes 140 = .ok (.goto 10, 3) := by decide +kernel
theorem dX7_votes_143 : decode cX7_votes 143 = .ok (.aload_n 0, 1) := by decide +kernel
theorem dX7_votes_144 : decode cX7_votes 144 = .ok (.getfield 9, 3) := by decide +kernel
theorem dX7_votes_147 : decode cX7_votes 147 = .ok (.bipush 7, 2) := by decide +kernel
theorem dX7_votes_149 : decode cX7_votes 149 = .ok (.iaload, 1) := by decide +kernel
theorem dX7_votes_150 : decode cX7_votes 150 = .ok (.iastore, 1) := by decide +kernel
theorem dX7_votes_151 : decode cX7_votes 151 = .ok (.iinc 2 (-1), 3) := by decide +kernel
theorem dX7_votes_154 : decode cX7_votes 154 = .ok (.goto (-37), 3) := by decide +kernel
theorem dX7_votes_157 : decode cX7_votes 157 = .ok (.aload_n 0, 1) := by decide +kernel
theorem dX7_votes_158 : decode cX7_votes 158 = .ok (.getfield 9, 3) := by decide +kernel
theorem dX7_votes_161 : decode cX7_votes 161 = .ok (.bipush 8, 2) := by decide +kernel
theorem dX7_votes_163 : decode cX7_votes 163 = .ok (.aload_n 0, 1) := by decide +kernel
theorem dX7_votes_164 : decode cX7_votes 164 = .ok (.getfield 9, 3) := by decide +kernel
theorem dX7_votes_167 : decode cX7_votes 167 = .ok (.bipush 7, 2) := by decide +kernel
theorem dX7_votes_169 : decode cX7_votes 169 = .ok (.iaload, 1) := by decide +kernel
theorem dX7_votes_170 : decode cX7_votes 170 = .ok (.ifCond .lt 7, 3) := by decide +kernel
theorem dX7_votes_173 : decode cX7_votes 173 = .ok (.iconst 0, 1) := by decide +kernel
theorem dX7_votes_174 : decode cX7_votes 174 = .ok (.goto 24, 3) := by decide +kernel
theorem dX7_votes_177 : decode cX7_votes 177 = .ok (.iload_n 1, 1) := by decide +kernel
theorem dX7_votes_178 : decode cX7_votes 178 = .ok (.bipush 10, 2) := by decide +kernel
theorem dX7_votes_180 : decode cX7_votes 180 = .ok (.if_icmp .ge 7, 3) := by decide +kernel
theorem dX7_votes_183 : decode cX7_votes 183 = .ok (.iconst 1, 1) := by decide +kernel
theorem dX7_votes_184 : decode cX7_votes 184 = .ok (.goto 14, 3) := by decide +kernel
theorem dX7_votes_187 : decode cX7_votes 187 = .ok (.iload_n 1, 1) := by decide +kernel
theorem dX7_votes_188 : decode cX7_votes 188 = .ok (.bipush 25, 2) := by decide +kernel
theorem dX7_votes_190 : decode cX7_votes 190 = .ok (.if_icmp .ge 7, 3) := by decide +kernel
theorem dX7_votes_193 : decode cX7_votes 193 = .ok (.iconst 2, 1) := by decide +kernel
theorem dX7_votes_194 : decode cX7_votes 194 = .ok (.goto 4, 3) := by decide +kernel
theorem dX7_votes_197 : decode cX7_votes 197 = .ok (.iconst 3, 1) := by decide +kernel
theorem dX7_votes_198 : decode cX7_votes 198 = .ok (.iastore, 1) := by decide +kernel
theorem dX7_votes_199 : decode cX7_votes 199 = .ok (.aload_n 0, 1) := by decide +kernel
theorem dX7_votes_200 : decode cX7_votes 200 = .ok (.getfield 9, 3) := by decide +kernel
theorem dX7_votes_203 : decode cX7_votes 203 = .ok (.bipush 9, 2) := by decide +kernel
theorem dX7_votes_205 : decode cX7_votes 205 = .ok (.aload_n 0, 1) := by decide +kernel
theorem dX7_votes_206 : decode cX7_votes 206 = .ok (.invokevirtual 158, 3) := by decide +kernel
theorem dX7_votes_209 : decode cX7_votes 209 = .ok (.iconst 4, 1) := by decide +kernel
theorem dX7_votes_210 : decode cX7_votes 210 = .ok (.irem, 1) := by decide +kernel
theorem dX7_votes_211 : decode cX7_votes 211 = .ok (.iastore, 1) := by decide +kernel
theorem dX7_votes_212 : decode cX7_votes 212 = .ok (.iconst 0, 1) := by decide +kernel
theorem dX7_votes_213 : decode cX7_votes 213 = .ok (.istore_n 2, 1) := by decide +kernel
theorem dX7_votes_214 : decode cX7_votes 214 = .ok (.iload_n 2, 1) := by decide +kernel
theorem dX7_votes_215 : decode cX7_votes 215 = .ok (.aload_n 0, 1) := by decide +kernel
theorem dX7_votes_216 : decode cX7_votes 216 = .ok (.getfield 9, 3) := by decide +kernel
theorem dX7_votes_219 : decode cX7_votes 219 = .ok (.iconst 1, 1) := by decide +kernel
theorem dX7_votes_220 : decode cX7_votes 220 = .ok (.iaload, 1) := by decide +kernel
theorem dX7_votes_221 : decode cX7_votes 221 = .ok (.if_icmp .ge 31, 3) := by decide +kernel
theorem dX7_votes_224 : decode cX7_votes 224 = .ok (.aload_n 0, 1) := by decide +kernel
theorem dX7_votes_225 : decode cX7_votes 225 = .ok (.getfield 19, 3) := by decide +kernel
theorem dX7_votes_228 : decode cX7_votes 228 = .ok (.iload_n 2, 1) := by decide +kernel
theorem dX7_votes_229 : decode cX7_votes 229 = .ok (.iaload, 1) := by decide +kernel
theorem dX7_votes_230 : decode cX7_votes 230 = .ok (.ifCond .lt 16, 3) := by decide +kernel
theorem dX7_votes_233 : decode cX7_votes 233 = .ok (.aload_n 0, 1) := by decide +kernel
theorem dX7_votes_234 : decode cX7_votes 234 = .ok (.iload_n 2, 1) := by decide +kernel
theorem dX7_votes_235 : decode cX7_votes 235 = .ok (.iconst 4, 1) := by decide +kernel
theorem dX7_votes_236 : decode cX7_votes 236 = .ok (.aload_n 0, 1) := by decide +kernel
theorem dX7_votes_237 : decode cX7_votes 237 = .ok (.invokevirtual 158, 3) := by decide +kernel
theorem dX7_votes_240 : decode cX7_votes 240 = .ok (.bipush 10, 2) := by decide +kernel
theorem dX7_votes_242 : decode cX7_votes 242 = .ok (.irem, 1) := by decide +kernel
theorem dX7_votes_243 : decode cX7_votes 243 = .ok (.invokevirtual 86, 3) := by decide +kernel
theorem dX7_votes_246 : decode cX7_votes 246 = .ok (.iinc 2 1, 3) := by decide +kernel
theorem dX7_votes_249 : decode cX7_votes 249 = .ok (.goto (-35), 3) := by decide +kernel
theorem dX7_votes_252 : decode cX7_votes 252 = .ok (.return_, 1) := by decide +kernel
theorem dX7_round_0 : decode cX7_round 0 = .ok (.aload_n 0, 1) := by decide +kernel
theorem dX7_round_1 : decode cX7_round 1 = .ok (.getfield 9, 3) := by decide +kernel
theorem dX7_round_4 : decode cX7_round 4 = .ok (.bipush 7, 2) := by decide +kernel
theorem dX7_round_6 : decode cX7_round 6 = .ok (.iaload, 1) := by decide +kernel
theorem dX7_round_7 : decode cX7_round 7 = .ok (.ifCond .ge 16, 3) := by decide +kernel
theorem dX7_round_10 : decode cX7_round 10 = .ok (.aload_n 0, 1) := by decide +kernel
theorem dX7_round_11 : decode cX7_round 11 = .ok (.getfield 9, 3) := by decide +kernel
theorem dX7_round_14 : decode cX7_round 14 = .ok (.iconst 1, 1) := by decide +kernel
theorem dX7_round_15 : decode cX7_round 15 = .ok (.iaload, 1) := by decide +kernel
theorem dX7_round_16 : decode cX7_round 16 = .ok (.ifCond .le 7, 3) := by decide +kernel
theorem dX7_round_19 : decode cX7_round 19 = .ok (.aload_n 0, 1) := by decide +kernel
theorem dX7_round_20 : decode cX7_round 20 = .ok (.invokevirtual 164, 3) := by decide +kernel
theorem dX7_round_23 : decode cX7_round 23 = .ok (.aload_n 0, 1) := by decide +kernel
theorem dX7_round_24 : decode cX7_round 24 = .ok (.getfield 9, 3) := by decide +kernel
theorem dX7_round_27 : decode cX7_round 27 = .ok (.iconst 2, 1) := by decide +kernel
theorem dX7_round_28 : decode cX7_round 28 = .ok (.dup2, 1) := by decide +kernel
theorem dX7_round_29 : decode cX7_round 29 = .ok (.iaload, 1) := by decide +kernel
theorem dX7_round_30 : decode cX7_round 30 = .ok (.iconst 1, 1) := by decide +kernel
theorem dX7_round_31 : decode cX7_round 31 = .ok (.iadd, 1) := by decide +kernel
theorem dX7_round_32 : decode cX7_round 32 = .ok (.iastore, 1) := by decide +kernel
theorem dX7_round_33 : decode cX7_round 33 = .ok (.return_, 1) := by decide +kernel
theorem dX7_goesOn_0 : decode cX7_goesOn 0 = .ok (.iconst 0, 1) := by decide +kernel
theorem dX7_goesOn_1 : decode cX7_goesOn 1 = .ok (.istore_n 2, 1) := by decide +kernel
theorem dX7_goesOn_2 : decode cX7_goesOn 2 = .ok (.iload_n 2, 1) := by decide +kernel
theorem dX7_goesOn_3 : decode cX7_goesOn 3 = .ok (.iload_n 1, 1) := by decide +kernel
theorem dX7_goesOn_4 : decode cX7_goesOn 4 = .ok (.if_icmp .ge 13, 3) := by decide +kernel
theorem dX7_goesOn_7 : decode cX7_goesOn 7 = .ok (.aload_n 0, 1) := by decide +kernel
theorem dX7_goesOn_8 : decode cX7_goesOn 8 = .ok (.invokevirtual 167, 3) := by decide +kernel
theorem dX7_goesOn_11 : decode cX7_goesOn 11 = .ok (.iinc 2 1, 3) := by decide +kernel
theorem dX7_goesOn_14 : decode cX7_goesOn 14 = .ok (.goto (-12), 3) := by decide +kernel
theorem dX7_goesOn_17 : decode cX7_goesOn 17 = .ok (.return_, 1) := by decide +kernel
theorem dX7_rounds_0 : decode cX7_rounds 0 = .ok (.iload_n 1, 1) := by decide +kernel
theorem dX7_rounds_1 : decode cX7_rounds 1 = .ok (.iconst 1, 1) := by decide +kernel
theorem dX7_rounds_2 : decode cX7_rounds 2 = .ok (.bipush 100, 2) := by decide +kernel
theorem dX7_rounds_4 : decode cX7_rounds 4 = .ok (.invokestatic 82, 3) := by decide +kernel
theorem dX7_rounds_7 : decode cX7_rounds 7 = .ok (.ifCond .ne 6, 3) := by decide +kernel
theorem dX7_rounds_10 : decode cX7_rounds 10 = .ok (.ldc 90, 2) := by decide +kernel
theorem dX7_rounds_12 : decode cX7_rounds 12 = .ok (.ireturn, 1) := by decide +kernel
theorem dX7_rounds_13 : decode cX7_rounds 13 = .ok (.aload_n 0, 1) := by decide +kernel
theorem dX7_rounds_14 : decode cX7_rounds 14 = .ok (.sipush 9999, 3) := by decide +kernel
theorem dX7_rounds_17 : decode cX7_rounds 17 = .ok (.aload_n 0, 1) := by decide +kernel
theorem dX7_rounds_18 : decode cX7_rounds 18 = .ok (.getfield 9, 3) := by decide +kernel
theorem dX7_rounds_21 : decode cX7_rounds 21 = .ok (.iconst 2, 1) := by decide +kernel
theorem dX7_rounds_22 : decode cX7_rounds 22 = .ok (.iaload, 1) := by decide +kernel
theorem dX7_rounds_23 : decode cX7_rounds 23 = .ok (.isub, 1) := by decide +kernel
theorem dX7_rounds_24 : decode cX7_rounds 24 = .ok (.iconst 0, 1) := by decide +kernel
theorem dX7_rounds_25 : decode cX7_rounds 25 = .ok (.iload_n 1, 1) := by decide +kernel
theorem dX7_rounds_26 : decode cX7_rounds 26 = .ok (.invokestatic 126, 3) := by decide +kernel
theorem dX7_rounds_29 : decode cX7_rounds 29 = .ok (.invokevirtual 170, 3) := by decide +kernel
theorem dX7_rounds_32 : decode cX7_rounds 32 = .ok (.aload_n 0, 1) := by decide +kernel
theorem dX7_rounds_33 : decode cX7_rounds 33 = .ok (.getfield 9, 3) := by decide +kernel
theorem dX7_rounds_36 : decode cX7_rounds 36 = .ok (.bipush 7, 2) := by decide +kernel
theorem dX7_rounds_38 : decode cX7_rounds 38 = .ok (.iaload, 1) := by decide +kernel
theorem dX7_rounds_39 : decode cX7_rounds 39 = .ok (.ireturn, 1) := by decide +kernel
theorem dX7_leader_0 : decode cX7_leader 0 = .ok (.aload_n 0, 1) := by decide +kernel
theorem dX7_leader_1 : decode cX7_leader 1 = .ok (.aload_n 0, 1) := by decide +kernel
theorem dX7_leader_2 : decode cX7_leader 2 = .ok (.invokevirtual 107, 3) := by decide +kernel
theorem dX7_leader_5 : decode cX7_leader 5 = .ok (.invokevirtual 111, 3) := by decide +kernel
theorem dX7_leader_8 : decode cX7_leader 8 = .ok (.istore_n 1, 1) := by decide +kernel
theorem dX7_leader_9 : decode cX7_leader 9 = .ok (.iload_n 1, 1) := by decide +kernel
theorem dX7_leader_10 : decode cX7_leader 10 = .ok (.ifCond .lt 15, 3) := by decide +kernel
theorem dX7_leader_13 : decode cX7_leader 13 = .ok (.aload_n 0, 1) := by decide +kernel
theorem dX7_leader_14 : decode cX7_leader 14 = .ok (.iload_n 1, 1) := by decide +kernel
theorem dX7_leader_15 : decode cX7_leader 15 = .ok (.invokevirtual 104, 3) := by decide +kernel
theorem dX7_leader_18 : decode cX7_leader 18 = .ok (.ifCond .le 7, 3) := by decide +kernel
theorem dX7_leader_21 : decode cX7_leader 21 = .ok (.iload_n 1, 1) := by decide +kernel
theorem dX7_leader_22 : decode cX7_leader 22 = .ok (.goto 4, 3) := by decide +kernel
theorem dX7_leader_25 : decode cX7_leader 25 = .ok (.iconst (-1), 1) := by decide +kernel
theorem dX7_leader_26 : decode cX7_leader 26 = .ok (.ireturn, 1) := by decide +kernel
theorem dX7_conclave_0 : decode cX7_conclave 0 = .ok (.iload_n 1, 1) := by decide +kernel
theorem dX7_conclave_1 : decode cX7_conclave 1 = .ok (.tableswitch 81 0 5 #[39, 47, 52, 60, 68, 73], 39) := by decide +kernel
theorem dX7_conclave_40 : decode cX7_conclave 40 = .ok (.aload_n 0, 1) := by decide +kernel
theorem dX7_conclave_41 : decode cX7_conclave 41 = .ok (.getfield 9, 3) := by decide +kernel
theorem dX7_conclave_44 : decode cX7_conclave 44 = .ok (.bipush 7, 2) := by decide +kernel
theorem dX7_conclave_46 : decode cX7_conclave 46 = .ok (.iaload, 1) := by decide +kernel
theorem dX7_conclave_47 : decode cX7_conclave 47 = .ok (.ireturn, 1) := by decide +kernel
theorem dX7_conclave_48 : decode cX7_conclave 48 = .ok (.aload_n 0, 1) := by decide +kernel
theorem dX7_conclave_49 : decode cX7_conclave 49 = .ok (.invokevirtual 161, 3) := by decide +kernel
theorem dX7_conclave_52 : decode cX7_conclave 52 = .ok (.ireturn, 1) := by decide +kernel
theorem dX7_conclave_53 : decode cX7_conclave 53 = .ok (.aload_n 0, 1) := by decide +kernel
theorem dX7_conclave_54 : decode cX7_conclave 54 = .ok (.getfield 9, 3) := by decide +kernel
theorem dX7_conclave_57 : decode cX7_conclave 57 = .ok (.bipush 8, 2) := by decide +kernel
theorem dX7_conclave_59 : decode cX7_conclave 59 = .ok (.iaload, 1) := by decide +kernel
theorem dX7_conclave_60 : decode cX7_conclave 60 = .ok (.ireturn, 1) := by decide +kernel
theorem dX7_conclave_61 : decode cX7_conclave 61 = .ok (.aload_n 0, 1) := by decide +kernel
theorem dX7_conclave_62 : decode cX7_conclave 62 = .ok (.getfield 9, 3) := by decide +kernel
theorem dX7_conclave_65 : decode cX7_conclave 65 = .ok (.bipush 9, 2) := by decide +kernel
theorem dX7_conclave_67 : decode cX7_conclave 67 = .ok (.iaload, 1) := by decide +kernel
theorem dX7_conclave_68 : decode cX7_conclave 68 = .ok (.ireturn, 1) := by decide +kernel
theorem dX7_conclave_69 : decode cX7_conclave 69 = .ok (.aload_n 0, 1) := by decide +kernel
theorem dX7_conclave_70 : decode cX7_conclave 70 = .ok (.invokevirtual 130, 3) := by decide +kernel
theorem dX7_conclave_73 : decode cX7_conclave 73 = .ok (.ireturn, 1) := by decide +kernel
theorem dX7_conclave_74 : decode cX7_conclave 74 = .ok (.aload_n 0, 1) := by decide +kernel
theorem dX7_conclave_75 : decode cX7_conclave 75 = .ok (.invokevirtual 174, 3) := by decide +kernel
theorem dX7_conclave_78 : decode cX7_conclave 78 = .ok (.invokestatic 177, 3) := by decide +kernel
theorem dX7_conclave_81 : decode cX7_conclave 81 = .ok (.ireturn, 1) := by decide +kernel
theorem dX7_conclave_82 : decode cX7_conclave 82 = .ok (.ldc 90, 2) := by decide +kernel
theorem dX7_conclave_84 : decode cX7_conclave 84 = .ok (.ireturn, 1) := by decide +kernel
theorem dX7_butOne_0 : decode cX7_butOne 0 = .ok (.iconst 0, 1) := by decide +kernel
theorem dX7_butOne_1 : decode cX7_butOne 1 = .ok (.istore_n 1, 1) := by decide +kernel
theorem dX7_butOne_2 : decode cX7_butOne 2 = .ok (.iconst 0, 1) := by decide +kernel
theorem dX7_butOne_3 : decode cX7_butOne 3 = .ok (.istore_n 2, 1) := by decide +kernel
theorem dX7_butOne_4 : decode cX7_butOne 4 = .ok (.iload_n 2, 1) := by decide +kernel
theorem dX7_butOne_5 : decode cX7_butOne 5 = .ok (.aload_n 0, 1) := by decide +kernel
theorem dX7_butOne_6 : decode cX7_butOne 6 = .ok (.getfield 9, 3) := by decide +kernel
theorem dX7_butOne_9 : decode cX7_butOne 9 = .ok (.iconst 1, 1) := by decide +kernel
theorem dX7_butOne_10 : decode cX7_butOne 10 = .ok (.iaload, 1) := by decide +kernel
theorem dX7_butOne_11 : decode cX7_butOne 11 = .ok (.if_icmp .ge 33, 3) := by decide +kernel
theorem dX7_butOne_14 : decode cX7_butOne 14 = .ok (.iload_n 1, 1) := by decide +kernel
theorem dX7_butOne_15 : decode cX7_butOne 15 = .ok (.aload_n 0, 1) := by decide +kernel
theorem dX7_butOne_16 : decode cX7_butOne 16 = .ok (.iload_n 2, 1) := by decide +kernel
theorem dX7_butOne_17 : decode cX7_butOne 17 = .ok (.invokevirtual 104, 3) := by decide +kernel
theorem dX7_butOne_20 : decode cX7_butOne 20 = .ok (.aload_n 0, 1) := by decide +kernel
theorem dX7_butOne_21 : decode cX7_butOne 21 = .ok (.invokevirtual 161, 3) := by decide +kernel
theorem dX7_butOne_24 : decode cX7_butOne 24 = .ok (.iconst 1, 1) := by decide +kernel
theorem dX7_butOne_25 : decode cX7_butOne 25 = .ok (.isub, 1) := by decide +kernel
theorem dX7_butOne_26 : decode cX7_butOne 26 = .ok (.if_icmp .ne 9, 3) := by decide +kernel
theorem dX7_butOne_29 : decode cX7_butOne 29 = .ok (.iconst 1, 1) := by decide +kernel
theorem dX7_butOne_30 : decode cX7_butOne 30 = .ok (.iload_n 2, 1) := by decide +kernel
theorem dX7_butOne_31 : decode cX7_butOne 31 = .ok (.ishl, 1) := by decide +kernel
theorem dX7_butOne_32 : decode cX7_butOne 32 = .ok (.goto 4, 3) := by decide +kernel
theorem dX7_butOne_35 : decode cX7_butOne 35 = .ok (.iconst 0, 1) := by decide +kernel
theorem dX7_butOne_36 : decode cX7_butOne 36 = .ok (.ior, 1) := by decide +kernel
theorem dX7_butOne_37 : decode cX7_butOne 37 = .ok (.istore_n 1, 1) := by decide +kernel
theorem dX7_butOne_38 : decode cX7_butOne 38 = .ok (.iinc 2 1, 3) := by decide +kernel
theorem dX7_butOne_41 : decode cX7_butOne 41 = .ok (.goto (-37), 3) := by decide +kernel
theorem dX7_butOne_44 : decode cX7_butOne 44 = .ok (.iload_n 1, 1) := by decide +kernel
theorem dX7_butOne_45 : decode cX7_butOne 45 = .ok (.ireturn, 1) := by decide +kernel
theorem dX7_decides_0 : decode cX7_decides 0 = .ok (.iconst 0, 1) := by decide +kernel
theorem dX7_decides_1 : decode cX7_decides 1 = .ok (.istore_n 1, 1) := by decide +kernel
theorem dX7_decides_2 : decode cX7_decides 2 = .ok (.iconst 0, 1) := by decide +kernel
theorem dX7_decides_3 : decode cX7_decides 3 = .ok (.istore_n 2, 1) := by decide +kernel
theorem dX7_decides_4 : decode cX7_decides 4 = .ok (.iload_n 2, 1) := by decide +kernel
theorem dX7_decides_5 : decode cX7_decides 5 = .ok (.aload_n 0, 1) := by decide +kernel
theorem dX7_decides_6 : decode cX7_decides 6 = .ok (.getfield 9, 3) := by decide +kernel
theorem dX7_decides_9 : decode cX7_decides 9 = .ok (.iconst 1, 1) := by decide +kernel
theorem dX7_decides_10 : decode cX7_decides 10 = .ok (.iaload, 1) := by decide +kernel
theorem dX7_decides_11 : decode cX7_decides 11 = .ok (.if_icmp .ge 72, 3) := by decide +kernel
theorem dX7_decides_14 : decode cX7_decides 14 = .ok (.aload_n 0, 1) := by decide +kernel
theorem dX7_decides_15 : decode cX7_decides 15 = .ok (.iload_n 2, 1) := by decide +kernel
theorem dX7_decides_16 : decode cX7_decides 16 = .ok (.iconst 5, 1) := by decide +kernel
theorem dX7_decides_17 : decode cX7_decides 17 = .ok (.invokevirtual 96, 3) := by decide +kernel
theorem dX7_decides_20 : decode cX7_decides 20 = .ok (.istore_n 3, 1) := by decide +kernel
theorem dX7_decides_21 : decode cX7_decides 21 = .ok (.iload_n 3, 1) := by decide +kernel
theorem dX7_decides_22 : decode cX7_decides 22 = .ok (.ifCond .lt 37, 3) := by decide +kernel
theorem dX7_decides_25 : decode cX7_decides 25 = .ok (.aload_n 0, 1) := by decide +kernel
theorem dX7_decides_26 : decode cX7_decides 26 = .ok (.iload_n 3, 1) := by decide +kernel
theorem dX7_decides_27 : decode cX7_decides 27 = .ok (.invokevirtual 104, 3) := by decide +kernel
theorem dX7_decides_30 : decode cX7_decides 30 = .ok (.aload_n 0, 1) := by decide +kernel
theorem dX7_decides_31 : decode cX7_decides 31 = .ok (.invokevirtual 161, 3) := by decide +kernel
theorem dX7_decides_34 : decode cX7_decides 34 = .ok (.if_icmp .lt 25, 3) := by decide +kernel
theorem dX7_decides_37 : decode cX7_decides 37 = .ok (.aload_n 0, 1) := by decide +kernel
theorem dX7_decides_38 : decode cX7_decides 38 = .ok (.iload_n 3, 1) := by decide +kernel
theorem dX7_decides_39 : decode cX7_decides 39 = .ok (.invokevirtual 104, 3) := by decide +kernel
theorem dX7_decides_42 : decode cX7_decides 42 = .ok (.aload_n 0, 1) := by decide +kernel
theorem dX7_decides_43 : decode cX7_decides 43 = .ok (.iload_n 2, 1) := by decide +kernel
theorem dX7_decides_44 : decode cX7_decides 44 = .ok (.invokevirtual 100, 3) := by decide +kernel
theorem dX7_decides_47 : decode cX7_decides 47 = .ok (.isub, 1) := by decide +kernel
theorem dX7_decides_48 : decode cX7_decides 48 = .ok (.aload_n 0, 1) := by decide +kernel
theorem dX7_decides_49 : decode cX7_decides 49 = .ok (.invokevirtual 161, 3) := by decide +kernel
theorem dX7_decides_52 : decode cX7_decides 52 = .ok (.if_icmp .ge 7, 3) := by decide +kernel
theorem dX7_decides_55 : decode cX7_decides 55 = .ok (.iconst 1, 1) := by decide +kernel
theorem dX7_decides_56 : decode cX7_decides 56 = .ok (.goto 4, 3) := by decide +kernel
theorem dX7_decides_59 : decode cX7_decides 59 = .ok (.iconst 0, 1) := by decide +kernel
theorem dX7_decides_60 : decode cX7_decides 60 = .ok (.istore 4, 2) := by decide +kernel
theorem dX7_decides_62 : decode cX7_decides 62 = .ok (.iload_n 1, 1) := by decide +kernel
theorem dX7_decides_63 : decode cX7_decides 63 = .ok (.iload 4, 2) := by decide +kernel
theorem dX7_decides_65 : decode cX7_decides 65 = .ok (.ifCond .eq 9, 3) := by decide +kernel
theorem dX7_decides_68 : decode cX7_decides 68 = .ok (.iconst 1, 1) := by decide +kernel
theorem dX7_decides_69 : decode cX7_decides 69 = .ok (.iload_n 2, 1) := by decide +kernel
theorem dX7_decides_70 : decode cX7_decides 70 = .ok (.ishl, 1) := by decide +kernel
theorem dX7_decides_71 : decode cX7_decides 71 = .ok (.goto 4, 3) := by decide +kernel
theorem dX7_decides_74 : decode cX7_decides 74 = .ok (.iconst 0, 1) := by decide +kernel
theorem dX7_decides_75 : decode cX7_decides 75 = .ok (.ior, 1) := by decide +kernel
theorem dX7_decides_76 : decode cX7_decides 76 = .ok (.istore_n 1, 1) := by decide +kernel
theorem dX7_decides_77 : decode cX7_decides 77 = .ok (.iinc 2 1, 3) := by decide +kernel
theorem dX7_decides_80 : decode cX7_decides 80 = .ok (.goto (-76), 3) := by decide +kernel
theorem dX7_decides_83 : decode cX7_decides 83 = .ok (.iload_n 1, 1) := by decide +kernel
theorem dX7_decides_84 : decode cX7_decides 84 = .ok (.ireturn, 1) := by decide +kernel
theorem dX7_splits_0 : decode cX7_splits 0 = .ok (.iload_n 1, 1) := by decide +kernel
theorem dX7_splits_1 : decode cX7_splits 1 = .ok (.iconst 0, 1) := by decide +kernel
theorem dX7_splits_2 : decode cX7_splits 2 = .ok (.bipush 12, 2) := by decide +kernel
theorem dX7_splits_4 : decode cX7_splits 4 = .ok (.invokestatic 82, 3) := by decide +kernel
theorem dX7_splits_7 : decode cX7_splits 7 = .ok (.ifCond .eq 13, 3) := by decide +kernel
theorem dX7_splits_10 : decode cX7_splits 10 = .ok (.iload_n 2, 1) := by decide +kernel
theorem dX7_splits_11 : decode cX7_splits 11 = .ok (.iconst 1, 1) := by decide +kernel
theorem dX7_splits_12 : decode cX7_splits 12 = .ok (.bipush 6, 2) := by decide +kernel
theorem dX7_splits_14 : decode cX7_splits 14 = .ok (.invokestatic 82, 3) := by decide +kernel
theorem dX7_splits_17 : decode cX7_splits 17 = .ok (.ifCond .ne 6, 3) := by decide +kernel
theorem dX7_splits_20 : decode cX7_splits 20 = .ok (.ldc 90, 2) := by decide +kernel
theorem dX7_splits_22 : decode cX7_splits 22 = .ok (.ireturn, 1) := by decide +kernel
theorem dX7_splits_23 : decode cX7_splits 23 = .ok (.iconst 0, 1) := by decide +kernel
theorem dX7_splits_24 : decode cX7_splits 24 = .ok (.istore_n 3, 1) := by decide +kernel
theorem dX7_splits_25 : decode cX7_splits 25 = .ok (.iload_n 3, 1) := by decide +kernel
theorem dX7_splits_26 : decode cX7_splits 26 = .ok (.bipush 13, 2) := by decide +kernel
theorem dX7_splits_28 : decode cX7_splits 28 = .ok (.if_icmp .ge 24, 3) := by decide +kernel
theorem dX7_splits_31 : decode cX7_splits 31 = .ok (.aload_n 0, 1) := by decide +kernel
theorem dX7_splits_32 : decode cX7_splits 32 = .ok (.getfield 22, 3) := by decide +kernel
theorem dX7_splits_35 : decode cX7_splits 35 = .ok (.iload_n 3, 1) := by decide +kernel
theorem dX7_splits_36 : decode cX7_splits 36 = .ok (.iload_n 3, 1) := by decide +kernel
theorem dX7_splits_37 : decode cX7_splits 37 = .ok (.ifCond .ne 7, 3) := by decide +kernel
theorem dX7_splits_40 : decode cX7_splits 40 = .ok (.iconst 1, 1) := by decide +kernel
theorem dX7_splits_41 : decode cX7_splits 41 = .ok (.goto 4, 3) := by decide +kernel
theorem dX7_splits_44 : decode cX7_splits 44 = .ok (.iconst 0, 1) := by decide +kernel
theorem dX7_splits_45 : decode cX7_splits 45 = .ok (.iastore, 1) := by decide +kernel
theorem dX7_splits_46 : decode cX7_splits 46 = .ok (.iinc 3 1, 3) := by decide +kernel
theorem dX7_splits_49 : decode cX7_splits 49 = .ok (.goto (-24), 3) := by decide +kernel
theorem dX7_splits_52 : decode cX7_splits 52 = .ok (.iconst 0, 1) := by decide +kernel
theorem dX7_splits_53 : decode cX7_splits 53 = .ok (.istore_n 3, 1) := by decide +kernel
theorem dX7_splits_54 : decode cX7_splits 54 = .ok (.iload_n 3, 1) := by decide +kernel
theorem dX7_splits_55 : decode cX7_splits 55 = .ok (.iload_n 2, 1) := by decide +kernel
theorem dX7_splits_56 : decode cX7_splits 56 = .ok (.if_icmp .ge 80, 3) := by decide +kernel
theorem dX7_splits_59 : decode cX7_splits 59 = .ok (.iload_n 1, 1) := by decide +kernel
theorem dX7_splits_60 : decode cX7_splits 60 = .ok (.istore 4, 2) := by decide +kernel
theorem dX7_splits_62 : decode cX7_splits 62 = .ok (.iload 4, 2) := by decide +kernel
theorem dX7_splits_64 : decode cX7_splits 64 = .ok (.ifCond .lt 66, 3) := by decide +kernel
theorem dX7_splits_67 : decode cX7_splits 67 = .ok (.iconst 0, 1) := by decide +kernel
theorem dX7_splits_68 : decode cX7_splits 68 = .ok (.istore 5, 2) := by decide +kernel
theorem dX7_splits_70 : decode cX7_splits 70 = .ok (.iconst 0, 1) := by decide +kernel
theorem dX7_splits_71 : decode cX7_splits 71 = .ok (.istore 6, 2) := by decide +kernel
theorem dX7_splits_73 : decode cX7_splits 73 = .ok (.iload 6, 2) := by decide +kernel
theorem dX7_splits_75 : decode cX7_splits 75 = .ok (.iload 4, 2) := by decide +kernel
theorem dX7_splits_77 : decode cX7_splits 77 = .ok (.if_icmp .gt 38, 3) := by decide +kernel
theorem dX7_splits_80 : decode cX7_splits 80 = .ok (.iload 5, 2) := by decide +kernel
theorem dX7_splits_82 : decode cX7_splits 82 = .ok (.iconst 3, 1) := by decide +kernel
theorem dX7_splits_83 : decode cX7_splits 83 = .ok (.iload 6, 2) := by decide +kernel
theorem dX7_splits_85 : decode cX7_splits 85 = .ok (.imul, 1) := by decide +kernel
theorem dX7_splits_86 : decode cX7_splits 86 = .ok (.iconst 2, 1) := by decide +kernel
theorem dX7_splits_87 : decode cX7_splits 87 = .ok (.iload_n 1, 1) := by decide +kernel
theorem dX7_splits_88 : decode cX7_splits 88 = .ok (.imul, 1) := by decide +kernel
theorem dX7_splits_89 : decode cX7_splits 89 = .ok (.if_icmp .ge 16, 3) := by decide +kernel
theorem dX7_splits_92 : decode cX7_splits 92 = .ok (.aload_n 0, 1) := by decide +kernel
theorem dX7_splits_93 : decode cX7_splits 93 = .ok (.getfield 22, 3) := by decide +kernel
theorem dX7_splits_96 : decode cX7_splits 96 = .ok (.iload 4, 2) := by decide +kernel
theorem dX7_splits_98 : decode cX7_splits 98 = .ok (.iload 6, 2) := by decide +kernel
theorem dX7_splits_100 : decode cX7_splits 100 = .ok (.isub, 1) := by decide +kernel
theorem dX7_splits_101 : decode cX7_splits 101 = .ok (.iaload, 1) := by decide +kernel
theorem dX7_splits_102 : decode cX7_splits 102 = .ok (.goto 4, 3) := by decide +kernel
theorem dX7_splits_105 : decode cX7_splits 105 = .ok (.iconst 0, 1) := by decide +kernel
theorem dX7_splits_106 : decode cX7_splits 106 = .ok (.iadd, 1) := by decide +kernel
theorem dX7_splits_107 : decode cX7_splits 107 = .ok (.istore 5, 2) := by decide +kernel
theorem dX7_splits_109 : decode cX7_splits 109 = .ok (.iinc 6 1, 3) := by decide +kernel
theorem dX7_splits_112 : decode cX7_splits 112 = .ok (.goto (-39), 3) := by decide +kernel
theorem dX7_splits_115 : decode cX7_splits 115 = .ok (.aload_n 0, 1) := by decide +kernel
theorem dX7_splits_116 : decode cX7_splits 116 = .ok (.getfield 22, 3) := by decide +kernel
theorem dX7_splits_119 : decode cX7_splits 119 = .ok (.iload 4, 2) := by decide +kernel
theorem dX7_splits_121 : decode cX7_splits 121 = .ok (.iload 5, 2) := by decide +kernel
theorem dX7_splits_123 : decode cX7_splits 123 = .ok (.iastore, 1) := by decide +kernel
theorem dX7_splits_124 : decode cX7_splits 124 = .ok (.iinc 4 (-1), 3) := by decide +kernel
theorem dX7_splits_127 : decode cX7_splits 127 = .ok (.goto (-65), 3) := by decide +kernel
theorem dX7_splits_130 : decode cX7_splits 130 = .ok (.iinc 3 1, 3) := by decide +kernel
theorem dX7_splits_133 : decode cX7_splits 133 = .ok (.goto (-79), 3) := by decide +kernel
theorem dX7_splits_136 : decode cX7_splits 136 = .ok (.aload_n 0, 1) := by decide +kernel
theorem dX7_splits_137 : decode cX7_splits 137 = .ok (.getfield 22, 3) := by decide +kernel
theorem dX7_splits_140 : decode cX7_splits 140 = .ok (.iload_n 1, 1) := by decide +kernel
theorem dX7_splits_141 : decode cX7_splits 141 = .ok (.iaload, 1) := by decide +kernel
theorem dX7_splits_142 : decode cX7_splits 142 = .ok (.ireturn, 1) := by decide +kernel
theorem dX7_thinks_0 : decode cX7_thinks 0 = .ok (.iconst 0, 1) := by decide +kernel
theorem dX7_thinks_1 : decode cX7_thinks 1 = .ok (.istore_n 1, 1) := by decide +kernel
theorem dX7_thinks_2 : decode cX7_thinks 2 = .ok (.iload_n 1, 1) := by decide +kernel
theorem dX7_thinks_3 : decode cX7_thinks 3 = .ok (.bipush 71, 2) := by decide +kernel
theorem dX7_thinks_5 : decode cX7_thinks 5 = .ok (.if_icmp .ge 21, 3) := by decide +kernel
theorem dX7_thinks_8 : decode cX7_thinks 8 = .ok (.aload_n 0, 1) := by decide +kernel
theorem dX7_thinks_9 : decode cX7_thinks 9 = .ok (.getfield 25, 3) := by decide +kernel
theorem dX7_thinks_12 : decode cX7_thinks 12 = .ok (.iload_n 1, 1) := by decide +kernel
theorem dX7_thinks_13 : decode cX7_thinks 13 = .ok (.aload_n 0, 1) := by decide +kernel
theorem dX7_thinks_14 : decode cX7_thinks 14 = .ok (.getfield 9, 3) := by decide +kernel
theorem dX7_thinks_17 : decode cX7_thinks 17 = .ok (.iload_n 1, 1) := by decide +kernel
theorem dX7_thinks_18 : decode cX7_thinks 18 = .ok (.iaload, 1) := by decide +kernel
theorem dX7_thinks_19 : decode cX7_thinks 19 = .ok (.iastore, 1) := by decide +kernel
theorem dX7_thinks_20 : decode cX7_thinks 20 = .ok (.iinc 1 1, 3) := by decide +kernel
theorem dX7_thinks_23 : decode cX7_thinks 23 = .ok (.goto (-21), 3) := by decide +kernel
theorem dX7_thinks_26 : decode cX7_thinks 26 = .ok (.return_, 1) := by decide +kernel
theorem dX7_putsBack_0 : decode cX7_putsBack 0 = .ok (.iconst 0, 1) := by decide +kernel
theorem dX7_putsBack_1 : decode cX7_putsBack 1 = .ok (.istore_n 1, 1) := by decide +kernel
theorem dX7_putsBack_2 : decode cX7_putsBack 2 = .ok (.iload_n 1, 1) := by decide +kernel
theorem dX7_putsBack_3 : decode cX7_putsBack 3 = .ok (.bipush 71, 2) := by decide +kernel
theorem dX7_putsBack_5 : decode cX7_putsBack 5 = .ok (.if_icmp .ge 21, 3) := by decide +kernel
theorem dX7_putsBack_8 : decode cX7_putsBack 8 = .ok (.aload_n 0, 1) := by decide +kernel
theorem dX7_putsBack_9 : decode cX7_putsBack 9 = .ok (.getfield 9, 3) := by decide +kernel
theorem dX7_putsBack_12 : decode cX7_putsBack 12 = .ok (.iload_n 1, 1) := by decide +kernel
theorem dX7_putsBack_13 : decode cX7_putsBack 13 = .ok (.aload_n 0, 1) := by decide +kernel
theorem dX7_putsBack_14 : decode cX7_putsBack 14 = .ok (.getfield 25, 3) := by decide +kernel
theorem dX7_putsBack_17 : decode cX7_putsBack 17 = .ok (.iload_n 1, 1) := by decide +kernel
theorem dX7_putsBack_18 : decode cX7_putsBack 18 = .ok (.iaload, 1) := by decide +kernel
theorem dX7_putsBack_19 : decode cX7_putsBack 19 = .ok (.iastore, 1) := by decide +kernel
theorem dX7_putsBack_20 : decode cX7_putsBack 20 = .ok (.iinc 1 1, 3) := by decide +kernel
theorem dX7_putsBack_23 : decode cX7_putsBack 23 = .ok (.goto (-21), 3) := by decide +kernel
theorem dX7_putsBack_26 : decode cX7_putsBack 26 = .ok (.return_, 1) := by decide +kernel
theorem dX7_mostHad_0 : decode cX7_mostHad 0 = .ok (.aload_n 0, 1) := by decide +kernel
theorem dX7_mostHad_1 : decode cX7_mostHad 1 = .ok (.invokevirtual 174, 3) := by decide +kernel
theorem dX7_mostHad_4 : decode cX7_mostHad 4 = .ok (.istore_n 1, 1) := by decide +kernel
theorem dX7_mostHad_5 : decode cX7_mostHad 5 = .ok (.iload_n 1, 1) := by decide +kernel
theorem dX7_mostHad_6 : decode cX7_mostHad 6 = .ok (.ifCond .ge 7, 3) := by decide +kernel
theorem dX7_mostHad_9 : decode cX7_mostHad 9 = .ok (.iconst 0, 1) := by decide +kernel
theorem dX7_mostHad_10 : decode cX7_mostHad 10 = .ok (.goto 8, 3) := by decide +kernel
theorem dX7_mostHad_13 : decode cX7_mostHad 13 = .ok (.aload_n 0, 1) := by decide +kernel
theorem dX7_mostHad_14 : decode cX7_mostHad 14 = .ok (.iload_n 1, 1) := by decide +kernel
theorem dX7_mostHad_15 : decode cX7_mostHad 15 = .ok (.invokevirtual 104, 3) := by decide +kernel
theorem dX7_mostHad_18 : decode cX7_mostHad 18 = .ok (.ireturn, 1) := by decide +kernel
theorem dX7_behind_0 : decode cX7_behind 0 = .ok (.iload_n 1, 1) := by decide +kernel
theorem dX7_behind_1 : decode cX7_behind 1 = .ok (.iconst 0, 1) := by decide +kernel
theorem dX7_behind_2 : decode cX7_behind 2 = .ok (.bipush 100, 2) := by decide +kernel
theorem dX7_behind_4 : decode cX7_behind 4 = .ok (.invokestatic 82, 3) := by decide +kernel
theorem dX7_behind_7 : decode cX7_behind 7 = .ok (.ifCond .eq 22, 3) := by decide +kernel
theorem dX7_behind_10 : decode cX7_behind 10 = .ok (.iload_n 2, 1) := by decide +kernel
theorem dX7_behind_11 : decode cX7_behind 11 = .ok (.ifCond .lt 18, 3) := by decide +kernel
theorem dX7_behind_14 : decode cX7_behind 14 = .ok (.iload_n 2, 1) := by decide +kernel
theorem dX7_behind_15 : decode cX7_behind 15 = .ok (.iconst 2, 1) := by decide +kernel
theorem dX7_behind_16 : decode cX7_behind 16 = .ok (.if_icmp .le 16, 3) := by decide +kernel
theorem dX7_behind_19 : decode cX7_behind 19 = .ok (.aload_n 0, 1) := by decide +kernel
theorem dX7_behind_20 : decode cX7_behind 20 = .ok (.iload_n 2, 1) := by decide +kernel
theorem dX7_behind_21 : decode cX7_behind 21 = .ok (.iconst 3, 1) := by decide +kernel
theorem dX7_behind_22 : decode cX7_behind 22 = .ok (.isub, 1) := by decide +kernel
theorem dX7_behind_23 : decode cX7_behind 23 = .ok (.invokevirtual 139, 3) := by decide +kernel
theorem dX7_behind_26 : decode cX7_behind 26 = .ok (.ifCond .ne 6, 3) := by decide +kernel
theorem dX7_behind_29 : decode cX7_behind 29 = .ok (.ldc 90, 2) := by decide +kernel
theorem dX7_behind_31 : decode cX7_behind 31 = .ok (.ireturn, 1) := by decide +kernel
theorem dX7_behind_32 : decode cX7_behind 32 = .ok (.aload_n 0, 1) := by decide +kernel
theorem dX7_behind_33 : decode cX7_behind 33 = .ok (.invokevirtual 180, 3) := by decide +kernel
theorem dX7_behind_36 : decode cX7_behind 36 = .ok (.aload_n 0, 1) := by decide +kernel
theorem dX7_behind_37 : decode cX7_behind 37 = .ok (.iload_n 1, 1) := by decide +kernel
theorem dX7_behind_38 : decode cX7_behind 38 = .ok (.invokevirtual 170, 3) := by decide +kernel
theorem dX7_behind_41 : decode cX7_behind 41 = .ok (.iload_n 2, 1) := by decide +kernel
theorem dX7_behind_42 : decode cX7_behind 42 = .ok (.ifCond .ne 13, 3) := by decide +kernel
theorem dX7_behind_45 : decode cX7_behind 45 = .ok (.aload_n 0, 1) := by decide +kernel
theorem dX7_behind_46 : decode cX7_behind 46 = .ok (.getfield 9, 3) := by decide +kernel
theorem dX7_behind_49 : decode cX7_behind 49 = .ok (.bipush 7, 2) := by decide +kernel
theorem dX7_behind_51 : decode cX7_behind 51 = .ok (.iaload, 1) := by decide +kernel
theorem dX7_behind_52 : decode cX7_behind 52 = .ok (.goto 38, 3) := by decide +kernel
theorem dX7_behind_55 : decode cX7_behind 55 = .ok (.iload_n 2, 1) := by decide +kernel
theorem dX7_behind_56 : decode cX7_behind 56 = .ok (.iconst 1, 1) := by decide +kernel
theorem dX7_behind_57 : decode cX7_behind 57 = .ok (.if_icmp .ne 10, 3) := by decide +kernel
theorem dX7_behind_60 : decode cX7_behind 60 = .ok (.aload_n 0, 1) := by decide +kernel
theorem dX7_behind_61 : decode cX7_behind 61 = .ok (.invokevirtual 183, 3) := by decide +kernel
theorem dX7_behind_64 : decode cX7_behind 64 = .ok (.goto 26, 3) := by decide +kernel
theorem dX7_behind_67 : decode cX7_behind 67 = .ok (.iload_n 2, 1) := by decide +kernel
theorem dX7_behind_68 : decode cX7_behind 68 = .ok (.iconst 2, 1) := by decide +kernel
theorem dX7_behind_69 : decode cX7_behind 69 = .ok (.if_icmp .ne 13, 3) := by decide +kernel
theorem dX7_behind_72 : decode cX7_behind 72 = .ok (.aload_n 0, 1) := by decide +kernel
theorem dX7_behind_73 : decode cX7_behind 73 = .ok (.getfield 9, 3) := by decide +kernel
theorem dX7_behind_76 : decode cX7_behind 76 = .ok (.bipush 8, 2) := by decide +kernel
theorem dX7_behind_78 : decode cX7_behind 78 = .ok (.iaload, 1) := by decide +kernel
theorem dX7_behind_79 : decode cX7_behind 79 = .ok (.goto 11, 3) := by decide +kernel
theorem dX7_behind_82 : decode cX7_behind 82 = .ok (.aload_n 0, 1) := by decide +kernel
theorem dX7_behind_83 : decode cX7_behind 83 = .ok (.iload_n 2, 1) := by decide +kernel
theorem dX7_behind_84 : decode cX7_behind 84 = .ok (.iconst 3, 1) := by decide +kernel
theorem dX7_behind_85 : decode cX7_behind 85 = .ok (.isub, 1) := by decide +kernel
theorem dX7_behind_86 : decode cX7_behind 86 = .ok (.iconst 5, 1) := by decide +kernel
theorem dX7_behind_87 : decode cX7_behind 87 = .ok (.invokevirtual 96, 3) := by decide +kernel
theorem dX7_behind_90 : decode cX7_behind 90 = .ok (.istore_n 3, 1) := by decide +kernel
theorem dX7_behind_91 : decode cX7_behind 91 = .ok (.aload_n 0, 1) := by decide +kernel
theorem dX7_behind_92 : decode cX7_behind 92 = .ok (.invokevirtual 186, 3) := by decide +kernel
theorem dX7_behind_95 : decode cX7_behind 95 = .ok (.iload_n 3, 1) := by decide +kernel
theorem dX7_behind_96 : decode cX7_behind 96 = .ok (.ireturn, 1) := by decide +kernel
theorem dX7_ends_0 : decode cX7_ends 0 = .ok (.aload_n 0, 1) := by decide +kernel
theorem dX7_ends_1 : decode cX7_ends 1 = .ok (.invokevirtual 180, 3) := by decide +kernel
theorem dX7_ends_4 : decode cX7_ends 4 = .ok (.iconst 0, 1) := by decide +kernel
theorem dX7_ends_5 : decode cX7_ends 5 = .ok (.istore_n 1, 1) := by decide +kernel
theorem dX7_ends_6 : decode cX7_ends 6 = .ok (.iload_n 1, 1) := by decide +kernel
theorem dX7_ends_7 : decode cX7_ends 7 = .ok (.bipush 100, 2) := by decide +kernel
theorem dX7_ends_9 : decode cX7_ends 9 = .ok (.if_icmp .gt 23, 3) := by decide +kernel
theorem dX7_ends_12 : decode cX7_ends 12 = .ok (.aload_n 0, 1) := by decide +kernel
theorem dX7_ends_13 : decode cX7_ends 13 = .ok (.getfield 9, 3) := by decide +kernel
theorem dX7_ends_16 : decode cX7_ends 16 = .ok (.bipush 7, 2) := by decide +kernel
theorem dX7_ends_18 : decode cX7_ends 18 = .ok (.iaload, 1) := by decide +kernel
theorem dX7_ends_19 : decode cX7_ends 19 = .ok (.ifCond .ge 13, 3) := by decide +kernel
theorem dX7_ends_22 : decode cX7_ends 22 = .ok (.aload_n 0, 1) := by decide +kernel
theorem dX7_ends_23 : decode cX7_ends 23 = .ok (.invokevirtual 167, 3) := by decide +kernel
theorem dX7_ends_26 : decode cX7_ends 26 = .ok (.iinc 1 1, 3) := by decide +kernel
theorem dX7_ends_29 : decode cX7_ends 29 = .ok (.goto (-23), 3) := by decide +kernel
theorem dX7_ends_32 : decode cX7_ends 32 = .ok (.aload_n 0, 1) := by decide +kernel
theorem dX7_ends_33 : decode cX7_ends 33 = .ok (.invokevirtual 186, 3) := by decide +kernel
theorem dX7_ends_36 : decode cX7_ends 36 = .ok (.iload_n 1, 1) := by decide +kernel
theorem dX7_ends_37 : decode cX7_ends 37 = .ok (.bipush 100, 2) := by decide +kernel
theorem dX7_ends_39 : decode cX7_ends 39 = .ok (.if_icmp .le 8, 3) := by decide +kernel
theorem dX7_ends_42 : decode cX7_ends 42 = .ok (.ldc 81, 2) := by decide +kernel
theorem dX7_ends_44 : decode cX7_ends 44 = .ok (.goto 4, 3) := by decide +kernel
theorem dX7_ends_47 : decode cX7_ends 47 = .ok (.iload_n 1, 1) := by decide +kernel
theorem dX7_ends_48 : decode cX7_ends 48 = .ok (.ireturn, 1) := by decide +kernel
theorem dX7_won_0 : decode cX7_won 0 = .ok (.iload_n 1, 1) := by decide +kernel
theorem dX7_won_1 : decode cX7_won 1 = .ok (.iconst 1, 1) := by decide +kernel
theorem dX7_won_2 : decode cX7_won 2 = .ok (.bipush 40, 2) := by decide +kernel
theorem dX7_won_4 : decode cX7_won 4 = .ok (.invokestatic 82, 3) := by decide +kernel
theorem dX7_won_7 : decode cX7_won 7 = .ok (.ifCond .eq 20, 3) := by decide +kernel
theorem dX7_won_10 : decode cX7_won 10 = .ok (.aload_n 0, 1) := by decide +kernel
theorem dX7_won_11 : decode cX7_won 11 = .ok (.iload_n 2, 1) := by decide +kernel
theorem dX7_won_12 : decode cX7_won 12 = .ok (.invokevirtual 139, 3) := by decide +kernel
theorem dX7_won_15 : decode cX7_won 15 = .ok (.ifCond .eq 12, 3) := by decide +kernel
theorem dX7_won_18 : decode cX7_won 18 = .ok (.iload_n 3, 1) := by decide +kernel
theorem dX7_won_19 : decode cX7_won 19 = .ok (.iconst 0, 1) := by decide +kernel
theorem dX7_won_20 : decode cX7_won 20 = .ok (.iconst 1, 1) := by decide +kernel
theorem dX7_won_21 : decode cX7_won 21 = .ok (.invokestatic 82, 3) := by decide +kernel
theorem dX7_won_24 : decode cX7_won 24 = .ok (.ifCond .ne 6, 3) := by decide +kernel
theorem dX7_won_27 : decode cX7_won 27 = .ok (.ldc 90, 2) := by decide +kernel
theorem dX7_won_29 : decode cX7_won 29 = .ok (.ireturn, 1) := by decide +kernel
theorem dX7_won_30 : decode cX7_won 30 = .ok (.aload_n 0, 1) := by decide +kernel
theorem dX7_won_31 : decode cX7_won 31 = .ok (.invokevirtual 180, 3) := by decide +kernel
theorem dX7_won_34 : decode cX7_won 34 = .ok (.iconst (-1), 1) := by decide +kernel
theorem dX7_won_35 : decode cX7_won 35 = .ok (.istore 4, 2) := by decide +kernel
theorem dX7_won_37 : decode cX7_won 37 = .ok (.iconst (-1), 1) := by decide +kernel
theorem dX7_won_38 : decode cX7_won 38 = .ok (.istore 5, 2) := by decide +kernel
theorem dX7_won_40 : decode cX7_won 40 = .ok (.iconst 0, 1) := by decide +kernel
theorem dX7_won_41 : decode cX7_won 41 = .ok (.istore 6, 2) := by decide +kernel
theorem dX7_won_43 : decode cX7_won 43 = .ok (.iload 6, 2) := by decide +kernel
theorem dX7_won_45 : decode cX7_won 45 = .ok (.aload_n 0, 1) := by decide +kernel
theorem dX7_won_46 : decode cX7_won 46 = .ok (.getfield 9, 3) := by decide +kernel
theorem dX7_won_49 : decode cX7_won 49 = .ok (.iconst 1, 1) := by decide +kernel
theorem dX7_won_50 : decode cX7_won 50 = .ok (.iaload, 1) := by decide +kernel
theorem dX7_won_51 : decode cX7_won 51 = .ok (.if_icmp .ge 65, 3) := by decide +kernel
theorem dX7_won_54 : decode cX7_won 54 = .ok (.aload_n 0, 1) := by decide +kernel
theorem dX7_won_55 : decode cX7_won 55 = .ok (.iload 6, 2) := by decide +kernel
theorem dX7_won_57 : decode cX7_won 57 = .ok (.iconst 1, 1) := by decide +kernel
theorem dX7_won_58 : decode cX7_won 58 = .ok (.iload_n 2, 1) := by decide +kernel
theorem dX7_won_59 : decode cX7_won 59 = .ok (.invokevirtual 86, 3) := by decide +kernel
theorem dX7_won_62 : decode cX7_won 62 = .ok (.aload_n 0, 1) := by decide +kernel
theorem dX7_won_63 : decode cX7_won 63 = .ok (.iload_n 1, 1) := by decide +kernel
theorem dX7_won_64 : decode cX7_won 64 = .ok (.invokevirtual 170, 3) := by decide +kernel
theorem dX7_won_67 : decode cX7_won 67 = .ok (.aload_n 0, 1) := by decide +kernel
theorem dX7_won_68 : decode cX7_won 68 = .ok (.iload_n 2, 1) := by decide +kernel
theorem dX7_won_69 : decode cX7_won 69 = .ok (.invokevirtual 104, 3) := by decide +kernel
theorem dX7_won_72 : decode cX7_won 72 = .ok (.istore 7, 2) := by decide +kernel
theorem dX7_won_74 : decode cX7_won 74 = .ok (.aload_n 0, 1) := by decide +kernel
theorem dX7_won_75 : decode cX7_won 75 = .ok (.invokevirtual 186, 3) := by decide +kernel
theorem dX7_won_78 : decode cX7_won 78 = .ok (.iload 7, 2) := by decide +kernel
theorem dX7_won_80 : decode cX7_won 80 = .ok (.iload 5, 2) := by decide +kernel
theorem dX7_won_82 : decode cX7_won 82 = .ok (.if_icmp .le 8, 3) := by decide +kernel
theorem dX7_won_85 : decode cX7_won 85 = .ok (.iload 6, 2) := by decide +kernel
theorem dX7_won_87 : decode cX7_won 87 = .ok (.goto 5, 3) := by decide +kernel
theorem dX7_won_90 : decode cX7_won 90 = .ok (.iload 4, 2) := by decide +kernel
theorem dX7_won_92 : decode cX7_won 92 = .ok (.istore 4, 2) := by decide +kernel
theorem dX7_won_94 : decode cX7_won 94 = .ok (.iload 7, 2) := by decide +kernel
theorem dX7_won_96 : decode cX7_won 96 = .ok (.iload 5, 2) := by decide +kernel
theorem dX7_won_98 : decode cX7_won 98 = .ok (.if_icmp .le 8, 3) := by decide +kernel
theorem dX7_won_101 : decode cX7_won 101 = .ok (.iload 7, 2) := by decide +kernel
theorem dX7_won_103 : decode cX7_won 103 = .ok (.goto 5, 3) := by decide +kernel
theorem dX7_won_106 : decode cX7_won 106 = .ok (.iload 5, 2) := by decide +kernel
theorem dX7_won_108 : decode cX7_won 108 = .ok (.istore 5, 2) := by decide +kernel
theorem dX7_won_110 : decode cX7_won 110 = .ok (.iinc 6 1, 3) := by decide +kernel
theorem dX7_won_113 : decode cX7_won 113 = .ok (.goto (-70), 3) := by decide +kernel
theorem dX7_won_116 : decode cX7_won 116 = .ok (.iload_n 3, 1) := by decide +kernel
theorem dX7_won_117 : decode cX7_won 117 = .ok (.ifCond .ne 8, 3) := by decide +kernel
theorem dX7_won_120 : decode cX7_won 120 = .ok (.iload 4, 2) := by decide +kernel
theorem dX7_won_122 : decode cX7_won 122 = .ok (.goto 5, 3) := by decide +kernel
theorem dX7_won_125 : decode cX7_won 125 = .ok (.iload 5, 2) := by decide +kernel
theorem dX7_won_127 : decode cX7_won 127 = .ok (.ireturn, 1) := by decide +kernel
theorem dX7_party_0 : decode cX7_party 0 = .ok (.iload_n 1, 1) := by decide +kernel
theorem dX7_party_1 : decode cX7_party 1 = .ok (.iconst 1, 1) := by decide +kernel
theorem dX7_party_2 : decode cX7_party 2 = .ok (.bipush 40, 2) := by decide +kernel
theorem dX7_party_4 : decode cX7_party 4 = .ok (.invokestatic 82, 3) := by decide +kernel
theorem dX7_party_7 : decode cX7_party 7 = .ok (.ifCond .ne 6, 3) := by decide +kernel
theorem dX7_party_10 : decode cX7_party 10 = .ok (.ldc 90, 2) := by decide +kernel
theorem dX7_party_12 : decode cX7_party 12 = .ok (.ireturn, 1) := by decide +kernel
theorem dX7_party_13 : decode cX7_party 13 = .ok (.aload_n 0, 1) := by decide +kernel
theorem dX7_party_14 : decode cX7_party 14 = .ok (.invokevirtual 180, 3) := by decide +kernel
theorem dX7_party_17 : decode cX7_party 17 = .ok (.iconst (-1), 1) := by decide +kernel
theorem dX7_party_18 : decode cX7_party 18 = .ok (.istore_n 2, 1) := by decide +kernel
theorem dX7_party_19 : decode cX7_party 19 = .ok (.iconst 0, 1) := by decide +kernel
theorem dX7_party_20 : decode cX7_party 20 = .ok (.istore_n 3, 1) := by decide +kernel
theorem dX7_party_21 : decode cX7_party 21 = .ok (.iload_n 3, 1) := by decide +kernel
theorem dX7_party_22 : decode cX7_party 22 = .ok (.iconst 4, 1) := by decide +kernel
theorem dX7_party_23 : decode cX7_party 23 = .ok (.if_icmp .ge 104, 3) := by decide +kernel
theorem dX7_party_26 : decode cX7_party 26 = .ok (.iload_n 2, 1) := by decide +kernel
theorem dX7_party_27 : decode cX7_party 27 = .ok (.ifCond .ge 100, 3) := by decide +kernel
theorem dX7_party_30 : decode cX7_party 30 = .ok (.iconst 0, 1) := by decide +kernel
theorem dX7_party_31 : decode cX7_party 31 = .ok (.istore 4, 2) := by decide +kernel
theorem dX7_party_33 : decode cX7_party 33 = .ok (.iload 4, 2) := by decide +kernel
theorem dX7_party_35 : decode cX7_party 35 = .ok (.aload_n 0, 1) := by decide +kernel
theorem dX7_party_36 : decode cX7_party 36 = .ok (.getfield 9, 3) := by decide +kernel
theorem dX7_party_39 : decode cX7_party 39 = .ok (.iconst 1, 1) := by decide +kernel
theorem dX7_party_40 : decode cX7_party 40 = .ok (.iaload, 1) := by decide +kernel
theorem dX7_party_41 : decode cX7_party 41 = .ok (.if_icmp .ge 39, 3) := by decide +kernel
theorem dX7_party_44 : decode cX7_party 44 = .ok (.aload_n 0, 1) := by decide +kernel
theorem dX7_party_45 : decode cX7_party 45 = .ok (.iload 4, 2) := by decide +kernel
theorem dX7_party_47 : decode cX7_party 47 = .ok (.iconst 3, 1) := by decide +kernel
theorem dX7_party_48 : decode cX7_party 48 = .ok (.aload_n 0, 1) := by decide +kernel
theorem dX7_party_49 : decode cX7_party 49 = .ok (.iload 4, 2) := by decide +kernel
theorem dX7_party_51 : decode cX7_party 51 = .ok (.iconst 2, 1) := by decide +kernel
theorem dX7_party_52 : decode cX7_party 52 = .ok (.invokevirtual 96, 3) := by decide +kernel
theorem dX7_party_55 : decode cX7_party 55 = .ok (.iload_n 3, 1) := by decide +kernel
theorem dX7_party_56 : decode cX7_party 56 = .ok (.if_icmp .ne 8, 3) := by decide +kernel
theorem dX7_party_59 : decode cX7_party 59 = .ok (.bipush 99, 2) := by decide +kernel
theorem dX7_party_61 : decode cX7_party 61 = .ok (.goto 10, 3) := by decide +kernel
theorem dX7_party_64 : decode cX7_party 64 = .ok (.aload_n 0, 1) := by decide +kernel
theorem dX7_party_65 : decode cX7_party 65 = .ok (.iload 4, 2) := by decide +kernel
theorem dX7_party_67 : decode cX7_party 67 = .ok (.iconst 3, 1) := by decide +kernel
theorem dX7_party_68 : decode cX7_party 68 = .ok (.invokevirtual 96, 3) := by decide +kernel
theorem dX7_party_71 : decode cX7_party 71 = .ok (.invokevirtual 86, 3) := by decide +kernel
theorem dX7_party_74 : decode cX7_party 74 = .ok (.iinc 4 1, 3) := by decide +kernel
theorem dX7_party_77 : decode cX7_party 77 = .ok (.goto (-44), 3) := by decide +kernel
theorem dX7_party_80 : decode cX7_party 80 = .ok (.aload_n 0, 1) := by decide +kernel
theorem dX7_party_81 : decode cX7_party 81 = .ok (.iload_n 1, 1) := by decide +kernel
theorem dX7_party_82 : decode cX7_party 82 = .ok (.invokevirtual 170, 3) := by decide +kernel
theorem dX7_party_85 : decode cX7_party 85 = .ok (.aload_n 0, 1) := by decide +kernel
theorem dX7_party_86 : decode cX7_party 86 = .ok (.getfield 9, 3) := by decide +kernel
theorem dX7_party_89 : decode cX7_party 89 = .ok (.bipush 7, 2) := by decide +kernel
theorem dX7_party_91 : decode cX7_party 91 = .ok (.iaload, 1) := by decide +kernel
theorem dX7_party_92 : decode cX7_party 92 = .ok (.ifCond .lt 23, 3) := by decide +kernel
theorem dX7_party_95 : decode cX7_party 95 = .ok (.aload_n 0, 1) := by decide +kernel
theorem dX7_party_96 : decode cX7_party 96 = .ok (.aload_n 0, 1) := by decide +kernel
theorem dX7_party_97 : decode cX7_party 97 = .ok (.getfield 9, 3) := by decide +kernel
theorem dX7_party_100 : decode cX7_party 100 = .ok (.bipush 7, 2) := by decide +kernel
theorem dX7_party_102 : decode cX7_party 102 = .ok (.iaload, 1) := by decide +kernel
theorem dX7_party_103 : decode cX7_party 103 = .ok (.iconst 2, 1) := by decide +kernel
theorem dX7_party_104 : decode cX7_party 104 = .ok (.invokevirtual 96, 3) := by decide +kernel
theorem dX7_party_107 : decode cX7_party 107 = .ok (.iload_n 3, 1) := by decide +kernel
theorem dX7_party_108 : decode cX7_party 108 = .ok (.if_icmp .ne 7, 3) := by decide +kernel
theorem dX7_party_111 : decode cX7_party 111 = .ok (.iload_n 3, 1) := by decide +kernel
theorem dX7_party_112 : decode cX7_party 112 = .ok (.goto 4, 3) := by decide +kernel
theorem dX7_party_115 : decode cX7_party 115 = .ok (.iconst (-1), 1) := by decide +kernel
theorem dX7_party_116 : decode cX7_party 116 = .ok (.istore_n 2, 1) := by decide +kernel
theorem dX7_party_117 : decode cX7_party 117 = .ok (.aload_n 0, 1) := by decide +kernel
theorem dX7_party_118 : decode cX7_party 118 = .ok (.invokevirtual 186, 3) := by decide +kernel
theorem dX7_party_121 : decode cX7_party 121 = .ok (.iinc 3 1, 3) := by decide +kernel
theorem dX7_party_124 : decode cX7_party 124 = .ok (.goto (-103), 3) := by decide +kernel
theorem dX7_party_127 : decode cX7_party 127 = .ok (.iload_n 2, 1) := by decide +kernel
theorem dX7_party_128 : decode cX7_party 128 = .ok (.invokestatic 177, 3) := by decide +kernel
theorem dX7_party_131 : decode cX7_party 131 = .ok (.ireturn, 1) := by decide +kernel
theorem dX7_smokes_0 : decode cX7_smokes 0 = .ok (.iload_n 1, 1) := by decide +kernel
theorem dX7_smokes_1 : decode cX7_smokes 1 = .ok (.iconst 1, 1) := by decide +kernel
theorem dX7_smokes_2 : decode cX7_smokes 2 = .ok (.bipush 12, 2) := by decide +kernel
theorem dX7_smokes_4 : decode cX7_smokes 4 = .ok (.invokestatic 82, 3) := by decide +kernel
theorem dX7_smokes_7 : decode cX7_smokes 7 = .ok (.ifCond .ne 6, 3) := by decide +kernel
theorem dX7_smokes_10 : decode cX7_smokes 10 = .ok (.ldc 90, 2) := by decide +kernel
theorem dX7_smokes_12 : decode cX7_smokes 12 = .ok (.ireturn, 1) := by decide +kernel
theorem dX7_smokes_13 : decode cX7_smokes 13 = .ok (.aload_n 0, 1) := by decide +kernel
theorem dX7_smokes_14 : decode cX7_smokes 14 = .ok (.invokevirtual 180, 3) := by decide +kernel
theorem dX7_smokes_17 : decode cX7_smokes 17 = .ok (.iconst 0, 1) := by decide +kernel
theorem dX7_smokes_18 : decode cX7_smokes 18 = .ok (.istore_n 2, 1) := by decide +kernel
theorem dX7_smokes_19 : decode cX7_smokes 19 = .ok (.iconst 0, 1) := by decide +kernel
theorem dX7_smokes_20 : decode cX7_smokes 20 = .ok (.istore_n 3, 1) := by decide +kernel
theorem dX7_smokes_21 : decode cX7_smokes 21 = .ok (.iload_n 3, 1) := by decide +kernel
theorem dX7_smokes_22 : decode cX7_smokes 22 = .ok (.iload_n 1, 1) := by decide +kernel
theorem dX7_smokes_23 : decode cX7_smokes 23 = .ok (.if_icmp .ge 25, 3) := by decide +kernel
theorem dX7_smokes_26 : decode cX7_smokes 26 = .ok (.aload_n 0, 1) := by decide +kernel
theorem dX7_smokes_27 : decode cX7_smokes 27 = .ok (.invokevirtual 167, 3) := by decide +kernel
theorem dX7_smokes_30 : decode cX7_smokes 30 = .ok (.iconst 4, 1) := by decide +kernel
theorem dX7_smokes_31 : decode cX7_smokes 31 = .ok (.iload_n 2, 1) := by decide +kernel
theorem dX7_smokes_32 : decode cX7_smokes 32 = .ok (.imul, 1) := by decide +kernel
theorem dX7_smokes_33 : decode cX7_smokes 33 = .ok (.aload_n 0, 1) := by decide +kernel
theorem dX7_smokes_34 : decode cX7_smokes 34 = .ok (.getfield 9, 3) := by decide +kernel
theorem dX7_smokes_37 : decode cX7_smokes 37 = .ok (.bipush 8, 2) := by decide +kernel
theorem dX7_smokes_39 : decode cX7_smokes 39 = .ok (.iaload, 1) := by decide +kernel
theorem dX7_smokes_40 : decode cX7_smokes 40 = .ok (.iadd, 1) := by decide +kernel
theorem dX7_smokes_41 : decode cX7_smokes 41 = .ok (.istore_n 2, 1) := by decide +kernel
theorem dX7_smokes_42 : decode cX7_smokes 42 = .ok (.iinc 3 1, 3) := by decide +kernel
theorem dX7_smokes_45 : decode cX7_smokes 45 = .ok (.goto (-24), 3) := by decide +kernel
theorem dX7_smokes_48 : decode cX7_smokes 48 = .ok (.aload_n 0, 1) := by decide +kernel
theorem dX7_smokes_49 : decode cX7_smokes 49 = .ok (.invokevirtual 186, 3) := by decide +kernel
theorem dX7_smokes_52 : decode cX7_smokes 52 = .ok (.iload_n 2, 1) := by decide +kernel
theorem dX7_smokes_53 : decode cX7_smokes 53 = .ok (.ireturn, 1) := by decide +kernel
theorem dX7_offBy_0 : decode cX7_offBy 0 = .ok (.aload_n 0, 1) := by decide +kernel
theorem dX7_offBy_1 : decode cX7_offBy 1 = .ok (.getfield 9, 3) := by decide +kernel
theorem dX7_offBy_4 : decode cX7_offBy 4 = .ok (.bipush 6, 2) := by decide +kernel
theorem dX7_offBy_6 : decode cX7_offBy 6 = .ok (.iload_n 2, 1) := by decide +kernel
theorem dX7_offBy_7 : decode cX7_offBy 7 = .ok (.iastore, 1) := by decide +kernel
theorem dX7_offBy_8 : decode cX7_offBy 8 = .ok (.lconst 0, 1) := by decide +kernel
theorem dX7_offBy_9 : decode cX7_offBy 9 = .ok (.lstore_n 3, 1) := by decide +kernel
theorem dX7_offBy_10 : decode cX7_offBy 10 = .ok (.iconst 0, 1) := by decide +kernel
theorem dX7_offBy_11 : decode cX7_offBy 11 = .ok (.istore 5, 2) := by decide +kernel
theorem dX7_offBy_13 : decode cX7_offBy 13 = .ok (.iload 5, 2) := by decide +kernel
theorem dX7_offBy_15 : decode cX7_offBy 15 = .ok (.aload_n 0, 1) := by decide +kernel
theorem dX7_offBy_16 : decode cX7_offBy 16 = .ok (.getfield 57, 3) := by decide +kernel
theorem dX7_offBy_19 : decode cX7_offBy 19 = .ok (.iload_n 1, 1) := by decide +kernel
theorem dX7_offBy_20 : decode cX7_offBy 20 = .ok (.iaload, 1) := by decide +kernel
theorem dX7_offBy_21 : decode cX7_offBy 21 = .ok (.if_icmp .ge 70, 3) := by decide +kernel
theorem dX7_offBy_24 : decode cX7_offBy 24 = .ok (.aload_n 0, 1) := by decide +kernel
theorem dX7_offBy_25 : decode cX7_offBy 25 = .ok (.invokevirtual 167, 3) := by decide +kernel
theorem dX7_offBy_28 : decode cX7_offBy 28 = .ok (.aload_n 0, 1) := by decide +kernel
theorem dX7_offBy_29 : decode cX7_offBy 29 = .ok (.getfield 60, 3) := by decide +kernel
theorem dX7_offBy_32 : decode cX7_offBy 32 = .ok (.bipush 24, 2) := by decide +kernel
theorem dX7_offBy_34 : decode cX7_offBy 34 = .ok (.iload_n 1, 1) := by decide +kernel
theorem dX7_offBy_35 : decode cX7_offBy 35 = .ok (.imul, 1) := by decide +kernel
theorem dX7_offBy_36 : decode cX7_offBy 36 = .ok (.iload 5, 2) := by decide +kernel
theorem dX7_offBy_38 : decode cX7_offBy 38 = .ok (.iadd, 1) := by decide +kernel
theorem dX7_offBy_39 : decode cX7_offBy 39 = .ok (.iaload, 1) := by decide +kernel
theorem dX7_offBy_40 : decode cX7_offBy 40 = .ok (.istore 6, 2) := by decide +kernel
theorem dX7_offBy_42 : decode cX7_offBy 42 = .ok (.iload 6, 2) := by decide +kernel
theorem dX7_offBy_44 : decode cX7_offBy 44 = .ok (.i2l, 1) := by decide +kernel
theorem dX7_offBy_45 : decode cX7_offBy 45 = .ok (.aload_n 0, 1) := by decide +kernel
theorem dX7_offBy_46 : decode cX7_offBy 46 = .ok (.getfield 9, 3) := by decide +kernel
theorem dX7_offBy_49 : decode cX7_offBy 49 = .ok (.bipush 8, 2) := by decide +kernel
theorem dX7_offBy_51 : decode cX7_offBy 51 = .ok (.iaload, 1) := by decide +kernel
theorem dX7_offBy_52 : decode cX7_offBy 52 = .ok (.i2l, 1) := by decide +kernel
theorem dX7_offBy_53 : decode cX7_offBy 53 = .ok (.lsub, 1) := by decide +kernel
theorem dX7_offBy_54 : decode cX7_offBy 54 = .ok (.lstore 7, 2) := by decide +kernel
theorem dX7_offBy_56 : decode cX7_offBy 56 = .ok (.lload_n 3, 1) := by decide +kernel
theorem dX7_offBy_57 : decode cX7_offBy 57 = .ok (.iload 6, 2) := by decide +kernel
theorem dX7_offBy_59 : decode cX7_offBy 59 = .ok (.ldc 81, 2) := by decide +kernel
theorem dX7_offBy_61 : decode cX7_offBy 61 = .ok (.if_icmp .ne 7, 3) := by decide +kernel
theorem dX7_offBy_64 : decode cX7_offBy 64 = .ok (.lconst 0, 1) := by decide +kernel
theorem dX7_offBy_65 : decode cX7_offBy 65 = .ok (.goto 18, 3) := by decide +kernel
theorem dX7_offBy_68 : decode cX7_offBy 68 = .ok (.lload 7, 2) := by decide +kernel
theorem dX7_offBy_70 : decode cX7_offBy 70 = .ok (.lconst 0, 1) := by decide +kernel
theorem dX7_offBy_71 : decode cX7_offBy 71 = .ok (.lcmp, 1) := by decide +kernel
theorem dX7_offBy_72 : decode cX7_offBy 72 = .ok (.ifCond .ge 9, 3) := by decide +kernel
theorem dX7_offBy_75 : decode cX7_offBy 75 = .ok (.lload 7, 2) := by decide +kernel
theorem dX7_offBy_77 : decode cX7_offBy 77 = .ok (.lneg, 1) := by decide +kernel
theorem dX7_offBy_78 : decode cX7_offBy 78 = .ok (.goto 5, 3) := by decide +kernel
theorem dX7_offBy_81 : decode cX7_offBy 81 = .ok (.lload 7, 2) := by decide +kernel
theorem dX7_offBy_83 : decode cX7_offBy 83 = .ok (.ladd, 1) := by decide +kernel
theorem dX7_offBy_84 : decode cX7_offBy 84 = .ok (.lstore_n 3, 1) := by decide +kernel
theorem dX7_offBy_85 : decode cX7_offBy 85 = .ok (.iinc 5 1, 3) := by decide +kernel
theorem dX7_offBy_88 : decode cX7_offBy 88 = .ok (.goto (-75), 3) := by decide +kernel
theorem dX7_offBy_91 : decode cX7_offBy 91 = .ok (.aload_n 0, 1) := by decide +kernel
theorem dX7_offBy_92 : decode cX7_offBy 92 = .ok (.invokevirtual 186, 3) := by decide +kernel
theorem dX7_offBy_95 : decode cX7_offBy 95 = .ok (.lload_n 3, 1) := by decide +kernel
theorem dX7_offBy_96 : decode cX7_offBy 96 = .ok (.lreturn, 1) := by decide +kernel
theorem dX7_fits_0 : decode cX7_fits 0 = .ok (.iload_n 1, 1) := by decide +kernel
theorem dX7_fits_1 : decode cX7_fits 1 = .ok (.invokestatic 189, 3) := by decide +kernel
theorem dX7_fits_4 : decode cX7_fits 4 = .ok (.ifCond .eq 12, 3) := by decide +kernel
theorem dX7_fits_7 : decode cX7_fits 7 = .ok (.iload_n 2, 1) := by decide +kernel
theorem dX7_fits_8 : decode cX7_fits 8 = .ok (.iconst 0, 1) := by decide +kernel
theorem dX7_fits_9 : decode cX7_fits 9 = .ok (.iconst 1, 1) := by decide +kernel
theorem dX7_fits_10 : decode cX7_fits 10 = .ok (.invokestatic 82, 3) := by decide +kernel
theorem dX7_fits_13 : decode cX7_fits 13 = .ok (.ifCond .ne 6, 3) := by decide +kernel
theorem dX7_fits_16 : decode cX7_fits 16 = .ok (.ldc 90, 2) := by decide +kernel
theorem dX7_fits_18 : decode cX7_fits 18 = .ok (.ireturn, 1) := by decide +kernel
theorem dX7_fits_19 : decode cX7_fits 19 = .ok (.aload_n 0, 1) := by decide +kernel
theorem dX7_fits_20 : decode cX7_fits 20 = .ok (.getfield 54, 3) := by decide +kernel
theorem dX7_fits_23 : decode cX7_fits 23 = .ok (.iload_n 1, 1) := by decide +kernel
theorem dX7_fits_24 : decode cX7_fits 24 = .ok (.iaload, 1) := by decide +kernel
theorem dX7_fits_25 : decode cX7_fits 25 = .ok (.ifCond .ge 6, 3) := by decide +kernel
theorem dX7_fits_28 : decode cX7_fits 28 = .ok (.ldc 192, 2) := by decide +kernel
theorem dX7_fits_30 : decode cX7_fits 30 = .ok (.ireturn, 1) := by decide +kernel
theorem dX7_fits_31 : decode cX7_fits 31 = .ok (.aload_n 0, 1) := by decide +kernel
theorem dX7_fits_32 : decode cX7_fits 32 = .ok (.invokevirtual 180, 3) := by decide +kernel
theorem dX7_fits_35 : decode cX7_fits 35 = .ok (.iconst 1, 1) := by decide +kernel
theorem dX7_fits_36 : decode cX7_fits 36 = .ok (.istore_n 3, 1) := by decide +kernel
theorem dX7_fits_37 : decode cX7_fits 37 = .ok (.aload_n 0, 1) := by decide +kernel
theorem dX7_fits_38 : decode cX7_fits 38 = .ok (.iload_n 1, 1) := by decide +kernel
theorem dX7_fits_39 : decode cX7_fits 39 = .ok (.iconst 1, 1) := by decide +kernel
theorem dX7_fits_40 : decode cX7_fits 40 = .ok (.invokevirtual 193, 3) := by decide +kernel
theorem dX7_fits_43 : decode cX7_fits 43 = .ok (.lstore 4, 2) := by decide +kernel
theorem dX7_fits_45 : decode cX7_fits 45 = .ok (.iconst 2, 1) := by decide +kernel
theorem dX7_fits_46 : decode cX7_fits 46 = .ok (.istore 6, 2) := by decide +kernel
theorem dX7_fits_48 : decode cX7_fits 48 = .ok (.iload 6, 2) := by decide +kernel
theorem dX7_fits_50 : decode cX7_fits 50 = .ok (.bipush 21, 2) := by decide +kernel
theorem dX7_fits_52 : decode cX7_fits 52 = .ok (.if_icmp .ge 50, 3) := by decide +kernel
theorem dX7_fits_55 : decode cX7_fits 55 = .ok (.aload_n 0, 1) := by decide +kernel
theorem dX7_fits_56 : decode cX7_fits 56 = .ok (.iload_n 1, 1) := by decide +kernel
theorem dX7_fits_57 : decode cX7_fits 57 = .ok (.iload 6, 2) := by decide +kernel
theorem dX7_fits_59 : decode cX7_fits 59 = .ok (.invokevirtual 193, 3) := by decide +kernel
theorem dX7_fits_62 : decode cX7_fits 62 = .ok (.lstore 7, 2) := by decide +kernel
theorem dX7_fits_64 : decode cX7_fits 64 = .ok (.lload 7, 2) := by decide +kernel
theorem dX7_fits_66 : decode cX7_fits 66 = .ok (.lload 4, 2) := by decide +kernel
theorem dX7_fits_68 : decode cX7_fits 68 = .ok (.lcmp, 1) := by decide +kernel
theorem dX7_fits_69 : decode cX7_fits 69 = .ok (.ifCond .ge 8, 3) := by decide +kernel
theorem dX7_fits_72 : decode cX7_fits 72 = .ok (.iload 6, 2) := by decide +kernel
theorem dX7_fits_74 : decode cX7_fits 74 = .ok (.goto 4, 3) := by decide +kernel
theorem dX7_fits_77 : decode cX7_fits 77 = .ok (.iload_n 3, 1) := by decide +kernel
theorem dX7_fits_78 : decode cX7_fits 78 = .ok (.istore_n 3, 1) := by decide +kernel
theorem dX7_fits_79 : decode cX7_fits 79 = .ok (.lload 7, 2) := by decide +kernel
theorem dX7_fits_81 : decode cX7_fits 81 = .ok (.lload 4, 2) := by decide +kernel
theorem dX7_fits_83 : decode cX7_fits 83 = .ok (.lcmp, 1) := by decide +kernel
theorem dX7_fits_84 : decode cX7_fits 84 = .ok (.ifCond .ge 8, 3) := by decide +kernel
theorem dX7_fits_87 : decode cX7_fits 87 = .ok (.lload 7, 2) := by decide +kernel
theorem dX7_fits_89 : decode cX7_fits 89 = .ok (.goto 5, 3) := by decide +kernel
theorem dX7_fits_92 : decode cX7_fits 92 = .ok (.lload 4, 2) := by decide +kernel
theorem dX7_fits_94 : decode cX7_fits 94 = .ok (.lstore 4, 2) := by decide +kernel
theorem dX7_fits_96 : decode cX7_fits 96 = .ok (.iinc 6 1, 3) := by decide +kernel
theorem dX7_fits_99 : decode cX7_fits 99 = .ok (.goto (-51), 3) := by decide +kernel
theorem dX7_fits_102 : decode cX7_fits 102 = .ok (.iload_n 2, 1) := by decide +kernel
theorem dX7_fits_103 : decode cX7_fits 103 = .ok (.ifCond .ne 7, 3) := by decide +kernel
theorem dX7_fits_106 : decode cX7_fits 106 = .ok (.iload_n 3, 1) := by decide +kernel
theorem dX7_fits_107 : decode cX7_fits 107 = .ok (.goto 6, 3) := by decide +kernel
theorem dX7_fits_110 : decode cX7_fits 110 = .ok (.lload 4, 2) := by decide +kernel
theorem dX7_fits_112 : decode cX7_fits 112 = .ok (.l2i, 1) := by decide +kernel
theorem dX7_fits_113 : decode cX7_fits 113 = .ok (.ireturn, 1) := by decide +kernel
theorem dX7_fee_0 : decode cX7_fee 0 = .ok (.aload_n 0, 1) := by decide +kernel
theorem dX7_fee_1 : decode cX7_fee 1 = .ok (.iconst 1, 1) := by decide +kernel
theorem dX7_fee_2 : decode cX7_fee 2 = .ok (.invokevirtual 120, 3) := by decide +kernel
theorem dX7_fee_5 : decode cX7_fee 5 = .ok (.istore_n 1, 1) := by decide +kernel
theorem dX7_fee_6 : decode cX7_fee 6 = .ok (.aload_n 0, 1) := by decide +kernel
theorem dX7_fee_7 : decode cX7_fee 7 = .ok (.getfield 51, 3) := by decide +kernel
theorem dX7_fee_10 : decode cX7_fee 10 = .ok (.iconst 0, 1) := by decide +kernel
theorem dX7_fee_11 : decode cX7_fee 11 = .ok (.aload_n 0, 1) := by decide +kernel
theorem dX7_fee_12 : decode cX7_fee 12 = .ok (.getfield 9, 3) := by decide +kernel
theorem dX7_fee_15 : decode cX7_fee 15 = .ok (.iconst 3, 1) := by decide +kernel
theorem dX7_fee_16 : decode cX7_fee 16 = .ok (.iaload, 1) := by decide +kernel
theorem dX7_fee_17 : decode cX7_fee 17 = .ok (.iastore, 1) := by decide +kernel
theorem dX7_fee_18 : decode cX7_fee 18 = .ok (.aload_n 0, 1) := by decide +kernel
theorem dX7_fee_19 : decode cX7_fee 19 = .ok (.getfield 51, 3) := by decide +kernel
theorem dX7_fee_22 : decode cX7_fee 22 = .ok (.iconst 1, 1) := by decide +kernel
theorem dX7_fee_23 : decode cX7_fee 23 = .ok (.aload_n 0, 1) := by decide +kernel
theorem dX7_fee_24 : decode cX7_fee 24 = .ok (.getfield 9, 3) := by decide +kernel
theorem dX7_fee_27 : decode cX7_fee 27 = .ok (.bipush 9, 2) := by decide +kernel
theorem dX7_fee_29 : decode cX7_fee 29 = .ok (.iaload, 1) := by decide +kernel
theorem dX7_fee_30 : decode cX7_fee 30 = .ok (.iastore, 1) := by decide +kernel
theorem dX7_fee_31 : decode cX7_fee 31 = .ok (.iload_n 1, 1) := by decide +kernel
theorem dX7_fee_32 : decode cX7_fee 32 = .ok (.ifCond .ge 12, 3) := by decide +kernel
theorem dX7_fee_35 : decode cX7_fee 35 = .ok (.aload_n 0, 1) := by decide +kernel
theorem dX7_fee_36 : decode cX7_fee 36 = .ok (.getfield 9, 3) := by decide +kernel
theorem dX7_fee_39 : decode cX7_fee 39 = .ok (.iconst 3, 1) := by decide +kernel
theorem dX7_fee_40 : decode cX7_fee 40 = .ok (.iaload, 1) := by decide +kernel
theorem dX7_fee_41 : decode cX7_fee 41 = .ok (.goto 8, 3) := by decide +kernel
theorem dX7_fee_44 : decode cX7_fee 44 = .ok (.aload_n 0, 1) := by decide +kernel
theorem dX7_fee_45 : decode cX7_fee 45 = .ok (.iload_n 1, 1) := by decide +kernel
theorem dX7_fee_46 : decode cX7_fee 46 = .ok (.invokevirtual 123, 3) := by decide +kernel
theorem dX7_fee_49 : decode cX7_fee 49 = .ok (.ireturn, 1) := by decide +kernel
theorem dX7_fine_0 : decode cX7_fine 0 = .ok (.aload_n 0, 1) := by decide +kernel
theorem dX7_fine_1 : decode cX7_fine 1 = .ok (.iload_n 1, 1) := by decide +kernel
theorem dX7_fine_2 : decode cX7_fine 2 = .ok (.invokevirtual 139, 3) := by decide +kernel
theorem dX7_fine_5 : decode cX7_fine 5 = .ok (.ifCond .ne 6, 3) := by decide +kernel
theorem dX7_fine_8 : decode cX7_fine 8 = .ok (.ldc 90, 2) := by decide +kernel
theorem dX7_fine_10 : decode cX7_fine 10 = .ok (.ireturn, 1) := by decide +kernel
theorem dX7_fine_11 : decode cX7_fine 11 = .ok (.aload_n 0, 1) := by decide +kernel
theorem dX7_fine_12 : decode cX7_fine 12 = .ok (.iconst 2, 1) := by decide +kernel
theorem dX7_fine_13 : decode cX7_fine 13 = .ok (.invokevirtual 120, 3) := by decide +kernel
theorem dX7_fine_16 : decode cX7_fine 16 = .ok (.istore_n 2, 1) := by decide +kernel
theorem dX7_fine_17 : decode cX7_fine 17 = .ok (.aload_n 0, 1) := by decide +kernel
theorem dX7_fine_18 : decode cX7_fine 18 = .ok (.getfield 51, 3) := by decide +kernel
theorem dX7_fine_21 : decode cX7_fine 21 = .ok (.iconst 0, 1) := by decide +kernel
theorem dX7_fine_22 : decode cX7_fine 22 = .ok (.aload_n 0, 1) := by decide +kernel
theorem dX7_fine_23 : decode cX7_fine 23 = .ok (.iload_n 1, 1) := by decide +kernel
theorem dX7_fine_24 : decode cX7_fine 24 = .ok (.iconst 3, 1) := by decide +kernel
theorem dX7_fine_25 : decode cX7_fine 25 = .ok (.invokevirtual 96, 3) := by decide +kernel
theorem dX7_fine_28 : decode cX7_fine 28 = .ok (.iastore, 1) := by decide +kernel
theorem dX7_fine_29 : decode cX7_fine 29 = .ok (.aload_n 0, 1) := by decide +kernel
theorem dX7_fine_30 : decode cX7_fine 30 = .ok (.getfield 51, 3) := by decide +kernel
theorem dX7_fine_33 : decode cX7_fine 33 = .ok (.iconst 1, 1) := by decide +kernel
theorem dX7_fine_34 : decode cX7_fine 34 = .ok (.aload_n 0, 1) := by decide +kernel
theorem dX7_fine_35 : decode cX7_fine 35 = .ok (.iload_n 1, 1) := by decide +kernel
theorem dX7_fine_36 : decode cX7_fine 36 = .ok (.iconst 4, 1) := by decide +kernel
theorem dX7_fine_37 : decode cX7_fine 37 = .ok (.invokevirtual 96, 3) := by decide +kernel
theorem dX7_fine_40 : decode cX7_fine 40 = .ok (.iastore, 1) := by decide +kernel
theorem dX7_fine_41 : decode cX7_fine 41 = .ok (.iload_n 2, 1) := by decide +kernel
theorem dX7_fine_42 : decode cX7_fine 42 = .ok (.ifCond .ge 12, 3) := by decide +kernel
theorem dX7_fine_45 : decode cX7_fine 45 = .ok (.aload_n 0, 1) := by decide +kernel
theorem dX7_fine_46 : decode cX7_fine 46 = .ok (.iload_n 1, 1) := by decide +kernel
theorem dX7_fine_47 : decode cX7_fine 47 = .ok (.iconst 4, 1) := by decide +kernel
theorem dX7_fine_48 : decode cX7_fine 48 = .ok (.invokevirtual 96, 3) := by decide +kernel
theorem dX7_fine_51 : decode cX7_fine 51 = .ok (.goto 8, 3) := by decide +kernel
theorem dX7_fine_54 : decode cX7_fine 54 = .ok (.aload_n 0, 1) := by decide +kernel
theorem dX7_fine_55 : decode cX7_fine 55 = .ok (.iload_n 2, 1) := by decide +kernel
theorem dX7_fine_56 : decode cX7_fine 56 = .ok (.invokevirtual 123, 3) := by decide +kernel
theorem dX7_fine_59 : decode cX7_fine 59 = .ok (.ireturn, 1) := by decide +kernel
theorem dX7_feed_0 : decode cX7_feed 0 = .ok (.aload_n 0, 1) := by decide +kernel
theorem dX7_feed_1 : decode cX7_feed 1 = .ok (.getfield 197, 3) := by decide +kernel
theorem dX7_feed_4 : decode cX7_feed 4 = .ok (.bipush 12, 2) := by decide +kernel
theorem dX7_feed_6 : decode cX7_feed 6 = .ok (.iadd, 1) := by decide +kernel
theorem dX7_feed_7 : decode cX7_feed 7 = .ok (.bipush 96, 2) := by decide +kernel
theorem dX7_feed_9 : decode cX7_feed 9 = .ok (.if_icmp .le 6, 3) := by decide +kernel
theorem dX7_feed_12 : decode cX7_feed 12 = .ok (.ldc 91, 2) := by decide +kernel
theorem dX7_feed_14 : decode cX7_feed 14 = .ok (.ireturn, 1) := by decide +kernel
theorem dX7_feed_15 : decode cX7_feed 15 = .ok (.iconst 0, 1) := by decide +kernel
theorem dX7_feed_16 : decode cX7_feed 16 = .ok (.istore 4, 2) := by decide +kernel
theorem dX7_feed_18 : decode cX7_feed 18 = .ok (.iload 4, 2) := by decide +kernel
theorem dX7_feed_20 : decode cX7_feed 20 = .ok (.bipush 12, 2) := by decide +kernel
theorem dX7_feed_22 : decode cX7_feed 22 = .ok (.if_icmp .ge 62, 3) := by decide +kernel
theorem dX7_feed_25 : decode cX7_feed 25 = .ok (.iload 4, 2) := by decide +kernel
theorem dX7_feed_27 : decode cX7_feed 27 = .ok (.iconst 4, 1) := by decide +kernel
theorem dX7_feed_28 : decode cX7_feed 28 = .ok (.if_icmp .ge 7, 3) := by decide +kernel
theorem dX7_feed_31 : decode cX7_feed 31 = .ok (.iload_n 1, 1) := by decide +kernel
theorem dX7_feed_32 : decode cX7_feed 32 = .ok (.goto 15, 3) := by decide +kernel
theorem dX7_feed_35 : decode cX7_feed 35 = .ok (.iload 4, 2) := by decide +kernel
theorem dX7_feed_37 : decode cX7_feed 37 = .ok (.bipush 8, 2) := by decide +kernel
theorem dX7_feed_39 : decode cX7_feed 39 = .ok (.if_icmp .ge 7, 3) := by decide +kernel
theorem dX7_feed_42 : decode cX7_feed 42 = .ok (.iload_n 2, 1) := by decide +kernel
theorem dX7_feed_43 : decode cX7_feed 43 = .ok (.goto 4, 3) := by decide +kernel
theorem dX7_feed_46 : decode cX7_feed 46 = .ok (.iload_n 3, 1) := by decide +kernel
theorem dX7_feed_47 : decode cX7_feed 47 = .ok (.istore 5, 2) := by decide +kernel
theorem dX7_feed_49 : decode cX7_feed 49 = .ok (.aload_n 0, 1) := by decide +kernel
theorem dX7_feed_50 : decode cX7_feed 50 = .ok (.getfield 28, 3) := by decide +kernel
theorem dX7_feed_53 : decode cX7_feed 53 = .ok (.aload_n 0, 1) := by decide +kernel
theorem dX7_feed_54 : decode cX7_feed 54 = .ok (.getfield 197, 3) := by decide +kernel
theorem dX7_feed_57 : decode cX7_feed 57 = .ok (.iload 4, 2) := by decide +kernel
theorem dX7_feed_59 : decode cX7_feed 59 = .ok (.iadd, 1) := by decide +kernel
theorem dX7_feed_60 : decode cX7_feed 60 = .ok (.iload 5, 2) := by decide +kernel
theorem dX7_feed_62 : decode cX7_feed 62 = .ok (.bipush 24, 2) := by decide +kernel
theorem dX7_feed_64 : decode cX7_feed 64 = .ok (.bipush 8, 2) := by decide +kernel
theorem dX7_feed_66 : decode cX7_feed 66 = .ok (.iload 4, 2) := by decide +kernel
theorem dX7_feed_68 : decode cX7_feed 68 = .ok (.iconst 4, 1) := by decide +kernel
theorem dX7_feed_69 : decode cX7_feed 69 = .ok (.irem, 1) := by decide +kernel
theorem dX7_feed_70 : decode cX7_feed 70 = .ok (.imul, 1) := by decide +kernel
theorem dX7_feed_71 : decode cX7_feed 71 = .ok (.isub, 1) := by decide +kernel
theorem dX7_feed_72 : decode cX7_feed 72 = .ok (.ishr, 1) := by decide +kernel
theorem dX7_feed_73 : decode cX7_feed 73 = .ok (.sipush 255, 3) := by decide +kernel
theorem dX7_feed_76 : decode cX7_feed 76 = .ok (.iand, 1) := by decide +kernel
theorem dX7_feed_77 : decode cX7_feed 77 = .ok (.iastore, 1) := by decide +kernel
theorem dX7_feed_78 : decode cX7_feed 78 = .ok (.iinc 4 1, 3) := by decide +kernel
theorem dX7_feed_81 : decode cX7_feed 81 = .ok (.goto (-63), 3) := by decide +kernel
theorem dX7_feed_84 : decode cX7_feed 84 = .ok (.aload_n 0, 1) := by decide +kernel
theorem dX7_feed_85 : decode cX7_feed 85 = .ok (.dup, 1) := by decide +kernel
theorem dX7_feed_86 : decode cX7_feed 86 = .ok (.getfield 197, 3) := by decide +kernel
theorem dX7_feed_89 : decode cX7_feed 89 = .ok (.bipush 12, 2) := by decide +kernel
theorem dX7_feed_91 : decode cX7_feed 91 = .ok (.iadd, 1) := by decide +kernel
theorem dX7_feed_92 : decode cX7_feed 92 = .ok (.putfield 197, 3) := by decide +kernel
theorem dX7_feed_95 : decode cX7_feed 95 = .ok (.aload_n 0, 1) := by decide +kernel
theorem dX7_feed_96 : decode cX7_feed 96 = .ok (.getfield 197, 3) := by decide +kernel
theorem dX7_feed_99 : decode cX7_feed 99 = .ok (.ireturn, 1) := by decide +kernel
theorem dX7_trim_0 : decode cX7_trim 0 = .ok (.iload_n 1, 1) := by decide +kernel
theorem dX7_trim_1 : decode cX7_trim 1 = .ok (.iconst 0, 1) := by decide +kernel
theorem dX7_trim_2 : decode cX7_trim 2 = .ok (.aload_n 0, 1) := by decide +kernel
theorem dX7_trim_3 : decode cX7_trim 3 = .ok (.getfield 197, 3) := by decide +kernel
theorem dX7_trim_6 : decode cX7_trim 6 = .ok (.invokestatic 82, 3) := by decide +kernel
theorem dX7_trim_9 : decode cX7_trim 9 = .ok (.ifCond .ne 6, 3) := by decide +kernel
theorem dX7_trim_12 : decode cX7_trim 12 = .ok (.ldc 90, 2) := by decide +kernel
theorem dX7_trim_14 : decode cX7_trim 14 = .ok (.ireturn, 1) := by decide +kernel
theorem dX7_trim_15 : decode cX7_trim 15 = .ok (.aload_n 0, 1) := by decide +kernel
theorem dX7_trim_16 : decode cX7_trim 16 = .ok (.iload_n 1, 1) := by decide +kernel
theorem dX7_trim_17 : decode cX7_trim 17 = .ok (.putfield 197, 3) := by decide +kernel
theorem dX7_trim_20 : decode cX7_trim 20 = .ok (.iload_n 1, 1) := by decide +kernel
theorem dX7_trim_21 : decode cX7_trim 21 = .ok (.ireturn, 1) := by decide +kernel
theorem dX7_isLetter_0 : decode cX7_isLetter 0 = .ok (.iload_n 1, 1) := by decide +kernel
theorem dX7_isLetter_1 : decode cX7_isLetter 1 = .ok (.aload_n 0, 1) := by decide +kernel
theorem dX7_isLetter_2 : decode cX7_isLetter 2 = .ok (.getfield 197, 3) := by decide +kernel
theorem dX7_isLetter_5 : decode cX7_isLetter 5 = .ok (.if_icmp .ge 29, 3) := by decide +kernel
theorem dX7_isLetter_8 : decode cX7_isLetter 8 = .ok (.aload_n 0, 1) := by decide +kernel
theorem dX7_isLetter_9 : decode cX7_isLetter 9 = .ok (.getfield 28, 3) := by decide +kernel
theorem dX7_isLetter_12 : decode cX7_isLetter 12 = .ok (.iload_n 1, 1) := by decide +kernel
theorem dX7_isLetter_13 : decode cX7_isLetter 13 = .ok (.iaload, 1) := by decide +kernel
theorem dX7_isLetter_14 : decode cX7_isLetter 14 = .ok (.bipush 97, 2) := by decide +kernel
theorem dX7_isLetter_16 : decode cX7_isLetter 16 = .ok (.if_icmp .lt 18, 3) := by decide +kernel
theorem dX7_isLetter_19 : decode cX7_isLetter 19 = .ok (.aload_n 0, 1) := by decide +kernel
theorem dX7_isLetter_20 : decode cX7_isLetter 20 = .ok (.getfield 28, 3) := by decide +kernel
theorem dX7_isLetter_23 : decode cX7_isLetter 23 = .ok (.iload_n 1, 1) := by decide +kernel
theorem dX7_isLetter_24 : decode cX7_isLetter 24 = .ok (.iaload, 1) := by decide +kernel
theorem dX7_isLetter_25 : decode cX7_isLetter 25 = .ok (.bipush 122, 2) := by decide +kernel
theorem dX7_isLetter_27 : decode cX7_isLetter 27 = .ok (.if_icmp .gt 7, 3) := by decide +kernel
theorem dX7_isLetter_30 : decode cX7_isLetter 30 = .ok (.iconst 1, 1) := by decide +kernel
theorem dX7_isLetter_31 : decode cX7_isLetter 31 = .ok (.goto 4, 3) := by decide +kernel
theorem dX7_isLetter_34 : decode cX7_isLetter 34 = .ok (.iconst 0, 1) := by decide +kernel
theorem dX7_isLetter_35 : decode cX7_isLetter 35 = .ok (.ireturn, 1) := by decide +kernel
theorem dX7_isFigure_0 : decode cX7_isFigure 0 = .ok (.iload_n 1, 1) := by decide +kernel
theorem dX7_isFigure_1 : decode cX7_isFigure 1 = .ok (.aload_n 0, 1) := by decide +kernel
theorem dX7_isFigure_2 : decode cX7_isFigure 2 = .ok (.getfield 197, 3) := by decide +kernel
theorem dX7_isFigure_5 : decode cX7_isFigure 5 = .ok (.if_icmp .ge 29, 3) := by decide +kernel
theorem dX7_isFigure_8 : decode cX7_isFigure 8 = .ok (.aload_n 0, 1) := by decide +kernel
theorem dX7_isFigure_9 : decode cX7_isFigure 9 = .ok (.getfield 28, 3) := by decide +kernel
theorem dX7_isFigure_12 : decode cX7_isFigure 12 = .ok (.iload_n 1, 1) := by decide +kernel
theorem dX7_isFigure_13 : decode cX7_isFigure 13 = .ok (.iaload, 1) := by decide +kernel
theorem dX7_isFigure_14 : decode cX7_isFigure 14 = .ok (.bipush 48, 2) := by decide +kernel
theorem dX7_isFigure_16 : decode cX7_isFigure 16 = .ok (.if_icmp .lt 18, 3) := by decide +kernel
theorem dX7_isFigure_19 : decode cX7_isFigure 19 = .ok (.aload_n 0, 1) := by decide +kernel
theorem dX7_isFigure_20 : decode cX7_isFigure 20 = .ok (.getfield 28, 3) := by decide +kernel
theorem dX7_isFigure_23 : decode cX7_isFigure 23 = .ok (.iload_n 1, 1) := by decide +kernel
theorem dX7_isFigure_24 : decode cX7_isFigure 24 = .ok (.iaload, 1) := by decide +kernel
theorem dX7_isFigure_25 : decode cX7_isFigure 25 = .ok (.bipush 57, 2) := by decide +kernel
theorem dX7_isFigure_27 : decode cX7_isFigure 27 = .ok (.if_icmp .gt 7, 3) := by decide +kernel
theorem dX7_isFigure_30 : decode cX7_isFigure 30 = .ok (.iconst 1, 1) := by decide +kernel
theorem dX7_isFigure_31 : decode cX7_isFigure 31 = .ok (.goto 4, 3) := by decide +kernel
theorem dX7_isFigure_34 : decode cX7_isFigure 34 = .ok (.iconst 0, 1) := by decide +kernel
theorem dX7_isFigure_35 : decode cX7_isFigure 35 = .ok (.ireturn, 1) := by decide +kernel
theorem dX7_go_0 : decode cX7_go 0 = .ok (.aload_n 0, 1) := by decide +kernel
theorem dX7_go_1 : decode cX7_go 1 = .ok (.getfield 201, 3) := by decide +kernel
theorem dX7_go_4 : decode cX7_go 4 = .ok (.aload_n 0, 1) := by decide +kernel
theorem dX7_go_5 : decode cX7_go 5 = .ok (.getfield 197, 3) := by decide +kernel
theorem dX7_go_8 : decode cX7_go 8 = .ok (.if_icmp .ge 30, 3) := by decide +kernel
theorem dX7_go_11 : decode cX7_go 11 = .ok (.aload_n 0, 1) := by decide +kernel
theorem dX7_go_12 : decode cX7_go 12 = .ok (.getfield 28, 3) := by decide +kernel
theorem dX7_go_15 : decode cX7_go 15 = .ok (.aload_n 0, 1) := by decide +kernel
theorem dX7_go_16 : decode cX7_go 16 = .ok (.getfield 201, 3) := by decide +kernel
theorem dX7_go_19 : decode cX7_go 19 = .ok (.iaload, 1) := by decide +kernel
theorem dX7_go_20 : decode cX7_go 20 = .ok (.bipush 32, 2) := by decide +kernel
theorem dX7_go_22 : decode cX7_go 22 = .ok (.if_icmp .ne 16, 3) := by decide +kernel
theorem dX7_go_25 : decode cX7_go 25 = .ok (.aload_n 0, 1) := by decide +kernel
theorem dX7_go_26 : decode cX7_go 26 = .ok (.dup, 1) := by decide +kernel
theorem dX7_go_27 : decode cX7_go 27 = .ok (.getfield 201, 3) := by decide +kernel
theorem dX7_go_30 : decode cX7_go 30 = .ok (.iconst 1, 1) := by decide +kernel
theorem dX7_go_31 : decode cX7_go 31 = .ok (.iadd, 1) := by decide +kernel
theorem dX7_go_32 : decode cX7_go 32 = .ok (.putfield 201, 3) := by decide +kernel
theorem dX7_go_35 : decode cX7_go 35 = .ok (.goto (-35), 3) := by decide +kernel
theorem dX7_go_38 : decode cX7_go 38 = .ok (.aload_n 0, 1) := by decide +kernel
theorem dX7_go_39 : decode cX7_go 39 = .ok (.aload_n 0, 1) := by decide +kernel
theorem dX7_go_40 : decode cX7_go 40 = .ok (.getfield 201, 3) := by decide +kernel
theorem dX7_go_43 : decode cX7_go 43 = .ok (.putfield 204, 3) := by decide +kernel
theorem dX7_go_46 : decode cX7_go 46 = .ok (.aload_n 0, 1) := by decide +kernel
theorem dX7_go_47 : decode cX7_go 47 = .ok (.getfield 204, 3) := by decide +kernel
theorem dX7_go_50 : decode cX7_go 50 = .ok (.aload_n 0, 1) := by decide +kernel
theorem dX7_go_51 : decode cX7_go 51 = .ok (.getfield 207, 3) := by decide +kernel
theorem dX7_go_54 : decode cX7_go 54 = .ok (.if_icmp .ne 7, 3) := by decide +kernel
theorem dX7_go_57 : decode cX7_go 57 = .ok (.iconst 1, 1) := by decide +kernel
theorem dX7_go_58 : decode cX7_go 58 = .ok (.goto 4, 3) := by decide +kernel
theorem dX7_go_61 : decode cX7_go 61 = .ok (.iconst 0, 1) := by decide +kernel
theorem dX7_go_62 : decode cX7_go 62 = .ok (.istore_n 1, 1) := by decide +kernel
theorem dX7_go_63 : decode cX7_go 63 = .ok (.aload_n 0, 1) := by decide +kernel
theorem dX7_go_64 : decode cX7_go 64 = .ok (.getfield 204, 3) := by decide +kernel
theorem dX7_go_67 : decode cX7_go 67 = .ok (.aload_n 0, 1) := by decide +kernel
theorem dX7_go_68 : decode cX7_go 68 = .ok (.getfield 197, 3) := by decide +kernel
theorem dX7_go_71 : decode cX7_go 71 = .ok (.if_icmp .ne 11, 3) := by decide +kernel
theorem dX7_go_74 : decode cX7_go 74 = .ok (.aload_n 0, 1) := by decide +kernel
theorem dX7_go_75 : decode cX7_go 75 = .ok (.iconst 0, 1) := by decide +kernel
theorem dX7_go_76 : decode cX7_go 76 = .ok (.putfield 210, 3) := by decide +kernel
theorem dX7_go_79 : decode cX7_go 79 = .ok (.goto 224, 3) := by decide +kernel
theorem dX7_go_82 : decode cX7_go 82 = .ok (.aload_n 0, 1) := by decide +kernel
theorem dX7_go_83 : decode cX7_go 83 = .ok (.aload_n 0, 1) := by decide +kernel
theorem dX7_go_84 : decode cX7_go 84 = .ok (.getfield 204, 3) := by decide +kernel
theorem dX7_go_87 : decode cX7_go 87 = .ok (.invokevirtual 213, 3) := by decide +kernel
theorem dX7_go_90 : decode cX7_go 90 = .ok (.ifCond .eq 64, 3) := by decide +kernel
theorem dX7_go_93 : decode cX7_go 93 = .ok (.aload_n 0, 1) := by decide +kernel
theorem dX7_go_94 : decode cX7_go 94 = .ok (.aload_n 0, 1) := by decide +kernel
theorem dX7_go_95 : decode cX7_go 95 = .ok (.getfield 201, 3) := by decide +kernel
theorem dX7_go_98 : decode cX7_go 98 = .ok (.invokevirtual 213, 3) := by decide +kernel
theorem dX7_go_101 : decode cX7_go 101 = .ok (.ifCond .eq 16, 3) := by decide +kernel
theorem dX7_go_104 : decode cX7_go 104 = .ok (.aload_n 0, 1) := by decide +kernel
theorem dX7_go_105 : decode cX7_go 105 = .ok (.dup, 1) := by decide +kernel
theorem dX7_go_106 : decode cX7_go 106 = .ok (.getfield 201, 3) := by decide +kernel
theorem dX7_go_109 : decode cX7_go 109 = .ok (.iconst 1, 1) := by decide +kernel
theorem dX7_go_110 : decode cX7_go 110 = .ok (.iadd, 1) := by decide +kernel
theorem dX7_go_111 : decode cX7_go 111 = .ok (.putfield 201, 3) := by decide +kernel
theorem dX7_go_114 : decode cX7_go 114 = .ok (.goto (-21), 3) := by decide +kernel
theorem dX7_go_117 : decode cX7_go 117 = .ok (.aload_n 0, 1) := by decide +kernel
theorem dX7_go_118 : decode cX7_go 118 = .ok (.iload_n 1, 1) := by decide +kernel
theorem dX7_go_119 : decode cX7_go 119 = .ok (.ifCond .eq 7, 3) := by decide +kernel
theorem dX7_go_122 : decode cX7_go 122 = .ok (.iconst 4, 1) := by decide +kernel
theorem dX7_go_123 : decode cX7_go 123 = .ok (.goto 4, 3) := by decide +kernel
theorem dX7_go_126 : decode cX7_go 126 = .ok (.iconst 1, 1) := by decide +kernel
theorem dX7_go_127 : decode cX7_go 127 = .ok (.putfield 210, 3) := by decide +kernel
theorem dX7_go_130 : decode cX7_go 130 = .ok (.aload_n 0, 1) := by decide +kernel
theorem dX7_go_131 : decode cX7_go 131 = .ok (.aload_n 0, 1) := by decide +kernel
theorem dX7_go_132 : decode cX7_go 132 = .ok (.getfield 28, 3) := by decide +kernel
theorem dX7_go_135 : decode cX7_go 135 = .ok (.aload_n 0, 1) := by decide +kernel
theorem dX7_go_136 : decode cX7_go 136 = .ok (.getfield 204, 3) := by decide +kernel
theorem dX7_go_139 : decode cX7_go 139 = .ok (.iaload, 1) := by decide +kernel
theorem dX7_go_140 : decode cX7_go 140 = .ok (.putfield 216, 3) := by decide +kernel
theorem dX7_go_143 : decode cX7_go 143 = .ok (.aload_n 0, 1) := by decide +kernel
theorem dX7_go_144 : decode cX7_go 144 = .ok (.aload_n 0, 1) := by decide +kernel
theorem dX7_go_145 : decode cX7_go 145 = .ok (.getfield 201, 3) := by decide +kernel
theorem dX7_go_148 : decode cX7_go 148 = .ok (.putfield 207, 3) := by decide +kernel
theorem dX7_go_151 : decode cX7_go 151 = .ok (.goto 152, 3) := by decide +kernel
theorem dX7_go_154 : decode cX7_go 154 = .ok (.aload_n 0, 1) := by decide +kernel
theorem dX7_go_155 : decode cX7_go 155 = .ok (.aload_n 0, 1) := by decide +kernel
theorem dX7_go_156 : decode cX7_go 156 = .ok (.getfield 204, 3) := by decide +kernel
theorem dX7_go_159 : decode cX7_go 159 = .ok (.invokevirtual 219, 3) := by decide +kernel
theorem dX7_go_162 : decode cX7_go 162 = .ok (.ifCond .eq 113, 3) := by decide +kernel
theorem dX7_go_165 : decode cX7_go 165 = .ok (.aload_n 0, 1) := by decide +kernel
theorem dX7_go_166 : decode cX7_go 166 = .ok (.iconst 0, 1) := by decide +kernel
theorem dX7_go_167 : decode cX7_go 167 = .ok (.putfield 216, 3) := by decide +kernel
theorem dX7_go_170 : decode cX7_go 170 = .ok (.aload_n 0, 1) := by decide +kernel
theorem dX7_go_171 : decode cX7_go 171 = .ok (.aload_n 0, 1) := by decide +kernel
theorem dX7_go_172 : decode cX7_go 172 = .ok (.getfield 201, 3) := by decide +kernel
theorem dX7_go_175 : decode cX7_go 175 = .ok (.invokevirtual 219, 3) := by decide +kernel
theorem dX7_go_178 : decode cX7_go 178 = .ok (.ifCond .eq 60, 3) := by decide +kernel
theorem dX7_go_181 : decode cX7_go 181 = .ok (.aload_n 0, 1) := by decide +kernel
theorem dX7_go_182 : decode cX7_go 182 = .ok (.aload_n 0, 1) := by decide +kernel
theorem dX7_go_183 : decode cX7_go 183 = .ok (.getfield 201, 3) := by decide +kernel
theorem dX7_go_186 : decode cX7_go 186 = .ok (.aload_n 0, 1) := by decide +kernel
theorem dX7_go_187 : decode cX7_go 187 = .ok (.getfield 204, 3) := by decide +kernel
theorem dX7_go_190 : decode cX7_go 190 = .ok (.isub, 1) := by decide +kernel
theorem dX7_go_191 : decode cX7_go 191 = .ok (.iconst 4, 1) := by decide +kernel
theorem dX7_go_192 : decode cX7_go 192 = .ok (.if_icmp .ge 26, 3) := by decide +kernel
theorem dX7_go_195 : decode cX7_go 195 = .ok (.bipush 10, 2) := by decide +kernel
theorem dX7_go_197 : decode cX7_go 197 = .ok (.aload_n 0, 1) := by decide +kernel
theorem dX7_go_198 : decode cX7_go 198 = .ok (.getfield 216, 3) := by decide +kernel
theorem dX7_go_201 : decode cX7_go 201 = .ok (.imul, 1) := by decide +kernel
theorem dX7_go_202 : decode cX7_go 202 = .ok (.aload_n 0, 1) := by decide +kernel
theorem dX7_go_203 : decode cX7_go 203 = .ok (.getfield 28, 3) := by decide +kernel
theorem dX7_go_206 : decode cX7_go 206 = .ok (.aload_n 0, 1) := by decide +kernel
theorem dX7_go_207 : decode cX7_go 207 = .ok (.getfield 201, 3) := by decide +kernel
theorem dX7_go_210 : decode cX7_go 210 = .ok (.iaload, 1) := by decide +kernel
theorem dX7_go_211 : decode cX7_go 211 = .ok (.iadd, 1) := by decide +kernel
theorem dX7_go_212 : decode cX7_go 212 = .ok (.bipush 48, 2) := by decide +kernel
theorem dX7_go_214 : decode cX7_go 214 = .ok (.isub, 1) := by decide +kernel
theorem dX7_go_215 : decode cX7_go 215 = .ok (.goto 7, 3) := by decide +kernel
theorem dX7_go_218 : decode cX7_go 218 = .ok (.aload_n 0, 1) := by decide +kernel
theorem dX7_go_219 : decode cX7_go 219 = .ok (.getfield 216, 3) := by decide +kernel
theorem dX7_go_222 : decode cX7_go 222 = .ok (.putfield 216, 3) := by decide +kernel
theorem dX7_go_225 : decode cX7_go 225 = .ok (.aload_n 0, 1) := by decide +kernel
theorem dX7_go_226 : decode cX7_go 226 = .ok (.dup, 1) := by decide +kernel
theorem dX7_go_227 : decode cX7_go 227 = .ok (.getfield 201, 3) := by decide +kernel
theorem dX7_go_230 : decode cX7_go 230 = .ok (.iconst 1, 1) := by decide +kernel
theorem dX7_go_231 : decode cX7_go 231 = .ok (.iadd, 1) := by decide +kernel
theorem dX7_go_232 : decode cX7_go 232 = .ok (.putfield 201, 3) := by decide +kernel
theorem dX7_go_235 : decode cX7_go 235 = .ok (.goto (-65), 3) := by decide +kernel
theorem dX7_go_238 : decode cX7_go 238 = .ok (.aload_n 0, 1) := by decide +kernel
theorem dX7_go_239 : decode cX7_go 239 = .ok (.iload_n 1, 1) := by decide +kernel
theorem dX7_go_240 : decode cX7_go 240 = .ok (.ifCond .ne 16, 3) := by decide +kernel
theorem dX7_go_243 : decode cX7_go 243 = .ok (.aload_n 0, 1) := by decide +kernel
theorem dX7_go_244 : decode cX7_go 244 = .ok (.getfield 201, 3) := by decide +kernel
theorem dX7_go_247 : decode cX7_go 247 = .ok (.aload_n 0, 1) := by decide +kernel
theorem dX7_go_248 : decode cX7_go 248 = .ok (.getfield 204, 3) := by decide +kernel
theorem dX7_go_251 : decode cX7_go 251 = .ok (.isub, 1) := by decide +kernel
theorem dX7_go_252 : decode cX7_go 252 = .ok (.iconst 4, 1) := by decide +kernel
theorem dX7_go_253 : decode cX7_go 253 = .ok (.if_icmp .le 7, 3) := by decide +kernel
theorem dX7_go_256 : decode cX7_go 256 = .ok (.iconst 4, 1) := by decide +kernel
theorem dX7_go_257 : decode cX7_go 257 = .ok (.goto 4, 3) := by decide +kernel
theorem dX7_go_260 : decode cX7_go 260 = .ok (.iconst 2, 1) := by decide +kernel
theorem dX7_go_261 : decode cX7_go 261 = .ok (.putfield 210, 3) := by decide +kernel
theorem dX7_go_264 : decode cX7_go 264 = .ok (.aload_n 0, 1) := by decide +kernel
theorem dX7_go_265 : decode cX7_go 265 = .ok (.aload_n 0, 1) := by decide +kernel
theorem dX7_go_266 : decode cX7_go 266 = .ok (.getfield 201, 3) := by decide +kernel
theorem dX7_go_269 : decode cX7_go 269 = .ok (.putfield 207, 3) := by decide +kernel
theorem dX7_go_272 : decode cX7_go 272 = .ok (.goto 31, 3) := by decide +kernel
theorem dX7_go_275 : decode cX7_go 275 = .ok (.aload_n 0, 1) := by decide +kernel
theorem dX7_go_276 : decode cX7_go 276 = .ok (.iconst 3, 1) := by decide +kernel
theorem dX7_go_277 : decode cX7_go 277 = .ok (.putfield 210, 3) := by decide +kernel
theorem dX7_go_280 : decode cX7_go 280 = .ok (.aload_n 0, 1) := by decide +kernel
theorem dX7_go_281 : decode cX7_go 281 = .ok (.aload_n 0, 1) := by decide +kernel
theorem dX7_go_282 : decode cX7_go 282 = .ok (.getfield 28, 3) := by decide +kernel
theorem dX7_go_285 : decode cX7_go 285 = .ok (.aload_n 0, 1) := by decide +kernel
theorem dX7_go_286 : decode cX7_go 286 = .ok (.getfield 204, 3) := by decide +kernel
theorem dX7_go_289 : decode cX7_go 289 = .ok (.iaload, 1) := by decide +kernel
theorem dX7_go_290 : decode cX7_go 290 = .ok (.putfield 216, 3) := by decide +kernel
theorem dX7_go_293 : decode cX7_go 293 = .ok (.aload_n 0, 1) := by decide +kernel
theorem dX7_go_294 : decode cX7_go 294 = .ok (.dup, 1) := by decide +kernel
theorem dX7_go_295 : decode cX7_go 295 = .ok (.getfield 201, 3) := by decide +kernel
theorem dX7_go_298 : decode cX7_go 298 = .ok (.iconst 1, 1) := by decide +kernel
theorem dX7_go_299 : decode cX7_go 299 = .ok (.iadd, 1) := by decide +kernel
theorem dX7_go_300 : decode cX7_go 300 = .ok (.putfield 201, 3) := by decide +kernel
theorem dX7_go_303 : decode cX7_go 303 = .ok (.return_, 1) := by decide +kernel
theorem dX7_takesKey_0 : decode cX7_takesKey 0 = .ok (.aload_n 0, 1) := by decide +kernel
theorem dX7_takesKey_1 : decode cX7_takesKey 1 = .ok (.getfield 210, 3) := by decide +kernel
theorem dX7_takesKey_4 : decode cX7_takesKey 4 = .ok (.iconst 1, 1) := by decide +kernel
theorem dX7_takesKey_5 : decode cX7_takesKey 5 = .ok (.if_icmp .eq 5, 3) := by decide +kernel
theorem dX7_takesKey_8 : decode cX7_takesKey 8 = .ok (.iconst 0, 1) := by decide +kernel
theorem dX7_takesKey_9 : decode cX7_takesKey 9 = .ok (.ireturn, 1) := by decide +kernel
theorem dX7_takesKey_10 : decode cX7_takesKey 10 = .ok (.iconst 0, 1) := by decide +kernel
theorem dX7_takesKey_11 : decode cX7_takesKey 11 = .ok (.istore_n 1, 1) := by decide +kernel
theorem dX7_takesKey_12 : decode cX7_takesKey 12 = .ok (.iload_n 1, 1) := by decide +kernel
theorem dX7_takesKey_13 : decode cX7_takesKey 13 = .ok (.iconst 3, 1) := by decide +kernel
theorem dX7_takesKey_14 : decode cX7_takesKey 14 = .ok (.if_icmp .ge 113, 3) := by decide +kernel
theorem dX7_takesKey_17 : decode cX7_takesKey 17 = .ok (.aload_n 0, 1) := by decide +kernel
theorem dX7_takesKey_18 : decode cX7_takesKey 18 = .ok (.getfield 35, 3) := by decide +kernel
theorem dX7_takesKey_21 : decode cX7_takesKey 21 = .ok (.iload_n 1, 1) := by decide +kernel
theorem dX7_takesKey_22 : decode cX7_takesKey 22 = .ok (.iconst 1, 1) := by decide +kernel
theorem dX7_takesKey_23 : decode cX7_takesKey 23 = .ok (.iadd, 1) := by decide +kernel
theorem dX7_takesKey_24 : decode cX7_takesKey 24 = .ok (.iaload, 1) := by decide +kernel
theorem dX7_takesKey_25 : decode cX7_takesKey 25 = .ok (.aload_n 0, 1) := by decide +kernel
theorem dX7_takesKey_26 : decode cX7_takesKey 26 = .ok (.getfield 35, 3) := by decide +kernel
theorem dX7_takesKey_29 : decode cX7_takesKey 29 = .ok (.iload_n 1, 1) := by decide +kernel
theorem dX7_takesKey_30 : decode cX7_takesKey 30 = .ok (.iaload, 1) := by decide +kernel
theorem dX7_takesKey_31 : decode cX7_takesKey 31 = .ok (.isub, 1) := by decide +kernel
theorem dX7_takesKey_32 : decode cX7_takesKey 32 = .ok (.istore_n 2, 1) := by decide +kernel
theorem dX7_takesKey_33 : decode cX7_takesKey 33 = .ok (.iload_n 2, 1) := by decide +kernel
theorem dX7_takesKey_34 : decode cX7_takesKey 34 = .ok (.aload_n 0, 1) := by decide +kernel
theorem dX7_takesKey_35 : decode cX7_takesKey 35 = .ok (.getfield 201, 3) := by decide +kernel
theorem dX7_takesKey_38 : decode cX7_takesKey 38 = .ok (.aload_n 0, 1) := by decide +kernel
theorem dX7_takesKey_39 : decode cX7_takesKey 39 = .ok (.getfield 204, 3) := by decide +kernel
theorem dX7_takesKey_42 : decode cX7_takesKey 42 = .ok (.isub, 1) := by decide +kernel
theorem dX7_takesKey_43 : decode cX7_takesKey 43 = .ok (.if_icmp .ne 7, 3) := by decide +kernel
theorem dX7_takesKey_46 : decode cX7_takesKey 46 = .ok (.iconst 1, 1) := by decide +kernel
theorem dX7_takesKey_47 : decode cX7_takesKey 47 = .ok (.goto 4, 3) := by decide +kernel
theorem dX7_takesKey_50 : decode cX7_takesKey 50 = .ok (.iconst 0, 1) := by decide +kernel
theorem dX7_takesKey_51 : decode cX7_takesKey 51 = .ok (.istore_n 3, 1) := by decide +kernel
theorem dX7_takesKey_52 : decode cX7_takesKey 52 = .ok (.iconst 0, 1) := by decide +kernel
theorem dX7_takesKey_53 : decode cX7_takesKey 53 = .ok (.istore 4, 2) := by decide +kernel
theorem dX7_takesKey_55 : decode cX7_takesKey 55 = .ok (.iload 4, 2) := by decide +kernel
theorem dX7_takesKey_57 : decode cX7_takesKey 57 = .ok (.iload_n 2, 1) := by decide +kernel
theorem dX7_takesKey_58 : decode cX7_takesKey 58 = .ok (.if_icmp .ge 48, 3) := by decide +kernel
theorem dX7_takesKey_61 : decode cX7_takesKey 61 = .ok (.iload_n 3, 1) := by decide +kernel
theorem dX7_takesKey_62 : decode cX7_takesKey 62 = .ok (.ifCond .eq 44, 3) := by decide +kernel
theorem dX7_takesKey_65 : decode cX7_takesKey 65 = .ok (.aload_n 0, 1) := by decide +kernel
theorem dX7_takesKey_66 : decode cX7_takesKey 66 = .ok (.getfield 28, 3) := by decide +kernel
theorem dX7_takesKey_69 : decode cX7_takesKey 69 = .ok (.aload_n 0, 1) := by decide +kernel
theorem dX7_takesKey_70 : decode cX7_takesKey 70 = .ok (.getfield 204, 3) := by decide +kernel
theorem dX7_takesKey_73 : decode cX7_takesKey 73 = .ok (.iload 4, 2) := by decide +kernel
theorem dX7_takesKey_75 : decode cX7_takesKey 75 = .ok (.iadd, 1) := by decide +kernel
theorem dX7_takesKey_76 : decode cX7_takesKey 76 = .ok (.iaload, 1) := by decide +kernel
theorem dX7_takesKey_77 : decode cX7_takesKey 77 = .ok (.aload_n 0, 1) := by decide +kernel
theorem dX7_takesKey_78 : decode cX7_takesKey 78 = .ok (.getfield 31, 3) := by decide +kernel
theorem dX7_takesKey_81 : decode cX7_takesKey 81 = .ok (.aload_n 0, 1) := by decide +kernel
theorem dX7_takesKey_82 : decode cX7_takesKey 82 = .ok (.getfield 35, 3) := by decide +kernel
theorem dX7_takesKey_85 : decode cX7_takesKey 85 = .ok (.iload_n 1, 1) := by decide +kernel
theorem dX7_takesKey_86 : decode cX7_takesKey 86 = .ok (.iaload, 1) := by decide +kernel
theorem dX7_takesKey_87 : decode cX7_takesKey 87 = .ok (.iload 4, 2) := by decide +kernel
theorem dX7_takesKey_89 : decode cX7_takesKey 89 = .ok (.iadd, 1) := by decide +kernel
theorem dX7_takesKey_90 : decode cX7_takesKey 90 = .ok (.caload, 1) := by decide +kernel
theorem dX7_takesKey_91 : decode cX7_takesKey 91 = .ok (.if_icmp .ne 7, 3) := by decide +kernel
theorem dX7_takesKey_94 : decode cX7_takesKey 94 = .ok (.iconst 1, 1) := by decide +kernel
theorem dX7_takesKey_95 : decode cX7_takesKey 95 = .ok (.goto 4, 3) := by decide +kernel
theorem dX7_takesKey_98 : decode cX7_takesKey 98 = .ok (.iconst 0, 1) := by decide +kernel
theorem dX7_takesKey_99 : decode cX7_takesKey 99 = .ok (.istore_n 3, 1) := by decide +kernel
theorem dX7_takesKey_100 : decode cX7_takesKey 100 = .ok (.iinc 4 1, 3) := by decide +kernel
theorem dX7_takesKey_103 : decode cX7_takesKey 103 = .ok (.goto (-48), 3) := by decide +kernel
theorem dX7_takesKey_106 : decode cX7_takesKey 106 = .ok (.iload_n 3, 1) := by decide +kernel
theorem dX7_takesKey_107 : decode cX7_takesKey 107 = .ok (.ifCond .eq 14, 3) := by decide +kernel
theorem dX7_takesKey_110 : decode cX7_takesKey 110 = .ok (.aload_n 0, 1) := by decide +kernel
theorem dX7_takesKey_111 : decode cX7_takesKey 111 = .ok (.iload_n 1, 1) := by decide +kernel
theorem dX7_takesKey_112 : decode cX7_takesKey 112 = .ok (.putfield 222, 3) := by decide +kernel
theorem dX7_takesKey_115 : decode cX7_takesKey 115 = .ok (.aload_n 0, 1) := by decide +kernel
theorem dX7_takesKey_116 : decode cX7_takesKey 116 = .ok (.invokevirtual 225, 3) := by decide +kernel
theorem dX7_takesKey_119 : decode cX7_takesKey 119 = .ok (.iconst 1, 1) := by decide +kernel
theorem dX7_takesKey_120 : decode cX7_takesKey 120 = .ok (.ireturn, 1) := by decide +kernel
theorem dX7_takesKey_121 : decode cX7_takesKey 121 = .ok (.iinc 1 1, 3) := by decide +kernel
theorem dX7_takesKey_124 : decode cX7_takesKey 124 = .ok (.goto (-112), 3) := by decide +kernel
theorem dX7_takesKey_127 : decode cX7_takesKey 127 = .ok (.iconst 0, 1) := by decide +kernel
theorem dX7_takesKey_128 : decode cX7_takesKey 128 = .ok (.ireturn, 1) := by decide +kernel
theorem dX7_nameOf_0 : decode cX7_nameOf 0 = .ok (.aload_n 0, 1) := by decide +kernel
theorem dX7_nameOf_1 : decode cX7_nameOf 1 = .ok (.getfield 222, 3) := by decide +kernel
theorem dX7_nameOf_4 : decode cX7_nameOf 4 = .ok (.lookupswitch 82 #[(0, 28), (1, 60)], 28) := by decide +kernel
theorem dX7_nameOf_32 : decode cX7_nameOf 32 = .ok (.iload_n 1, 1) := by decide +kernel
theorem dX7_nameOf_33 : decode cX7_nameOf 33 = .ok (.bipush 102, 2) := by decide +kernel
theorem dX7_nameOf_35 : decode cX7_nameOf 35 = .ok (.if_icmp .ne 7, 3) := by decide +kernel
theorem dX7_nameOf_38 : decode cX7_nameOf 38 = .ok (.iconst 0, 1) := by decide +kernel
theorem dX7_nameOf_39 : decode cX7_nameOf 39 = .ok (.goto 24, 3) := by decide +kernel
theorem dX7_nameOf_42 : decode cX7_nameOf 42 = .ok (.iload_n 1, 1) := by decide +kernel
theorem dX7_nameOf_43 : decode cX7_nameOf 43 = .ok (.bipush 114, 2) := by decide +kernel
theorem dX7_nameOf_45 : decode cX7_nameOf 45 = .ok (.if_icmp .ne 7, 3) := by decide +kernel
theorem dX7_nameOf_48 : decode cX7_nameOf 48 = .ok (.iconst 1, 1) := by decide +kernel
theorem dX7_nameOf_49 : decode cX7_nameOf 49 = .ok (.goto 14, 3) := by decide +kernel
theorem dX7_nameOf_52 : decode cX7_nameOf 52 = .ok (.iload_n 1, 1) := by decide +kernel
theorem dX7_nameOf_53 : decode cX7_nameOf 53 = .ok (.bipush 112, 2) := by decide +kernel
theorem dX7_nameOf_55 : decode cX7_nameOf 55 = .ok (.if_icmp .ne 7, 3) := by decide +kernel
theorem dX7_nameOf_58 : decode cX7_nameOf 58 = .ok (.iconst 2, 1) := by decide +kernel
theorem dX7_nameOf_59 : decode cX7_nameOf 59 = .ok (.goto 4, 3) := by decide +kernel
theorem dX7_nameOf_62 : decode cX7_nameOf 62 = .ok (.iconst (-1), 1) := by decide +kernel
theorem dX7_nameOf_63 : decode cX7_nameOf 63 = .ok (.ireturn, 1) := by decide +kernel
theorem dX7_nameOf_64 : decode cX7_nameOf 64 = .ok (.iload_n 1, 1) := by decide +kernel
theorem dX7_nameOf_65 : decode cX7_nameOf 65 = .ok (.bipush 114, 2) := by decide +kernel
theorem dX7_nameOf_67 : decode cX7_nameOf 67 = .ok (.if_icmp .ne 7, 3) := by decide +kernel
theorem dX7_nameOf_70 : decode cX7_nameOf 70 = .ok (.iconst 0, 1) := by decide +kernel
theorem dX7_nameOf_71 : decode cX7_nameOf 71 = .ok (.goto 14, 3) := by decide +kernel
theorem dX7_nameOf_74 : decode cX7_nameOf 74 = .ok (.iload_n 1, 1) := by decide +kernel
theorem dX7_nameOf_75 : decode cX7_nameOf 75 = .ok (.bipush 119, 2) := by decide +kernel
theorem dX7_nameOf_77 : decode cX7_nameOf 77 = .ok (.if_icmp .ne 7, 3) := by decide +kernel
theorem dX7_nameOf_80 : decode cX7_nameOf 80 = .ok (.iconst 1, 1) := by decide +kernel
theorem dX7_nameOf_81 : decode cX7_nameOf 81 = .ok (.goto 4, 3) := by decide +kernel
theorem dX7_nameOf_84 : decode cX7_nameOf 84 = .ok (.iconst (-1), 1) := by decide +kernel
theorem dX7_nameOf_85 : decode cX7_nameOf 85 = .ok (.ireturn, 1) := by decide +kernel
theorem dX7_nameOf_86 : decode cX7_nameOf 86 = .ok (.iload_n 1, 1) := by decide +kernel
theorem dX7_nameOf_87 : decode cX7_nameOf 87 = .ok (.bipush 102, 2) := by decide +kernel
theorem dX7_nameOf_89 : decode cX7_nameOf 89 = .ok (.if_icmp .ne 7, 3) := by decide +kernel
theorem dX7_nameOf_92 : decode cX7_nameOf 92 = .ok (.iconst 0, 1) := by decide +kernel
theorem dX7_nameOf_93 : decode cX7_nameOf 93 = .ok (.goto 14, 3) := by decide +kernel
theorem dX7_nameOf_96 : decode cX7_nameOf 96 = .ok (.iload_n 1, 1) := by decide +kernel
theorem dX7_nameOf_97 : decode cX7_nameOf 97 = .ok (.bipush 119, 2) := by decide +kernel
theorem dX7_nameOf_99 : decode cX7_nameOf 99 = .ok (.if_icmp .ne 7, 3) := by decide +kernel
theorem dX7_nameOf_102 : decode cX7_nameOf 102 = .ok (.iconst 1, 1) := by decide +kernel
theorem dX7_nameOf_103 : decode cX7_nameOf 103 = .ok (.goto 4, 3) := by decide +kernel
theorem dX7_nameOf_106 : decode cX7_nameOf 106 = .ok (.iconst (-1), 1) := by decide +kernel
theorem dX7_nameOf_107 : decode cX7_nameOf 107 = .ok (.ireturn, 1) := by decide +kernel
theorem dX7_rank_0 : decode cX7_rank 0 = .ok (.iload_n 0, 1) := by decide +kernel
theorem dX7_rank_1 : decode cX7_rank 1 = .ok (.iconst (-1), 1) := by decide +kernel
theorem dX7_rank_2 : decode cX7_rank 2 = .ok (.if_icmp .ne 7, 3) := by decide +kernel
theorem dX7_rank_5 : decode cX7_rank 5 = .ok (.iconst 1, 1) := by decide +kernel
theorem dX7_rank_6 : decode cX7_rank 6 = .ok (.goto 45, 3) := by decide +kernel
theorem dX7_rank_9 : decode cX7_rank 9 = .ok (.iload_n 0, 1) := by decide +kernel
theorem dX7_rank_10 : decode cX7_rank 10 = .ok (.bipush (-2), 2) := by decide +kernel
theorem dX7_rank_12 : decode cX7_rank 12 = .ok (.if_icmp .ne 7, 3) := by decide +kernel
theorem dX7_rank_15 : decode cX7_rank 15 = .ok (.iconst 2, 1) := by decide +kernel
theorem dX7_rank_16 : decode cX7_rank 16 = .ok (.goto 35, 3) := by decide +kernel
theorem dX7_rank_19 : decode cX7_rank 19 = .ok (.iload_n 0, 1) := by decide +kernel
theorem dX7_rank_20 : decode cX7_rank 20 = .ok (.bipush (-5), 2) := by decide +kernel
theorem dX7_rank_22 : decode cX7_rank 22 = .ok (.if_icmp .lt 7, 3) := by decide +kernel
theorem dX7_rank_25 : decode cX7_rank 25 = .ok (.iconst 3, 1) := by decide +kernel
theorem dX7_rank_26 : decode cX7_rank 26 = .ok (.goto 25, 3) := by decide +kernel
theorem dX7_rank_29 : decode cX7_rank 29 = .ok (.iload_n 0, 1) := by decide +kernel
theorem dX7_rank_30 : decode cX7_rank 30 = .ok (.bipush (-7), 2) := by decide +kernel
theorem dX7_rank_32 : decode cX7_rank 32 = .ok (.if_icmp .lt 7, 3) := by decide +kernel
theorem dX7_rank_35 : decode cX7_rank 35 = .ok (.iconst 4, 1) := by decide +kernel
theorem dX7_rank_36 : decode cX7_rank 36 = .ok (.goto 15, 3) := by decide +kernel
theorem dX7_rank_39 : decode cX7_rank 39 = .ok (.iload_n 0, 1) := by decide +kernel
theorem dX7_rank_40 : decode cX7_rank 40 = .ok (.bipush (-9), 2) := by decide +kernel
theorem dX7_rank_42 : decode cX7_rank 42 = .ok (.if_icmp .lt 7, 3) := by decide +kernel
theorem dX7_rank_45 : decode cX7_rank 45 = .ok (.iconst 5, 1) := by decide +kernel
theorem dX7_rank_46 : decode cX7_rank 46 = .ok (.goto 5, 3) := by decide +kernel
theorem dX7_rank_49 : decode cX7_rank 49 = .ok (.bipush 6, 2) := by decide +kernel
theorem dX7_rank_51 : decode cX7_rank 51 = .ok (.ireturn, 1) := by decide +kernel
theorem dX7_settle_0 : decode cX7_settle 0 = .ok (.aload_n 0, 1) := by decide +kernel
theorem dX7_settle_1 : decode cX7_settle 1 = .ok (.getfield 228, 3) := by decide +kernel
theorem dX7_settle_4 : decode cX7_settle 4 = .ok (.ifCond .le 78, 3) := by decide +kernel
theorem dX7_settle_7 : decode cX7_settle 7 = .ok (.aload_n 0, 1) := by decide +kernel
theorem dX7_settle_8 : decode cX7_settle 8 = .ok (.getfield 41, 3) := by decide +kernel
theorem dX7_settle_11 : decode cX7_settle 11 = .ok (.aload_n 0, 1) := by decide +kernel
theorem dX7_settle_12 : decode cX7_settle 12 = .ok (.getfield 228, 3) := by decide +kernel
theorem dX7_settle_15 : decode cX7_settle 15 = .ok (.iconst 1, 1) := by decide +kernel
theorem dX7_settle_16 : decode cX7_settle 16 = .ok (.isub, 1) := by decide +kernel
theorem dX7_settle_17 : decode cX7_settle 17 = .ok (.iaload, 1) := by decide +kernel
theorem dX7_settle_18 : decode cX7_settle 18 = .ok (.bipush (-11), 2) := by decide +kernel
theorem dX7_settle_20 : decode cX7_settle 20 = .ok (.if_icmp .eq 62, 3) := by decide +kernel
theorem dX7_settle_23 : decode cX7_settle 23 = .ok (.aload_n 0, 1) := by decide +kernel
theorem dX7_settle_24 : decode cX7_settle 24 = .ok (.getfield 41, 3) := by decide +kernel
theorem dX7_settle_27 : decode cX7_settle 27 = .ok (.aload_n 0, 1) := by decide +kernel
theorem dX7_settle_28 : decode cX7_settle 28 = .ok (.getfield 228, 3) := by decide +kernel
theorem dX7_settle_31 : decode cX7_settle 31 = .ok (.iconst 1, 1) := by decide +kernel
theorem dX7_settle_32 : decode cX7_settle 32 = .ok (.isub, 1) := by decide +kernel
theorem dX7_settle_33 : decode cX7_settle 33 = .ok (.iaload, 1) := by decide +kernel
theorem dX7_settle_34 : decode cX7_settle 34 = .ok (.invokestatic 231, 3) := by decide +kernel
theorem dX7_settle_37 : decode cX7_settle 37 = .ok (.iload_n 1, 1) := by decide +kernel
theorem dX7_settle_38 : decode cX7_settle 38 = .ok (.if_icmp .lt 44, 3) := by decide +kernel
theorem dX7_settle_41 : decode cX7_settle 41 = .ok (.aload_n 0, 1) := by decide +kernel
theorem dX7_settle_42 : decode cX7_settle 42 = .ok (.dup, 1) := by decide +kernel
theorem dX7_settle_43 : decode cX7_settle 43 = .ok (.getfield 228, 3) := by decide +kernel
theorem dX7_settle_46 : decode cX7_settle 46 = .ok (.iconst 1, 1) := by decide +kernel
theorem dX7_settle_47 : decode cX7_settle 47 = .ok (.isub, 1) := by decide +kernel
theorem dX7_settle_48 : decode cX7_settle 48 = .ok (.putfield 228, 3) := by decide +kernel
theorem dX7_settle_51 : decode cX7_settle 51 = .ok (.aload_n 0, 1) := by decide +kernel
theorem dX7_settle_52 : decode cX7_settle 52 = .ok (.getfield 38, 3) := by decide +kernel
theorem dX7_settle_55 : decode cX7_settle 55 = .ok (.aload_n 0, 1) := by decide +kernel
theorem dX7_settle_56 : decode cX7_settle 56 = .ok (.getfield 234, 3) := by decide +kernel
theorem dX7_settle_59 : decode cX7_settle 59 = .ok (.aload_n 0, 1) := by decide +kernel
theorem dX7_settle_60 : decode cX7_settle 60 = .ok (.getfield 41, 3) := by decide +kernel
theorem dX7_settle_63 : decode cX7_settle 63 = .ok (.aload_n 0, 1) := by decide +kernel
theorem dX7_settle_64 : decode cX7_settle 64 = .ok (.getfield 228, 3) := by decide +kernel
theorem dX7_settle_67 : decode cX7_settle 67 = .ok (.iaload, 1) := by decide +kernel
theorem dX7_settle_68 : decode cX7_settle 68 = .ok (.iastore, 1) := by decide +kernel
theorem dX7_settle_69 : decode cX7_settle 69 = .ok (.aload_n 0, 1) := by decide +kernel
theorem dX7_settle_70 : decode cX7_settle 70 = .ok (.dup, 1) := by decide +kernel
theorem dX7_settle_71 : decode cX7_settle 71 = .ok (.getfield 234, 3) := by decide +kernel
theorem dX7_settle_74 : decode cX7_settle 74 = .ok (.iconst 1, 1) := by decide +kernel
theorem dX7_settle_75 : decode cX7_settle 75 = .ok (.iadd, 1) := by decide +kernel
theorem dX7_settle_76 : decode cX7_settle 76 = .ok (.putfield 234, 3) := by decide +kernel
theorem dX7_settle_79 : decode cX7_settle 79 = .ok (.goto (-79), 3) := by decide +kernel
theorem dX7_settle_82 : decode cX7_settle 82 = .ok (.return_, 1) := by decide +kernel
theorem dX7_signHere_0 : decode cX7_signHere 0 = .ok (.aload_n 0, 1) := by decide +kernel
theorem dX7_signHere_1 : decode cX7_signHere 1 = .ok (.getfield 210, 3) := by decide +kernel
theorem dX7_signHere_4 : decode cX7_signHere 4 = .ok (.iconst 3, 1) := by decide +kernel
theorem dX7_signHere_5 : decode cX7_signHere 5 = .ok (.if_icmp .eq 5, 3) := by decide +kernel
theorem dX7_signHere_8 : decode cX7_signHere 8 = .ok (.iconst 0, 1) := by decide +kernel
theorem dX7_signHere_9 : decode cX7_signHere 9 = .ok (.ireturn, 1) := by decide +kernel
theorem dX7_signHere_10 : decode cX7_signHere 10 = .ok (.aload_n 0, 1) := by decide +kernel
theorem dX7_signHere_11 : decode cX7_signHere 11 = .ok (.getfield 216, 3) := by decide +kernel
theorem dX7_signHere_14 : decode cX7_signHere 14 = .ok (.lookupswitch 108 #[(38, 84), (42, 102), (43, 96), (45, 99), (47, 105), (60, 87), (61, 90), (62, 93), (124, 82)], 82) := by decide +kernel
theorem dX7_signHere_96 : decode cX7_signHere 96 = .ok (.iconst (-1), 1) := by decide +kernel
theorem dX7_signHere_97 : decode cX7_signHere 97 = .ok (.ireturn, 1) := by decide +kernel
theorem dX7_signHere_98 : decode cX7_signHere 98 = .ok (.bipush (-2), 2) := by decide +kernel
theorem dX7_signHere_100 : decode cX7_signHere 100 = .ok (.ireturn, 1) := by decide +kernel
theorem dX7_signHere_101 : decode cX7_signHere 101 = .ok (.bipush (-3), 2) := by decide +kernel
theorem dX7_signHere_103 : decode cX7_signHere 103 = .ok (.ireturn, 1) := by decide +kernel
theorem dX7_signHere_104 : decode cX7_signHere 104 = .ok (.bipush (-4), 2) := by decide +kernel
theorem dX7_signHere_106 : decode cX7_signHere 106 = .ok (.ireturn, 1) := by decide +kernel
theorem dX7_signHere_107 : decode cX7_signHere 107 = .ok (.bipush (-5), 2) := by decide +kernel
theorem dX7_signHere_109 : decode cX7_signHere 109 = .ok (.ireturn, 1) := by decide +kernel
theorem dX7_signHere_110 : decode cX7_signHere 110 = .ok (.bipush (-6), 2) := by decide +kernel
theorem dX7_signHere_112 : decode cX7_signHere 112 = .ok (.ireturn, 1) := by decide +kernel
theorem dX7_signHere_113 : decode cX7_signHere 113 = .ok (.bipush (-7), 2) := by decide +kernel
theorem dX7_signHere_115 : decode cX7_signHere 115 = .ok (.ireturn, 1) := by decide +kernel
theorem dX7_signHere_116 : decode cX7_signHere 116 = .ok (.bipush (-8), 2) := by decide +kernel
theorem dX7_signHere_118 : decode cX7_signHere 118 = .ok (.ireturn, 1) := by decide +kernel
theorem dX7_signHere_119 : decode cX7_signHere 119 = .ok (.bipush (-9), 2) := by decide +kernel
theorem dX7_signHere_121 : decode cX7_signHere 121 = .ok (.ireturn, 1) := by decide +kernel
theorem dX7_signHere_122 : decode cX7_signHere 122 = .ok (.iconst 0, 1) := by decide +kernel
theorem dX7_signHere_123 : decode cX7_signHere 123 = .ok (.ireturn, 1) := by decide +kernel
theorem dX7_takesPart_0 : decode cX7_takesPart 0 = .ok (.aload_n 0, 1) := by decide +kernel
theorem dX7_takesPart_1 : decode cX7_takesPart 1 = .ok (.getfield 210, 3) := by decide +kernel
theorem dX7_takesPart_4 : decode cX7_takesPart 4 = .ok (.iconst 1, 1) := by decide +kernel
theorem dX7_takesPart_5 : decode cX7_takesPart 5 = .ok (.if_icmp .ne 31, 3) := by decide +kernel
theorem dX7_takesPart_8 : decode cX7_takesPart 8 = .ok (.aload_n 0, 1) := by decide +kernel
theorem dX7_takesPart_9 : decode cX7_takesPart 9 = .ok (.getfield 201, 3) := by decide +kernel
theorem dX7_takesPart_12 : decode cX7_takesPart 12 = .ok (.aload_n 0, 1) := by decide +kernel
theorem dX7_takesPart_13 : decode cX7_takesPart 13 = .ok (.getfield 204, 3) := by decide +kernel
theorem dX7_takesPart_16 : decode cX7_takesPart 16 = .ok (.isub, 1) := by decide +kernel
theorem dX7_takesPart_17 : decode cX7_takesPart 17 = .ok (.iconst 1, 1) := by decide +kernel
theorem dX7_takesPart_18 : decode cX7_takesPart 18 = .ok (.if_icmp .ne 18, 3) := by decide +kernel
theorem dX7_takesPart_21 : decode cX7_takesPart 21 = .ok (.aload_n 0, 1) := by decide +kernel
theorem dX7_takesPart_22 : decode cX7_takesPart 22 = .ok (.aload_n 0, 1) := by decide +kernel
theorem dX7_takesPart_23 : decode cX7_takesPart 23 = .ok (.getfield 216, 3) := by decide +kernel
theorem dX7_takesPart_26 : decode cX7_takesPart 26 = .ok (.invokevirtual 237, 3) := by decide +kernel
theorem dX7_takesPart_29 : decode cX7_takesPart 29 = .ok (.ifCond .lt 7, 3) := by decide +kernel
theorem dX7_takesPart_32 : decode cX7_takesPart 32 = .ok (.iconst 1, 1) := by decide +kernel
theorem dX7_takesPart_33 : decode cX7_takesPart 33 = .ok (.goto 4, 3) := by decide +kernel
theorem dX7_takesPart_36 : decode cX7_takesPart 36 = .ok (.iconst 0, 1) := by decide +kernel
theorem dX7_takesPart_37 : decode cX7_takesPart 37 = .ok (.istore_n 1, 1) := by decide +kernel
theorem dX7_takesPart_38 : decode cX7_takesPart 38 = .ok (.aload_n 0, 1) := by decide +kernel
theorem dX7_takesPart_39 : decode cX7_takesPart 39 = .ok (.getfield 210, 3) := by decide +kernel
theorem dX7_takesPart_42 : decode cX7_takesPart 42 = .ok (.iconst 2, 1) := by decide +kernel
theorem dX7_takesPart_43 : decode cX7_takesPart 43 = .ok (.if_icmp .eq 9, 3) := by decide +kernel
theorem dX7_takesPart_46 : decode cX7_takesPart 46 = .ok (.iload_n 1, 1) := by decide +kernel
theorem dX7_takesPart_47 : decode cX7_takesPart 47 = .ok (.ifCond .ne 5, 3) := by decide +kernel
theorem dX7_takesPart_50 : decode cX7_takesPart 50 = .ok (.iconst 0, 1) := by decide +kernel
theorem dX7_takesPart_51 : decode cX7_takesPart 51 = .ok (.ireturn, 1) := by decide +kernel
theorem dX7_takesPart_52 : decode cX7_takesPart 52 = .ok (.aload_n 0, 1) := by decide +kernel
theorem dX7_takesPart_53 : decode cX7_takesPart 53 = .ok (.getfield 38, 3) := by decide +kernel
theorem dX7_takesPart_56 : decode cX7_takesPart 56 = .ok (.aload_n 0, 1) := by decide +kernel
theorem dX7_takesPart_57 : decode cX7_takesPart 57 = .ok (.getfield 234, 3) := by decide +kernel
theorem dX7_takesPart_60 : decode cX7_takesPart 60 = .ok (.aload_n 0, 1) := by decide +kernel
theorem dX7_takesPart_61 : decode cX7_takesPart 61 = .ok (.getfield 210, 3) := by decide +kernel
theorem dX7_takesPart_64 : decode cX7_takesPart 64 = .ok (.iconst 2, 1) := by decide +kernel
theorem dX7_takesPart_65 : decode cX7_takesPart 65 = .ok (.if_icmp .ne 10, 3) := by decide +kernel
theorem dX7_takesPart_68 : decode cX7_takesPart 68 = .ok (.aload_n 0, 1) := by decide +kernel
theorem dX7_takesPart_69 : decode cX7_takesPart 69 = .ok (.getfield 216, 3) := by decide +kernel
theorem dX7_takesPart_72 : decode cX7_takesPart 72 = .ok (.goto 15, 3) := by decide +kernel
theorem dX7_takesPart_75 : decode cX7_takesPart 75 = .ok (.sipush 10000, 3) := by decide +kernel
theorem dX7_takesPart_78 : decode cX7_takesPart 78 = .ok (.aload_n 0, 1) := by decide +kernel
theorem dX7_takesPart_79 : decode cX7_takesPart 79 = .ok (.aload_n 0, 1) := by decide +kernel
theorem dX7_takesPart_80 : decode cX7_takesPart 80 = .ok (.getfield 216, 3) := by decide +kernel
theorem dX7_takesPart_83 : decode cX7_takesPart 83 = .ok (.invokevirtual 237, 3) := by decide +kernel
theorem dX7_takesPart_86 : decode cX7_takesPart 86 = .ok (.iadd, 1) := by decide +kernel
theorem dX7_takesPart_87 : decode cX7_takesPart 87 = .ok (.iastore, 1) := by decide +kernel
theorem dX7_takesPart_88 : decode cX7_takesPart 88 = .ok (.aload_n 0, 1) := by decide +kernel
theorem dX7_takesPart_89 : decode cX7_takesPart 89 = .ok (.dup, 1) := by decide +kernel
theorem dX7_takesPart_90 : decode cX7_takesPart 90 = .ok (.getfield 234, 3) := by decide +kernel
theorem dX7_takesPart_93 : decode cX7_takesPart 93 = .ok (.iconst 1, 1) := by decide +kernel
theorem dX7_takesPart_94 : decode cX7_takesPart 94 = .ok (.iadd, 1) := by decide +kernel
theorem dX7_takesPart_95 : decode cX7_takesPart 95 = .ok (.putfield 234, 3) := by decide +kernel
theorem dX7_takesPart_98 : decode cX7_takesPart 98 = .ok (.aload_n 0, 1) := by decide +kernel
theorem dX7_takesPart_99 : decode cX7_takesPart 99 = .ok (.dup, 1) := by decide +kernel
theorem dX7_takesPart_100 : decode cX7_takesPart 100 = .ok (.getfield 240, 3) := by decide +kernel
theorem dX7_takesPart_103 : decode cX7_takesPart 103 = .ok (.iconst 1, 1) := by decide +kernel
theorem dX7_takesPart_104 : decode cX7_takesPart 104 = .ok (.iadd, 1) := by decide +kernel
theorem dX7_takesPart_105 : decode cX7_takesPart 105 = .ok (.putfield 240, 3) := by decide +kernel
theorem dX7_takesPart_108 : decode cX7_takesPart 108 = .ok (.aload_n 0, 1) := by decide +kernel
theorem dX7_takesPart_109 : decode cX7_takesPart 109 = .ok (.bipush 6, 2) := by decide +kernel
theorem dX7_takesPart_111 : decode cX7_takesPart 111 = .ok (.invokevirtual 243, 3) := by decide +kernel
theorem dX7_takesPart_114 : decode cX7_takesPart 114 = .ok (.aload_n 0, 1) := by decide +kernel
theorem dX7_takesPart_115 : decode cX7_takesPart 115 = .ok (.invokevirtual 225, 3) := by decide +kernel
theorem dX7_takesPart_118 : decode cX7_takesPart 118 = .ok (.iconst 1, 1) := by decide +kernel
theorem dX7_takesPart_119 : decode cX7_takesPart 119 = .ok (.ireturn, 1) := by decide +kernel
theorem dX7_takesE_0 : decode cX7_takesE 0 = .ok (.iconst 0, 1) := by decide +kernel
theorem dX7_takesE_1 : decode cX7_takesE 1 = .ok (.istore_n 1, 1) := by decide +kernel
theorem dX7_takesE_2 : decode cX7_takesE 2 = .ok (.iconst 0, 1) := by decide +kernel
theorem dX7_takesE_3 : decode cX7_takesE 3 = .ok (.istore_n 2, 1) := by decide +kernel
theorem dX7_takesE_4 : decode cX7_takesE 4 = .ok (.iconst 1, 1) := by decide +kernel
theorem dX7_takesE_5 : decode cX7_takesE 5 = .ok (.istore_n 3, 1) := by decide +kernel
theorem dX7_takesE_6 : decode cX7_takesE 6 = .ok (.aload_n 0, 1) := by decide +kernel
theorem dX7_takesE_7 : decode cX7_takesE 7 = .ok (.iconst 0, 1) := by decide +kernel
theorem dX7_takesE_8 : decode cX7_takesE 8 = .ok (.putfield 234, 3) := by decide +kernel
theorem dX7_takesE_11 : decode cX7_takesE 11 = .ok (.aload_n 0, 1) := by decide +kernel
theorem dX7_takesE_12 : decode cX7_takesE 12 = .ok (.iconst 0, 1) := by decide +kernel
theorem dX7_takesE_13 : decode cX7_takesE 13 = .ok (.putfield 240, 3) := by decide +kernel
theorem dX7_takesE_16 : decode cX7_takesE 16 = .ok (.aload_n 0, 1) := by decide +kernel
theorem dX7_takesE_17 : decode cX7_takesE 17 = .ok (.iconst 0, 1) := by decide +kernel
theorem dX7_takesE_18 : decode cX7_takesE 18 = .ok (.putfield 228, 3) := by decide +kernel
theorem dX7_takesE_21 : decode cX7_takesE 21 = .ok (.aload_n 0, 1) := by decide +kernel
theorem dX7_takesE_22 : decode cX7_takesE 22 = .ok (.getfield 44, 3) := by decide +kernel
theorem dX7_takesE_25 : decode cX7_takesE 25 = .ok (.iconst 0, 1) := by decide +kernel
theorem dX7_takesE_26 : decode cX7_takesE 26 = .ok (.iconst 0, 1) := by decide +kernel
theorem dX7_takesE_27 : decode cX7_takesE 27 = .ok (.bastore, 1) := by decide +kernel
theorem dX7_takesE_28 : decode cX7_takesE 28 = .ok (.iload_n 3, 1) := by decide +kernel
theorem dX7_takesE_29 : decode cX7_takesE 29 = .ok (.ifCond .ne 10, 3) := by decide +kernel
theorem dX7_takesE_32 : decode cX7_takesE 32 = .ok (.aload_n 0, 1) := by decide +kernel
theorem dX7_takesE_33 : decode cX7_takesE 33 = .ok (.getfield 210, 3) := by decide +kernel
theorem dX7_takesE_36 : decode cX7_takesE 36 = .ok (.ifCond .eq 309, 3) := by decide +kernel
theorem dX7_takesE_39 : decode cX7_takesE 39 = .ok (.iload_n 3, 1) := by decide +kernel
theorem dX7_takesE_40 : decode cX7_takesE 40 = .ok (.ifCond .eq 140, 3) := by decide +kernel
theorem dX7_takesE_43 : decode cX7_takesE 43 = .ok (.aload_n 0, 1) := by decide +kernel
theorem dX7_takesE_44 : decode cX7_takesE 44 = .ok (.getfield 210, 3) := by decide +kernel
theorem dX7_takesE_47 : decode cX7_takesE 47 = .ok (.iconst 3, 1) := by decide +kernel
theorem dX7_takesE_48 : decode cX7_takesE 48 = .ok (.if_icmp .ne 49, 3) := by decide +kernel
theorem dX7_takesE_51 : decode cX7_takesE 51 = .ok (.aload_n 0, 1) := by decide +kernel
theorem dX7_takesE_52 : decode cX7_takesE 52 = .ok (.getfield 216, 3) := by decide +kernel
theorem dX7_takesE_55 : decode cX7_takesE 55 = .ok (.bipush 33, 2) := by decide +kernel
theorem dX7_takesE_57 : decode cX7_takesE 57 = .ok (.if_icmp .ne 40, 3) := by decide +kernel
theorem dX7_takesE_60 : decode cX7_takesE 60 = .ok (.iload_n 2, 1) := by decide +kernel
theorem dX7_takesE_61 : decode cX7_takesE 61 = .ok (.bipush 8, 2) := by decide +kernel
theorem dX7_takesE_63 : decode cX7_takesE 63 = .ok (.if_icmp .ge 34, 3) := by decide +kernel
theorem dX7_takesE_66 : decode cX7_takesE 66 = .ok (.aload_n 0, 1) := by decide +kernel
theorem dX7_takesE_67 : decode cX7_takesE 67 = .ok (.getfield 41, 3) := by decide +kernel
theorem dX7_takesE_70 : decode cX7_takesE 70 = .ok (.aload_n 0, 1) := by decide +kernel
theorem dX7_takesE_71 : decode cX7_takesE 71 = .ok (.getfield 228, 3) := by decide +kernel
theorem dX7_takesE_74 : decode cX7_takesE 74 = .ok (.bipush (-10), 2) := by decide +kernel
theorem dX7_takesE_76 : decode cX7_takesE 76 = .ok (.iastore, 1) := by decide +kernel
theorem dX7_takesE_77 : decode cX7_takesE 77 = .ok (.aload_n 0, 1) := by decide +kernel
theorem dX7_takesE_78 : decode cX7_takesE 78 = .ok (.dup, 1) := by decide +kernel
theorem dX7_takesE_79 : decode cX7_takesE 79 = .ok (.getfield 228, 3) := by decide +kernel
theorem dX7_takesE_82 : decode cX7_takesE 82 = .ok (.iconst 1, 1) := by decide +kernel
theorem dX7_takesE_83 : decode cX7_takesE 83 = .ok (.iadd, 1) := by decide +kernel
theorem dX7_takesE_84 : decode cX7_takesE 84 = .ok (.putfield 228, 3) := by decide +kernel
theorem dX7_takesE_87 : decode cX7_takesE 87 = .ok (.iinc 2 1, 3) := by decide +kernel
theorem dX7_takesE_90 : decode cX7_takesE 90 = .ok (.aload_n 0, 1) := by decide +kernel
theorem dX7_takesE_91 : decode cX7_takesE 91 = .ok (.invokevirtual 225, 3) := by decide +kernel
theorem dX7_takesE_94 : decode cX7_takesE 94 = .ok (.goto 78, 3) := by decide +kernel
theorem dX7_takesE_97 : decode cX7_takesE 97 = .ok (.aload_n 0, 1) := by decide +kernel
theorem dX7_takesE_98 : decode cX7_takesE 98 = .ok (.getfield 210, 3) := by decide +kernel
theorem dX7_takesE_101 : decode cX7_takesE 101 = .ok (.iconst 3, 1) := by decide +kernel
theorem dX7_takesE_102 : decode cX7_takesE 102 = .ok (.if_icmp .ne 56, 3) := by decide +kernel
theorem dX7_takesE_105 : decode cX7_takesE 105 = .ok (.aload_n 0, 1) := by decide +kernel
theorem dX7_takesE_106 : decode cX7_takesE 106 = .ok (.getfield 216, 3) := by decide +kernel
theorem dX7_takesE_109 : decode cX7_takesE 109 = .ok (.bipush 40, 2) := by decide +kernel
theorem dX7_takesE_111 : decode cX7_takesE 111 = .ok (.if_icmp .ne 47, 3) := by decide +kernel
theorem dX7_takesE_114 : decode cX7_takesE 114 = .ok (.iload_n 1, 1) := by decide +kernel
theorem dX7_takesE_115 : decode cX7_takesE 115 = .ok (.bipush 8, 2) := by decide +kernel
theorem dX7_takesE_117 : decode cX7_takesE 117 = .ok (.if_icmp .ge 41, 3) := by decide +kernel
theorem dX7_takesE_120 : decode cX7_takesE 120 = .ok (.aload_n 0, 1) := by decide +kernel
theorem dX7_takesE_121 : decode cX7_takesE 121 = .ok (.getfield 41, 3) := by decide +kernel
theorem dX7_takesE_124 : decode cX7_takesE 124 = .ok (.aload_n 0, 1) := by decide +kernel
theorem dX7_takesE_125 : decode cX7_takesE 125 = .ok (.getfield 228, 3) := by decide +kernel
theorem dX7_takesE_128 : decode cX7_takesE 128 = .ok (.bipush (-11), 2) := by decide +kernel
theorem dX7_takesE_130 : decode cX7_takesE 130 = .ok (.iastore, 1) := by decide +kernel
theorem dX7_takesE_131 : decode cX7_takesE 131 = .ok (.aload_n 0, 1) := by decide +kernel
theorem dX7_takesE_132 : decode cX7_takesE 132 = .ok (.dup, 1) := by decide +kernel
theorem dX7_takesE_133 : decode cX7_takesE 133 = .ok (.getfield 228, 3) := by decide +kernel
theorem dX7_takesE_136 : decode cX7_takesE 136 = .ok (.iconst 1, 1) := by decide +kernel
theorem dX7_takesE_137 : decode cX7_takesE 137 = .ok (.iadd, 1) := by decide +kernel
theorem dX7_takesE_138 : decode cX7_takesE 138 = .ok (.putfield 228, 3) := by decide +kernel
theorem dX7_takesE_141 : decode cX7_takesE 141 = .ok (.iinc 1 1, 3) := by decide +kernel
theorem dX7_takesE_144 : decode cX7_takesE 144 = .ok (.aload_n 0, 1) := by decide +kernel
theorem dX7_takesE_145 : decode cX7_takesE 145 = .ok (.getfield 44, 3) := by decide +kernel
theorem dX7_takesE_148 : decode cX7_takesE 148 = .ok (.iload_n 1, 1) := by decide +kernel
theorem dX7_takesE_149 : decode cX7_takesE 149 = .ok (.iconst 0, 1) := by decide +kernel
theorem dX7_takesE_150 : decode cX7_takesE 150 = .ok (.bastore, 1) := by decide +kernel
theorem dX7_takesE_151 : decode cX7_takesE 151 = .ok (.aload_n 0, 1) := by decide +kernel
theorem dX7_takesE_152 : decode cX7_takesE 152 = .ok (.invokevirtual 225, 3) := by decide +kernel
theorem dX7_takesE_155 : decode cX7_takesE 155 = .ok (.goto 17, 3) := by decide +kernel
theorem dX7_takesE_158 : decode cX7_takesE 158 = .ok (.aload_n 0, 1) := by decide +kernel
theorem dX7_takesE_159 : decode cX7_takesE 159 = .ok (.invokevirtual 246, 3) := by decide +kernel
theorem dX7_takesE_162 : decode cX7_takesE 162 = .ok (.ifCond .eq 8, 3) := by decide +kernel
theorem dX7_takesE_165 : decode cX7_takesE 165 = .ok (.iconst 0, 1) := by decide +kernel
theorem dX7_takesE_166 : decode cX7_takesE 166 = .ok (.istore_n 3, 1) := by decide +kernel
theorem dX7_takesE_167 : decode cX7_takesE 167 = .ok (.goto 5, 3) := by decide +kernel
theorem dX7_takesE_170 : decode cX7_takesE 170 = .ok (.iconst 0, 1) := by decide +kernel
theorem dX7_takesE_171 : decode cX7_takesE 171 = .ok (.ireturn, 1) := by decide +kernel
theorem dX7_takesE_172 : decode cX7_takesE 172 = .ok (.aload_n 0, 1) := by decide +kernel
theorem dX7_takesE_173 : decode cX7_takesE 173 = .ok (.invokevirtual 250, 3) := by decide +kernel
theorem dX7_takesE_176 : decode cX7_takesE 176 = .ok (.istore_n 2, 1) := by decide +kernel
theorem dX7_takesE_177 : decode cX7_takesE 177 = .ok (.goto (-149), 3) := by decide +kernel
theorem dX7_takesE_180 : decode cX7_takesE 180 = .ok (.aload_n 0, 1) := by decide +kernel
theorem dX7_takesE_181 : decode cX7_takesE 181 = .ok (.getfield 210, 3) := by decide +kernel
theorem dX7_takesE_184 : decode cX7_takesE 184 = .ok (.iconst 3, 1) := by decide +kernel
theorem dX7_takesE_185 : decode cX7_takesE 185 = .ok (.if_icmp .ne 52, 3) := by decide +kernel
theorem dX7_takesE_188 : decode cX7_takesE 188 = .ok (.aload_n 0, 1) := by decide +kernel
theorem dX7_takesE_189 : decode cX7_takesE 189 = .ok (.getfield 216, 3) := by decide +kernel
theorem dX7_takesE_192 : decode cX7_takesE 192 = .ok (.bipush 41, 2) := by decide +kernel
theorem dX7_takesE_194 : decode cX7_takesE 194 = .ok (.if_icmp .ne 43, 3) := by decide +kernel
theorem dX7_takesE_197 : decode cX7_takesE 197 = .ok (.iload_n 1, 1) := by decide +kernel
theorem dX7_takesE_198 : decode cX7_takesE 198 = .ok (.ifCond .le 39, 3) := by decide +kernel
theorem dX7_takesE_201 : decode cX7_takesE 201 = .ok (.aload_n 0, 1) := by decide +kernel
theorem dX7_takesE_202 : decode cX7_takesE 202 = .ok (.iconst 0, 1) := by decide +kernel
theorem dX7_takesE_203 : decode cX7_takesE 203 = .ok (.invokevirtual 243, 3) := by decide +kernel
theorem dX7_takesE_206 : decode cX7_takesE 206 = .ok (.aload_n 0, 1) := by decide +kernel
theorem dX7_takesE_207 : decode cX7_takesE 207 = .ok (.dup, 1) := by decide +kernel
theorem dX7_takesE_208 : decode cX7_takesE 208 = .ok (.getfield 228, 3) := by decide +kernel
theorem dX7_takesE_211 : decode cX7_takesE 211 = .ok (.iconst 1, 1) := by decide +kernel
theorem dX7_takesE_212 : decode cX7_takesE 212 = .ok (.isub, 1) := by decide +kernel
theorem dX7_takesE_213 : decode cX7_takesE 213 = .ok (.putfield 228, 3) := by decide +kernel
theorem dX7_takesE_216 : decode cX7_takesE 216 = .ok (.iinc 1 (-1), 3) := by decide +kernel
theorem dX7_takesE_219 : decode cX7_takesE 219 = .ok (.aload_n 0, 1) := by decide +kernel
theorem dX7_takesE_220 : decode cX7_takesE 220 = .ok (.bipush 6, 2) := by decide +kernel
theorem dX7_takesE_222 : decode cX7_takesE 222 = .ok (.invokevirtual 243, 3) := by decide +kernel
theorem dX7_takesE_225 : decode cX7_takesE 225 = .ok (.aload_n 0, 1) := by decide +kernel
theorem dX7_takesE_226 : decode cX7_takesE 226 = .ok (.invokevirtual 250, 3) := by decide +kernel
theorem dX7_takesE_229 : decode cX7_takesE 229 = .ok (.istore_n 2, 1) := by decide +kernel
theorem dX7_takesE_230 : decode cX7_takesE 230 = .ok (.aload_n 0, 1) := by decide +kernel
theorem dX7_takesE_231 : decode cX7_takesE 231 = .ok (.invokevirtual 225, 3) := by decide +kernel
theorem dX7_takesE_234 : decode cX7_takesE 234 = .ok (.goto (-206), 3) := by decide +kernel
theorem dX7_takesE_237 : decode cX7_takesE 237 = .ok (.aload_n 0, 1) := by decide +kernel
theorem dX7_takesE_238 : decode cX7_takesE 238 = .ok (.invokevirtual 253, 3) := by decide +kernel
theorem dX7_takesE_241 : decode cX7_takesE 241 = .ok (.istore 4, 2) := by decide +kernel
theorem dX7_takesE_243 : decode cX7_takesE 243 = .ok (.iload 4, 2) := by decide +kernel
theorem dX7_takesE_245 : decode cX7_takesE 245 = .ok (.ifCond .eq 21, 3) := by decide +kernel
theorem dX7_takesE_248 : decode cX7_takesE 248 = .ok (.iload 4, 2) := by decide +kernel
theorem dX7_takesE_250 : decode cX7_takesE 250 = .ok (.invokestatic 231, 3) := by decide +kernel
theorem dX7_takesE_253 : decode cX7_takesE 253 = .ok (.iconst 3, 1) := by decide +kernel
theorem dX7_takesE_254 : decode cX7_takesE 254 = .ok (.if_icmp .ne 14, 3) := by decide +kernel
theorem dX7_takesE_257 : decode cX7_takesE 257 = .ok (.aload_n 0, 1) := by decide +kernel
theorem dX7_takesE_258 : decode cX7_takesE 258 = .ok (.getfield 44, 3) := by decide +kernel
theorem dX7_takesE_261 : decode cX7_takesE 261 = .ok (.iload_n 1, 1) := by decide +kernel
theorem dX7_takesE_262 : decode cX7_takesE 262 = .ok (.baload, 1) := by decide +kernel
theorem dX7_takesE_263 : decode cX7_takesE 263 = .ok (.ifCond .eq 5, 3) := by decide +kernel
theorem dX7_takesE_266 : decode cX7_takesE 266 = .ok (.iconst 0, 1) := by decide +kernel
theorem dX7_takesE_267 : decode cX7_takesE 267 = .ok (.ireturn, 1) := by decide +kernel
theorem dX7_takesE_268 : decode cX7_takesE 268 = .ok (.aload_n 0, 1) := by decide +kernel
theorem dX7_takesE_269 : decode cX7_takesE 269 = .ok (.getfield 44, 3) := by decide +kernel
theorem dX7_takesE_272 : decode cX7_takesE 272 = .ok (.iload_n 1, 1) := by decide +kernel
theorem dX7_takesE_273 : decode cX7_takesE 273 = .ok (.iload 4, 2) := by decide +kernel
theorem dX7_takesE_275 : decode cX7_takesE 275 = .ok (.invokestatic 231, 3) := by decide +kernel
theorem dX7_takesE_278 : decode cX7_takesE 278 = .ok (.iconst 3, 1) := by decide +kernel
theorem dX7_takesE_279 : decode cX7_takesE 279 = .ok (.if_icmp .eq 21, 3) := by decide +kernel
theorem dX7_takesE_282 : decode cX7_takesE 282 = .ok (.iload 4, 2) := by decide +kernel
theorem dX7_takesE_284 : decode cX7_takesE 284 = .ok (.invokestatic 231, 3) := by decide +kernel
theorem dX7_takesE_287 : decode cX7_takesE 287 = .ok (.iconst 3, 1) := by decide +kernel
theorem dX7_takesE_288 : decode cX7_takesE 288 = .ok (.if_icmp .le 16, 3) := by decide +kernel
theorem dX7_takesE_291 : decode cX7_takesE 291 = .ok (.aload_n 0, 1) := by decide +kernel
theorem dX7_takesE_292 : decode cX7_takesE 292 = .ok (.getfield 44, 3) := by decide +kernel
theorem dX7_takesE_295 : decode cX7_takesE 295 = .ok (.iload_n 1, 1) := by decide +kernel
theorem dX7_takesE_296 : decode cX7_takesE 296 = .ok (.baload, 1) := by decide +kernel
theorem dX7_takesE_297 : decode cX7_takesE 297 = .ok (.ifCond .eq 7, 3) := by decide +kernel
theorem dX7_takesE_300 : decode cX7_takesE 300 = .ok (.iconst 1, 1) := by decide +kernel
theorem dX7_takesE_301 : decode cX7_takesE 301 = .ok (.goto 4, 3) := by decide +kernel
theorem dX7_takesE_304 : decode cX7_takesE 304 = .ok (.iconst 0, 1) := by decide +kernel
theorem dX7_takesE_305 : decode cX7_takesE 305 = .ok (.bastore, 1) := by decide +kernel
theorem dX7_takesE_306 : decode cX7_takesE 306 = .ok (.aload_n 0, 1) := by decide +kernel
theorem dX7_takesE_307 : decode cX7_takesE 307 = .ok (.iload 4, 2) := by decide +kernel
theorem dX7_takesE_309 : decode cX7_takesE 309 = .ok (.invokestatic 231, 3) := by decide +kernel
theorem dX7_takesE_312 : decode cX7_takesE 312 = .ok (.invokevirtual 243, 3) := by decide +kernel
theorem dX7_takesE_315 : decode cX7_takesE 315 = .ok (.aload_n 0, 1) := by decide +kernel
theorem dX7_takesE_316 : decode cX7_takesE 316 = .ok (.getfield 41, 3) := by decide +kernel
theorem dX7_takesE_319 : decode cX7_takesE 319 = .ok (.aload_n 0, 1) := by decide +kernel
theorem dX7_takesE_320 : decode cX7_takesE 320 = .ok (.getfield 228, 3) := by decide +kernel
theorem dX7_takesE_323 : decode cX7_takesE 323 = .ok (.iload 4, 2) := by decide +kernel
theorem dX7_takesE_325 : decode cX7_takesE 325 = .ok (.iastore, 1) := by decide +kernel
theorem dX7_takesE_326 : decode cX7_takesE 326 = .ok (.aload_n 0, 1) := by decide +kernel
theorem dX7_takesE_327 : decode cX7_takesE 327 = .ok (.dup, 1) := by decide +kernel
theorem dX7_takesE_328 : decode cX7_takesE 328 = .ok (.getfield 228, 3) := by decide +kernel
theorem dX7_takesE_331 : decode cX7_takesE 331 = .ok (.iconst 1, 1) := by decide +kernel
theorem dX7_takesE_332 : decode cX7_takesE 332 = .ok (.iadd, 1) := by decide +kernel
theorem dX7_takesE_333 : decode cX7_takesE 333 = .ok (.putfield 228, 3) := by decide +kernel
theorem dX7_takesE_336 : decode cX7_takesE 336 = .ok (.iconst 1, 1) := by decide +kernel
theorem dX7_takesE_337 : decode cX7_takesE 337 = .ok (.istore_n 3, 1) := by decide +kernel
theorem dX7_takesE_338 : decode cX7_takesE 338 = .ok (.aload_n 0, 1) := by decide +kernel
theorem dX7_takesE_339 : decode cX7_takesE 339 = .ok (.invokevirtual 225, 3) := by decide +kernel
theorem dX7_takesE_342 : decode cX7_takesE 342 = .ok (.goto (-314), 3) := by decide +kernel
theorem dX7_takesE_345 : decode cX7_takesE 345 = .ok (.aload_n 0, 1) := by decide +kernel
theorem dX7_takesE_346 : decode cX7_takesE 346 = .ok (.iconst 0, 1) := by decide +kernel
theorem dX7_takesE_347 : decode cX7_takesE 347 = .ok (.invokevirtual 243, 3) := by decide +kernel
theorem dX7_takesE_350 : decode cX7_takesE 350 = .ok (.iload_n 1, 1) := by decide +kernel
theorem dX7_takesE_351 : decode cX7_takesE 351 = .ok (.ifCond .ne 7, 3) := by decide +kernel
theorem dX7_takesE_354 : decode cX7_takesE 354 = .ok (.iconst 1, 1) := by decide +kernel
theorem dX7_takesE_355 : decode cX7_takesE 355 = .ok (.goto 4, 3) := by decide +kernel
theorem dX7_takesE_358 : decode cX7_takesE 358 = .ok (.iconst 0, 1) := by decide +kernel
theorem dX7_takesE_359 : decode cX7_takesE 359 = .ok (.ireturn, 1) := by decide +kernel
theorem dX7_notsOpen_0 : decode cX7_notsOpen 0 = .ok (.iconst 0, 1) := by decide +kernel
theorem dX7_notsOpen_1 : decode cX7_notsOpen 1 = .ok (.istore_n 1, 1) := by decide +kernel
theorem dX7_notsOpen_2 : decode cX7_notsOpen 2 = .ok (.iconst 0, 1) := by decide +kernel
theorem dX7_notsOpen_3 : decode cX7_notsOpen 3 = .ok (.istore_n 2, 1) := by decide +kernel
theorem dX7_notsOpen_4 : decode cX7_notsOpen 4 = .ok (.iload_n 2, 1) := by decide +kernel
theorem dX7_notsOpen_5 : decode cX7_notsOpen 5 = .ok (.aload_n 0, 1) := by decide +kernel
theorem dX7_notsOpen_6 : decode cX7_notsOpen 6 = .ok (.getfield 228, 3) := by decide +kernel
theorem dX7_notsOpen_9 : decode cX7_notsOpen 9 = .ok (.if_icmp .ge 28, 3) := by decide +kernel
theorem dX7_notsOpen_12 : decode cX7_notsOpen 12 = .ok (.iload_n 1, 1) := by decide +kernel
theorem dX7_notsOpen_13 : decode cX7_notsOpen 13 = .ok (.aload_n 0, 1) := by decide +kernel
theorem dX7_notsOpen_14 : decode cX7_notsOpen 14 = .ok (.getfield 41, 3) := by decide +kernel
theorem dX7_notsOpen_17 : decode cX7_notsOpen 17 = .ok (.iload_n 2, 1) := by decide +kernel
theorem dX7_notsOpen_18 : decode cX7_notsOpen 18 = .ok (.iaload, 1) := by decide +kernel
theorem dX7_notsOpen_19 : decode cX7_notsOpen 19 = .ok (.bipush (-10), 2) := by decide +kernel
theorem dX7_notsOpen_21 : decode cX7_notsOpen 21 = .ok (.if_icmp .ne 7, 3) := by decide +kernel
theorem dX7_notsOpen_24 : decode cX7_notsOpen 24 = .ok (.iconst 1, 1) := by decide +kernel
theorem dX7_notsOpen_25 : decode cX7_notsOpen 25 = .ok (.goto 4, 3) := by decide +kernel
theorem dX7_notsOpen_28 : decode cX7_notsOpen 28 = .ok (.iconst 0, 1) := by decide +kernel
theorem dX7_notsOpen_29 : decode cX7_notsOpen 29 = .ok (.iadd, 1) := by decide +kernel
theorem dX7_notsOpen_30 : decode cX7_notsOpen 30 = .ok (.istore_n 1, 1) := by decide +kernel
theorem dX7_notsOpen_31 : decode cX7_notsOpen 31 = .ok (.iinc 2 1, 3) := by decide +kernel
theorem dX7_notsOpen_34 : decode cX7_notsOpen 34 = .ok (.goto (-30), 3) := by decide +kernel
theorem dX7_notsOpen_37 : decode cX7_notsOpen 37 = .ok (.iload_n 1, 1) := by decide +kernel
theorem dX7_notsOpen_38 : decode cX7_notsOpen 38 = .ok (.ireturn, 1) := by decide +kernel
theorem dX7_text_0 : decode cX7_text 0 = .ok (.aload_n 0, 1) := by decide +kernel
theorem dX7_text_1 : decode cX7_text 1 = .ok (.iconst 0, 1) := by decide +kernel
theorem dX7_text_2 : decode cX7_text 2 = .ok (.putfield 201, 3) := by decide +kernel
theorem dX7_text_5 : decode cX7_text 5 = .ok (.aload_n 0, 1) := by decide +kernel
theorem dX7_text_6 : decode cX7_text 6 = .ok (.iconst (-1), 1) := by decide +kernel
theorem dX7_text_7 : decode cX7_text 7 = .ok (.putfield 207, 3) := by decide +kernel
theorem dX7_text_10 : decode cX7_text 10 = .ok (.aload_n 0, 1) := by decide +kernel
theorem dX7_text_11 : decode cX7_text 11 = .ok (.invokevirtual 225, 3) := by decide +kernel
theorem dX7_text_14 : decode cX7_text 14 = .ok (.aload_n 0, 1) := by decide +kernel
theorem dX7_text_15 : decode cX7_text 15 = .ok (.invokevirtual 256, 3) := by decide +kernel
theorem dX7_text_18 : decode cX7_text 18 = .ok (.ifCond .eq 14, 3) := by decide +kernel
theorem dX7_text_21 : decode cX7_text 21 = .ok (.aload_n 0, 1) := by decide +kernel
theorem dX7_text_22 : decode cX7_text 22 = .ok (.invokevirtual 259, 3) := by decide +kernel
theorem dX7_text_25 : decode cX7_text 25 = .ok (.ifCond .eq 7, 3) := by decide +kernel
theorem dX7_text_28 : decode cX7_text 28 = .ok (.iconst 1, 1) := by decide +kernel
theorem dX7_text_29 : decode cX7_text 29 = .ok (.goto 4, 3) := by decide +kernel
theorem dX7_text_32 : decode cX7_text 32 = .ok (.iconst 0, 1) := by decide +kernel
theorem dX7_text_33 : decode cX7_text 33 = .ok (.istore_n 1, 1) := by decide +kernel
theorem dX7_text_34 : decode cX7_text 34 = .ok (.aload_n 0, 1) := by decide +kernel
theorem dX7_text_35 : decode cX7_text 35 = .ok (.iconst 0, 1) := by decide +kernel
theorem dX7_text_36 : decode cX7_text 36 = .ok (.putfield 197, 3) := by decide +kernel
theorem dX7_text_39 : decode cX7_text 39 = .ok (.iload_n 1, 1) := by decide +kernel
theorem dX7_text_40 : decode cX7_text 40 = .ok (.ifCond .ne 11, 3) := by decide +kernel
theorem dX7_text_43 : decode cX7_text 43 = .ok (.bipush (-100), 2) := by decide +kernel
theorem dX7_text_45 : decode cX7_text 45 = .ok (.aload_n 0, 1) := by decide +kernel
theorem dX7_text_46 : decode cX7_text 46 = .ok (.getfield 204, 3) := by decide +kernel
theorem dX7_text_49 : decode cX7_text 49 = .ok (.isub, 1) := by decide +kernel
theorem dX7_text_50 : decode cX7_text 50 = .ok (.ireturn, 1) := by decide +kernel
theorem dX7_text_51 : decode cX7_text 51 = .ok (.aload_n 0, 1) := by decide +kernel
theorem dX7_text_52 : decode cX7_text 52 = .ok (.getfield 9, 3) := by decide +kernel
theorem dX7_text_55 : decode cX7_text 55 = .ok (.bipush 10, 2) := by decide +kernel
theorem dX7_text_57 : decode cX7_text 57 = .ok (.iaload, 1) := by decide +kernel
theorem dX7_text_58 : decode cX7_text 58 = .ok (.bipush 14, 2) := by decide +kernel
theorem dX7_text_60 : decode cX7_text 60 = .ok (.if_icmp .ne 6, 3) := by decide +kernel
theorem dX7_text_63 : decode cX7_text 63 = .ok (.ldc 91, 2) := by decide +kernel
theorem dX7_text_65 : decode cX7_text 65 = .ok (.ireturn, 1) := by decide +kernel
theorem dX7_text_66 : decode cX7_text 66 = .ok (.aload_n 0, 1) := by decide +kernel
theorem dX7_text_67 : decode cX7_text 67 = .ok (.getfield 9, 3) := by decide +kernel
theorem dX7_text_70 : decode cX7_text 70 = .ok (.bipush 10, 2) := by decide +kernel
theorem dX7_text_72 : decode cX7_text 72 = .ok (.iaload, 1) := by decide +kernel
theorem dX7_text_73 : decode cX7_text 73 = .ok (.istore_n 2, 1) := by decide +kernel
theorem dX7_text_74 : decode cX7_text 74 = .ok (.aload_n 0, 1) := by decide +kernel
theorem dX7_text_75 : decode cX7_text 75 = .ok (.getfield 9, 3) := by decide +kernel
theorem dX7_text_78 : decode cX7_text 78 = .ok (.bipush 71, 2) := by decide +kernel
theorem dX7_text_80 : decode cX7_text 80 = .ok (.iconst 2, 1) := by decide +kernel
theorem dX7_text_81 : decode cX7_text 81 = .ok (.iload_n 2, 1) := by decide +kernel
theorem dX7_text_82 : decode cX7_text 82 = .ok (.imul, 1) := by decide +kernel
theorem dX7_text_83 : decode cX7_text 83 = .ok (.iadd, 1) := by decide +kernel
theorem dX7_text_84 : decode cX7_text 84 = .ok (.sipush 1000, 3) := by decide +kernel
theorem dX7_text_87 : decode cX7_text 87 = .ok (.aload_n 0, 1) := by decide +kernel
theorem dX7_text_88 : decode cX7_text 88 = .ok (.getfield 222, 3) := by decide +kernel
theorem dX7_text_91 : decode cX7_text 91 = .ok (.imul, 1) := by decide +kernel
theorem dX7_text_92 : decode cX7_text 92 = .ok (.aload_n 0, 1) := by decide +kernel
theorem dX7_text_93 : decode cX7_text 93 = .ok (.getfield 234, 3) := by decide +kernel
theorem dX7_text_96 : decode cX7_text 96 = .ok (.iadd, 1) := by decide +kernel
theorem dX7_text_97 : decode cX7_text 97 = .ok (.iastore, 1) := by decide +kernel
theorem dX7_text_98 : decode cX7_text 98 = .ok (.aload_n 0, 1) := by decide +kernel
theorem dX7_text_99 : decode cX7_text 99 = .ok (.getfield 9, 3) := by decide +kernel
theorem dX7_text_102 : decode cX7_text 102 = .ok (.bipush 71, 2) := by decide +kernel
theorem dX7_text_104 : decode cX7_text 104 = .ok (.iconst 2, 1) := by decide +kernel
theorem dX7_text_105 : decode cX7_text 105 = .ok (.iload_n 2, 1) := by decide +kernel
theorem dX7_text_106 : decode cX7_text 106 = .ok (.imul, 1) := by decide +kernel
theorem dX7_text_107 : decode cX7_text 107 = .ok (.iadd, 1) := by decide +kernel
theorem dX7_text_108 : decode cX7_text 108 = .ok (.iconst 1, 1) := by decide +kernel
theorem dX7_text_109 : decode cX7_text 109 = .ok (.iadd, 1) := by decide +kernel
theorem dX7_text_110 : decode cX7_text 110 = .ok (.aload_n 0, 1) := by decide +kernel
theorem dX7_text_111 : decode cX7_text 111 = .ok (.getfield 240, 3) := by decide +kernel
theorem dX7_text_114 : decode cX7_text 114 = .ok (.iastore, 1) := by decide +kernel
theorem dX7_text_115 : decode cX7_text 115 = .ok (.iconst 0, 1) := by decide +kernel
theorem dX7_text_116 : decode cX7_text 116 = .ok (.istore_n 3, 1) := by decide +kernel
theorem dX7_text_117 : decode cX7_text 117 = .ok (.iload_n 3, 1) := by decide +kernel
theorem dX7_text_118 : decode cX7_text 118 = .ok (.aload_n 0, 1) := by decide +kernel
theorem dX7_text_119 : decode cX7_text 119 = .ok (.getfield 234, 3) := by decide +kernel
theorem dX7_text_122 : decode cX7_text 122 = .ok (.if_icmp .ge 29, 3) := by decide +kernel
theorem dX7_text_125 : decode cX7_text 125 = .ok (.aload_n 0, 1) := by decide +kernel
theorem dX7_text_126 : decode cX7_text 126 = .ok (.getfield 9, 3) := by decide +kernel
theorem dX7_text_129 : decode cX7_text 129 = .ok (.bipush 99, 2) := by decide +kernel
theorem dX7_text_131 : decode cX7_text 131 = .ok (.bipush 96, 2) := by decide +kernel
theorem dX7_text_133 : decode cX7_text 133 = .ok (.iload_n 2, 1) := by decide +kernel
theorem dX7_text_134 : decode cX7_text 134 = .ok (.imul, 1) := by decide +kernel
theorem dX7_text_135 : decode cX7_text 135 = .ok (.iadd, 1) := by decide +kernel
theorem dX7_text_136 : decode cX7_text 136 = .ok (.iload_n 3, 1) := by decide +kernel
theorem dX7_text_137 : decode cX7_text 137 = .ok (.iadd, 1) := by decide +kernel
theorem dX7_text_138 : decode cX7_text 138 = .ok (.aload_n 0, 1) := by decide +kernel
theorem dX7_text_139 : decode cX7_text 139 = .ok (.getfield 38, 3) := by decide +kernel
theorem dX7_text_142 : decode cX7_text 142 = .ok (.iload_n 3, 1) := by decide +kernel
theorem dX7_text_143 : decode cX7_text 143 = .ok (.iaload, 1) := by decide +kernel
theorem dX7_text_144 : decode cX7_text 144 = .ok (.iastore, 1) := by decide +kernel
theorem dX7_text_145 : decode cX7_text 145 = .ok (.iinc 3 1, 3) := by decide +kernel
theorem dX7_text_148 : decode cX7_text 148 = .ok (.goto (-31), 3) := by decide +kernel
theorem dX7_text_151 : decode cX7_text 151 = .ok (.aload_n 0, 1) := by decide +kernel
theorem dX7_text_152 : decode cX7_text 152 = .ok (.getfield 9, 3) := by decide +kernel
theorem dX7_text_155 : decode cX7_text 155 = .ok (.bipush 10, 2) := by decide +kernel
theorem dX7_text_157 : decode cX7_text 157 = .ok (.dup2, 1) := by decide +kernel
theorem dX7_text_158 : decode cX7_text 158 = .ok (.iaload, 1) := by decide +kernel
theorem dX7_text_159 : decode cX7_text 159 = .ok (.iconst 1, 1) := by decide +kernel
theorem dX7_text_160 : decode cX7_text 160 = .ok (.iadd, 1) := by decide +kernel
theorem dX7_text_161 : decode cX7_text 161 = .ok (.iastore, 1) := by decide +kernel
theorem dX7_text_162 : decode cX7_text 162 = .ok (.iload_n 2, 1) := by decide +kernel
theorem dX7_text_163 : decode cX7_text 163 = .ok (.ireturn, 1) := by decide +kernel
theorem dX7_textTold_0 : decode cX7_textTold 0 = .ok (.iload_n 1, 1) := by decide +kernel
theorem dX7_textTold_1 : decode cX7_textTold 1 = .ok (.iconst 0, 1) := by decide +kernel
theorem dX7_textTold_2 : decode cX7_textTold 2 = .ok (.aload_n 0, 1) := by decide +kernel
theorem dX7_textTold_3 : decode cX7_textTold 3 = .ok (.getfield 9, 3) := by decide +kernel
theorem dX7_textTold_6 : decode cX7_textTold 6 = .ok (.bipush 10, 2) := by decide +kernel
theorem dX7_textTold_8 : decode cX7_textTold 8 = .ok (.iaload, 1) := by decide +kernel
theorem dX7_textTold_9 : decode cX7_textTold 9 = .ok (.iconst 1, 1) := by decide +kernel
theorem dX7_textTold_10 : decode cX7_textTold 10 = .ok (.isub, 1) := by decide +kernel
theorem dX7_textTold_11 : decode cX7_textTold 11 = .ok (.invokestatic 82, 3) := by decide +kernel
theorem dX7_textTold_14 : decode cX7_textTold 14 = .ok (.ifCond .eq 12, 3) := by decide +kernel
theorem dX7_textTold_17 : decode cX7_textTold 17 = .ok (.iload_n 2, 1) := by decide +kernel
theorem dX7_textTold_18 : decode cX7_textTold 18 = .ok (.iconst 0, 1) := by decide +kernel
theorem dX7_textTold_19 : decode cX7_textTold 19 = .ok (.iconst 1, 1) := by decide +kernel
theorem dX7_textTold_20 : decode cX7_textTold 20 = .ok (.invokestatic 82, 3) := by decide +kernel
theorem dX7_textTold_23 : decode cX7_textTold 23 = .ok (.ifCond .ne 6, 3) := by decide +kernel
theorem dX7_textTold_26 : decode cX7_textTold 26 = .ok (.ldc 90, 2) := by decide +kernel
theorem dX7_textTold_28 : decode cX7_textTold 28 = .ok (.ireturn, 1) := by decide +kernel
theorem dX7_textTold_29 : decode cX7_textTold 29 = .ok (.iload_n 2, 1) := by decide +kernel
theorem dX7_textTold_30 : decode cX7_textTold 30 = .ok (.ifCond .ne 21, 3) := by decide +kernel
theorem dX7_textTold_33 : decode cX7_textTold 33 = .ok (.aload_n 0, 1) := by decide +kernel
theorem dX7_textTold_34 : decode cX7_textTold 34 = .ok (.getfield 9, 3) := by decide +kernel
theorem dX7_textTold_37 : decode cX7_textTold 37 = .ok (.bipush 71, 2) := by decide +kernel
theorem dX7_textTold_39 : decode cX7_textTold 39 = .ok (.iconst 2, 1) := by decide +kernel
theorem dX7_textTold_40 : decode cX7_textTold 40 = .ok (.iload_n 1, 1) := by decide +kernel
theorem dX7_textTold_41 : decode cX7_textTold 41 = .ok (.imul, 1) := by decide +kernel
theorem dX7_textTold_42 : decode cX7_textTold 42 = .ok (.iadd, 1) := by decide +kernel
theorem dX7_textTold_43 : decode cX7_textTold 43 = .ok (.iaload, 1) := by decide +kernel
theorem dX7_textTold_44 : decode cX7_textTold 44 = .ok (.sipush 1000, 3) := by decide +kernel
theorem dX7_textTold_47 : decode cX7_textTold 47 = .ok (.idiv, 1) := by decide +kernel
theorem dX7_textTold_48 : decode cX7_textTold 48 = .ok (.goto 16, 3) := by decide +kernel
theorem dX7_textTold_51 : decode cX7_textTold 51 = .ok (.aload_n 0, 1) := by decide +kernel
theorem dX7_textTold_52 : decode cX7_textTold 52 = .ok (.getfield 9, 3) := by decide +kernel
theorem dX7_textTold_55 : decode cX7_textTold 55 = .ok (.bipush 71, 2) := by decide +kernel
theorem dX7_textTold_57 : decode cX7_textTold 57 = .ok (.iconst 2, 1) := by decide +kernel
theorem dX7_textTold_58 : decode cX7_textTold 58 = .ok (.iload_n 1, 1) := by decide +kernel
theorem dX7_textTold_59 : decode cX7_textTold 59 = .ok (.imul, 1) := by decide +kernel
theorem dX7_textTold_60 : decode cX7_textTold 60 = .ok (.iadd, 1) := by decide +kernel
theorem dX7_textTold_61 : decode cX7_textTold 61 = .ok (.iconst 1, 1) := by decide +kernel
theorem dX7_textTold_62 : decode cX7_textTold 62 = .ok (.iadd, 1) := by decide +kernel
theorem dX7_textTold_63 : decode cX7_textTold 63 = .ok (.iaload, 1) := by decide +kernel
theorem dX7_textTold_64 : decode cX7_textTold 64 = .ok (.ireturn, 1) := by decide +kernel
theorem dX7_counts_0 : decode cX7_counts 0 = .ok (.aload_n 0, 1) := by decide +kernel
theorem dX7_counts_1 : decode cX7_counts 1 = .ok (.getfield 9, 3) := by decide +kernel
theorem dX7_counts_4 : decode cX7_counts 4 = .ok (.bipush 10, 2) := by decide +kernel
theorem dX7_counts_6 : decode cX7_counts 6 = .ok (.iaload, 1) := by decide +kernel
theorem dX7_counts_7 : decode cX7_counts 7 = .ok (.iconst 1, 1) := by decide +kernel
theorem dX7_counts_8 : decode cX7_counts 8 = .ok (.isub, 1) := by decide +kernel
theorem dX7_counts_9 : decode cX7_counts 9 = .ok (.istore_n 2, 1) := by decide +kernel
theorem dX7_counts_10 : decode cX7_counts 10 = .ok (.iload_n 2, 1) := by decide +kernel
theorem dX7_counts_11 : decode cX7_counts 11 = .ok (.ifCond .lt 30, 3) := by decide +kernel
theorem dX7_counts_14 : decode cX7_counts 14 = .ok (.aload_n 0, 1) := by decide +kernel
theorem dX7_counts_15 : decode cX7_counts 15 = .ok (.getfield 9, 3) := by decide +kernel
theorem dX7_counts_18 : decode cX7_counts 18 = .ok (.bipush 71, 2) := by decide +kernel
theorem dX7_counts_20 : decode cX7_counts 20 = .ok (.iconst 2, 1) := by decide +kernel
theorem dX7_counts_21 : decode cX7_counts 21 = .ok (.iload_n 2, 1) := by decide +kernel
theorem dX7_counts_22 : decode cX7_counts 22 = .ok (.imul, 1) := by decide +kernel
theorem dX7_counts_23 : decode cX7_counts 23 = .ok (.iadd, 1) := by decide +kernel
theorem dX7_counts_24 : decode cX7_counts 24 = .ok (.iaload, 1) := by decide +kernel
theorem dX7_counts_25 : decode cX7_counts 25 = .ok (.sipush 1000, 3) := by decide +kernel
theorem dX7_counts_28 : decode cX7_counts 28 = .ok (.idiv, 1) := by decide +kernel
theorem dX7_counts_29 : decode cX7_counts 29 = .ok (.iload_n 1, 1) := by decide +kernel
theorem dX7_counts_30 : decode cX7_counts 30 = .ok (.if_icmp .ne 5, 3) := by decide +kernel
theorem dX7_counts_33 : decode cX7_counts 33 = .ok (.iload_n 2, 1) := by decide +kernel
theorem dX7_counts_34 : decode cX7_counts 34 = .ok (.ireturn, 1) := by decide +kernel
theorem dX7_counts_35 : decode cX7_counts 35 = .ok (.iinc 2 (-1), 3) := by decide +kernel
theorem dX7_counts_38 : decode cX7_counts 38 = .ok (.goto (-28), 3) := by decide +kernel
theorem dX7_counts_41 : decode cX7_counts 41 = .ok (.iconst (-1), 1) := by decide +kernel
theorem dX7_counts_42 : decode cX7_counts 42 = .ok (.ireturn, 1) := by decide +kernel
theorem dX7_why_0 : decode cX7_why 0 = .ok (.iload_n 1, 1) := by decide +kernel
theorem dX7_why_1 : decode cX7_why 1 = .ok (.iconst 0, 1) := by decide +kernel
theorem dX7_why_2 : decode cX7_why 2 = .ok (.iconst 2, 1) := by decide +kernel
theorem dX7_why_3 : decode cX7_why 3 = .ok (.invokestatic 82, 3) := by decide +kernel
theorem dX7_why_6 : decode cX7_why 6 = .ok (.ifCond .ne 6, 3) := by decide +kernel
theorem dX7_why_9 : decode cX7_why 9 = .ok (.ldc 90, 2) := by decide +kernel
theorem dX7_why_11 : decode cX7_why 11 = .ok (.ireturn, 1) := by decide +kernel
theorem dX7_why_12 : decode cX7_why 12 = .ok (.aload_n 0, 1) := by decide +kernel
theorem dX7_why_13 : decode cX7_why 13 = .ok (.iload_n 1, 1) := by decide +kernel
theorem dX7_why_14 : decode cX7_why 14 = .ok (.invokevirtual 120, 3) := by decide +kernel
theorem dX7_why_17 : decode cX7_why 17 = .ok (.istore_n 2, 1) := by decide +kernel
theorem dX7_why_18 : decode cX7_why 18 = .ok (.iload_n 2, 1) := by decide +kernel
theorem dX7_why_19 : decode cX7_why 19 = .ok (.ifCond .ge 8, 3) := by decide +kernel
theorem dX7_why_22 : decode cX7_why 22 = .ok (.ldc 81, 2) := by decide +kernel
theorem dX7_why_24 : decode cX7_why 24 = .ok (.goto 4, 3) := by decide +kernel
theorem dX7_why_27 : decode cX7_why 27 = .ok (.iload_n 2, 1) := by decide +kernel
theorem dX7_why_28 : decode cX7_why 28 = .ok (.ireturn, 1) := by decide +kernel
theorem dX7_two_0 : decode cX7_two 0 = .ok (.iload_n 0, 1) := by decide +kernel
theorem dX7_two_1 : decode cX7_two 1 = .ok (.tableswitch 120 (-8) (-1) #[116, 112, 108, 97, 86, 75, 61, 47], 47) := by decide +kernel
theorem dX7_two_48 : decode cX7_two 48 = .ok (.iload_n 1, 1) := by decide +kernel
theorem dX7_two_49 : decode cX7_two 49 = .ok (.ifCond .ne 7, 3) := by decide +kernel
theorem dX7_two_52 : decode cX7_two 52 = .ok (.iload_n 2, 1) := by decide +kernel
theorem dX7_two_53 : decode cX7_two 53 = .ok (.ifCond .eq 7, 3) := by decide +kernel
theorem dX7_two_56 : decode cX7_two 56 = .ok (.iconst 1, 1) := by decide +kernel
theorem dX7_two_57 : decode cX7_two 57 = .ok (.goto 4, 3) := by decide +kernel
theorem dX7_two_60 : decode cX7_two 60 = .ok (.iconst 0, 1) := by decide +kernel
theorem dX7_two_61 : decode cX7_two 61 = .ok (.ireturn, 1) := by decide +kernel
theorem dX7_two_62 : decode cX7_two 62 = .ok (.iload_n 1, 1) := by decide +kernel
theorem dX7_two_63 : decode cX7_two 63 = .ok (.ifCond .eq 11, 3) := by decide +kernel
theorem dX7_two_66 : decode cX7_two 66 = .ok (.iload_n 2, 1) := by decide +kernel
theorem dX7_two_67 : decode cX7_two 67 = .ok (.ifCond .eq 7, 3) := by decide +kernel
theorem dX7_two_70 : decode cX7_two 70 = .ok (.iconst 1, 1) := by decide +kernel
theorem dX7_two_71 : decode cX7_two 71 = .ok (.goto 4, 3) := by decide +kernel
theorem dX7_two_74 : decode cX7_two 74 = .ok (.iconst 0, 1) := by decide +kernel
theorem dX7_two_75 : decode cX7_two 75 = .ok (.ireturn, 1) := by decide +kernel
theorem dX7_two_76 : decode cX7_two 76 = .ok (.iload_n 1, 1) := by decide +kernel
theorem dX7_two_77 : decode cX7_two 77 = .ok (.iload_n 2, 1) := by decide +kernel
theorem dX7_two_78 : decode cX7_two 78 = .ok (.if_icmp .ge 7, 3) := by decide +kernel
theorem dX7_two_81 : decode cX7_two 81 = .ok (.iconst 1, 1) := by decide +kernel
theorem dX7_two_82 : decode cX7_two 82 = .ok (.goto 4, 3) := by decide +kernel
theorem dX7_two_85 : decode cX7_two 85 = .ok (.iconst 0, 1) := by decide +kernel
theorem dX7_two_86 : decode cX7_two 86 = .ok (.ireturn, 1) := by decide +kernel
theorem dX7_two_87 : decode cX7_two 87 = .ok (.iload_n 1, 1) := by decide +kernel
theorem dX7_two_88 : decode cX7_two 88 = .ok (.iload_n 2, 1) := by decide +kernel
theorem dX7_two_89 : decode cX7_two 89 = .ok (.if_icmp .ne 7, 3) := by decide +kernel
theorem dX7_two_92 : decode cX7_two 92 = .ok (.iconst 1, 1) := by decide +kernel
theorem dX7_two_93 : decode cX7_two 93 = .ok (.goto 4, 3) := by decide +kernel
theorem dX7_two_96 : decode cX7_two 96 = .ok (.iconst 0, 1) := by decide +kernel
theorem dX7_two_97 : decode cX7_two 97 = .ok (.ireturn, 1) := by decide +kernel
theorem dX7_two_98 : decode cX7_two 98 = .ok (.iload_n 1, 1) := by decide +kernel
theorem dX7_two_99 : decode cX7_two 99 = .ok (.iload_n 2, 1) := by decide +kernel
theorem dX7_two_100 : decode cX7_two 100 = .ok (.if_icmp .le 7, 3) := by decide +kernel
theorem dX7_two_103 : decode cX7_two 103 = .ok (.iconst 1, 1) := by decide +kernel
theorem dX7_two_104 : decode cX7_two 104 = .ok (.goto 4, 3) := by decide +kernel
theorem dX7_two_107 : decode cX7_two 107 = .ok (.iconst 0, 1) := by decide +kernel
theorem dX7_two_108 : decode cX7_two 108 = .ok (.ireturn, 1) := by decide +kernel
theorem dX7_two_109 : decode cX7_two 109 = .ok (.iload_n 1, 1) := by decide +kernel
theorem dX7_two_110 : decode cX7_two 110 = .ok (.iload_n 2, 1) := by decide +kernel
theorem dX7_two_111 : decode cX7_two 111 = .ok (.iadd, 1) := by decide +kernel
theorem dX7_two_112 : decode cX7_two 112 = .ok (.ireturn, 1) := by decide +kernel
theorem dX7_two_113 : decode cX7_two 113 = .ok (.iload_n 1, 1) := by decide +kernel
theorem dX7_two_114 : decode cX7_two 114 = .ok (.iload_n 2, 1) := by decide +kernel
theorem dX7_two_115 : decode cX7_two 115 = .ok (.isub, 1) := by decide +kernel
theorem dX7_two_116 : decode cX7_two 116 = .ok (.ireturn, 1) := by decide +kernel
theorem dX7_two_117 : decode cX7_two 117 = .ok (.iload_n 1, 1) := by decide +kernel
theorem dX7_two_118 : decode cX7_two 118 = .ok (.iload_n 2, 1) := by decide +kernel
theorem dX7_two_119 : decode cX7_two 119 = .ok (.imul, 1) := by decide +kernel
theorem dX7_two_120 : decode cX7_two 120 = .ok (.ireturn, 1) := by decide +kernel
theorem dX7_two_121 : decode cX7_two 121 = .ok (.iload_n 2, 1) := by decide +kernel
theorem dX7_two_122 : decode cX7_two 122 = .ok (.ifCond .ne 7, 3) := by decide +kernel
theorem dX7_two_125 : decode cX7_two 125 = .ok (.iconst 0, 1) := by decide +kernel
theorem dX7_two_126 : decode cX7_two 126 = .ok (.goto 6, 3) := by decide +kernel
theorem dX7_two_129 : decode cX7_two 129 = .ok (.iload_n 1, 1) := by decide +kernel
theorem dX7_two_130 : decode cX7_two 130 = .ok (.iload_n 2, 1) := by decide +kernel
theorem dX7_two_131 : decode cX7_two 131 = .ok (.idiv, 1) := by decide +kernel
theorem dX7_two_132 : decode cX7_two 132 = .ok (.ireturn, 1) := by decide +kernel
theorem dX7_worksOut_0 : decode cX7_worksOut 0 = .ok (.iconst 0, 1) := by decide +kernel
theorem dX7_worksOut_1 : decode cX7_worksOut 1 = .ok (.istore_n 2, 1) := by decide +kernel
theorem dX7_worksOut_2 : decode cX7_worksOut 2 = .ok (.aload_n 0, 1) := by decide +kernel
theorem dX7_worksOut_3 : decode cX7_worksOut 3 = .ok (.getfield 9, 3) := by decide +kernel
theorem dX7_worksOut_6 : decode cX7_worksOut 6 = .ok (.bipush 71, 2) := by decide +kernel
theorem dX7_worksOut_8 : decode cX7_worksOut 8 = .ok (.iconst 2, 1) := by decide +kernel
theorem dX7_worksOut_9 : decode cX7_worksOut 9 = .ok (.iload_n 1, 1) := by decide +kernel
theorem dX7_worksOut_10 : decode cX7_worksOut 10 = .ok (.imul, 1) := by decide +kernel
theorem dX7_worksOut_11 : decode cX7_worksOut 11 = .ok (.iadd, 1) := by decide +kernel
theorem dX7_worksOut_12 : decode cX7_worksOut 12 = .ok (.iaload, 1) := by decide +kernel
theorem dX7_worksOut_13 : decode cX7_worksOut 13 = .ok (.sipush 1000, 3) := by decide +kernel
theorem dX7_worksOut_16 : decode cX7_worksOut 16 = .ok (.irem, 1) := by decide +kernel
theorem dX7_worksOut_17 : decode cX7_worksOut 17 = .ok (.istore_n 3, 1) := by decide +kernel
theorem dX7_worksOut_18 : decode cX7_worksOut 18 = .ok (.iconst 0, 1) := by decide +kernel
theorem dX7_worksOut_19 : decode cX7_worksOut 19 = .ok (.istore 4, 2) := by decide +kernel
theorem dX7_worksOut_21 : decode cX7_worksOut 21 = .ok (.iload 4, 2) := by decide +kernel
theorem dX7_worksOut_23 : decode cX7_worksOut 23 = .ok (.iload_n 3, 1) := by decide +kernel
theorem dX7_worksOut_24 : decode cX7_worksOut 24 = .ok (.if_icmp .ge 131, 3) := by decide +kernel
theorem dX7_worksOut_27 : decode cX7_worksOut 27 = .ok (.aload_n 0, 1) := by decide +kernel
theorem dX7_worksOut_28 : decode cX7_worksOut 28 = .ok (.getfield 9, 3) := by decide +kernel
theorem dX7_worksOut_31 : decode cX7_worksOut 31 = .ok (.bipush 99, 2) := by decide +kernel
theorem dX7_worksOut_33 : decode cX7_worksOut 33 = .ok (.bipush 96, 2) := by decide +kernel
theorem dX7_worksOut_35 : decode cX7_worksOut 35 = .ok (.iload_n 1, 1) := by decide +kernel
theorem dX7_worksOut_36 : decode cX7_worksOut 36 = .ok (.imul, 1) := by decide +kernel
theorem dX7_worksOut_37 : decode cX7_worksOut 37 = .ok (.iadd, 1) := by decide +kernel
theorem dX7_worksOut_38 : decode cX7_worksOut 38 = .ok (.iload 4, 2) := by decide +kernel
theorem dX7_worksOut_40 : decode cX7_worksOut 40 = .ok (.iadd, 1) := by decide +kernel
theorem dX7_worksOut_41 : decode cX7_worksOut 41 = .ok (.iaload, 1) := by decide +kernel
theorem dX7_worksOut_42 : decode cX7_worksOut 42 = .ok (.istore 5, 2) := by decide +kernel
theorem dX7_worksOut_44 : decode cX7_worksOut 44 = .ok (.iload 5, 2) := by decide +kernel
theorem dX7_worksOut_46 : decode cX7_worksOut 46 = .ok (.ifCond .lt 39, 3) := by decide +kernel
theorem dX7_worksOut_49 : decode cX7_worksOut 49 = .ok (.aload_n 0, 1) := by decide +kernel
theorem dX7_worksOut_50 : decode cX7_worksOut 50 = .ok (.getfield 48, 3) := by decide +kernel
theorem dX7_worksOut_53 : decode cX7_worksOut 53 = .ok (.iload_n 2, 1) := by decide +kernel
theorem dX7_worksOut_54 : decode cX7_worksOut 54 = .ok (.iload 5, 2) := by decide +kernel
theorem dX7_worksOut_56 : decode cX7_worksOut 56 = .ok (.sipush 10000, 3) := by decide +kernel
theorem dX7_worksOut_59 : decode cX7_worksOut 59 = .ok (.if_icmp .ge 8, 3) := by decide +kernel
theorem dX7_worksOut_62 : decode cX7_worksOut 62 = .ok (.iload 5, 2) := by decide +kernel
theorem dX7_worksOut_64 : decode cX7_worksOut 64 = .ok (.goto 14, 3) := by decide +kernel
theorem dX7_worksOut_67 : decode cX7_worksOut 67 = .ok (.aload_n 0, 1) := by decide +kernel
theorem dX7_worksOut_68 : decode cX7_worksOut 68 = .ok (.getfield 51, 3) := by decide +kernel
theorem dX7_worksOut_71 : decode cX7_worksOut 71 = .ok (.iload 5, 2) := by decide +kernel
theorem dX7_worksOut_73 : decode cX7_worksOut 73 = .ok (.sipush 10000, 3) := by decide +kernel
theorem dX7_worksOut_76 : decode cX7_worksOut 76 = .ok (.isub, 1) := by decide +kernel
theorem dX7_worksOut_77 : decode cX7_worksOut 77 = .ok (.iaload, 1) := by decide +kernel
theorem dX7_worksOut_78 : decode cX7_worksOut 78 = .ok (.iastore, 1) := by decide +kernel
theorem dX7_worksOut_79 : decode cX7_worksOut 79 = .ok (.iinc 2 1, 3) := by decide +kernel
theorem dX7_worksOut_82 : decode cX7_worksOut 82 = .ok (.goto 67, 3) := by decide +kernel
theorem dX7_worksOut_85 : decode cX7_worksOut 85 = .ok (.iload 5, 2) := by decide +kernel
theorem dX7_worksOut_87 : decode cX7_worksOut 87 = .ok (.bipush (-10), 2) := by decide +kernel
theorem dX7_worksOut_89 : decode cX7_worksOut 89 = .ok (.if_icmp .ne 30, 3) := by decide +kernel
theorem dX7_worksOut_92 : decode cX7_worksOut 92 = .ok (.aload_n 0, 1) := by decide +kernel
theorem dX7_worksOut_93 : decode cX7_worksOut 93 = .ok (.getfield 48, 3) := by decide +kernel
theorem dX7_worksOut_96 : decode cX7_worksOut 96 = .ok (.iload_n 2, 1) := by decide +kernel
theorem dX7_worksOut_97 : decode cX7_worksOut 97 = .ok (.iconst 1, 1) := by decide +kernel
theorem dX7_worksOut_98 : decode cX7_worksOut 98 = .ok (.isub, 1) := by decide +kernel
theorem dX7_worksOut_99 : decode cX7_worksOut 99 = .ok (.aload_n 0, 1) := by decide +kernel
theorem dX7_worksOut_100 : decode cX7_worksOut 100 = .ok (.getfield 48, 3) := by decide +kernel
theorem dX7_worksOut_103 : decode cX7_worksOut 103 = .ok (.iload_n 2, 1) := by decide +kernel
theorem dX7_worksOut_104 : decode cX7_worksOut 104 = .ok (.iconst 1, 1) := by decide +kernel
theorem dX7_worksOut_105 : decode cX7_worksOut 105 = .ok (.isub, 1) := by decide +kernel
theorem dX7_worksOut_106 : decode cX7_worksOut 106 = .ok (.iaload, 1) := by decide +kernel
theorem dX7_worksOut_107 : decode cX7_worksOut 107 = .ok (.ifCond .ne 7, 3) := by decide +kernel
theorem dX7_worksOut_110 : decode cX7_worksOut 110 = .ok (.iconst 1, 1) := by decide +kernel
theorem dX7_worksOut_111 : decode cX7_worksOut 111 = .ok (.goto 4, 3) := by decide +kernel
theorem dX7_worksOut_114 : decode cX7_worksOut 114 = .ok (.iconst 0, 1) := by decide +kernel
theorem dX7_worksOut_115 : decode cX7_worksOut 115 = .ok (.iastore, 1) := by decide +kernel
theorem dX7_worksOut_116 : decode cX7_worksOut 116 = .ok (.goto 33, 3) := by decide +kernel
theorem dX7_worksOut_119 : decode cX7_worksOut 119 = .ok (.iinc 2 (-1), 3) := by decide +kernel
theorem dX7_worksOut_122 : decode cX7_worksOut 122 = .ok (.aload_n 0, 1) := by decide +kernel
theorem dX7_worksOut_123 : decode cX7_worksOut 123 = .ok (.getfield 48, 3) := by decide +kernel
theorem dX7_worksOut_126 : decode cX7_worksOut 126 = .ok (.iload_n 2, 1) := by decide +kernel
theorem dX7_worksOut_127 : decode cX7_worksOut 127 = .ok (.iconst 1, 1) := by decide +kernel
theorem dX7_worksOut_128 : decode cX7_worksOut 128 = .ok (.isub, 1) := by decide +kernel
theorem dX7_worksOut_129 : decode cX7_worksOut 129 = .ok (.iload 5, 2) := by decide +kernel
theorem dX7_worksOut_131 : decode cX7_worksOut 131 = .ok (.aload_n 0, 1) := by decide +kernel
theorem dX7_worksOut_132 : decode cX7_worksOut 132 = .ok (.getfield 48, 3) := by decide +kernel
theorem dX7_worksOut_135 : decode cX7_worksOut 135 = .ok (.iload_n 2, 1) := by decide +kernel
theorem dX7_worksOut_136 : decode cX7_worksOut 136 = .ok (.iconst 1, 1) := by decide +kernel
theorem dX7_worksOut_137 : decode cX7_worksOut 137 = .ok (.isub, 1) := by decide +kernel
theorem dX7_worksOut_138 : decode cX7_worksOut 138 = .ok (.iaload, 1) := by decide +kernel
theorem dX7_worksOut_139 : decode cX7_worksOut 139 = .ok (.aload_n 0, 1) := by decide +kernel
theorem dX7_worksOut_140 : decode cX7_worksOut 140 = .ok (.getfield 48, 3) := by decide +kernel
theorem dX7_worksOut_143 : decode cX7_worksOut 143 = .ok (.iload_n 2, 1) := by decide +kernel
theorem dX7_worksOut_144 : decode cX7_worksOut 144 = .ok (.iaload, 1) := by decide +kernel
theorem dX7_worksOut_145 : decode cX7_worksOut 145 = .ok (.invokestatic 262, 3) := by decide +kernel
theorem dX7_worksOut_148 : decode cX7_worksOut 148 = .ok (.iastore, 1) := by decide +kernel
theorem dX7_worksOut_149 : decode cX7_worksOut 149 = .ok (.iinc 4 1, 3) := by decide +kernel
theorem dX7_worksOut_152 : decode cX7_worksOut 152 = .ok (.goto (-131), 3) := by decide +kernel
theorem dX7_worksOut_155 : decode cX7_worksOut 155 = .ok (.aload_n 0, 1) := by decide +kernel
theorem dX7_worksOut_156 : decode cX7_worksOut 156 = .ok (.getfield 48, 3) := by decide +kernel
theorem dX7_worksOut_159 : decode cX7_worksOut 159 = .ok (.iconst 0, 1) := by decide +kernel
theorem dX7_worksOut_160 : decode cX7_worksOut 160 = .ok (.iaload, 1) := by decide +kernel
theorem dX7_worksOut_161 : decode cX7_worksOut 161 = .ok (.ireturn, 1) := by decide +kernel
theorem dX7_isSheet_0 : decode cX7_isSheet 0 = .ok (.iload_n 0, 1) := by decide +kernel
theorem dX7_isSheet_1 : decode cX7_isSheet 1 = .ok (.iconst 0, 1) := by decide +kernel
theorem dX7_isSheet_2 : decode cX7_isSheet 2 = .ok (.iconst 3, 1) := by decide +kernel
theorem dX7_isSheet_3 : decode cX7_isSheet 3 = .ok (.invokestatic 82, 3) := by decide +kernel
theorem dX7_isSheet_6 : decode cX7_isSheet 6 = .ok (.ireturn, 1) := by decide +kernel
theorem dX7_isSlot_0 : decode cX7_isSlot 0 = .ok (.iload_n 0, 1) := by decide +kernel
theorem dX7_isSlot_1 : decode cX7_isSlot 1 = .ok (.iconst 0, 1) := by decide +kernel
theorem dX7_isSlot_2 : decode cX7_isSlot 2 = .ok (.iconst 4, 1) := by decide +kernel
theorem dX7_isSlot_3 : decode cX7_isSlot 3 = .ok (.invokestatic 82, 3) := by decide +kernel
theorem dX7_isSlot_6 : decode cX7_isSlot 6 = .ok (.ireturn, 1) := by decide +kernel
theorem dX7_sheet_0 : decode cX7_sheet 0 = .ok (.iload_n 1, 1) := by decide +kernel
theorem dX7_sheet_1 : decode cX7_sheet 1 = .ok (.invokestatic 189, 3) := by decide +kernel
theorem dX7_sheet_4 : decode cX7_sheet 4 = .ok (.ifCond .eq 22, 3) := by decide +kernel
theorem dX7_sheet_7 : decode cX7_sheet 7 = .ok (.iload_n 2, 1) := by decide +kernel
theorem dX7_sheet_8 : decode cX7_sheet 8 = .ok (.iconst (-1), 1) := by decide +kernel
theorem dX7_sheet_9 : decode cX7_sheet 9 = .ok (.iconst 1, 1) := by decide +kernel
theorem dX7_sheet_10 : decode cX7_sheet 10 = .ok (.invokestatic 82, 3) := by decide +kernel
theorem dX7_sheet_13 : decode cX7_sheet 13 = .ok (.ifCond .eq 13, 3) := by decide +kernel
theorem dX7_sheet_16 : decode cX7_sheet 16 = .ok (.iload_n 2, 1) := by decide +kernel
theorem dX7_sheet_17 : decode cX7_sheet 17 = .ok (.ifCond .lt 12, 3) := by decide +kernel
theorem dX7_sheet_20 : decode cX7_sheet 20 = .ok (.iload_n 3, 1) := by decide +kernel
theorem dX7_sheet_21 : decode cX7_sheet 21 = .ok (.bipush 24, 2) := by decide +kernel
theorem dX7_sheet_23 : decode cX7_sheet 23 = .ok (.if_icmp .le 6, 3) := by decide +kernel
theorem dX7_sheet_26 : decode cX7_sheet 26 = .ok (.ldc 90, 2) := by decide +kernel
theorem dX7_sheet_28 : decode cX7_sheet 28 = .ok (.ireturn, 1) := by decide +kernel
theorem dX7_sheet_29 : decode cX7_sheet 29 = .ok (.iload_n 2, 1) := by decide +kernel
theorem dX7_sheet_30 : decode cX7_sheet 30 = .ok (.ifCond .lt 11, 3) := by decide +kernel
theorem dX7_sheet_33 : decode cX7_sheet 33 = .ok (.iload_n 3, 1) := by decide +kernel
theorem dX7_sheet_34 : decode cX7_sheet 34 = .ok (.ifCond .ge 7, 3) := by decide +kernel
theorem dX7_sheet_37 : decode cX7_sheet 37 = .ok (.ldc_w 265, 3) := by decide +kernel
theorem dX7_sheet_40 : decode cX7_sheet 40 = .ok (.ireturn, 1) := by decide +kernel
theorem dX7_sheet_41 : decode cX7_sheet 41 = .ok (.aload_n 0, 1) := by decide +kernel
theorem dX7_sheet_42 : decode cX7_sheet 42 = .ok (.getfield 54, 3) := by decide +kernel
theorem dX7_sheet_45 : decode cX7_sheet 45 = .ok (.iload_n 1, 1) := by decide +kernel
theorem dX7_sheet_46 : decode cX7_sheet 46 = .ok (.iload_n 2, 1) := by decide +kernel
theorem dX7_sheet_47 : decode cX7_sheet 47 = .ok (.iastore, 1) := by decide +kernel
theorem dX7_sheet_48 : decode cX7_sheet 48 = .ok (.aload_n 0, 1) := by decide +kernel
theorem dX7_sheet_49 : decode cX7_sheet 49 = .ok (.getfield 57, 3) := by decide +kernel
theorem dX7_sheet_52 : decode cX7_sheet 52 = .ok (.iload_n 1, 1) := by decide +kernel
theorem dX7_sheet_53 : decode cX7_sheet 53 = .ok (.iload_n 2, 1) := by decide +kernel
theorem dX7_sheet_54 : decode cX7_sheet 54 = .ok (.ifCond .ge 7, 3) := by decide +kernel
theorem dX7_sheet_57 : decode cX7_sheet 57 = .ok (.iconst 0, 1) := by decide +kernel
theorem dX7_sheet_58 : decode cX7_sheet 58 = .ok (.goto 4, 3) := by decide +kernel
theorem dX7_sheet_61 : decode cX7_sheet 61 = .ok (.iload_n 3, 1) := by decide +kernel
theorem dX7_sheet_62 : decode cX7_sheet 62 = .ok (.iastore, 1) := by decide +kernel
theorem dX7_sheet_63 : decode cX7_sheet 63 = .ok (.iconst 0, 1) := by decide +kernel
theorem dX7_sheet_64 : decode cX7_sheet 64 = .ok (.istore 4, 2) := by decide +kernel
theorem dX7_sheet_66 : decode cX7_sheet 66 = .ok (.iload 4, 2) := by decide +kernel
theorem dX7_sheet_68 : decode cX7_sheet 68 = .ok (.bipush 24, 2) := by decide +kernel
theorem dX7_sheet_70 : decode cX7_sheet 70 = .ok (.if_icmp .ge 22, 3) := by decide +kernel
theorem dX7_sheet_73 : decode cX7_sheet 73 = .ok (.aload_n 0, 1) := by decide +kernel
theorem dX7_sheet_74 : decode cX7_sheet 74 = .ok (.getfield 60, 3) := by decide +kernel
theorem dX7_sheet_77 : decode cX7_sheet 77 = .ok (.bipush 24, 2) := by decide +kernel
theorem dX7_sheet_79 : decode cX7_sheet 79 = .ok (.iload_n 1, 1) := by decide +kernel
theorem dX7_sheet_80 : decode cX7_sheet 80 = .ok (.imul, 1) := by decide +kernel
theorem dX7_sheet_81 : decode cX7_sheet 81 = .ok (.iload 4, 2) := by decide +kernel
theorem dX7_sheet_83 : decode cX7_sheet 83 = .ok (.iadd, 1) := by decide +kernel
theorem dX7_sheet_84 : decode cX7_sheet 84 = .ok (.iconst 0, 1) := by decide +kernel
theorem dX7_sheet_85 : decode cX7_sheet 85 = .ok (.iastore, 1) := by decide +kernel
theorem dX7_sheet_86 : decode cX7_sheet 86 = .ok (.iinc 4 1, 3) := by decide +kernel
theorem dX7_sheet_89 : decode cX7_sheet 89 = .ok (.goto (-23), 3) := by decide +kernel
theorem dX7_sheet_92 : decode cX7_sheet 92 = .ok (.aload_n 0, 1) := by decide +kernel
theorem dX7_sheet_93 : decode cX7_sheet 93 = .ok (.getfield 57, 3) := by decide +kernel
theorem dX7_sheet_96 : decode cX7_sheet 96 = .ok (.iload_n 1, 1) := by decide +kernel
theorem dX7_sheet_97 : decode cX7_sheet 97 = .ok (.iaload, 1) := by decide +kernel
theorem dX7_sheet_98 : decode cX7_sheet 98 = .ok (.ireturn, 1) := by decide +kernel
theorem dX7_mark_0 : decode cX7_mark 0 = .ok (.iload_n 1, 1) := by decide +kernel
theorem dX7_mark_1 : decode cX7_mark 1 = .ok (.invokestatic 189, 3) := by decide +kernel
theorem dX7_mark_4 : decode cX7_mark 4 = .ok (.ifCond .ne 6, 3) := by decide +kernel
theorem dX7_mark_7 : decode cX7_mark 7 = .ok (.ldc 90, 2) := by decide +kernel
theorem dX7_mark_9 : decode cX7_mark 9 = .ok (.ireturn, 1) := by decide +kernel
theorem dX7_mark_10 : decode cX7_mark 10 = .ok (.aload_n 0, 1) := by decide +kernel
theorem dX7_mark_11 : decode cX7_mark 11 = .ok (.getfield 54, 3) := by decide +kernel
theorem dX7_mark_14 : decode cX7_mark 14 = .ok (.iload_n 1, 1) := by decide +kernel
theorem dX7_mark_15 : decode cX7_mark 15 = .ok (.iaload, 1) := by decide +kernel
theorem dX7_mark_16 : decode cX7_mark 16 = .ok (.ifCond .ge 6, 3) := by decide +kernel
theorem dX7_mark_19 : decode cX7_mark 19 = .ok (.ldc 192, 2) := by decide +kernel
theorem dX7_mark_21 : decode cX7_mark 21 = .ok (.ireturn, 1) := by decide +kernel
theorem dX7_mark_22 : decode cX7_mark 22 = .ok (.iload_n 2, 1) := by decide +kernel
theorem dX7_mark_23 : decode cX7_mark 23 = .ok (.iconst 0, 1) := by decide +kernel
theorem dX7_mark_24 : decode cX7_mark 24 = .ok (.aload_n 0, 1) := by decide +kernel
theorem dX7_mark_25 : decode cX7_mark 25 = .ok (.getfield 57, 3) := by decide +kernel
theorem dX7_mark_28 : decode cX7_mark 28 = .ok (.iload_n 1, 1) := by decide +kernel
theorem dX7_mark_29 : decode cX7_mark 29 = .ok (.iaload, 1) := by decide +kernel
theorem dX7_mark_30 : decode cX7_mark 30 = .ok (.iconst 1, 1) := by decide +kernel
theorem dX7_mark_31 : decode cX7_mark 31 = .ok (.isub, 1) := by decide +kernel
theorem dX7_mark_32 : decode cX7_mark 32 = .ok (.invokestatic 82, 3) := by decide +kernel
theorem dX7_mark_35 : decode cX7_mark 35 = .ok (.ifCond .ne 7, 3) := by decide +kernel
theorem dX7_mark_38 : decode cX7_mark 38 = .ok (.ldc_w 266, 3) := by decide +kernel
theorem dX7_mark_41 : decode cX7_mark 41 = .ok (.ireturn, 1) := by decide +kernel
theorem dX7_mark_42 : decode cX7_mark 42 = .ok (.aload_n 0, 1) := by decide +kernel
theorem dX7_mark_43 : decode cX7_mark 43 = .ok (.getfield 54, 3) := by decide +kernel
theorem dX7_mark_46 : decode cX7_mark 46 = .ok (.iload_n 1, 1) := by decide +kernel
theorem dX7_mark_47 : decode cX7_mark 47 = .ok (.iaload, 1) := by decide +kernel
theorem dX7_mark_48 : decode cX7_mark 48 = .ok (.ifCond .ne 12, 3) := by decide +kernel
theorem dX7_mark_51 : decode cX7_mark 51 = .ok (.iload_n 3, 1) := by decide +kernel
theorem dX7_mark_52 : decode cX7_mark 52 = .ok (.ldc 81, 2) := by decide +kernel
theorem dX7_mark_54 : decode cX7_mark 54 = .ok (.if_icmp .ne 6, 3) := by decide +kernel
theorem dX7_mark_57 : decode cX7_mark 57 = .ok (.ldc 153, 2) := by decide +kernel
theorem dX7_mark_59 : decode cX7_mark 59 = .ok (.ireturn, 1) := by decide +kernel
theorem dX7_mark_60 : decode cX7_mark 60 = .ok (.aload_n 0, 1) := by decide +kernel
theorem dX7_mark_61 : decode cX7_mark 61 = .ok (.getfield 54, 3) := by decide +kernel
theorem dX7_mark_64 : decode cX7_mark 64 = .ok (.iload_n 1, 1) := by decide +kernel
theorem dX7_mark_65 : decode cX7_mark 65 = .ok (.iaload, 1) := by decide +kernel
theorem dX7_mark_66 : decode cX7_mark 66 = .ok (.iconst 1, 1) := by decide +kernel
theorem dX7_mark_67 : decode cX7_mark 67 = .ok (.if_icmp .ne 25, 3) := by decide +kernel
theorem dX7_mark_70 : decode cX7_mark 70 = .ok (.iload_n 3, 1) := by decide +kernel
theorem dX7_mark_71 : decode cX7_mark 71 = .ok (.ldc 81, 2) := by decide +kernel
theorem dX7_mark_73 : decode cX7_mark 73 = .ok (.if_icmp .eq 19, 3) := by decide +kernel
theorem dX7_mark_76 : decode cX7_mark 76 = .ok (.iload_n 3, 1) := by decide +kernel
theorem dX7_mark_77 : decode cX7_mark 77 = .ok (.ldc_w 267, 3) := by decide +kernel
theorem dX7_mark_80 : decode cX7_mark 80 = .ok (.ldc_w 268, 3) := by decide +kernel
theorem dX7_mark_83 : decode cX7_mark 83 = .ok (.invokestatic 82, 3) := by decide +kernel
theorem dX7_mark_86 : decode cX7_mark 86 = .ok (.ifCond .ne 6, 3) := by decide +kernel
theorem dX7_mark_89 : decode cX7_mark 89 = .ok (.ldc 90, 2) := by decide +kernel
theorem dX7_mark_91 : decode cX7_mark 91 = .ok (.ireturn, 1) := by decide +kernel
theorem dX7_mark_92 : decode cX7_mark 92 = .ok (.aload_n 0, 1) := by decide +kernel
theorem dX7_mark_93 : decode cX7_mark 93 = .ok (.getfield 60, 3) := by decide +kernel
theorem dX7_mark_96 : decode cX7_mark 96 = .ok (.bipush 24, 2) := by decide +kernel
theorem dX7_mark_98 : decode cX7_mark 98 = .ok (.iload_n 1, 1) := by decide +kernel
theorem dX7_mark_99 : decode cX7_mark 99 = .ok (.imul, 1) := by decide +kernel
theorem dX7_mark_100 : decode cX7_mark 100 = .ok (.iload_n 2, 1) := by decide +kernel
theorem dX7_mark_101 : decode cX7_mark 101 = .ok (.iadd, 1) := by decide +kernel
theorem dX7_mark_102 : decode cX7_mark 102 = .ok (.aload_n 0, 1) := by decide +kernel
theorem dX7_mark_103 : decode cX7_mark 103 = .ok (.getfield 54, 3) := by decide +kernel
theorem dX7_mark_106 : decode cX7_mark 106 = .ok (.iload_n 1, 1) := by decide +kernel
theorem dX7_mark_107 : decode cX7_mark 107 = .ok (.iaload, 1) := by decide +kernel
theorem dX7_mark_108 : decode cX7_mark 108 = .ok (.ifCond .ne 8, 3) := by decide +kernel
theorem dX7_mark_111 : decode cX7_mark 111 = .ok (.iload_n 3, 1) := by decide +kernel
theorem dX7_mark_112 : decode cX7_mark 112 = .ok (.i2s, 1) := by decide +kernel
theorem dX7_mark_113 : decode cX7_mark 113 = .ok (.goto 4, 3) := by decide +kernel
theorem dX7_mark_116 : decode cX7_mark 116 = .ok (.iload_n 3, 1) := by decide +kernel
theorem dX7_mark_117 : decode cX7_mark 117 = .ok (.iastore, 1) := by decide +kernel
theorem dX7_mark_118 : decode cX7_mark 118 = .ok (.iconst 1, 1) := by decide +kernel
theorem dX7_mark_119 : decode cX7_mark 119 = .ok (.ireturn, 1) := by decide +kernel
theorem dX7_pour_0 : decode cX7_pour 0 = .ok (.iload_n 1, 1) := by decide +kernel
theorem dX7_pour_1 : decode cX7_pour 1 = .ok (.invokestatic 189, 3) := by decide +kernel
theorem dX7_pour_4 : decode cX7_pour 4 = .ok (.ifCond .ne 6, 3) := by decide +kernel
theorem dX7_pour_7 : decode cX7_pour 7 = .ok (.ldc 90, 2) := by decide +kernel
theorem dX7_pour_9 : decode cX7_pour 9 = .ok (.ireturn, 1) := by decide +kernel
theorem dX7_pour_10 : decode cX7_pour 10 = .ok (.aload_n 0, 1) := by decide +kernel
theorem dX7_pour_11 : decode cX7_pour 11 = .ok (.getfield 54, 3) := by decide +kernel
theorem dX7_pour_14 : decode cX7_pour 14 = .ok (.iload_n 1, 1) := by decide +kernel
theorem dX7_pour_15 : decode cX7_pour 15 = .ok (.iaload, 1) := by decide +kernel
theorem dX7_pour_16 : decode cX7_pour 16 = .ok (.ifCond .ge 6, 3) := by decide +kernel
theorem dX7_pour_19 : decode cX7_pour 19 = .ok (.ldc 192, 2) := by decide +kernel
theorem dX7_pour_21 : decode cX7_pour 21 = .ok (.ireturn, 1) := by decide +kernel
theorem dX7_pour_22 : decode cX7_pour 22 = .ok (.iconst 0, 1) := by decide +kernel
theorem dX7_pour_23 : decode cX7_pour 23 = .ok (.istore_n 2, 1) := by decide +kernel
theorem dX7_pour_24 : decode cX7_pour 24 = .ok (.iconst 0, 1) := by decide +kernel
theorem dX7_pour_25 : decode cX7_pour 25 = .ok (.istore_n 3, 1) := by decide +kernel
theorem dX7_pour_26 : decode cX7_pour 26 = .ok (.iload_n 3, 1) := by decide +kernel
theorem dX7_pour_27 : decode cX7_pour 27 = .ok (.aload_n 0, 1) := by decide +kernel
theorem dX7_pour_28 : decode cX7_pour 28 = .ok (.getfield 57, 3) := by decide +kernel
theorem dX7_pour_31 : decode cX7_pour 31 = .ok (.iload_n 1, 1) := by decide +kernel
theorem dX7_pour_32 : decode cX7_pour 32 = .ok (.iaload, 1) := by decide +kernel
theorem dX7_pour_33 : decode cX7_pour 33 = .ok (.if_icmp .ge 86, 3) := by decide +kernel
theorem dX7_pour_36 : decode cX7_pour 36 = .ok (.iload_n 3, 1) := by decide +kernel
theorem dX7_pour_37 : decode cX7_pour 37 = .ok (.aload_n 0, 1) := by decide +kernel
theorem dX7_pour_38 : decode cX7_pour 38 = .ok (.getfield 9, 3) := by decide +kernel
theorem dX7_pour_41 : decode cX7_pour 41 = .ok (.iconst 1, 1) := by decide +kernel
theorem dX7_pour_42 : decode cX7_pour 42 = .ok (.iaload, 1) := by decide +kernel
theorem dX7_pour_43 : decode cX7_pour 43 = .ok (.if_icmp .ge 76, 3) := by decide +kernel
theorem dX7_pour_46 : decode cX7_pour 46 = .ok (.aload_n 0, 1) := by decide +kernel
theorem dX7_pour_47 : decode cX7_pour 47 = .ok (.getfield 60, 3) := by decide +kernel
theorem dX7_pour_50 : decode cX7_pour 50 = .ok (.bipush 24, 2) := by decide +kernel
theorem dX7_pour_52 : decode cX7_pour 52 = .ok (.iload_n 1, 1) := by decide +kernel
theorem dX7_pour_53 : decode cX7_pour 53 = .ok (.imul, 1) := by decide +kernel
theorem dX7_pour_54 : decode cX7_pour 54 = .ok (.iload_n 3, 1) := by decide +kernel
theorem dX7_pour_55 : decode cX7_pour 55 = .ok (.iadd, 1) := by decide +kernel
theorem dX7_pour_56 : decode cX7_pour 56 = .ok (.iaload, 1) := by decide +kernel
theorem dX7_pour_57 : decode cX7_pour 57 = .ok (.istore 4, 2) := by decide +kernel
theorem dX7_pour_59 : decode cX7_pour 59 = .ok (.iload 4, 2) := by decide +kernel
theorem dX7_pour_61 : decode cX7_pour 61 = .ok (.ldc 81, 2) := by decide +kernel
theorem dX7_pour_63 : decode cX7_pour 63 = .ok (.if_icmp .ne 12, 3) := by decide +kernel
theorem dX7_pour_66 : decode cX7_pour 66 = .ok (.aload_n 0, 1) := by decide +kernel
theorem dX7_pour_67 : decode cX7_pour 67 = .ok (.iload_n 3, 1) := by decide +kernel
theorem dX7_pour_68 : decode cX7_pour 68 = .ok (.iconst 4, 1) := by decide +kernel
theorem dX7_pour_69 : decode cX7_pour 69 = .ok (.invokevirtual 96, 3) := by decide +kernel
theorem dX7_pour_72 : decode cX7_pour 72 = .ok (.goto 11, 3) := by decide +kernel
theorem dX7_pour_75 : decode cX7_pour 75 = .ok (.iload 4, 2) := by decide +kernel
theorem dX7_pour_77 : decode cX7_pour 77 = .ok (.iconst 0, 1) := by decide +kernel
theorem dX7_pour_78 : decode cX7_pour 78 = .ok (.bipush 9, 2) := by decide +kernel
theorem dX7_pour_80 : decode cX7_pour 80 = .ok (.invokestatic 126, 3) := by decide +kernel
theorem dX7_pour_83 : decode cX7_pour 83 = .ok (.istore 5, 2) := by decide +kernel
theorem dX7_pour_85 : decode cX7_pour 85 = .ok (.iload_n 2, 1) := by decide +kernel
theorem dX7_pour_86 : decode cX7_pour 86 = .ok (.aload_n 0, 1) := by decide +kernel
theorem dX7_pour_87 : decode cX7_pour 87 = .ok (.bipush 11, 2) := by decide +kernel
theorem dX7_pour_89 : decode cX7_pour 89 = .ok (.bipush 6, 2) := by decide +kernel
theorem dX7_pour_91 : decode cX7_pour 91 = .ok (.iload_n 3, 1) := by decide +kernel
theorem dX7_pour_92 : decode cX7_pour 92 = .ok (.imul, 1) := by decide +kernel
theorem dX7_pour_93 : decode cX7_pour 93 = .ok (.iadd, 1) := by decide +kernel
theorem dX7_pour_94 : decode cX7_pour 94 = .ok (.iconst 4, 1) := by decide +kernel
theorem dX7_pour_95 : decode cX7_pour 95 = .ok (.iadd, 1) := by decide +kernel
theorem dX7_pour_96 : decode cX7_pour 96 = .ok (.iload 5, 2) := by decide +kernel
theorem dX7_pour_98 : decode cX7_pour 98 = .ok (.invokevirtual 154, 3) := by decide +kernel
theorem dX7_pour_101 : decode cX7_pour 101 = .ok (.iload 5, 2) := by decide +kernel
theorem dX7_pour_103 : decode cX7_pour 103 = .ok (.if_icmp .ne 7, 3) := by decide +kernel
theorem dX7_pour_106 : decode cX7_pour 106 = .ok (.iconst 0, 1) := by decide +kernel
theorem dX7_pour_107 : decode cX7_pour 107 = .ok (.goto 4, 3) := by decide +kernel
theorem dX7_pour_110 : decode cX7_pour 110 = .ok (.iconst 1, 1) := by decide +kernel
theorem dX7_pour_111 : decode cX7_pour 111 = .ok (.iadd, 1) := by decide +kernel
theorem dX7_pour_112 : decode cX7_pour 112 = .ok (.istore_n 2, 1) := by decide +kernel
theorem dX7_pour_113 : decode cX7_pour 113 = .ok (.iinc 3 1, 3) := by decide +kernel
theorem dX7_pour_116 : decode cX7_pour 116 = .ok (.goto (-90), 3) := by decide +kernel
theorem dX7_pour_119 : decode cX7_pour 119 = .ok (.iload_n 2, 1) := by decide +kernel
theorem dX7_pour_120 : decode cX7_pour 120 = .ok (.ireturn, 1) := by decide +kernel
theorem dX7_reads_0 : decode cX7_reads 0 = .ok (.iload_n 1, 1) := by decide +kernel
theorem dX7_reads_1 : decode cX7_reads 1 = .ok (.invokestatic 189, 3) := by decide +kernel
theorem dX7_reads_4 : decode cX7_reads 4 = .ok (.ifCond .ne 6, 3) := by decide +kernel
theorem dX7_reads_7 : decode cX7_reads 7 = .ok (.ldc 90, 2) := by decide +kernel
theorem dX7_reads_9 : decode cX7_reads 9 = .ok (.ireturn, 1) := by decide +kernel
theorem dX7_reads_10 : decode cX7_reads 10 = .ok (.aload_n 0, 1) := by decide +kernel
theorem dX7_reads_11 : decode cX7_reads 11 = .ok (.getfield 54, 3) := by decide +kernel
theorem dX7_reads_14 : decode cX7_reads 14 = .ok (.iload_n 1, 1) := by decide +kernel
theorem dX7_reads_15 : decode cX7_reads 15 = .ok (.iaload, 1) := by decide +kernel
theorem dX7_reads_16 : decode cX7_reads 16 = .ok (.ifCond .ge 6, 3) := by decide +kernel
theorem dX7_reads_19 : decode cX7_reads 19 = .ok (.ldc 192, 2) := by decide +kernel
theorem dX7_reads_21 : decode cX7_reads 21 = .ok (.ireturn, 1) := by decide +kernel
theorem dX7_reads_22 : decode cX7_reads 22 = .ok (.iconst 0, 1) := by decide +kernel
theorem dX7_reads_23 : decode cX7_reads 23 = .ok (.istore_n 2, 1) := by decide +kernel
theorem dX7_reads_24 : decode cX7_reads 24 = .ok (.iload_n 2, 1) := by decide +kernel
theorem dX7_reads_25 : decode cX7_reads 25 = .ok (.aload_n 0, 1) := by decide +kernel
theorem dX7_reads_26 : decode cX7_reads 26 = .ok (.getfield 57, 3) := by decide +kernel
theorem dX7_reads_29 : decode cX7_reads 29 = .ok (.iload_n 1, 1) := by decide +kernel
theorem dX7_reads_30 : decode cX7_reads 30 = .ok (.iaload, 1) := by decide +kernel
theorem dX7_reads_31 : decode cX7_reads 31 = .ok (.if_icmp .ge 46, 3) := by decide +kernel
theorem dX7_reads_34 : decode cX7_reads 34 = .ok (.aload_n 0, 1) := by decide +kernel
theorem dX7_reads_35 : decode cX7_reads 35 = .ok (.getfield 60, 3) := by decide +kernel
theorem dX7_reads_38 : decode cX7_reads 38 = .ok (.bipush 24, 2) := by decide +kernel
theorem dX7_reads_40 : decode cX7_reads 40 = .ok (.iload_n 1, 1) := by decide +kernel
theorem dX7_reads_41 : decode cX7_reads 41 = .ok (.imul, 1) := by decide +kernel
theorem dX7_reads_42 : decode cX7_reads 42 = .ok (.iload_n 2, 1) := by decide +kernel
theorem dX7_reads_43 : decode cX7_reads 43 = .ok (.iadd, 1) := by decide +kernel
theorem dX7_reads_44 : decode cX7_reads 44 = .ok (.iaload, 1) := by decide +kernel
theorem dX7_reads_45 : decode cX7_reads 45 = .ok (.istore_n 3, 1) := by decide +kernel
theorem dX7_reads_46 : decode cX7_reads 46 = .ok (.iload_n 3, 1) := by decide +kernel
theorem dX7_reads_47 : decode cX7_reads 47 = .ok (.ldc 81, 2) := by decide +kernel
theorem dX7_reads_49 : decode cX7_reads 49 = .ok (.if_icmp .eq 22, 3) := by decide +kernel
theorem dX7_reads_52 : decode cX7_reads 52 = .ok (.aload_n 0, 1) := by decide +kernel
theorem dX7_reads_53 : decode cX7_reads 53 = .ok (.iload_n 2, 1) := by decide +kernel
theorem dX7_reads_54 : decode cX7_reads 54 = .ok (.invokevirtual 139, 3) := by decide +kernel
theorem dX7_reads_57 : decode cX7_reads 57 = .ok (.ifCond .eq 12, 3) := by decide +kernel
theorem dX7_reads_60 : decode cX7_reads 60 = .ok (.iload_n 3, 1) := by decide +kernel
theorem dX7_reads_61 : decode cX7_reads 61 = .ok (.aload_n 0, 1) := by decide +kernel
theorem dX7_reads_62 : decode cX7_reads 62 = .ok (.iload_n 2, 1) := by decide +kernel
theorem dX7_reads_63 : decode cX7_reads 63 = .ok (.invokevirtual 104, 3) := by decide +kernel
theorem dX7_reads_66 : decode cX7_reads 66 = .ok (.if_icmp .eq 5, 3) := by decide +kernel
theorem dX7_reads_69 : decode cX7_reads 69 = .ok (.iload_n 2, 1) := by decide +kernel
theorem dX7_reads_70 : decode cX7_reads 70 = .ok (.ireturn, 1) := by decide +kernel
theorem dX7_reads_71 : decode cX7_reads 71 = .ok (.iinc 2 1, 3) := by decide +kernel
theorem dX7_reads_74 : decode cX7_reads 74 = .ok (.goto (-50), 3) := by decide +kernel
theorem dX7_reads_77 : decode cX7_reads 77 = .ok (.ldc 81, 2) := by decide +kernel
theorem dX7_reads_79 : decode cX7_reads 79 = .ok (.ireturn, 1) := by decide +kernel
theorem dX7_copy_0 : decode cX7_copy 0 = .ok (.iload_n 1, 1) := by decide +kernel
theorem dX7_copy_1 : decode cX7_copy 1 = .ok (.invokestatic 189, 3) := by decide +kernel
theorem dX7_copy_4 : decode cX7_copy 4 = .ok (.ifCond .eq 10, 3) := by decide +kernel
theorem dX7_copy_7 : decode cX7_copy 7 = .ok (.iload_n 3, 1) := by decide +kernel
theorem dX7_copy_8 : decode cX7_copy 8 = .ok (.invokestatic 189, 3) := by decide +kernel
theorem dX7_copy_11 : decode cX7_copy 11 = .ok (.ifCond .ne 6, 3) := by decide +kernel
theorem dX7_copy_14 : decode cX7_copy 14 = .ok (.ldc 90, 2) := by decide +kernel
theorem dX7_copy_16 : decode cX7_copy 16 = .ok (.ireturn, 1) := by decide +kernel
theorem dX7_copy_17 : decode cX7_copy 17 = .ok (.aload_n 0, 1) := by decide +kernel
theorem dX7_copy_18 : decode cX7_copy 18 = .ok (.getfield 54, 3) := by decide +kernel
theorem dX7_copy_21 : decode cX7_copy 21 = .ok (.iload_n 1, 1) := by decide +kernel
theorem dX7_copy_22 : decode cX7_copy 22 = .ok (.iaload, 1) := by decide +kernel
theorem dX7_copy_23 : decode cX7_copy 23 = .ok (.ifCond .lt 12, 3) := by decide +kernel
theorem dX7_copy_26 : decode cX7_copy 26 = .ok (.aload_n 0, 1) := by decide +kernel
theorem dX7_copy_27 : decode cX7_copy 27 = .ok (.getfield 54, 3) := by decide +kernel
theorem dX7_copy_30 : decode cX7_copy 30 = .ok (.iload_n 3, 1) := by decide +kernel
theorem dX7_copy_31 : decode cX7_copy 31 = .ok (.iaload, 1) := by decide +kernel
theorem dX7_copy_32 : decode cX7_copy 32 = .ok (.ifCond .ge 6, 3) := by decide +kernel
theorem dX7_copy_35 : decode cX7_copy 35 = .ok (.ldc 192, 2) := by decide +kernel
theorem dX7_copy_37 : decode cX7_copy 37 = .ok (.ireturn, 1) := by decide +kernel
theorem dX7_copy_38 : decode cX7_copy 38 = .ok (.aload_n 0, 1) := by decide +kernel
theorem dX7_copy_39 : decode cX7_copy 39 = .ok (.getfield 54, 3) := by decide +kernel
theorem dX7_copy_42 : decode cX7_copy 42 = .ok (.iload_n 1, 1) := by decide +kernel
theorem dX7_copy_43 : decode cX7_copy 43 = .ok (.iaload, 1) := by decide +kernel
theorem dX7_copy_44 : decode cX7_copy 44 = .ok (.aload_n 0, 1) := by decide +kernel
theorem dX7_copy_45 : decode cX7_copy 45 = .ok (.getfield 54, 3) := by decide +kernel
theorem dX7_copy_48 : decode cX7_copy 48 = .ok (.iload_n 3, 1) := by decide +kernel
theorem dX7_copy_49 : decode cX7_copy 49 = .ok (.iaload, 1) := by decide +kernel
theorem dX7_copy_50 : decode cX7_copy 50 = .ok (.if_icmp .eq 6, 3) := by decide +kernel
theorem dX7_copy_53 : decode cX7_copy 53 = .ok (.ldc 153, 2) := by decide +kernel
theorem dX7_copy_55 : decode cX7_copy 55 = .ok (.ireturn, 1) := by decide +kernel
theorem dX7_copy_56 : decode cX7_copy 56 = .ok (.iload_n 2, 1) := by decide +kernel
theorem dX7_copy_57 : decode cX7_copy 57 = .ok (.ifCond .lt 40, 3) := by decide +kernel
theorem dX7_copy_60 : decode cX7_copy 60 = .ok (.iload 4, 2) := by decide +kernel
theorem dX7_copy_62 : decode cX7_copy 62 = .ok (.ifCond .lt 35, 3) := by decide +kernel
theorem dX7_copy_65 : decode cX7_copy 65 = .ok (.iload 5, 2) := by decide +kernel
theorem dX7_copy_67 : decode cX7_copy 67 = .ok (.ifCond .lt 30, 3) := by decide +kernel
theorem dX7_copy_70 : decode cX7_copy 70 = .ok (.iload_n 2, 1) := by decide +kernel
theorem dX7_copy_71 : decode cX7_copy 71 = .ok (.aload_n 0, 1) := by decide +kernel
theorem dX7_copy_72 : decode cX7_copy 72 = .ok (.getfield 57, 3) := by decide +kernel
theorem dX7_copy_75 : decode cX7_copy 75 = .ok (.iload_n 1, 1) := by decide +kernel
theorem dX7_copy_76 : decode cX7_copy 76 = .ok (.iaload, 1) := by decide +kernel
theorem dX7_copy_77 : decode cX7_copy 77 = .ok (.iload 5, 2) := by decide +kernel
theorem dX7_copy_79 : decode cX7_copy 79 = .ok (.isub, 1) := by decide +kernel
theorem dX7_copy_80 : decode cX7_copy 80 = .ok (.if_icmp .gt 17, 3) := by decide +kernel
theorem dX7_copy_83 : decode cX7_copy 83 = .ok (.iload 4, 2) := by decide +kernel
theorem dX7_copy_85 : decode cX7_copy 85 = .ok (.aload_n 0, 1) := by decide +kernel
theorem dX7_copy_86 : decode cX7_copy 86 = .ok (.getfield 57, 3) := by decide +kernel
theorem dX7_copy_89 : decode cX7_copy 89 = .ok (.iload_n 3, 1) := by decide +kernel
theorem dX7_copy_90 : decode cX7_copy 90 = .ok (.iaload, 1) := by decide +kernel
theorem dX7_copy_91 : decode cX7_copy 91 = .ok (.iload 5, 2) := by decide +kernel
theorem dX7_copy_93 : decode cX7_copy 93 = .ok (.isub, 1) := by decide +kernel
theorem dX7_copy_94 : decode cX7_copy 94 = .ok (.if_icmp .le 7, 3) := by decide +kernel
theorem dX7_copy_97 : decode cX7_copy 97 = .ok (.ldc_w 266, 3) := by decide +kernel
theorem dX7_copy_100 : decode cX7_copy 100 = .ok (.ireturn, 1) := by decide +kernel
theorem dX7_copy_101 : decode cX7_copy 101 = .ok (.iconst 0, 1) := by decide +kernel
theorem dX7_copy_102 : decode cX7_copy 102 = .ok (.istore 6, 2) := by decide +kernel
theorem dX7_copy_104 : decode cX7_copy 104 = .ok (.iload 6, 2) := by decide +kernel
theorem dX7_copy_106 : decode cX7_copy 106 = .ok (.iload 5, 2) := by decide +kernel
theorem dX7_copy_108 : decode cX7_copy 108 = .ok (.if_icmp .ge 30, 3) := by decide +kernel
theorem dX7_copy_111 : decode cX7_copy 111 = .ok (.aload_n 0, 1) := by decide +kernel
theorem dX7_copy_112 : decode cX7_copy 112 = .ok (.getfield 75, 3) := by decide +kernel
theorem dX7_copy_115 : decode cX7_copy 115 = .ok (.iload 6, 2) := by decide +kernel
theorem dX7_copy_117 : decode cX7_copy 117 = .ok (.aload_n 0, 1) := by decide +kernel
theorem dX7_copy_118 : decode cX7_copy 118 = .ok (.getfield 60, 3) := by decide +kernel
theorem dX7_copy_121 : decode cX7_copy 121 = .ok (.bipush 24, 2) := by decide +kernel
theorem dX7_copy_123 : decode cX7_copy 123 = .ok (.iload_n 1, 1) := by decide +kernel
theorem dX7_copy_124 : decode cX7_copy 124 = .ok (.imul, 1) := by decide +kernel
theorem dX7_copy_125 : decode cX7_copy 125 = .ok (.iload_n 2, 1) := by decide +kernel
theorem dX7_copy_126 : decode cX7_copy 126 = .ok (.iadd, 1) := by decide +kernel
theorem dX7_copy_127 : decode cX7_copy 127 = .ok (.iload 6, 2) := by decide +kernel
theorem dX7_copy_129 : decode cX7_copy 129 = .ok (.iadd, 1) := by decide +kernel
theorem dX7_copy_130 : decode cX7_copy 130 = .ok (.iaload, 1) := by decide +kernel
theorem dX7_copy_131 : decode cX7_copy 131 = .ok (.iastore, 1) := by decide +kernel
theorem dX7_copy_132 : decode cX7_copy 132 = .ok (.iinc 6 1, 3) := by decide +kernel
theorem dX7_copy_135 : decode cX7_copy 135 = .ok (.goto (-31), 3) := by decide +kernel
theorem dX7_copy_138 : decode cX7_copy 138 = .ok (.iconst 0, 1) := by decide +kernel
theorem dX7_copy_139 : decode cX7_copy 139 = .ok (.istore 6, 2) := by decide +kernel
theorem dX7_copy_141 : decode cX7_copy 141 = .ok (.iload 6, 2) := by decide +kernel
theorem dX7_copy_143 : decode cX7_copy 143 = .ok (.iload 5, 2) := by decide +kernel
theorem dX7_copy_145 : decode cX7_copy 145 = .ok (.if_icmp .ge 31, 3) := by decide +kernel
theorem dX7_copy_148 : decode cX7_copy 148 = .ok (.aload_n 0, 1) := by decide +kernel
theorem dX7_copy_149 : decode cX7_copy 149 = .ok (.getfield 60, 3) := by decide +kernel
theorem dX7_copy_152 : decode cX7_copy 152 = .ok (.bipush 24, 2) := by decide +kernel
theorem dX7_copy_154 : decode cX7_copy 154 = .ok (.iload_n 3, 1) := by decide +kernel
theorem dX7_copy_155 : decode cX7_copy 155 = .ok (.imul, 1) := by decide +kernel
theorem dX7_copy_156 : decode cX7_copy 156 = .ok (.iload 4, 2) := by decide +kernel
theorem dX7_copy_158 : decode cX7_copy 158 = .ok (.iadd, 1) := by decide +kernel
theorem dX7_copy_159 : decode cX7_copy 159 = .ok (.iload 6, 2) := by decide +kernel
theorem dX7_copy_161 : decode cX7_copy 161 = .ok (.iadd, 1) := by decide +kernel
theorem dX7_copy_162 : decode cX7_copy 162 = .ok (.aload_n 0, 1) := by decide +kernel
theorem dX7_copy_163 : decode cX7_copy 163 = .ok (.getfield 75, 3) := by decide +kernel
theorem dX7_copy_166 : decode cX7_copy 166 = .ok (.iload 6, 2) := by decide +kernel
theorem dX7_copy_168 : decode cX7_copy 168 = .ok (.iaload, 1) := by decide +kernel
theorem dX7_copy_169 : decode cX7_copy 169 = .ok (.iastore, 1) := by decide +kernel
theorem dX7_copy_170 : decode cX7_copy 170 = .ok (.iinc 6 1, 3) := by decide +kernel
theorem dX7_copy_173 : decode cX7_copy 173 = .ok (.goto (-32), 3) := by decide +kernel
theorem dX7_copy_176 : decode cX7_copy 176 = .ok (.iload 5, 2) := by decide +kernel
theorem dX7_copy_178 : decode cX7_copy 178 = .ok (.ireturn, 1) := by decide +kernel
theorem dX7_lay_0 : decode cX7_lay 0 = .ok (.iload_n 1, 1) := by decide +kernel
theorem dX7_lay_1 : decode cX7_lay 1 = .ok (.invokestatic 269, 3) := by decide +kernel
theorem dX7_lay_4 : decode cX7_lay 4 = .ok (.ifCond .eq 37, 3) := by decide +kernel
theorem dX7_lay_7 : decode cX7_lay 7 = .ok (.iload_n 2, 1) := by decide +kernel
theorem dX7_lay_8 : decode cX7_lay 8 = .ok (.iconst 0, 1) := by decide +kernel
theorem dX7_lay_9 : decode cX7_lay 9 = .ok (.iconst 3, 1) := by decide +kernel
theorem dX7_lay_10 : decode cX7_lay 10 = .ok (.invokestatic 82, 3) := by decide +kernel
theorem dX7_lay_13 : decode cX7_lay 13 = .ok (.ifCond .eq 28, 3) := by decide +kernel
theorem dX7_lay_16 : decode cX7_lay 16 = .ok (.iload_n 2, 1) := by decide +kernel
theorem dX7_lay_17 : decode cX7_lay 17 = .ok (.iconst 1, 1) := by decide +kernel
theorem dX7_lay_18 : decode cX7_lay 18 = .ok (.if_icmp .ne 11, 3) := by decide +kernel
theorem dX7_lay_21 : decode cX7_lay 21 = .ok (.aload_n 0, 1) := by decide +kernel
theorem dX7_lay_22 : decode cX7_lay 22 = .ok (.iload_n 3, 1) := by decide +kernel
theorem dX7_lay_23 : decode cX7_lay 23 = .ok (.invokevirtual 139, 3) := by decide +kernel
theorem dX7_lay_26 : decode cX7_lay 26 = .ok (.ifCond .eq 15, 3) := by decide +kernel
theorem dX7_lay_29 : decode cX7_lay 29 = .ok (.iload_n 2, 1) := by decide +kernel
theorem dX7_lay_30 : decode cX7_lay 30 = .ok (.iconst 2, 1) := by decide +kernel
theorem dX7_lay_31 : decode cX7_lay 31 = .ok (.if_icmp .ne 13, 3) := by decide +kernel
theorem dX7_lay_34 : decode cX7_lay 34 = .ok (.iload_n 3, 1) := by decide +kernel
theorem dX7_lay_35 : decode cX7_lay 35 = .ok (.invokestatic 189, 3) := by decide +kernel
theorem dX7_lay_38 : decode cX7_lay 38 = .ok (.ifCond .ne 6, 3) := by decide +kernel
theorem dX7_lay_41 : decode cX7_lay 41 = .ok (.ldc 90, 2) := by decide +kernel
theorem dX7_lay_43 : decode cX7_lay 43 = .ok (.ireturn, 1) := by decide +kernel
theorem dX7_lay_44 : decode cX7_lay 44 = .ok (.iload_n 2, 1) := by decide +kernel
theorem dX7_lay_45 : decode cX7_lay 45 = .ok (.iconst 2, 1) := by decide +kernel
theorem dX7_lay_46 : decode cX7_lay 46 = .ok (.if_icmp .ne 15, 3) := by decide +kernel
theorem dX7_lay_49 : decode cX7_lay 49 = .ok (.aload_n 0, 1) := by decide +kernel
theorem dX7_lay_50 : decode cX7_lay 50 = .ok (.getfield 54, 3) := by decide +kernel
theorem dX7_lay_53 : decode cX7_lay 53 = .ok (.iload_n 3, 1) := by decide +kernel
theorem dX7_lay_54 : decode cX7_lay 54 = .ok (.iaload, 1) := by decide +kernel
theorem dX7_lay_55 : decode cX7_lay 55 = .ok (.ifCond .ge 6, 3) := by decide +kernel
theorem dX7_lay_58 : decode cX7_lay 58 = .ok (.ldc 192, 2) := by decide +kernel
theorem dX7_lay_60 : decode cX7_lay 60 = .ok (.ireturn, 1) := by decide +kernel
theorem dX7_lay_61 : decode cX7_lay 61 = .ok (.aload_n 0, 1) := by decide +kernel
theorem dX7_lay_62 : decode cX7_lay 62 = .ok (.getfield 63, 3) := by decide +kernel
theorem dX7_lay_65 : decode cX7_lay 65 = .ok (.iload_n 1, 1) := by decide +kernel
theorem dX7_lay_66 : decode cX7_lay 66 = .ok (.iaload, 1) := by decide +kernel
theorem dX7_lay_67 : decode cX7_lay 67 = .ok (.istore 4, 2) := by decide +kernel
theorem dX7_lay_69 : decode cX7_lay 69 = .ok (.aload_n 0, 1) := by decide +kernel
theorem dX7_lay_70 : decode cX7_lay 70 = .ok (.getfield 63, 3) := by decide +kernel
theorem dX7_lay_73 : decode cX7_lay 73 = .ok (.iload_n 1, 1) := by decide +kernel
theorem dX7_lay_74 : decode cX7_lay 74 = .ok (.iload_n 2, 1) := by decide +kernel
theorem dX7_lay_75 : decode cX7_lay 75 = .ok (.iastore, 1) := by decide +kernel
theorem dX7_lay_76 : decode cX7_lay 76 = .ok (.aload_n 0, 1) := by decide +kernel
theorem dX7_lay_77 : decode cX7_lay 77 = .ok (.getfield 66, 3) := by decide +kernel
theorem dX7_lay_80 : decode cX7_lay 80 = .ok (.iload_n 1, 1) := by decide +kernel
theorem dX7_lay_81 : decode cX7_lay 81 = .ok (.iload_n 2, 1) := by decide +kernel
theorem dX7_lay_82 : decode cX7_lay 82 = .ok (.iconst 1, 1) := by decide +kernel
theorem dX7_lay_83 : decode cX7_lay 83 = .ok (.if_icmp .ne 12, 3) := by decide +kernel
theorem dX7_lay_86 : decode cX7_lay 86 = .ok (.aload_n 0, 1) := by decide +kernel
theorem dX7_lay_87 : decode cX7_lay 87 = .ok (.iload_n 3, 1) := by decide +kernel
theorem dX7_lay_88 : decode cX7_lay 88 = .ok (.iconst 0, 1) := by decide +kernel
theorem dX7_lay_89 : decode cX7_lay 89 = .ok (.invokevirtual 96, 3) := by decide +kernel
theorem dX7_lay_92 : decode cX7_lay 92 = .ok (.goto 18, 3) := by decide +kernel
theorem dX7_lay_95 : decode cX7_lay 95 = .ok (.iload_n 2, 1) := by decide +kernel
theorem dX7_lay_96 : decode cX7_lay 96 = .ok (.iconst 2, 1) := by decide +kernel
theorem dX7_lay_97 : decode cX7_lay 97 = .ok (.if_icmp .ne 12, 3) := by decide +kernel
theorem dX7_lay_100 : decode cX7_lay 100 = .ok (.aload_n 0, 1) := by decide +kernel
theorem dX7_lay_101 : decode cX7_lay 101 = .ok (.getfield 57, 3) := by decide +kernel
theorem dX7_lay_104 : decode cX7_lay 104 = .ok (.iload_n 3, 1) := by decide +kernel
theorem dX7_lay_105 : decode cX7_lay 105 = .ok (.iaload, 1) := by decide +kernel
theorem dX7_lay_106 : decode cX7_lay 106 = .ok (.goto 4, 3) := by decide +kernel
theorem dX7_lay_109 : decode cX7_lay 109 = .ok (.iload_n 3, 1) := by decide +kernel
theorem dX7_lay_110 : decode cX7_lay 110 = .ok (.iastore, 1) := by decide +kernel
theorem dX7_lay_111 : decode cX7_lay 111 = .ok (.aload_n 0, 1) := by decide +kernel
theorem dX7_lay_112 : decode cX7_lay 112 = .ok (.getfield 69, 3) := by decide +kernel
theorem dX7_lay_115 : decode cX7_lay 115 = .ok (.iload_n 1, 1) := by decide +kernel
theorem dX7_lay_116 : decode cX7_lay 116 = .ok (.iload_n 2, 1) := by decide +kernel
theorem dX7_lay_117 : decode cX7_lay 117 = .ok (.iconst 1, 1) := by decide +kernel
theorem dX7_lay_118 : decode cX7_lay 118 = .ok (.if_icmp .ne 11, 3) := by decide +kernel
theorem dX7_lay_121 : decode cX7_lay 121 = .ok (.aload_n 0, 1) := by decide +kernel
theorem dX7_lay_122 : decode cX7_lay 122 = .ok (.iload_n 3, 1) := by decide +kernel
theorem dX7_lay_123 : decode cX7_lay 123 = .ok (.invokevirtual 146, 3) := by decide +kernel
theorem dX7_lay_126 : decode cX7_lay 126 = .ok (.goto 4, 3) := by decide +kernel
theorem dX7_lay_129 : decode cX7_lay 129 = .ok (.iconst 0, 1) := by decide +kernel
theorem dX7_lay_130 : decode cX7_lay 130 = .ok (.iastore, 1) := by decide +kernel
theorem dX7_lay_131 : decode cX7_lay 131 = .ok (.iconst 0, 1) := by decide +kernel
theorem dX7_lay_132 : decode cX7_lay 132 = .ok (.istore 5, 2) := by decide +kernel
theorem dX7_lay_134 : decode cX7_lay 134 = .ok (.iload 5, 2) := by decide +kernel
theorem dX7_lay_136 : decode cX7_lay 136 = .ok (.bipush 24, 2) := by decide +kernel
theorem dX7_lay_138 : decode cX7_lay 138 = .ok (.if_icmp .ge 38, 3) := by decide +kernel
theorem dX7_lay_141 : decode cX7_lay 141 = .ok (.iload_n 2, 1) := by decide +kernel
theorem dX7_lay_142 : decode cX7_lay 142 = .ok (.iconst 2, 1) := by decide +kernel
theorem dX7_lay_143 : decode cX7_lay 143 = .ok (.if_icmp .ne 33, 3) := by decide +kernel
theorem dX7_lay_146 : decode cX7_lay 146 = .ok (.aload_n 0, 1) := by decide +kernel
theorem dX7_lay_147 : decode cX7_lay 147 = .ok (.getfield 72, 3) := by decide +kernel
theorem dX7_lay_150 : decode cX7_lay 150 = .ok (.bipush 24, 2) := by decide +kernel
theorem dX7_lay_152 : decode cX7_lay 152 = .ok (.iload_n 1, 1) := by decide +kernel
theorem dX7_lay_153 : decode cX7_lay 153 = .ok (.imul, 1) := by decide +kernel
theorem dX7_lay_154 : decode cX7_lay 154 = .ok (.iload 5, 2) := by decide +kernel
theorem dX7_lay_156 : decode cX7_lay 156 = .ok (.iadd, 1) := by decide +kernel
theorem dX7_lay_157 : decode cX7_lay 157 = .ok (.aload_n 0, 1) := by decide +kernel
theorem dX7_lay_158 : decode cX7_lay 158 = .ok (.getfield 60, 3) := by decide +kernel
theorem dX7_lay_161 : decode cX7_lay 161 = .ok (.bipush 24, 2) := by decide +kernel
theorem dX7_lay_163 : decode cX7_lay 163 = .ok (.iload_n 3, 1) := by decide +kernel
theorem dX7_lay_164 : decode cX7_lay 164 = .ok (.imul, 1) := by decide +kernel
theorem dX7_lay_165 : decode cX7_lay 165 = .ok (.iload 5, 2) := by decide +kernel
theorem dX7_lay_167 : decode cX7_lay 167 = .ok (.iadd, 1) := by decide +kernel
theorem dX7_lay_168 : decode cX7_lay 168 = .ok (.iaload, 1) := by decide +kernel
theorem dX7_lay_169 : decode cX7_lay 169 = .ok (.iastore, 1) := by decide +kernel
theorem dX7_lay_170 : decode cX7_lay 170 = .ok (.iinc 5 1, 3) := by decide +kernel
theorem dX7_lay_173 : decode cX7_lay 173 = .ok (.goto (-39), 3) := by decide +kernel
theorem dX7_lay_176 : decode cX7_lay 176 = .ok (.iload 4, 2) := by decide +kernel
theorem dX7_lay_178 : decode cX7_lay 178 = .ok (.ireturn, 1) := by decide +kernel
theorem dX7_ask_0 : decode cX7_ask 0 = .ok (.iload_n 1, 1) := by decide +kernel
theorem dX7_ask_1 : decode cX7_ask 1 = .ok (.invokestatic 269, 3) := by decide +kernel
theorem dX7_ask_4 : decode cX7_ask 4 = .ok (.ifCond .eq 12, 3) := by decide +kernel
theorem dX7_ask_7 : decode cX7_ask 7 = .ok (.iload_n 2, 1) := by decide +kernel
theorem dX7_ask_8 : decode cX7_ask 8 = .ok (.iconst 0, 1) := by decide +kernel
theorem dX7_ask_9 : decode cX7_ask 9 = .ok (.iconst 5, 1) := by decide +kernel
theorem dX7_ask_10 : decode cX7_ask 10 = .ok (.invokestatic 82, 3) := by decide +kernel
theorem dX7_ask_13 : decode cX7_ask 13 = .ok (.ifCond .ne 6, 3) := by decide +kernel
theorem dX7_ask_16 : decode cX7_ask 16 = .ok (.ldc 90, 2) := by decide +kernel
theorem dX7_ask_18 : decode cX7_ask 18 = .ok (.ireturn, 1) := by decide +kernel
theorem dX7_ask_19 : decode cX7_ask 19 = .ok (.aload_n 0, 1) := by decide +kernel
theorem dX7_ask_20 : decode cX7_ask 20 = .ok (.getfield 63, 3) := by decide +kernel
theorem dX7_ask_23 : decode cX7_ask 23 = .ok (.iload_n 1, 1) := by decide +kernel
theorem dX7_ask_24 : decode cX7_ask 24 = .ok (.iaload, 1) := by decide +kernel
theorem dX7_ask_25 : decode cX7_ask 25 = .ok (.ifCond .ne 6, 3) := by decide +kernel
theorem dX7_ask_28 : decode cX7_ask 28 = .ok (.ldc 192, 2) := by decide +kernel
theorem dX7_ask_30 : decode cX7_ask 30 = .ok (.ireturn, 1) := by decide +kernel
theorem dX7_ask_31 : decode cX7_ask 31 = .ok (.aload_n 0, 1) := by decide +kernel
theorem dX7_ask_32 : decode cX7_ask 32 = .ok (.getfield 63, 3) := by decide +kernel
theorem dX7_ask_35 : decode cX7_ask 35 = .ok (.iload_n 1, 1) := by decide +kernel
theorem dX7_ask_36 : decode cX7_ask 36 = .ok (.iaload, 1) := by decide +kernel
theorem dX7_ask_37 : decode cX7_ask 37 = .ok (.iconst 1, 1) := by decide +kernel
theorem dX7_ask_38 : decode cX7_ask 38 = .ok (.if_icmp .ne 25, 3) := by decide +kernel
theorem dX7_ask_41 : decode cX7_ask 41 = .ok (.aload_n 0, 1) := by decide +kernel
theorem dX7_ask_42 : decode cX7_ask 42 = .ok (.getfield 66, 3) := by decide +kernel
theorem dX7_ask_45 : decode cX7_ask 45 = .ok (.iload_n 1, 1) := by decide +kernel
theorem dX7_ask_46 : decode cX7_ask 46 = .ok (.iaload, 1) := by decide +kernel
theorem dX7_ask_47 : decode cX7_ask 47 = .ok (.iload_n 2, 1) := by decide +kernel
theorem dX7_ask_48 : decode cX7_ask 48 = .ok (.invokestatic 149, 3) := by decide +kernel
theorem dX7_ask_51 : decode cX7_ask 51 = .ok (.ifCond .eq 12, 3) := by decide +kernel
theorem dX7_ask_54 : decode cX7_ask 54 = .ok (.aload_n 0, 1) := by decide +kernel
theorem dX7_ask_55 : decode cX7_ask 55 = .ok (.getfield 69, 3) := by decide +kernel
theorem dX7_ask_58 : decode cX7_ask 58 = .ok (.iload_n 1, 1) := by decide +kernel
theorem dX7_ask_59 : decode cX7_ask 59 = .ok (.iaload, 1) := by decide +kernel
theorem dX7_ask_60 : decode cX7_ask 60 = .ok (.goto 5, 3) := by decide +kernel
theorem dX7_ask_63 : decode cX7_ask 63 = .ok (.ldc 153, 2) := by decide +kernel
theorem dX7_ask_65 : decode cX7_ask 65 = .ok (.ireturn, 1) := by decide +kernel
theorem dX7_item_0 : decode cX7_item 0 = .ok (.iload_n 1, 1) := by decide +kernel
theorem dX7_item_1 : decode cX7_item 1 = .ok (.invokestatic 269, 3) := by decide +kernel
theorem dX7_item_4 : decode cX7_item 4 = .ok (.ifCond .ne 6, 3) := by decide +kernel
theorem dX7_item_7 : decode cX7_item 7 = .ok (.ldc 90, 2) := by decide +kernel
theorem dX7_item_9 : decode cX7_item 9 = .ok (.ireturn, 1) := by decide +kernel
theorem dX7_item_10 : decode cX7_item 10 = .ok (.aload_n 0, 1) := by decide +kernel
theorem dX7_item_11 : decode cX7_item 11 = .ok (.getfield 63, 3) := by decide +kernel
theorem dX7_item_14 : decode cX7_item 14 = .ok (.iload_n 1, 1) := by decide +kernel
theorem dX7_item_15 : decode cX7_item 15 = .ok (.iaload, 1) := by decide +kernel
theorem dX7_item_16 : decode cX7_item 16 = .ok (.ifCond .ne 6, 3) := by decide +kernel
theorem dX7_item_19 : decode cX7_item 19 = .ok (.ldc 192, 2) := by decide +kernel
theorem dX7_item_21 : decode cX7_item 21 = .ok (.ireturn, 1) := by decide +kernel
theorem dX7_item_22 : decode cX7_item 22 = .ok (.aload_n 0, 1) := by decide +kernel
theorem dX7_item_23 : decode cX7_item 23 = .ok (.getfield 63, 3) := by decide +kernel
theorem dX7_item_26 : decode cX7_item 26 = .ok (.iload_n 1, 1) := by decide +kernel
theorem dX7_item_27 : decode cX7_item 27 = .ok (.iaload, 1) := by decide +kernel
theorem dX7_item_28 : decode cX7_item 28 = .ok (.iconst 2, 1) := by decide +kernel
theorem dX7_item_29 : decode cX7_item 29 = .ok (.if_icmp .eq 6, 3) := by decide +kernel
theorem dX7_item_32 : decode cX7_item 32 = .ok (.ldc 153, 2) := by decide +kernel
theorem dX7_item_34 : decode cX7_item 34 = .ok (.ireturn, 1) := by decide +kernel
theorem dX7_item_35 : decode cX7_item 35 = .ok (.iload_n 2, 1) := by decide +kernel
theorem dX7_item_36 : decode cX7_item 36 = .ok (.iconst 0, 1) := by decide +kernel
theorem dX7_item_37 : decode cX7_item 37 = .ok (.aload_n 0, 1) := by decide +kernel
theorem dX7_item_38 : decode cX7_item 38 = .ok (.getfield 66, 3) := by decide +kernel
theorem dX7_item_41 : decode cX7_item 41 = .ok (.iload_n 1, 1) := by decide +kernel
theorem dX7_item_42 : decode cX7_item 42 = .ok (.iaload, 1) := by decide +kernel
theorem dX7_item_43 : decode cX7_item 43 = .ok (.iconst 1, 1) := by decide +kernel
theorem dX7_item_44 : decode cX7_item 44 = .ok (.isub, 1) := by decide +kernel
theorem dX7_item_45 : decode cX7_item 45 = .ok (.invokestatic 82, 3) := by decide +kernel
theorem dX7_item_48 : decode cX7_item 48 = .ok (.ifCond .ne 7, 3) := by decide +kernel
theorem dX7_item_51 : decode cX7_item 51 = .ok (.ldc_w 266, 3) := by decide +kernel
theorem dX7_item_54 : decode cX7_item 54 = .ok (.ireturn, 1) := by decide +kernel
theorem dX7_item_55 : decode cX7_item 55 = .ok (.aload_n 0, 1) := by decide +kernel
theorem dX7_item_56 : decode cX7_item 56 = .ok (.getfield 72, 3) := by decide +kernel
theorem dX7_item_59 : decode cX7_item 59 = .ok (.bipush 24, 2) := by decide +kernel
theorem dX7_item_61 : decode cX7_item 61 = .ok (.iload_n 1, 1) := by decide +kernel
theorem dX7_item_62 : decode cX7_item 62 = .ok (.imul, 1) := by decide +kernel
theorem dX7_item_63 : decode cX7_item 63 = .ok (.iload_n 2, 1) := by decide +kernel
theorem dX7_item_64 : decode cX7_item 64 = .ok (.iadd, 1) := by decide +kernel
theorem dX7_item_65 : decode cX7_item 65 = .ok (.iaload, 1) := by decide +kernel
theorem dX7_item_66 : decode cX7_item 66 = .ok (.istore_n 3, 1) := by decide +kernel
theorem dX7_item_67 : decode cX7_item 67 = .ok (.iload_n 3, 1) := by decide +kernel
theorem dX7_item_68 : decode cX7_item 68 = .ok (.ldc 81, 2) := by decide +kernel
theorem dX7_item_70 : decode cX7_item 70 = .ok (.if_icmp .ne 8, 3) := by decide +kernel
theorem dX7_item_73 : decode cX7_item 73 = .ok (.ldc 153, 2) := by decide +kernel
theorem dX7_item_75 : decode cX7_item 75 = .ok (.goto 4, 3) := by decide +kernel
theorem dX7_item_78 : decode cX7_item 78 = .ok (.iload_n 3, 1) := by decide +kernel
theorem dX7_item_79 : decode cX7_item 79 = .ok (.ireturn, 1) := by decide +kernel
theorem dX7_rest_0 : decode cX7_rest 0 = .ok (.iload_n 1, 1) := by decide +kernel
theorem dX7_rest_1 : decode cX7_rest 1 = .ok (.invokestatic 269, 3) := by decide +kernel
theorem dX7_rest_4 : decode cX7_rest 4 = .ok (.ifCond .ne 6, 3) := by decide +kernel
theorem dX7_rest_7 : decode cX7_rest 7 = .ok (.ldc 90, 2) := by decide +kernel
theorem dX7_rest_9 : decode cX7_rest 9 = .ok (.ireturn, 1) := by decide +kernel
theorem dX7_rest_10 : decode cX7_rest 10 = .ok (.aload_n 0, 1) := by decide +kernel
theorem dX7_rest_11 : decode cX7_rest 11 = .ok (.getfield 63, 3) := by decide +kernel
theorem dX7_rest_14 : decode cX7_rest 14 = .ok (.iload_n 1, 1) := by decide +kernel
theorem dX7_rest_15 : decode cX7_rest 15 = .ok (.iaload, 1) := by decide +kernel
theorem dX7_rest_16 : decode cX7_rest 16 = .ok (.ifCond .ne 6, 3) := by decide +kernel
theorem dX7_rest_19 : decode cX7_rest 19 = .ok (.ldc 192, 2) := by decide +kernel
theorem dX7_rest_21 : decode cX7_rest 21 = .ok (.ireturn, 1) := by decide +kernel
theorem dX7_rest_22 : decode cX7_rest 22 = .ok (.aload_n 0, 1) := by decide +kernel
theorem dX7_rest_23 : decode cX7_rest 23 = .ok (.getfield 63, 3) := by decide +kernel
theorem dX7_rest_26 : decode cX7_rest 26 = .ok (.iload_n 1, 1) := by decide +kernel
theorem dX7_rest_27 : decode cX7_rest 27 = .ok (.iaload, 1) := by decide +kernel
theorem dX7_rest_28 : decode cX7_rest 28 = .ok (.iconst 3, 1) := by decide +kernel
theorem dX7_rest_29 : decode cX7_rest 29 = .ok (.if_icmp .eq 6, 3) := by decide +kernel
theorem dX7_rest_32 : decode cX7_rest 32 = .ok (.ldc 153, 2) := by decide +kernel
theorem dX7_rest_34 : decode cX7_rest 34 = .ok (.ireturn, 1) := by decide +kernel
theorem dX7_rest_35 : decode cX7_rest 35 = .ok (.iload_n 2, 1) := by decide +kernel
theorem dX7_rest_36 : decode cX7_rest 36 = .ok (.ifCond .ne 9, 3) := by decide +kernel
theorem dX7_rest_39 : decode cX7_rest 39 = .ok (.ldc_w 272, 3) := by decide +kernel
theorem dX7_rest_42 : decode cX7_rest 42 = .ok (.goto 20, 3) := by decide +kernel
theorem dX7_rest_45 : decode cX7_rest 45 = .ok (.iload_n 2, 1) := by decide +kernel
theorem dX7_rest_46 : decode cX7_rest 46 = .ok (.iconst (-1), 1) := by decide +kernel
theorem dX7_rest_47 : decode cX7_rest 47 = .ok (.if_icmp .ne 7, 3) := by decide +kernel
theorem dX7_rest_50 : decode cX7_rest 50 = .ok (.iconst 0, 1) := by decide +kernel
theorem dX7_rest_51 : decode cX7_rest 51 = .ok (.goto 11, 3) := by decide +kernel
theorem dX7_rest_54 : decode cX7_rest 54 = .ok (.aload_n 0, 1) := by decide +kernel
theorem dX7_rest_55 : decode cX7_rest 55 = .ok (.getfield 66, 3) := by decide +kernel
theorem dX7_rest_58 : decode cX7_rest 58 = .ok (.iload_n 1, 1) := by decide +kernel
theorem dX7_rest_59 : decode cX7_rest 59 = .ok (.iaload, 1) := by decide +kernel
theorem dX7_rest_60 : decode cX7_rest 60 = .ok (.iload_n 2, 1) := by decide +kernel
theorem dX7_rest_61 : decode cX7_rest 61 = .ok (.irem, 1) := by decide +kernel
theorem dX7_rest_62 : decode cX7_rest 62 = .ok (.ireturn, 1) := by decide +kernel
theorem dX7_tell_0 : decode cX7_tell 0 = .ok (.aload_n 0, 1) := by decide +kernel
theorem dX7_tell_1 : decode cX7_tell 1 = .ok (.getfield 273, 3) := by decide +kernel
theorem dX7_tell_4 : decode cX7_tell 4 = .ok (.bipush 60, 2) := by decide +kernel
theorem dX7_tell_6 : decode cX7_tell 6 = .ok (.if_icmp .ne 6, 3) := by decide +kernel
theorem dX7_tell_9 : decode cX7_tell 9 = .ok (.ldc 91, 2) := by decide +kernel
theorem dX7_tell_11 : decode cX7_tell 11 = .ok (.ireturn, 1) := by decide +kernel
theorem dX7_tell_12 : decode cX7_tell 12 = .ok (.aload_n 0, 1) := by decide +kernel
theorem dX7_tell_13 : decode cX7_tell 13 = .ok (.getfield 78, 3) := by decide +kernel
theorem dX7_tell_16 : decode cX7_tell 16 = .ok (.aload_n 0, 1) := by decide +kernel
theorem dX7_tell_17 : decode cX7_tell 17 = .ok (.getfield 273, 3) := by decide +kernel
theorem dX7_tell_20 : decode cX7_tell 20 = .ok (.iload_n 1, 1) := by decide +kernel
theorem dX7_tell_21 : decode cX7_tell 21 = .ok (.iastore, 1) := by decide +kernel
theorem dX7_tell_22 : decode cX7_tell 22 = .ok (.aload_n 0, 1) := by decide +kernel
theorem dX7_tell_23 : decode cX7_tell 23 = .ok (.dup, 1) := by decide +kernel
theorem dX7_tell_24 : decode cX7_tell 24 = .ok (.getfield 273, 3) := by decide +kernel
theorem dX7_tell_27 : decode cX7_tell 27 = .ok (.iconst 1, 1) := by decide +kernel
theorem dX7_tell_28 : decode cX7_tell 28 = .ok (.iadd, 1) := by decide +kernel
theorem dX7_tell_29 : decode cX7_tell 29 = .ok (.putfield 273, 3) := by decide +kernel
theorem dX7_tell_32 : decode cX7_tell 32 = .ok (.aload_n 0, 1) := by decide +kernel
theorem dX7_tell_33 : decode cX7_tell 33 = .ok (.getfield 273, 3) := by decide +kernel
theorem dX7_tell_36 : decode cX7_tell 36 = .ok (.ireturn, 1) := by decide +kernel
theorem dX7_check_0 : decode cX7_check 0 = .ok (.aload_n 0, 1) := by decide +kernel
theorem dX7_check_1 : decode cX7_check 1 = .ok (.getfield 273, 3) := by decide +kernel
theorem dX7_check_4 : decode cX7_check 4 = .ok (.istore_n 2, 1) := by decide +kernel
theorem dX7_check_5 : decode cX7_check 5 = .ok (.aload_n 0, 1) := by decide +kernel
theorem dX7_check_6 : decode cX7_check 6 = .ok (.iconst 0, 1) := by decide +kernel
theorem dX7_check_7 : decode cX7_check 7 = .ok (.putfield 273, 3) := by decide +kernel
theorem dX7_check_10 : decode cX7_check 10 = .ok (.iload_n 1, 1) := by decide +kernel
theorem dX7_check_11 : decode cX7_check 11 = .ok (.iconst 1, 1) := by decide +kernel
theorem dX7_check_12 : decode cX7_check 12 = .ok (.bipush 30, 2) := by decide +kernel
theorem dX7_check_14 : decode cX7_check 14 = .ok (.invokestatic 82, 3) := by decide +kernel
theorem dX7_check_17 : decode cX7_check 17 = .ok (.ifCond .ne 6, 3) := by decide +kernel
theorem dX7_check_20 : decode cX7_check 20 = .ok (.ldc 90, 2) := by decide +kernel
theorem dX7_check_22 : decode cX7_check 22 = .ok (.ireturn, 1) := by decide +kernel
theorem dX7_check_23 : decode cX7_check 23 = .ok (.aload_n 0, 1) := by decide +kernel
theorem dX7_check_24 : decode cX7_check 24 = .ok (.getfield 276, 3) := by decide +kernel
theorem dX7_check_27 : decode cX7_check 27 = .ok (.ifCond .ne 7, 3) := by decide +kernel
theorem dX7_check_30 : decode cX7_check 30 = .ok (.ldc_w 272, 3) := by decide +kernel
theorem dX7_check_33 : decode cX7_check 33 = .ok (.ireturn, 1) := by decide +kernel
theorem dX7_check_34 : decode cX7_check 34 = .ok (.aload_n 0, 1) := by decide +kernel
theorem dX7_check_35 : decode cX7_check 35 = .ok (.getfield 9, 3) := by decide +kernel
theorem dX7_check_38 : decode cX7_check 38 = .ok (.aload_n 0, 1) := by decide +kernel
theorem dX7_check_39 : decode cX7_check 39 = .ok (.getfield 16, 3) := by decide +kernel
theorem dX7_check_42 : decode cX7_check 42 = .ok (.invokestatic 280, 3) := by decide +kernel
theorem dX7_check_45 : decode cX7_check 45 = .ok (.aload_n 0, 1) := by decide +kernel
theorem dX7_check_46 : decode cX7_check 46 = .ok (.getfield 13, 3) := by decide +kernel
theorem dX7_check_49 : decode cX7_check 49 = .ok (.aload_n 0, 1) := by decide +kernel
theorem dX7_check_50 : decode cX7_check 50 = .ok (.getfield 9, 3) := by decide +kernel
theorem dX7_check_53 : decode cX7_check 53 = .ok (.invokestatic 280, 3) := by decide +kernel
theorem dX7_check_56 : decode cX7_check 56 = .ok (.iconst 2, 1) := by decide +kernel
theorem dX7_check_57 : decode cX7_check 57 = .ok (.sipush 9999, 3) := by decide +kernel
theorem dX7_check_60 : decode cX7_check 60 = .ok (.aload_n 0, 1) := by decide +kernel
theorem dX7_check_61 : decode cX7_check 61 = .ok (.getfield 9, 3) := by decide +kernel
theorem dX7_check_64 : decode cX7_check 64 = .ok (.iconst 2, 1) := by decide +kernel
theorem dX7_check_65 : decode cX7_check 65 = .ok (.iaload, 1) := by decide +kernel
theorem dX7_check_66 : decode cX7_check 66 = .ok (.isub, 1) := by decide +kernel
theorem dX7_check_67 : decode cX7_check 67 = .ok (.iconst 0, 1) := by decide +kernel
theorem dX7_check_68 : decode cX7_check 68 = .ok (.iload_n 1, 1) := by decide +kernel
theorem dX7_check_69 : decode cX7_check 69 = .ok (.invokestatic 126, 3) := by decide +kernel
theorem dX7_check_72 : decode cX7_check 72 = .ok (.imul, 1) := by decide +kernel
theorem dX7_check_73 : decode cX7_check 73 = .ok (.istore_n 3, 1) := by decide +kernel
theorem dX7_check_74 : decode cX7_check 74 = .ok (.iconst 0, 1) := by decide +kernel
theorem dX7_check_75 : decode cX7_check 75 = .ok (.istore 4, 2) := by decide +kernel
theorem dX7_check_77 : decode cX7_check 77 = .ok (.iconst 0, 1) := by decide +kernel
theorem dX7_check_78 : decode cX7_check 78 = .ok (.istore 5, 2) := by decide +kernel
theorem dX7_check_80 : decode cX7_check 80 = .ok (.iconst 2, 1) := by decide +kernel
theorem dX7_check_81 : decode cX7_check 81 = .ok (.iload 5, 2) := by decide +kernel
theorem dX7_check_83 : decode cX7_check 83 = .ok (.imul, 1) := by decide +kernel
theorem dX7_check_84 : decode cX7_check 84 = .ok (.iload_n 3, 1) := by decide +kernel
theorem dX7_check_85 : decode cX7_check 85 = .ok (.if_icmp .ge 96, 3) := by decide +kernel
theorem dX7_check_88 : decode cX7_check 88 = .ok (.iload 4, 2) := by decide +kernel
theorem dX7_check_90 : decode cX7_check 90 = .ok (.iconst 2, 1) := by decide +kernel
theorem dX7_check_91 : decode cX7_check 91 = .ok (.iload 5, 2) := by decide +kernel
theorem dX7_check_93 : decode cX7_check 93 = .ok (.imul, 1) := by decide +kernel
theorem dX7_check_94 : decode cX7_check 94 = .ok (.if_icmp .ne 87, 3) := by decide +kernel
theorem dX7_check_97 : decode cX7_check 97 = .ok (.aload_n 0, 1) := by decide +kernel
theorem dX7_check_98 : decode cX7_check 98 = .ok (.invokevirtual 167, 3) := by decide +kernel
theorem dX7_check_101 : decode cX7_check 101 = .ok (.iload 4, 2) := by decide +kernel
theorem dX7_check_103 : decode cX7_check 103 = .ok (.iload 4, 2) := by decide +kernel
theorem dX7_check_105 : decode cX7_check 105 = .ok (.iload_n 2, 1) := by decide +kernel
theorem dX7_check_106 : decode cX7_check 106 = .ok (.if_icmp .ge 24, 3) := by decide +kernel
theorem dX7_check_109 : decode cX7_check 109 = .ok (.aload_n 0, 1) := by decide +kernel
theorem dX7_check_110 : decode cX7_check 110 = .ok (.getfield 78, 3) := by decide +kernel
theorem dX7_check_113 : decode cX7_check 113 = .ok (.iload 4, 2) := by decide +kernel
theorem dX7_check_115 : decode cX7_check 115 = .ok (.iaload, 1) := by decide +kernel
theorem dX7_check_116 : decode cX7_check 116 = .ok (.aload_n 0, 1) := by decide +kernel
theorem dX7_check_117 : decode cX7_check 117 = .ok (.getfield 9, 3) := by decide +kernel
theorem dX7_check_120 : decode cX7_check 120 = .ok (.bipush 8, 2) := by decide +kernel
theorem dX7_check_122 : decode cX7_check 122 = .ok (.iaload, 1) := by decide +kernel
theorem dX7_check_123 : decode cX7_check 123 = .ok (.if_icmp .ne 7, 3) := by decide +kernel
theorem dX7_check_126 : decode cX7_check 126 = .ok (.iconst 1, 1) := by decide +kernel
theorem dX7_check_127 : decode cX7_check 127 = .ok (.goto 4, 3) := by decide +kernel
theorem dX7_check_130 : decode cX7_check 130 = .ok (.iconst 0, 1) := by decide +kernel
theorem dX7_check_131 : decode cX7_check 131 = .ok (.iadd, 1) := by decide +kernel
theorem dX7_check_132 : decode cX7_check 132 = .ok (.istore 4, 2) := by decide +kernel
theorem dX7_check_134 : decode cX7_check 134 = .ok (.iload 4, 2) := by decide +kernel
theorem dX7_check_136 : decode cX7_check 136 = .ok (.iload 4, 2) := by decide +kernel
theorem dX7_check_138 : decode cX7_check 138 = .ok (.iconst 2, 1) := by decide +kernel
theorem dX7_check_139 : decode cX7_check 139 = .ok (.iload 5, 2) := by decide +kernel
theorem dX7_check_141 : decode cX7_check 141 = .ok (.imul, 1) := by decide +kernel
theorem dX7_check_142 : decode cX7_check 142 = .ok (.iconst 1, 1) := by decide +kernel
theorem dX7_check_143 : decode cX7_check 143 = .ok (.iadd, 1) := by decide +kernel
theorem dX7_check_144 : decode cX7_check 144 = .ok (.if_icmp .ne 27, 3) := by decide +kernel
theorem dX7_check_147 : decode cX7_check 147 = .ok (.iload 4, 2) := by decide +kernel
theorem dX7_check_149 : decode cX7_check 149 = .ok (.iload_n 2, 1) := by decide +kernel
theorem dX7_check_150 : decode cX7_check 150 = .ok (.if_icmp .ge 21, 3) := by decide +kernel
theorem dX7_check_153 : decode cX7_check 153 = .ok (.aload_n 0, 1) := by decide +kernel
theorem dX7_check_154 : decode cX7_check 154 = .ok (.getfield 78, 3) := by decide +kernel
theorem dX7_check_157 : decode cX7_check 157 = .ok (.iload 4, 2) := by decide +kernel
theorem dX7_check_159 : decode cX7_check 159 = .ok (.iaload, 1) := by decide +kernel
theorem dX7_check_160 : decode cX7_check 160 = .ok (.aload_n 0, 1) := by decide +kernel
theorem dX7_check_161 : decode cX7_check 161 = .ok (.invokevirtual 183, 3) := by decide +kernel
theorem dX7_check_164 : decode cX7_check 164 = .ok (.if_icmp .ne 7, 3) := by decide +kernel
theorem dX7_check_167 : decode cX7_check 167 = .ok (.iconst 1, 1) := by decide +kernel
theorem dX7_check_168 : decode cX7_check 168 = .ok (.goto 4, 3) := by decide +kernel
theorem dX7_check_171 : decode cX7_check 171 = .ok (.iconst 0, 1) := by decide +kernel
theorem dX7_check_172 : decode cX7_check 172 = .ok (.iadd, 1) := by decide +kernel
theorem dX7_check_173 : decode cX7_check 173 = .ok (.istore 4, 2) := by decide +kernel
theorem dX7_check_175 : decode cX7_check 175 = .ok (.iinc 5 1, 3) := by decide +kernel
theorem dX7_check_178 : decode cX7_check 178 = .ok (.goto (-98), 3) := by decide +kernel
theorem dX7_check_181 : decode cX7_check 181 = .ok (.aload_n 0, 1) := by decide +kernel
theorem dX7_check_182 : decode cX7_check 182 = .ok (.getfield 16, 3) := by decide +kernel
theorem dX7_check_185 : decode cX7_check 185 = .ok (.aload_n 0, 1) := by decide +kernel
theorem dX7_check_186 : decode cX7_check 186 = .ok (.getfield 9, 3) := by decide +kernel
theorem dX7_check_189 : decode cX7_check 189 = .ok (.invokestatic 280, 3) := by decide +kernel
theorem dX7_check_192 : decode cX7_check 192 = .ok (.iload 4, 2) := by decide +kernel
theorem dX7_check_194 : decode cX7_check 194 = .ok (.iload_n 2, 1) := by decide +kernel
theorem dX7_check_195 : decode cX7_check 195 = .ok (.if_icmp .ne 13, 3) := by decide +kernel
theorem dX7_check_198 : decode cX7_check 198 = .ok (.iload 4, 2) := by decide +kernel
theorem dX7_check_200 : decode cX7_check 200 = .ok (.iload_n 3, 1) := by decide +kernel
theorem dX7_check_201 : decode cX7_check 201 = .ok (.if_icmp .ne 7, 3) := by decide +kernel
theorem dX7_check_204 : decode cX7_check 204 = .ok (.iconst 0, 1) := by decide +kernel
theorem dX7_check_205 : decode cX7_check 205 = .ok (.goto 7, 3) := by decide +kernel
theorem dX7_check_208 : decode cX7_check 208 = .ok (.iconst 1, 1) := by decide +kernel
theorem dX7_check_209 : decode cX7_check 209 = .ok (.iload 4, 2) := by decide +kernel
theorem dX7_check_211 : decode cX7_check 211 = .ok (.iadd, 1) := by decide +kernel
theorem dX7_check_212 : decode cX7_check 212 = .ok (.ireturn, 1) := by decide +kernel
theorem dX7_keep_0 : decode cX7_keep 0 = .ok (.aload_n 0, 1) := by decide +kernel
theorem dX7_keep_1 : decode cX7_keep 1 = .ok (.getfield 9, 3) := by decide +kernel
theorem dX7_keep_4 : decode cX7_keep 4 = .ok (.aload_n 0, 1) := by decide +kernel
theorem dX7_keep_5 : decode cX7_keep 5 = .ok (.getfield 13, 3) := by decide +kernel
theorem dX7_keep_8 : decode cX7_keep 8 = .ok (.invokestatic 280, 3) := by decide +kernel
theorem dX7_keep_11 : decode cX7_keep 11 = .ok (.aload_n 0, 1) := by decide +kernel
theorem dX7_keep_12 : decode cX7_keep 12 = .ok (.iconst 1, 1) := by decide +kernel
theorem dX7_keep_13 : decode cX7_keep 13 = .ok (.putfield 276, 3) := by decide +kernel
theorem dX7_keep_16 : decode cX7_keep 16 = .ok (.aload_n 0, 1) := by decide +kernel
theorem dX7_keep_17 : decode cX7_keep 17 = .ok (.getfield 9, 3) := by decide +kernel
theorem dX7_keep_20 : decode cX7_keep 20 = .ok (.iconst 1, 1) := by decide +kernel
theorem dX7_keep_21 : decode cX7_keep 21 = .ok (.iaload, 1) := by decide +kernel
theorem dX7_keep_22 : decode cX7_keep 22 = .ok (.ireturn, 1) := by decide +kernel
theorem dX7_back_0 : decode cX7_back 0 = .ok (.aload_n 0, 1) := by decide +kernel
theorem dX7_back_1 : decode cX7_back 1 = .ok (.getfield 276, 3) := by decide +kernel
theorem dX7_back_4 : decode cX7_back 4 = .ok (.ifCond .ne 7, 3) := by decide +kernel
theorem dX7_back_7 : decode cX7_back 7 = .ok (.ldc_w 272, 3) := by decide +kernel
theorem dX7_back_10 : decode cX7_back 10 = .ok (.ireturn, 1) := by decide +kernel
theorem dX7_back_11 : decode cX7_back 11 = .ok (.aload_n 0, 1) := by decide +kernel
theorem dX7_back_12 : decode cX7_back 12 = .ok (.getfield 13, 3) := by decide +kernel
theorem dX7_back_15 : decode cX7_back 15 = .ok (.aload_n 0, 1) := by decide +kernel
theorem dX7_back_16 : decode cX7_back 16 = .ok (.getfield 9, 3) := by decide +kernel
theorem dX7_back_19 : decode cX7_back 19 = .ok (.invokestatic 280, 3) := by decide +kernel
theorem dX7_back_22 : decode cX7_back 22 = .ok (.aload_n 0, 1) := by decide +kernel
theorem dX7_back_23 : decode cX7_back 23 = .ok (.getfield 9, 3) := by decide +kernel
theorem dX7_back_26 : decode cX7_back 26 = .ok (.iconst 1, 1) := by decide +kernel
theorem dX7_back_27 : decode cX7_back 27 = .ok (.iaload, 1) := by decide +kernel
theorem dX7_back_28 : decode cX7_back 28 = .ok (.ireturn, 1) := by decide +kernel
theorem dX7_count_0 : decode cX7_count 0 = .ok (.iload_n 1, 1) := by decide +kernel
theorem dX7_count_1 : decode cX7_count 1 = .ok (.tableswitch 98 0 9 #[55, 62, 62, 62, 62, 62, 73, 81, 86, 91], 55) := by decide +kernel
theorem dX7_count_56 : decode cX7_count 56 = .ok (.aload_n 0, 1) := by decide +kernel
theorem dX7_count_57 : decode cX7_count 57 = .ok (.getfield 9, 3) := by decide +kernel
theorem dX7_count_60 : decode cX7_count 60 = .ok (.iconst 1, 1) := by decide +kernel
theorem dX7_count_61 : decode cX7_count 61 = .ok (.iaload, 1) := by decide +kernel
theorem dX7_count_62 : decode cX7_count 62 = .ok (.ireturn, 1) := by decide +kernel
theorem dX7_count_63 : decode cX7_count 63 = .ok (.aload_n 0, 1) := by decide +kernel
theorem dX7_count_64 : decode cX7_count 64 = .ok (.getfield 9, 3) := by decide +kernel
theorem dX7_count_67 : decode cX7_count 67 = .ok (.iconst 2, 1) := by decide +kernel
theorem dX7_count_68 : decode cX7_count 68 = .ok (.iload_n 1, 1) := by decide +kernel
theorem dX7_count_69 : decode cX7_count 69 = .ok (.iadd, 1) := by decide +kernel
theorem dX7_count_70 : decode cX7_count 70 = .ok (.iconst 1, 1) := by decide +kernel
theorem dX7_count_71 : decode cX7_count 71 = .ok (.isub, 1) := by decide +kernel
theorem dX7_count_72 : decode cX7_count 72 = .ok (.iaload, 1) := by decide +kernel
theorem dX7_count_73 : decode cX7_count 73 = .ok (.ireturn, 1) := by decide +kernel
theorem dX7_count_74 : decode cX7_count 74 = .ok (.aload_n 0, 1) := by decide +kernel
theorem dX7_count_75 : decode cX7_count 75 = .ok (.getfield 9, 3) := by decide +kernel
theorem dX7_count_78 : decode cX7_count 78 = .ok (.bipush 10, 2) := by decide +kernel
theorem dX7_count_80 : decode cX7_count 80 = .ok (.iaload, 1) := by decide +kernel
theorem dX7_count_81 : decode cX7_count 81 = .ok (.ireturn, 1) := by decide +kernel
theorem dX7_count_82 : decode cX7_count 82 = .ok (.aload_n 0, 1) := by decide +kernel
theorem dX7_count_83 : decode cX7_count 83 = .ok (.getfield 273, 3) := by decide +kernel
theorem dX7_count_86 : decode cX7_count 86 = .ok (.ireturn, 1) := by decide +kernel
theorem dX7_count_87 : decode cX7_count 87 = .ok (.aload_n 0, 1) := by decide +kernel
theorem dX7_count_88 : decode cX7_count 88 = .ok (.getfield 197, 3) := by decide +kernel
theorem dX7_count_91 : decode cX7_count 91 = .ok (.ireturn, 1) := by decide +kernel
theorem dX7_count_92 : decode cX7_count 92 = .ok (.aload_n 0, 1) := by decide +kernel
theorem dX7_count_93 : decode cX7_count 93 = .ok (.getfield 9, 3) := by decide +kernel
theorem dX7_count_96 : decode cX7_count 96 = .ok (.iconst 0, 1) := by decide +kernel
theorem dX7_count_97 : decode cX7_count 97 = .ok (.iaload, 1) := by decide +kernel
theorem dX7_count_98 : decode cX7_count 98 = .ok (.ireturn, 1) := by decide +kernel
theorem dX7_count_99 : decode cX7_count 99 = .ok (.ldc 90, 2) := by decide +kernel
theorem dX7_count_101 : decode cX7_count 101 = .ok (.ireturn, 1) := by decide +kernel
end
section
theorem dL_law_0 : decode cL_law 0 = .ok (.new 7, 3) := by decide +kernel
theorem dL_law_3 : decode cL_law 3 = .ok (.dup, 1) := by decide +kernel
theorem dL_law_4 : decode cL_law 4 = .ok (.invokespecial 9, 3) := by decide +kernel
theorem dL_law_7 : decode cL_law 7 = .ok (.astore_n 1, 1) := by decide +kernel
theorem dL_law_8 : decode cL_law 8 = .ok (.new 10, 3) := by decide +kernel
theorem dL_law_11 : decode cL_law 11 = .ok (.dup, 1) := by decide +kernel
theorem dL_law_12 : decode cL_law 12 = .ok (.invokespecial 12, 3) := by decide +kernel
theorem dL_law_15 : decode cL_law 15 = .ok (.astore_n 2, 1) := by decide +kernel
theorem dL_law_16 : decode cL_law 16 = .ok (.iconst 0, 1) := by decide +kernel
theorem dL_law_17 : decode cL_law 17 = .ok (.istore_n 3, 1) := by decide +kernel
theorem dL_law_18 : decode cL_law 18 = .ok (.iload_n 3, 1) := by decide +kernel
theorem dL_law_19 : decode cL_law 19 = .ok (.aload_n 0, 1) := by decide +kernel
theorem dL_law_20 : decode cL_law 20 = .ok (.arraylength, 1) := by decide +kernel
theorem dL_law_21 : decode cL_law 21 = .ok (.bipush 6, 2) := by decide +kernel
theorem dL_law_23 : decode cL_law 23 = .ok (.isub, 1) := by decide +kernel
theorem dL_law_24 : decode cL_law 24 = .ok (.if_icmp .gt 1357, 3) := by decide +kernel
theorem dL_law_27 : decode cL_law 27 = .ok (.aload_n 0, 1) := by decide +kernel
theorem dL_law_28 : decode cL_law 28 = .ok (.iload_n 3, 1) := by decide +kernel
theorem dL_law_29 : decode cL_law 29 = .ok (.iaload, 1) := by decide +kernel
theorem dL_law_30 : decode cL_law 30 = .ok (.bipush 63, 2) := by decide +kernel
theorem dL_law_32 : decode cL_law 32 = .ok (.iand, 1) := by decide +kernel
theorem dL_law_33 : decode cL_law 33 = .ok (.tableswitch 1342 0 40 #[179, 232, 265, 298, 331, 374, 407, 420, 443, 466, 489, 512, 525, 538, 571, 604, 617, 660, 683, 706, 739, 752, 775, 818, 841, 854, 887, 910, 953, 996, 1019, 1042, 1105, 1148, 1181, 1214, 1247, 1270, 1293, 1306, 1319], 179) := by decide +kernel
theorem dL_law_212 : decode cL_law 212 = .ok (.aload_n 1, 1) := by decide +kernel
theorem dL_law_213 : decode cL_law 213 = .ok (.aload_n 0, 1) := by decide +kernel
theorem dL_law_214 : decode cL_law 214 = .ok (.iload_n 3, 1) := by decide +kernel
theorem dL_law_215 : decode cL_law 215 = .ok (.iconst 1, 1) := by decide +kernel
theorem dL_law_216 : decode cL_law 216 = .ok (.iadd, 1) := by decide +kernel
theorem dL_law_217 : decode cL_law 217 = .ok (.iaload, 1) := by decide +kernel
theorem dL_law_218 : decode cL_law 218 = .ok (.aload_n 0, 1) := by decide +kernel
theorem dL_law_219 : decode cL_law 219 = .ok (.iload_n 3, 1) := by decide +kernel
theorem dL_law_220 : decode cL_law 220 = .ok (.iconst 2, 1) := by decide +kernel
theorem dL_law_221 : decode cL_law 221 = .ok (.iadd, 1) := by decide +kernel
theorem dL_law_222 : decode cL_law 222 = .ok (.iaload, 1) := by decide +kernel
theorem dL_law_223 : decode cL_law 223 = .ok (.aload_n 0, 1) := by decide +kernel
theorem dL_law_224 : decode cL_law 224 = .ok (.iload_n 3, 1) := by decide +kernel
theorem dL_law_225 : decode cL_law 225 = .ok (.iconst 3, 1) := by decide +kernel
theorem dL_law_226 : decode cL_law 226 = .ok (.iadd, 1) := by decide +kernel
theorem dL_law_227 : decode cL_law 227 = .ok (.iaload, 1) := by decide +kernel
theorem dL_law_228 : decode cL_law 228 = .ok (.aload_n 0, 1) := by decide +kernel
theorem dL_law_229 : decode cL_law 229 = .ok (.iload_n 3, 1) := by decide +kernel
theorem dL_law_230 : decode cL_law 230 = .ok (.iconst 4, 1) := by decide +kernel
theorem dL_law_231 : decode cL_law 231 = .ok (.iadd, 1) := by decide +kernel
theorem dL_law_232 : decode cL_law 232 = .ok (.iaload, 1) := by decide +kernel
theorem dL_law_233 : decode cL_law 233 = .ok (.invokevirtual 13, 3) := by decide +kernel
theorem dL_law_236 : decode cL_law 236 = .ok (.aload_n 2, 1) := by decide +kernel
theorem dL_law_237 : decode cL_law 237 = .ok (.aload_n 0, 1) := by decide +kernel
theorem dL_law_238 : decode cL_law 238 = .ok (.iload_n 3, 1) := by decide +kernel
theorem dL_law_239 : decode cL_law 239 = .ok (.iconst 1, 1) := by decide +kernel
theorem dL_law_240 : decode cL_law 240 = .ok (.iadd, 1) := by decide +kernel
theorem dL_law_241 : decode cL_law 241 = .ok (.iaload, 1) := by decide +kernel
theorem dL_law_242 : decode cL_law 242 = .ok (.aload_n 0, 1) := by decide +kernel
theorem dL_law_243 : decode cL_law 243 = .ok (.iload_n 3, 1) := by decide +kernel
theorem dL_law_244 : decode cL_law 244 = .ok (.iconst 2, 1) := by decide +kernel
theorem dL_law_245 : decode cL_law 245 = .ok (.iadd, 1) := by decide +kernel
theorem dL_law_246 : decode cL_law 246 = .ok (.iaload, 1) := by decide +kernel
theorem dL_law_247 : decode cL_law 247 = .ok (.aload_n 0, 1) := by decide +kernel
theorem dL_law_248 : decode cL_law 248 = .ok (.iload_n 3, 1) := by decide +kernel
theorem dL_law_249 : decode cL_law 249 = .ok (.iconst 3, 1) := by decide +kernel
theorem dL_law_250 : decode cL_law 250 = .ok (.iadd, 1) := by decide +kernel
theorem dL_law_251 : decode cL_law 251 = .ok (.iaload, 1) := by decide +kernel
theorem dL_law_252 : decode cL_law 252 = .ok (.aload_n 0, 1) := by decide +kernel
theorem dL_law_253 : decode cL_law 253 = .ok (.iload_n 3, 1) := by decide +kernel
theorem dL_law_254 : decode cL_law 254 = .ok (.iconst 4, 1) := by decide +kernel
theorem dL_law_255 : decode cL_law 255 = .ok (.iadd, 1) := by decide +kernel
theorem dL_law_256 : decode cL_law 256 = .ok (.iaload, 1) := by decide +kernel
theorem dL_law_257 : decode cL_law 257 = .ok (.invokevirtual 17, 3) := by decide +kernel
theorem dL_law_260 : decode cL_law 260 = .ok (.if_icmp .eq 1115, 3) := by decide +kernel
theorem dL_law_263 : decode cL_law 263 = .ok (.iconst 0, 1) := by decide +kernel
theorem dL_law_264 : decode cL_law 264 = .ok (.ireturn, 1) := by decide +kernel
theorem dL_law_265 : decode cL_law 265 = .ok (.aload_n 1, 1) := by decide +kernel
theorem dL_law_266 : decode cL_law 266 = .ok (.aload_n 0, 1) := by decide +kernel
theorem dL_law_267 : decode cL_law 267 = .ok (.iload_n 3, 1) := by decide +kernel
theorem dL_law_268 : decode cL_law 268 = .ok (.iconst 1, 1) := by decide +kernel
theorem dL_law_269 : decode cL_law 269 = .ok (.iadd, 1) := by decide +kernel
theorem dL_law_270 : decode cL_law 270 = .ok (.iaload, 1) := by decide +kernel
theorem dL_law_271 : decode cL_law 271 = .ok (.aload_n 0, 1) := by decide +kernel
theorem dL_law_272 : decode cL_law 272 = .ok (.iload_n 3, 1) := by decide +kernel
theorem dL_law_273 : decode cL_law 273 = .ok (.iconst 2, 1) := by decide +kernel
theorem dL_law_274 : decode cL_law 274 = .ok (.iadd, 1) := by decide +kernel
theorem dL_law_275 : decode cL_law 275 = .ok (.iaload, 1) := by decide +kernel
theorem dL_law_276 : decode cL_law 276 = .ok (.invokevirtual 18, 3) := by decide +kernel
theorem dL_law_279 : decode cL_law 279 = .ok (.aload_n 2, 1) := by decide +kernel
theorem dL_law_280 : decode cL_law 280 = .ok (.aload_n 0, 1) := by decide +kernel
theorem dL_law_281 : decode cL_law 281 = .ok (.iload_n 3, 1) := by decide +kernel
theorem dL_law_282 : decode cL_law 282 = .ok (.iconst 1, 1) := by decide +kernel
theorem dL_law_283 : decode cL_law 283 = .ok (.iadd, 1) := by decide +kernel
theorem dL_law_284 : decode cL_law 284 = .ok (.iaload, 1) := by decide +kernel
theorem dL_law_285 : decode cL_law 285 = .ok (.aload_n 0, 1) := by decide +kernel
theorem dL_law_286 : decode cL_law 286 = .ok (.iload_n 3, 1) := by decide +kernel
theorem dL_law_287 : decode cL_law 287 = .ok (.iconst 2, 1) := by decide +kernel
theorem dL_law_288 : decode cL_law 288 = .ok (.iadd, 1) := by decide +kernel
theorem dL_law_289 : decode cL_law 289 = .ok (.iaload, 1) := by decide +kernel
theorem dL_law_290 : decode cL_law 290 = .ok (.invokevirtual 22, 3) := by decide +kernel
theorem dL_law_293 : decode cL_law 293 = .ok (.if_icmp .eq 1082, 3) := by decide +kernel
theorem dL_law_296 : decode cL_law 296 = .ok (.iconst 0, 1) := by decide +kernel
theorem dL_law_297 : decode cL_law 297 = .ok (.ireturn, 1) := by decide +kernel
theorem dL_law_298 : decode cL_law 298 = .ok (.aload_n 1, 1) := by decide +kernel
theorem dL_law_299 : decode cL_law 299 = .ok (.aload_n 0, 1) := by decide +kernel
theorem dL_law_300 : decode cL_law 300 = .ok (.iload_n 3, 1) := by decide +kernel
theorem dL_law_301 : decode cL_law 301 = .ok (.iconst 1, 1) := by decide +kernel
theorem dL_law_302 : decode cL_law 302 = .ok (.iadd, 1) := by decide +kernel
theorem dL_law_303 : decode cL_law 303 = .ok (.iaload, 1) := by decide +kernel
theorem dL_law_304 : decode cL_law 304 = .ok (.aload_n 0, 1) := by decide +kernel
theorem dL_law_305 : decode cL_law 305 = .ok (.iload_n 3, 1) := by decide +kernel
theorem dL_law_306 : decode cL_law 306 = .ok (.iconst 2, 1) := by decide +kernel
theorem dL_law_307 : decode cL_law 307 = .ok (.iadd, 1) := by decide +kernel
theorem dL_law_308 : decode cL_law 308 = .ok (.iaload, 1) := by decide +kernel
theorem dL_law_309 : decode cL_law 309 = .ok (.invokevirtual 23, 3) := by decide +kernel
theorem dL_law_312 : decode cL_law 312 = .ok (.aload_n 2, 1) := by decide +kernel
theorem dL_law_313 : decode cL_law 313 = .ok (.aload_n 0, 1) := by decide +kernel
theorem dL_law_314 : decode cL_law 314 = .ok (.iload_n 3, 1) := by decide +kernel
theorem dL_law_315 : decode cL_law 315 = .ok (.iconst 1, 1) := by decide +kernel
theorem dL_law_316 : decode cL_law 316 = .ok (.iadd, 1) := by decide +kernel
theorem dL_law_317 : decode cL_law 317 = .ok (.iaload, 1) := by decide +kernel
theorem dL_law_318 : decode cL_law 318 = .ok (.aload_n 0, 1) := by decide +kernel
theorem dL_law_319 : decode cL_law 319 = .ok (.iload_n 3, 1) := by decide +kernel
theorem dL_law_320 : decode cL_law 320 = .ok (.iconst 2, 1) := by decide +kernel
theorem dL_law_321 : decode cL_law 321 = .ok (.iadd, 1) := by decide +kernel
theorem dL_law_322 : decode cL_law 322 = .ok (.iaload, 1) := by decide +kernel
theorem dL_law_323 : decode cL_law 323 = .ok (.invokevirtual 26, 3) := by decide +kernel
theorem dL_law_326 : decode cL_law 326 = .ok (.if_icmp .eq 1049, 3) := by decide +kernel
theorem dL_law_329 : decode cL_law 329 = .ok (.iconst 0, 1) := by decide +kernel
theorem dL_law_330 : decode cL_law 330 = .ok (.ireturn, 1) := by decide +kernel
theorem dL_law_331 : decode cL_law 331 = .ok (.aload_n 1, 1) := by decide +kernel
theorem dL_law_332 : decode cL_law 332 = .ok (.aload_n 0, 1) := by decide +kernel
theorem dL_law_333 : decode cL_law 333 = .ok (.iload_n 3, 1) := by decide +kernel
theorem dL_law_334 : decode cL_law 334 = .ok (.iconst 1, 1) := by decide +kernel
theorem dL_law_335 : decode cL_law 335 = .ok (.iadd, 1) := by decide +kernel
theorem dL_law_336 : decode cL_law 336 = .ok (.iaload, 1) := by decide +kernel
theorem dL_law_337 : decode cL_law 337 = .ok (.aload_n 0, 1) := by decide +kernel
theorem dL_law_338 : decode cL_law 338 = .ok (.iload_n 3, 1) := by decide +kernel
theorem dL_law_339 : decode cL_law 339 = .ok (.iconst 2, 1) := by decide +kernel
theorem dL_law_340 : decode cL_law 340 = .ok (.iadd, 1) := by decide +kernel
theorem dL_law_341 : decode cL_law 341 = .ok (.iaload, 1) := by decide +kernel
theorem dL_law_342 : decode cL_law 342 = .ok (.invokevirtual 27, 3) := by decide +kernel
theorem dL_law_345 : decode cL_law 345 = .ok (.aload_n 2, 1) := by decide +kernel
theorem dL_law_346 : decode cL_law 346 = .ok (.aload_n 0, 1) := by decide +kernel
theorem dL_law_347 : decode cL_law 347 = .ok (.iload_n 3, 1) := by decide +kernel
theorem dL_law_348 : decode cL_law 348 = .ok (.iconst 1, 1) := by decide +kernel
theorem dL_law_349 : decode cL_law 349 = .ok (.iadd, 1) := by decide +kernel
theorem dL_law_350 : decode cL_law 350 = .ok (.iaload, 1) := by decide +kernel
theorem dL_law_351 : decode cL_law 351 = .ok (.aload_n 0, 1) := by decide +kernel
theorem dL_law_352 : decode cL_law 352 = .ok (.iload_n 3, 1) := by decide +kernel
theorem dL_law_353 : decode cL_law 353 = .ok (.iconst 2, 1) := by decide +kernel
theorem dL_law_354 : decode cL_law 354 = .ok (.iadd, 1) := by decide +kernel
theorem dL_law_355 : decode cL_law 355 = .ok (.iaload, 1) := by decide +kernel
theorem dL_law_356 : decode cL_law 356 = .ok (.invokevirtual 30, 3) := by decide +kernel
theorem dL_law_359 : decode cL_law 359 = .ok (.if_icmp .eq 1016, 3) := by decide +kernel
theorem dL_law_362 : decode cL_law 362 = .ok (.iconst 0, 1) := by decide +kernel
theorem dL_law_363 : decode cL_law 363 = .ok (.ireturn, 1) := by decide +kernel
theorem dL_law_364 : decode cL_law 364 = .ok (.aload_n 1, 1) := by decide +kernel
theorem dL_law_365 : decode cL_law 365 = .ok (.aload_n 0, 1) := by decide +kernel
theorem dL_law_366 : decode cL_law 366 = .ok (.iload_n 3, 1) := by decide +kernel
theorem dL_law_367 : decode cL_law 367 = .ok (.iconst 1, 1) := by decide +kernel
theorem dL_law_368 : decode cL_law 368 = .ok (.iadd, 1) := by decide +kernel
theorem dL_law_369 : decode cL_law 369 = .ok (.iaload, 1) := by decide +kernel
theorem dL_law_370 : decode cL_law 370 = .ok (.aload_n 0, 1) := by decide +kernel
theorem dL_law_371 : decode cL_law 371 = .ok (.iload_n 3, 1) := by decide +kernel
theorem dL_law_372 : decode cL_law 372 = .ok (.iconst 2, 1) := by decide +kernel
theorem dL_law_373 : decode cL_law 373 = .ok (.iadd, 1) := by decide +kernel
theorem dL_law_374 : decode cL_law 374 = .ok (.iaload, 1) := by decide +kernel
theorem dL_law_375 : decode cL_law 375 = .ok (.aload_n 0, 1) := by decide +kernel
theorem dL_law_376 : decode cL_law 376 = .ok (.iload_n 3, 1) := by decide +kernel
theorem dL_law_377 : decode cL_law 377 = .ok (.iconst 3, 1) := by decide +kernel
theorem dL_law_378 : decode cL_law 378 = .ok (.iadd, 1) := by decide +kernel
theorem dL_law_379 : decode cL_law 379 = .ok (.iaload, 1) := by decide +kernel
theorem dL_law_380 : decode cL_law 380 = .ok (.invokevirtual 31, 3) := by decide +kernel
theorem dL_law_383 : decode cL_law 383 = .ok (.aload_n 2, 1) := by decide +kernel
theorem dL_law_384 : decode cL_law 384 = .ok (.aload_n 0, 1) := by decide +kernel
theorem dL_law_385 : decode cL_law 385 = .ok (.iload_n 3, 1) := by decide +kernel
theorem dL_law_386 : decode cL_law 386 = .ok (.iconst 1, 1) := by decide +kernel
theorem dL_law_387 : decode cL_law 387 = .ok (.iadd, 1) := by decide +kernel
theorem dL_law_388 : decode cL_law 388 = .ok (.iaload, 1) := by decide +kernel
theorem dL_law_389 : decode cL_law 389 = .ok (.aload_n 0, 1) := by decide +kernel
theorem dL_law_390 : decode cL_law 390 = .ok (.iload_n 3, 1) := by decide +kernel
theorem dL_law_391 : decode cL_law 391 = .ok (.iconst 2, 1) := by decide +kernel
theorem dL_law_392 : decode cL_law 392 = .ok (.iadd, 1) := by decide +kernel
theorem dL_law_393 : decode cL_law 393 = .ok (.iaload, 1) := by decide +kernel
theorem dL_law_394 : decode cL_law 394 = .ok (.aload_n 0, 1) := by decide +kernel
theorem dL_law_395 : decode cL_law 395 = .ok (.iload_n 3, 1) := by decide +kernel
theorem dL_law_396 : decode cL_law 396 = .ok (.iconst 3, 1) := by decide +kernel
theorem dL_law_397 : decode cL_law 397 = .ok (.iadd, 1) := by decide +kernel
theorem dL_law_398 : decode cL_law 398 = .ok (.iaload, 1) := by decide +kernel
theorem dL_law_399 : decode cL_law 399 = .ok (.invokevirtual 35, 3) := by decide +kernel
theorem dL_law_402 : decode cL_law 402 = .ok (.if_icmp .eq 973, 3) := by decide +kernel
theorem dL_law_405 : decode cL_law 405 = .ok (.iconst 0, 1) := by decide +kernel
theorem dL_law_406 : decode cL_law 406 = .ok (.ireturn, 1) := by decide +kernel
theorem dL_law_407 : decode cL_law 407 = .ok (.aload_n 1, 1) := by decide +kernel
theorem dL_law_408 : decode cL_law 408 = .ok (.aload_n 0, 1) := by decide +kernel
theorem dL_law_409 : decode cL_law 409 = .ok (.iload_n 3, 1) := by decide +kernel
theorem dL_law_410 : decode cL_law 410 = .ok (.iconst 1, 1) := by decide +kernel
theorem dL_law_411 : decode cL_law 411 = .ok (.iadd, 1) := by decide +kernel
theorem dL_law_412 : decode cL_law 412 = .ok (.iaload, 1) := by decide +kernel
theorem dL_law_413 : decode cL_law 413 = .ok (.aload_n 0, 1) := by decide +kernel
theorem dL_law_414 : decode cL_law 414 = .ok (.iload_n 3, 1) := by decide +kernel
theorem dL_law_415 : decode cL_law 415 = .ok (.iconst 2, 1) := by decide +kernel
theorem dL_law_416 : decode cL_law 416 = .ok (.iadd, 1) := by decide +kernel
theorem dL_law_417 : decode cL_law 417 = .ok (.iaload, 1) := by decide +kernel
theorem dL_law_418 : decode cL_law 418 = .ok (.invokevirtual 36, 3) := by decide +kernel
theorem dL_law_421 : decode cL_law 421 = .ok (.aload_n 2, 1) := by decide +kernel
theorem dL_law_422 : decode cL_law 422 = .ok (.aload_n 0, 1) := by decide +kernel
theorem dL_law_423 : decode cL_law 423 = .ok (.iload_n 3, 1) := by decide +kernel
theorem dL_law_424 : decode cL_law 424 = .ok (.iconst 1, 1) := by decide +kernel
theorem dL_law_425 : decode cL_law 425 = .ok (.iadd, 1) := by decide +kernel
theorem dL_law_426 : decode cL_law 426 = .ok (.iaload, 1) := by decide +kernel
theorem dL_law_427 : decode cL_law 427 = .ok (.aload_n 0, 1) := by decide +kernel
theorem dL_law_428 : decode cL_law 428 = .ok (.iload_n 3, 1) := by decide +kernel
theorem dL_law_429 : decode cL_law 429 = .ok (.iconst 2, 1) := by decide +kernel
theorem dL_law_430 : decode cL_law 430 = .ok (.iadd, 1) := by decide +kernel
theorem dL_law_431 : decode cL_law 431 = .ok (.iaload, 1) := by decide +kernel
theorem dL_law_432 : decode cL_law 432 = .ok (.invokevirtual 39, 3) := by decide +kernel
theorem dL_law_435 : decode cL_law 435 = .ok (.if_icmp .eq 940, 3) := by decide +kernel
theorem dL_law_438 : decode cL_law 438 = .ok (.iconst 0, 1) := by decide +kernel
theorem dL_law_439 : decode cL_law 439 = .ok (.ireturn, 1) := by decide +kernel
theorem dL_law_440 : decode cL_law 440 = .ok (.aload_n 1, 1) := by decide +kernel
theorem dL_law_441 : decode cL_law 441 = .ok (.invokevirtual 40, 3) := by decide +kernel
theorem dL_law_444 : decode cL_law 444 = .ok (.aload_n 2, 1) := by decide +kernel
theorem dL_law_445 : decode cL_law 445 = .ok (.invokevirtual 44, 3) := by decide +kernel
theorem dL_law_448 : decode cL_law 448 = .ok (.if_icmp .eq 927, 3) := by decide +kernel
theorem dL_law_451 : decode cL_law 451 = .ok (.iconst 0, 1) := by decide +kernel
theorem dL_law_452 : decode cL_law 452 = .ok (.ireturn, 1) := by decide +kernel
theorem dL_law_453 : decode cL_law 453 = .ok (.aload_n 1, 1) := by decide +kernel
theorem dL_law_454 : decode cL_law 454 = .ok (.aload_n 0, 1) := by decide +kernel
theorem dL_law_455 : decode cL_law 455 = .ok (.iload_n 3, 1) := by decide +kernel
theorem dL_law_456 : decode cL_law 456 = .ok (.iconst 1, 1) := by decide +kernel
theorem dL_law_457 : decode cL_law 457 = .ok (.iadd, 1) := by decide +kernel
theorem dL_law_458 : decode cL_law 458 = .ok (.iaload, 1) := by decide +kernel
theorem dL_law_459 : decode cL_law 459 = .ok (.invokevirtual 45, 3) := by decide +kernel
theorem dL_law_462 : decode cL_law 462 = .ok (.aload_n 2, 1) := by decide +kernel
theorem dL_law_463 : decode cL_law 463 = .ok (.aload_n 0, 1) := by decide +kernel
theorem dL_law_464 : decode cL_law 464 = .ok (.iload_n 3, 1) := by decide +kernel
theorem dL_law_465 : decode cL_law 465 = .ok (.iconst 1, 1) := by decide +kernel
theorem dL_law_466 : decode cL_law 466 = .ok (.iadd, 1) := by decide +kernel
theorem dL_law_467 : decode cL_law 467 = .ok (.iaload, 1) := by decide +kernel
theorem dL_law_468 : decode cL_law 468 = .ok (.invokevirtual 49, 3) := by decide +kernel
theorem dL_law_471 : decode cL_law 471 = .ok (.if_icmp .eq 904, 3) := by decide +kernel
theorem dL_law_474 : decode cL_law 474 = .ok (.iconst 0, 1) := by decide +kernel
theorem dL_law_475 : decode cL_law 475 = .ok (.ireturn, 1) := by decide +kernel
theorem dL_law_476 : decode cL_law 476 = .ok (.aload_n 1, 1) := by decide +kernel
theorem dL_law_477 : decode cL_law 477 = .ok (.aload_n 0, 1) := by decide +kernel
theorem dL_law_478 : decode cL_law 478 = .ok (.iload_n 3, 1) := by decide +kernel
theorem dL_law_479 : decode cL_law 479 = .ok (.iconst 1, 1) := by decide +kernel
theorem dL_law_480 : decode cL_law 480 = .ok (.iadd, 1) := by decide +kernel
theorem dL_law_481 : decode cL_law 481 = .ok (.iaload, 1) := by decide +kernel
theorem dL_law_482 : decode cL_law 482 = .ok (.invokevirtual 50, 3) := by decide +kernel
theorem dL_law_485 : decode cL_law 485 = .ok (.aload_n 2, 1) := by decide +kernel
theorem dL_law_486 : decode cL_law 486 = .ok (.aload_n 0, 1) := by decide +kernel
theorem dL_law_487 : decode cL_law 487 = .ok (.iload_n 3, 1) := by decide +kernel
theorem dL_law_488 : decode cL_law 488 = .ok (.iconst 1, 1) := by decide +kernel
theorem dL_law_489 : decode cL_law 489 = .ok (.iadd, 1) := by decide +kernel
theorem dL_law_490 : decode cL_law 490 = .ok (.iaload, 1) := by decide +kernel
theorem dL_law_491 : decode cL_law 491 = .ok (.invokevirtual 53, 3) := by decide +kernel
theorem dL_law_494 : decode cL_law 494 = .ok (.if_icmp .eq 881, 3) := by decide +kernel
theorem dL_law_497 : decode cL_law 497 = .ok (.iconst 0, 1) := by decide +kernel
theorem dL_law_498 : decode cL_law 498 = .ok (.ireturn, 1) := by decide +kernel
theorem dL_law_499 : decode cL_law 499 = .ok (.aload_n 1, 1) := by decide +kernel
theorem dL_law_500 : decode cL_law 500 = .ok (.aload_n 0, 1) := by decide +kernel
theorem dL_law_501 : decode cL_law 501 = .ok (.iload_n 3, 1) := by decide +kernel
theorem dL_law_502 : decode cL_law 502 = .ok (.iconst 1, 1) := by decide +kernel
theorem dL_law_503 : decode cL_law 503 = .ok (.iadd, 1) := by decide +kernel
theorem dL_law_504 : decode cL_law 504 = .ok (.iaload, 1) := by decide +kernel
theorem dL_law_505 : decode cL_law 505 = .ok (.invokevirtual 54, 3) := by decide +kernel
theorem dL_law_508 : decode cL_law 508 = .ok (.aload_n 2, 1) := by decide +kernel
theorem dL_law_509 : decode cL_law 509 = .ok (.aload_n 0, 1) := by decide +kernel
theorem dL_law_510 : decode cL_law 510 = .ok (.iload_n 3, 1) := by decide +kernel
theorem dL_law_511 : decode cL_law 511 = .ok (.iconst 1, 1) := by decide +kernel
theorem dL_law_512 : decode cL_law 512 = .ok (.iadd, 1) := by decide +kernel
theorem dL_law_513 : decode cL_law 513 = .ok (.iaload, 1) := by decide +kernel
theorem dL_law_514 : decode cL_law 514 = .ok (.invokevirtual 57, 3) := by decide +kernel
theorem dL_law_517 : decode cL_law 517 = .ok (.if_icmp .eq 858, 3) := by decide +kernel
theorem dL_law_520 : decode cL_law 520 = .ok (.iconst 0, 1) := by decide +kernel
theorem dL_law_521 : decode cL_law 521 = .ok (.ireturn, 1) := by decide +kernel
theorem dL_law_522 : decode cL_law 522 = .ok (.aload_n 1, 1) := by decide +kernel
theorem dL_law_523 : decode cL_law 523 = .ok (.aload_n 0, 1) := by decide +kernel
theorem dL_law_524 : decode cL_law 524 = .ok (.iload_n 3, 1) := by decide +kernel
theorem dL_law_525 : decode cL_law 525 = .ok (.iconst 1, 1) := by decide +kernel
theorem dL_law_526 : decode cL_law 526 = .ok (.iadd, 1) := by decide +kernel
theorem dL_law_527 : decode cL_law 527 = .ok (.iaload, 1) := by decide +kernel
theorem dL_law_528 : decode cL_law 528 = .ok (.invokevirtual 58, 3) := by decide +kernel
theorem dL_law_531 : decode cL_law 531 = .ok (.aload_n 2, 1) := by decide +kernel
theorem dL_law_532 : decode cL_law 532 = .ok (.aload_n 0, 1) := by decide +kernel
theorem dL_law_533 : decode cL_law 533 = .ok (.iload_n 3, 1) := by decide +kernel
theorem dL_law_534 : decode cL_law 534 = .ok (.iconst 1, 1) := by decide +kernel
theorem dL_law_535 : decode cL_law 535 = .ok (.iadd, 1) := by decide +kernel
theorem dL_law_536 : decode cL_law 536 = .ok (.iaload, 1) := by decide +kernel
theorem dL_law_537 : decode cL_law 537 = .ok (.invokevirtual 61, 3) := by decide +kernel
theorem dL_law_540 : decode cL_law 540 = .ok (.if_icmp .eq 835, 3) := by decide +kernel
theorem dL_law_543 : decode cL_law 543 = .ok (.iconst 0, 1) := by decide +kernel
theorem dL_law_544 : decode cL_law 544 = .ok (.ireturn, 1) := by decide +kernel
theorem dL_law_545 : decode cL_law 545 = .ok (.aload_n 1, 1) := by decide +kernel
theorem dL_law_546 : decode cL_law 546 = .ok (.invokevirtual 62, 3) := by decide +kernel
theorem dL_law_549 : decode cL_law 549 = .ok (.aload_n 2, 1) := by decide +kernel
theorem dL_law_550 : decode cL_law 550 = .ok (.invokevirtual 65, 3) := by decide +kernel
theorem dL_law_553 : decode cL_law 553 = .ok (.if_icmp .eq 822, 3) := by decide +kernel
theorem dL_law_556 : decode cL_law 556 = .ok (.iconst 0, 1) := by decide +kernel
theorem dL_law_557 : decode cL_law 557 = .ok (.ireturn, 1) := by decide +kernel
theorem dL_law_558 : decode cL_law 558 = .ok (.aload_n 1, 1) := by decide +kernel
theorem dL_law_559 : decode cL_law 559 = .ok (.invokevirtual 66, 3) := by decide +kernel
theorem dL_law_562 : decode cL_law 562 = .ok (.aload_n 2, 1) := by decide +kernel
theorem dL_law_563 : decode cL_law 563 = .ok (.invokevirtual 69, 3) := by decide +kernel
theorem dL_law_566 : decode cL_law 566 = .ok (.if_icmp .eq 809, 3) := by decide +kernel
theorem dL_law_569 : decode cL_law 569 = .ok (.iconst 0, 1) := by decide +kernel
theorem dL_law_570 : decode cL_law 570 = .ok (.ireturn, 1) := by decide +kernel
theorem dL_law_571 : decode cL_law 571 = .ok (.aload_n 1, 1) := by decide +kernel
theorem dL_law_572 : decode cL_law 572 = .ok (.aload_n 0, 1) := by decide +kernel
theorem dL_law_573 : decode cL_law 573 = .ok (.iload_n 3, 1) := by decide +kernel
theorem dL_law_574 : decode cL_law 574 = .ok (.iconst 1, 1) := by decide +kernel
theorem dL_law_575 : decode cL_law 575 = .ok (.iadd, 1) := by decide +kernel
theorem dL_law_576 : decode cL_law 576 = .ok (.iaload, 1) := by decide +kernel
theorem dL_law_577 : decode cL_law 577 = .ok (.aload_n 0, 1) := by decide +kernel
theorem dL_law_578 : decode cL_law 578 = .ok (.iload_n 3, 1) := by decide +kernel
theorem dL_law_579 : decode cL_law 579 = .ok (.iconst 2, 1) := by decide +kernel
theorem dL_law_580 : decode cL_law 580 = .ok (.iadd, 1) := by decide +kernel
theorem dL_law_581 : decode cL_law 581 = .ok (.iaload, 1) := by decide +kernel
theorem dL_law_582 : decode cL_law 582 = .ok (.invokevirtual 70, 3) := by decide +kernel
theorem dL_law_585 : decode cL_law 585 = .ok (.aload_n 2, 1) := by decide +kernel
theorem dL_law_586 : decode cL_law 586 = .ok (.aload_n 0, 1) := by decide +kernel
theorem dL_law_587 : decode cL_law 587 = .ok (.iload_n 3, 1) := by decide +kernel
theorem dL_law_588 : decode cL_law 588 = .ok (.iconst 1, 1) := by decide +kernel
theorem dL_law_589 : decode cL_law 589 = .ok (.iadd, 1) := by decide +kernel
theorem dL_law_590 : decode cL_law 590 = .ok (.iaload, 1) := by decide +kernel
theorem dL_law_591 : decode cL_law 591 = .ok (.aload_n 0, 1) := by decide +kernel
theorem dL_law_592 : decode cL_law 592 = .ok (.iload_n 3, 1) := by decide +kernel
theorem dL_law_593 : decode cL_law 593 = .ok (.iconst 2, 1) := by decide +kernel
theorem dL_law_594 : decode cL_law 594 = .ok (.iadd, 1) := by decide +kernel
theorem dL_law_595 : decode cL_law 595 = .ok (.iaload, 1) := by decide +kernel
theorem dL_law_596 : decode cL_law 596 = .ok (.invokevirtual 73, 3) := by decide +kernel
theorem dL_law_599 : decode cL_law 599 = .ok (.if_icmp .eq 776, 3) := by decide +kernel
theorem dL_law_602 : decode cL_law 602 = .ok (.iconst 0, 1) := by decide +kernel
theorem dL_law_603 : decode cL_law 603 = .ok (.ireturn, 1) := by decide +kernel
theorem dL_law_604 : decode cL_law 604 = .ok (.aload_n 1, 1) := by decide +kernel
theorem dL_law_605 : decode cL_law 605 = .ok (.aload_n 0, 1) := by decide +kernel
theorem dL_law_606 : decode cL_law 606 = .ok (.iload_n 3, 1) := by decide +kernel
theorem dL_law_607 : decode cL_law 607 = .ok (.iconst 1, 1) := by decide +kernel
theorem dL_law_608 : decode cL_law 608 = .ok (.iadd, 1) := by decide +kernel
theorem dL_law_609 : decode cL_law 609 = .ok (.iaload, 1) := by decide +kernel
theorem dL_law_610 : decode cL_law 610 = .ok (.aload_n 0, 1) := by decide +kernel
theorem dL_law_611 : decode cL_law 611 = .ok (.iload_n 3, 1) := by decide +kernel
theorem dL_law_612 : decode cL_law 612 = .ok (.iconst 2, 1) := by decide +kernel
theorem dL_law_613 : decode cL_law 613 = .ok (.iadd, 1) := by decide +kernel
theorem dL_law_614 : decode cL_law 614 = .ok (.iaload, 1) := by decide +kernel
theorem dL_law_615 : decode cL_law 615 = .ok (.invokevirtual 74, 3) := by decide +kernel
theorem dL_law_618 : decode cL_law 618 = .ok (.aload_n 2, 1) := by decide +kernel
theorem dL_law_619 : decode cL_law 619 = .ok (.aload_n 0, 1) := by decide +kernel
theorem dL_law_620 : decode cL_law 620 = .ok (.iload_n 3, 1) := by decide +kernel
theorem dL_law_621 : decode cL_law 621 = .ok (.iconst 1, 1) := by decide +kernel
theorem dL_law_622 : decode cL_law 622 = .ok (.iadd, 1) := by decide +kernel
theorem dL_law_623 : decode cL_law 623 = .ok (.iaload, 1) := by decide +kernel
theorem dL_law_624 : decode cL_law 624 = .ok (.aload_n 0, 1) := by decide +kernel
theorem dL_law_625 : decode cL_law 625 = .ok (.iload_n 3, 1) := by decide +kernel
theorem dL_law_626 : decode cL_law 626 = .ok (.iconst 2, 1) := by decide +kernel
theorem dL_law_627 : decode cL_law 627 = .ok (.iadd, 1) := by decide +kernel
theorem dL_law_628 : decode cL_law 628 = .ok (.iaload, 1) := by decide +kernel
theorem dL_law_629 : decode cL_law 629 = .ok (.invokevirtual 77, 3) := by decide +kernel
theorem dL_law_632 : decode cL_law 632 = .ok (.if_icmp .eq 743, 3) := by decide +kernel
theorem dL_law_635 : decode cL_law 635 = .ok (.iconst 0, 1) := by decide +kernel
theorem dL_law_636 : decode cL_law 636 = .ok (.ireturn, 1) := by decide +kernel
theorem dL_law_637 : decode cL_law 637 = .ok (.aload_n 1, 1) := by decide +kernel
theorem dL_law_638 : decode cL_law 638 = .ok (.invokevirtual 78, 3) := by decide +kernel
theorem dL_law_641 : decode cL_law 641 = .ok (.aload_n 2, 1) := by decide +kernel
theorem dL_law_642 : decode cL_law 642 = .ok (.invokevirtual 81, 3) := by decide +kernel
theorem dL_law_645 : decode cL_law 645 = .ok (.if_icmp .eq 730, 3) := by decide +kernel
theorem dL_law_648 : decode cL_law 648 = .ok (.iconst 0, 1) := by decide +kernel
theorem dL_law_649 : decode cL_law 649 = .ok (.ireturn, 1) := by decide +kernel
theorem dL_law_650 : decode cL_law 650 = .ok (.aload_n 1, 1) := by decide +kernel
theorem dL_law_651 : decode cL_law 651 = .ok (.aload_n 0, 1) := by decide +kernel
theorem dL_law_652 : decode cL_law 652 = .ok (.iload_n 3, 1) := by decide +kernel
theorem dL_law_653 : decode cL_law 653 = .ok (.iconst 1, 1) := by decide +kernel
theorem dL_law_654 : decode cL_law 654 = .ok (.iadd, 1) := by decide +kernel
theorem dL_law_655 : decode cL_law 655 = .ok (.iaload, 1) := by decide +kernel
theorem dL_law_656 : decode cL_law 656 = .ok (.aload_n 0, 1) := by decide +kernel
theorem dL_law_657 : decode cL_law 657 = .ok (.iload_n 3, 1) := by decide +kernel
theorem dL_law_658 : decode cL_law 658 = .ok (.iconst 2, 1) := by decide +kernel
theorem dL_law_659 : decode cL_law 659 = .ok (.iadd, 1) := by decide +kernel
theorem dL_law_660 : decode cL_law 660 = .ok (.iaload, 1) := by decide +kernel
theorem dL_law_661 : decode cL_law 661 = .ok (.aload_n 0, 1) := by decide +kernel
theorem dL_law_662 : decode cL_law 662 = .ok (.iload_n 3, 1) := by decide +kernel
theorem dL_law_663 : decode cL_law 663 = .ok (.iconst 3, 1) := by decide +kernel
theorem dL_law_664 : decode cL_law 664 = .ok (.iadd, 1) := by decide +kernel
theorem dL_law_665 : decode cL_law 665 = .ok (.iaload, 1) := by decide +kernel
theorem dL_law_666 : decode cL_law 666 = .ok (.invokevirtual 82, 3) := by decide +kernel
theorem dL_law_669 : decode cL_law 669 = .ok (.aload_n 2, 1) := by decide +kernel
theorem dL_law_670 : decode cL_law 670 = .ok (.aload_n 0, 1) := by decide +kernel
theorem dL_law_671 : decode cL_law 671 = .ok (.iload_n 3, 1) := by decide +kernel
theorem dL_law_672 : decode cL_law 672 = .ok (.iconst 1, 1) := by decide +kernel
theorem dL_law_673 : decode cL_law 673 = .ok (.iadd, 1) := by decide +kernel
theorem dL_law_674 : decode cL_law 674 = .ok (.iaload, 1) := by decide +kernel
theorem dL_law_675 : decode cL_law 675 = .ok (.aload_n 0, 1) := by decide +kernel
theorem dL_law_676 : decode cL_law 676 = .ok (.iload_n 3, 1) := by decide +kernel
theorem dL_law_677 : decode cL_law 677 = .ok (.iconst 2, 1) := by decide +kernel
theorem dL_law_678 : decode cL_law 678 = .ok (.iadd, 1) := by decide +kernel
theorem dL_law_679 : decode cL_law 679 = .ok (.iaload, 1) := by decide +kernel
theorem dL_law_680 : decode cL_law 680 = .ok (.aload_n 0, 1) := by decide +kernel
theorem dL_law_681 : decode cL_law 681 = .ok (.iload_n 3, 1) := by decide +kernel
theorem dL_law_682 : decode cL_law 682 = .ok (.iconst 3, 1) := by decide +kernel
theorem dL_law_683 : decode cL_law 683 = .ok (.iadd, 1) := by decide +kernel
theorem dL_law_684 : decode cL_law 684 = .ok (.iaload, 1) := by decide +kernel
theorem dL_law_685 : decode cL_law 685 = .ok (.invokevirtual 85, 3) := by decide +kernel
theorem dL_law_688 : decode cL_law 688 = .ok (.if_icmp .eq 687, 3) := by decide +kernel
theorem dL_law_691 : decode cL_law 691 = .ok (.iconst 0, 1) := by decide +kernel
theorem dL_law_692 : decode cL_law 692 = .ok (.ireturn, 1) := by decide +kernel
theorem dL_law_693 : decode cL_law 693 = .ok (.aload_n 1, 1) := by decide +kernel
theorem dL_law_694 : decode cL_law 694 = .ok (.aload_n 0, 1) := by decide +kernel
theorem dL_law_695 : decode cL_law 695 = .ok (.iload_n 3, 1) := by decide +kernel
theorem dL_law_696 : decode cL_law 696 = .ok (.iconst 1, 1) := by decide +kernel
theorem dL_law_697 : decode cL_law 697 = .ok (.iadd, 1) := by decide +kernel
theorem dL_law_698 : decode cL_law 698 = .ok (.iaload, 1) := by decide +kernel
theorem dL_law_699 : decode cL_law 699 = .ok (.invokevirtual 86, 3) := by decide +kernel
theorem dL_law_702 : decode cL_law 702 = .ok (.aload_n 2, 1) := by decide +kernel
theorem dL_law_703 : decode cL_law 703 = .ok (.aload_n 0, 1) := by decide +kernel
theorem dL_law_704 : decode cL_law 704 = .ok (.iload_n 3, 1) := by decide +kernel
theorem dL_law_705 : decode cL_law 705 = .ok (.iconst 1, 1) := by decide +kernel
theorem dL_law_706 : decode cL_law 706 = .ok (.iadd, 1) := by decide +kernel
theorem dL_law_707 : decode cL_law 707 = .ok (.iaload, 1) := by decide +kernel
theorem dL_law_708 : decode cL_law 708 = .ok (.invokevirtual 89, 3) := by decide +kernel
theorem dL_law_711 : decode cL_law 711 = .ok (.if_icmp .eq 664, 3) := by decide +kernel
theorem dL_law_714 : decode cL_law 714 = .ok (.iconst 0, 1) := by decide +kernel
theorem dL_law_715 : decode cL_law 715 = .ok (.ireturn, 1) := by decide +kernel
theorem dL_law_716 : decode cL_law 716 = .ok (.aload_n 1, 1) := by decide +kernel
theorem dL_law_717 : decode cL_law 717 = .ok (.aload_n 0, 1) := by decide +kernel
theorem dL_law_718 : decode cL_law 718 = .ok (.iload_n 3, 1) := by decide +kernel
theorem dL_law_719 : decode cL_law 719 = .ok (.iconst 1, 1) := by decide +kernel
theorem dL_law_720 : decode cL_law 720 = .ok (.iadd, 1) := by decide +kernel
theorem dL_law_721 : decode cL_law 721 = .ok (.iaload, 1) := by decide +kernel
theorem dL_law_722 : decode cL_law 722 = .ok (.invokevirtual 90, 3) := by decide +kernel
theorem dL_law_725 : decode cL_law 725 = .ok (.aload_n 2, 1) := by decide +kernel
theorem dL_law_726 : decode cL_law 726 = .ok (.aload_n 0, 1) := by decide +kernel
theorem dL_law_727 : decode cL_law 727 = .ok (.iload_n 3, 1) := by decide +kernel
theorem dL_law_728 : decode cL_law 728 = .ok (.iconst 1, 1) := by decide +kernel
theorem dL_law_729 : decode cL_law 729 = .ok (.iadd, 1) := by decide +kernel
theorem dL_law_730 : decode cL_law 730 = .ok (.iaload, 1) := by decide +kernel
theorem dL_law_731 : decode cL_law 731 = .ok (.invokevirtual 93, 3) := by decide +kernel
theorem dL_law_734 : decode cL_law 734 = .ok (.if_icmp .eq 641, 3) := by decide +kernel
theorem dL_law_737 : decode cL_law 737 = .ok (.iconst 0, 1) := by decide +kernel
theorem dL_law_738 : decode cL_law 738 = .ok (.ireturn, 1) := by decide +kernel
theorem dL_law_739 : decode cL_law 739 = .ok (.aload_n 1, 1) := by decide +kernel
theorem dL_law_740 : decode cL_law 740 = .ok (.aload_n 0, 1) := by decide +kernel
theorem dL_law_741 : decode cL_law 741 = .ok (.iload_n 3, 1) := by decide +kernel
theorem dL_law_742 : decode cL_law 742 = .ok (.iconst 1, 1) := by decide +kernel
theorem dL_law_743 : decode cL_law 743 = .ok (.iadd, 1) := by decide +kernel
theorem dL_law_744 : decode cL_law 744 = .ok (.iaload, 1) := by decide +kernel
theorem dL_law_745 : decode cL_law 745 = .ok (.aload_n 0, 1) := by decide +kernel
theorem dL_law_746 : decode cL_law 746 = .ok (.iload_n 3, 1) := by decide +kernel
theorem dL_law_747 : decode cL_law 747 = .ok (.iconst 2, 1) := by decide +kernel
theorem dL_law_748 : decode cL_law 748 = .ok (.iadd, 1) := by decide +kernel
theorem dL_law_749 : decode cL_law 749 = .ok (.iaload, 1) := by decide +kernel
theorem dL_law_750 : decode cL_law 750 = .ok (.invokevirtual 94, 3) := by decide +kernel
theorem dL_law_753 : decode cL_law 753 = .ok (.aload_n 2, 1) := by decide +kernel
theorem dL_law_754 : decode cL_law 754 = .ok (.aload_n 0, 1) := by decide +kernel
theorem dL_law_755 : decode cL_law 755 = .ok (.iload_n 3, 1) := by decide +kernel
theorem dL_law_756 : decode cL_law 756 = .ok (.iconst 1, 1) := by decide +kernel
theorem dL_law_757 : decode cL_law 757 = .ok (.iadd, 1) := by decide +kernel
theorem dL_law_758 : decode cL_law 758 = .ok (.iaload, 1) := by decide +kernel
theorem dL_law_759 : decode cL_law 759 = .ok (.aload_n 0, 1) := by decide +kernel
theorem dL_law_760 : decode cL_law 760 = .ok (.iload_n 3, 1) := by decide +kernel
theorem dL_law_761 : decode cL_law 761 = .ok (.iconst 2, 1) := by decide +kernel
theorem dL_law_762 : decode cL_law 762 = .ok (.iadd, 1) := by decide +kernel
theorem dL_law_763 : decode cL_law 763 = .ok (.iaload, 1) := by decide +kernel
theorem dL_law_764 : decode cL_law 764 = .ok (.invokevirtual 97, 3) := by decide +kernel
theorem dL_law_767 : decode cL_law 767 = .ok (.if_icmp .eq 608, 3) := by decide +kernel
theorem dL_law_770 : decode cL_law 770 = .ok (.iconst 0, 1) := by decide +kernel
theorem dL_law_771 : decode cL_law 771 = .ok (.ireturn, 1) := by decide +kernel
theorem dL_law_772 : decode cL_law 772 = .ok (.aload_n 1, 1) := by decide +kernel
theorem dL_law_773 : decode cL_law 773 = .ok (.invokevirtual 98, 3) := by decide +kernel
theorem dL_law_776 : decode cL_law 776 = .ok (.aload_n 2, 1) := by decide +kernel
theorem dL_law_777 : decode cL_law 777 = .ok (.invokevirtual 101, 3) := by decide +kernel
theorem dL_law_780 : decode cL_law 780 = .ok (.if_icmp .eq 595, 3) := by decide +kernel
theorem dL_law_783 : decode cL_law 783 = .ok (.iconst 0, 1) := by decide +kernel
theorem dL_law_784 : decode cL_law 784 = .ok (.ireturn, 1) := by decide +kernel
theorem dL_law_785 : decode cL_law 785 = .ok (.aload_n 1, 1) := by decide +kernel
theorem dL_law_786 : decode cL_law 786 = .ok (.aload_n 0, 1) := by decide +kernel
theorem dL_law_787 : decode cL_law 787 = .ok (.iload_n 3, 1) := by decide +kernel
theorem dL_law_788 : decode cL_law 788 = .ok (.iconst 1, 1) := by decide +kernel
theorem dL_law_789 : decode cL_law 789 = .ok (.iadd, 1) := by decide +kernel
theorem dL_law_790 : decode cL_law 790 = .ok (.iaload, 1) := by decide +kernel
theorem dL_law_791 : decode cL_law 791 = .ok (.invokevirtual 102, 3) := by decide +kernel
theorem dL_law_794 : decode cL_law 794 = .ok (.aload_n 2, 1) := by decide +kernel
theorem dL_law_795 : decode cL_law 795 = .ok (.aload_n 0, 1) := by decide +kernel
theorem dL_law_796 : decode cL_law 796 = .ok (.iload_n 3, 1) := by decide +kernel
theorem dL_law_797 : decode cL_law 797 = .ok (.iconst 1, 1) := by decide +kernel
theorem dL_law_798 : decode cL_law 798 = .ok (.iadd, 1) := by decide +kernel
theorem dL_law_799 : decode cL_law 799 = .ok (.iaload, 1) := by decide +kernel
theorem dL_law_800 : decode cL_law 800 = .ok (.invokevirtual 105, 3) := by decide +kernel
theorem dL_law_803 : decode cL_law 803 = .ok (.if_icmp .eq 572, 3) := by decide +kernel
theorem dL_law_806 : decode cL_law 806 = .ok (.iconst 0, 1) := by decide +kernel
theorem dL_law_807 : decode cL_law 807 = .ok (.ireturn, 1) := by decide +kernel
theorem dL_law_808 : decode cL_law 808 = .ok (.aload_n 1, 1) := by decide +kernel
theorem dL_law_809 : decode cL_law 809 = .ok (.aload_n 0, 1) := by decide +kernel
theorem dL_law_810 : decode cL_law 810 = .ok (.iload_n 3, 1) := by decide +kernel
theorem dL_law_811 : decode cL_law 811 = .ok (.iconst 1, 1) := by decide +kernel
theorem dL_law_812 : decode cL_law 812 = .ok (.iadd, 1) := by decide +kernel
theorem dL_law_813 : decode cL_law 813 = .ok (.iaload, 1) := by decide +kernel
theorem dL_law_814 : decode cL_law 814 = .ok (.aload_n 0, 1) := by decide +kernel
theorem dL_law_815 : decode cL_law 815 = .ok (.iload_n 3, 1) := by decide +kernel
theorem dL_law_816 : decode cL_law 816 = .ok (.iconst 2, 1) := by decide +kernel
theorem dL_law_817 : decode cL_law 817 = .ok (.iadd, 1) := by decide +kernel
theorem dL_law_818 : decode cL_law 818 = .ok (.iaload, 1) := by decide +kernel
theorem dL_law_819 : decode cL_law 819 = .ok (.aload_n 0, 1) := by decide +kernel
theorem dL_law_820 : decode cL_law 820 = .ok (.iload_n 3, 1) := by decide +kernel
theorem dL_law_821 : decode cL_law 821 = .ok (.iconst 3, 1) := by decide +kernel
theorem dL_law_822 : decode cL_law 822 = .ok (.iadd, 1) := by decide +kernel
theorem dL_law_823 : decode cL_law 823 = .ok (.iaload, 1) := by decide +kernel
theorem dL_law_824 : decode cL_law 824 = .ok (.invokevirtual 106, 3) := by decide +kernel
theorem dL_law_827 : decode cL_law 827 = .ok (.aload_n 2, 1) := by decide +kernel
theorem dL_law_828 : decode cL_law 828 = .ok (.aload_n 0, 1) := by decide +kernel
theorem dL_law_829 : decode cL_law 829 = .ok (.iload_n 3, 1) := by decide +kernel
theorem dL_law_830 : decode cL_law 830 = .ok (.iconst 1, 1) := by decide +kernel
theorem dL_law_831 : decode cL_law 831 = .ok (.iadd, 1) := by decide +kernel
theorem dL_law_832 : decode cL_law 832 = .ok (.iaload, 1) := by decide +kernel
theorem dL_law_833 : decode cL_law 833 = .ok (.aload_n 0, 1) := by decide +kernel
theorem dL_law_834 : decode cL_law 834 = .ok (.iload_n 3, 1) := by decide +kernel
theorem dL_law_835 : decode cL_law 835 = .ok (.iconst 2, 1) := by decide +kernel
theorem dL_law_836 : decode cL_law 836 = .ok (.iadd, 1) := by decide +kernel
theorem dL_law_837 : decode cL_law 837 = .ok (.iaload, 1) := by decide +kernel
theorem dL_law_838 : decode cL_law 838 = .ok (.aload_n 0, 1) := by decide +kernel
theorem dL_law_839 : decode cL_law 839 = .ok (.iload_n 3, 1) := by decide +kernel
theorem dL_law_840 : decode cL_law 840 = .ok (.iconst 3, 1) := by decide +kernel
theorem dL_law_841 : decode cL_law 841 = .ok (.iadd, 1) := by decide +kernel
theorem dL_law_842 : decode cL_law 842 = .ok (.iaload, 1) := by decide +kernel
theorem dL_law_843 : decode cL_law 843 = .ok (.invokevirtual 109, 3) := by decide +kernel
theorem dL_law_846 : decode cL_law 846 = .ok (.if_icmp .eq 529, 3) := by decide +kernel
theorem dL_law_849 : decode cL_law 849 = .ok (.iconst 0, 1) := by decide +kernel
theorem dL_law_850 : decode cL_law 850 = .ok (.ireturn, 1) := by decide +kernel
theorem dL_law_851 : decode cL_law 851 = .ok (.aload_n 1, 1) := by decide +kernel
theorem dL_law_852 : decode cL_law 852 = .ok (.aload_n 0, 1) := by decide +kernel
theorem dL_law_853 : decode cL_law 853 = .ok (.iload_n 3, 1) := by decide +kernel
theorem dL_law_854 : decode cL_law 854 = .ok (.iconst 1, 1) := by decide +kernel
theorem dL_law_855 : decode cL_law 855 = .ok (.iadd, 1) := by decide +kernel
theorem dL_law_856 : decode cL_law 856 = .ok (.iaload, 1) := by decide +kernel
theorem dL_law_857 : decode cL_law 857 = .ok (.invokevirtual 110, 3) := by decide +kernel
theorem dL_law_860 : decode cL_law 860 = .ok (.aload_n 2, 1) := by decide +kernel
theorem dL_law_861 : decode cL_law 861 = .ok (.aload_n 0, 1) := by decide +kernel
theorem dL_law_862 : decode cL_law 862 = .ok (.iload_n 3, 1) := by decide +kernel
theorem dL_law_863 : decode cL_law 863 = .ok (.iconst 1, 1) := by decide +kernel
theorem dL_law_864 : decode cL_law 864 = .ok (.iadd, 1) := by decide +kernel
theorem dL_law_865 : decode cL_law 865 = .ok (.iaload, 1) := by decide +kernel
theorem dL_law_866 : decode cL_law 866 = .ok (.invokevirtual 113, 3) := by decide +kernel
theorem dL_law_869 : decode cL_law 869 = .ok (.if_icmp .eq 506, 3) := by decide +kernel
theorem dL_law_872 : decode cL_law 872 = .ok (.iconst 0, 1) := by decide +kernel
theorem dL_law_873 : decode cL_law 873 = .ok (.ireturn, 1) := by decide +kernel
theorem dL_law_874 : decode cL_law 874 = .ok (.aload_n 1, 1) := by decide +kernel
theorem dL_law_875 : decode cL_law 875 = .ok (.invokevirtual 114, 3) := by decide +kernel
theorem dL_law_878 : decode cL_law 878 = .ok (.aload_n 2, 1) := by decide +kernel
theorem dL_law_879 : decode cL_law 879 = .ok (.invokevirtual 117, 3) := by decide +kernel
theorem dL_law_882 : decode cL_law 882 = .ok (.if_icmp .eq 493, 3) := by decide +kernel
theorem dL_law_885 : decode cL_law 885 = .ok (.iconst 0, 1) := by decide +kernel
theorem dL_law_886 : decode cL_law 886 = .ok (.ireturn, 1) := by decide +kernel
theorem dL_law_887 : decode cL_law 887 = .ok (.aload_n 1, 1) := by decide +kernel
theorem dL_law_888 : decode cL_law 888 = .ok (.aload_n 0, 1) := by decide +kernel
theorem dL_law_889 : decode cL_law 889 = .ok (.iload_n 3, 1) := by decide +kernel
theorem dL_law_890 : decode cL_law 890 = .ok (.iconst 1, 1) := by decide +kernel
theorem dL_law_891 : decode cL_law 891 = .ok (.iadd, 1) := by decide +kernel
theorem dL_law_892 : decode cL_law 892 = .ok (.iaload, 1) := by decide +kernel
theorem dL_law_893 : decode cL_law 893 = .ok (.aload_n 0, 1) := by decide +kernel
theorem dL_law_894 : decode cL_law 894 = .ok (.iload_n 3, 1) := by decide +kernel
theorem dL_law_895 : decode cL_law 895 = .ok (.iconst 2, 1) := by decide +kernel
theorem dL_law_896 : decode cL_law 896 = .ok (.iadd, 1) := by decide +kernel
theorem dL_law_897 : decode cL_law 897 = .ok (.iaload, 1) := by decide +kernel
theorem dL_law_898 : decode cL_law 898 = .ok (.invokevirtual 118, 3) := by decide +kernel
theorem dL_law_901 : decode cL_law 901 = .ok (.aload_n 2, 1) := by decide +kernel
theorem dL_law_902 : decode cL_law 902 = .ok (.aload_n 0, 1) := by decide +kernel
theorem dL_law_903 : decode cL_law 903 = .ok (.iload_n 3, 1) := by decide +kernel
theorem dL_law_904 : decode cL_law 904 = .ok (.iconst 1, 1) := by decide +kernel
theorem dL_law_905 : decode cL_law 905 = .ok (.iadd, 1) := by decide +kernel
theorem dL_law_906 : decode cL_law 906 = .ok (.iaload, 1) := by decide +kernel
theorem dL_law_907 : decode cL_law 907 = .ok (.aload_n 0, 1) := by decide +kernel
theorem dL_law_908 : decode cL_law 908 = .ok (.iload_n 3, 1) := by decide +kernel
theorem dL_law_909 : decode cL_law 909 = .ok (.iconst 2, 1) := by decide +kernel
theorem dL_law_910 : decode cL_law 910 = .ok (.iadd, 1) := by decide +kernel
theorem dL_law_911 : decode cL_law 911 = .ok (.iaload, 1) := by decide +kernel
theorem dL_law_912 : decode cL_law 912 = .ok (.invokevirtual 121, 3) := by decide +kernel
theorem dL_law_915 : decode cL_law 915 = .ok (.if_icmp .eq 460, 3) := by decide +kernel
theorem dL_law_918 : decode cL_law 918 = .ok (.iconst 0, 1) := by decide +kernel
theorem dL_law_919 : decode cL_law 919 = .ok (.ireturn, 1) := by decide +kernel
theorem dL_law_920 : decode cL_law 920 = .ok (.aload_n 1, 1) := by decide +kernel
theorem dL_law_921 : decode cL_law 921 = .ok (.aload_n 0, 1) := by decide +kernel
theorem dL_law_922 : decode cL_law 922 = .ok (.iload_n 3, 1) := by decide +kernel
theorem dL_law_923 : decode cL_law 923 = .ok (.iconst 1, 1) := by decide +kernel
theorem dL_law_924 : decode cL_law 924 = .ok (.iadd, 1) := by decide +kernel
theorem dL_law_925 : decode cL_law 925 = .ok (.iaload, 1) := by decide +kernel
theorem dL_law_926 : decode cL_law 926 = .ok (.invokevirtual 122, 3) := by decide +kernel
theorem dL_law_929 : decode cL_law 929 = .ok (.aload_n 2, 1) := by decide +kernel
theorem dL_law_930 : decode cL_law 930 = .ok (.aload_n 0, 1) := by decide +kernel
theorem dL_law_931 : decode cL_law 931 = .ok (.iload_n 3, 1) := by decide +kernel
theorem dL_law_932 : decode cL_law 932 = .ok (.iconst 1, 1) := by decide +kernel
theorem dL_law_933 : decode cL_law 933 = .ok (.iadd, 1) := by decide +kernel
theorem dL_law_934 : decode cL_law 934 = .ok (.iaload, 1) := by decide +kernel
theorem dL_law_935 : decode cL_law 935 = .ok (.invokevirtual 125, 3) := by decide +kernel
theorem dL_law_938 : decode cL_law 938 = .ok (.if_icmp .eq 437, 3) := by decide +kernel
theorem dL_law_941 : decode cL_law 941 = .ok (.iconst 0, 1) := by decide +kernel
theorem dL_law_942 : decode cL_law 942 = .ok (.ireturn, 1) := by decide +kernel
theorem dL_law_943 : decode cL_law 943 = .ok (.aload_n 1, 1) := by decide +kernel
theorem dL_law_944 : decode cL_law 944 = .ok (.aload_n 0, 1) := by decide +kernel
theorem dL_law_945 : decode cL_law 945 = .ok (.iload_n 3, 1) := by decide +kernel
theorem dL_law_946 : decode cL_law 946 = .ok (.iconst 1, 1) := by decide +kernel
theorem dL_law_947 : decode cL_law 947 = .ok (.iadd, 1) := by decide +kernel
theorem dL_law_948 : decode cL_law 948 = .ok (.iaload, 1) := by decide +kernel
theorem dL_law_949 : decode cL_law 949 = .ok (.aload_n 0, 1) := by decide +kernel
theorem dL_law_950 : decode cL_law 950 = .ok (.iload_n 3, 1) := by decide +kernel
theorem dL_law_951 : decode cL_law 951 = .ok (.iconst 2, 1) := by decide +kernel
theorem dL_law_952 : decode cL_law 952 = .ok (.iadd, 1) := by decide +kernel
theorem dL_law_953 : decode cL_law 953 = .ok (.iaload, 1) := by decide +kernel
theorem dL_law_954 : decode cL_law 954 = .ok (.aload_n 0, 1) := by decide +kernel
theorem dL_law_955 : decode cL_law 955 = .ok (.iload_n 3, 1) := by decide +kernel
theorem dL_law_956 : decode cL_law 956 = .ok (.iconst 3, 1) := by decide +kernel
theorem dL_law_957 : decode cL_law 957 = .ok (.iadd, 1) := by decide +kernel
theorem dL_law_958 : decode cL_law 958 = .ok (.iaload, 1) := by decide +kernel
theorem dL_law_959 : decode cL_law 959 = .ok (.invokevirtual 126, 3) := by decide +kernel
theorem dL_law_962 : decode cL_law 962 = .ok (.aload_n 2, 1) := by decide +kernel
theorem dL_law_963 : decode cL_law 963 = .ok (.aload_n 0, 1) := by decide +kernel
theorem dL_law_964 : decode cL_law 964 = .ok (.iload_n 3, 1) := by decide +kernel
theorem dL_law_965 : decode cL_law 965 = .ok (.iconst 1, 1) := by decide +kernel
theorem dL_law_966 : decode cL_law 966 = .ok (.iadd, 1) := by decide +kernel
theorem dL_law_967 : decode cL_law 967 = .ok (.iaload, 1) := by decide +kernel
theorem dL_law_968 : decode cL_law 968 = .ok (.aload_n 0, 1) := by decide +kernel
theorem dL_law_969 : decode cL_law 969 = .ok (.iload_n 3, 1) := by decide +kernel
theorem dL_law_970 : decode cL_law 970 = .ok (.iconst 2, 1) := by decide +kernel
theorem dL_law_971 : decode cL_law 971 = .ok (.iadd, 1) := by decide +kernel
theorem dL_law_972 : decode cL_law 972 = .ok (.iaload, 1) := by decide +kernel
theorem dL_law_973 : decode cL_law 973 = .ok (.aload_n 0, 1) := by decide +kernel
theorem dL_law_974 : decode cL_law 974 = .ok (.iload_n 3, 1) := by decide +kernel
theorem dL_law_975 : decode cL_law 975 = .ok (.iconst 3, 1) := by decide +kernel
theorem dL_law_976 : decode cL_law 976 = .ok (.iadd, 1) := by decide +kernel
theorem dL_law_977 : decode cL_law 977 = .ok (.iaload, 1) := by decide +kernel
theorem dL_law_978 : decode cL_law 978 = .ok (.invokevirtual 129, 3) := by decide +kernel
theorem dL_law_981 : decode cL_law 981 = .ok (.if_icmp .eq 394, 3) := by decide +kernel
theorem dL_law_984 : decode cL_law 984 = .ok (.iconst 0, 1) := by decide +kernel
theorem dL_law_985 : decode cL_law 985 = .ok (.ireturn, 1) := by decide +kernel
theorem dL_law_986 : decode cL_law 986 = .ok (.aload_n 1, 1) := by decide +kernel
theorem dL_law_987 : decode cL_law 987 = .ok (.aload_n 0, 1) := by decide +kernel
theorem dL_law_988 : decode cL_law 988 = .ok (.iload_n 3, 1) := by decide +kernel
theorem dL_law_989 : decode cL_law 989 = .ok (.iconst 1, 1) := by decide +kernel
theorem dL_law_990 : decode cL_law 990 = .ok (.iadd, 1) := by decide +kernel
theorem dL_law_991 : decode cL_law 991 = .ok (.iaload, 1) := by decide +kernel
theorem dL_law_992 : decode cL_law 992 = .ok (.aload_n 0, 1) := by decide +kernel
theorem dL_law_993 : decode cL_law 993 = .ok (.iload_n 3, 1) := by decide +kernel
theorem dL_law_994 : decode cL_law 994 = .ok (.iconst 2, 1) := by decide +kernel
theorem dL_law_995 : decode cL_law 995 = .ok (.iadd, 1) := by decide +kernel
theorem dL_law_996 : decode cL_law 996 = .ok (.iaload, 1) := by decide +kernel
theorem dL_law_997 : decode cL_law 997 = .ok (.aload_n 0, 1) := by decide +kernel
theorem dL_law_998 : decode cL_law 998 = .ok (.iload_n 3, 1) := by decide +kernel
theorem dL_law_999 : decode cL_law 999 = .ok (.iconst 3, 1) := by decide +kernel
theorem dL_law_1000 : decode cL_law 1000 = .ok (.iadd, 1) := by decide +kernel
theorem dL_law_1001 : decode cL_law 1001 = .ok (.iaload, 1) := by decide +kernel
theorem dL_law_1002 : decode cL_law 1002 = .ok (.invokevirtual 130, 3) := by decide +kernel
theorem dL_law_1005 : decode cL_law 1005 = .ok (.aload_n 2, 1) := by decide +kernel
theorem dL_law_1006 : decode cL_law 1006 = .ok (.aload_n 0, 1) := by decide +kernel
theorem dL_law_1007 : decode cL_law 1007 = .ok (.iload_n 3, 1) := by decide +kernel
theorem dL_law_1008 : decode cL_law 1008 = .ok (.iconst 1, 1) := by decide +kernel
theorem dL_law_1009 : decode cL_law 1009 = .ok (.iadd, 1) := by decide +kernel
theorem dL_law_1010 : decode cL_law 1010 = .ok (.iaload, 1) := by decide +kernel
theorem dL_law_1011 : decode cL_law 1011 = .ok (.aload_n 0, 1) := by decide +kernel
theorem dL_law_1012 : decode cL_law 1012 = .ok (.iload_n 3, 1) := by decide +kernel
theorem dL_law_1013 : decode cL_law 1013 = .ok (.iconst 2, 1) := by decide +kernel
theorem dL_law_1014 : decode cL_law 1014 = .ok (.iadd, 1) := by decide +kernel
theorem dL_law_1015 : decode cL_law 1015 = .ok (.iaload, 1) := by decide +kernel
theorem dL_law_1016 : decode cL_law 1016 = .ok (.aload_n 0, 1) := by decide +kernel
theorem dL_law_1017 : decode cL_law 1017 = .ok (.iload_n 3, 1) := by decide +kernel
theorem dL_law_1018 : decode cL_law 1018 = .ok (.iconst 3, 1) := by decide +kernel
theorem dL_law_1019 : decode cL_law 1019 = .ok (.iadd, 1) := by decide +kernel
theorem dL_law_1020 : decode cL_law 1020 = .ok (.iaload, 1) := by decide +kernel
theorem dL_law_1021 : decode cL_law 1021 = .ok (.invokevirtual 133, 3) := by decide +kernel
theorem dL_law_1024 : decode cL_law 1024 = .ok (.if_icmp .eq 351, 3) := by decide +kernel
theorem dL_law_1027 : decode cL_law 1027 = .ok (.iconst 0, 1) := by decide +kernel
theorem dL_law_1028 : decode cL_law 1028 = .ok (.ireturn, 1) := by decide +kernel
theorem dL_law_1029 : decode cL_law 1029 = .ok (.aload_n 1, 1) := by decide +kernel
theorem dL_law_1030 : decode cL_law 1030 = .ok (.aload_n 0, 1) := by decide +kernel
theorem dL_law_1031 : decode cL_law 1031 = .ok (.iload_n 3, 1) := by decide +kernel
theorem dL_law_1032 : decode cL_law 1032 = .ok (.iconst 1, 1) := by decide +kernel
theorem dL_law_1033 : decode cL_law 1033 = .ok (.iadd, 1) := by decide +kernel
theorem dL_law_1034 : decode cL_law 1034 = .ok (.iaload, 1) := by decide +kernel
theorem dL_law_1035 : decode cL_law 1035 = .ok (.invokevirtual 134, 3) := by decide +kernel
theorem dL_law_1038 : decode cL_law 1038 = .ok (.aload_n 2, 1) := by decide +kernel
theorem dL_law_1039 : decode cL_law 1039 = .ok (.aload_n 0, 1) := by decide +kernel
theorem dL_law_1040 : decode cL_law 1040 = .ok (.iload_n 3, 1) := by decide +kernel
theorem dL_law_1041 : decode cL_law 1041 = .ok (.iconst 1, 1) := by decide +kernel
theorem dL_law_1042 : decode cL_law 1042 = .ok (.iadd, 1) := by decide +kernel
theorem dL_law_1043 : decode cL_law 1043 = .ok (.iaload, 1) := by decide +kernel
theorem dL_law_1044 : decode cL_law 1044 = .ok (.invokevirtual 137, 3) := by decide +kernel
theorem dL_law_1047 : decode cL_law 1047 = .ok (.if_icmp .eq 328, 3) := by decide +kernel
theorem dL_law_1050 : decode cL_law 1050 = .ok (.iconst 0, 1) := by decide +kernel
theorem dL_law_1051 : decode cL_law 1051 = .ok (.ireturn, 1) := by decide +kernel
theorem dL_law_1052 : decode cL_law 1052 = .ok (.aload_n 1, 1) := by decide +kernel
theorem dL_law_1053 : decode cL_law 1053 = .ok (.aload_n 0, 1) := by decide +kernel
theorem dL_law_1054 : decode cL_law 1054 = .ok (.iload_n 3, 1) := by decide +kernel
theorem dL_law_1055 : decode cL_law 1055 = .ok (.iconst 1, 1) := by decide +kernel
theorem dL_law_1056 : decode cL_law 1056 = .ok (.iadd, 1) := by decide +kernel
theorem dL_law_1057 : decode cL_law 1057 = .ok (.iaload, 1) := by decide +kernel
theorem dL_law_1058 : decode cL_law 1058 = .ok (.invokevirtual 138, 3) := by decide +kernel
theorem dL_law_1061 : decode cL_law 1061 = .ok (.aload_n 2, 1) := by decide +kernel
theorem dL_law_1062 : decode cL_law 1062 = .ok (.aload_n 0, 1) := by decide +kernel
theorem dL_law_1063 : decode cL_law 1063 = .ok (.iload_n 3, 1) := by decide +kernel
theorem dL_law_1064 : decode cL_law 1064 = .ok (.iconst 1, 1) := by decide +kernel
theorem dL_law_1065 : decode cL_law 1065 = .ok (.iadd, 1) := by decide +kernel
theorem dL_law_1066 : decode cL_law 1066 = .ok (.iaload, 1) := by decide +kernel
theorem dL_law_1067 : decode cL_law 1067 = .ok (.invokevirtual 141, 3) := by decide +kernel
theorem dL_law_1070 : decode cL_law 1070 = .ok (.if_icmp .eq 305, 3) := by decide +kernel
theorem dL_law_1073 : decode cL_law 1073 = .ok (.iconst 0, 1) := by decide +kernel
theorem dL_law_1074 : decode cL_law 1074 = .ok (.ireturn, 1) := by decide +kernel
theorem dL_law_1075 : decode cL_law 1075 = .ok (.aload_n 1, 1) := by decide +kernel
theorem dL_law_1076 : decode cL_law 1076 = .ok (.aload_n 0, 1) := by decide +kernel
theorem dL_law_1077 : decode cL_law 1077 = .ok (.iload_n 3, 1) := by decide +kernel
theorem dL_law_1078 : decode cL_law 1078 = .ok (.iconst 1, 1) := by decide +kernel
theorem dL_law_1079 : decode cL_law 1079 = .ok (.iadd, 1) := by decide +kernel
theorem dL_law_1080 : decode cL_law 1080 = .ok (.iaload, 1) := by decide +kernel
theorem dL_law_1081 : decode cL_law 1081 = .ok (.aload_n 0, 1) := by decide +kernel
theorem dL_law_1082 : decode cL_law 1082 = .ok (.iload_n 3, 1) := by decide +kernel
theorem dL_law_1083 : decode cL_law 1083 = .ok (.iconst 2, 1) := by decide +kernel
theorem dL_law_1084 : decode cL_law 1084 = .ok (.iadd, 1) := by decide +kernel
theorem dL_law_1085 : decode cL_law 1085 = .ok (.iaload, 1) := by decide +kernel
theorem dL_law_1086 : decode cL_law 1086 = .ok (.aload_n 0, 1) := by decide +kernel
theorem dL_law_1087 : decode cL_law 1087 = .ok (.iload_n 3, 1) := by decide +kernel
theorem dL_law_1088 : decode cL_law 1088 = .ok (.iconst 3, 1) := by decide +kernel
theorem dL_law_1089 : decode cL_law 1089 = .ok (.iadd, 1) := by decide +kernel
theorem dL_law_1090 : decode cL_law 1090 = .ok (.iaload, 1) := by decide +kernel
theorem dL_law_1091 : decode cL_law 1091 = .ok (.aload_n 0, 1) := by decide +kernel
theorem dL_law_1092 : decode cL_law 1092 = .ok (.iload_n 3, 1) := by decide +kernel
theorem dL_law_1093 : decode cL_law 1093 = .ok (.iconst 4, 1) := by decide +kernel
theorem dL_law_1094 : decode cL_law 1094 = .ok (.iadd, 1) := by decide +kernel
theorem dL_law_1095 : decode cL_law 1095 = .ok (.iaload, 1) := by decide +kernel
theorem dL_law_1096 : decode cL_law 1096 = .ok (.aload_n 0, 1) := by decide +kernel
theorem dL_law_1097 : decode cL_law 1097 = .ok (.iload_n 3, 1) := by decide +kernel
theorem dL_law_1098 : decode cL_law 1098 = .ok (.iconst 5, 1) := by decide +kernel
theorem dL_law_1099 : decode cL_law 1099 = .ok (.iadd, 1) := by decide +kernel
theorem dL_law_1100 : decode cL_law 1100 = .ok (.iaload, 1) := by decide +kernel
theorem dL_law_1101 : decode cL_law 1101 = .ok (.invokevirtual 142, 3) := by decide +kernel
theorem dL_law_1104 : decode cL_law 1104 = .ok (.aload_n 2, 1) := by decide +kernel
theorem dL_law_1105 : decode cL_law 1105 = .ok (.aload_n 0, 1) := by decide +kernel
theorem dL_law_1106 : decode cL_law 1106 = .ok (.iload_n 3, 1) := by decide +kernel
theorem dL_law_1107 : decode cL_law 1107 = .ok (.iconst 1, 1) := by decide +kernel
theorem dL_law_1108 : decode cL_law 1108 = .ok (.iadd, 1) := by decide +kernel
theorem dL_law_1109 : decode cL_law 1109 = .ok (.iaload, 1) := by decide +kernel
theorem dL_law_1110 : decode cL_law 1110 = .ok (.aload_n 0, 1) := by decide +kernel
theorem dL_law_1111 : decode cL_law 1111 = .ok (.iload_n 3, 1) := by decide +kernel
theorem dL_law_1112 : decode cL_law 1112 = .ok (.iconst 2, 1) := by decide +kernel
theorem dL_law_1113 : decode cL_law 1113 = .ok (.iadd, 1) := by decide +kernel
theorem dL_law_1114 : decode cL_law 1114 = .ok (.iaload, 1) := by decide +kernel
theorem dL_law_1115 : decode cL_law 1115 = .ok (.aload_n 0, 1) := by decide +kernel
theorem dL_law_1116 : decode cL_law 1116 = .ok (.iload_n 3, 1) := by decide +kernel
theorem dL_law_1117 : decode cL_law 1117 = .ok (.iconst 3, 1) := by decide +kernel
theorem dL_law_1118 : decode cL_law 1118 = .ok (.iadd, 1) := by decide +kernel
theorem dL_law_1119 : decode cL_law 1119 = .ok (.iaload, 1) := by decide +kernel
theorem dL_law_1120 : decode cL_law 1120 = .ok (.aload_n 0, 1) := by decide +kernel
theorem dL_law_1121 : decode cL_law 1121 = .ok (.iload_n 3, 1) := by decide +kernel
theorem dL_law_1122 : decode cL_law 1122 = .ok (.iconst 4, 1) := by decide +kernel
theorem dL_law_1123 : decode cL_law 1123 = .ok (.iadd, 1) := by decide +kernel
theorem dL_law_1124 : decode cL_law 1124 = .ok (.iaload, 1) := by decide +kernel
theorem dL_law_1125 : decode cL_law 1125 = .ok (.aload_n 0, 1) := by decide +kernel
theorem dL_law_1126 : decode cL_law 1126 = .ok (.iload_n 3, 1) := by decide +kernel
theorem dL_law_1127 : decode cL_law 1127 = .ok (.iconst 5, 1) := by decide +kernel
theorem dL_law_1128 : decode cL_law 1128 = .ok (.iadd, 1) := by decide +kernel
theorem dL_law_1129 : decode cL_law 1129 = .ok (.iaload, 1) := by decide +kernel
theorem dL_law_1130 : decode cL_law 1130 = .ok (.invokevirtual 146, 3) := by decide +kernel
theorem dL_law_1133 : decode cL_law 1133 = .ok (.if_icmp .eq 242, 3) := by decide +kernel
theorem dL_law_1136 : decode cL_law 1136 = .ok (.iconst 0, 1) := by decide +kernel
theorem dL_law_1137 : decode cL_law 1137 = .ok (.ireturn, 1) := by decide +kernel
theorem dL_law_1138 : decode cL_law 1138 = .ok (.aload_n 1, 1) := by decide +kernel
theorem dL_law_1139 : decode cL_law 1139 = .ok (.aload_n 0, 1) := by decide +kernel
theorem dL_law_1140 : decode cL_law 1140 = .ok (.iload_n 3, 1) := by decide +kernel
theorem dL_law_1141 : decode cL_law 1141 = .ok (.iconst 1, 1) := by decide +kernel
theorem dL_law_1142 : decode cL_law 1142 = .ok (.iadd, 1) := by decide +kernel
theorem dL_law_1143 : decode cL_law 1143 = .ok (.iaload, 1) := by decide +kernel
theorem dL_law_1144 : decode cL_law 1144 = .ok (.aload_n 0, 1) := by decide +kernel
theorem dL_law_1145 : decode cL_law 1145 = .ok (.iload_n 3, 1) := by decide +kernel
theorem dL_law_1146 : decode cL_law 1146 = .ok (.iconst 2, 1) := by decide +kernel
theorem dL_law_1147 : decode cL_law 1147 = .ok (.iadd, 1) := by decide +kernel
theorem dL_law_1148 : decode cL_law 1148 = .ok (.iaload, 1) := by decide +kernel
theorem dL_law_1149 : decode cL_law 1149 = .ok (.aload_n 0, 1) := by decide +kernel
theorem dL_law_1150 : decode cL_law 1150 = .ok (.iload_n 3, 1) := by decide +kernel
theorem dL_law_1151 : decode cL_law 1151 = .ok (.iconst 3, 1) := by decide +kernel
theorem dL_law_1152 : decode cL_law 1152 = .ok (.iadd, 1) := by decide +kernel
theorem dL_law_1153 : decode cL_law 1153 = .ok (.iaload, 1) := by decide +kernel
theorem dL_law_1154 : decode cL_law 1154 = .ok (.invokevirtual 147, 3) := by decide +kernel
theorem dL_law_1157 : decode cL_law 1157 = .ok (.aload_n 2, 1) := by decide +kernel
theorem dL_law_1158 : decode cL_law 1158 = .ok (.aload_n 0, 1) := by decide +kernel
theorem dL_law_1159 : decode cL_law 1159 = .ok (.iload_n 3, 1) := by decide +kernel
theorem dL_law_1160 : decode cL_law 1160 = .ok (.iconst 1, 1) := by decide +kernel
theorem dL_law_1161 : decode cL_law 1161 = .ok (.iadd, 1) := by decide +kernel
theorem dL_law_1162 : decode cL_law 1162 = .ok (.iaload, 1) := by decide +kernel
theorem dL_law_1163 : decode cL_law 1163 = .ok (.aload_n 0, 1) := by decide +kernel
theorem dL_law_1164 : decode cL_law 1164 = .ok (.iload_n 3, 1) := by decide +kernel
theorem dL_law_1165 : decode cL_law 1165 = .ok (.iconst 2, 1) := by decide +kernel
theorem dL_law_1166 : decode cL_law 1166 = .ok (.iadd, 1) := by decide +kernel
theorem dL_law_1167 : decode cL_law 1167 = .ok (.iaload, 1) := by decide +kernel
theorem dL_law_1168 : decode cL_law 1168 = .ok (.aload_n 0, 1) := by decide +kernel
theorem dL_law_1169 : decode cL_law 1169 = .ok (.iload_n 3, 1) := by decide +kernel
theorem dL_law_1170 : decode cL_law 1170 = .ok (.iconst 3, 1) := by decide +kernel
theorem dL_law_1171 : decode cL_law 1171 = .ok (.iadd, 1) := by decide +kernel
theorem dL_law_1172 : decode cL_law 1172 = .ok (.iaload, 1) := by decide +kernel
theorem dL_law_1173 : decode cL_law 1173 = .ok (.invokevirtual 150, 3) := by decide +kernel
theorem dL_law_1176 : decode cL_law 1176 = .ok (.if_icmp .eq 199, 3) := by decide +kernel
theorem dL_law_1179 : decode cL_law 1179 = .ok (.iconst 0, 1) := by decide +kernel
theorem dL_law_1180 : decode cL_law 1180 = .ok (.ireturn, 1) := by decide +kernel
theorem dL_law_1181 : decode cL_law 1181 = .ok (.aload_n 1, 1) := by decide +kernel
theorem dL_law_1182 : decode cL_law 1182 = .ok (.aload_n 0, 1) := by decide +kernel
theorem dL_law_1183 : decode cL_law 1183 = .ok (.iload_n 3, 1) := by decide +kernel
theorem dL_law_1184 : decode cL_law 1184 = .ok (.iconst 1, 1) := by decide +kernel
theorem dL_law_1185 : decode cL_law 1185 = .ok (.iadd, 1) := by decide +kernel
theorem dL_law_1186 : decode cL_law 1186 = .ok (.iaload, 1) := by decide +kernel
theorem dL_law_1187 : decode cL_law 1187 = .ok (.aload_n 0, 1) := by decide +kernel
theorem dL_law_1188 : decode cL_law 1188 = .ok (.iload_n 3, 1) := by decide +kernel
theorem dL_law_1189 : decode cL_law 1189 = .ok (.iconst 2, 1) := by decide +kernel
theorem dL_law_1190 : decode cL_law 1190 = .ok (.iadd, 1) := by decide +kernel
theorem dL_law_1191 : decode cL_law 1191 = .ok (.iaload, 1) := by decide +kernel
theorem dL_law_1192 : decode cL_law 1192 = .ok (.invokevirtual 151, 3) := by decide +kernel
theorem dL_law_1195 : decode cL_law 1195 = .ok (.aload_n 2, 1) := by decide +kernel
theorem dL_law_1196 : decode cL_law 1196 = .ok (.aload_n 0, 1) := by decide +kernel
theorem dL_law_1197 : decode cL_law 1197 = .ok (.iload_n 3, 1) := by decide +kernel
theorem dL_law_1198 : decode cL_law 1198 = .ok (.iconst 1, 1) := by decide +kernel
theorem dL_law_1199 : decode cL_law 1199 = .ok (.iadd, 1) := by decide +kernel
theorem dL_law_1200 : decode cL_law 1200 = .ok (.iaload, 1) := by decide +kernel
theorem dL_law_1201 : decode cL_law 1201 = .ok (.aload_n 0, 1) := by decide +kernel
theorem dL_law_1202 : decode cL_law 1202 = .ok (.iload_n 3, 1) := by decide +kernel
theorem dL_law_1203 : decode cL_law 1203 = .ok (.iconst 2, 1) := by decide +kernel
theorem dL_law_1204 : decode cL_law 1204 = .ok (.iadd, 1) := by decide +kernel
theorem dL_law_1205 : decode cL_law 1205 = .ok (.iaload, 1) := by decide +kernel
theorem dL_law_1206 : decode cL_law 1206 = .ok (.invokevirtual 154, 3) := by decide +kernel
theorem dL_law_1209 : decode cL_law 1209 = .ok (.if_icmp .eq 166, 3) := by decide +kernel
theorem dL_law_1212 : decode cL_law 1212 = .ok (.iconst 0, 1) := by decide +kernel
theorem dL_law_1213 : decode cL_law 1213 = .ok (.ireturn, 1) := by decide +kernel
theorem dL_law_1214 : decode cL_law 1214 = .ok (.aload_n 1, 1) := by decide +kernel
theorem dL_law_1215 : decode cL_law 1215 = .ok (.aload_n 0, 1) := by decide +kernel
theorem dL_law_1216 : decode cL_law 1216 = .ok (.iload_n 3, 1) := by decide +kernel
theorem dL_law_1217 : decode cL_law 1217 = .ok (.iconst 1, 1) := by decide +kernel
theorem dL_law_1218 : decode cL_law 1218 = .ok (.iadd, 1) := by decide +kernel
theorem dL_law_1219 : decode cL_law 1219 = .ok (.iaload, 1) := by decide +kernel
theorem dL_law_1220 : decode cL_law 1220 = .ok (.aload_n 0, 1) := by decide +kernel
theorem dL_law_1221 : decode cL_law 1221 = .ok (.iload_n 3, 1) := by decide +kernel
theorem dL_law_1222 : decode cL_law 1222 = .ok (.iconst 2, 1) := by decide +kernel
theorem dL_law_1223 : decode cL_law 1223 = .ok (.iadd, 1) := by decide +kernel
theorem dL_law_1224 : decode cL_law 1224 = .ok (.iaload, 1) := by decide +kernel
theorem dL_law_1225 : decode cL_law 1225 = .ok (.invokevirtual 155, 3) := by decide +kernel
theorem dL_law_1228 : decode cL_law 1228 = .ok (.aload_n 2, 1) := by decide +kernel
theorem dL_law_1229 : decode cL_law 1229 = .ok (.aload_n 0, 1) := by decide +kernel
theorem dL_law_1230 : decode cL_law 1230 = .ok (.iload_n 3, 1) := by decide +kernel
theorem dL_law_1231 : decode cL_law 1231 = .ok (.iconst 1, 1) := by decide +kernel
theorem dL_law_1232 : decode cL_law 1232 = .ok (.iadd, 1) := by decide +kernel
theorem dL_law_1233 : decode cL_law 1233 = .ok (.iaload, 1) := by decide +kernel
theorem dL_law_1234 : decode cL_law 1234 = .ok (.aload_n 0, 1) := by decide +kernel
theorem dL_law_1235 : decode cL_law 1235 = .ok (.iload_n 3, 1) := by decide +kernel
theorem dL_law_1236 : decode cL_law 1236 = .ok (.iconst 2, 1) := by decide +kernel
theorem dL_law_1237 : decode cL_law 1237 = .ok (.iadd, 1) := by decide +kernel
theorem dL_law_1238 : decode cL_law 1238 = .ok (.iaload, 1) := by decide +kernel
theorem dL_law_1239 : decode cL_law 1239 = .ok (.invokevirtual 158, 3) := by decide +kernel
theorem dL_law_1242 : decode cL_law 1242 = .ok (.if_icmp .eq 133, 3) := by decide +kernel
theorem dL_law_1245 : decode cL_law 1245 = .ok (.iconst 0, 1) := by decide +kernel
theorem dL_law_1246 : decode cL_law 1246 = .ok (.ireturn, 1) := by decide +kernel
theorem dL_law_1247 : decode cL_law 1247 = .ok (.aload_n 1, 1) := by decide +kernel
theorem dL_law_1248 : decode cL_law 1248 = .ok (.aload_n 0, 1) := by decide +kernel
theorem dL_law_1249 : decode cL_law 1249 = .ok (.iload_n 3, 1) := by decide +kernel
theorem dL_law_1250 : decode cL_law 1250 = .ok (.iconst 1, 1) := by decide +kernel
theorem dL_law_1251 : decode cL_law 1251 = .ok (.iadd, 1) := by decide +kernel
theorem dL_law_1252 : decode cL_law 1252 = .ok (.iaload, 1) := by decide +kernel
theorem dL_law_1253 : decode cL_law 1253 = .ok (.aload_n 0, 1) := by decide +kernel
theorem dL_law_1254 : decode cL_law 1254 = .ok (.iload_n 3, 1) := by decide +kernel
theorem dL_law_1255 : decode cL_law 1255 = .ok (.iconst 2, 1) := by decide +kernel
theorem dL_law_1256 : decode cL_law 1256 = .ok (.iadd, 1) := by decide +kernel
theorem dL_law_1257 : decode cL_law 1257 = .ok (.iaload, 1) := by decide +kernel
theorem dL_law_1258 : decode cL_law 1258 = .ok (.invokevirtual 159, 3) := by decide +kernel
theorem dL_law_1261 : decode cL_law 1261 = .ok (.aload_n 2, 1) := by decide +kernel
theorem dL_law_1262 : decode cL_law 1262 = .ok (.aload_n 0, 1) := by decide +kernel
theorem dL_law_1263 : decode cL_law 1263 = .ok (.iload_n 3, 1) := by decide +kernel
theorem dL_law_1264 : decode cL_law 1264 = .ok (.iconst 1, 1) := by decide +kernel
theorem dL_law_1265 : decode cL_law 1265 = .ok (.iadd, 1) := by decide +kernel
theorem dL_law_1266 : decode cL_law 1266 = .ok (.iaload, 1) := by decide +kernel
theorem dL_law_1267 : decode cL_law 1267 = .ok (.aload_n 0, 1) := by decide +kernel
theorem dL_law_1268 : decode cL_law 1268 = .ok (.iload_n 3, 1) := by decide +kernel
theorem dL_law_1269 : decode cL_law 1269 = .ok (.iconst 2, 1) := by decide +kernel
theorem dL_law_1270 : decode cL_law 1270 = .ok (.iadd, 1) := by decide +kernel
theorem dL_law_1271 : decode cL_law 1271 = .ok (.iaload, 1) := by decide +kernel
theorem dL_law_1272 : decode cL_law 1272 = .ok (.invokevirtual 162, 3) := by decide +kernel
theorem dL_law_1275 : decode cL_law 1275 = .ok (.if_icmp .eq 100, 3) := by decide +kernel
theorem dL_law_1278 : decode cL_law 1278 = .ok (.iconst 0, 1) := by decide +kernel
theorem dL_law_1279 : decode cL_law 1279 = .ok (.ireturn, 1) := by decide +kernel
theorem dL_law_1280 : decode cL_law 1280 = .ok (.aload_n 1, 1) := by decide +kernel
theorem dL_law_1281 : decode cL_law 1281 = .ok (.aload_n 0, 1) := by decide +kernel
theorem dL_law_1282 : decode cL_law 1282 = .ok (.iload_n 3, 1) := by decide +kernel
theorem dL_law_1283 : decode cL_law 1283 = .ok (.iconst 1, 1) := by decide +kernel
theorem dL_law_1284 : decode cL_law 1284 = .ok (.iadd, 1) := by decide +kernel
theorem dL_law_1285 : decode cL_law 1285 = .ok (.iaload, 1) := by decide +kernel
theorem dL_law_1286 : decode cL_law 1286 = .ok (.invokevirtual 163, 3) := by decide +kernel
theorem dL_law_1289 : decode cL_law 1289 = .ok (.aload_n 2, 1) := by decide +kernel
theorem dL_law_1290 : decode cL_law 1290 = .ok (.aload_n 0, 1) := by decide +kernel
theorem dL_law_1291 : decode cL_law 1291 = .ok (.iload_n 3, 1) := by decide +kernel
theorem dL_law_1292 : decode cL_law 1292 = .ok (.iconst 1, 1) := by decide +kernel
theorem dL_law_1293 : decode cL_law 1293 = .ok (.iadd, 1) := by decide +kernel
theorem dL_law_1294 : decode cL_law 1294 = .ok (.iaload, 1) := by decide +kernel
theorem dL_law_1295 : decode cL_law 1295 = .ok (.invokevirtual 166, 3) := by decide +kernel
theorem dL_law_1298 : decode cL_law 1298 = .ok (.if_icmp .eq 77, 3) := by decide +kernel
theorem dL_law_1301 : decode cL_law 1301 = .ok (.iconst 0, 1) := by decide +kernel
theorem dL_law_1302 : decode cL_law 1302 = .ok (.ireturn, 1) := by decide +kernel
theorem dL_law_1303 : decode cL_law 1303 = .ok (.aload_n 1, 1) := by decide +kernel
theorem dL_law_1304 : decode cL_law 1304 = .ok (.aload_n 0, 1) := by decide +kernel
theorem dL_law_1305 : decode cL_law 1305 = .ok (.iload_n 3, 1) := by decide +kernel
theorem dL_law_1306 : decode cL_law 1306 = .ok (.iconst 1, 1) := by decide +kernel
theorem dL_law_1307 : decode cL_law 1307 = .ok (.iadd, 1) := by decide +kernel
theorem dL_law_1308 : decode cL_law 1308 = .ok (.iaload, 1) := by decide +kernel
theorem dL_law_1309 : decode cL_law 1309 = .ok (.invokevirtual 167, 3) := by decide +kernel
theorem dL_law_1312 : decode cL_law 1312 = .ok (.aload_n 2, 1) := by decide +kernel
theorem dL_law_1313 : decode cL_law 1313 = .ok (.aload_n 0, 1) := by decide +kernel
theorem dL_law_1314 : decode cL_law 1314 = .ok (.iload_n 3, 1) := by decide +kernel
theorem dL_law_1315 : decode cL_law 1315 = .ok (.iconst 1, 1) := by decide +kernel
theorem dL_law_1316 : decode cL_law 1316 = .ok (.iadd, 1) := by decide +kernel
theorem dL_law_1317 : decode cL_law 1317 = .ok (.iaload, 1) := by decide +kernel
theorem dL_law_1318 : decode cL_law 1318 = .ok (.invokevirtual 170, 3) := by decide +kernel
theorem dL_law_1321 : decode cL_law 1321 = .ok (.if_icmp .eq 54, 3) := by decide +kernel
theorem dL_law_1324 : decode cL_law 1324 = .ok (.iconst 0, 1) := by decide +kernel
theorem dL_law_1325 : decode cL_law 1325 = .ok (.ireturn, 1) := by decide +kernel
theorem dL_law_1326 : decode cL_law 1326 = .ok (.aload_n 1, 1) := by decide +kernel
theorem dL_law_1327 : decode cL_law 1327 = .ok (.invokevirtual 171, 3) := by decide +kernel
theorem dL_law_1330 : decode cL_law 1330 = .ok (.aload_n 2, 1) := by decide +kernel
theorem dL_law_1331 : decode cL_law 1331 = .ok (.invokevirtual 174, 3) := by decide +kernel
theorem dL_law_1334 : decode cL_law 1334 = .ok (.if_icmp .eq 41, 3) := by decide +kernel
theorem dL_law_1337 : decode cL_law 1337 = .ok (.iconst 0, 1) := by decide +kernel
theorem dL_law_1338 : decode cL_law 1338 = .ok (.ireturn, 1) := by decide +kernel
theorem dL_law_1339 : decode cL_law 1339 = .ok (.aload_n 1, 1) := by decide +kernel
theorem dL_law_1340 : decode cL_law 1340 = .ok (.invokevirtual 175, 3) := by decide +kernel
theorem dL_law_1343 : decode cL_law 1343 = .ok (.aload_n 2, 1) := by decide +kernel
theorem dL_law_1344 : decode cL_law 1344 = .ok (.invokevirtual 178, 3) := by decide +kernel
theorem dL_law_1347 : decode cL_law 1347 = .ok (.if_icmp .eq 28, 3) := by decide +kernel
theorem dL_law_1350 : decode cL_law 1350 = .ok (.iconst 0, 1) := by decide +kernel
theorem dL_law_1351 : decode cL_law 1351 = .ok (.ireturn, 1) := by decide +kernel
theorem dL_law_1352 : decode cL_law 1352 = .ok (.aload_n 1, 1) := by decide +kernel
theorem dL_law_1353 : decode cL_law 1353 = .ok (.aload_n 0, 1) := by decide +kernel
theorem dL_law_1354 : decode cL_law 1354 = .ok (.iload_n 3, 1) := by decide +kernel
theorem dL_law_1355 : decode cL_law 1355 = .ok (.iconst 1, 1) := by decide +kernel
theorem dL_law_1356 : decode cL_law 1356 = .ok (.iadd, 1) := by decide +kernel
theorem dL_law_1357 : decode cL_law 1357 = .ok (.iaload, 1) := by decide +kernel
theorem dL_law_1358 : decode cL_law 1358 = .ok (.invokevirtual 179, 3) := by decide +kernel
theorem dL_law_1361 : decode cL_law 1361 = .ok (.aload_n 2, 1) := by decide +kernel
theorem dL_law_1362 : decode cL_law 1362 = .ok (.aload_n 0, 1) := by decide +kernel
theorem dL_law_1363 : decode cL_law 1363 = .ok (.iload_n 3, 1) := by decide +kernel
theorem dL_law_1364 : decode cL_law 1364 = .ok (.iconst 1, 1) := by decide +kernel
theorem dL_law_1365 : decode cL_law 1365 = .ok (.iadd, 1) := by decide +kernel
theorem dL_law_1366 : decode cL_law 1366 = .ok (.iaload, 1) := by decide +kernel
theorem dL_law_1367 : decode cL_law 1367 = .ok (.invokevirtual 182, 3) := by decide +kernel
theorem dL_law_1370 : decode cL_law 1370 = .ok (.if_icmp .eq 5, 3) := by decide +kernel
theorem dL_law_1373 : decode cL_law 1373 = .ok (.iconst 0, 1) := by decide +kernel
theorem dL_law_1374 : decode cL_law 1374 = .ok (.ireturn, 1) := by decide +kernel
theorem dL_law_1375 : decode cL_law 1375 = .ok (.iinc 3 6, 3) := by decide +kernel
theorem dL_law_1378 : decode cL_law 1378 = .ok (.goto (-1360), 3) := by decide +kernel
theorem dL_law_1381 : decode cL_law 1381 = .ok (.iconst 1, 1) := by decide +kernel
theorem dL_law_1382 : decode cL_law 1382 = .ok (.ireturn, 1) := by decide +kernel
end
section
/-! THE FLAT MACHINE: all cells that the law's run makes, as shapes, references and ints by (cell, place); a row an instruction over it -/
abbrev sv_Sh : Type := Nat × Nat
abbrev sv_Fr : Type := List sv_Sh × (Nat → Nat → Option Nat)
abbrev sv_Mg : Type := Nat → Nat → Int32
/-- field types of the classes, by the class's number -/
def sv_ty (ci : Nat) : Nat → FieldType := match ci with
  | 0 => tyX0
  | 1 => tyX1
  | 2 => tyX2
  | 3 => tyX3
  | 4 => tyX4
  | 5 => tyX5
  | 6 => tyX6
  | _ => tyX7
def sv_isR (t : FieldType) : Bool := match t with
  | .object _ => true
  | .array _ => true
  | _ => false
def sv_rv (b : Nat) (o : Option Nat) : Value := va_rf (o.map (fun k => b + k))
def sv_fv (b ci : Nat) (gi : Nat → Int32) (gr : Nat → Option Nat) (j : Nat) : Value := if sv_isR (sv_ty ci j) = true then sv_rv b (gr j) else .int (gi j)
/-- shapes: below 10 an object of that class with so many fields; 10, 11, 12: int[], char[], boolean[]; 20, 21, 22: Law[], Sheet[], Slot[] -/
def sv_cell (AK : Nat → ClassId) (b : Nat) (sh : sv_Sh) (gi : Nat → Int32) (gr : Nat → Option Nat) : va_E :=
  if sh.1 < 10 then .inr (sh.1, (List.range sh.2).map (sv_fv b sh.1 gi gr))
  else if sh.1 < 20 then .inl (AK sh.1, sh.2, .inl gi)
  else .inl (AK sh.1, sh.2, .inr (.inr (.inr (.inr (fun i => (gr i).map (fun k => b + k))))))
def sv_ws (AK : Nat → ClassId) (b : Nat) (F : sv_Fr) (g : sv_Mg) : va_W := F.1.mapIdx (fun k sh => (b + k, sv_cell AK b sh (g k) (F.2 k)))
theorem sv_ws_at {AK : Nat → ClassId} {b : Nat} {F : sv_Fr} {g : sv_Mg} {k : Nat} {sh : sv_Sh} (h : F.1[k]? = some sh) : (sv_ws AK b F g)[k]? = some (b + k, sv_cell AK b sh (g k) (F.2 k)) := by
  simp [sv_ws, h]
theorem sv_ws_inv {AK : Nat → ClassId} {b : Nat} {F : sv_Fr} {g : sv_Mg} {k : Nat} {q : Nat × va_E} (h : (sv_ws AK b F g)[k]? = some q) : ∃ sh, F.1[k]? = some sh ∧ q = (b + k, sv_cell AK b sh (g k) (F.2 k)) := by
  simp only [sv_ws, List.getElem?_mapIdx] at h
  cases hF : F.1[k]? with
  | none => rw [hF] at h; cases h
  | some sh => rw [hF] at h; exact ⟨sh, rfl, (Option.some.inj h).symm⟩
def sv_A (b : Nat) : Nat → Prop := fun q => b ≤ q
theorem sv_ws_D (AK : Nat → ClassId) (b : Nat) (F : sv_Fr) (g : sv_Mg) : va_D (sv_A b) (sv_ws AK b F g) := by
  refine ⟨fun i j p q hi hj e => ?_, fun k q hk => ?_⟩
  · obtain ⟨_, -, rfl⟩ := sv_ws_inv hi
    obtain ⟨_, -, rfl⟩ := sv_ws_inv hj
    have e : b + i = b + j := e
    omega
  · obtain ⟨_, -, rfl⟩ := sv_ws_inv hk
    exact Nat.le_add_right b k
def sv_H (D : va_G) (AK : Nat → ClassId) (b : Nat) (F : sv_Fr) (g : sv_Mg) (H : Heap) : Prop := va_P D vwCl (sv_ws AK b F g) H ∧ H.size = b + F.1.length
/-- one place of the memory becomes v -/
def sv_st (g : sv_Mg) (a k : Nat) (v : Int32) : sv_Mg := fun a' => if a' = a then upd (g a) k v else g a'
/-- a cell's contents become f -/
def sv_sa (g : sv_Mg) (a : Nat) (f : Nat → Int32) : sv_Mg := fun a' => if a' = a then f else g a'
def sv_sr (r : Nat → Nat → Option Nat) (a k : Nat) (v : Option Nat) : Nat → Nat → Option Nat := fun a' => if a' = a then va_up (r a) k v else r a'
def sv_sra (r : Nat → Nat → Option Nat) (a : Nat) (f : Nat → Option Nat) : Nat → Nat → Option Nat := fun a' => if a' = a then f else r a'
theorem sv_st_eq (g : sv_Mg) (a k : Nat) (v : Int32) : sv_st g a k v a = upd (g a) k v := if_pos rfl
theorem sv_st_ne {g : sv_Mg} {a a' k : Nat} {v : Int32} (h : a' ≠ a) : sv_st g a k v a' = g a' := if_neg h
theorem sv_sa_eq (g : sv_Mg) (a : Nat) (f : Nat → Int32) : sv_sa g a f a = f := if_pos rfl
theorem sv_sa_ne {g : sv_Mg} {a a' : Nat} {f : Nat → Int32} (h : a' ≠ a) : sv_sa g a f a' = g a' := if_neg h
theorem sv_sr_eq (r : Nat → Nat → Option Nat) (a k : Nat) (v : Option Nat) : sv_sr r a k v a = va_up (r a) k v := if_pos rfl
theorem sv_sr_ne {r : Nat → Nat → Option Nat} {a a' k : Nat} {v : Option Nat} (h : a' ≠ a) : sv_sr r a k v a' = r a' := if_neg h
theorem sv_sra_eq (r : Nat → Nat → Option Nat) (a : Nat) (f : Nat → Option Nat) : sv_sra r a f a = f := if_pos rfl
theorem sv_sra_ne {r : Nat → Nat → Option Nat} {a a' : Nat} {f : Nat → Option Nat} (h : a' ≠ a) : sv_sra r a f a' = r a' := if_neg h
theorem sv_H.at' {D : va_G} {AK : Nat → ClassId} {b : Nat} {F : sv_Fr} {g : sv_Mg} {H : Heap} (h : sv_H D AK b F g H) {k : Nat} {sh : sv_Sh} (hk : F.1[k]? = some sh) : va_at D vwCl (b + k, sv_cell AK b sh (g k) (F.2 k)) H := h.1 k _ (sv_ws_at hk)
/-- one cell has changed -/
theorem sv_H.set {D : va_G} {AK : Nat → ClassId} {b : Nat} {F F' : sv_Fr} {g g' : sv_Mg} {H H' : Heap} (h : sv_H D AK b F g H) {a : Nat} {sh : sv_Sh} (ha : F.1[a]? = some sh) (e : va_at D vwCl (b + a, sv_cell AK b sh (g' a) (F'.2 a)) H') (z : H'.size = H.size) (oq : ∀ q : Nat, q ≠ b + a → H'[q]? = H[q]?) (hF : F'.1 = F.1) (hg : ∀ k, k ≠ a → g' k = g k) (hr : ∀ k, k ≠ a → F'.2 k = F.2 k) : sv_H D AK b F' g' H' := by
  refine ⟨fun k q hk => ?_, by rw [z, h.2, hF]⟩
  obtain ⟨sh', h1, rfl⟩ := sv_ws_inv hk
  rw [hF] at h1
  by_cases hka : k = a
  · subst hka
    cases ha.symm.trans h1
    exact e
  · rw [hg k hka, hr k hka]
    exact (h.at' h1).kept (oq _ (fun z => hka (by omega)))
/-- one cell more -/
theorem sv_H.push {D : va_G} {AK : Nat → ClassId} {b : Nat} {F F' : sv_Fr} {g g' : sv_Mg} {H H' : Heap} (h : sv_H D AK b F g H) {sh : sv_Sh} (e : va_at D vwCl (b + F.1.length, sv_cell AK b sh (g' F.1.length) (F'.2 F.1.length)) H') (z : H'.size = H.size + 1) (oq : ∀ q : Nat, q < H.size → H'[q]? = H[q]?) (hF : F'.1 = F.1 ++ [sh]) (hg : ∀ k, k < F.1.length → g' k = g k) (hr : ∀ k, k < F.1.length → F'.2 k = F.2 k) : sv_H D AK b F' g' H' := by
  refine ⟨fun k q hk => ?_, by rw [z, h.2, hF, List.length_append]; rfl⟩
  obtain ⟨sh', h1, rfl⟩ := sv_ws_inv hk
  rw [hF] at h1
  by_cases hl : k < F.1.length
  · rw [List.getElem?_append_left hl] at h1
    rw [hg k hl, hr k hl]
    exact (h.at' h1).kept (oq _ (by rw [h.2]; exact Nat.add_lt_add_left hl b))
  · rw [List.getElem?_append_right (by omega)] at h1
    have hz : k - F.1.length < 1 := (List.getElem?_eq_some_iff.mp h1).1
    have hk0 : k = F.1.length := by omega
    subst hk0
    rw [Nat.sub_self] at h1
    cases h1
    exact e
def sv_tys (AK : Nat → ClassId) : List (ClassId × FieldType) := [(AK 10, .int), (AK 11, .char), (AK 12, .boolean), (AK 20, .object RX1), (AK 21, .object RX4), (AK 22, .object RX5)]
/-- links between nest mates, String constants -/
def sv_above : Nat → Int32 := fun k => match k with
  | 0 => -1
  | 1 => 0
  | 2 => 0
  | 3 => 1
  | 4 => 2
  | _ => 0
end
section
def sv_tbl : List Cond := lw_tbl.filter goodWord
theorem sv_in {w : Cond} (i : Nat) (h : lw_tbl[i]? = some w) (hg : goodWord w = true) : w ∈ sv_tbl := List.mem_filter.mpr ⟨List.mem_of_getElem? h, hg⟩
theorem sv_goodIn {w : Cond} (hw : w ∈ sv_tbl) : GoodIn sv_tbl (w :: sv_tbl) := by
  intro v hv
  have h1 : v ∈ sv_tbl := (List.mem_cons.mp hv).elim (fun e => e ▸ hw) id
  exact ⟨h1, good_of_word (List.mem_filter.mp h1).2⟩
abbrev sv_Xt : Type := (Nat → Nat) × (Nat → Nat) × Nat
def sv_nests : List (String × Nat × MethodName × String) := [(RX6, 9, yX2_init, RX6), (RX6, 18, yX3_init, RX6), (RX6, 44, yX4_init, RX6), (RX6, 51, yX5_init, RX6), (RX5, 11, yX4_init, RX6), (RX2, 31, yX6_isWithin, RX6), (RX0, 150, yX6_held, RX6), (RX0, 121, yX6_weight, RX6)]
def sv_strs : List (Nat × String × Nat) := [(92, "sway", 0), (94, "fee", 1), (96, "fine", 2), (98, "frp", 3), (100, "rw", 4), (102, "fw", 5), (137, "!", 6), (139, "(", 7), (144, ")", 8), (104, "|", 9), (106, "&", 10), (108, "<=>", 11), (110, "+-", 12), (112, "*/", 13)]
def sv_len : List Nat := [4, 3, 4, 3, 2, 2, 1, 1, 1, 1, 1, 3, 2, 2]
def sv_byt : List (List Int32) := [[115, 119, 97, 121], [102, 101, 101], [102, 105, 110, 101], [102, 114, 112], [114, 119], [102, 119], [33], [40], [41], [124], [38], [60, 61, 62], [43, 45], [42, 47]]
/-- what stands outside the law's own cells, and never changes -/
def sv_E (b : Nat) (xt : sv_Xt) (U : State) : Prop :=
  (∀ q ∈ sv_nests, va_Nw (.methodLinkNest q.1 q.2.1 q.2.2.1 q.2.2.2) U) ∧ (va_AO RX1 U ∧ va_AO RX4 U ∧ va_AO RX5 U) ∧
  (va_Z RX6 "ABOVE" "[I" (.ref xt.2.2) (sv_A b) U U.heap ∧ va_T .int xt.2.2 6 (fun j => .int (sv_above j)) (sv_A b) U U.heap) ∧
  (vk_S 14 sv_len sv_byt xt.1 xt.2.1 (sv_A b) U U.heap ∧ ∀ q ∈ sv_strs, vk_R RX3 q.1 q.2.1 (xt.1 q.2.2) U) ∧
  va_Z "java/lang/String" "COMPACT_STRINGS" "Z" (.int 1) (sv_A b) U U.heap
theorem sv_E.go {b : Nat} {xt : sv_Xt} {s U : State} (h : sv_E b xt s) (hW : s.WarmedH U.vm) (hq : ∀ a : Nat, a < s.heap.size → ¬ sv_A b a → U.heap[a]? = s.heap[a]?) : sv_E b xt U := by
  obtain ⟨h1, ⟨h2, h3, h4⟩, ⟨h5, h6⟩, ⟨h7, h8⟩, h9⟩ := h
  exact ⟨fun q m => va_Nw.warmM hW (h1 q m), ⟨h2.moved hW.alike, h3.moved hW.alike, h4.moved hW.alike⟩, ⟨(h5.moved hW.alike).kept hq, (h6.moved hW.alike).kept hq⟩, ⟨(h7.moved hW.alike).kept hq, fun q m => (h8 q m).warm hW⟩, (h9.moved hW.alike).kept hq⟩
theorem sv_E.same {b : Nat} {xt : sv_Xt} {s U : State} (h : sv_E b xt s) (hv : U.vm = s.vm) (hh : U.heap = s.heap) : sv_E b xt U := by
  obtain ⟨h1, ⟨h2, h3, h4⟩, ⟨h5, h6⟩, ⟨h7, h8⟩, h9⟩ := h
  have ha : s.vm.Alike U.vm := by rw [hv]; exact Vm.Alike.refl _
  rw [sv_E, hh]
  exact ⟨fun q m => va_Nw.same rfl hv.symm (h1 q m), ⟨h2.moved ha, h3.moved ha, h4.moved ha⟩, ⟨h5.moved ha, h6.moved ha⟩, ⟨h7.moved ha, fun q m => (h8 q m).same hv⟩, h9.moved ha⟩
/-- a method's walk: the machine, the method, where its cells lie -/
abbrev sv_X : Type := Program × Launch × Env × Room × State × MethodId × Array Value × List Frame × Method × Code × va_G × (Nat → ClassId) × sv_Xt × Nat
def sv_AW (x : sv_X) (Q : State → Prop) (F : sv_Fr) (g : sv_Mg) (cs sl pc : Nat) (lv : List (Nat × Value)) (st : List Value) : Prop := match x with
  | (p, l, e, R, s, m, args, below, meth, c, D, AK, _, b) => ∀ (H : Heap) (locs : List Loc) (ls : Array Slot), sv_H D AK b F g H → va_S (sv_A b) s.heap H locs → lv_has ls c.maxLocals lv → W p l e R s m args below meth c H locs cs sl Q (F0 m pc ls st)
/-- what a walk stands on -/
def sv_G (x : sv_X) (b : Nat) (xt : sv_Xt) (own : String) (cc : ByteArray) (nL : Nat) : Prop := match x with
  | (p, _, _, _, s, m, args, _, meth, c, D, AK, xt', b') => p.tables.exec = Jvm.exec ∧ c.code = cc ∧ c.maxLocals = nL ∧ s.vm.findClass own = some m.cls ∧ (∀ w ∈ sv_tbl, w.before args s = true) ∧ va_K D vwCl (sv_tys AK) s ∧ meth.locks = false ∧ b ≤ s.heap.size ∧ sv_E b xt s ∧ b' = b ∧ xt' = xt
/-- the room that is left -/
def sv_R (x : sv_X) (fr lo mc ms : Nat) : Prop := match x with
  | (_, _, _, R, _, _, _, _, _, _, _, _, _, _) => fr ≤ R.frames ∧ lo ≤ R.locals ∧ mc ≤ R.cells ∧ ms ≤ R.slots
section SvRows
variable {x : sv_X} {Q : State → Prop} {F : sv_Fr} {g : sv_Mg} {cs sl pc b nL : Nat} {xt : sv_Xt} {lv : List (Nat × Value)} {st : List Value} {own : String} {cc : ByteArray}
theorem sv_iconst (G : sv_G x b xt own cc nL) {n : Int} (v : Int32) (hv : Int32.ofInt n = v) (d : decode cc pc = .ok (.iconst n, 1))
    (h : sv_AW x Q F g cs sl (pc + 1) lv (.int v :: st)) : sv_AW x Q F g cs sl pc lv (st) := by
  obtain ⟨p, l, e, R, s, m, args, below, meth, c, D, AK, xt', b'⟩ := x
  obtain ⟨hx, hb, hml, hown, hts, hK, hlk, hbs, hE, rfl, rfl⟩ := G
  intro H locs ls hH hS hl
  exact lv_iconst hx hb d hv (h H locs ls hH hS hl)
theorem sv_bipush (G : sv_G x b xt own cc nL) {n : Int} (v : Int32) (hv : (Int8.ofInt n).toInt32 = v) (d : decode cc pc = .ok (.bipush n, 2))
    (h : sv_AW x Q F g cs sl (pc + 2) lv (.int v :: st)) : sv_AW x Q F g cs sl pc lv (st) := by
  obtain ⟨p, l, e, R, s, m, args, below, meth, c, D, AK, xt', b'⟩ := x
  obtain ⟨hx, hb, hml, hown, hts, hK, hlk, hbs, hE, rfl, rfl⟩ := G
  intro H locs ls hH hS hl
  exact lv_bipush hx hb d hv (h H locs ls hH hS hl)
theorem sv_sipush (G : sv_G x b xt own cc nL) {n : Int} (v : Int32) (hv : (Int16.ofInt n).toInt32 = v) (d : decode cc pc = .ok (.sipush n, 3))
    (h : sv_AW x Q F g cs sl (pc + 3) lv (.int v :: st)) : sv_AW x Q F g cs sl pc lv (st) := by
  obtain ⟨p, l, e, R, s, m, args, below, meth, c, D, AK, xt', b'⟩ := x
  obtain ⟨hx, hb, hml, hown, hts, hK, hlk, hbs, hE, rfl, rfl⟩ := G
  intro H locs ls hH hS hl
  exact lv_sipush hx hb d hv (h H locs ls hH hS hl)
theorem sv_ldc (G : sv_G x b xt own cc nL) {i : Nat} {v : Int32} (hw : Jvm.Cond.constant own i v ∈ sv_tbl) (d : decode cc pc = .ok (.ldc i, 2))
    (h : sv_AW x Q F g cs sl (pc + 2) lv (.int v :: st)) : sv_AW x Q F g cs sl pc lv (st) := by
  obtain ⟨p, l, e, R, s, m, args, below, meth, c, D, AK, xt', b'⟩ := x
  obtain ⟨hx, hb, hml, hown, hts, hK, hlk, hbs, hE, rfl, rfl⟩ := G
  intro H locs ls hH hS hl
  exact lv_ldc hx hb hown (hts _ hw) d (h H locs ls hH hS hl)
theorem sv_ldcw (G : sv_G x b xt own cc nL) {i : Nat} {v : Int32} (hw : Jvm.Cond.constant own i v ∈ sv_tbl) (d : decode cc pc = .ok (.ldc_w i, 3))
    (h : sv_AW x Q F g cs sl (pc + 3) lv (.int v :: st)) : sv_AW x Q F g cs sl pc lv (st) := by
  obtain ⟨p, l, e, R, s, m, args, below, meth, c, D, AK, xt', b'⟩ := x
  obtain ⟨hx, hb, hml, hown, hts, hK, hlk, hbs, hE, rfl, rfl⟩ := G
  intro H locs ls hH hS hl
  exact lv_ldcw hx hb hown (hts _ hw) d (h H locs ls hH hS hl)
theorem sv_lconst (G : sv_G x b xt own cc nL) {n : Fin 2} (v : Int64) (hv : Int64.ofNat (n : Nat) = v) (d : decode cc pc = .ok (.lconst n, 1))
    (h : sv_AW x Q F g cs sl (pc + 1) lv (.long v :: st)) : sv_AW x Q F g cs sl pc lv (st) := by
  obtain ⟨p, l, e, R, s, m, args, below, meth, c, D, AK, xt', b'⟩ := x
  obtain ⟨hx, hb, hml, hown, hts, hK, hlk, hbs, hE, rfl, rfl⟩ := G
  intro H locs ls hH hS hl
  exact lv_lconst hx hb d hv (h H locs ls hH hS hl)
theorem sv_iload_n (G : sv_G x b xt own cc nL) {k : Fin 4} {v : Int32} (j : Nat) (hj : lv[j]? = some ((k : Nat), .int v)) (d : decode cc pc = .ok (.iload_n k, 1))
    (h : sv_AW x Q F g cs sl (pc + 1) lv (.int v :: st)) : sv_AW x Q F g cs sl pc lv (st) := by
  obtain ⟨p, l, e, R, s, m, args, below, meth, c, D, AK, xt', b'⟩ := x
  obtain ⟨hx, hb, hml, hown, hts, hK, hlk, hbs, hE, rfl, rfl⟩ := G
  intro H locs ls hH hS hl
  exact lv_iload_n hx hb d rfl (lv_at hl j hj) (h H locs ls hH hS hl)
theorem sv_iload (G : sv_G x b xt own cc nL) {k : Nat} {v : Int32} (j : Nat) (hj : lv[j]? = some (k, .int v)) (d : decode cc pc = .ok (.iload k, 2))
    (h : sv_AW x Q F g cs sl (pc + 2) lv (.int v :: st)) : sv_AW x Q F g cs sl pc lv (st) := by
  obtain ⟨p, l, e, R, s, m, args, below, meth, c, D, AK, xt', b'⟩ := x
  obtain ⟨hx, hb, hml, hown, hts, hK, hlk, hbs, hE, rfl, rfl⟩ := G
  intro H locs ls hH hS hl
  exact lv_iload hx hb d (lv_at hl j hj) (h H locs ls hH hS hl)
theorem sv_lload_n (G : sv_G x b xt own cc nL) {k : Fin 4} {v : Int64} (j : Nat) (hj : lv[j]? = some ((k : Nat), .long v)) (d : decode cc pc = .ok (.lload_n k, 1))
    (h : sv_AW x Q F g cs sl (pc + 1) lv (.long v :: st)) : sv_AW x Q F g cs sl pc lv (st) := by
  obtain ⟨p, l, e, R, s, m, args, below, meth, c, D, AK, xt', b'⟩ := x
  obtain ⟨hx, hb, hml, hown, hts, hK, hlk, hbs, hE, rfl, rfl⟩ := G
  intro H locs ls hH hS hl
  exact lv_lload_n hx hb d rfl (lv_at hl j hj) (h H locs ls hH hS hl)
theorem sv_lload (G : sv_G x b xt own cc nL) {k : Nat} {v : Int64} (j : Nat) (hj : lv[j]? = some (k, .long v)) (d : decode cc pc = .ok (.lload k, 2))
    (h : sv_AW x Q F g cs sl (pc + 2) lv (.long v :: st)) : sv_AW x Q F g cs sl pc lv (st) := by
  obtain ⟨p, l, e, R, s, m, args, below, meth, c, D, AK, xt', b'⟩ := x
  obtain ⟨hx, hb, hml, hown, hts, hK, hlk, hbs, hE, rfl, rfl⟩ := G
  intro H locs ls hH hS hl
  exact lv_lload hx hb d (lv_at hl j hj) (h H locs ls hH hS hl)
theorem sv_aload_n (G : sv_G x b xt own cc nL) {k : Fin 4} {v : Nat} (j : Nat) (hj : lv[j]? = some ((k : Nat), .ref v)) (d : decode cc pc = .ok (.aload_n k, 1))
    (h : sv_AW x Q F g cs sl (pc + 1) lv (.ref v :: st)) : sv_AW x Q F g cs sl pc lv (st) := by
  obtain ⟨p, l, e, R, s, m, args, below, meth, c, D, AK, xt', b'⟩ := x
  obtain ⟨hx, hb, hml, hown, hts, hK, hlk, hbs, hE, rfl, rfl⟩ := G
  intro H locs ls hH hS hl
  exact lv_aload_n hx hb d rfl (lv_at hl j hj) (h H locs ls hH hS hl)
theorem sv_aload (G : sv_G x b xt own cc nL) {k : Nat} {v : Nat} (j : Nat) (hj : lv[j]? = some (k, .ref v)) (d : decode cc pc = .ok (.aload k, 2))
    (h : sv_AW x Q F g cs sl (pc + 2) lv (.ref v :: st)) : sv_AW x Q F g cs sl pc lv (st) := by
  obtain ⟨p, l, e, R, s, m, args, below, meth, c, D, AK, xt', b'⟩ := x
  obtain ⟨hx, hb, hml, hown, hts, hK, hlk, hbs, hE, rfl, rfl⟩ := G
  intro H locs ls hH hS hl
  exact lv_aload hx hb d (lv_at hl j hj) (h H locs ls hH hS hl)
theorem sv_istore_n (G : sv_G x b xt own cc nL) {k : Fin 4} {v : Int32} (lv' : List (Nat × Value)) (hn : (k : Nat) < nL) (hlv : ((k : Nat), Value.int v) :: lv.filter (fun q => !(q.1 == (k : Nat)) && !(q.1 + 1 == (k : Nat) && q.2.category == 2)) = lv') (d : decode cc pc = .ok (.istore_n k, 1))
    (h : sv_AW x Q F g cs sl (pc + 1) lv' (st)) : sv_AW x Q F g cs sl pc lv (.int v :: st) := by
  obtain ⟨p, l, e, R, s, m, args, below, meth, c, D, AK, xt', b'⟩ := x
  obtain ⟨hx, hb, hml, hown, hts, hK, hlk, hbs, hE, rfl, rfl⟩ := G
  intro H locs ls hH hS hl
  exact lv_istore_n hx hb d rfl hl (by rw [hml]; exact hn) hlv (fun ls hl => (h H locs ls hH hS hl))
theorem sv_istore (G : sv_G x b xt own cc nL) {k : Nat} {v : Int32} (lv' : List (Nat × Value)) (hn : k < nL) (hlv : (k, Value.int v) :: lv.filter (fun q => !(q.1 == k) && !(q.1 + 1 == k && q.2.category == 2)) = lv') (d : decode cc pc = .ok (.istore k, 2))
    (h : sv_AW x Q F g cs sl (pc + 2) lv' (st)) : sv_AW x Q F g cs sl pc lv (.int v :: st) := by
  obtain ⟨p, l, e, R, s, m, args, below, meth, c, D, AK, xt', b'⟩ := x
  obtain ⟨hx, hb, hml, hown, hts, hK, hlk, hbs, hE, rfl, rfl⟩ := G
  intro H locs ls hH hS hl
  exact lv_istore hx hb d hl (by rw [hml]; exact hn) hlv (fun ls hl => (h H locs ls hH hS hl))
theorem sv_lstore_n (G : sv_G x b xt own cc nL) {k : Fin 4} {v : Int64} (lv' : List (Nat × Value)) (hn : (k : Nat) + 1 < nL) (hlv : ((k : Nat), Value.long v) :: lv.filter (fun q => !(q.1 == (k : Nat)) && (!(q.1 == (k : Nat) + 1) && !(q.1 + 1 == (k : Nat) && q.2.category == 2))) = lv') (d : decode cc pc = .ok (.lstore_n k, 1))
    (h : sv_AW x Q F g cs sl (pc + 1) lv' (st)) : sv_AW x Q F g cs sl pc lv (.long v :: st) := by
  obtain ⟨p, l, e, R, s, m, args, below, meth, c, D, AK, xt', b'⟩ := x
  obtain ⟨hx, hb, hml, hown, hts, hK, hlk, hbs, hE, rfl, rfl⟩ := G
  intro H locs ls hH hS hl
  exact lv_lstore_n hx hb d rfl hl (by rw [hml]; exact hn) hlv (fun ls hl => (h H locs ls hH hS hl))
theorem sv_lstore (G : sv_G x b xt own cc nL) {k : Nat} {v : Int64} (lv' : List (Nat × Value)) (hn : k + 1 < nL) (hlv : (k, Value.long v) :: lv.filter (fun q => !(q.1 == k) && (!(q.1 == k + 1) && !(q.1 + 1 == k && q.2.category == 2))) = lv') (d : decode cc pc = .ok (.lstore k, 2))
    (h : sv_AW x Q F g cs sl (pc + 2) lv' (st)) : sv_AW x Q F g cs sl pc lv (.long v :: st) := by
  obtain ⟨p, l, e, R, s, m, args, below, meth, c, D, AK, xt', b'⟩ := x
  obtain ⟨hx, hb, hml, hown, hts, hK, hlk, hbs, hE, rfl, rfl⟩ := G
  intro H locs ls hH hS hl
  exact lv_lstore hx hb d hl (by rw [hml]; exact hn) hlv (fun ls hl => (h H locs ls hH hS hl))
theorem sv_astore_n (G : sv_G x b xt own cc nL) {k : Fin 4} {v : Nat} (lv' : List (Nat × Value)) (hn : (k : Nat) < nL) (hlv : ((k : Nat), Value.ref v) :: lv.filter (fun q => !(q.1 == (k : Nat)) && !(q.1 + 1 == (k : Nat) && q.2.category == 2)) = lv') (d : decode cc pc = .ok (.astore_n k, 1))
    (h : sv_AW x Q F g cs sl (pc + 1) lv' (st)) : sv_AW x Q F g cs sl pc lv (.ref v :: st) := by
  obtain ⟨p, l, e, R, s, m, args, below, meth, c, D, AK, xt', b'⟩ := x
  obtain ⟨hx, hb, hml, hown, hts, hK, hlk, hbs, hE, rfl, rfl⟩ := G
  intro H locs ls hH hS hl
  exact lv_astore_n hx hb d rfl hl (by rw [hml]; exact hn) hlv (fun ls hl => (h H locs ls hH hS hl))
theorem sv_astore (G : sv_G x b xt own cc nL) {k : Nat} {v : Nat} (lv' : List (Nat × Value)) (hn : k < nL) (hlv : (k, Value.ref v) :: lv.filter (fun q => !(q.1 == k) && !(q.1 + 1 == k && q.2.category == 2)) = lv') (d : decode cc pc = .ok (.astore k, 2))
    (h : sv_AW x Q F g cs sl (pc + 2) lv' (st)) : sv_AW x Q F g cs sl pc lv (.ref v :: st) := by
  obtain ⟨p, l, e, R, s, m, args, below, meth, c, D, AK, xt', b'⟩ := x
  obtain ⟨hx, hb, hml, hown, hts, hK, hlk, hbs, hE, rfl, rfl⟩ := G
  intro H locs ls hH hS hl
  exact lv_astore hx hb d hl (by rw [hml]; exact hn) hlv (fun ls hl => (h H locs ls hH hS hl))
theorem sv_iinc (G : sv_G x b xt own cc nL) {k : Nat} {n : Int} {y : Int32} (j : Nat) (v : Int32) (lv' : List (Nat × Value)) (hv : v = y + Int32.ofInt n) (hj : lv[j]? = some (k, .int y)) (hn : k < nL) (hlv : (k, Value.int v) :: lv.filter (fun q => !(q.1 == k) && !(q.1 + 1 == k && q.2.category == 2)) = lv') (d : decode cc pc = .ok (.iinc k n, 3))
    (h : sv_AW x Q F g cs sl (pc + 3) lv' st) : sv_AW x Q F g cs sl pc lv st := by
  obtain ⟨p, l, e, R, s, m, args, below, meth, c, D, AK, xt', b'⟩ := x
  obtain ⟨hx, hb, hml, hown, hts, hK, hlk, hbs, hE, rfl, rfl⟩ := G
  intro H locs ls hH hS hl
  exact lv_iinc hx hb d hl hj hv.symm (by rw [hml]; exact hn) hlv (fun ls hl => (h H locs ls hH hS hl))
theorem sv_iadd (G : sv_G x b xt own cc nL) {y z : Int32} (d : decode cc pc = .ok (.iadd, 1))
    (h : sv_AW x Q F g cs sl (pc + 1) lv (.int (y + z) :: st)) : sv_AW x Q F g cs sl pc lv (.int z :: .int y :: st) := by
  obtain ⟨p, l, e, R, s, m, args, below, meth, c, D, AK, xt', b'⟩ := x
  obtain ⟨hx, hb, hml, hown, hts, hK, hlk, hbs, hE, rfl, rfl⟩ := G
  intro H locs ls hH hS hl
  exact lv_iadd hx hb d (h H locs ls hH hS hl)
theorem sv_isub (G : sv_G x b xt own cc nL) {y z : Int32} (d : decode cc pc = .ok (.isub, 1))
    (h : sv_AW x Q F g cs sl (pc + 1) lv (.int (y - z) :: st)) : sv_AW x Q F g cs sl pc lv (.int z :: .int y :: st) := by
  obtain ⟨p, l, e, R, s, m, args, below, meth, c, D, AK, xt', b'⟩ := x
  obtain ⟨hx, hb, hml, hown, hts, hK, hlk, hbs, hE, rfl, rfl⟩ := G
  intro H locs ls hH hS hl
  exact lv_isub hx hb d (h H locs ls hH hS hl)
theorem sv_imul (G : sv_G x b xt own cc nL) {y z : Int32} (d : decode cc pc = .ok (.imul, 1))
    (h : sv_AW x Q F g cs sl (pc + 1) lv (.int (y * z) :: st)) : sv_AW x Q F g cs sl pc lv (.int z :: .int y :: st) := by
  obtain ⟨p, l, e, R, s, m, args, below, meth, c, D, AK, xt', b'⟩ := x
  obtain ⟨hx, hb, hml, hown, hts, hK, hlk, hbs, hE, rfl, rfl⟩ := G
  intro H locs ls hH hS hl
  exact lv_imul hx hb d (h H locs ls hH hS hl)
theorem sv_iand (G : sv_G x b xt own cc nL) {y z : Int32} (d : decode cc pc = .ok (.iand, 1))
    (h : sv_AW x Q F g cs sl (pc + 1) lv (.int (y &&& z) :: st)) : sv_AW x Q F g cs sl pc lv (.int z :: .int y :: st) := by
  obtain ⟨p, l, e, R, s, m, args, below, meth, c, D, AK, xt', b'⟩ := x
  obtain ⟨hx, hb, hml, hown, hts, hK, hlk, hbs, hE, rfl, rfl⟩ := G
  intro H locs ls hH hS hl
  exact lv_iand hx hb d (h H locs ls hH hS hl)
theorem sv_ior (G : sv_G x b xt own cc nL) {y z : Int32} (d : decode cc pc = .ok (.ior, 1))
    (h : sv_AW x Q F g cs sl (pc + 1) lv (.int (y ||| z) :: st)) : sv_AW x Q F g cs sl pc lv (.int z :: .int y :: st) := by
  obtain ⟨p, l, e, R, s, m, args, below, meth, c, D, AK, xt', b'⟩ := x
  obtain ⟨hx, hb, hml, hown, hts, hK, hlk, hbs, hE, rfl, rfl⟩ := G
  intro H locs ls hH hS hl
  exact lv_ior hx hb d (h H locs ls hH hS hl)
theorem sv_ixor (G : sv_G x b xt own cc nL) {y z : Int32} (d : decode cc pc = .ok (.ixor, 1))
    (h : sv_AW x Q F g cs sl (pc + 1) lv (.int (y ^^^ z) :: st)) : sv_AW x Q F g cs sl pc lv (.int z :: .int y :: st) := by
  obtain ⟨p, l, e, R, s, m, args, below, meth, c, D, AK, xt', b'⟩ := x
  obtain ⟨hx, hb, hml, hown, hts, hK, hlk, hbs, hE, rfl, rfl⟩ := G
  intro H locs ls hH hS hl
  exact lv_ixor hx hb d (h H locs ls hH hS hl)
theorem sv_ishl (G : sv_G x b xt own cc nL) {y z : Int32} (d : decode cc pc = .ok (.ishl, 1))
    (h : sv_AW x Q F g cs sl (pc + 1) lv (.int (y <<< (z &&& 31)) :: st)) : sv_AW x Q F g cs sl pc lv (.int z :: .int y :: st) := by
  obtain ⟨p, l, e, R, s, m, args, below, meth, c, D, AK, xt', b'⟩ := x
  obtain ⟨hx, hb, hml, hown, hts, hK, hlk, hbs, hE, rfl, rfl⟩ := G
  intro H locs ls hH hS hl
  exact lv_ishl hx hb d (h H locs ls hH hS hl)
theorem sv_ishr (G : sv_G x b xt own cc nL) {y z : Int32} (d : decode cc pc = .ok (.ishr, 1))
    (h : sv_AW x Q F g cs sl (pc + 1) lv (.int (y >>> (z &&& 31)) :: st)) : sv_AW x Q F g cs sl pc lv (.int z :: .int y :: st) := by
  obtain ⟨p, l, e, R, s, m, args, below, meth, c, D, AK, xt', b'⟩ := x
  obtain ⟨hx, hb, hml, hown, hts, hK, hlk, hbs, hE, rfl, rfl⟩ := G
  intro H locs ls hH hS hl
  exact lv_ishr hx hb d (h H locs ls hH hS hl)
theorem sv_iushr (G : sv_G x b xt own cc nL) {y z : Int32} (d : decode cc pc = .ok (.iushr, 1))
    (h : sv_AW x Q F g cs sl (pc + 1) lv (.int (y.toUInt32 >>> (z.toUInt32 &&& Int32.toUInt32 31)).toInt32 :: st)) : sv_AW x Q F g cs sl pc lv (.int z :: .int y :: st) := by
  obtain ⟨p, l, e, R, s, m, args, below, meth, c, D, AK, xt', b'⟩ := x
  obtain ⟨hx, hb, hml, hown, hts, hK, hlk, hbs, hE, rfl, rfl⟩ := G
  intro H locs ls hH hS hl
  exact lv_iushr hx hb d rfl (h H locs ls hH hS hl)
theorem sv_idiv (G : sv_G x b xt own cc nL) {y z : Int32} (hne : ¬ z = 0) (d : decode cc pc = .ok (.idiv, 1))
    (h : sv_AW x Q F g cs sl (pc + 1) lv (.int (y / z) :: st)) : sv_AW x Q F g cs sl pc lv (.int z :: .int y :: st) := by
  obtain ⟨p, l, e, R, s, m, args, below, meth, c, D, AK, xt', b'⟩ := x
  obtain ⟨hx, hb, hml, hown, hts, hK, hlk, hbs, hE, rfl, rfl⟩ := G
  intro H locs ls hH hS hl
  exact lv_idiv hx hb d hne (h H locs ls hH hS hl)
theorem sv_irem (G : sv_G x b xt own cc nL) {y z : Int32} (hne : ¬ z = 0) (d : decode cc pc = .ok (.irem, 1))
    (h : sv_AW x Q F g cs sl (pc + 1) lv (.int (y - y / z * z) :: st)) : sv_AW x Q F g cs sl pc lv (.int z :: .int y :: st) := by
  obtain ⟨p, l, e, R, s, m, args, below, meth, c, D, AK, xt', b'⟩ := x
  obtain ⟨hx, hb, hml, hown, hts, hK, hlk, hbs, hE, rfl, rfl⟩ := G
  intro H locs ls hH hS hl
  exact lv_irem hx hb d hne (h H locs ls hH hS hl)
theorem sv_ladd (G : sv_G x b xt own cc nL) {y z : Int64} (d : decode cc pc = .ok (.ladd, 1))
    (h : sv_AW x Q F g cs sl (pc + 1) lv (.long (y + z) :: st)) : sv_AW x Q F g cs sl pc lv (.long z :: .long y :: st) := by
  obtain ⟨p, l, e, R, s, m, args, below, meth, c, D, AK, xt', b'⟩ := x
  obtain ⟨hx, hb, hml, hown, hts, hK, hlk, hbs, hE, rfl, rfl⟩ := G
  intro H locs ls hH hS hl
  exact lv_ladd hx hb d (h H locs ls hH hS hl)
theorem sv_lsub (G : sv_G x b xt own cc nL) {y z : Int64} (d : decode cc pc = .ok (.lsub, 1))
    (h : sv_AW x Q F g cs sl (pc + 1) lv (.long (y - z) :: st)) : sv_AW x Q F g cs sl pc lv (.long z :: .long y :: st) := by
  obtain ⟨p, l, e, R, s, m, args, below, meth, c, D, AK, xt', b'⟩ := x
  obtain ⟨hx, hb, hml, hown, hts, hK, hlk, hbs, hE, rfl, rfl⟩ := G
  intro H locs ls hH hS hl
  exact lv_lsub hx hb d (h H locs ls hH hS hl)
theorem sv_lneg (G : sv_G x b xt own cc nL) {y : Int64} (d : decode cc pc = .ok (.lneg, 1))
    (h : sv_AW x Q F g cs sl (pc + 1) lv (.long (0 - y) :: st)) : sv_AW x Q F g cs sl pc lv (.long y :: st) := by
  obtain ⟨p, l, e, R, s, m, args, below, meth, c, D, AK, xt', b'⟩ := x
  obtain ⟨hx, hb, hml, hown, hts, hK, hlk, hbs, hE, rfl, rfl⟩ := G
  intro H locs ls hH hS hl
  exact lv_lneg hx hb d (h H locs ls hH hS hl)
theorem sv_lcmp (G : sv_G x b xt own cc nL) {y z : Int64} (d : decode cc pc = .ok (.lcmp, 1))
    (h : sv_AW x Q F g cs sl (pc + 1) lv (.int (lg_cmp y z) :: st)) : sv_AW x Q F g cs sl pc lv (.long z :: .long y :: st) := by
  obtain ⟨p, l, e, R, s, m, args, below, meth, c, D, AK, xt', b'⟩ := x
  obtain ⟨hx, hb, hml, hown, hts, hK, hlk, hbs, hE, rfl, rfl⟩ := G
  intro H locs ls hH hS hl
  exact W.lcmp hx hb d (h H locs ls hH hS hl)
theorem sv_i2l (G : sv_G x b xt own cc nL) {y : Int32} (d : decode cc pc = .ok (.i2l, 1))
    (h : sv_AW x Q F g cs sl (pc + 1) lv (.long y.toInt64 :: st)) : sv_AW x Q F g cs sl pc lv (.int y :: st) := by
  obtain ⟨p, l, e, R, s, m, args, below, meth, c, D, AK, xt', b'⟩ := x
  obtain ⟨hx, hb, hml, hown, hts, hK, hlk, hbs, hE, rfl, rfl⟩ := G
  intro H locs ls hH hS hl
  exact lv_i2l hx hb d rfl (h H locs ls hH hS hl)
theorem sv_l2i (G : sv_G x b xt own cc nL) {y : Int64} (d : decode cc pc = .ok (.l2i, 1))
    (h : sv_AW x Q F g cs sl (pc + 1) lv (.int y.toInt32 :: st)) : sv_AW x Q F g cs sl pc lv (.long y :: st) := by
  obtain ⟨p, l, e, R, s, m, args, below, meth, c, D, AK, xt', b'⟩ := x
  obtain ⟨hx, hb, hml, hown, hts, hK, hlk, hbs, hE, rfl, rfl⟩ := G
  intro H locs ls hH hS hl
  exact lv_l2i hx hb d rfl (h H locs ls hH hS hl)
theorem sv_i2s (G : sv_G x b xt own cc nL) {y : Int32} (d : decode cc pc = .ok (.i2s, 1))
    (h : sv_AW x Q F g cs sl (pc + 1) lv (.int y.toInt16.toInt32 :: st)) : sv_AW x Q F g cs sl pc lv (.int y :: st) := by
  obtain ⟨p, l, e, R, s, m, args, below, meth, c, D, AK, xt', b'⟩ := x
  obtain ⟨hx, hb, hml, hown, hts, hK, hlk, hbs, hE, rfl, rfl⟩ := G
  intro H locs ls hH hS hl
  exact lv_i2s hx hb d rfl (h H locs ls hH hS hl)
theorem sv_i2c (G : sv_G x b xt own cc nL) {y : Int32} (d : decode cc pc = .ok (.i2c, 1))
    (h : sv_AW x Q F g cs sl (pc + 1) lv (.int (y.toUInt32 % 65536).toInt32 :: st)) : sv_AW x Q F g cs sl pc lv (.int y :: st) := by
  obtain ⟨p, l, e, R, s, m, args, below, meth, c, D, AK, xt', b'⟩ := x
  obtain ⟨hx, hb, hml, hown, hts, hK, hlk, hbs, hE, rfl, rfl⟩ := G
  intro H locs ls hH hS hl
  exact lv_i2c hx hb d rfl (h H locs ls hH hS hl)
theorem sv_i2b (G : sv_G x b xt own cc nL) {y : Int32} (d : decode cc pc = .ok (.i2b, 1))
    (h : sv_AW x Q F g cs sl (pc + 1) lv (.int y.toInt8.toInt32 :: st)) : sv_AW x Q F g cs sl pc lv (.int y :: st) := by
  obtain ⟨p, l, e, R, s, m, args, below, meth, c, D, AK, xt', b'⟩ := x
  obtain ⟨hx, hb, hml, hown, hts, hK, hlk, hbs, hE, rfl, rfl⟩ := G
  intro H locs ls hH hS hl
  exact lv_i2b hx hb d rfl (h H locs ls hH hS hl)
theorem sv_dup (G : sv_G x b xt own cc nL) {v : Value} (hc : v.category = 1) (d : decode cc pc = .ok (.dup, 1))
    (h : sv_AW x Q F g cs sl (pc + 1) lv (v :: v :: st)) : sv_AW x Q F g cs sl pc lv (v :: st) := by
  obtain ⟨p, l, e, R, s, m, args, below, meth, c, D, AK, xt', b'⟩ := x
  obtain ⟨hx, hb, hml, hown, hts, hK, hlk, hbs, hE, rfl, rfl⟩ := G
  intro H locs ls hH hS hl
  exact lv_dup hx hb d hc (h H locs ls hH hS hl)
theorem sv_pop (G : sv_G x b xt own cc nL) {v : Value} (hc : v.category = 1) (d : decode cc pc = .ok (.pop, 1))
    (h : sv_AW x Q F g cs sl (pc + 1) lv (st)) : sv_AW x Q F g cs sl pc lv (v :: st) := by
  obtain ⟨p, l, e, R, s, m, args, below, meth, c, D, AK, xt', b'⟩ := x
  obtain ⟨hx, hb, hml, hown, hts, hK, hlk, hbs, hE, rfl, rfl⟩ := G
  intro H locs ls hH hS hl
  exact lv_pop hx hb d hc (h H locs ls hH hS hl)
theorem sv_dup2 (G : sv_G x b xt own cc nL) {v u : Value} (hc : v.category = 1) (hd : u.category = 1) (d : decode cc pc = .ok (.dup2, 1))
    (h : sv_AW x Q F g cs sl (pc + 1) lv (v :: u :: v :: u :: st)) : sv_AW x Q F g cs sl pc lv (v :: u :: st) := by
  obtain ⟨p, l, e, R, s, m, args, below, meth, c, D, AK, xt', b'⟩ := x
  obtain ⟨hx, hb, hml, hown, hts, hK, hlk, hbs, hE, rfl, rfl⟩ := G
  intro H locs ls hH hS hl
  exact lv_dup2_11 hx hb d hc hd (h H locs ls hH hS hl)
theorem sv_dup_x1 (G : sv_G x b xt own cc nL) {v u : Value} (hc : v.category = 1) (hd : u.category = 1) (d : decode cc pc = .ok (.dup_x1, 1))
    (h : sv_AW x Q F g cs sl (pc + 1) lv (v :: u :: v :: st)) : sv_AW x Q F g cs sl pc lv (v :: u :: st) := by
  obtain ⟨p, l, e, R, s, m, args, below, meth, c, D, AK, xt', b'⟩ := x
  obtain ⟨hx, hb, hml, hown, hts, hK, hlk, hbs, hE, rfl, rfl⟩ := G
  intro H locs ls hH hS hl
  exact lv_dup_x1 hx hb d hc hd (h H locs ls hH hS hl)
theorem sv_goto (G : sv_G x b xt own cc nL) {off : Int} (t : Nat) (ht : (pc : Int) + off = (t : Int)) (d : decode cc pc = .ok (.goto off, 3))
    (h : sv_AW x Q F g cs sl t lv (st)) : sv_AW x Q F g cs sl pc lv (st) := by
  obtain ⟨p, l, e, R, s, m, args, below, meth, c, D, AK, xt', b'⟩ := x
  obtain ⟨hx, hb, hml, hown, hts, hK, hlk, hbs, hE, rfl, rfl⟩ := G
  intro H locs ls hH hS hl
  exact lv_goto hx hb d ht (h H locs ls hH hS hl)
theorem sv_if_eq (G : sv_G x b xt own cc nL) {y : Int32} {off : Int} (t : Nat) (ht : (pc : Int) + off = (t : Int)) (d : decode cc pc = .ok (.ifCond .eq off, 3))
    (h1 : y = 0 → sv_AW x Q F g cs sl t lv st) (h2 : ¬ (y = 0) → sv_AW x Q F g cs sl (pc + 3) lv st) : sv_AW x Q F g cs sl pc lv (.int y :: st) := by
  obtain ⟨p, l, e, R, s, m, args, below, meth, c, D, AK, xt', b'⟩ := x
  obtain ⟨hx, hb, hml, hown, hts, hK, hlk, hbs, hE, rfl, rfl⟩ := G
  intro H locs ls hH hS hl
  exact lv_if_eq hx hb d ht (fun q => h1 (by first | exact q | simpa using q) H locs ls hH hS hl) (fun q => h2 (by first | exact q | simpa using q) H locs ls hH hS hl)
theorem sv_ic_eq (G : sv_G x b xt own cc nL) {y z : Int32} {off : Int} (t : Nat) (ht : (pc : Int) + off = (t : Int)) (d : decode cc pc = .ok (.if_icmp .eq off, 3))
    (h1 : y = z → sv_AW x Q F g cs sl t lv st) (h2 : ¬ (y = z) → sv_AW x Q F g cs sl (pc + 3) lv st) : sv_AW x Q F g cs sl pc lv (.int z :: .int y :: st) := by
  obtain ⟨p, l, e, R, s, m, args, below, meth, c, D, AK, xt', b'⟩ := x
  obtain ⟨hx, hb, hml, hown, hts, hK, hlk, hbs, hE, rfl, rfl⟩ := G
  intro H locs ls hH hS hl
  exact lv_icmp_eq hx hb d ht (fun q => h1 (by first | exact q | simpa using q) H locs ls hH hS hl) (fun q => h2 (by first | exact q | simpa using q) H locs ls hH hS hl)
theorem sv_if_ne (G : sv_G x b xt own cc nL) {y : Int32} {off : Int} (t : Nat) (ht : (pc : Int) + off = (t : Int)) (d : decode cc pc = .ok (.ifCond .ne off, 3))
    (h1 : ¬ y = 0 → sv_AW x Q F g cs sl t lv st) (h2 : y = 0 → sv_AW x Q F g cs sl (pc + 3) lv st) : sv_AW x Q F g cs sl pc lv (.int y :: st) := by
  obtain ⟨p, l, e, R, s, m, args, below, meth, c, D, AK, xt', b'⟩ := x
  obtain ⟨hx, hb, hml, hown, hts, hK, hlk, hbs, hE, rfl, rfl⟩ := G
  intro H locs ls hH hS hl
  exact lv_if_ne hx hb d ht (fun q => h1 (by first | exact q | simpa using q) H locs ls hH hS hl) (fun q => h2 (by first | exact q | simpa using q) H locs ls hH hS hl)
theorem sv_ic_ne (G : sv_G x b xt own cc nL) {y z : Int32} {off : Int} (t : Nat) (ht : (pc : Int) + off = (t : Int)) (d : decode cc pc = .ok (.if_icmp .ne off, 3))
    (h1 : ¬ y = z → sv_AW x Q F g cs sl t lv st) (h2 : y = z → sv_AW x Q F g cs sl (pc + 3) lv st) : sv_AW x Q F g cs sl pc lv (.int z :: .int y :: st) := by
  obtain ⟨p, l, e, R, s, m, args, below, meth, c, D, AK, xt', b'⟩ := x
  obtain ⟨hx, hb, hml, hown, hts, hK, hlk, hbs, hE, rfl, rfl⟩ := G
  intro H locs ls hH hS hl
  exact lv_icmp_ne hx hb d ht (fun q => h1 (by first | exact q | simpa using q) H locs ls hH hS hl) (fun q => h2 (by first | exact q | simpa using q) H locs ls hH hS hl)
theorem sv_if_lt (G : sv_G x b xt own cc nL) {y : Int32} {off : Int} (t : Nat) (ht : (pc : Int) + off = (t : Int)) (d : decode cc pc = .ok (.ifCond .lt off, 3))
    (h1 : y < 0 → sv_AW x Q F g cs sl t lv st) (h2 : ¬ (y < 0) → sv_AW x Q F g cs sl (pc + 3) lv st) : sv_AW x Q F g cs sl pc lv (.int y :: st) := by
  obtain ⟨p, l, e, R, s, m, args, below, meth, c, D, AK, xt', b'⟩ := x
  obtain ⟨hx, hb, hml, hown, hts, hK, hlk, hbs, hE, rfl, rfl⟩ := G
  intro H locs ls hH hS hl
  exact lv_if_lt hx hb d ht (fun q => h1 (by first | exact q | simpa using q) H locs ls hH hS hl) (fun q => h2 (by first | exact q | simpa using q) H locs ls hH hS hl)
theorem sv_ic_lt (G : sv_G x b xt own cc nL) {y z : Int32} {off : Int} (t : Nat) (ht : (pc : Int) + off = (t : Int)) (d : decode cc pc = .ok (.if_icmp .lt off, 3))
    (h1 : y < z → sv_AW x Q F g cs sl t lv st) (h2 : ¬ (y < z) → sv_AW x Q F g cs sl (pc + 3) lv st) : sv_AW x Q F g cs sl pc lv (.int z :: .int y :: st) := by
  obtain ⟨p, l, e, R, s, m, args, below, meth, c, D, AK, xt', b'⟩ := x
  obtain ⟨hx, hb, hml, hown, hts, hK, hlk, hbs, hE, rfl, rfl⟩ := G
  intro H locs ls hH hS hl
  exact lv_icmp_lt hx hb d ht (fun q => h1 (by first | exact q | simpa using q) H locs ls hH hS hl) (fun q => h2 (by first | exact q | simpa using q) H locs ls hH hS hl)
theorem sv_if_ge (G : sv_G x b xt own cc nL) {y : Int32} {off : Int} (t : Nat) (ht : (pc : Int) + off = (t : Int)) (d : decode cc pc = .ok (.ifCond .ge off, 3))
    (h1 : 0 ≤ y → sv_AW x Q F g cs sl t lv st) (h2 : ¬ (0 ≤ y) → sv_AW x Q F g cs sl (pc + 3) lv st) : sv_AW x Q F g cs sl pc lv (.int y :: st) := by
  obtain ⟨p, l, e, R, s, m, args, below, meth, c, D, AK, xt', b'⟩ := x
  obtain ⟨hx, hb, hml, hown, hts, hK, hlk, hbs, hE, rfl, rfl⟩ := G
  intro H locs ls hH hS hl
  exact lv_if_ge hx hb d ht (fun q => h1 (by first | exact q | simpa using q) H locs ls hH hS hl) (fun q => h2 (by first | exact q | simpa using q) H locs ls hH hS hl)
theorem sv_ic_ge (G : sv_G x b xt own cc nL) {y z : Int32} {off : Int} (t : Nat) (ht : (pc : Int) + off = (t : Int)) (d : decode cc pc = .ok (.if_icmp .ge off, 3))
    (h1 : z ≤ y → sv_AW x Q F g cs sl t lv st) (h2 : ¬ (z ≤ y) → sv_AW x Q F g cs sl (pc + 3) lv st) : sv_AW x Q F g cs sl pc lv (.int z :: .int y :: st) := by
  obtain ⟨p, l, e, R, s, m, args, below, meth, c, D, AK, xt', b'⟩ := x
  obtain ⟨hx, hb, hml, hown, hts, hK, hlk, hbs, hE, rfl, rfl⟩ := G
  intro H locs ls hH hS hl
  exact lv_icmp_ge hx hb d ht (fun q => h1 (by first | exact q | simpa using q) H locs ls hH hS hl) (fun q => h2 (by first | exact q | simpa using q) H locs ls hH hS hl)
theorem sv_if_gt (G : sv_G x b xt own cc nL) {y : Int32} {off : Int} (t : Nat) (ht : (pc : Int) + off = (t : Int)) (d : decode cc pc = .ok (.ifCond .gt off, 3))
    (h1 : 0 < y → sv_AW x Q F g cs sl t lv st) (h2 : ¬ (0 < y) → sv_AW x Q F g cs sl (pc + 3) lv st) : sv_AW x Q F g cs sl pc lv (.int y :: st) := by
  obtain ⟨p, l, e, R, s, m, args, below, meth, c, D, AK, xt', b'⟩ := x
  obtain ⟨hx, hb, hml, hown, hts, hK, hlk, hbs, hE, rfl, rfl⟩ := G
  intro H locs ls hH hS hl
  exact lv_if_gt hx hb d ht (fun q => h1 (by first | exact q | simpa using q) H locs ls hH hS hl) (fun q => h2 (by first | exact q | simpa using q) H locs ls hH hS hl)
theorem sv_ic_gt (G : sv_G x b xt own cc nL) {y z : Int32} {off : Int} (t : Nat) (ht : (pc : Int) + off = (t : Int)) (d : decode cc pc = .ok (.if_icmp .gt off, 3))
    (h1 : z < y → sv_AW x Q F g cs sl t lv st) (h2 : ¬ (z < y) → sv_AW x Q F g cs sl (pc + 3) lv st) : sv_AW x Q F g cs sl pc lv (.int z :: .int y :: st) := by
  obtain ⟨p, l, e, R, s, m, args, below, meth, c, D, AK, xt', b'⟩ := x
  obtain ⟨hx, hb, hml, hown, hts, hK, hlk, hbs, hE, rfl, rfl⟩ := G
  intro H locs ls hH hS hl
  exact lv_icmp_gt hx hb d ht (fun q => h1 (by first | exact q | simpa using q) H locs ls hH hS hl) (fun q => h2 (by first | exact q | simpa using q) H locs ls hH hS hl)
theorem sv_if_le (G : sv_G x b xt own cc nL) {y : Int32} {off : Int} (t : Nat) (ht : (pc : Int) + off = (t : Int)) (d : decode cc pc = .ok (.ifCond .le off, 3))
    (h1 : y ≤ 0 → sv_AW x Q F g cs sl t lv st) (h2 : ¬ (y ≤ 0) → sv_AW x Q F g cs sl (pc + 3) lv st) : sv_AW x Q F g cs sl pc lv (.int y :: st) := by
  obtain ⟨p, l, e, R, s, m, args, below, meth, c, D, AK, xt', b'⟩ := x
  obtain ⟨hx, hb, hml, hown, hts, hK, hlk, hbs, hE, rfl, rfl⟩ := G
  intro H locs ls hH hS hl
  exact lv_if_le hx hb d ht (fun q => h1 (by first | exact q | simpa using q) H locs ls hH hS hl) (fun q => h2 (by first | exact q | simpa using q) H locs ls hH hS hl)
theorem sv_ic_le (G : sv_G x b xt own cc nL) {y z : Int32} {off : Int} (t : Nat) (ht : (pc : Int) + off = (t : Int)) (d : decode cc pc = .ok (.if_icmp .le off, 3))
    (h1 : y ≤ z → sv_AW x Q F g cs sl t lv st) (h2 : ¬ (y ≤ z) → sv_AW x Q F g cs sl (pc + 3) lv st) : sv_AW x Q F g cs sl pc lv (.int z :: .int y :: st) := by
  obtain ⟨p, l, e, R, s, m, args, below, meth, c, D, AK, xt', b'⟩ := x
  obtain ⟨hx, hb, hml, hown, hts, hK, hlk, hbs, hE, rfl, rfl⟩ := G
  intro H locs ls hH hS hl
  exact lv_icmp_le hx hb d ht (fun q => h1 (by first | exact q | simpa using q) H locs ls hH hS hl) (fun q => h2 (by first | exact q | simpa using q) H locs ls hH hS hl)
theorem sv_ifnn (G : sv_G x b xt own cc nL) {k : Nat} {off : Int} (t : Nat) (ht : (pc : Int) + off = (t : Int)) (d : decode cc pc = .ok (.ifnonnull off, 3))
    (h : sv_AW x Q F g cs sl t lv (st)) : sv_AW x Q F g cs sl pc lv (.ref k :: st) := by
  obtain ⟨p, l, e, R, s, m, args, below, meth, c, D, AK, xt', b'⟩ := x
  obtain ⟨hx, hb, hml, hown, hts, hK, hlk, hbs, hE, rfl, rfl⟩ := G
  intro H locs ls hH hS hl
  exact lv_ifnonnull hx hb d ht (h H locs ls hH hS hl)
theorem sv_ifnnN (G : sv_G x b xt own cc nL) {off : Int} (d : decode cc pc = .ok (.ifnonnull off, 3))
    (h : sv_AW x Q F g cs sl (pc + 3) lv (st)) : sv_AW x Q F g cs sl pc lv (.null :: st) := by
  obtain ⟨p, l, e, R, s, m, args, below, meth, c, D, AK, xt', b'⟩ := x
  obtain ⟨hx, hb, hml, hown, hts, hK, hlk, hbs, hE, rfl, rfl⟩ := G
  intro H locs ls hH hS hl
  exact lv_ifnonnullN hx hb d (h H locs ls hH hS hl)
theorem sv_ifnu (G : sv_G x b xt own cc nL) {k : Nat} {off : Int} (d : decode cc pc = .ok (.ifnull off, 3))
    (h : sv_AW x Q F g cs sl (pc + 3) lv (st)) : sv_AW x Q F g cs sl pc lv (.ref k :: st) := by
  obtain ⟨p, l, e, R, s, m, args, below, meth, c, D, AK, xt', b'⟩ := x
  obtain ⟨hx, hb, hml, hown, hts, hK, hlk, hbs, hE, rfl, rfl⟩ := G
  intro H locs ls hH hS hl
  exact lv_ifnull hx hb d (h H locs ls hH hS hl)
theorem sv_ifnuN (G : sv_G x b xt own cc nL) {off : Int} (t : Nat) (ht : (pc : Int) + off = (t : Int)) (d : decode cc pc = .ok (.ifnull off, 3))
    (h : sv_AW x Q F g cs sl t lv (st)) : sv_AW x Q F g cs sl pc lv (.null :: st) := by
  obtain ⟨p, l, e, R, s, m, args, below, meth, c, D, AK, xt', b'⟩ := x
  obtain ⟨hx, hb, hml, hown, hts, hK, hlk, hbs, hE, rfl, rfl⟩ := G
  intro H locs ls hH hS hl
  exact lv_ifnullN hx hb d ht (h H locs ls hH hS hl)
theorem sv_tsw (G : sv_G x b xt own cc nL) {dflt lo hi : Int} {offs : Array Int} {len : Nat} {y : Int32} {off : Int} (k : Int) (hk : y.toInt = k) (t : Nat) (h1 : ¬ k < lo) (h2 : ¬ hi < k) (ho : offs[(k - lo).toNat]? = some off) (ht : (pc : Int) + off = (t : Int)) (d : decode cc pc = .ok (.tableswitch dflt lo hi offs, len))
    (h : sv_AW x Q F g cs sl t lv (st)) : sv_AW x Q F g cs sl pc lv (.int y :: st) := by
  obtain ⟨p, l, e, R, s, m, args, below, meth, c, D, AK, xt', b'⟩ := x
  obtain ⟨hx, hb, hml, hown, hts, hK, hlk, hbs, hE, rfl, rfl⟩ := G
  intro H locs ls hH hS hl
  exact lv_tableIn hx hb d (by rw [hk]; exact h1) (by rw [hk]; exact h2) (by rw [hk]; exact ho) ht (h H locs ls hH hS hl)
theorem sv_tswD (G : sv_G x b xt own cc nL) {dflt lo hi : Int} {offs : Array Int} {len : Nat} {y : Int32} (hy : y.toInt < lo ∨ hi < y.toInt) (t : Nat) (ht : (pc : Int) + dflt = (t : Int)) (d : decode cc pc = .ok (.tableswitch dflt lo hi offs, len))
    (h : sv_AW x Q F g cs sl t lv (st)) : sv_AW x Q F g cs sl pc lv (.int y :: st) := by
  obtain ⟨p, l, e, R, s, m, args, below, meth, c, D, AK, xt', b'⟩ := x
  obtain ⟨hx, hb, hml, hown, hts, hK, hlk, hbs, hE, rfl, rfl⟩ := G
  intro H locs ls hH hS hl
  exact lv_tableOut hx hb d hy ht (h H locs ls hH hS hl)
theorem sv_lsw (G : sv_G x b xt own cc nL) {dflt : Int} {ps : Array (Int × Int)} {len : Nat} {y : Int32} {off : Int} (t : Nat) (hp : (ps.toList.zip (ps.toList.drop 1)).all (fun (a, next) => a.1 < next.1) = true) (ho : Op.lookupswitch.offset ps.toList dflt y.toInt = off) (ht : (pc : Int) + off = (t : Int)) (d : decode cc pc = .ok (.lookupswitch dflt ps, len))
    (h : sv_AW x Q F g cs sl t lv (st)) : sv_AW x Q F g cs sl pc lv (.int y :: st) := by
  obtain ⟨p, l, e, R, s, m, args, below, meth, c, D, AK, xt', b'⟩ := x
  obtain ⟨hx, hb, hml, hown, hts, hK, hlk, hbs, hE, rfl, rfl⟩ := G
  intro H locs ls hH hS hl
  exact lv_lookup hx hb d hp ho ht (h H locs ls hH hS hl)
theorem sv_topi {y : Int32} (h : ∀ v : Int32, v = y → sv_AW x Q F g cs sl pc lv (.int v :: st)) : sv_AW x Q F g cs sl pc lv (.int y :: st) := h y rfl
theorem sv_topl {y : Int64} (h : ∀ v : Int64, v = y → sv_AW x Q F g cs sl pc lv (.long v :: st)) : sv_AW x Q F g cs sl pc lv (.long y :: st) := h y rfl
theorem sv_cast {pc' : Nat} {lv' : List (Nat × Value)} {st' : List Value} (h : sv_AW x Q F g cs sl pc' lv' st') (e1 : pc = pc') (e2 : lv = lv') (e3 : st = st') : sv_AW x Q F g cs sl pc lv st := by
  subst e1; subst e2; subst e3; exact h
theorem sv_locs (ks : List Nat) (lv' : List (Nat × Value)) (e : lv_pick lv ks = lv') (h : sv_AW x Q F g cs sl pc lv' st) : sv_AW x Q F g cs sl pc lv st := by
  obtain ⟨p, l, e, R, s, m, args, below, meth, c, D, AK, xt', b'⟩ := x
  intro H locs ls hH hS hl
  exact h H locs ls hH hS (lv_sub hl ks ‹_›)
end SvRows
end
section
/-! MEMORY ROWS -/
theorem sv_V {N j : Nat} {f : Nat → Value} (hj : j < N) : vp_V ((List.range N).map f) j = f j := by
  simp [vp_V, hj]
/-- a field by its pool entry: the class's number, the field's, how many the class has, final -/
def sv_FW (own : String) (idx ci k N : Nat) (fin : Bool) : Prop := ∃ (C : String) (T : u_T), vwCl[ci]? = some (C, T, N) ∧ ci < 10 ∧ k < N ∧ (∀ w ∈ u_ws C T N, w ∈ sv_tbl) ∧ (∀ j, j < N → parseFieldDescriptor (T j).2.2.1 = some (sv_ty ci j)) ∧ (∀ a, a < N → ∀ b, b < N → a ≠ b → (T a).2.1 ≠ (T b).2.1) ∧ (T k).2.2.2 = fin ∧ (T k).1 = C ∧ Cond.fieldLink own idx (T k).1 (T k).2.1 (T k).2.2.1 ∈ sv_tbl
theorem sv_obj {D : va_G} {AK : Nat → ClassId} {b ci N a : Nat} {C : String} {T : u_T} {F : sv_Fr} {g : sv_Mg} {H : Heap} (hH : sv_H D AK b F g H) (ha : F.1[a]? = some (ci, N)) (hci : ci < 10) (hc : vwCl[ci]? = some (C, T, N)) : ∃ cell : Cell, H[b + a]? = some cell ∧ cell.cls = D.1 ci ∧ cell.vm = .none ∧ ∀ k, k < N → cell.slots[D.2 ci k]? = some (sv_fv b ci (g a) (F.2 a) k) := by
  have h := hH.at' ha
  rw [sv_cell, if_pos hci] at h
  obtain ⟨r, h1, cell, q1, q2, q3, q4⟩ := h
  have hr : r = (C, T, N) := Option.some.inj (h1.symm.trans hc)
  subst hr
  exact ⟨cell, q1, q2, q3, fun k hk => by rw [q4 k hk, sv_V hk]⟩
theorem sv_obj_at {D : va_G} {AK : Nat → ClassId} {b ci N a : Nat} {C : String} {T : u_T} {gi : Nat → Int32} {gr : Nat → Option Nat} {H : Heap} (hci : ci < 10) (hc : vwCl[ci]? = some (C, T, N)) {cell : Cell} (q1 : H[b + a]? = some cell) (q2 : cell.cls = D.1 ci) (q3 : cell.vm = .none) (q4 : ∀ k, k < N → cell.slots[D.2 ci k]? = some (sv_fv b ci gi gr k)) : va_at D vwCl (b + a, sv_cell AK b (ci, N) gi gr) H := by
  rw [sv_cell, if_pos hci]
  exact ⟨_, hc, cell, q1, q2, q3, fun k hk => by rw [q4 k hk, sv_V hk]⟩
theorem sv_arr {D : va_G} {AK : Nat → ClassId} {b t n a : Nat} {F : sv_Fr} {g : sv_Mg} {H : Heap} (hH : sv_H D AK b F g H) (ha : F.1[a]? = some (t, n)) (h1 : ¬ t < 10) (h2 : t < 20) : H[b + a]? = some (arrV (AK t) n (fun j => .int (g a j))) := by
  have h := hH.at' ha
  rw [sv_cell, if_neg h1, if_pos h2] at h
  exact h
theorem sv_arr_at {D : va_G} {AK : Nat → ClassId} {b t n a : Nat} {gi : Nat → Int32} {gr : Nat → Option Nat} {H : Heap} (h : H[b + a]? = some (arrV (AK t) n (fun j => .int (gi j)))) (h1 : ¬ t < 10) (h2 : t < 20) : va_at D vwCl (b + a, sv_cell AK b (t, n) gi gr) H := by
  rw [sv_cell, if_neg h1, if_pos h2]
  exact h
theorem sv_arq {D : va_G} {AK : Nat → ClassId} {b t n a : Nat} {F : sv_Fr} {g : sv_Mg} {H : Heap} (hH : sv_H D AK b F g H) (ha : F.1[a]? = some (t, n)) (h2 : ¬ t < 20) : H[b + a]? = some (arrV (AK t) n (fun j => sv_rv b (F.2 a j))) := by
  have h := hH.at' ha
  rw [sv_cell, if_neg (by omega), if_neg h2] at h
  exact h
theorem sv_arq_at {D : va_G} {AK : Nat → ClassId} {b t n a : Nat} {gi : Nat → Int32} {gr : Nat → Option Nat} {H : Heap} (h : H[b + a]? = some (arrV (AK t) n (fun j => sv_rv b (gr j)))) (h2 : ¬ t < 20) : va_at D vwCl (b + a, sv_cell AK b (t, n) gi gr) H := by
  rw [sv_cell, if_neg (by omega), if_neg h2]
  exact h
section SvMem
variable {x : sv_X} {Q : State → Prop} {F : sv_Fr} {g : sv_Mg} {cs sl pc b nL : Nat} {xt : sv_Xt} {lv : List (Nat × Value)} {st : List Value} {own : String} {cc : ByteArray}
theorem sv_getI (G : sv_G x b xt own cc nL) {idx ci k N a : Nat} {fin : Bool} (fw : sv_FW own idx ci k N fin) (ha : F.1[a]? = some (ci, N)) (hR : sv_isR (sv_ty ci k) = false) (d : decode cc pc = .ok (.getfield idx, 3))
    (h : sv_AW x Q F g cs sl (pc + 3) lv (.int (g a k) :: st)) : sv_AW x Q F g cs sl pc lv (.ref (b + a) :: st) := by
  obtain ⟨p, l, e, R, s, m, args, below, meth, c, D, AK, xt', b'⟩ := x
  obtain ⟨hx, hb, hml, hown, hts, hK, hlk, hbs, hE, rfl, rfl⟩ := G
  intro H locs ls hH hS hl
  obtain ⟨C, T, hc, hci, hk, hin, hty, hnm, hfin, hCT, hw⟩ := fw
  obtain ⟨cell, q1, q2, q3, q4⟩ := sv_obj hH ha hci hc
  obtain ⟨hSl, hfc, kC, hkC, hkind⟩ := hK.1 ci _ hc
  obtain ⟨cf, kf, fi, f, hi, hsl⟩ := hSl k hk
  refine W.getf hx hb hown (hts _ hw) hi (u_facts hfc hkC (u_lays hts hin hk) hi).1 q1 (by rw [q3]; exact fun h => by cases h) (v := .int (g a k)) ?_ rfl rfl d (h H locs ls hH hS hl)
  rw [hsl, q4 k hk, sv_fv, if_neg (by rw [hR]; decide)]
theorem sv_getR (G : sv_G x b xt own cc nL) {idx ci k N a q : Nat} {fin : Bool} (fw : sv_FW own idx ci k N fin) (ha : F.1[a]? = some (ci, N)) (hR : sv_isR (sv_ty ci k) = true) (hr : F.2 a k = some q) (d : decode cc pc = .ok (.getfield idx, 3))
    (h : sv_AW x Q F g cs sl (pc + 3) lv (.ref (b + q) :: st)) : sv_AW x Q F g cs sl pc lv (.ref (b + a) :: st) := by
  obtain ⟨p, l, e, R, s, m, args, below, meth, c, D, AK, xt', b'⟩ := x
  obtain ⟨hx, hb, hml, hown, hts, hK, hlk, hbs, hE, rfl, rfl⟩ := G
  intro H locs ls hH hS hl
  obtain ⟨C, T, hc, hci, hk, hin, hty, hnm, hfin, hCT, hw⟩ := fw
  obtain ⟨cell, q1, q2, q3, q4⟩ := sv_obj hH ha hci hc
  obtain ⟨hSl, hfc, kC, hkC, hkind⟩ := hK.1 ci _ hc
  obtain ⟨cf, kf, fi, f, hi, hsl⟩ := hSl k hk
  refine W.getf hx hb hown (hts _ hw) hi (u_facts hfc hkC (u_lays hts hin hk) hi).1 q1 (by rw [q3]; exact fun h => by cases h) (v := .ref (b' + q)) ?_ rfl rfl d (h H locs ls hH hS hl)
  rw [hsl, q4 k hk, sv_fv, if_pos hR, hr]
  rfl
/-- the fields of a cell once one of them has a new value -/
theorem sv_fv_set {b ci k : Nat} {gi gi' : Nat → Int32} {gr gr' : Nat → Option Nat} {v : Value} (hv : sv_fv b ci gi' gr' k = v) (ho : ∀ j, j ≠ k → gi' j = gi j ∧ gr' j = gr j) (j : Nat) : updV (fun j => sv_fv b ci gi gr j) k v j = sv_fv b ci gi' gr' j := by
  by_cases e : j = k
  · subst e
    rw [updV, if_pos rfl, hv]
  · rw [updV, if_neg e, sv_fv, sv_fv, (ho j e).1, (ho j e).2]
theorem sv_put (G : sv_G x b xt own cc nL) {idx ci k N a : Nat} (fw : sv_FW own idx ci k N false) (ha : F.1[a]? = some (ci, N)) {v : Value} (hn : narrow (sv_ty ci k) v = v) (hfit : fits (sv_ty ci k) v = true) (F' : sv_Fr) (g' : sv_Mg) (hF : F'.1 = F.1) (hg : ∀ j, j ≠ a → g' j = g j) (hr : ∀ j, j ≠ a → F'.2 j = F.2 j) (hv : sv_fv b ci (g' a) (F'.2 a) k = v) (ho : ∀ j, j ≠ k → g' a j = g a j ∧ F'.2 a j = F.2 a j) (d : decode cc pc = .ok (.putfield idx, 3))
    (h : sv_AW x Q F' g' cs sl (pc + 3) lv st) : sv_AW x Q F g cs sl pc lv (v :: .ref (b + a) :: st) := by
  obtain ⟨p, l, e, R, s, m, args, below, meth, c, D, AK, xt', b'⟩ := x
  obtain ⟨hx, hb, hml, hown, hts, hK, hlk, hbs, hE, rfl, rfl⟩ := G
  intro H locs ls hH hS hl
  obtain ⟨C, T, hc, hci, hk, hin, hty, hnm, hfin, hCT, hw⟩ := fw
  obtain ⟨cell, q1, q2, q3, q4⟩ := sv_obj hH ha hci hc
  have hap := va_apart (own := own) hts hin (sv_ty ci) hty hnm hK hc
  obtain ⟨hSl, hfc, kC, hkC, hkind⟩ := hK.1 ci _ hc
  obtain ⟨cf, kf, fi, f, hi, hsl⟩ := hSl k hk
  have hlay := hts _ (hin _ (u_in_lay hk))
  unfold u_lay at hlay
  rw [if_neg (by rw [hfin]; decide)] at hlay
  have hst := (u_facts hfc hkC (u_lays hts hin hk) hi).1
  have h6 := u_store hfc hkC hkind hlay hi (hty k hk) hn hfit
  refine W.putK hx hb (f := f) ⟨hown, hts _ hw, ⟨_, _, _, hi⟩, hst⟩ (by rw [q2]; exact h6) q1 q3 (by rw [hsl]; exact k2_hasslot (q4 k hk)) rfl rfl d fun H' e1 e2 e3 => ?_
  rw [hsl] at e1 ⊢
  refine h H' _ ls (hH.set ha ?_ e2 e3 hF hg hr) (hS.put e2 e3 (Nat.le_add_right b' a)) hl
  exact sv_obj_at hci hc e1 q2 q3 (fun j hj => by rw [t_set q4 hap hk v j hj]; exact congrArg some (sv_fv_set hv ho j))
theorem sv_putF (G : sv_G x b xt own cc nL) {idx ci k N a : Nat} (fw : sv_FW own idx ci k N true) (hin2 : match x with | (_, _, _, _, _, _, _, _, meth, _, _, _, _, _) => meth.name = "<init>") (hwn : ∀ C T, vwCl[ci]? = some (C, T, N) → C = own) (ha : F.1[a]? = some (ci, N)) {v : Value} (hn : narrow (sv_ty ci k) v = v) (hfit : fits (sv_ty ci k) v = true) (F' : sv_Fr) (g' : sv_Mg) (hF : F'.1 = F.1) (hg : ∀ j, j ≠ a → g' j = g j) (hr : ∀ j, j ≠ a → F'.2 j = F.2 j) (hv : sv_fv b ci (g' a) (F'.2 a) k = v) (ho : ∀ j, j ≠ k → g' a j = g a j ∧ F'.2 a j = F.2 a j) (d : decode cc pc = .ok (.putfield idx, 3))
    (h : sv_AW x Q F' g' cs sl (pc + 3) lv st) : sv_AW x Q F g cs sl pc lv (v :: .ref (b + a) :: st) := by
  obtain ⟨p, l, e, R, s, m, args, below, meth, c, D, AK, xt', b'⟩ := x
  obtain ⟨hx, hb, hml, hown, hts, hK, hlk, hbs, hE, rfl, rfl⟩ := G
  intro H locs ls hH hS hl
  obtain ⟨C, T, hc, hci, hk, hin, hty, hnm, hfin, hCT, hw⟩ := fw
  obtain ⟨cell, q1, q2, q3, q4⟩ := sv_obj hH ha hci hc
  have hap := va_apart (own := own) hts hin (sv_ty ci) hty hnm hK hc
  obtain ⟨hSl, hfc, kC, hkC, hkind⟩ := hK.1 ci _ hc
  obtain ⟨cf, kf, fi, f, hi, hsl⟩ := hSl k hk
  have hlay := hts _ (hin _ (u_in_lay hk))
  unfold u_lay at hlay
  rw [if_pos hfin] at hlay
  have hst := (u_facts hfc hkC (u_lays hts hin hk) hi).1
  have hcf : m.cls = cf := by
    obtain ⟨_, _, c', _, _, _, -, -, hf', -, -, -, hown2, -⟩ := Cond.laysFinal_spec hlay
    have e1 : c' = cf := by have := hi.symm.trans hf'; simp at this; exact this.1.symm
    rw [hCT, hwn C T hc] at hown2
    rw [← e1]; exact Option.some.inj (hown.symm.trans hown2)
  have h6 := u_fits hfc hkC hkind (Or.inr hlay) hi (hty k hk) hn hfit
  refine W.putFinK hx hb hown (hts _ hw) hi hst hcf hin2 (by rw [q2]; exact h6) q1 q3 (by rw [hsl]; exact k2_hasslot (q4 k hk)) rfl rfl d fun H' e1 e2 e3 => ?_
  rw [hsl] at e1 ⊢
  refine h H' _ ls (hH.set ha ?_ e2 e3 hF hg hr) (hS.put e2 e3 (Nat.le_add_right b' a)) hl
  exact sv_obj_at hci hc e1 q2 q3 (fun j hj => by rw [t_set q4 hap hk v j hj]; exact congrArg some (sv_fv_set hv ho j))
/-- an int field becomes v -/
theorem sv_putI (G : sv_G x b xt own cc nL) {idx ci k N a : Nat} (fw : sv_FW own idx ci k N false) (ha : F.1[a]? = some (ci, N)) {v : Int32} (hR : sv_ty ci k = .int) (d : decode cc pc = .ok (.putfield idx, 3))
    (h : ∀ g', g' = sv_st g a k v → sv_AW x Q F g' cs sl (pc + 3) lv st) : sv_AW x Q F g cs sl pc lv (.int v :: .ref (b + a) :: st) := by
  refine sv_put G fw ha (by rw [hR]; rfl) (by rw [hR]; rfl) F (sv_st g a k v) rfl (fun j hj => sv_st_ne hj) (fun j hj => rfl) ?_ (fun j hj => ⟨?_, rfl⟩) d (h _ rfl)
  · rw [sv_fv, hR, sv_st_eq]; simp [sv_isR, upd]
  · rw [sv_st_eq]; simp [upd, hj]
/-- a boolean field becomes v -/
theorem sv_putZ (G : sv_G x b xt own cc nL) {idx ci k N a : Nat} (fw : sv_FW own idx ci k N false) (ha : F.1[a]? = some (ci, N)) {v : Int32} (hv : v = 0 ∨ v = 1) (hR : sv_ty ci k = .boolean) (d : decode cc pc = .ok (.putfield idx, 3))
    (h : ∀ g', g' = sv_st g a k v → sv_AW x Q F g' cs sl (pc + 3) lv st) : sv_AW x Q F g cs sl pc lv (.int v :: .ref (b + a) :: st) := by
  refine sv_put G fw ha (by rw [hR]; rcases hv with rfl | rfl <;> decide) (by rw [hR]; rcases hv with rfl | rfl <;> decide) F (sv_st g a k v) rfl (fun j hj => sv_st_ne hj) (fun j hj => rfl) ?_ (fun j hj => ⟨?_, rfl⟩) d (h _ rfl)
  · rw [sv_fv, hR, sv_st_eq]; simp [sv_isR, upd]
  · rw [sv_st_eq]; simp [upd, hj]
/-- a final int field, in a constructor -/
theorem sv_putIF (G : sv_G x b xt own cc nL) {idx ci k N a : Nat} (fw : sv_FW own idx ci k N true) (hin2 : match x with | (_, _, _, _, _, _, _, _, meth, _, _, _, _, _) => meth.name = "<init>") (hwn : ∀ C T, vwCl[ci]? = some (C, T, N) → C = own) (ha : F.1[a]? = some (ci, N)) {v : Int32} (hR : sv_ty ci k = .int) (d : decode cc pc = .ok (.putfield idx, 3))
    (h : ∀ g', g' = sv_st g a k v → sv_AW x Q F g' cs sl (pc + 3) lv st) : sv_AW x Q F g cs sl pc lv (.int v :: .ref (b + a) :: st) := by
  refine sv_putF G fw hin2 hwn ha (by rw [hR]; rfl) (by rw [hR]; rfl) F (sv_st g a k v) rfl (fun j hj => sv_st_ne hj) (fun j hj => rfl) ?_ (fun j hj => ⟨?_, rfl⟩) d (h _ rfl)
  · rw [sv_fv, hR, sv_st_eq]; simp [sv_isR, upd]
  · rw [sv_st_eq]; simp [upd, hj]
/-- a final reference field, in a constructor -/
theorem sv_putRF (G : sv_G x b xt own cc nL) {idx ci k N a q : Nat} (fw : sv_FW own idx ci k N true) (hin2 : match x with | (_, _, _, _, _, _, _, _, meth, _, _, _, _, _) => meth.name = "<init>") (hwn : ∀ C T, vwCl[ci]? = some (C, T, N) → C = own) (ha : F.1[a]? = some (ci, N)) (hR : sv_isR (sv_ty ci k) = true) (d : decode cc pc = .ok (.putfield idx, 3))
    (h : ∀ F', F' = (F.1, sv_sr F.2 a k (some q)) → sv_AW x Q F' g cs sl (pc + 3) lv st) : sv_AW x Q F g cs sl pc lv (.ref (b + q) :: .ref (b + a) :: st) := by
  have hn : ∀ t, sv_isR t = true → ∀ z, narrow t (.ref z) = .ref z ∧ fits t (.ref z) = true := by
    intro t ht z
    cases t <;> first | exact ⟨rfl, rfl⟩ | cases ht
  refine sv_putF G fw hin2 hwn ha (hn _ hR _).1 (hn _ hR _).2 (F.1, sv_sr F.2 a k (some q)) g rfl (fun j hj => rfl) (fun j hj => sv_sr_ne hj) ?_ (fun j hj => ⟨rfl, ?_⟩) d (h _ rfl)
  · rw [sv_fv, if_pos hR]
    show sv_rv b (sv_sr F.2 a k (some q) a k) = _
    rw [sv_sr_eq]; simp [va_up, sv_rv, va_rf]
  · show sv_sr F.2 a k (some q) a j = F.2 a j
    rw [sv_sr_eq]; simp [va_up, hj]
/-! arrays of ints -/
theorem sv_iald (G : sv_G x b xt own cc nL) {a n : Nat} {i : Int32} (ha : F.1[a]? = some (10, n)) (hi : vp_in i n) (d : decode cc pc = .ok (.iaload, 1))
    (h : sv_AW x Q F g cs sl (pc + 1) lv (.int (g a i.toNatClampNeg) :: st)) : sv_AW x Q F g cs sl pc lv (.int i :: .ref (b + a) :: st) := by
  obtain ⟨p, l, e, R, s, m, args, below, meth, c, D, AK, xt', b'⟩ := x
  obtain ⟨hx, hb, hml, hown, hts, hK, hlk, hbs, hE, rfl, rfl⟩ := G
  intro H locs ls hH hS hl
  exact va_iald hx hb hK hH.1 a 0 (sv_ws_at ha) rfl hi d (h H locs ls hH hS hl)
theorem sv_cald (G : sv_G x b xt own cc nL) {a n : Nat} {i : Int32} (ha : F.1[a]? = some (11, n)) (hi : vp_in i n) (d : decode cc pc = .ok (.caload, 1))
    (h : sv_AW x Q F g cs sl (pc + 1) lv (.int (g a i.toNatClampNeg) :: st)) : sv_AW x Q F g cs sl pc lv (.int i :: .ref (b + a) :: st) := by
  obtain ⟨p, l, e, R, s, m, args, below, meth, c, D, AK, xt', b'⟩ := x
  obtain ⟨hx, hb, hml, hown, hts, hK, hlk, hbs, hE, rfl, rfl⟩ := G
  intro H locs ls hH hS hl
  exact va_cald hx hb hK hH.1 a 1 (sv_ws_at ha) rfl hi d (h H locs ls hH hS hl)
theorem sv_zald (G : sv_G x b xt own cc nL) {a n : Nat} {i : Int32} (ha : F.1[a]? = some (12, n)) (hi : vp_in i n) (d : decode cc pc = .ok (.baload, 1))
    (h : sv_AW x Q F g cs sl (pc + 1) lv (.int (g a i.toNatClampNeg) :: st)) : sv_AW x Q F g cs sl pc lv (.int i :: .ref (b + a) :: st) := by
  obtain ⟨p, l, e, R, s, m, args, below, meth, c, D, AK, xt', b'⟩ := x
  obtain ⟨hx, hb, hml, hown, hts, hK, hlk, hbs, hE, rfl, rfl⟩ := G
  intro H locs ls hH hS hl
  exact va_zald hx hb hK hH.1 a 2 (sv_ws_at ha) rfl hi d (h H locs ls hH hS hl)
theorem sv_alen (G : sv_G x b xt own cc nL) {a n : Nat} (ha : F.1[a]? = some (10, n)) (d : decode cc pc = .ok (.arraylength, 1))
    (h : sv_AW x Q F g cs sl (pc + 1) lv (.int (nI n) :: st)) : sv_AW x Q F g cs sl pc lv (.ref (b + a) :: st) := by
  obtain ⟨p, l, e, R, s, m, args, below, meth, c, D, AK, xt', b'⟩ := x
  obtain ⟨hx, hb, hml, hown, hts, hK, hlk, hbs, hE, rfl, rfl⟩ := G
  intro H locs ls hH hS hl
  exact va_alen hx hb hK hH.1 a 0 (sv_ws_at ha) rfl rfl d (h H locs ls hH hS hl)
theorem sv_upd_int (f : Nat → Int32) (k : Nat) (v : Int32) : updV (fun j => Value.int (f j)) k (.int v) = fun j => .int (upd f k v j) := by
  funext j
  by_cases e : j = k
  · simp [updV, upd, e]
  · simp [updV, upd, e]
theorem sv_iast (G : sv_G x b xt own cc nL) {a n : Nat} {i v : Int32} (ha : F.1[a]? = some (10, n)) (hi : vp_in i n) (d : decode cc pc = .ok (.iastore, 1))
    (h : ∀ g', g' = sv_st g a i.toNatClampNeg v → sv_AW x Q F g' cs sl (pc + 1) lv st) : sv_AW x Q F g cs sl pc lv (.int v :: .int i :: .ref (b + a) :: st) := by
  have h := h _ rfl
  obtain ⟨p, l, e, R, s, m, args, below, meth, c, D, AK, xt', b'⟩ := x
  obtain ⟨hx, hb, hml, hown, hts, hK, hlk, hbs, hE, rfl, rfl⟩ := G
  intro H locs ls hH hS hl
  refine W.iast hx hb (sv_arr hH ha (by decide) (by decide)) ((hK.2 0 _ rfl).1 n _) (fun q => by cases q) (by rw [arrV_size]; exact hi) rfl rfl d fun H1 e z oq => ?_
  refine h H1 _ ls (hH.set ha ?_ z oq rfl (fun j hj => sv_st_ne hj) (fun j hj => rfl)) (hS.put z oq (Nat.le_add_right b' a)) hl
  refine sv_arr_at ?_ (by decide) (by decide)
  rw [e, arrV_store, sv_st_eq, sv_upd_int]
theorem sv_cast' (G : sv_G x b xt own cc nL) {a n : Nat} {i v : Int32} (ha : F.1[a]? = some (11, n)) (hi : vp_in i n) (hv : narrow .char (.int v) = .int v) (d : decode cc pc = .ok (.castore, 1))
    (h : ∀ g', g' = sv_st g a i.toNatClampNeg v → sv_AW x Q F g' cs sl (pc + 1) lv st) : sv_AW x Q F g cs sl pc lv (.int v :: .int i :: .ref (b + a) :: st) := by
  have h := h _ rfl
  obtain ⟨p, l, e, R, s, m, args, below, meth, c, D, AK, xt', b'⟩ := x
  obtain ⟨hx, hb, hml, hown, hts, hK, hlk, hbs, hE, rfl, rfl⟩ := G
  intro H locs ls hH hS hl
  refine W.cast hx hb (sv_arr hH ha (by decide) (by decide)) ((hK.2 1 _ rfl).1 n _) (fun q => by cases q) (by rw [arrV_size]; exact hi) rfl rfl d fun H1 e z oq => ?_
  refine h H1 _ ls (hH.set ha ?_ z oq rfl (fun j hj => sv_st_ne hj) (fun j hj => rfl)) (hS.put z oq (Nat.le_add_right b' a)) hl
  refine sv_arr_at ?_ (by decide) (by decide)
  rw [e, hv, arrV_store, sv_st_eq, sv_upd_int]
theorem sv_zast (G : sv_G x b xt own cc nL) {a n : Nat} {i v : Int32} (ha : F.1[a]? = some (12, n)) (hi : vp_in i n) (hv : v = 0 ∨ v = 1) (d : decode cc pc = .ok (.bastore, 1))
    (h : ∀ g', g' = sv_st g a i.toNatClampNeg v → sv_AW x Q F g' cs sl (pc + 1) lv st) : sv_AW x Q F g cs sl pc lv (.int v :: .int i :: .ref (b + a) :: st) := by
  have h := h _ rfl
  obtain ⟨p, l, e, R, s, m, args, below, meth, c, D, AK, xt', b'⟩ := x
  obtain ⟨hx, hb, hml, hown, hts, hK, hlk, hbs, hE, rfl, rfl⟩ := G
  intro H locs ls hH hS hl
  have hv : narrow .boolean (.int v) = .int v := by rcases hv with rfl | rfl <;> decide
  refine W.zast hx hb (sv_arr hH ha (by decide) (by decide)) ((hK.2 2 _ rfl).1 n _) (fun q => by cases q) (by rw [arrV_size]; exact hi) rfl rfl d fun H1 e z oq => ?_
  refine h H1 _ ls (hH.set ha ?_ z oq rfl (fun j hj => sv_st_ne hj) (fun j hj => rfl)) (hS.put z oq (Nat.le_add_right b' a)) hl
  refine sv_arr_at ?_ (by decide) (by decide)
  rw [e, hv, arrV_store, sv_st_eq, sv_upd_int]
/-! arrays of references: t0 is the array's place in sv_tys -/
theorem sv_aald (G : sv_G x b xt own cc nL) {a t n : Nat} {i : Int32} (t0 : Nat) {C : String} (ht : ∀ AK, (sv_tys AK)[t0]? = some (AK t, .object C)) (ht2 : ¬ t < 20) (ha : F.1[a]? = some (t, n)) (hi : vp_in i n) (d : decode cc pc = .ok (.aaload, 1))
    (h : sv_AW x Q F g cs sl (pc + 1) lv (sv_rv b (F.2 a i.toNatClampNeg) :: st)) : sv_AW x Q F g cs sl pc lv (.int i :: .ref (b + a) :: st) := by
  obtain ⟨p, l, e, R, s, m, args, below, meth, c, D, AK, xt', b'⟩ := x
  obtain ⟨hx, hb, hml, hown, hts, hK, hlk, hbs, hE, rfl, rfl⟩ := G
  intro H locs ls hH hS hl
  have hlt : i.toNatClampNeg < n := Nat.not_le.mp fun q => hi (Or.inr q)
  exact W.aald (v := sv_rv b' (F.2 a i.toNatClampNeg)) (ty := .object C) hx hb (sv_arq hH ha ht2) ((hK.2 t0 _ (ht AK)).1 n _) rfl (fun q => by cases q) (by rw [arrV_size]; exact hi) (by rw [arrV_read _ _ hlt]) rfl rfl d (h H locs ls hH hS hl)
theorem sv_aast (G : sv_G x b xt own cc nL) {a t n v ci N : Nat} {i : Int32} (t0 : Nat) {C : String} {T : u_T} (ht : ∀ AK, (sv_tys AK)[t0]? = some (AK t, .object C)) (ht2 : ¬ t < 20) (ha : F.1[a]? = some (t, n)) (hi : vp_in i n) (hv : F.1[v]? = some (ci, N)) (hci : ci < 10) (hc : vwCl[ci]? = some (C, T, N)) (d : decode cc pc = .ok (.aastore, 1))
    (h : ∀ F', F' = (F.1, sv_sr F.2 a i.toNatClampNeg (some v)) → sv_AW x Q F' g cs sl (pc + 1) lv st) : sv_AW x Q F g cs sl pc lv (.ref (b + v) :: .int i :: .ref (b + a) :: st) := by
  have h := h _ rfl
  obtain ⟨p, l, e, R, s, m, args, below, meth, c, D, AK, xt', b'⟩ := x
  obtain ⟨hx, hb, hml, hown, hts, hK, hlk, hbs, hE, rfl, rfl⟩ := G
  intro H locs ls hH hS hl
  have hlt : i.toNatClampNeg < n := Nat.not_le.mp fun q => hi (Or.inr q)
  have h0 : ¬ i < 0 := fun q => hi (Or.inl q)
  obtain ⟨cellV, g1, g2, g3, -⟩ := sv_obj hH hv hci hc
  have hcls := (hK.1 ci _ hc).2
  obtain ⟨kA, comp, k1, k2, k3, -⟩ := (hK.2 t0 _ (ht AK)).2
  have hcomp : comp = D.1 ci := Option.some.inj (k3.symm.trans hcls.1)
  subst hcomp
  obtain ⟨kC, hkC, -⟩ := hcls.2
  refine W.aast hx hb (sv_arq hH ha ht2) (fun q h => by cases h) (fun h => by cases h) k1 k2 rfl hkC ⟨h0, by rw [arrV_size]; exact hlt⟩ g1 (fun q h => by rw [g3] at h; cases h) (by rw [g2]; exact hkC) (by rw [g2]; exact va_assign hcls) rfl rfl d fun H1 e z oq => ?_
  refine h H1 _ ls (hH.set ha ?_ z oq rfl (fun j hj => rfl) (fun j hj => sv_sr_ne hj)) (hS.put z oq (Nat.le_add_right b' a)) hl
  refine sv_arq_at ?_ ht2
  rw [e, arrV_store]
  congr 2
  funext q
  show updV _ _ _ q = sv_rv b' (sv_sr F.2 a i.toNatClampNeg (some v) a q)
  rw [sv_sr_eq]
  by_cases hq : q = i.toNatClampNeg
  · subst hq
    simp [updV, va_up, va_rf, sv_rv]
  · simp [updV, va_up, hq]
end SvMem
end
section
/-! NEW CELLS, COPIES, CALLS, CONTRACTS -/
/-- a class by its pool entry -/
def sv_CW (own : String) (idx ci N : Nat) : Prop := ∃ (C : String) (T : u_T), vwCl[ci]? = some (C, T, N) ∧ ci < 10 ∧ (∀ w ∈ u_ws C T N, w ∈ sv_tbl) ∧ (∀ j, j < N → parseFieldDescriptor (T j).2.2.1 = some (sv_ty ci j)) ∧ Cond.classLink own idx C ∈ sv_tbl ∧ Cond.instantiable C N ∈ sv_tbl ∧ Cond.initialized C ∈ sv_tbl ∧ (∀ j, j < N → defaultValue (sv_ty ci j) = if sv_isR (sv_ty ci j) = true then .null else .int 0)
theorem sv_S_up {b : Nat} {H0 H H1 : Heap} {locs : List Loc} (hS : va_S (sv_A b) H0 H locs) (z : H1.size = H.size + 1) (o : ∀ q : Nat, q < H.size → H1[q]? = H[q]?) : va_S (sv_A b) H0 H1 locs :=
  ⟨Nat.le_trans hS.1 (by omega), fun q h1 h2 => (o q (Nat.lt_of_lt_of_le h1 hS.1)).trans (hS.2.1 q h1 h2), hS.2.2⟩
/-- a new cell of a shape, all 0 and null -/
def sv_nw (F : sv_Fr) (sh : sv_Sh) : sv_Fr := (F.1 ++ [sh], sv_sra F.2 F.1.length (fun _ => none))
def sv_nz (F : sv_Fr) (g : sv_Mg) : sv_Mg := sv_sa g F.1.length (fun _ => 0)
theorem sv_H_new {D : va_G} {AK : Nat → ClassId} {b : Nat} {F : sv_Fr} {g : sv_Mg} {H H' : Heap} (h : sv_H D AK b F g H) {sh : sv_Sh} (e : va_at D vwCl (b + F.1.length, sv_cell AK b sh (fun _ => 0) (fun _ => none)) H') (z : H'.size = H.size + 1) (oq : ∀ q : Nat, q < H.size → H'[q]? = H[q]?) : sv_H D AK b (sv_nw F sh) (sv_nz F g) H' := by
  refine h.push (sh := sh) ?_ z oq rfl (fun k hk => sv_sa_ne (Nat.ne_of_lt hk)) (fun k hk => sv_sra_ne (Nat.ne_of_lt hk))
  show va_at D vwCl (b + F.1.length, sv_cell AK b sh (sv_sa g F.1.length (fun _ => 0) F.1.length) (sv_sra F.2 F.1.length (fun _ => none) F.1.length)) H'
  rw [sv_sa_eq, sv_sra_eq]
  exact e
section SvNew
variable {x : sv_X} {Q : State → Prop} {F : sv_Fr} {g : sv_Mg} {cs sl pc b nL fr lo mc ms : Nat} {xt : sv_Xt} {lv : List (Nat × Value)} {st : List Value} {own : String} {cc : ByteArray}
theorem sv_new (G : sv_G x b xt own cc nL) (RR : sv_R x fr lo mc ms) {idx ci N : Nat} (cw : sv_CW own idx ci N) (hm : cs + 1 ≤ mc ∧ sl + N ≤ ms) (d : decode cc pc = .ok (.new idx, 3))
    (h : ∀ F' g' a, F' = sv_nw F (ci, N) → g' = sv_nz F g → a = F.1.length → sv_AW x Q F' g' (cs + 1) (sl + N) (pc + 3) lv (.ref (b + a) :: st)) : sv_AW x Q F g cs sl pc lv st := by
  have h := h _ _ _ rfl rfl rfl
  obtain ⟨p, l, e, R, s, m, args, below, meth, c, D, AK, xt', b'⟩ := x
  obtain ⟨hx, hb, hml, hown, hts, hK, hlk, hbs, hE, rfl, rfl⟩ := G
  obtain ⟨r1, r2, r3, r4⟩ := RR
  intro H locs ls hH hS hl
  obtain ⟨C, T, hc, hci, hin, hty, w1, w2, w3, hdf⟩ := cw
  have hKn := hK.1 ci _ hc
  refine W.newcK hx hb hown (hts _ w1) (hts _ w2) (hts _ w3) rfl d (Nat.le_trans hm.1 r3) (Nat.le_trans hm.2 r4) hKn.2.1 hH.2 fun H1 kC hkC e1 z1 o1 => ?_
  have o2 : ∀ q : Nat, q < H.size → H1[q]? = H[q]? := fun q hq => o1 q (by rw [hH.2] at hq; exact hq)
  have z2 : H1.size = H.size + 1 := by rw [z1, hH.2]
  refine h H1 locs ls (sv_H_new hH ?_ z2 o2) (sv_S_up hS z2 o2) hl
  obtain ⟨cell, q1, q2, q3, q4⟩ := u_born (sv_ty ci) hts hin hKn hkC e1 hty
  refine sv_obj_at hci hc q1 q2 q3 (fun k hk => ?_)
  rw [q4 k hk]
  show some (defaultValue (sv_ty ci k)) = _
  rw [hdf k hk, sv_fv]
  rfl
theorem sv_newa (G : sv_G x b xt own cc nL) (RR : sv_R x fr lo mc ms) {t : Nat} (t0 : Nat) {atype : ArrayType} (h1 : ¬ t < 10) (h2 : t < 20) (ht : ∀ AK, (sv_tys AK)[t0]? = some (AK t, newarray.typeOf atype)) (hra : ∀ U cA, va_RA U cA (newarray.typeOf atype) → U.vm.findClass ("[" ++ (newarray.typeOf atype).toString) = some cA) (hdv : defaultValue (newarray.typeOf atype) = .int 0) (hcb : componentBytes (newarray.typeOf atype) ≤ 4) (hw : Cond.arrayClass (newarray.typeOf atype) ∈ sv_tbl) {n : Int32} (N : Nat) (hn : n = nI N) (hN : N ≤ 100000) (hm : cs + 1 ≤ mc ∧ sl + N ≤ ms) (d : decode cc pc = .ok (.newarray atype, 2))
    (h : ∀ F' g' a, F' = sv_nw F (t, N) → g' = sv_nz F g → a = F.1.length → sv_AW x Q F' g' (cs + 1) (sl + N) (pc + 2) lv (.ref (b + a) :: st)) : sv_AW x Q F g cs sl pc lv (.int n :: st) := by
  have h := h _ _ _ rfl rfl rfl
  obtain ⟨p, l, e, R, s, m, args, below, meth, c, D, AK, xt', b'⟩ := x
  obtain ⟨hx, hb, hml, hown, hts, hK, hlk, hbs, hE, rfl, rfl⟩ := G
  obtain ⟨r1, r2, r3, r4⟩ := RR
  intro H locs ls hH hS hl
  subst hn
  have hbig : N < 2 ^ 31 := Nat.lt_of_le_of_lt hN (by decide)
  have hbt : N * componentBytes (newarray.typeOf atype) ≤ 536870912 := Nat.le_trans (Nat.mul_le_mul hN hcb) (by decide)
  refine va_newaK hx hb (hts _ hw) rfl d rfl (nI_pos hbig) (nI_clamp hbig) hbt (Nat.le_trans hm.1 r3) (Nat.le_trans hm.2 r4) hH.2 fun H1 cA e1 z1 o1 hAr hNm => ?_
  have hcA : cA = AK t := Option.some.inj (hNm.symm.trans (hra _ _ (hK.2 t0 _ (ht AK)).2))
  subst hcA
  have o2 : ∀ q : Nat, q < H.size → H1[q]? = H[q]? := fun q hq => o1 q (by rw [hH.2] at hq; exact hq)
  have z2 : H1.size = H.size + 1 := by rw [z1, hH.2]
  refine h H1 locs ls (sv_H_new hH ?_ z2 o2) (sv_S_up hS z2 o2) hl
  refine sv_arr_at ?_ h1 h2
  rw [e1, hdv]
theorem sv_anew (G : sv_G x b xt own cc nL) (RR : sv_R x fr lo mc ms) {idx t : Nat} {C : String} (t0 : Nat) (h2 : ¬ t < 20) (ht : ∀ AK, (sv_tys AK)[t0]? = some (AK t, .object C)) (hAO : ∀ U, sv_E b xt U → va_AO C U) (hw : Cond.classLink own idx C ∈ sv_tbl) {n : Int32} (N : Nat) (hn : n = nI N) (hN : N ≤ 100000) (hm : cs + 1 ≤ mc ∧ sl + N ≤ ms) (d : decode cc pc = .ok (.anewarray idx, 3))
    (h : ∀ F' g' a, F' = sv_nw F (t, N) → g' = sv_nz F g → a = F.1.length → sv_AW x Q F' g' (cs + 1) (sl + N) (pc + 3) lv (.ref (b + a) :: st)) : sv_AW x Q F g cs sl pc lv (.int n :: st) := by
  have h := h _ _ _ rfl rfl rfl
  obtain ⟨p, l, e, R, s, m, args, below, meth, c, D, AK, xt', b'⟩ := x
  obtain ⟨hx, hb, hml, hown, hts, hK, hlk, hbs, hE, rfl, rfl⟩ := G
  obtain ⟨r1, r2, r3, r4⟩ := RR
  intro H locs ls hH hS hl
  subst hn
  have hbig : N < 2 ^ 31 := Nat.lt_of_le_of_lt hN (by decide)
  have hcl : (nI N).toNatClampNeg = N := nI_clamp hbig
  have hbt : (nI N).toNatClampNeg * 4 ≤ 536870912 := by rw [hcl]; omega
  refine W.anew hx hb hown (hts _ hw) (va_AO.use (hAO _ hE)) rfl d rfl (nI_pos hbig) hbt (Nat.le_trans hm.1 r3) (by rw [hcl]; exact Nat.le_trans hm.2 r4) fun cA kA comp f1 f2 f3 f4 => ?_
  obtain ⟨kA', comp', k1, k2, k3, k4⟩ := (hK.2 t0 _ (ht AK)).2
  have hcA : cA = AK t := Option.some.inj (f1.symm.trans k4)
  subst hcA
  rw [hcl]
  generalize hH1 : H.push ({ cls := AK t, slots := Array.replicate N .null, vm := .none } : Cell) = H1
  have z2 : H1.size = H.size + 1 := by rw [← hH1, Array.size_push]
  have e1 : H1[H.size]? = some (arrV (AK t) N (fun _ => .null)) := by rw [← hH1, Array.getElem?_push_size, ← arrV_new]
  have o2 : ∀ q : Nat, q < H.size → H1[q]? = H[q]? := fun q hq => by rw [← hH1, Array.getElem?_push, if_neg (Nat.ne_of_lt hq)]
  rw [hH.2]
  refine h H1 locs ls (sv_H_new hH ?_ z2 o2) (sv_S_up hS z2 o2) hl
  refine sv_arq_at ?_ h2
  rw [← hH.2, e1]
  rfl
theorem sv_nn {z : Int32} (hz : ¬ z < 0) : z.toInt = (z.toNatClampNeg : Int) := by
  have hz0 : (0 : Int) ≤ z.toInt := by
    have := Int32.not_lt.mp hz
    simpa using Int32.le_iff_toInt_le.mp this
  show z.toInt = ((z.toInt.toNat : Nat) : Int)
  omega
/-- System.arraycopy between two int arrays -/
theorem sv_copy (G : sv_G x b xt own cc nL) (RR : sv_R x fr lo mc ms) {idx a0 a1 n0 n1 : Nat} {sp dp n : Int32} (w1 : Cond.methodLink own idx arraycopyName ∈ sv_tbl) (w2 : Cond.native arraycopyName ∈ sv_tbl) (w3 : Cond.static arraycopyName ∈ sv_tbl) (w4 : Cond.initialized "java/lang/System" ∈ sv_tbl) (ha0 : F.1[a0]? = some (10, n0)) (ha1 : F.1[a1]? = some (10, n1)) (h1 : ¬ sp < 0) (h2 : ¬ dp < 0) (h3 : ¬ n < 0) (h4 : sp.toNatClampNeg + n.toNatClampNeg ≤ n0) (h5 : dp.toNatClampNeg + n.toNatClampNeg ≤ n1) (hfr : 1 ≤ fr) (hlo : (st.map fun v => v.category).sum + (nativeFrameWords "java/lang/System" "arraycopy" 5 + 11) ≤ lo) (d : decode cc pc = .ok (.invokestatic idx, 3))
    (h : ∀ g', g' = sv_sa g a1 (va_cpy (g a0) (g a1) sp.toNatClampNeg dp.toNatClampNeg n.toNatClampNeg) → sv_AW x Q F g' cs sl (pc + 3) lv st) : sv_AW x Q F g cs sl pc lv (.int n :: .int dp :: .ref (b + a1) :: .int sp :: .ref (b + a0) :: st) := by
  have h := h _ rfl
  obtain ⟨p, l, e, R, s, m, args, below, meth, c, D, AK, xt', b'⟩ := x
  obtain ⟨hx, hb, hml, hown, hts, hK, hlk, hbs, hE, rfl, rfl⟩ := G
  obtain ⟨r1, r2, r3, r4⟩ := RR
  intro H locs ls hH hS hl
  have hc0 := sv_arr hH ha0 (by decide) (by decide)
  have hc1 := sv_arr hH ha1 (by decide) (by decide)
  obtain ⟨-, k0, hk0, cm0, hkk0⟩ := (hK.2 0 _ rfl).1 n0 (fun j => .int (g a0 j))
  obtain ⟨-, k1, hk1, cm1, hkk1⟩ := (hK.2 0 _ rfl).1 n1 (fun j => .int (g a1 j))
  intro T hT X
  obtain ⟨vm', X', step⟩ := X.arraycopy hx hown (hts _ w1) (hts _ w2) (hts _ w3) (hts _ w4) (src := b' + a0) (dst := b' + a1) (cs := arrV (AK 10) n0 (fun j => .int (g a0 j))) (cd := arrV (AK 10) n1 (fun j => .int (g a1 j))) (srcPos := sp) (destPos := dp) (n := n) (by rw [hT]; exact hc0) (by rw [hT]; exact hc1)
    (fun _ h => by cases h) (fun _ h => by cases h) (fun h => by cases h) (fun h => by cases h) hk0 hk1 hkk0 hkk1 (by simp [refKind]) h1 h2 h3
    (by rw [sv_nn h1, sv_nn h3, arrV_size]; omega) (by rw [sv_nn h2, sv_nn h3, arrV_size]; omega)
    (fun vm₁ _ i hi => by
      have e : (arrV (AK 10) n0 (fun j => Value.int (g a0 j))).slots.getD (sp.toNatClampNeg + i) .null = .int (g a0 (sp.toNatClampNeg + i)) := by
        rw [Array.getD_eq_getD_getElem?, arrV_read _ _ (by omega)]
        rfl
      rw [e]
      exact ⟨rfl, trivial⟩)
    (g := F0 m pc ls (.int n :: .int dp :: .ref (b' + a1) :: .int sp :: .ref (b' + a0) :: st)) rfl hl.1 (rest := st) rfl (by rw [hb]; exact d) (Nat.le_trans hfr r1) (by show 2 * 0 + _ + _ ≤ _; omega)
  have e1 : copied (arrV (AK 10) n0 (fun j => .int (g a0 j))) (arrV (AK 10) n1 (fun j => .int (g a1 j))) sp dp n = arrV (AK 10) n1 (fun j => .int (va_cpy (g a0) (g a1) sp.toNatClampNeg dp.toNatClampNeg n.toNatClampNeg j)) := va_copied (fun z => .int z) (AK 10) (AK 10) (g a0) (g a1) h4
  rw [e1] at X' step
  have hlt : b' + a1 < H.size := (Array.getElem?_eq_some_iff.mp hc1).1
  generalize hcell : arrV (AK 10) n1 (fun j => Value.int (va_cpy (g a0) (g a1) sp.toNatClampNeg dp.toNatClampNeg n.toNatClampNeg j)) = cellN at X' step
  have hheap : ((T.setVm vm').setCell (b' + a1) cellN).heap = H.setIfInBounds (b' + a1) cellN := by rw [← hT]; rfl
  have oq : ∀ q : Nat, q ≠ b' + a1 → (H.setIfInBounds (b' + a1) cellN)[q]? = H[q]? := fun q hq => by simp [Array.getElem?_setIfInBounds, Ne.symm hq]
  obtain ⟨t, q1, q2⟩ := h (H.setIfInBounds (b' + a1) cellN) _ ls (hH.set ha1 (sv_arr_at (by rw [← hcell, sv_sa_eq]; simp [Array.getElem?_setIfInBounds, hlt]) (by decide) (by decide)) (by simp) oq rfl (fun j hj => sv_sa_ne hj) (fun j hj => rfl))
    ⟨by simp; exact hS.1, fun q g1 g2 => by
      rw [oq q (fun e => g2 (by rw [e]; exact Nat.le_add_right b' a1))]
      exact hS.2.1 q g1 g2, fun q hq => by
      rcases List.mem_append.mp hq with h | h
      · exact hS.2.2 q h
      · obtain ⟨z, -, hz⟩ := List.mem_map.mp h
        rw [← hz]
        exact Nat.le_add_right b' a1⟩ hl _ hheap X'
  exact ⟨t, step t q1, q2⟩
end SvNew
/-- a method's contract at given arguments, cells and contents -/
def sv_Pre (D : va_G) (AK : Nat → ClassId) (b : Nat) (xt : sv_Xt) (F : sv_Fr) (g : sv_Mg) (U : State) : Prop := va_K D vwCl (sv_tys AK) U ∧ sv_E b xt U ∧ sv_H D AK b F g U.heap
def sv_QC (D : va_G) (AK : Nat → ClassId) (b : Nat) (QQ : Option Value → sv_Fr → sv_Mg → Prop) : Array Value → State → Outcome → State → Prop := fun _ st oc t => (∃ (r : Option Value) (F' : sv_Fr) (g' : sv_Mg), oc = .returned r ∧ QQ r F' g' ∧ sv_H D AK b F' g' t.heap) ∧ va_F (sv_A b) st t
def sv_rm (fr lo mc ms : Nat) : Room := { frames := fr, cells := mc, slots := ms, locals := lo }
def sv_Cal (y : MethodName) (cc : ByteArray) (nL : Nat) (rt : Option FieldType) (fr lo mc ms b : Nat) (xt : sv_Xt) (avs : List Value) (F : sv_Fr) (g : sv_Mg) (QQ : Option Value → sv_Fr → sv_Mg → Prop) : Prop :=
  ∀ (l : Launch) (D : va_G) (AK : Nat → ClassId), Met l y (.code y cc nL rt :: sv_tbl) (sv_rm fr lo mc ms) (va_Pc avs (sv_Pre D AK b xt F g)) (sv_QC D AK b QQ) mc ms (sv_A b)
/-- a method by its name: code, how many parameters -/
def sv_MW (y : MethodName) (cc : ByteArray) (nL : Nat) (rt : Option FieldType) (n : Nat) : Prop := Cond.code y cc nL rt ∈ sv_tbl ∧ Cond.initialized y.cls ∈ sv_tbl ∧ (y.cls ≠ "java/lang/invoke/MethodHandle" ∧ y.cls ≠ "java/lang/invoke/VarHandle" ∧ (parseMethodDescriptor y.desc).map (fun d => d.parameters.length) = some n) ∧ plainName y.cls = true
def sv_LV (own : String) (idx : Nat) (y : MethodName) : Prop := Cond.methodLink own idx y ∈ sv_tbl ∧ Cond.instanceMethod y ∈ sv_tbl ∧ Cond.selects y.cls y y ∈ sv_tbl
def sv_LS (own : String) (idx : Nat) (y : MethodName) : Prop := Cond.methodLink own idx y ∈ sv_tbl ∧ Cond.static y ∈ sv_tbl
def sv_LI (own : String) (idx : Nat) (y : MethodName) : Prop := Cond.methodLink own idx y ∈ sv_tbl ∧ Cond.instanceMethod y ∈ sv_tbl ∧ y.name = "<init>"
def sv_LSN (own : String) (idx : Nat) (y : MethodName) (host : String) : Prop := (own, idx, y, host) ∈ sv_nests ∧ Cond.static y ∈ sv_tbl
def sv_LIN (own : String) (idx : Nat) (y : MethodName) (host : String) : Prop := (own, idx, y, host) ∈ sv_nests ∧ Cond.instanceMethod y ∈ sv_tbl ∧ y.name = "<init>"
theorem sv_blind {D : va_G} {AK : Nat → ClassId} {b : Nat} {xt : sv_Xt} {F : sv_Fr} {g : sv_Mg} {avs : List Value} : FrameBlind (va_Pc avs (sv_Pre D AK b xt F g)) := by
  intro a U gf mk q
  obtain ⟨q0, qK, qE, qH⟩ := q
  exact ⟨q0, va_K.moved (u := U) (U := U.calling gf mk a) (Vm.Alike.refl U.vm) qK, qE.same rfl rfl, qH⟩
section SvCall
variable {x : sv_X} {Q : State → Prop} {F : sv_Fr} {g : sv_Mg} {cs sl pc b nL fr lo mc ms : Nat} {xt : sv_Xt} {lv : List (Nat × Value)} {st st0 : List Value} {own : String} {cc : ByteArray}
theorem sv_back {p : Program} {l : Launch} {e : Env} {R : Room} {s : State} {m : MethodId} {args : Array Value} {below : List Frame} {meth : Method} {c : Code} {H : Heap} {locs : List Loc} {ls : Array Slot} {D : va_G} {AK : Nat → ClassId} {mc' ms' : Nat} {QQ : Option Value → sv_Fr → sv_Mg → Prop} {a : Array Value}
    (hr : va_Run p l e R s m args below meth c H locs cs sl mc' ms' (F0 m pc ls st0) st (sv_QC D AK b QQ a) (sv_A b)) (hS : va_S (sv_A b) s.heap H locs) (hl : lv_has ls c.maxLocals lv)
    (h : ∀ r F' g', QQ r F' g' → sv_AW (p, l, e, R, s, m, args, below, meth, c, D, AK, xt, b) Q F' g' (cs + mc') (sl + ms') (pc + 3) lv (r.toList ++ st)) : W p l e R s m args below meth c H locs cs sl Q (F0 m pc ls st0) := by
  intro T hT X
  obtain ⟨v, st₀, t, T', L, h0, X', hL, e1, e2, ⟨⟨r, F', g', hv, hq, hH'⟩, hz, hk⟩, go⟩ := hr T hT X
  cases hv
  rw [h0] at hz hk
  obtain ⟨t2, a1, b1⟩ := h v F' g' hq T'.heap (locs ++ L) ls (by rw [e1]; exact hH')
    ⟨Nat.le_trans hS.1 (by rw [e1]; exact hz), fun q h1 h2 => by rw [e1, hk q (Nat.lt_of_lt_of_le h1 hS.1) h2]; exact hS.2.1 q h1 h2, fun q hq => by
      rcases List.mem_append.mp hq with h | h
      · exact hS.2.2 q h
      · exact hL q h⟩ hl T' rfl X'
  exact ⟨t2, go t2 a1, b1⟩
theorem sv_callV (G : sv_G x b xt own cc nL) (RR : sv_R x fr lo mc ms) {y : MethodName} {cc' : ByteArray} {nL' fr' lo' mc' ms' idx n a ci N : Nat} {rt : Option FieldType} {As : List Value} {QQ : Option Value → sv_Fr → sv_Mg → Prop} {T : u_T} (hC : sv_Cal y cc' nL' rt fr' lo' mc' ms' b xt (.ref (b + a) :: As) F g QQ) (mw : sv_MW y cc' nL' rt n) (lw : sv_LV own idx y) (ha : F.1[a]? = some (ci, N)) (hci : ci < 10) (hc : vwCl[ci]? = some (y.cls, T, N)) (hn : As.length = n) (hr : fr' + 1 ≤ fr ∧ 8 + (nL' + 11) + lo' ≤ lo) (hm : cs + mc' ≤ mc ∧ sl + ms' ≤ ms) (hst : (st.map fun v => v.category).sum ≤ 8) (hs : st0 = As.reverse ++ .ref (b + a) :: st) (d : decode cc pc = .ok (.invokevirtual idx, 3))
    (h : ∀ r F' g', QQ r F' g' → sv_AW x Q F' g' (cs + mc') (sl + ms') (pc + 3) lv (r.toList ++ st)) : sv_AW x Q F g cs sl pc lv st0 := by
  obtain ⟨p, l, e, R, s, m, args, below, meth, c, D, AK, xt', b'⟩ := x
  obtain ⟨hx, hb, hml, hown, hts, hK, hlk, hbs, hE, rfl, rfl⟩ := G
  obtain ⟨r1, r2, r3, r4⟩ := RR
  obtain ⟨m1, m2, m3, m4⟩ := mw
  intro H locs ls hH hS hl
  obtain ⟨cell, q1, q2, q3, -⟩ := sv_obj hH ha hci hc
  refine sv_back (va_runV (As := As) (rest := st) (C := y.cls) ⟨hx, hb, hml, hown, hts⟩ (hC l D AK) ⟨callB_of n hts (sv_goodIn m1) rfl rfl rfl (hts _ m2) (hts _ lw.1) m3 ⟨Nat.le_trans hr.1 r1, Nat.le_trans hr.2 r2⟩, hts _ lw.2.1, hts _ lw.2.2⟩ ⟨sv_blind, ⟨cell, q1, by rw [q3]; rfl, by rw [q2]; exact (hK.1 ci _ hc).2.1⟩, fun U hU hW => ⟨rfl, va_K.moved hW.alike hK, hE.go hW (fun q h1 h2 => by rw [hU]; exact hS.2.1 q h1 h2), by rw [hU]; exact hH⟩⟩ rfl hn (hl.1.trans hml) hs (lv_room hst) d ⟨Nat.le_trans hm.1 r3, Nat.le_trans hm.2 r4⟩) hS hl h
theorem sv_callS (G : sv_G x b xt own cc nL) (RR : sv_R x fr lo mc ms) {y : MethodName} {cc' : ByteArray} {nL' fr' lo' mc' ms' idx n : Nat} {rt : Option FieldType} {As : List Value} {QQ : Option Value → sv_Fr → sv_Mg → Prop} (hC : sv_Cal y cc' nL' rt fr' lo' mc' ms' b xt As F g QQ) (mw : sv_MW y cc' nL' rt n) (lw : sv_LS own idx y) (hn : As.length = n) (hr : fr' + 1 ≤ fr ∧ 8 + (nL' + 11) + lo' ≤ lo) (hm : cs + mc' ≤ mc ∧ sl + ms' ≤ ms) (hst : (st.map fun v => v.category).sum ≤ 8) (hs : st0 = As.reverse ++ st) (d : decode cc pc = .ok (.invokestatic idx, 3))
    (h : ∀ r F' g', QQ r F' g' → sv_AW x Q F' g' (cs + mc') (sl + ms') (pc + 3) lv (r.toList ++ st)) : sv_AW x Q F g cs sl pc lv st0 := by
  obtain ⟨p, l, e, R, s, m, args, below, meth, c, D, AK, xt', b'⟩ := x
  obtain ⟨hx, hb, hml, hown, hts, hK, hlk, hbs, hE, rfl, rfl⟩ := G
  obtain ⟨r1, r2, r3, r4⟩ := RR
  obtain ⟨m1, m2, m3, m4⟩ := mw
  intro H locs ls hH hS hl
  refine sv_back (va_runS (As := As) (rest := st) ⟨hx, hb, hml, hown, hts⟩ (hC l D AK) ⟨callB_of n hts (sv_goodIn m1) rfl rfl rfl (hts _ m2) (hts _ lw.1) m3 ⟨Nat.le_trans hr.1 r1, Nat.le_trans hr.2 r2⟩, hts _ lw.2⟩ ⟨sv_blind, fun U hU hW => ⟨rfl, va_K.moved hW.alike hK, hE.go hW (fun q h1 h2 => by rw [hU]; exact hS.2.1 q h1 h2), by rw [hU]; exact hH⟩⟩ rfl hn (hl.1.trans hml) hs (lv_room hst) d ⟨Nat.le_trans hm.1 r3, Nat.le_trans hm.2 r4⟩) hS hl h
theorem sv_callI (G : sv_G x b xt own cc nL) (RR : sv_R x fr lo mc ms) {y : MethodName} {cc' : ByteArray} {nL' fr' lo' mc' ms' idx n a : Nat} {As : List Value} {QQ : Option Value → sv_Fr → sv_Mg → Prop} (hC : sv_Cal y cc' nL' none fr' lo' mc' ms' b xt (.ref (b + a) :: As) F g QQ) (mw : sv_MW y cc' nL' none n) (lw : sv_LI own idx y) (hn : As.length = n) (hr : fr' + 1 ≤ fr ∧ 8 + (nL' + 11) + lo' ≤ lo) (hm : cs + mc' ≤ mc ∧ sl + ms' ≤ ms) (hst : (st.map fun v => v.category).sum ≤ 8) (hs : st0 = As.reverse ++ .ref (b + a) :: st) (d : decode cc pc = .ok (.invokespecial idx, 3))
    (h : ∀ r F' g', QQ r F' g' → sv_AW x Q F' g' (cs + mc') (sl + ms') (pc + 3) lv (r.toList ++ st)) : sv_AW x Q F g cs sl pc lv st0 := by
  obtain ⟨p, l, e, R, s, m, args, below, meth, c, D, AK, xt', b'⟩ := x
  obtain ⟨hx, hb, hml, hown, hts, hK, hlk, hbs, hE, rfl, rfl⟩ := G
  obtain ⟨r1, r2, r3, r4⟩ := RR
  obtain ⟨m1, m2, m3, m4⟩ := mw
  intro H locs ls hH hS hl
  refine sv_back (va_runI (As := As) (rest := st) ⟨hx, hb, hml, hown, hts⟩ (hC l D AK) ⟨callB_of n hts (sv_goodIn m1) rfl rfl rfl (hts _ m2) (hts _ lw.1) m3 ⟨Nat.le_trans hr.1 r1, Nat.le_trans hr.2 r2⟩, lw.2.2, hts _ lw.2.1⟩ ⟨sv_blind, fun U hU hW => ⟨rfl, va_K.moved hW.alike hK, hE.go hW (fun q h1 h2 => by rw [hU]; exact hS.2.1 q h1 h2), by rw [hU]; exact hH⟩⟩ rfl hn (hl.1.trans hml) hs (lv_room hst) d ⟨Nat.le_trans hm.1 r3, Nat.le_trans hm.2 r4⟩) hS hl h
theorem sv_callSN (G : sv_G x b xt own cc nL) (RR : sv_R x fr lo mc ms) {y : MethodName} {cc' : ByteArray} {nL' fr' lo' mc' ms' idx n : Nat} {rt : Option FieldType} {host : String} {As : List Value} {QQ : Option Value → sv_Fr → sv_Mg → Prop} (hC : sv_Cal y cc' nL' rt fr' lo' mc' ms' b xt As F g QQ) (mw : sv_MW y cc' nL' rt n) (lw : sv_LSN own idx y host) (hn : As.length = n) (hr : fr' + 1 ≤ fr ∧ 8 + (nL' + 11) + lo' ≤ lo) (hm : cs + mc' ≤ mc ∧ sl + ms' ≤ ms) (hst : (st.map fun v => v.category).sum ≤ 8) (hs : st0 = As.reverse ++ st) (d : decode cc pc = .ok (.invokestatic idx, 3))
    (h : ∀ r F' g', QQ r F' g' → sv_AW x Q F' g' (cs + mc') (sl + ms') (pc + 3) lv (r.toList ++ st)) : sv_AW x Q F g cs sl pc lv st0 := by
  obtain ⟨p, l, e, R, s, m, args, below, meth, c, D, AK, xt', b'⟩ := x
  obtain ⟨hx, hb, hml, hown, hts, hK, hlk, hbs, hE, rfl, rfl⟩ := G
  obtain ⟨r1, r2, r3, r4⟩ := RR
  obtain ⟨m1, m2, m3, m4⟩ := mw
  intro H locs ls hH hS hl
  refine sv_back (va_runSN (As := As) (rest := st) (host := host) ⟨hx, hb, hml, hown, hts⟩ (hC l D AK) ⟨va_cnB n hts (sv_goodIn m1) rfl rfl rfl (hE.1 _ lw.1) (hts _ m2) m3 ⟨Nat.le_trans hr.1 r1, Nat.le_trans hr.2 r2⟩, hts _ lw.2, trivial⟩ ⟨sv_blind, fun U hU hW => ⟨rfl, va_K.moved hW.alike hK, hE.go hW (fun q h1 h2 => by rw [hU]; exact hS.2.1 q h1 h2), by rw [hU]; exact hH⟩⟩ rfl hn (hl.1.trans hml) hs (lv_room hst) d ⟨Nat.le_trans hm.1 r3, Nat.le_trans hm.2 r4⟩) hS hl h
theorem sv_callIN (G : sv_G x b xt own cc nL) (RR : sv_R x fr lo mc ms) {y : MethodName} {cc' : ByteArray} {nL' fr' lo' mc' ms' idx n a : Nat} {host : String} {As : List Value} {QQ : Option Value → sv_Fr → sv_Mg → Prop} (hC : sv_Cal y cc' nL' none fr' lo' mc' ms' b xt (.ref (b + a) :: As) F g QQ) (mw : sv_MW y cc' nL' none n) (lw : sv_LIN own idx y host) (hn : As.length = n) (hr : fr' + 1 ≤ fr ∧ 8 + (nL' + 11) + lo' ≤ lo) (hm : cs + mc' ≤ mc ∧ sl + ms' ≤ ms) (hst : (st.map fun v => v.category).sum ≤ 8) (hs : st0 = As.reverse ++ .ref (b + a) :: st) (d : decode cc pc = .ok (.invokespecial idx, 3))
    (h : ∀ r F' g', QQ r F' g' → sv_AW x Q F' g' (cs + mc') (sl + ms') (pc + 3) lv (r.toList ++ st)) : sv_AW x Q F g cs sl pc lv st0 := by
  obtain ⟨p, l, e, R, s, m, args, below, meth, c, D, AK, xt', b'⟩ := x
  obtain ⟨hx, hb, hml, hown, hts, hK, hlk, hbs, hE, rfl, rfl⟩ := G
  obtain ⟨r1, r2, r3, r4⟩ := RR
  obtain ⟨m1, m2, m3, m4⟩ := mw
  intro H locs ls hH hS hl
  refine sv_back (va_runIN (As := As) (rest := st) (host := host) ⟨hx, hb, hml, hown, hts⟩ (hC l D AK) ⟨va_cnB n hts (sv_goodIn m1) rfl rfl rfl (hE.1 _ lw.1) (hts _ m2) m3 ⟨Nat.le_trans hr.1 r1, Nat.le_trans hr.2 r2⟩, lw.2.2, hts _ lw.2.1⟩ ⟨sv_blind, fun U hU hW => ⟨rfl, va_K.moved hW.alike hK, hE.go hW (fun q h1 h2 => by rw [hU]; exact hS.2.1 q h1 h2), by rw [hU]; exact hH⟩⟩ rfl hn (hl.1.trans hml) hs (lv_room hst) d ⟨Nat.le_trans hm.1 r3, Nat.le_trans hm.2 r4⟩) hS hl h
theorem sv_objInit (G : sv_G x b xt own cc nL) (RR : sv_R x fr lo mc ms) {idx a : Nat} (w1 : Cond.methodLink own idx Lib.objectInit ∈ sv_tbl) (w2 : Cond.instanceMethod Lib.objectInit ∈ sv_tbl) (w3 : Cond.code Lib.objectInit ⟨#[0xb1]⟩ 1 none ∈ sv_tbl) (hfr : 1 ≤ fr) (hlo : 20 ≤ lo) (hst : (st.map fun v => v.category).sum ≤ 8) (d : decode cc pc = .ok (.invokespecial idx, 3))
    (h : sv_AW x Q F g cs sl (pc + 3) lv st) : sv_AW x Q F g cs sl pc lv (.ref a :: st) := by
  obtain ⟨p, l, e, R, s, m, args, below, meth, c, D, AK, xt', b'⟩ := x
  obtain ⟨hx, hb, hml, hown, hts, hK, hlk, hbs, hE, rfl, rfl⟩ := G
  obtain ⟨r1, r2, r3, r4⟩ := RR
  intro H locs ls hH hS hl
  exact W.objInit hx hb hown (hts _ w1) (hts _ w2) (hts _ w3) rfl hl.1 rfl d (Nat.le_trans hfr r1) (by show 2 * 0 + _ + 12 ≤ _; omega) (h H locs ls hH hS hl)
theorem sv_min (G : sv_G x b xt own cc nL) (RR : sv_R x fr lo mc ms) {idx : Nat} {y z : Int32} (w1 : Cond.methodLink own idx Lib.Math.min.name ∈ sv_tbl) (w2 : Cond.static Lib.Math.min.name ∈ sv_tbl) (w3 : Cond.initialized "java/lang/Math" ∈ sv_tbl) (w4 : Cond.code Lib.Math.min.name Lib.Math.min.code 2 (some .int) ∈ sv_tbl) (hfr : 1 ≤ fr) (hlo : 21 ≤ lo) (hst : (st.map fun v => v.category).sum ≤ 8) (hm : cs ≤ mc ∧ sl ≤ ms) (d : decode cc pc = .ok (.invokestatic idx, 3))
    (h : sv_AW x Q F g cs sl (pc + 3) lv (.int (if z < y then z else y) :: st)) : sv_AW x Q F g cs sl pc lv (.int z :: .int y :: st) := by
  obtain ⟨p, l, e, R, s, m, args, below, meth, c, D, AK, xt', b'⟩ := x
  obtain ⟨hx, hb, hml, hown, hts, hK, hlk, hbs, hE, rfl, rfl⟩ := G
  obtain ⟨r1, r2, r3, r4⟩ := RR
  intro H locs ls hH hS hl
  exact va_mmin hx hb hl.1.symm hown (hts _ w1) (hts _ w2) (hts _ w3) (hts _ w4) (Nat.le_trans hfr r1) (by omega) (Nat.le_trans hm.1 r3) (Nat.le_trans hm.2 r4) d (h H locs ls hH hS hl)
theorem sv_max (G : sv_G x b xt own cc nL) (RR : sv_R x fr lo mc ms) {idx : Nat} {y z : Int32} (w1 : Cond.methodLink own idx Lib.Math.max.name ∈ sv_tbl) (w2 : Cond.static Lib.Math.max.name ∈ sv_tbl) (w3 : Cond.initialized "java/lang/Math" ∈ sv_tbl) (w4 : Cond.code Lib.Math.max.name Lib.Math.max.code 2 (some .int) ∈ sv_tbl) (hfr : 1 ≤ fr) (hlo : 21 ≤ lo) (hst : (st.map fun v => v.category).sum ≤ 8) (hm : cs ≤ mc ∧ sl ≤ ms) (d : decode cc pc = .ok (.invokestatic idx, 3))
    (h : sv_AW x Q F g cs sl (pc + 3) lv (.int (if y < z then z else y) :: st)) : sv_AW x Q F g cs sl pc lv (.int z :: .int y :: st) := by
  obtain ⟨p, l, e, R, s, m, args, below, meth, c, D, AK, xt', b'⟩ := x
  obtain ⟨hx, hb, hml, hown, hts, hK, hlk, hbs, hE, rfl, rfl⟩ := G
  obtain ⟨r1, r2, r3, r4⟩ := RR
  intro H locs ls hH hS hl
  exact va_mmax hx hb hl.1.symm hown (hts _ w1) (hts _ w2) (hts _ w3) (hts _ w4) (Nat.le_trans hfr r1) (by omega) (Nat.le_trans hm.1 r3) (Nat.le_trans hm.2 r4) d (h H locs ls hH hS hl)
theorem sv_abs (G : sv_G x b xt own cc nL) (RR : sv_R x fr lo mc ms) {idx : Nat} {y : Int32} (w1 : Cond.methodLink own idx Lib.Math.abs.name ∈ sv_tbl) (w2 : Cond.static Lib.Math.abs.name ∈ sv_tbl) (w3 : Cond.initialized "java/lang/Math" ∈ sv_tbl) (w4 : Cond.code Lib.Math.abs.name Lib.Math.abs.code 1 (some .int) ∈ sv_tbl) (hfr : 1 ≤ fr) (hlo : 21 ≤ lo) (hst : (st.map fun v => v.category).sum ≤ 8) (hm : cs ≤ mc ∧ sl ≤ ms) (d : decode cc pc = .ok (.invokestatic idx, 3))
    (h : sv_AW x Q F g cs sl (pc + 3) lv (.int (if 0 ≤ y then y else 0 - y) :: st)) : sv_AW x Q F g cs sl pc lv (.int y :: st) := by
  obtain ⟨p, l, e, R, s, m, args, below, meth, c, D, AK, xt', b'⟩ := x
  obtain ⟨hx, hb, hml, hown, hts, hK, hlk, hbs, hE, rfl, rfl⟩ := G
  obtain ⟨r1, r2, r3, r4⟩ := RR
  intro H locs ls hH hS hl
  exact va_mabs hx hb hl.1.symm hown (hts _ w1) (hts _ w2) (hts _ w3) (hts _ w4) (Nat.le_trans hfr r1) (by omega) (Nat.le_trans hm.1 r3) (Nat.le_trans hm.2 r4) d (h H locs ls hH hS hl)
/-- where a method's walk must end -/
def sv_Q (x : sv_X) (QQ : Option Value → sv_Fr → sv_Mg → Prop) (mc ms : Nat) : State → Prop := match x with
  | (_, _, _, _, s, _, args, below, _, _, D, AK, _, b) => MQ below (sv_QC D AK b QQ) args s mc ms (sv_A b)
def sv_RT (x : sv_X) (rt : Option FieldType) : Prop := match x with
  | (_, _, _, _, _, _, _, _, meth, _, _, _, _, _) => meth.sig.returnType = rt
def sv_NM (x : sv_X) (nm : String) : Prop := match x with
  | (_, _, _, _, _, _, _, _, meth, _, _, _, _, _) => meth.name = nm
theorem sv_ireturn (G : sv_G x b xt own cc nL) {QQ : Option Value → sv_Fr → sv_Mg → Prop} {v : Int32} (T : sv_RT x (some .int)) (hm : cs ≤ mc ∧ sl ≤ ms) (d : decode cc pc = .ok (.ireturn, 1)) (h : QQ (some (.int v)) F g) : sv_AW x (sv_Q x QQ mc ms) F g cs sl pc lv [.int v] := by
  obtain ⟨p, l, e, R, s, m, args, below, meth, c, D, AK, xt', b'⟩ := x
  obtain ⟨hx, hb, hml, hown, hts, hK, hlk, hbs, hE, rfl, rfl⟩ := G
  intro H locs ls hH hS hl
  exact W.widen hm.1 hm.2 (W.iret (v := v) hx hb T (fun t ht hW => ⟨⟨_, F, g, rfl, h, by rw [ht]; exact hH⟩, hS.F ht⟩) hS.2.2 d hlk)
theorem sv_zreturn (G : sv_G x b xt own cc nL) {QQ : Option Value → sv_Fr → sv_Mg → Prop} {v : Int32} (T : sv_RT x (some .boolean)) (hv : v = 0 ∨ v = 1) (hm : cs ≤ mc ∧ sl ≤ ms) (d : decode cc pc = .ok (.ireturn, 1)) (h : QQ (some (.int v)) F g) : sv_AW x (sv_Q x QQ mc ms) F g cs sl pc lv [.int v] := by
  obtain ⟨p, l, e, R, s, m, args, below, meth, c, D, AK, xt', b'⟩ := x
  obtain ⟨hx, hb, hml, hown, hts, hK, hlk, hbs, hE, rfl, rfl⟩ := G
  intro H locs ls hH hS hl
  exact W.widen hm.1 hm.2 (W.zret (v := v) hx hb T (by rcases hv with rfl | rfl <;> decide) (fun t ht hW => ⟨⟨_, F, g, rfl, h, by rw [ht]; exact hH⟩, hS.F ht⟩) hS.2.2 d hlk)
theorem sv_creturn (G : sv_G x b xt own cc nL) {QQ : Option Value → sv_Fr → sv_Mg → Prop} {v : Int32} {ty : FieldType} (T : sv_RT x (some ty)) (hv : narrow ty (.int v) = .int v) (hm : cs ≤ mc ∧ sl ≤ ms) (d : decode cc pc = .ok (.ireturn, 1)) (h : QQ (some (.int v)) F g) : sv_AW x (sv_Q x QQ mc ms) F g cs sl pc lv [.int v] := by
  obtain ⟨p, l, e, R, s, m, args, below, meth, c, D, AK, xt', b'⟩ := x
  obtain ⟨hx, hb, hml, hown, hts, hK, hlk, hbs, hE, rfl, rfl⟩ := G
  intro H locs ls hH hS hl
  exact W.widen hm.1 hm.2 (W.zret (v := v) hx hb T hv (fun t ht hW => ⟨⟨_, F, g, rfl, h, by rw [ht]; exact hH⟩, hS.F ht⟩) hS.2.2 d hlk)
theorem sv_lreturn (G : sv_G x b xt own cc nL) {QQ : Option Value → sv_Fr → sv_Mg → Prop} {v : Int64} (T : sv_RT x (some .long)) (hm : cs ≤ mc ∧ sl ≤ ms) (d : decode cc pc = .ok (.lreturn, 1)) (h : QQ (some (.long v)) F g) : sv_AW x (sv_Q x QQ mc ms) F g cs sl pc lv [.long v] := by
  obtain ⟨p, l, e, R, s, m, args, below, meth, c, D, AK, xt', b'⟩ := x
  obtain ⟨hx, hb, hml, hown, hts, hK, hlk, hbs, hE, rfl, rfl⟩ := G
  intro H locs ls hH hS hl
  exact W.widen hm.1 hm.2 (W.lret (v := v) hx hb T (fun t ht hW => ⟨⟨_, F, g, rfl, h, by rw [ht]; exact hH⟩, hS.F ht⟩) hS.2.2 d hlk)
theorem sv_vreturn (G : sv_G x b xt own cc nL) {QQ : Option Value → sv_Fr → sv_Mg → Prop} (T : sv_RT x none) (hm : cs ≤ mc ∧ sl ≤ ms) (d : decode cc pc = .ok (.return_, 1)) (h : QQ none F g) : sv_AW x (sv_Q x QQ mc ms) F g cs sl pc lv [] := by
  obtain ⟨p, l, e, R, s, m, args, below, meth, c, D, AK, xt', b'⟩ := x
  obtain ⟨hx, hb, hml, hown, hts, hK, hlk, hbs, hE, rfl, rfl⟩ := G
  intro H locs ls hH hS hl
  exact W.widen hm.1 hm.2 (W.vret hx hb T (fun t ht hW => ⟨⟨_, F, g, rfl, h, by rw [ht]; exact hH⟩, hS.F ht⟩) hS.2.2 d hlk)
theorem sv_areturn (G : sv_G x b xt own cc nL) {QQ : Option Value → sv_Fr → sv_Mg → Prop} {a : Nat} {rt : FieldType} (T : sv_RT x (some rt)) (hrt : sv_isR rt = true) (hm : cs ≤ mc ∧ sl ≤ ms) (d : decode cc pc = .ok (.areturn, 1)) (h : QQ (some (.ref a)) F g) : sv_AW x (sv_Q x QQ mc ms) F g cs sl pc lv [.ref a] := by
  obtain ⟨p, l, e, R, s, m, args, below, meth, c, D, AK, xt', b'⟩ := x
  obtain ⟨hx, hb, hml, hown, hts, hK, hlk, hbs, hE, rfl, rfl⟩ := G
  intro H locs ls hH hS hl
  have hrt : (∃ n, rt = .object n) ∨ ∃ t, rt = .array t := by
    cases rt <;> first | exact Or.inl ⟨_, rfl⟩ | exact Or.inr ⟨_, rfl⟩ | cases hrt
  exact W.widen hm.1 hm.2 (W.aret (v := .ref a) hx hb T hrt (Or.inr ⟨a, rfl⟩) (fun t ht hW => ⟨⟨_, F, g, rfl, h, by rw [ht]; exact hH⟩, hS.F ht⟩) hS.2.2 d hlk)
/-- a contract out of a walk from the entry -/
theorem sv_intro {y : MethodName} {cc : ByteArray} {nL n : Nat} {rt : Option FieldType} (mw : sv_MW y cc nL rt n) {avs : List Value} {QQ : Option Value → sv_Fr → sv_Mg → Prop} (lv0 : List (Nat × Value)) (hlv : lv_args 0 avs = lv0) (hlen : (lg_sl avs).length ≤ nL)
    (body : ∀ x : sv_X, sv_G x b xt y.cls cc nL → sv_R x fr lo mc ms → sv_RT x rt → sv_NM x y.name → sv_AW x (sv_Q x QQ mc ms) F g 0 0 0 lv0 []) : sv_Cal y cc nL rt fr lo mc ms b xt avs F g QQ := by
  intro l D AK
  refine Met.ofW (cc := cc) (maxL := nL) (ret := rt) mw.2.2.2 rfl ?_
  intro p e s m args below meth c s₁ B hml hv
  obtain ⟨rfl, hK, hE, hH⟩ := hv
  have hts : ∀ w ∈ (.code y cc nL rt :: sv_tbl), w.before avs.toArray s = true := atoms_spec (ws := .code y cc nL rt :: sv_tbl) B.pre
  have h := body (p, l, e, sv_rm fr lo mc ms, s, m, avs.toArray, below, meth, c, D, AK, xt, b) ⟨B.exec, B.bytes, hml, findClass_of_methodNamed B.named, fun w hw => hts w (List.mem_cons_of_mem _ hw), hK, B.notSynchronized, by rw [hH.2]; exact Nat.le_add_right _ _, hE, rfl, rfl⟩ ⟨Nat.le_refl _, Nat.le_refl _, Nat.le_refl _, Nat.le_refl _⟩ B.returns (name_of_methodNamed B.named B.method).1
  rw [lg_entry_eq]
  exact h s.heap [] _ hH va_S.rf (by rw [hml, ← hlv]; exact lv_entry avs hlen)
end SvCall
/-- what a caller takes from a callee's end -/
def sv_qI (F : sv_Fr) (Q : Int32 → sv_Mg → Prop) : Option Value → sv_Fr → sv_Mg → Prop := fun r F' g' => ∃ v, r = some (.int v) ∧ F' = F ∧ Q v g'
def sv_qL (F : sv_Fr) (Q : Int64 → sv_Mg → Prop) : Option Value → sv_Fr → sv_Mg → Prop := fun r F' g' => ∃ v, r = some (.long v) ∧ F' = F ∧ Q v g'
def sv_qV (F : sv_Fr) (Q : sv_Mg → Prop) : Option Value → sv_Fr → sv_Mg → Prop := fun r F' g' => r = none ∧ F' = F ∧ Q g'
def sv_qN (Q : sv_Fr → sv_Mg → Prop) : Option Value → sv_Fr → sv_Mg → Prop := fun r F' g' => r = none ∧ Q F' g'
def sv_qA (b : Nat) (Q : Nat → sv_Fr → sv_Mg → Prop) : Option Value → sv_Fr → sv_Mg → Prop := fun r F' g' => ∃ a, r = some (.ref (b + a)) ∧ Q a F' g'
end
