-- ===== PART A: goes FIRST, ahead of the names: the tables' words, and 'selects' of the private methods out of them =====
/-- a private method of a class that the tables say can be made, by its rows of tables_1 -/
def lw_okq (q : MethodName × Nat) : Prop := (q.1.cls ≠ "java/lang/invoke/MethodHandle" ∧ q.1.cls ≠ "java/lang/invoke/VarHandle") ∧ Cond.instantiable q.1.cls q.2 ∈ tables_1 ∧ Cond.privateMethod q.1 ∈ tables_1 ∧ Cond.instanceMethod q.1 ∈ tables_1
theorem lw_p0 : lw_okq (⟨"UnaskedGuests$TextReader", "readToken", "()V"⟩, 8) := ⟨⟨by decide +kernel, by decide +kernel⟩, List.mem_of_getElem? (i := 47) (by decide +kernel), List.mem_of_getElem? (i := 387) (by decide +kernel), List.mem_of_getElem? (i := 388) (by decide +kernel)⟩
theorem lw_p1 : lw_okq (⟨"UnaskedGuests$TextReader", "readName", "()V"⟩, 8) := ⟨⟨by decide +kernel, by decide +kernel⟩, List.mem_of_getElem? (i := 47) (by decide +kernel), List.mem_of_getElem? (i := 395) (by decide +kernel), List.mem_of_getElem? (i := 396) (by decide +kernel)⟩
theorem lw_p2 : lw_okq (⟨"UnaskedGuests$TextReader", "readFigures", "()V"⟩, 8) := ⟨⟨by decide +kernel, by decide +kernel⟩, List.mem_of_getElem? (i := 47) (by decide +kernel), List.mem_of_getElem? (i := 403) (by decide +kernel), List.mem_of_getElem? (i := 404) (by decide +kernel)⟩
theorem lw_p3 : lw_okq (⟨"UnaskedGuests$TextReader", "readLine", "()Z"⟩, 8) := ⟨⟨by decide +kernel, by decide +kernel⟩, List.mem_of_getElem? (i := 47) (by decide +kernel), List.mem_of_getElem? (i := 407) (by decide +kernel), List.mem_of_getElem? (i := 408) (by decide +kernel)⟩
theorem lw_p4 : lw_okq (⟨"UnaskedGuests$TextReader", "stands", "(I)Z"⟩, 8) := ⟨⟨by decide +kernel, by decide +kernel⟩, List.mem_of_getElem? (i := 47) (by decide +kernel), List.mem_of_getElem? (i := 411) (by decide +kernel), List.mem_of_getElem? (i := 412) (by decide +kernel)⟩
theorem lw_p5 : lw_okq (⟨"UnaskedGuests$TextReader", "fail", "(II)Z"⟩, 8) := ⟨⟨by decide +kernel, by decide +kernel⟩, List.mem_of_getElem? (i := 47) (by decide +kernel), List.mem_of_getElem? (i := 415) (by decide +kernel), List.mem_of_getElem? (i := 416) (by decide +kernel)⟩
theorem lw_p6 : lw_okq (⟨"UnaskedGuests$TextReader", "named", "(Ljava/lang/String;)Z"⟩, 8) := ⟨⟨by decide +kernel, by decide +kernel⟩, List.mem_of_getElem? (i := 47) (by decide +kernel), List.mem_of_getElem? (i := 420) (by decide +kernel), List.mem_of_getElem? (i := 421) (by decide +kernel)⟩
theorem lw_p7 : lw_okq (⟨"UnaskedGuests$TextReader", "readHouse", "()Z"⟩, 8) := ⟨⟨by decide +kernel, by decide +kernel⟩, List.mem_of_getElem? (i := 47) (by decide +kernel), List.mem_of_getElem? (i := 472) (by decide +kernel), List.mem_of_getElem? (i := 473) (by decide +kernel)⟩
theorem lw_p8 : lw_okq (⟨"UnaskedGuests$TextReader", "kindNamed", "()I"⟩, 8) := ⟨⟨by decide +kernel, by decide +kernel⟩, List.mem_of_getElem? (i := 47) (by decide +kernel), List.mem_of_getElem? (i := 488) (by decide +kernel), List.mem_of_getElem? (i := 489) (by decide +kernel)⟩
theorem lw_p9 : lw_okq (⟨"UnaskedGuests$TextReader", "readComer", "(I)Z"⟩, 8) := ⟨⟨by decide +kernel, by decide +kernel⟩, List.mem_of_getElem? (i := 47) (by decide +kernel), List.mem_of_getElem? (i := 496) (by decide +kernel), List.mem_of_getElem? (i := 497) (by decide +kernel)⟩
theorem lw_p10 : lw_okq (⟨"UnaskedGuests$TextReader", "readNumber", "()Z"⟩, 8) := ⟨⟨by decide +kernel, by decide +kernel⟩, List.mem_of_getElem? (i := 47) (by decide +kernel), List.mem_of_getElem? (i := 500) (by decide +kernel), List.mem_of_getElem? (i := 501) (by decide +kernel)⟩
theorem lw_p11 : lw_okq (⟨"UnaskedGuests", "noHouse", "(I)Z"⟩, 11) := ⟨⟨by decide +kernel, by decide +kernel⟩, List.mem_of_getElem? (i := 22) (by decide +kernel), List.mem_of_getElem? (i := 598) (by decide +kernel), List.mem_of_getElem? (i := 599) (by decide +kernel)⟩
theorem lw_p12 : lw_okq (⟨"UnaskedGuests", "noComer", "(I)Z"⟩, 11) := ⟨⟨by decide +kernel, by decide +kernel⟩, List.mem_of_getElem? (i := 22) (by decide +kernel), List.mem_of_getElem? (i := 611) (by decide +kernel), List.mem_of_getElem? (i := 612) (by decide +kernel)⟩
theorem lw_p13 : lw_okq (⟨"UnaskedGuests$Advice", "beginAt", "(I)V"⟩, 4) := ⟨⟨by decide +kernel, by decide +kernel⟩, List.mem_of_getElem? (i := 219) (by decide +kernel), List.mem_of_getElem? (i := 685) (by decide +kernel), List.mem_of_getElem? (i := 686) (by decide +kernel)⟩
theorem lw_p14 : lw_okq (⟨"UnaskedGuests$Advice", "weigh", "(II)V"⟩, 4) := ⟨⟨by decide +kernel, by decide +kernel⟩, List.mem_of_getElem? (i := 219) (by decide +kernel), List.mem_of_getElem? (i := 695) (by decide +kernel), List.mem_of_getElem? (i := 696) (by decide +kernel)⟩
theorem lw_p15 : lw_okq (⟨"UnaskedGuests$Odds", "ofComing", "(II)J"⟩, 2) := ⟨⟨by decide +kernel, by decide +kernel⟩, List.mem_of_getElem? (i := 240) (by decide +kernel), List.mem_of_getElem? (i := 767) (by decide +kernel), List.mem_of_getElem? (i := 768) (by decide +kernel)⟩
def lw_privs_1 : List (MethodName × Nat) := [(⟨"UnaskedGuests$TextReader", "readToken", "()V"⟩, 8), (⟨"UnaskedGuests$TextReader", "readName", "()V"⟩, 8), (⟨"UnaskedGuests$TextReader", "readFigures", "()V"⟩, 8), (⟨"UnaskedGuests$TextReader", "readLine", "()Z"⟩, 8), (⟨"UnaskedGuests$TextReader", "stands", "(I)Z"⟩, 8), (⟨"UnaskedGuests$TextReader", "fail", "(II)Z"⟩, 8), (⟨"UnaskedGuests$TextReader", "named", "(Ljava/lang/String;)Z"⟩, 8), (⟨"UnaskedGuests$TextReader", "readHouse", "()Z"⟩, 8), (⟨"UnaskedGuests$TextReader", "kindNamed", "()I"⟩, 8), (⟨"UnaskedGuests$TextReader", "readComer", "(I)Z"⟩, 8), (⟨"UnaskedGuests$TextReader", "readNumber", "()Z"⟩, 8), (⟨"UnaskedGuests", "noHouse", "(I)Z"⟩, 11), (⟨"UnaskedGuests", "noComer", "(I)Z"⟩, 11), (⟨"UnaskedGuests$Advice", "beginAt", "(I)V"⟩, 4), (⟨"UnaskedGuests$Advice", "weigh", "(II)V"⟩, 4), (⟨"UnaskedGuests$Odds", "ofComing", "(II)J"⟩, 2)]
theorem lw_r1 : ∀ q ∈ lw_privs_1, lw_okq q := List.forall_mem_cons.mpr ⟨lw_p0, List.forall_mem_cons.mpr ⟨lw_p1, List.forall_mem_cons.mpr ⟨lw_p2, List.forall_mem_cons.mpr ⟨lw_p3, List.forall_mem_cons.mpr ⟨lw_p4, List.forall_mem_cons.mpr ⟨lw_p5, List.forall_mem_cons.mpr ⟨lw_p6, List.forall_mem_cons.mpr ⟨lw_p7, List.forall_mem_cons.mpr ⟨lw_p8, List.forall_mem_cons.mpr ⟨lw_p9, List.forall_mem_cons.mpr ⟨lw_p10, List.forall_mem_cons.mpr ⟨lw_p11, List.forall_mem_cons.mpr ⟨lw_p12, List.forall_mem_cons.mpr ⟨lw_p13, List.forall_mem_cons.mpr ⟨lw_p14, List.forall_mem_cons.mpr ⟨lw_p15, fun _ h => absurd h List.not_mem_nil⟩⟩⟩⟩⟩⟩⟩⟩⟩⟩⟩⟩⟩⟩⟩⟩
theorem lw_p16 : lw_okq (⟨"UnaskedGuests$Guess", "foretell", "([II)V"⟩, 6) := ⟨⟨by decide +kernel, by decide +kernel⟩, List.mem_of_getElem? (i := 253) (by decide +kernel), List.mem_of_getElem? (i := 814) (by decide +kernel), List.mem_of_getElem? (i := 815) (by decide +kernel)⟩
theorem lw_p17 : lw_okq (⟨"UnaskedGuests$Guess", "worstLeft", "(II)I"⟩, 6) := ⟨⟨by decide +kernel, by decide +kernel⟩, List.mem_of_getElem? (i := 253) (by decide +kernel), List.mem_of_getElem? (i := 842) (by decide +kernel), List.mem_of_getElem? (i := 843) (by decide +kernel)⟩
theorem lw_p18 : lw_okq (⟨"UnaskedGuests", "imagesKept", "()I"⟩, 11) := ⟨⟨by decide +kernel, by decide +kernel⟩, List.mem_of_getElem? (i := 22) (by decide +kernel), List.mem_of_getElem? (i := 911) (by decide +kernel), List.mem_of_getElem? (i := 912) (by decide +kernel)⟩
theorem lw_p19 : lw_okq (⟨"UnaskedGuestsModel", "firstDraft", "()V"⟩, 33) := ⟨⟨by decide +kernel, by decide +kernel⟩, List.mem_of_getElem? (i := 921) (by decide +kernel), List.mem_of_getElem? (i := 927) (by decide +kernel), List.mem_of_getElem? (i := 928) (by decide +kernel)⟩
theorem lw_p20 : lw_okq (⟨"UnaskedGuestsModel", "keepDraft", "()V"⟩, 33) := ⟨⟨by decide +kernel, by decide +kernel⟩, List.mem_of_getElem? (i := 921) (by decide +kernel), List.mem_of_getElem? (i := 931) (by decide +kernel), List.mem_of_getElem? (i := 932) (by decide +kernel)⟩
theorem lw_p21 : lw_okq (⟨"UnaskedGuestsModel", "takes", "()V"⟩, 33) := ⟨⟨by decide +kernel, by decide +kernel⟩, List.mem_of_getElem? (i := 921) (by decide +kernel), List.mem_of_getElem? (i := 1052) (by decide +kernel), List.mem_of_getElem? (i := 1053) (by decide +kernel)⟩
theorem lw_p22 : lw_okq (⟨"UnaskedGuestsModel", "byteAt", "(I)I"⟩, 33) := ⟨⟨by decide +kernel, by decide +kernel⟩, List.mem_of_getElem? (i := 921) (by decide +kernel), List.mem_of_getElem? (i := 1056) (by decide +kernel), List.mem_of_getElem? (i := 1057) (by decide +kernel)⟩
theorem lw_p23 : lw_okq (⟨"UnaskedGuestsModel", "needs", "(ZI)V"⟩, 33) := ⟨⟨by decide +kernel, by decide +kernel⟩, List.mem_of_getElem? (i := 921) (by decide +kernel), List.mem_of_getElem? (i := 1064) (by decide +kernel), List.mem_of_getElem? (i := 1065) (by decide +kernel)⟩
theorem lw_p24 : lw_okq (⟨"UnaskedGuestsModel", "readLine", "()V"⟩, 33) := ⟨⟨by decide +kernel, by decide +kernel⟩, List.mem_of_getElem? (i := 921) (by decide +kernel), List.mem_of_getElem? (i := 1068) (by decide +kernel), List.mem_of_getElem? (i := 1069) (by decide +kernel)⟩
theorem lw_p25 : lw_okq (⟨"UnaskedGuestsModel", "lineNow", "()I"⟩, 33) := ⟨⟨by decide +kernel, by decide +kernel⟩, List.mem_of_getElem? (i := 921) (by decide +kernel), List.mem_of_getElem? (i := 1072) (by decide +kernel), List.mem_of_getElem? (i := 1073) (by decide +kernel)⟩
theorem lw_p26 : lw_okq (⟨"UnaskedGuestsModel", "is", "(IIIII)Z"⟩, 33) := ⟨⟨by decide +kernel, by decide +kernel⟩, List.mem_of_getElem? (i := 921) (by decide +kernel), List.mem_of_getElem? (i := 1076) (by decide +kernel), List.mem_of_getElem? (i := 1077) (by decide +kernel)⟩
theorem lw_p27 : lw_okq (⟨"UnaskedGuestsModel", "ends", "(II)Z"⟩, 33) := ⟨⟨by decide +kernel, by decide +kernel⟩, List.mem_of_getElem? (i := 921) (by decide +kernel), List.mem_of_getElem? (i := 1080) (by decide +kernel), List.mem_of_getElem? (i := 1081) (by decide +kernel)⟩
theorem lw_p28 : lw_okq (⟨"UnaskedGuestsModel", "readHouse", "()V"⟩, 33) := ⟨⟨by decide +kernel, by decide +kernel⟩, List.mem_of_getElem? (i := 921) (by decide +kernel), List.mem_of_getElem? (i := 1084) (by decide +kernel), List.mem_of_getElem? (i := 1085) (by decide +kernel)⟩
theorem lw_p29 : lw_okq (⟨"UnaskedGuestsModel", "looked", "(II)I"⟩, 33) := ⟨⟨by decide +kernel, by decide +kernel⟩, List.mem_of_getElem? (i := 921) (by decide +kernel), List.mem_of_getElem? (i := 1088) (by decide +kernel), List.mem_of_getElem? (i := 1089) (by decide +kernel)⟩
theorem lw_p30 : lw_okq (⟨"UnaskedGuestsModel", "readComer", "(I)V"⟩, 33) := ⟨⟨by decide +kernel, by decide +kernel⟩, List.mem_of_getElem? (i := 921) (by decide +kernel), List.mem_of_getElem? (i := 1092) (by decide +kernel), List.mem_of_getElem? (i := 1093) (by decide +kernel)⟩
theorem lw_p31 : lw_okq (⟨"UnaskedGuestsModel", "readNumber", "(II)I"⟩, 33) := ⟨⟨by decide +kernel, by decide +kernel⟩, List.mem_of_getElem? (i := 921) (by decide +kernel), List.mem_of_getElem? (i := 1096) (by decide +kernel), List.mem_of_getElem? (i := 1097) (by decide +kernel)⟩
def lw_privs_2 : List (MethodName × Nat) := [(⟨"UnaskedGuests$Guess", "foretell", "([II)V"⟩, 6), (⟨"UnaskedGuests$Guess", "worstLeft", "(II)I"⟩, 6), (⟨"UnaskedGuests", "imagesKept", "()I"⟩, 11), (⟨"UnaskedGuestsModel", "firstDraft", "()V"⟩, 33), (⟨"UnaskedGuestsModel", "keepDraft", "()V"⟩, 33), (⟨"UnaskedGuestsModel", "takes", "()V"⟩, 33), (⟨"UnaskedGuestsModel", "byteAt", "(I)I"⟩, 33), (⟨"UnaskedGuestsModel", "needs", "(ZI)V"⟩, 33), (⟨"UnaskedGuestsModel", "readLine", "()V"⟩, 33), (⟨"UnaskedGuestsModel", "lineNow", "()I"⟩, 33), (⟨"UnaskedGuestsModel", "is", "(IIIII)Z"⟩, 33), (⟨"UnaskedGuestsModel", "ends", "(II)Z"⟩, 33), (⟨"UnaskedGuestsModel", "readHouse", "()V"⟩, 33), (⟨"UnaskedGuestsModel", "looked", "(II)I"⟩, 33), (⟨"UnaskedGuestsModel", "readComer", "(I)V"⟩, 33), (⟨"UnaskedGuestsModel", "readNumber", "(II)I"⟩, 33)]
theorem lw_r2 : ∀ q ∈ lw_privs_2, lw_okq q := List.forall_mem_cons.mpr ⟨lw_p16, List.forall_mem_cons.mpr ⟨lw_p17, List.forall_mem_cons.mpr ⟨lw_p18, List.forall_mem_cons.mpr ⟨lw_p19, List.forall_mem_cons.mpr ⟨lw_p20, List.forall_mem_cons.mpr ⟨lw_p21, List.forall_mem_cons.mpr ⟨lw_p22, List.forall_mem_cons.mpr ⟨lw_p23, List.forall_mem_cons.mpr ⟨lw_p24, List.forall_mem_cons.mpr ⟨lw_p25, List.forall_mem_cons.mpr ⟨lw_p26, List.forall_mem_cons.mpr ⟨lw_p27, List.forall_mem_cons.mpr ⟨lw_p28, List.forall_mem_cons.mpr ⟨lw_p29, List.forall_mem_cons.mpr ⟨lw_p30, List.forall_mem_cons.mpr ⟨lw_p31, fun _ h => absurd h List.not_mem_nil⟩⟩⟩⟩⟩⟩⟩⟩⟩⟩⟩⟩⟩⟩⟩⟩
theorem lw_p32 : lw_okq (⟨"UnaskedGuestsModel", "starts", "()V"⟩, 33) := ⟨⟨by decide +kernel, by decide +kernel⟩, List.mem_of_getElem? (i := 921) (by decide +kernel), List.mem_of_getElem? (i := 1108) (by decide +kernel), List.mem_of_getElem? (i := 1109) (by decide +kernel)⟩
theorem lw_p33 : lw_okq (⟨"UnaskedGuestsModel", "eveningsGo", "(I)V"⟩, 33) := ⟨⟨by decide +kernel, by decide +kernel⟩, List.mem_of_getElem? (i := 921) (by decide +kernel), List.mem_of_getElem? (i := 1112) (by decide +kernel), List.mem_of_getElem? (i := 1113) (by decide +kernel)⟩
theorem lw_p34 : lw_okq (⟨"UnaskedGuestsModel", "startsCounting", "()V"⟩, 33) := ⟨⟨by decide +kernel, by decide +kernel⟩, List.mem_of_getElem? (i := 921) (by decide +kernel), List.mem_of_getElem? (i := 1116) (by decide +kernel), List.mem_of_getElem? (i := 1117) (by decide +kernel)⟩
theorem lw_p35 : lw_okq (⟨"UnaskedGuestsModel", "eveningGoes", "()V"⟩, 33) := ⟨⟨by decide +kernel, by decide +kernel⟩, List.mem_of_getElem? (i := 921) (by decide +kernel), List.mem_of_getElem? (i := 1120) (by decide +kernel), List.mem_of_getElem? (i := 1121) (by decide +kernel)⟩
theorem lw_p36 : lw_okq (⟨"UnaskedGuestsModel", "houseWaits", "(I)V"⟩, 33) := ⟨⟨by decide +kernel, by decide +kernel⟩, List.mem_of_getElem? (i := 921) (by decide +kernel), List.mem_of_getElem? (i := 1124) (by decide +kernel), List.mem_of_getElem? (i := 1125) (by decide +kernel)⟩
theorem lw_p37 : lw_okq (⟨"UnaskedGuestsModel", "isThere", "(III)Z"⟩, 33) := ⟨⟨by decide +kernel, by decide +kernel⟩, List.mem_of_getElem? (i := 921) (by decide +kernel), List.mem_of_getElem? (i := 1128) (by decide +kernel), List.mem_of_getElem? (i := 1129) (by decide +kernel)⟩
theorem lw_p38 : lw_okq (⟨"UnaskedGuestsModel", "of", "(II)I"⟩, 33) := ⟨⟨by decide +kernel, by decide +kernel⟩, List.mem_of_getElem? (i := 921) (by decide +kernel), List.mem_of_getElem? (i := 1132) (by decide +kernel), List.mem_of_getElem? (i := 1133) (by decide +kernel)⟩
theorem lw_p39 : lw_okq (⟨"UnaskedGuestsModel", "isUnwelcome", "(II)Z"⟩, 33) := ⟨⟨by decide +kernel, by decide +kernel⟩, List.mem_of_getElem? (i := 921) (by decide +kernel), List.mem_of_getElem? (i := 1136) (by decide +kernel), List.mem_of_getElem? (i := 1137) (by decide +kernel)⟩
theorem lw_p40 : lw_okq (⟨"UnaskedGuestsModel", "liking", "(II)I"⟩, 33) := ⟨⟨by decide +kernel, by decide +kernel⟩, List.mem_of_getElem? (i := 921) (by decide +kernel), List.mem_of_getElem? (i := 1140) (by decide +kernel), List.mem_of_getElem? (i := 1141) (by decide +kernel)⟩
theorem lw_p41 : lw_okq (⟨"UnaskedGuestsModel", "manyThere", "(II)I"⟩, 33) := ⟨⟨by decide +kernel, by decide +kernel⟩, List.mem_of_getElem? (i := 921) (by decide +kernel), List.mem_of_getElem? (i := 1144) (by decide +kernel), List.mem_of_getElem? (i := 1145) (by decide +kernel)⟩
theorem lw_p42 : lw_okq (⟨"UnaskedGuestsModel", "allListed", "()I"⟩, 33) := ⟨⟨by decide +kernel, by decide +kernel⟩, List.mem_of_getElem? (i := 921) (by decide +kernel), List.mem_of_getElem? (i := 1157) (by decide +kernel), List.mem_of_getElem? (i := 1158) (by decide +kernel)⟩
theorem lw_p43 : lw_okq (⟨"UnaskedGuestsModel", "listed", "(I)I"⟩, 33) := ⟨⟨by decide +kernel, by decide +kernel⟩, List.mem_of_getElem? (i := 921) (by decide +kernel), List.mem_of_getElem? (i := 1161) (by decide +kernel), List.mem_of_getElem? (i := 1162) (by decide +kernel)⟩
theorem lw_p44 : lw_okq (⟨"UnaskedGuestsModel", "isHouse", "(I)Z"⟩, 33) := ⟨⟨by decide +kernel, by decide +kernel⟩, List.mem_of_getElem? (i := 921) (by decide +kernel), List.mem_of_getElem? (i := 1169) (by decide +kernel), List.mem_of_getElem? (i := 1170) (by decide +kernel)⟩
theorem lw_p45 : lw_okq (⟨"UnaskedGuestsModel", "isComer", "(I)Z"⟩, 33) := ⟨⟨by decide +kernel, by decide +kernel⟩, List.mem_of_getElem? (i := 921) (by decide +kernel), List.mem_of_getElem? (i := 1178) (by decide +kernel), List.mem_of_getElem? (i := 1179) (by decide +kernel)⟩
theorem lw_p46 : lw_okq (⟨"UnaskedGuestsModel", "likedInAll", "(I)I"⟩, 33) := ⟨⟨by decide +kernel, by decide +kernel⟩, List.mem_of_getElem? (i := 921) (by decide +kernel), List.mem_of_getElem? (i := 1182) (by decide +kernel), List.mem_of_getElem? (i := 1183) (by decide +kernel)⟩
theorem lw_p47 : lw_okq (⟨"UnaskedGuestsModel", "becomes", "(II)I"⟩, 33) := ⟨⟨by decide +kernel, by decide +kernel⟩, List.mem_of_getElem? (i := 921) (by decide +kernel), List.mem_of_getElem? (i := 1199) (by decide +kernel), List.mem_of_getElem? (i := 1200) (by decide +kernel)⟩
def lw_privs_3 : List (MethodName × Nat) := [(⟨"UnaskedGuestsModel", "starts", "()V"⟩, 33), (⟨"UnaskedGuestsModel", "eveningsGo", "(I)V"⟩, 33), (⟨"UnaskedGuestsModel", "startsCounting", "()V"⟩, 33), (⟨"UnaskedGuestsModel", "eveningGoes", "()V"⟩, 33), (⟨"UnaskedGuestsModel", "houseWaits", "(I)V"⟩, 33), (⟨"UnaskedGuestsModel", "isThere", "(III)Z"⟩, 33), (⟨"UnaskedGuestsModel", "of", "(II)I"⟩, 33), (⟨"UnaskedGuestsModel", "isUnwelcome", "(II)Z"⟩, 33), (⟨"UnaskedGuestsModel", "liking", "(II)I"⟩, 33), (⟨"UnaskedGuestsModel", "manyThere", "(II)I"⟩, 33), (⟨"UnaskedGuestsModel", "allListed", "()I"⟩, 33), (⟨"UnaskedGuestsModel", "listed", "(I)I"⟩, 33), (⟨"UnaskedGuestsModel", "isHouse", "(I)Z"⟩, 33), (⟨"UnaskedGuestsModel", "isComer", "(I)Z"⟩, 33), (⟨"UnaskedGuestsModel", "likedInAll", "(I)I"⟩, 33), (⟨"UnaskedGuestsModel", "becomes", "(II)I"⟩, 33)]
theorem lw_r3 : ∀ q ∈ lw_privs_3, lw_okq q := List.forall_mem_cons.mpr ⟨lw_p32, List.forall_mem_cons.mpr ⟨lw_p33, List.forall_mem_cons.mpr ⟨lw_p34, List.forall_mem_cons.mpr ⟨lw_p35, List.forall_mem_cons.mpr ⟨lw_p36, List.forall_mem_cons.mpr ⟨lw_p37, List.forall_mem_cons.mpr ⟨lw_p38, List.forall_mem_cons.mpr ⟨lw_p39, List.forall_mem_cons.mpr ⟨lw_p40, List.forall_mem_cons.mpr ⟨lw_p41, List.forall_mem_cons.mpr ⟨lw_p42, List.forall_mem_cons.mpr ⟨lw_p43, List.forall_mem_cons.mpr ⟨lw_p44, List.forall_mem_cons.mpr ⟨lw_p45, List.forall_mem_cons.mpr ⟨lw_p46, List.forall_mem_cons.mpr ⟨lw_p47, fun _ h => absurd h List.not_mem_nil⟩⟩⟩⟩⟩⟩⟩⟩⟩⟩⟩⟩⟩⟩⟩⟩
theorem lw_p48 : lw_okq (⟨"UnaskedGuestsModel", "settles", "()V"⟩, 33) := ⟨⟨by decide +kernel, by decide +kernel⟩, List.mem_of_getElem? (i := 921) (by decide +kernel), List.mem_of_getElem? (i := 1217) (by decide +kernel), List.mem_of_getElem? (i := 1218) (by decide +kernel)⟩
theorem lw_p49 : lw_okq (⟨"UnaskedGuestsModel", "allLiked", "()I"⟩, 33) := ⟨⟨by decide +kernel, by decide +kernel⟩, List.mem_of_getElem? (i := 921) (by decide +kernel), List.mem_of_getElem? (i := 1229) (by decide +kernel), List.mem_of_getElem? (i := 1230) (by decide +kernel)⟩
theorem lw_p50 : lw_okq (⟨"UnaskedGuestsModel", "placeBy", "(I)I"⟩, 33) := ⟨⟨by decide +kernel, by decide +kernel⟩, List.mem_of_getElem? (i := 921) (by decide +kernel), List.mem_of_getElem? (i := 1248) (by decide +kernel), List.mem_of_getElem? (i := 1249) (by decide +kernel)⟩
theorem lw_p51 : lw_okq (⟨"UnaskedGuestsModel", "becomesOf", "(III)V"⟩, 33) := ⟨⟨by decide +kernel, by decide +kernel⟩, List.mem_of_getElem? (i := 921) (by decide +kernel), List.mem_of_getElem? (i := 1252) (by decide +kernel), List.mem_of_getElem? (i := 1253) (by decide +kernel)⟩
theorem lw_p52 : lw_okq (⟨"UnaskedGuestsModel", "dinnersTonight", "()I"⟩, 33) := ⟨⟨by decide +kernel, by decide +kernel⟩, List.mem_of_getElem? (i := 921) (by decide +kernel), List.mem_of_getElem? (i := 1256) (by decide +kernel), List.mem_of_getElem? (i := 1257) (by decide +kernel)⟩
theorem lw_p53 : lw_okq (⟨"UnaskedGuestsModel", "findOdds", "(II)V"⟩, 33) := ⟨⟨by decide +kernel, by decide +kernel⟩, List.mem_of_getElem? (i := 921) (by decide +kernel), List.mem_of_getElem? (i := 1294) (by decide +kernel), List.mem_of_getElem? (i := 1295) (by decide +kernel)⟩
theorem lw_p54 : lw_okq (⟨"UnaskedGuestsModel", "isSoWith", "(II)Z"⟩, 33) := ⟨⟨by decide +kernel, by decide +kernel⟩, List.mem_of_getElem? (i := 921) (by decide +kernel), List.mem_of_getElem? (i := 1321) (by decide +kernel), List.mem_of_getElem? (i := 1322) (by decide +kernel)⟩
theorem lw_p55 : lw_okq (⟨"UnaskedGuestsModel", "copies", "(II)V"⟩, 33) := ⟨⟨by decide +kernel, by decide +kernel⟩, List.mem_of_getElem? (i := 921) (by decide +kernel), List.mem_of_getElem? (i := 1342) (by decide +kernel), List.mem_of_getElem? (i := 1343) (by decide +kernel)⟩
def lw_privs_4 : List (MethodName × Nat) := [(⟨"UnaskedGuestsModel", "settles", "()V"⟩, 33), (⟨"UnaskedGuestsModel", "allLiked", "()I"⟩, 33), (⟨"UnaskedGuestsModel", "placeBy", "(I)I"⟩, 33), (⟨"UnaskedGuestsModel", "becomesOf", "(III)V"⟩, 33), (⟨"UnaskedGuestsModel", "dinnersTonight", "()I"⟩, 33), (⟨"UnaskedGuestsModel", "findOdds", "(II)V"⟩, 33), (⟨"UnaskedGuestsModel", "isSoWith", "(II)Z"⟩, 33), (⟨"UnaskedGuestsModel", "copies", "(II)V"⟩, 33)]
theorem lw_r4 : ∀ q ∈ lw_privs_4, lw_okq q := List.forall_mem_cons.mpr ⟨lw_p48, List.forall_mem_cons.mpr ⟨lw_p49, List.forall_mem_cons.mpr ⟨lw_p50, List.forall_mem_cons.mpr ⟨lw_p51, List.forall_mem_cons.mpr ⟨lw_p52, List.forall_mem_cons.mpr ⟨lw_p53, List.forall_mem_cons.mpr ⟨lw_p54, List.forall_mem_cons.mpr ⟨lw_p55, fun _ h => absurd h List.not_mem_nil⟩⟩⟩⟩⟩⟩⟩⟩
def lw_privs : List (MethodName × Nat) := lw_privs_1 ++ (lw_privs_2 ++ (lw_privs_3 ++ (lw_privs_4)))
def lw_tbl : List Cond := k2_sels lw_privs ++ tables_1
theorem lw_privs_ok : ∀ q ∈ lw_privs, lw_okq q := by
  show ∀ q ∈ lw_privs_1 ++ (lw_privs_2 ++ (lw_privs_3 ++ (lw_privs_4))), lw_okq q
  exact List.forall_mem_append.mpr ⟨lw_r1, List.forall_mem_append.mpr ⟨lw_r2, List.forall_mem_append.mpr ⟨lw_r3, lw_r4⟩⟩⟩
def RX0 : String := "UnaskedGuests$Advice"
def TX0 : u_T := fun k => match k with
  | 0 => ("UnaskedGuests$Advice", "now", "LUnaskedGuests$County;", true)
  | 1 => ("UnaskedGuests$Advice", "trial", "LUnaskedGuests$Trial;", true)
  | 2 => ("UnaskedGuests$Advice", "plan", "I", false)
  | _ => ("UnaskedGuests$Advice", "dinners", "I", false)
def tyX0 : Nat → FieldType := fun k => match k with
  | 0 => .object "UnaskedGuests$County"
  | 1 => .object "UnaskedGuests$Trial"
  | 2 => .int
  | _ => .int
abbrev wsX00 : List Cond := u_ws RX0 TX0 4
theorem nmX0 : ∀ a, a < 4 → ∀ b, b < 4 → a ≠ b → (TX0 a).2.1 ≠ (TX0 b).2.1 := by decide +kernel
theorem tyX0_ok : ∀ k, k < 4 → parseFieldDescriptor (TX0 k).2.2.1 = some (tyX0 k) := by decide +kernel
abbrev cX0_init : ByteArray := prog_2_method_1_code
def yX0_init : MethodName := ⟨RX0, "<init>", "(LUnaskedGuests$County;LUnaskedGuests$Trial;)V"⟩
abbrev cX0_planOrDinners : ByteArray := prog_2_method_2_code
def yX0_planOrDinners : MethodName := ⟨RX0, "planOrDinners", "(I)I"⟩
abbrev cX0_sendOne : ByteArray := prog_2_method_3_code
def yX0_sendOne : MethodName := ⟨RX0, "sendOne", "(I)V"⟩
abbrev cX0_sendTwo : ByteArray := prog_2_method_4_code
def yX0_sendTwo : MethodName := ⟨RX0, "sendTwo", "(II)V"⟩
abbrev cX0_swapTwo : ByteArray := prog_2_method_5_code
def yX0_swapTwo : MethodName := ⟨RX0, "swapTwo", "()V"⟩
abbrev cX0_strikeOne : ByteArray := prog_2_method_6_code
def yX0_strikeOne : MethodName := ⟨RX0, "strikeOne", "()V"⟩
abbrev cX0_bestKind : ByteArray := prog_2_method_7_code
def yX0_bestKind : MethodName := ⟨RX0, "bestKind", "(II)V"⟩
abbrev cX0_latestHour : ByteArray := prog_2_method_8_code
def yX0_latestHour : MethodName := ⟨RX0, "latestHour", "(I)I"⟩
abbrev cX0_mostLiked : ByteArray := prog_2_method_9_code
def yX0_mostLiked : MethodName := ⟨RX0, "mostLiked", "(II)I"⟩
abbrev cX0_beginAt : ByteArray := prog_2_method_10_code
def yX0_beginAt : MethodName := ⟨RX0, "beginAt", "(I)V"⟩
abbrev cX0_weigh : ByteArray := prog_2_method_11_code
def yX0_weigh : MethodName := ⟨RX0, "weigh", "(II)V"⟩
def RX1 : String := "UnaskedGuests$County"
def TX1 : u_T := fun k => match k with
  | 0 => ("UnaskedGuests$County", "houses", "I", false)
  | 1 => ("UnaskedGuests$County", "comers", "I", false)
  | 2 => ("UnaskedGuests$County", "evening", "I", false)
  | 3 => ("UnaskedGuests$County", "lists", "[I", true)
  | 4 => ("UnaskedGuests$County", "kindOf", "[I", true)
  | 5 => ("UnaskedGuests$County", "goes", "[I", true)
  | 6 => ("UnaskedGuests$County", "comes", "[I", true)
  | _ => ("UnaskedGuests$County", "likings", "[I", true)
def tyX1 : Nat → FieldType := fun k => match k with
  | 0 => .int
  | 1 => .int
  | 2 => .int
  | 3 => .array .int
  | 4 => .array .int
  | 5 => .array .int
  | 6 => .array .int
  | _ => .array .int
abbrev wsX10 : List Cond := u_ws RX1 TX1 8
theorem nmX1 : ∀ a, a < 8 → ∀ b, b < 8 → a ≠ b → (TX1 a).2.1 ≠ (TX1 b).2.1 := by decide +kernel
theorem tyX1_ok : ∀ k, k < 8 → parseFieldDescriptor (TX1 k).2.2.1 = some (tyX1 k) := by decide +kernel
abbrev cX1_init : ByteArray := prog_3_method_1_code
def yX1_init : MethodName := ⟨RX1, "<init>", "()V"⟩
abbrev cX1_clear : ByteArray := prog_3_method_2_code
def yX1_clear : MethodName := ⟨RX1, "clear", "()V"⟩
abbrev cX1_copyFrom : ByteArray := prog_3_method_3_code
def yX1_copyFrom : MethodName := ⟨RX1, "copyFrom", "(LUnaskedGuests$County;)V"⟩
abbrev cX1_copyLikingsFrom : ByteArray := prog_3_method_4_code
def yX1_copyLikingsFrom : MethodName := ⟨RX1, "copyLikingsFrom", "(LUnaskedGuests$County;)V"⟩
abbrev cX1_liked : ByteArray := prog_3_method_5_code
def yX1_liked : MethodName := ⟨RX1, "liked", "(II)I"⟩
abbrev cX1_setLiked : ByteArray := prog_3_method_6_code
def yX1_setLiked : MethodName := ⟨RX1, "setLiked", "(III)V"⟩
abbrev cX1_onList : ByteArray := prog_3_method_7_code
def yX1_onList : MethodName := ⟨RX1, "onList", "(II)Z"⟩
abbrev cX1_setOnList : ByteArray := prog_3_method_8_code
def yX1_setOnList : MethodName := ⟨RX1, "setOnList", "(IIZ)V"⟩
abbrev cX1_noDestination : ByteArray := prog_3_method_9_code
def yX1_noDestination : MethodName := ⟨RX1, "noDestination", "(I)Z"⟩
abbrev cX1_destination : ByteArray := prog_3_method_10_code
def yX1_destination : MethodName := ⟨RX1, "destination", "(I)I"⟩
abbrev cX1_goers : ByteArray := prog_3_method_11_code
def yX1_goers : MethodName := ⟨RX1, "goers", "(I)I"⟩
abbrev cX1_goersAnywhere : ByteArray := prog_3_method_12_code
def yX1_goersAnywhere : MethodName := ⟨RX1, "goersAnywhere", "()I"⟩
abbrev cX1_unwelcome : ByteArray := prog_3_method_13_code
def yX1_unwelcome : MethodName := ⟨RX1, "unwelcome", "(I)I"⟩
abbrev cX1_arrived : ByteArray := prog_3_method_14_code
def yX1_arrived : MethodName := ⟨RX1, "arrived", "(II)I"⟩
abbrev cX1_warm : ByteArray := prog_3_method_15_code
def yX1_warm : MethodName := ⟨RX1, "warm", "(II)V"⟩
abbrev cX1_warmed : ByteArray := prog_3_method_16_code
def yX1_warmed : MethodName := ⟨RX1, "warmed", "(III)I"⟩
abbrev cX1_invitations : ByteArray := prog_3_method_17_code
def yX1_invitations : MethodName := ⟨RX1, "invitations", "()I"⟩
abbrev cX1_listsWith : ByteArray := prog_3_method_18_code
def yX1_listsWith : MethodName := ⟨RX1, "listsWith", "(I)I"⟩
abbrev cX1_likingsOf : ByteArray := prog_3_method_19_code
def yX1_likingsOf : MethodName := ⟨RX1, "likingsOf", "(I)I"⟩
abbrev cX1_likings : ByteArray := prog_3_method_20_code
def yX1_likings : MethodName := ⟨RX1, "likings", "()I"⟩
abbrev cX1_addHouse : ByteArray := prog_3_method_21_code
def yX1_addHouse : MethodName := ⟨RX1, "addHouse", "()V"⟩
abbrev cX1_addComer : ByteArray := prog_3_method_22_code
def yX1_addComer : MethodName := ⟨RX1, "addComer", "(IIII)V"⟩
abbrev cX1_namesOnlyWhatThereIs : ByteArray := prog_3_method_23_code
def yX1_namesOnlyWhatThereIs : MethodName := ⟨RX1, "namesOnlyWhatThereIs", "()Z"⟩
def RX2 : String := "UnaskedGuests$Evening"
def TX2 : u_T := fun k => match k with
  | 0 => ("UnaskedGuests$Evening", "hours", "[I", true)
  | 1 => ("UnaskedGuests$Evening", "openers", "[I", true)
  | 2 => ("UnaskedGuests$Evening", "begun", "I", false)
  | _ => ("UnaskedGuests$Evening", "waited", "I", false)
def tyX2 : Nat → FieldType := fun k => match k with
  | 0 => .array .int
  | 1 => .array .int
  | 2 => .int
  | _ => .int
abbrev wsX20 : List Cond := u_ws RX2 TX2 4
theorem nmX2 : ∀ a, a < 4 → ∀ b, b < 4 → a ≠ b → (TX2 a).2.1 ≠ (TX2 b).2.1 := by decide +kernel
theorem tyX2_ok : ∀ k, k < 4 → parseFieldDescriptor (TX2 k).2.2.1 = some (tyX2 k) := by decide +kernel
abbrev cX2_init : ByteArray := prog_4_method_1_code
def yX2_init : MethodName := ⟨RX2, "<init>", "()V"⟩
abbrev cX2_hold : ByteArray := prog_4_method_2_code
def yX2_hold : MethodName := ⟨RX2, "hold", "(LUnaskedGuests$County;)V"⟩
abbrev cX2_holdAt : ByteArray := prog_4_method_3_code
def yX2_holdAt : MethodName := ⟨RX2, "holdAt", "(LUnaskedGuests$County;II)I"⟩
abbrev cX2_firstOf : ByteArray := prog_4_method_4_code
def yX2_firstOf : MethodName := ⟨RX2, "firstOf", "(I)I"⟩
def RX3 : String := "UnaskedGuests$Guess"
def TX3 : u_T := fun k => match k with
  | 0 => ("UnaskedGuests$Guess", "now", "LUnaskedGuests$County;", true)
  | 1 => ("UnaskedGuests$Guess", "seen", "LUnaskedGuests$Sightings;", true)
  | 2 => ("UnaskedGuests$Guess", "trial", "LUnaskedGuests$Trial;", true)
  | 3 => ("UnaskedGuests$Guess", "foretold", "[[I", true)
  | 4 => ("UnaskedGuests$Guess", "question", "I", false)
  | _ => ("UnaskedGuests$Guess", "leftAtWorst", "I", false)
def tyX3 : Nat → FieldType := fun k => match k with
  | 0 => .object "UnaskedGuests$County"
  | 1 => .object "UnaskedGuests$Sightings"
  | 2 => .object "UnaskedGuests$Trial"
  | 3 => .array (.array .int)
  | 4 => .int
  | _ => .int
abbrev wsX30 : List Cond := u_ws RX3 TX3 6
theorem nmX3 : ∀ a, a < 6 → ∀ b, b < 6 → a ≠ b → (TX3 a).2.1 ≠ (TX3 b).2.1 := by decide +kernel
theorem tyX3_ok : ∀ k, k < 6 → parseFieldDescriptor (TX3 k).2.2.1 = some (tyX3 k) := by decide +kernel
abbrev cX3_init : ByteArray := prog_5_method_1_code
def yX3_init : MethodName := ⟨RX3, "<init>", "(LUnaskedGuests$County;LUnaskedGuests$Sightings;LUnaskedGuests$Trial;)V"⟩
abbrev cX3_kindsLeft : ByteArray := prog_5_method_2_code
def yX3_kindsLeft : MethodName := ⟨RX3, "kindsLeft", "(II)I"⟩
abbrev cX3_levelsLeft : ByteArray := prog_5_method_3_code
def yX3_levelsLeft : MethodName := ⟨RX3, "levelsLeft", "(II)I"⟩
abbrev cX3_bestQuestion : ByteArray := prog_5_method_4_code
def yX3_bestQuestion : MethodName := ⟨RX3, "bestQuestion", "(I)V"⟩
abbrev cX3_worstLeft : ByteArray := prog_5_method_5_code
def yX3_worstLeft : MethodName := ⟨RX3, "worstLeft", "(II)I"⟩
abbrev cX3_foretell : ByteArray := prog_5_method_6_code
def yX3_foretell : MethodName := ⟨RX3, "foretell", "([II)V"⟩
def RX4 : String := "UnaskedGuests$Image"
def TX4 : u_T := fun k => match k with
  | 0 => ("UnaskedGuests$Image", "county", "LUnaskedGuests$County;", true)
  | 1 => ("UnaskedGuests$Image", "seen", "LUnaskedGuests$Sightings;", true)
  | _ => ("UnaskedGuests$Image", "kept", "Z", false)
def tyX4 : Nat → FieldType := fun k => match k with
  | 0 => .object "UnaskedGuests$County"
  | 1 => .object "UnaskedGuests$Sightings"
  | _ => .boolean
abbrev wsX40 : List Cond := u_ws RX4 TX4 3
theorem nmX4 : ∀ a, a < 3 → ∀ b, b < 3 → a ≠ b → (TX4 a).2.1 ≠ (TX4 b).2.1 := by decide +kernel
theorem tyX4_ok : ∀ k, k < 3 → parseFieldDescriptor (TX4 k).2.2.1 = some (tyX4 k) := by decide +kernel
abbrev cX4_init : ByteArray := prog_6_method_1_code
def yX4_init : MethodName := ⟨RX4, "<init>", "()V"⟩
def RX5 : String := "UnaskedGuests$Odds"
def TX5 : u_T := fun k => match k with
  | 0 => ("UnaskedGuests$Odds", "now", "LUnaskedGuests$County;", true)
  | _ => ("UnaskedGuests$Odds", "trial", "LUnaskedGuests$Trial;", true)
def tyX5 : Nat → FieldType := fun k => match k with
  | 0 => .object "UnaskedGuests$County"
  | _ => .object "UnaskedGuests$Trial"
abbrev wsX50 : List Cond := u_ws RX5 TX5 2
theorem nmX5 : ∀ a, a < 2 → ∀ b, b < 2 → a ≠ b → (TX5 a).2.1 ≠ (TX5 b).2.1 := by decide +kernel
theorem tyX5_ok : ∀ k, k < 2 → parseFieldDescriptor (TX5 k).2.2.1 = some (tyX5 k) := by decide +kernel
abbrev cX5_init : ByteArray := prog_7_method_1_code
def yX5_init : MethodName := ⟨RX5, "<init>", "(LUnaskedGuests$County;LUnaskedGuests$Trial;)V"⟩
abbrev cX5_ofAll : ByteArray := prog_7_method_2_code
def yX5_ofAll : MethodName := ⟨RX5, "ofAll", "()J"⟩
abbrev cX5_ofDinner : ByteArray := prog_7_method_3_code
def yX5_ofDinner : MethodName := ⟨RX5, "ofDinner", "(II)J"⟩
abbrev cX5_ofComing : ByteArray := prog_7_method_4_code
def yX5_ofComing : MethodName := ⟨RX5, "ofComing", "(II)J"⟩
def RX6 : String := "UnaskedGuests$Sheet"
def TX6 : u_T := fun k => match k with
  | 0 => ("UnaskedGuests$Sheet", "cells", "[I", true)
  | 1 => ("UnaskedGuests$Sheet", "lane", "I", false)
  | _ => ("UnaskedGuests$Sheet", "size", "I", false)
def tyX6 : Nat → FieldType := fun k => match k with
  | 0 => .array .int
  | 1 => .int
  | _ => .int
abbrev wsX60 : List Cond := u_ws RX6 TX6 3
theorem nmX6 : ∀ a, a < 3 → ∀ b, b < 3 → a ≠ b → (TX6 a).2.1 ≠ (TX6 b).2.1 := by decide +kernel
theorem tyX6_ok : ∀ k, k < 3 → parseFieldDescriptor (TX6 k).2.2.1 = some (tyX6 k) := by decide +kernel
abbrev cX6_init : ByteArray := prog_8_method_1_code
def yX6_init : MethodName := ⟨RX6, "<init>", "()V"⟩
abbrev cX6_isNothing : ByteArray := prog_8_method_2_code
def yX6_isNothing : MethodName := ⟨RX6, "isNothing", "()Z"⟩
abbrev cX6_renew : ByteArray := prog_8_method_3_code
def yX6_renew : MethodName := ⟨RX6, "renew", "(II)V"⟩
abbrev cX6_put : ByteArray := prog_8_method_4_code
def yX6_put : MethodName := ⟨RX6, "put", "(II)V"⟩
abbrev cX6_faultAt : ByteArray := prog_8_method_5_code
def yX6_faultAt : MethodName := ⟨RX6, "faultAt", "(II)I"⟩
abbrev cX6_faultOfTwo : ByteArray := prog_8_method_6_code
def yX6_faultOfTwo : MethodName := ⟨RX6, "faultOfTwo", "(II)I"⟩
def RX7 : String := "UnaskedGuests$Sightings"
def TX7 : u_T := fun k => match k with
  | 0 => ("UnaskedGuests$Sightings", "size", "I", false)
  | 1 => ("UnaskedGuests$Sightings", "behind", "[I", true)
  | 2 => ("UnaskedGuests$Sightings", "where", "[I", true)
  | _ => ("UnaskedGuests$Sightings", "hours", "[I", true)
def tyX7 : Nat → FieldType := fun k => match k with
  | 0 => .int
  | 1 => .array .int
  | 2 => .array .int
  | _ => .array .int
abbrev wsX70 : List Cond := u_ws RX7 TX7 4
theorem nmX7 : ∀ a, a < 4 → ∀ b, b < 4 → a ≠ b → (TX7 a).2.1 ≠ (TX7 b).2.1 := by decide +kernel
theorem tyX7_ok : ∀ k, k < 4 → parseFieldDescriptor (TX7 k).2.2.1 = some (tyX7 k) := by decide +kernel
abbrev cX7_init : ByteArray := prog_9_method_1_code
def yX7_init : MethodName := ⟨RX7, "<init>", "()V"⟩
abbrev cX7_add : ByteArray := prog_9_method_2_code
def yX7_add : MethodName := ⟨RX7, "add", "(III)Z"⟩
abbrev cX7_copyFrom : ByteArray := prog_9_method_3_code
def yX7_copyFrom : MethodName := ⟨RX7, "copyFrom", "(LUnaskedGuests$Sightings;)V"⟩
abbrev cX7_reach : ByteArray := prog_9_method_4_code
def yX7_reach : MethodName := ⟨RX7, "reach", "()I"⟩
abbrev cX7_agreeWith : ByteArray := prog_9_method_5_code
def yX7_agreeWith : MethodName := ⟨RX7, "agreeWith", "([I)Z"⟩
def RX8 : String := "UnaskedGuests$Tape"
def TX8 : u_T := fun k => match k with
  | 0 => ("UnaskedGuests$Tape", "bytes", "[I", true)
  | _ => ("UnaskedGuests$Tape", "length", "I", false)
def tyX8 : Nat → FieldType := fun k => match k with
  | 0 => .array .int
  | _ => .int
abbrev wsX80 : List Cond := u_ws RX8 TX8 2
theorem nmX8 : ∀ a, a < 2 → ∀ b, b < 2 → a ≠ b → (TX8 a).2.1 ≠ (TX8 b).2.1 := by decide +kernel
theorem tyX8_ok : ∀ k, k < 2 → parseFieldDescriptor (TX8 k).2.2.1 = some (tyX8 k) := by decide +kernel
abbrev cX8_init : ByteArray := prog_10_method_1_code
def yX8_init : MethodName := ⟨RX8, "<init>", "()V"⟩
abbrev cX8_put : ByteArray := prog_10_method_2_code
def yX8_put : MethodName := ⟨RX8, "put", "(I)Z"⟩
abbrev cX8_isLetter : ByteArray := prog_10_method_3_code
def yX8_isLetter : MethodName := ⟨RX8, "isLetter", "(I)Z"⟩
abbrev cX8_isFigure : ByteArray := prog_10_method_4_code
def yX8_isFigure : MethodName := ⟨RX8, "isFigure", "(I)Z"⟩
def RX9 : String := "UnaskedGuests$TextReader"
def TX9 : u_T := fun k => match k with
  | 0 => ("UnaskedGuests$TextReader", "tape", "LUnaskedGuests$Tape;", true)
  | 1 => ("UnaskedGuests$TextReader", "draft", "LUnaskedGuests$County;", true)
  | 2 => ("UnaskedGuests$TextReader", "fault", "I", false)
  | 3 => ("UnaskedGuests$TextReader", "faultPlace", "I", false)
  | 4 => ("UnaskedGuests$TextReader", "place", "I", false)
  | 5 => ("UnaskedGuests$TextReader", "behind", "I", false)
  | 6 => ("UnaskedGuests$TextReader", "sort", "I", false)
  | _ => ("UnaskedGuests$TextReader", "value", "I", false)
def tyX9 : Nat → FieldType := fun k => match k with
  | 0 => .object "UnaskedGuests$Tape"
  | 1 => .object "UnaskedGuests$County"
  | 2 => .int
  | 3 => .int
  | 4 => .int
  | 5 => .int
  | 6 => .int
  | _ => .int
abbrev wsX90 : List Cond := u_ws RX9 TX9 8
theorem nmX9 : ∀ a, a < 8 → ∀ b, b < 8 → a ≠ b → (TX9 a).2.1 ≠ (TX9 b).2.1 := by decide +kernel
theorem tyX9_ok : ∀ k, k < 8 → parseFieldDescriptor (TX9 k).2.2.1 = some (tyX9 k) := by decide +kernel
abbrev cX9_init : ByteArray := prog_11_method_1_code
def yX9_init : MethodName := ⟨RX9, "<init>", "(LUnaskedGuests$Tape;)V"⟩
abbrev cX9_readAll : ByteArray := prog_11_method_2_code
def yX9_readAll : MethodName := ⟨RX9, "readAll", "()I"⟩
abbrev cX9_readLine : ByteArray := prog_11_method_3_code
def yX9_readLine : MethodName := ⟨RX9, "readLine", "()Z"⟩
abbrev cX9_readHouse : ByteArray := prog_11_method_4_code
def yX9_readHouse : MethodName := ⟨RX9, "readHouse", "()Z"⟩
abbrev cX9_readComer : ByteArray := prog_11_method_5_code
def yX9_readComer : MethodName := ⟨RX9, "readComer", "(I)Z"⟩
abbrev cX9_readNumber : ByteArray := prog_11_method_6_code
def yX9_readNumber : MethodName := ⟨RX9, "readNumber", "()Z"⟩
abbrev cX9_stands : ByteArray := prog_11_method_7_code
def yX9_stands : MethodName := ⟨RX9, "stands", "(I)Z"⟩
abbrev cX9_fail : ByteArray := prog_11_method_8_code
def yX9_fail : MethodName := ⟨RX9, "fail", "(II)Z"⟩
abbrev cX9_readToken : ByteArray := prog_11_method_9_code
def yX9_readToken : MethodName := ⟨RX9, "readToken", "()V"⟩
abbrev cX9_readName : ByteArray := prog_11_method_10_code
def yX9_readName : MethodName := ⟨RX9, "readName", "()V"⟩
abbrev cX9_readFigures : ByteArray := prog_11_method_11_code
def yX9_readFigures : MethodName := ⟨RX9, "readFigures", "()V"⟩
abbrev cX9_kindNamed : ByteArray := prog_11_method_12_code
def yX9_kindNamed : MethodName := ⟨RX9, "kindNamed", "()I"⟩
abbrev cX9_named : ByteArray := prog_11_method_13_code
def yX9_named : MethodName := ⟨RX9, "named", "(Ljava/lang/String;)Z"⟩
def RX10 : String := "UnaskedGuests$Trial"
def TX10 : u_T := fun k => match k with
  | 0 => ("UnaskedGuests$Trial", "now", "LUnaskedGuests$County;", true)
  | 1 => ("UnaskedGuests$Trial", "county", "LUnaskedGuests$County;", true)
  | 2 => ("UnaskedGuests$Trial", "evening", "LUnaskedGuests$Evening;", true)
  | 3 => ("UnaskedGuests$Trial", "evenings", "I", false)
  | 4 => ("UnaskedGuests$Trial", "waited", "I", false)
  | _ => ("UnaskedGuests$Trial", "firstFast", "I", false)
def tyX10 : Nat → FieldType := fun k => match k with
  | 0 => .object "UnaskedGuests$County"
  | 1 => .object "UnaskedGuests$County"
  | 2 => .object "UnaskedGuests$Evening"
  | 3 => .int
  | 4 => .int
  | _ => .int
abbrev wsX100 : List Cond := u_ws RX10 TX10 6
theorem nmX10 : ∀ a, a < 6 → ∀ b, b < 6 → a ≠ b → (TX10 a).2.1 ≠ (TX10 b).2.1 := by decide +kernel
theorem tyX10_ok : ∀ k, k < 6 → parseFieldDescriptor (TX10 k).2.2.1 = some (tyX10 k) := by decide +kernel
abbrev cX10_init : ByteArray := prog_12_method_1_code
def yX10_init : MethodName := ⟨RX10, "<init>", "(LUnaskedGuests$County;)V"⟩
abbrev cX10_restart : ByteArray := prog_12_method_2_code
def yX10_restart : MethodName := ⟨RX10, "restart", "()LUnaskedGuests$County;"⟩
abbrev cX10_tonight : ByteArray := prog_12_method_3_code
def yX10_tonight : MethodName := ⟨RX10, "tonight", "()LUnaskedGuests$Evening;"⟩
abbrev cX10_dinnersIn : ByteArray := prog_12_method_4_code
def yX10_dinnersIn : MethodName := ⟨RX10, "dinnersIn", "(I)I"⟩
abbrev cX10_driftBy : ByteArray := prog_12_method_5_code
def yX10_driftBy : MethodName := ⟨RX10, "driftBy", "(II)I"⟩
def RX11 : String := "UnaskedGuests"
def TX11 : u_T := fun k => match k with
  | 0 => ("UnaskedGuests", "tape", "LUnaskedGuests$Tape;", true)
  | 1 => ("UnaskedGuests", "reader", "LUnaskedGuests$TextReader;", true)
  | 2 => ("UnaskedGuests", "now", "LUnaskedGuests$County;", true)
  | 3 => ("UnaskedGuests", "seen", "LUnaskedGuests$Sightings;", true)
  | 4 => ("UnaskedGuests", "trial", "LUnaskedGuests$Trial;", true)
  | 5 => ("UnaskedGuests", "advice", "LUnaskedGuests$Advice;", true)
  | 6 => ("UnaskedGuests", "odds", "LUnaskedGuests$Odds;", true)
  | 7 => ("UnaskedGuests", "guess", "LUnaskedGuests$Guess;", true)
  | 8 => ("UnaskedGuests", "images", "[LUnaskedGuests$Image;", true)
  | 9 => ("UnaskedGuests", "sheets", "[LUnaskedGuests$Sheet;", true)
  | _ => ("UnaskedGuests", "tornFault", "I", false)
def tyX11 : Nat → FieldType := fun k => match k with
  | 0 => .object "UnaskedGuests$Tape"
  | 1 => .object "UnaskedGuests$TextReader"
  | 2 => .object "UnaskedGuests$County"
  | 3 => .object "UnaskedGuests$Sightings"
  | 4 => .object "UnaskedGuests$Trial"
  | 5 => .object "UnaskedGuests$Advice"
  | 6 => .object "UnaskedGuests$Odds"
  | 7 => .object "UnaskedGuests$Guess"
  | 8 => .array (.object "UnaskedGuests$Image")
  | 9 => .array (.object "UnaskedGuests$Sheet")
  | _ => .int
abbrev wsX110 : List Cond := u_ws RX11 TX11 11
theorem nmX11 : ∀ a, a < 11 → ∀ b, b < 11 → a ≠ b → (TX11 a).2.1 ≠ (TX11 b).2.1 := by decide +kernel
theorem tyX11_ok : ∀ k, k < 11 → parseFieldDescriptor (TX11 k).2.2.1 = some (tyX11 k) := by decide +kernel
abbrev cX11_init : ByteArray := prog_1_method_1_code
def yX11_init : MethodName := ⟨RX11, "<init>", "()V"⟩
abbrev cX11_feed : ByteArray := prog_1_method_2_code
def yX11_feed : MethodName := ⟨RX11, "feed", "(I)I"⟩
abbrev cX11_end : ByteArray := prog_1_method_3_code
def yX11_end : MethodName := ⟨RX11, "end", "(I)I"⟩
abbrev cX11_text : ByteArray := prog_1_method_4_code
def yX11_text : MethodName := ⟨RX11, "text", "()I"⟩
abbrev cX11_fault : ByteArray := prog_1_method_5_code
def yX11_fault : MethodName := ⟨RX11, "fault", "()I"⟩
abbrev cX11_rule : ByteArray := prog_1_method_6_code
def yX11_rule : MethodName := ⟨RX11, "rule", "(I)I"⟩
abbrev cX11_house : ByteArray := prog_1_method_7_code
def yX11_house : MethodName := ⟨RX11, "house", "(II)I"⟩
abbrev cX11_comer : ByteArray := prog_1_method_8_code
def yX11_comer : MethodName := ⟨RX11, "comer", "(II)I"⟩
abbrev cX11_likes : ByteArray := prog_1_method_9_code
def yX11_likes : MethodName := ⟨RX11, "likes", "(II)I"⟩
abbrev cX11_alter : ByteArray := prog_1_method_10_code
def yX11_alter : MethodName := ⟨RX11, "alter", "(III)I"⟩
abbrev cX11_fancy : ByteArray := prog_1_method_11_code
def yX11_fancy : MethodName := ⟨RX11, "fancy", "(III)I"⟩
abbrev cX11_invite : ByteArray := prog_1_method_12_code
def yX11_invite : MethodName := ⟨RX11, "invite", "(IIZ)I"⟩
abbrev cX11_evenings : ByteArray := prog_1_method_13_code
def yX11_evenings : MethodName := ⟨RX11, "evenings", "(I)I"⟩
abbrev cX11_runs : ByteArray := prog_1_method_14_code
def yX11_runs : MethodName := ⟨RX11, "runs", "(II)I"⟩
abbrev cX11_ahead : ByteArray := prog_1_method_15_code
def yX11_ahead : MethodName := ⟨RX11, "ahead", "(III)I"⟩
abbrev cX11_begins : ByteArray := prog_1_method_16_code
def yX11_begins : MethodName := ⟨RX11, "begins", "(II)I"⟩
abbrev cX11_send : ByteArray := prog_1_method_17_code
def yX11_send : MethodName := ⟨RX11, "send", "(II)I"⟩
abbrev cX11_swap : ByteArray := prog_1_method_18_code
def yX11_swap : MethodName := ⟨RX11, "swap", "(I)I"⟩
abbrev cX11_strike : ByteArray := prog_1_method_19_code
def yX11_strike : MethodName := ⟨RX11, "strike", "(I)I"⟩
abbrev cX11_late : ByteArray := prog_1_method_20_code
def yX11_late : MethodName := ⟨RX11, "late", "(I)I"⟩
abbrev cX11_most : ByteArray := prog_1_method_21_code
def yX11_most : MethodName := ⟨RX11, "most", "(II)I"⟩
abbrev cX11_kind : ByteArray := prog_1_method_22_code
def yX11_kind : MethodName := ⟨RX11, "kind", "(III)I"⟩
abbrev cX11_pair : ByteArray := prog_1_method_23_code
def yX11_pair : MethodName := ⟨RX11, "pair", "(III)I"⟩
abbrev cX11_luck : ByteArray := prog_1_method_24_code
def yX11_luck : MethodName := ⟨RX11, "luck", "(III)J"⟩
abbrev cX11_mean : ByteArray := prog_1_method_25_code
def yX11_mean : MethodName := ⟨RX11, "mean", "(II)J"⟩
abbrev cX11_see : ByteArray := prog_1_method_26_code
def yX11_see : MethodName := ⟨RX11, "see", "(III)I"⟩
abbrev cX11_forget : ByteArray := prog_1_method_27_code
def yX11_forget : MethodName := ⟨RX11, "forget", "(I)I"⟩
abbrev cX11_kinds : ByteArray := prog_1_method_28_code
def yX11_kinds : MethodName := ⟨RX11, "kinds", "(I)I"⟩
abbrev cX11_levels : ByteArray := prog_1_method_29_code
def yX11_levels : MethodName := ⟨RX11, "levels", "(II)I"⟩
abbrev cX11_ask : ByteArray := prog_1_method_30_code
def yX11_ask : MethodName := ⟨RX11, "ask", "(II)I"⟩
abbrev cX11_drift : ByteArray := prog_1_method_31_code
def yX11_drift : MethodName := ⟨RX11, "drift", "(III)I"⟩
abbrev cX11_keep : ByteArray := prog_1_method_32_code
def yX11_keep : MethodName := ⟨RX11, "keep", "(I)I"⟩
abbrev cX11_back : ByteArray := prog_1_method_33_code
def yX11_back : MethodName := ⟨RX11, "back", "(I)I"⟩
abbrev cX11_sheet : ByteArray := prog_1_method_34_code
def yX11_sheet : MethodName := ⟨RX11, "sheet", "(III)I"⟩
abbrev cX11_lay : ByteArray := prog_1_method_35_code
def yX11_lay : MethodName := ⟨RX11, "lay", "(III)I"⟩
abbrev cX11_read : ByteArray := prog_1_method_36_code
def yX11_read : MethodName := ⟨RX11, "read", "(IIII)I"⟩
abbrev cX11_torn : ByteArray := prog_1_method_37_code
def yX11_torn : MethodName := ⟨RX11, "torn", "()I"⟩
abbrev cX11_count : ByteArray := prog_1_method_38_code
def yX11_count : MethodName := ⟨RX11, "count", "(I)I"⟩
abbrev cX11_noHouse : ByteArray := prog_1_method_39_code
def yX11_noHouse : MethodName := ⟨RX11, "noHouse", "(I)Z"⟩
abbrev cX11_noComer : ByteArray := prog_1_method_40_code
def yX11_noComer : MethodName := ⟨RX11, "noComer", "(I)Z"⟩
abbrev cX11_imagesKept : ByteArray := prog_1_method_41_code
def yX11_imagesKept : MethodName := ⟨RX11, "imagesKept", "()I"⟩
abbrev cX11_outside : ByteArray := prog_1_method_42_code
def yX11_outside : MethodName := ⟨RX11, "outside", "(II)Z"⟩
abbrev cX11_hourOrNone : ByteArray := prog_1_method_43_code
def yX11_hourOrNone : MethodName := ⟨RX11, "hourOrNone", "(I)I"⟩
abbrev cX11_houseOrNone : ByteArray := prog_1_method_44_code
def yX11_houseOrNone : MethodName := ⟨RX11, "houseOrNone", "(I)I"⟩
abbrev cX11_exchange : ByteArray := prog_1_method_45_code
def yX11_exchange : MethodName := ⟨RX11, "exchange", "([III)I"⟩
abbrev cX11_partOfFraction : ByteArray := prog_1_method_46_code
def yX11_partOfFraction : MethodName := ⟨RX11, "partOfFraction", "(JJI)J"⟩
abbrev cX11_greatestDivisor : ByteArray := prog_1_method_47_code
def yX11_greatestDivisor : MethodName := ⟨RX11, "greatestDivisor", "(JJ)J"⟩
def RX12 : String := "UnaskedGuestsModel"
def TX12 : u_T := fun k => match k with
  | 0 => ("UnaskedGuestsModel", "st", "[I", true)
  | 1 => ("UnaskedGuestsModel", "now", "[I", true)
  | 2 => ("UnaskedGuestsModel", "isKept", "[Z", true)
  | 3 => ("UnaskedGuestsModel", "houses", "I", false)
  | 4 => ("UnaskedGuestsModel", "comers", "I", false)
  | 5 => ("UnaskedGuestsModel", "draft", "[I", true)
  | 6 => ("UnaskedGuestsModel", "dHouses", "I", false)
  | 7 => ("UnaskedGuestsModel", "dComers", "I", false)
  | 8 => ("UnaskedGuestsModel", "highestHouse", "I", false)
  | 9 => ("UnaskedGuestsModel", "highestComer", "I", false)
  | 10 => ("UnaskedGuestsModel", "tape", "[I", true)
  | 11 => ("UnaskedGuestsModel", "taped", "I", false)
  | 12 => ("UnaskedGuestsModel", "pos", "I", false)
  | 13 => ("UnaskedGuestsModel", "begun", "I", false)
  | 14 => ("UnaskedGuestsModel", "sort", "I", false)
  | 15 => ("UnaskedGuestsModel", "value", "I", false)
  | 16 => ("UnaskedGuestsModel", "fault", "I", false)
  | 17 => ("UnaskedGuestsModel", "wrongAt", "I", false)
  | 18 => ("UnaskedGuestsModel", "home", "I", false)
  | 19 => ("UnaskedGuestsModel", "began", "[I", true)
  | 20 => ("UnaskedGuestsModel", "begunBy", "[I", true)
  | 21 => ("UnaskedGuestsModel", "dinners", "I", false)
  | 22 => ("UnaskedGuestsModel", "waited", "I", false)
  | 23 => ("UnaskedGuestsModel", "beginSum", "J", false)
  | 24 => ("UnaskedGuestsModel", "dinnerSum", "J", false)
  | 25 => ("UnaskedGuestsModel", "allWays", "J", false)
  | 26 => ("UnaskedGuestsModel", "hours", "[I", true)
  | 27 => ("UnaskedGuestsModel", "byKind", "[I", true)
  | 28 => ("UnaskedGuestsModel", "lanes", "[I", true)
  | 29 => ("UnaskedGuestsModel", "sizes", "[I", true)
  | 30 => ("UnaskedGuestsModel", "cells", "[I", true)
  | 31 => ("UnaskedGuestsModel", "torn", "I", false)
  | _ => ("UnaskedGuestsModel", "before", "[I", true)
def tyX12 : Nat → FieldType := fun k => match k with
  | 0 => .array .int
  | 1 => .array .int
  | 2 => .array .boolean
  | 3 => .int
  | 4 => .int
  | 5 => .array .int
  | 6 => .int
  | 7 => .int
  | 8 => .int
  | 9 => .int
  | 10 => .array .int
  | 11 => .int
  | 12 => .int
  | 13 => .int
  | 14 => .int
  | 15 => .int
  | 16 => .int
  | 17 => .int
  | 18 => .int
  | 19 => .array .int
  | 20 => .array .int
  | 21 => .int
  | 22 => .int
  | 23 => .long
  | 24 => .long
  | 25 => .long
  | 26 => .array .int
  | 27 => .array .int
  | 28 => .array .int
  | 29 => .array .int
  | 30 => .array .int
  | 31 => .int
  | _ => .array .int
abbrev wsX120 : List Cond := u_ws RX12 TX12 33
theorem nmX12 : ∀ a, a < 33 → ∀ b, b < 33 → a ≠ b → (TX12 a).2.1 ≠ (TX12 b).2.1 := by decide +kernel
theorem tyX12_ok : ∀ k, k < 33 → parseFieldDescriptor (TX12 k).2.2.1 = some (tyX12 k) := by decide +kernel
abbrev cX12_init : ByteArray := prog_14_method_1_code
def yX12_init : MethodName := ⟨RX12, "<init>", "()V"⟩
abbrev cX12_in : ByteArray := prog_14_method_3_code
def yX12_in : MethodName := ⟨RX12, "in", "(JJJ)Z"⟩
abbrev cX12_flag : ByteArray := prog_14_method_4_code
def yX12_flag : MethodName := ⟨RX12, "flag", "(Z)I"⟩
abbrev cX12_lesser : ByteArray := prog_14_method_5_code
def yX12_lesser : MethodName := ⟨RX12, "lesser", "(II)I"⟩
abbrev cX12_firstDraft : ByteArray := prog_14_method_6_code
def yX12_firstDraft : MethodName := ⟨RX12, "firstDraft", "()V"⟩
abbrev cX12_keepDraft : ByteArray := prog_14_method_7_code
def yX12_keepDraft : MethodName := ⟨RX12, "keepDraft", "()V"⟩
abbrev cX12_feed : ByteArray := prog_14_method_8_code
def yX12_feed : MethodName := ⟨RX12, "feed", "(I)I"⟩
abbrev cX12_end : ByteArray := prog_14_method_9_code
def yX12_end : MethodName := ⟨RX12, "end", "(I)I"⟩
abbrev cX12_needs : ByteArray := prog_14_method_10_code
def yX12_needs : MethodName := ⟨RX12, "needs", "(ZI)V"⟩
abbrev cX12_byteAt : ByteArray := prog_14_method_11_code
def yX12_byteAt : MethodName := ⟨RX12, "byteAt", "(I)I"⟩
abbrev cX12_is : ByteArray := prog_14_method_12_code
def yX12_is : MethodName := ⟨RX12, "is", "(IIIII)Z"⟩
abbrev cX12_ends : ByteArray := prog_14_method_13_code
def yX12_ends : MethodName := ⟨RX12, "ends", "(II)Z"⟩
abbrev cX12_lineNow : ByteArray := prog_14_method_14_code
def yX12_lineNow : MethodName := ⟨RX12, "lineNow", "()I"⟩
abbrev cX12_takes : ByteArray := prog_14_method_15_code
def yX12_takes : MethodName := ⟨RX12, "takes", "()V"⟩
abbrev cX12_looked : ByteArray := prog_14_method_16_code
def yX12_looked : MethodName := ⟨RX12, "looked", "(II)I"⟩
abbrev cX12_readNumber : ByteArray := prog_14_method_17_code
def yX12_readNumber : MethodName := ⟨RX12, "readNumber", "(II)I"⟩
abbrev cX12_readHouse : ByteArray := prog_14_method_18_code
def yX12_readHouse : MethodName := ⟨RX12, "readHouse", "()V"⟩
abbrev cX12_readComer : ByteArray := prog_14_method_19_code
def yX12_readComer : MethodName := ⟨RX12, "readComer", "(I)V"⟩
abbrev cX12_readLine : ByteArray := prog_14_method_20_code
def yX12_readLine : MethodName := ⟨RX12, "readLine", "()V"⟩
abbrev cX12_text : ByteArray := prog_14_method_21_code
def yX12_text : MethodName := ⟨RX12, "text", "()I"⟩
abbrev cX12_fault : ByteArray := prog_14_method_22_code
def yX12_fault : MethodName := ⟨RX12, "fault", "()I"⟩
abbrev cX12_isHouse : ByteArray := prog_14_method_23_code
def yX12_isHouse : MethodName := ⟨RX12, "isHouse", "(I)Z"⟩
abbrev cX12_isComer : ByteArray := prog_14_method_24_code
def yX12_isComer : MethodName := ⟨RX12, "isComer", "(I)Z"⟩
abbrev cX12_isPart : ByteArray := prog_14_method_25_code
def yX12_isPart : MethodName := ⟨RX12, "isPart", "(I)Z"⟩
abbrev cX12_starts : ByteArray := prog_14_method_26_code
def yX12_starts : MethodName := ⟨RX12, "starts", "()V"⟩
abbrev cX12_settles : ByteArray := prog_14_method_27_code
def yX12_settles : MethodName := ⟨RX12, "settles", "()V"⟩
abbrev cX12_of : ByteArray := prog_14_method_28_code
def yX12_of : MethodName := ⟨RX12, "of", "(II)I"⟩
abbrev cX12_becomesOf : ByteArray := prog_14_method_29_code
def yX12_becomesOf : MethodName := ⟨RX12, "becomesOf", "(III)V"⟩
abbrev cX12_liking : ByteArray := prog_14_method_30_code
def yX12_liking : MethodName := ⟨RX12, "liking", "(II)I"⟩
abbrev cX12_isUnwelcome : ByteArray := prog_14_method_31_code
def yX12_isUnwelcome : MethodName := ⟨RX12, "isUnwelcome", "(II)Z"⟩
abbrev cX12_isThere : ByteArray := prog_14_method_32_code
def yX12_isThere : MethodName := ⟨RX12, "isThere", "(III)Z"⟩
abbrev cX12_warmed : ByteArray := prog_14_method_33_code
def yX12_warmed : MethodName := ⟨RX12, "warmed", "(III)I"⟩
abbrev cX12_manyThere : ByteArray := prog_14_method_34_code
def yX12_manyThere : MethodName := ⟨RX12, "manyThere", "(II)I"⟩
abbrev cX12_houseWaits : ByteArray := prog_14_method_35_code
def yX12_houseWaits : MethodName := ⟨RX12, "houseWaits", "(I)V"⟩
abbrev cX12_startsCounting : ByteArray := prog_14_method_36_code
def yX12_startsCounting : MethodName := ⟨RX12, "startsCounting", "()V"⟩
abbrev cX12_eveningGoes : ByteArray := prog_14_method_37_code
def yX12_eveningGoes : MethodName := ⟨RX12, "eveningGoes", "()V"⟩
abbrev cX12_eveningsGo : ByteArray := prog_14_method_38_code
def yX12_eveningsGo : MethodName := ⟨RX12, "eveningsGo", "(I)V"⟩
abbrev cX12_dinnersTonight : ByteArray := prog_14_method_39_code
def yX12_dinnersTonight : MethodName := ⟨RX12, "dinnersTonight", "()I"⟩
abbrev cX12_listed : ByteArray := prog_14_method_40_code
def yX12_listed : MethodName := ⟨RX12, "listed", "(I)I"⟩
abbrev cX12_allListed : ByteArray := prog_14_method_41_code
def yX12_allListed : MethodName := ⟨RX12, "allListed", "()I"⟩
abbrev cX12_likedInAll : ByteArray := prog_14_method_42_code
def yX12_likedInAll : MethodName := ⟨RX12, "likedInAll", "(I)I"⟩
abbrev cX12_allLiked : ByteArray := prog_14_method_43_code
def yX12_allLiked : MethodName := ⟨RX12, "allLiked", "()I"⟩
abbrev cX12_rule : ByteArray := prog_14_method_44_code
def yX12_rule : MethodName := ⟨RX12, "rule", "(I)I"⟩
abbrev cX12_house : ByteArray := prog_14_method_45_code
def yX12_house : MethodName := ⟨RX12, "house", "(II)I"⟩
abbrev cX12_comer : ByteArray := prog_14_method_46_code
def yX12_comer : MethodName := ⟨RX12, "comer", "(II)I"⟩
abbrev cX12_likes : ByteArray := prog_14_method_47_code
def yX12_likes : MethodName := ⟨RX12, "likes", "(II)I"⟩
abbrev cX12_becomes : ByteArray := prog_14_method_48_code
def yX12_becomes : MethodName := ⟨RX12, "becomes", "(II)I"⟩
abbrev cX12_asKept : ByteArray := prog_14_method_49_code
def yX12_asKept : MethodName := ⟨RX12, "asKept", "(I)I"⟩
abbrev cX12_alter : ByteArray := prog_14_method_50_code
def yX12_alter : MethodName := ⟨RX12, "alter", "(III)I"⟩
abbrev cX12_fancy : ByteArray := prog_14_method_51_code
def yX12_fancy : MethodName := ⟨RX12, "fancy", "(III)I"⟩
abbrev cX12_invite : ByteArray := prog_14_method_52_code
def yX12_invite : MethodName := ⟨RX12, "invite", "(IIZ)I"⟩
abbrev cX12_evenings : ByteArray := prog_14_method_53_code
def yX12_evenings : MethodName := ⟨RX12, "evenings", "(I)I"⟩
abbrev cX12_isFar : ByteArray := prog_14_method_54_code
def yX12_isFar : MethodName := ⟨RX12, "isFar", "(I)Z"⟩
abbrev cX12_runs : ByteArray := prog_14_method_55_code
def yX12_runs : MethodName := ⟨RX12, "runs", "(II)I"⟩
abbrev cX12_ahead : ByteArray := prog_14_method_56_code
def yX12_ahead : MethodName := ⟨RX12, "ahead", "(III)I"⟩
abbrev cX12_begins : ByteArray := prog_14_method_57_code
def yX12_begins : MethodName := ⟨RX12, "begins", "(II)I"⟩
abbrev cX12_placeBy : ByteArray := prog_14_method_58_code
def yX12_placeBy : MethodName := ⟨RX12, "placeBy", "(I)I"⟩
abbrev cX12_asTold : ByteArray := prog_14_method_59_code
def yX12_asTold : MethodName := ⟨RX12, "asTold", "(I)I"⟩
abbrev cX12_send : ByteArray := prog_14_method_60_code
def yX12_send : MethodName := ⟨RX12, "send", "(II)I"⟩
abbrev cX12_swap : ByteArray := prog_14_method_61_code
def yX12_swap : MethodName := ⟨RX12, "swap", "(I)I"⟩
abbrev cX12_strike : ByteArray := prog_14_method_62_code
def yX12_strike : MethodName := ⟨RX12, "strike", "(I)I"⟩
abbrev cX12_late : ByteArray := prog_14_method_63_code
def yX12_late : MethodName := ⟨RX12, "late", "(I)I"⟩
abbrev cX12_most : ByteArray := prog_14_method_64_code
def yX12_most : MethodName := ⟨RX12, "most", "(II)I"⟩
abbrev cX12_kind : ByteArray := prog_14_method_65_code
def yX12_kind : MethodName := ⟨RX12, "kind", "(III)I"⟩
abbrev cX12_pair : ByteArray := prog_14_method_66_code
def yX12_pair : MethodName := ⟨RX12, "pair", "(III)I"⟩
abbrev cX12_common : ByteArray := prog_14_method_67_code
def yX12_common : MethodName := ⟨RX12, "common", "(JJ)J"⟩
abbrev cX12_told : ByteArray := prog_14_method_68_code
def yX12_told : MethodName := ⟨RX12, "told", "(JJI)J"⟩
abbrev cX12_findOdds : ByteArray := prog_14_method_69_code
def yX12_findOdds : MethodName := ⟨RX12, "findOdds", "(II)V"⟩
abbrev cX12_luck : ByteArray := prog_14_method_70_code
def yX12_luck : MethodName := ⟨RX12, "luck", "(III)J"⟩
abbrev cX12_mean : ByteArray := prog_14_method_71_code
def yX12_mean : MethodName := ⟨RX12, "mean", "(II)J"⟩
abbrev cX12_see : ByteArray := prog_14_method_72_code
def yX12_see : MethodName := ⟨RX12, "see", "(III)I"⟩
abbrev cX12_forget : ByteArray := prog_14_method_73_code
def yX12_forget : MethodName := ⟨RX12, "forget", "(I)I"⟩
abbrev cX12_isSoWith : ByteArray := prog_14_method_74_code
def yX12_isSoWith : MethodName := ⟨RX12, "isSoWith", "(II)Z"⟩
abbrev cX12_kinds : ByteArray := prog_14_method_75_code
def yX12_kinds : MethodName := ⟨RX12, "kinds", "(I)I"⟩
abbrev cX12_levels : ByteArray := prog_14_method_76_code
def yX12_levels : MethodName := ⟨RX12, "levels", "(II)I"⟩
abbrev cX12_ask : ByteArray := prog_14_method_77_code
def yX12_ask : MethodName := ⟨RX12, "ask", "(II)I"⟩
abbrev cX12_drift : ByteArray := prog_14_method_78_code
def yX12_drift : MethodName := ⟨RX12, "drift", "(III)I"⟩
abbrev cX12_copies : ByteArray := prog_14_method_79_code
def yX12_copies : MethodName := ⟨RX12, "copies", "(II)V"⟩
abbrev cX12_keep : ByteArray := prog_14_method_80_code
def yX12_keep : MethodName := ⟨RX12, "keep", "(I)I"⟩
abbrev cX12_back : ByteArray := prog_14_method_81_code
def yX12_back : MethodName := ⟨RX12, "back", "(I)I"⟩
abbrev cX12_isSheet : ByteArray := prog_14_method_82_code
def yX12_isSheet : MethodName := ⟨RX12, "isSheet", "(II)Z"⟩
abbrev cX12_sheet : ByteArray := prog_14_method_83_code
def yX12_sheet : MethodName := ⟨RX12, "sheet", "(III)I"⟩
abbrev cX12_lay : ByteArray := prog_14_method_84_code
def yX12_lay : MethodName := ⟨RX12, "lay", "(III)I"⟩
abbrev cX12_read : ByteArray := prog_14_method_85_code
def yX12_read : MethodName := ⟨RX12, "read", "(IIII)I"⟩
abbrev cX12_torn : ByteArray := prog_14_method_86_code
def yX12_torn : MethodName := ⟨RX12, "torn", "()I"⟩
abbrev cX12_count : ByteArray := prog_14_method_87_code
def yX12_count : MethodName := ⟨RX12, "count", "(I)I"⟩
def RJ6 : String := "java/lang/Integer"
def TJ6 : u_T := fun k => match k with
  | _ => ("", "", "", false)
def tyJ6 : Nat → FieldType := fun k => match k with
  | _ => .int
abbrev wsJ60 : List Cond := u_ws RJ6 TJ6 0
theorem nmJ6 : ∀ a, a < 0 → ∀ b, b < 0 → a ≠ b → (TJ6 a).2.1 ≠ (TJ6 b).2.1 := by decide +kernel
theorem tyJ6_ok : ∀ k, k < 0 → parseFieldDescriptor (TJ6 k).2.2.1 = some (tyJ6 k) := by decide +kernel
abbrev cJ6_bitCount_0f7a4 : ByteArray := prog_15_method_49_code
def yJ6_bitCount_0f7a4 : MethodName := ⟨RJ6, "bitCount", "(I)I"⟩
def RJ9 : String := "java/lang/Math"
def TJ9 : u_T := fun k => match k with
  | _ => ("", "", "", false)
def tyJ9 : Nat → FieldType := fun k => match k with
  | _ => .int
abbrev wsJ90 : List Cond := u_ws RJ9 TJ9 0
theorem nmJ9 : ∀ a, a < 0 → ∀ b, b < 0 → a ≠ b → (TJ9 a).2.1 ≠ (TJ9 b).2.1 := by decide +kernel
theorem tyJ9_ok : ∀ k, k < 0 → parseFieldDescriptor (TJ9 k).2.2.1 = some (tyJ9 k) := by decide +kernel
abbrev cJ9_max_7cf53 : ByteArray := prog_16_method_65_code
def yJ9_max_7cf53 : MethodName := ⟨RJ9, "max", "(II)I"⟩
def RJ0 : String := "java/lang/String"
def TJ0 : u_T := fun k => match k with
  | _ => ("", "", "", false)
def tyJ0 : Nat → FieldType := fun k => match k with
  | _ => .int
abbrev wsJ00 : List Cond := u_ws RJ0 TJ0 0
theorem nmJ0 : ∀ a, a < 0 → ∀ b, b < 0 → a ≠ b → (TJ0 a).2.1 ≠ (TJ0 b).2.1 := by decide +kernel
theorem tyJ0_ok : ∀ k, k < 0 → parseFieldDescriptor (TJ0 k).2.2.1 = some (tyJ0 k) := by decide +kernel
abbrev cJ0_length_8abf5 : ByteArray := prog_17_method_54_code
def yJ0_length_8abf5 : MethodName := ⟨RJ0, "length", "()I"⟩
abbrev cJ0_charAt_5068e : ByteArray := prog_17_method_56_code
def yJ0_charAt_5068e : MethodName := ⟨RJ0, "charAt", "(I)C"⟩
abbrev cJ0_coder_7d493 : ByteArray := prog_17_method_152_code
def yJ0_coder_7d493 : MethodName := ⟨RJ0, "coder", "()B"⟩
abbrev cJ0_isLatin1_aae02 : ByteArray := prog_17_method_154_code
def yJ0_isLatin1_aae02 : MethodName := ⟨RJ0, "isLatin1", "()Z"⟩
abbrev cJ0_checkIndex_df160 : ByteArray := prog_17_method_155_code
def yJ0_checkIndex_df160 : MethodName := ⟨RJ0, "checkIndex", "(II)V"⟩
def RJ1 : String := "java/lang/StringLatin1"
def TJ1 : u_T := fun k => match k with
  | _ => ("", "", "", false)
def tyJ1 : Nat → FieldType := fun k => match k with
  | _ => .int
abbrev wsJ10 : List Cond := u_ws RJ1 TJ1 0
theorem nmJ1 : ∀ a, a < 0 → ∀ b, b < 0 → a ≠ b → (TJ1 a).2.1 ≠ (TJ1 b).2.1 := by decide +kernel
theorem tyJ1_ok : ∀ k, k < 0 → parseFieldDescriptor (TJ1 k).2.2.1 = some (tyJ1 k) := by decide +kernel
abbrev cJ1_charAt_3b067 : ByteArray := prog_18_method_2_code
def yJ1_charAt_3b067 : MethodName := ⟨RJ1, "charAt", "([BI)C"⟩
def RJ2 : String := "java/lang/StringUTF16"
def TJ2 : u_T := fun k => match k with
  | _ => ("", "", "", false)
def tyJ2 : Nat → FieldType := fun k => match k with
  | _ => .int
abbrev wsJ20 : List Cond := u_ws RJ2 TJ2 0
theorem nmJ2 : ∀ a, a < 0 → ∀ b, b < 0 → a ≠ b → (TJ2 a).2.1 ≠ (TJ2 b).2.1 := by decide +kernel
theorem tyJ2_ok : ∀ k, k < 0 → parseFieldDescriptor (TJ2 k).2.2.1 = some (tyJ2 k) := by decide +kernel
abbrev cJ2_getChar_3b067 : ByteArray := prog_19_method_5_code
def yJ2_getChar_3b067 : MethodName := ⟨RJ2, "getChar", "([BI)C"⟩
abbrev cJ2_length_9d52b : ByteArray := prog_19_method_6_code
def yJ2_length_9d52b : MethodName := ⟨RJ2, "length", "([B)I"⟩
abbrev cJ2_charAt_3b067 : ByteArray := prog_19_method_83_code
def yJ2_charAt_3b067 : MethodName := ⟨RJ2, "charAt", "([BI)C"⟩
abbrev cJ2_checkIndex_2214a : ByteArray := prog_19_method_91_code
def yJ2_checkIndex_2214a : MethodName := ⟨RJ2, "checkIndex", "(I[B)V"⟩
def RJ10 : String := "java/lang/System"
def TJ10 : u_T := fun k => match k with
  | _ => ("", "", "", false)
def tyJ10 : Nat → FieldType := fun k => match k with
  | _ => .int
abbrev wsJ100 : List Cond := u_ws RJ10 TJ10 0
theorem nmJ10 : ∀ a, a < 0 → ∀ b, b < 0 → a ≠ b → (TJ10 a).2.1 ≠ (TJ10 b).2.1 := by decide +kernel
theorem tyJ10_ok : ∀ k, k < 0 → parseFieldDescriptor (TJ10 k).2.2.1 = some (tyJ10 k) := by decide +kernel
def RJ3 : String := "jdk/internal/util/Preconditions"
def TJ3 : u_T := fun k => match k with
  | _ => ("", "", "", false)
def tyJ3 : Nat → FieldType := fun k => match k with
  | _ => .int
abbrev wsJ30 : List Cond := u_ws RJ3 TJ3 0
theorem nmJ3 : ∀ a, a < 0 → ∀ b, b < 0 → a ≠ b → (TJ3 a).2.1 ≠ (TJ3 b).2.1 := by decide +kernel
theorem tyJ3_ok : ∀ k, k < 0 → parseFieldDescriptor (TJ3 k).2.2.1 = some (tyJ3 k) := by decide +kernel
abbrev cJ3_checkIndex_8e157 : ByteArray := prog_21_method_11_code
def yJ3_checkIndex_8e157 : MethodName := ⟨RJ3, "checkIndex", "(IILjava/util/function/BiFunction;)I"⟩
abbrev vwCl : List vw_C := [(RX0, TX0, 4), (RX1, TX1, 8), (RX2, TX2, 4), (RX3, TX3, 6), (RX4, TX4, 3), (RX5, TX5, 2), (RX6, TX6, 3), (RX7, TX7, 4), (RX8, TX8, 2), (RX9, TX9, 8), (RX10, TX10, 6), (RX11, TX11, 11), (RX12, TX12, 33)]
