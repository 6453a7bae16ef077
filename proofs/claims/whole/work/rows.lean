section
-- ===== PART A: goes FIRST, ahead of the names: the tables' words, and 'selects' of the private methods out of them =====
/-- a private method of a class that the tables say can be made, by its rows of tables_1 -/
def lw_okq (q : MethodName × Nat) : Prop := (q.1.cls ≠ "java/lang/invoke/MethodHandle" ∧ q.1.cls ≠ "java/lang/invoke/VarHandle") ∧ Cond.instantiable q.1.cls q.2 ∈ tables_1 ∧ Cond.privateMethod q.1 ∈ tables_1 ∧ Cond.instanceMethod q.1 ∈ tables_1
theorem lw_p0 : lw_okq (⟨"WolfFires$Camp", "byLaw", "(IIIII)I"⟩, 17) := ⟨⟨by decide +kernel, by decide +kernel⟩, List.mem_of_getElem? (i := 119) (by decide +kernel), List.mem_of_getElem? (i := 372) (by decide +kernel), List.mem_of_getElem? (i := 373) (by decide +kernel)⟩
theorem lw_p1 : lw_okq (⟨"WolfFires$Watcher", "plainSight", "(I)I"⟩, 5) := ⟨⟨by decide +kernel, by decide +kernel⟩, List.mem_of_getElem? (i := 155) (by decide +kernel), List.mem_of_getElem? (i := 405) (by decide +kernel), List.mem_of_getElem? (i := 406) (by decide +kernel)⟩
theorem lw_p2 : lw_okq (⟨"WolfFires$Camp", "meet", "(I)V"⟩, 17) := ⟨⟨by decide +kernel, by decide +kernel⟩, List.mem_of_getElem? (i := 119) (by decide +kernel), List.mem_of_getElem? (i := 510) (by decide +kernel), List.mem_of_getElem? (i := 511) (by decide +kernel)⟩
theorem lw_p3 : lw_okq (⟨"WolfFires$Camp", "tire", "()V"⟩, 17) := ⟨⟨by decide +kernel, by decide +kernel⟩, List.mem_of_getElem? (i := 119) (by decide +kernel), List.mem_of_getElem? (i := 515) (by decide +kernel), List.mem_of_getElem? (i := 516) (by decide +kernel)⟩
theorem lw_p4 : lw_okq (⟨"WolfFires$FireSearch", "putFires", "(LWolfFires$Ring;II)I"⟩, 4) := ⟨⟨by decide +kernel, by decide +kernel⟩, List.mem_of_getElem? (i := 28) (by decide +kernel), List.mem_of_getElem? (i := 573) (by decide +kernel), List.mem_of_getElem? (i := 574) (by decide +kernel)⟩
theorem lw_p5 : lw_okq (⟨"WolfFires$FireSearch", "leastLight", "(LWolfFires$Ring;I)I"⟩, 4) := ⟨⟨by decide +kernel, by decide +kernel⟩, List.mem_of_getElem? (i := 28) (by decide +kernel), List.mem_of_getElem? (i := 577) (by decide +kernel), List.mem_of_getElem? (i := 578) (by decide +kernel)⟩
theorem lw_p6 : lw_okq (⟨"WolfFires$Tape", "steps", "()V"⟩, 9) := ⟨⟨by decide +kernel, by decide +kernel⟩, List.mem_of_getElem? (i := 51) (by decide +kernel), List.mem_of_getElem? (i := 630) (by decide +kernel), List.mem_of_getElem? (i := 631) (by decide +kernel)⟩
theorem lw_p7 : lw_okq (⟨"WolfFires$Tape", "sortHere", "()I"⟩, 9) := ⟨⟨by decide +kernel, by decide +kernel⟩, List.mem_of_getElem? (i := 51) (by decide +kernel), List.mem_of_getElem? (i := 635) (by decide +kernel), List.mem_of_getElem? (i := 636) (by decide +kernel)⟩
theorem lw_p8 : lw_okq (⟨"WolfFires$Tape", "keyHere", "()I"⟩, 9) := ⟨⟨by decide +kernel, by decide +kernel⟩, List.mem_of_getElem? (i := 51) (by decide +kernel), List.mem_of_getElem? (i := 642) (by decide +kernel), List.mem_of_getElem? (i := 643) (by decide +kernel)⟩
theorem lw_p9 : lw_okq (⟨"WolfFires$Tape", "isHere", "(Ljava/lang/String;)Z"⟩, 9) := ⟨⟨by decide +kernel, by decide +kernel⟩, List.mem_of_getElem? (i := 51) (by decide +kernel), List.mem_of_getElem? (i := 647) (by decide +kernel), List.mem_of_getElem? (i := 648) (by decide +kernel)⟩
theorem lw_p10 : lw_okq (⟨"WolfFires$Tape", "takesPiece", "(LWolfFires$Law;)Z"⟩, 9) := ⟨⟨by decide +kernel, by decide +kernel⟩, List.mem_of_getElem? (i := 51) (by decide +kernel), List.mem_of_getElem? (i := 705) (by decide +kernel), List.mem_of_getElem? (i := 706) (by decide +kernel)⟩
theorem lw_p11 : lw_okq (⟨"WolfFires$Tape", "takesName", "(LWolfFires$Law;)Z"⟩, 9) := ⟨⟨by decide +kernel, by decide +kernel⟩, List.mem_of_getElem? (i := 51) (by decide +kernel), List.mem_of_getElem? (i := 709) (by decide +kernel), List.mem_of_getElem? (i := 710) (by decide +kernel)⟩
theorem lw_p12 : lw_okq (⟨"WolfFires$Law", "addCode", "(I)V"⟩, 5) := ⟨⟨by decide +kernel, by decide +kernel⟩, List.mem_of_getElem? (i := 94) (by decide +kernel), List.mem_of_getElem? (i := 778) (by decide +kernel), List.mem_of_getElem? (i := 779) (by decide +kernel)⟩
theorem lw_p13 : lw_okq (⟨"WolfFires$Tape", "endsPiece", "(LWolfFires$Law;)V"⟩, 9) := ⟨⟨by decide +kernel, by decide +kernel⟩, List.mem_of_getElem? (i := 51) (by decide +kernel), List.mem_of_getElem? (i := 782) (by decide +kernel), List.mem_of_getElem? (i := 783) (by decide +kernel)⟩
theorem lw_p14 : lw_okq (⟨"WolfFires$Tape", "takesDigits", "(LWolfFires$Law;)Z"⟩, 9) := ⟨⟨by decide +kernel, by decide +kernel⟩, List.mem_of_getElem? (i := 51) (by decide +kernel), List.mem_of_getElem? (i := 790) (by decide +kernel), List.mem_of_getElem? (i := 791) (by decide +kernel)⟩
theorem lw_p15 : lw_okq (⟨"WolfFires$Tape", "opens", "(I)Z"⟩, 9) := ⟨⟨by decide +kernel, by decide +kernel⟩, List.mem_of_getElem? (i := 51) (by decide +kernel), List.mem_of_getElem? (i := 798) (by decide +kernel), List.mem_of_getElem? (i := 799) (by decide +kernel)⟩
def lw_privs_1 : List (MethodName × Nat) := [(⟨"WolfFires$Camp", "byLaw", "(IIIII)I"⟩, 17), (⟨"WolfFires$Watcher", "plainSight", "(I)I"⟩, 5), (⟨"WolfFires$Camp", "meet", "(I)V"⟩, 17), (⟨"WolfFires$Camp", "tire", "()V"⟩, 17), (⟨"WolfFires$FireSearch", "putFires", "(LWolfFires$Ring;II)I"⟩, 4), (⟨"WolfFires$FireSearch", "leastLight", "(LWolfFires$Ring;I)I"⟩, 4), (⟨"WolfFires$Tape", "steps", "()V"⟩, 9), (⟨"WolfFires$Tape", "sortHere", "()I"⟩, 9), (⟨"WolfFires$Tape", "keyHere", "()I"⟩, 9), (⟨"WolfFires$Tape", "isHere", "(Ljava/lang/String;)Z"⟩, 9), (⟨"WolfFires$Tape", "takesPiece", "(LWolfFires$Law;)Z"⟩, 9), (⟨"WolfFires$Tape", "takesName", "(LWolfFires$Law;)Z"⟩, 9), (⟨"WolfFires$Law", "addCode", "(I)V"⟩, 5), (⟨"WolfFires$Tape", "endsPiece", "(LWolfFires$Law;)V"⟩, 9), (⟨"WolfFires$Tape", "takesDigits", "(LWolfFires$Law;)Z"⟩, 9), (⟨"WolfFires$Tape", "opens", "(I)Z"⟩, 9)]
theorem lw_r1 : ∀ q ∈ lw_privs_1, lw_okq q := List.forall_mem_cons.mpr ⟨lw_p0, List.forall_mem_cons.mpr ⟨lw_p1, List.forall_mem_cons.mpr ⟨lw_p2, List.forall_mem_cons.mpr ⟨lw_p3, List.forall_mem_cons.mpr ⟨lw_p4, List.forall_mem_cons.mpr ⟨lw_p5, List.forall_mem_cons.mpr ⟨lw_p6, List.forall_mem_cons.mpr ⟨lw_p7, List.forall_mem_cons.mpr ⟨lw_p8, List.forall_mem_cons.mpr ⟨lw_p9, List.forall_mem_cons.mpr ⟨lw_p10, List.forall_mem_cons.mpr ⟨lw_p11, List.forall_mem_cons.mpr ⟨lw_p12, List.forall_mem_cons.mpr ⟨lw_p13, List.forall_mem_cons.mpr ⟨lw_p14, List.forall_mem_cons.mpr ⟨lw_p15, fun _ h => absurd h List.not_mem_nil⟩⟩⟩⟩⟩⟩⟩⟩⟩⟩⟩⟩⟩⟩⟩⟩
theorem lw_p16 : lw_okq (⟨"WolfFires$Tape", "pushes", "(I)V"⟩, 9) := ⟨⟨by decide +kernel, by decide +kernel⟩, List.mem_of_getElem? (i := 51) (by decide +kernel), List.mem_of_getElem? (i := 802) (by decide +kernel), List.mem_of_getElem? (i := 803) (by decide +kernel)⟩
theorem lw_p17 : lw_okq (⟨"WolfFires$Tape", "takesSign", "(LWolfFires$Law;)Z"⟩, 9) := ⟨⟨by decide +kernel, by decide +kernel⟩, List.mem_of_getElem? (i := 51) (by decide +kernel), List.mem_of_getElem? (i := 806) (by decide +kernel), List.mem_of_getElem? (i := 807) (by decide +kernel)⟩
theorem lw_p18 : lw_okq (⟨"WolfFires$Tape", "takesClose", "(LWolfFires$Law;)Z"⟩, 9) := ⟨⟨by decide +kernel, by decide +kernel⟩, List.mem_of_getElem? (i := 51) (by decide +kernel), List.mem_of_getElem? (i := 810) (by decide +kernel), List.mem_of_getElem? (i := 811) (by decide +kernel)⟩
theorem lw_p19 : lw_okq (⟨"WolfFires$Tape", "closesDownTo", "(ILWolfFires$Law;)V"⟩, 9) := ⟨⟨by decide +kernel, by decide +kernel⟩, List.mem_of_getElem? (i := 51) (by decide +kernel), List.mem_of_getElem? (i := 814) (by decide +kernel), List.mem_of_getElem? (i := 815) (by decide +kernel)⟩
theorem lw_p20 : lw_okq (⟨"WolfFiresModel", "isWagon", "(I)Z"⟩, 33) := ⟨⟨by decide +kernel, by decide +kernel⟩, List.mem_of_getElem? (i := 926) (by decide +kernel), List.mem_of_getElem? (i := 1046) (by decide +kernel), List.mem_of_getElem? (i := 1047) (by decide +kernel)⟩
theorem lw_p21 : lw_okq (⟨"WolfFiresModel", "wagonsOwn", "(II)I"⟩, 33) := ⟨⟨by decide +kernel, by decide +kernel⟩, List.mem_of_getElem? (i := 926) (by decide +kernel), List.mem_of_getElem? (i := 1050) (by decide +kernel), List.mem_of_getElem? (i := 1051) (by decide +kernel)⟩
theorem lw_p22 : lw_okq (⟨"WolfFiresModel", "light", "(I)I"⟩, 33) := ⟨⟨by decide +kernel, by decide +kernel⟩, List.mem_of_getElem? (i := 926) (by decide +kernel), List.mem_of_getElem? (i := 1054) (by decide +kernel), List.mem_of_getElem? (i := 1055) (by decide +kernel)⟩
theorem lw_p23 : lw_okq (⟨"WolfFiresModel", "nextFires", "(I)I"⟩, 33) := ⟨⟨by decide +kernel, by decide +kernel⟩, List.mem_of_getElem? (i := 926) (by decide +kernel), List.mem_of_getElem? (i := 1058) (by decide +kernel), List.mem_of_getElem? (i := 1059) (by decide +kernel)⟩
theorem lw_p24 : lw_okq (⟨"WolfFiresModel", "counts", "(I)I"⟩, 33) := ⟨⟨by decide +kernel, by decide +kernel⟩, List.mem_of_getElem? (i := 926) (by decide +kernel), List.mem_of_getElem? (i := 1062) (by decide +kernel), List.mem_of_getElem? (i := 1063) (by decide +kernel)⟩
theorem lw_p25 : lw_okq (⟨"WolfFiresModel", "textAt", "(I)I"⟩, 33) := ⟨⟨by decide +kernel, by decide +kernel⟩, List.mem_of_getElem? (i := 926) (by decide +kernel), List.mem_of_getElem? (i := 1066) (by decide +kernel), List.mem_of_getElem? (i := 1067) (by decide +kernel)⟩
theorem lw_p26 : lw_okq (⟨"WolfFiresModel", "worked", "(I)I"⟩, 33) := ⟨⟨by decide +kernel, by decide +kernel⟩, List.mem_of_getElem? (i := 926) (by decide +kernel), List.mem_of_getElem? (i := 1070) (by decide +kernel), List.mem_of_getElem? (i := 1071) (by decide +kernel)⟩
theorem lw_p27 : lw_okq (⟨"WolfFiresModel", "guard", "(I)I"⟩, 33) := ⟨⟨by decide +kernel, by decide +kernel⟩, List.mem_of_getElem? (i := 926) (by decide +kernel), List.mem_of_getElem? (i := 1080) (by decide +kernel), List.mem_of_getElem? (i := 1081) (by decide +kernel)⟩
theorem lw_p28 : lw_okq (⟨"WolfFiresModel", "of", "(II)I"⟩, 33) := ⟨⟨by decide +kernel, by decide +kernel⟩, List.mem_of_getElem? (i := 926) (by decide +kernel), List.mem_of_getElem? (i := 1084) (by decide +kernel), List.mem_of_getElem? (i := 1085) (by decide +kernel)⟩
theorem lw_p29 : lw_okq (⟨"WolfFiresModel", "sees", "(I)I"⟩, 33) := ⟨⟨by decide +kernel, by decide +kernel⟩, List.mem_of_getElem? (i := 926) (by decide +kernel), List.mem_of_getElem? (i := 1088) (by decide +kernel), List.mem_of_getElem? (i := 1089) (by decide +kernel)⟩
theorem lw_p30 : lw_okq (⟨"WolfFiresModel", "fears", "(I)I"⟩, 33) := ⟨⟨by decide +kernel, by decide +kernel⟩, List.mem_of_getElem? (i := 926) (by decide +kernel), List.mem_of_getElem? (i := 1092) (by decide +kernel), List.mem_of_getElem? (i := 1093) (by decide +kernel)⟩
theorem lw_p31 : lw_okq (⟨"WolfFiresModel", "becomes", "(II)I"⟩, 33) := ⟨⟨by decide +kernel, by decide +kernel⟩, List.mem_of_getElem? (i := 926) (by decide +kernel), List.mem_of_getElem? (i := 1102) (by decide +kernel), List.mem_of_getElem? (i := 1103) (by decide +kernel)⟩
def lw_privs_2 : List (MethodName × Nat) := [(⟨"WolfFires$Tape", "pushes", "(I)V"⟩, 9), (⟨"WolfFires$Tape", "takesSign", "(LWolfFires$Law;)Z"⟩, 9), (⟨"WolfFires$Tape", "takesClose", "(LWolfFires$Law;)Z"⟩, 9), (⟨"WolfFires$Tape", "closesDownTo", "(ILWolfFires$Law;)V"⟩, 9), (⟨"WolfFiresModel", "isWagon", "(I)Z"⟩, 33), (⟨"WolfFiresModel", "wagonsOwn", "(II)I"⟩, 33), (⟨"WolfFiresModel", "light", "(I)I"⟩, 33), (⟨"WolfFiresModel", "nextFires", "(I)I"⟩, 33), (⟨"WolfFiresModel", "counts", "(I)I"⟩, 33), (⟨"WolfFiresModel", "textAt", "(I)I"⟩, 33), (⟨"WolfFiresModel", "worked", "(I)I"⟩, 33), (⟨"WolfFiresModel", "guard", "(I)I"⟩, 33), (⟨"WolfFiresModel", "of", "(II)I"⟩, 33), (⟨"WolfFiresModel", "sees", "(I)I"⟩, 33), (⟨"WolfFiresModel", "fears", "(I)I"⟩, 33), (⟨"WolfFiresModel", "becomes", "(II)I"⟩, 33)]
theorem lw_r2 : ∀ q ∈ lw_privs_2, lw_okq q := List.forall_mem_cons.mpr ⟨lw_p16, List.forall_mem_cons.mpr ⟨lw_p17, List.forall_mem_cons.mpr ⟨lw_p18, List.forall_mem_cons.mpr ⟨lw_p19, List.forall_mem_cons.mpr ⟨lw_p20, List.forall_mem_cons.mpr ⟨lw_p21, List.forall_mem_cons.mpr ⟨lw_p22, List.forall_mem_cons.mpr ⟨lw_p23, List.forall_mem_cons.mpr ⟨lw_p24, List.forall_mem_cons.mpr ⟨lw_p25, List.forall_mem_cons.mpr ⟨lw_p26, List.forall_mem_cons.mpr ⟨lw_p27, List.forall_mem_cons.mpr ⟨lw_p28, List.forall_mem_cons.mpr ⟨lw_p29, List.forall_mem_cons.mpr ⟨lw_p30, List.forall_mem_cons.mpr ⟨lw_p31, fun _ h => absurd h List.not_mem_nil⟩⟩⟩⟩⟩⟩⟩⟩⟩⟩⟩⟩⟩⟩⟩⟩
theorem lw_p32 : lw_okq (⟨"WolfFiresModel", "comes", "(III)V"⟩, 33) := ⟨⟨by decide +kernel, by decide +kernel⟩, List.mem_of_getElem? (i := 926) (by decide +kernel), List.mem_of_getElem? (i := 1124) (by decide +kernel), List.mem_of_getElem? (i := 1125) (by decide +kernel)⟩
theorem lw_p33 : lw_okq (⟨"WolfFiresModel", "isWatcher", "(I)Z"⟩, 33) := ⟨⟨by decide +kernel, by decide +kernel⟩, List.mem_of_getElem? (i := 926) (by decide +kernel), List.mem_of_getElem? (i := 1132) (by decide +kernel), List.mem_of_getElem? (i := 1133) (by decide +kernel)⟩
theorem lw_p34 : lw_okq (⟨"WolfFiresModel", "worth", "(I)I"⟩, 33) := ⟨⟨by decide +kernel, by decide +kernel⟩, List.mem_of_getElem? (i := 926) (by decide +kernel), List.mem_of_getElem? (i := 1137) (by decide +kernel), List.mem_of_getElem? (i := 1138) (by decide +kernel)⟩
theorem lw_p35 : lw_okq (⟨"WolfFiresModel", "drawn", "()I"⟩, 33) := ⟨⟨by decide +kernel, by decide +kernel⟩, List.mem_of_getElem? (i := 926) (by decide +kernel), List.mem_of_getElem? (i := 1166) (by decide +kernel), List.mem_of_getElem? (i := 1167) (by decide +kernel)⟩
theorem lw_p36 : lw_okq (⟨"WolfFiresModel", "goesOn", "()V"⟩, 33) := ⟨⟨by decide +kernel, by decide +kernel⟩, List.mem_of_getElem? (i := 926) (by decide +kernel), List.mem_of_getElem? (i := 1180) (by decide +kernel), List.mem_of_getElem? (i := 1181) (by decide +kernel)⟩
theorem lw_p37 : lw_okq (⟨"WolfFiresModel", "burns", "()V"⟩, 33) := ⟨⟨by decide +kernel, by decide +kernel⟩, List.mem_of_getElem? (i := 926) (by decide +kernel), List.mem_of_getElem? (i := 1184) (by decide +kernel), List.mem_of_getElem? (i := 1185) (by decide +kernel)⟩
theorem lw_p38 : lw_okq (⟨"WolfFiresModel", "comeAndTake", "()V"⟩, 33) := ⟨⟨by decide +kernel, by decide +kernel⟩, List.mem_of_getElem? (i := 926) (by decide +kernel), List.mem_of_getElem? (i := 1188) (by decide +kernel), List.mem_of_getElem? (i := 1189) (by decide +kernel)⟩
theorem lw_p39 : lw_okq (⟨"WolfFiresModel", "comeTo", "()I"⟩, 33) := ⟨⟨by decide +kernel, by decide +kernel⟩, List.mem_of_getElem? (i := 926) (by decide +kernel), List.mem_of_getElem? (i := 1192) (by decide +kernel), List.mem_of_getElem? (i := 1193) (by decide +kernel)⟩
theorem lw_p40 : lw_okq (⟨"WolfFiresModel", "tires", "(I)I"⟩, 33) := ⟨⟨by decide +kernel, by decide +kernel⟩, List.mem_of_getElem? (i := 926) (by decide +kernel), List.mem_of_getElem? (i := 1196) (by decide +kernel), List.mem_of_getElem? (i := 1197) (by decide +kernel)⟩
theorem lw_p41 : lw_okq (⟨"WolfFiresModel", "laysBy", "()V"⟩, 33) := ⟨⟨by decide +kernel, by decide +kernel⟩, List.mem_of_getElem? (i := 926) (by decide +kernel), List.mem_of_getElem? (i := 1213) (by decide +kernel), List.mem_of_getElem? (i := 1214) (by decide +kernel)⟩
theorem lw_p42 : lw_okq (⟨"WolfFiresModel", "goesOnMany", "(I)V"⟩, 33) := ⟨⟨by decide +kernel, by decide +kernel⟩, List.mem_of_getElem? (i := 926) (by decide +kernel), List.mem_of_getElem? (i := 1217) (by decide +kernel), List.mem_of_getElem? (i := 1218) (by decide +kernel)⟩
theorem lw_p43 : lw_okq (⟨"WolfFiresModel", "allFoals", "()I"⟩, 33) := ⟨⟨by decide +kernel, by decide +kernel⟩, List.mem_of_getElem? (i := 926) (by decide +kernel), List.mem_of_getElem? (i := 1221) (by decide +kernel), List.mem_of_getElem? (i := 1222) (by decide +kernel)⟩
theorem lw_p44 : lw_okq (⟨"WolfFiresModel", "laysBack", "()V"⟩, 33) := ⟨⟨by decide +kernel, by decide +kernel⟩, List.mem_of_getElem? (i := 926) (by decide +kernel), List.mem_of_getElem? (i := 1225) (by decide +kernel), List.mem_of_getElem? (i := 1226) (by decide +kernel)⟩
theorem lw_p45 : lw_okq (⟨"WolfFiresModel", "laysFires", "(I)I"⟩, 33) := ⟨⟨by decide +kernel, by decide +kernel⟩, List.mem_of_getElem? (i := 926) (by decide +kernel), List.mem_of_getElem? (i := 1247) (by decide +kernel), List.mem_of_getElem? (i := 1248) (by decide +kernel)⟩
theorem lw_p46 : lw_okq (⟨"WolfFiresModel", "leastLight", "()I"⟩, 33) := ⟨⟨by decide +kernel, by decide +kernel⟩, List.mem_of_getElem? (i := 926) (by decide +kernel), List.mem_of_getElem? (i := 1251) (by decide +kernel), List.mem_of_getElem? (i := 1252) (by decide +kernel)⟩
theorem lw_p47 : lw_okq (⟨"WolfFiresModel", "parse", "()I"⟩, 33) := ⟨⟨by decide +kernel, by decide +kernel⟩, List.mem_of_getElem? (i := 926) (by decide +kernel), List.mem_of_getElem? (i := 1276) (by decide +kernel), List.mem_of_getElem? (i := 1277) (by decide +kernel)⟩
def lw_privs_3 : List (MethodName × Nat) := [(⟨"WolfFiresModel", "comes", "(III)V"⟩, 33), (⟨"WolfFiresModel", "isWatcher", "(I)Z"⟩, 33), (⟨"WolfFiresModel", "worth", "(I)I"⟩, 33), (⟨"WolfFiresModel", "drawn", "()I"⟩, 33), (⟨"WolfFiresModel", "goesOn", "()V"⟩, 33), (⟨"WolfFiresModel", "burns", "()V"⟩, 33), (⟨"WolfFiresModel", "comeAndTake", "()V"⟩, 33), (⟨"WolfFiresModel", "comeTo", "()I"⟩, 33), (⟨"WolfFiresModel", "tires", "(I)I"⟩, 33), (⟨"WolfFiresModel", "laysBy", "()V"⟩, 33), (⟨"WolfFiresModel", "goesOnMany", "(I)V"⟩, 33), (⟨"WolfFiresModel", "allFoals", "()I"⟩, 33), (⟨"WolfFiresModel", "laysBack", "()V"⟩, 33), (⟨"WolfFiresModel", "laysFires", "(I)I"⟩, 33), (⟨"WolfFiresModel", "leastLight", "()I"⟩, 33), (⟨"WolfFiresModel", "parse", "()I"⟩, 33)]
theorem lw_r3 : ∀ q ∈ lw_privs_3, lw_okq q := List.forall_mem_cons.mpr ⟨lw_p32, List.forall_mem_cons.mpr ⟨lw_p33, List.forall_mem_cons.mpr ⟨lw_p34, List.forall_mem_cons.mpr ⟨lw_p35, List.forall_mem_cons.mpr ⟨lw_p36, List.forall_mem_cons.mpr ⟨lw_p37, List.forall_mem_cons.mpr ⟨lw_p38, List.forall_mem_cons.mpr ⟨lw_p39, List.forall_mem_cons.mpr ⟨lw_p40, List.forall_mem_cons.mpr ⟨lw_p41, List.forall_mem_cons.mpr ⟨lw_p42, List.forall_mem_cons.mpr ⟨lw_p43, List.forall_mem_cons.mpr ⟨lw_p44, List.forall_mem_cons.mpr ⟨lw_p45, List.forall_mem_cons.mpr ⟨lw_p46, List.forall_mem_cons.mpr ⟨lw_p47, fun _ h => absurd h List.not_mem_nil⟩⟩⟩⟩⟩⟩⟩⟩⟩⟩⟩⟩⟩⟩⟩⟩
theorem lw_p48 : lw_okq (⟨"WolfFiresModel", "nextToken", "()V"⟩, 33) := ⟨⟨by decide +kernel, by decide +kernel⟩, List.mem_of_getElem? (i := 926) (by decide +kernel), List.mem_of_getElem? (i := 1280) (by decide +kernel), List.mem_of_getElem? (i := 1281) (by decide +kernel)⟩
theorem lw_p49 : lw_okq (⟨"WolfFiresModel", "isLetter", "(I)Z"⟩, 33) := ⟨⟨by decide +kernel, by decide +kernel⟩, List.mem_of_getElem? (i := 926) (by decide +kernel), List.mem_of_getElem? (i := 1284) (by decide +kernel), List.mem_of_getElem? (i := 1285) (by decide +kernel)⟩
theorem lw_p50 : lw_okq (⟨"WolfFiresModel", "isDigit", "(I)Z"⟩, 33) := ⟨⟨by decide +kernel, by decide +kernel⟩, List.mem_of_getElem? (i := 926) (by decide +kernel), List.mem_of_getElem? (i := 1290) (by decide +kernel), List.mem_of_getElem? (i := 1291) (by decide +kernel)⟩
theorem lw_p51 : lw_okq (⟨"WolfFiresModel", "key", "()I"⟩, 33) := ⟨⟨by decide +kernel, by decide +kernel⟩, List.mem_of_getElem? (i := 926) (by decide +kernel), List.mem_of_getElem? (i := 1296) (by decide +kernel), List.mem_of_getElem? (i := 1297) (by decide +kernel)⟩
theorem lw_p52 : lw_okq (⟨"WolfFiresModel", "isLong", "(IIIIII)Z"⟩, 33) := ⟨⟨by decide +kernel, by decide +kernel⟩, List.mem_of_getElem? (i := 926) (by decide +kernel), List.mem_of_getElem? (i := 1300) (by decide +kernel), List.mem_of_getElem? (i := 1301) (by decide +kernel)⟩
theorem lw_p53 : lw_okq (⟨"WolfFiresModel", "isWordAt", "(IIII)Z"⟩, 33) := ⟨⟨by decide +kernel, by decide +kernel⟩, List.mem_of_getElem? (i := 926) (by decide +kernel), List.mem_of_getElem? (i := 1304) (by decide +kernel), List.mem_of_getElem? (i := 1305) (by decide +kernel)⟩
theorem lw_p54 : lw_okq (⟨"WolfFiresModel", "either", "(I)Z"⟩, 33) := ⟨⟨by decide +kernel, by decide +kernel⟩, List.mem_of_getElem? (i := 926) (by decide +kernel), List.mem_of_getElem? (i := 1308) (by decide +kernel), List.mem_of_getElem? (i := 1309) (by decide +kernel)⟩
theorem lw_p55 : lw_okq (⟨"WolfFiresModel", "both", "(I)Z"⟩, 33) := ⟨⟨by decide +kernel, by decide +kernel⟩, List.mem_of_getElem? (i := 926) (by decide +kernel), List.mem_of_getElem? (i := 1312) (by decide +kernel), List.mem_of_getElem? (i := 1313) (by decide +kernel)⟩
theorem lw_p56 : lw_okq (⟨"WolfFiresModel", "test", "(I)Z"⟩, 33) := ⟨⟨by decide +kernel, by decide +kernel⟩, List.mem_of_getElem? (i := 926) (by decide +kernel), List.mem_of_getElem? (i := 1316) (by decide +kernel), List.mem_of_getElem? (i := 1317) (by decide +kernel)⟩
theorem lw_p57 : lw_okq (⟨"WolfFiresModel", "sum", "(I)Z"⟩, 33) := ⟨⟨by decide +kernel, by decide +kernel⟩, List.mem_of_getElem? (i := 926) (by decide +kernel), List.mem_of_getElem? (i := 1320) (by decide +kernel), List.mem_of_getElem? (i := 1321) (by decide +kernel)⟩
theorem lw_p58 : lw_okq (⟨"WolfFiresModel", "term", "(I)Z"⟩, 33) := ⟨⟨by decide +kernel, by decide +kernel⟩, List.mem_of_getElem? (i := 926) (by decide +kernel), List.mem_of_getElem? (i := 1324) (by decide +kernel), List.mem_of_getElem? (i := 1325) (by decide +kernel)⟩
theorem lw_p59 : lw_okq (⟨"WolfFiresModel", "part0", "(I)Z"⟩, 33) := ⟨⟨by decide +kernel, by decide +kernel⟩, List.mem_of_getElem? (i := 926) (by decide +kernel), List.mem_of_getElem? (i := 1328) (by decide +kernel), List.mem_of_getElem? (i := 1329) (by decide +kernel)⟩
theorem lw_p60 : lw_okq (⟨"WolfFiresModel", "step", "(II)V"⟩, 33) := ⟨⟨by decide +kernel, by decide +kernel⟩, List.mem_of_getElem? (i := 926) (by decide +kernel), List.mem_of_getElem? (i := 1332) (by decide +kernel), List.mem_of_getElem? (i := 1333) (by decide +kernel)⟩
theorem lw_p61 : lw_okq (⟨"WolfFiresModel", "isSign", "(I)Z"⟩, 33) := ⟨⟨by decide +kernel, by decide +kernel⟩, List.mem_of_getElem? (i := 926) (by decide +kernel), List.mem_of_getElem? (i := 1339) (by decide +kernel), List.mem_of_getElem? (i := 1340) (by decide +kernel)⟩
theorem lw_p62 : lw_okq (⟨"WolfFiresModel", "isText", "(I)Z"⟩, 33) := ⟨⟨by decide +kernel, by decide +kernel⟩, List.mem_of_getElem? (i := 926) (by decide +kernel), List.mem_of_getElem? (i := 1347) (by decide +kernel), List.mem_of_getElem? (i := 1348) (by decide +kernel)⟩
theorem lw_p63 : lw_okq (⟨"WolfFiresModel", "setAside", "([I[I)V"⟩, 33) := ⟨⟨by decide +kernel, by decide +kernel⟩, List.mem_of_getElem? (i := 926) (by decide +kernel), List.mem_of_getElem? (i := 1418) (by decide +kernel), List.mem_of_getElem? (i := 1419) (by decide +kernel)⟩
def lw_privs_4 : List (MethodName × Nat) := [(⟨"WolfFiresModel", "nextToken", "()V"⟩, 33), (⟨"WolfFiresModel", "isLetter", "(I)Z"⟩, 33), (⟨"WolfFiresModel", "isDigit", "(I)Z"⟩, 33), (⟨"WolfFiresModel", "key", "()I"⟩, 33), (⟨"WolfFiresModel", "isLong", "(IIIIII)Z"⟩, 33), (⟨"WolfFiresModel", "isWordAt", "(IIII)Z"⟩, 33), (⟨"WolfFiresModel", "either", "(I)Z"⟩, 33), (⟨"WolfFiresModel", "both", "(I)Z"⟩, 33), (⟨"WolfFiresModel", "test", "(I)Z"⟩, 33), (⟨"WolfFiresModel", "sum", "(I)Z"⟩, 33), (⟨"WolfFiresModel", "term", "(I)Z"⟩, 33), (⟨"WolfFiresModel", "part0", "(I)Z"⟩, 33), (⟨"WolfFiresModel", "step", "(II)V"⟩, 33), (⟨"WolfFiresModel", "isSign", "(I)Z"⟩, 33), (⟨"WolfFiresModel", "isText", "(I)Z"⟩, 33), (⟨"WolfFiresModel", "setAside", "([I[I)V"⟩, 33)]
theorem lw_r4 : ∀ q ∈ lw_privs_4, lw_okq q := List.forall_mem_cons.mpr ⟨lw_p48, List.forall_mem_cons.mpr ⟨lw_p49, List.forall_mem_cons.mpr ⟨lw_p50, List.forall_mem_cons.mpr ⟨lw_p51, List.forall_mem_cons.mpr ⟨lw_p52, List.forall_mem_cons.mpr ⟨lw_p53, List.forall_mem_cons.mpr ⟨lw_p54, List.forall_mem_cons.mpr ⟨lw_p55, List.forall_mem_cons.mpr ⟨lw_p56, List.forall_mem_cons.mpr ⟨lw_p57, List.forall_mem_cons.mpr ⟨lw_p58, List.forall_mem_cons.mpr ⟨lw_p59, List.forall_mem_cons.mpr ⟨lw_p60, List.forall_mem_cons.mpr ⟨lw_p61, List.forall_mem_cons.mpr ⟨lw_p62, List.forall_mem_cons.mpr ⟨lw_p63, fun _ h => absurd h List.not_mem_nil⟩⟩⟩⟩⟩⟩⟩⟩⟩⟩⟩⟩⟩⟩⟩⟩
theorem lw_p64 : lw_okq (⟨"WolfFiresModel", "awake", "()I"⟩, 33) := ⟨⟨by decide +kernel, by decide +kernel⟩, List.mem_of_getElem? (i := 926) (by decide +kernel), List.mem_of_getElem? (i := 1434) (by decide +kernel), List.mem_of_getElem? (i := 1435) (by decide +kernel)⟩
def lw_privs_5 : List (MethodName × Nat) := [(⟨"WolfFiresModel", "awake", "()I"⟩, 33)]
theorem lw_r5 : ∀ q ∈ lw_privs_5, lw_okq q := List.forall_mem_cons.mpr ⟨lw_p64, fun _ h => absurd h List.not_mem_nil⟩
def lw_privs : List (MethodName × Nat) := lw_privs_1 ++ (lw_privs_2 ++ (lw_privs_3 ++ (lw_privs_4 ++ (lw_privs_5))))
def lw_tbl : List Cond := k2_sels lw_privs ++ tables_1
theorem lw_privs_ok : ∀ q ∈ lw_privs, lw_okq q := by
  show ∀ q ∈ lw_privs_1 ++ (lw_privs_2 ++ (lw_privs_3 ++ (lw_privs_4 ++ (lw_privs_5)))), lw_okq q
  exact List.forall_mem_append.mpr ⟨lw_r1, List.forall_mem_append.mpr ⟨lw_r2, List.forall_mem_append.mpr ⟨lw_r3, List.forall_mem_append.mpr ⟨lw_r4, lw_r5⟩⟩⟩⟩
end
section
def RX0 : String := "WolfFires$Camp"
def TX0 : u_T := fun k => match k with
  | 0 => ("WolfFires$Camp", "ring", "LWolfFires$Ring;", true)
  | 1 => ("WolfFires$Camp", "watchers", "[LWolfFires$Watcher;", true)
  | 2 => ("WolfFires$Camp", "watchersMany", "I", false)
  | 3 => ("WolfFires$Camp", "wood", "I", false)
  | 4 => ("WolfFires$Camp", "wolves", "I", false)
  | 5 => ("WolfFires$Camp", "hunger", "I", false)
  | 6 => ("WolfFires$Camp", "hour", "I", false)
  | 7 => ("WolfFires$Camp", "slept", "I", false)
  | 8 => ("WolfFires$Camp", "lost", "I", false)
  | 9 => ("WolfFires$Camp", "burnt", "I", false)
  | 10 => ("WolfFires$Camp", "z", "I", false)
  | 11 => ("WolfFires$Camp", "laws", "[LWolfFires$Law;", true)
  | 12 => ("WolfFires$Camp", "texts", "I", false)
  | 13 => ("WolfFires$Camp", "textFor", "[I", true)
  | 14 => ("WolfFires$Camp", "light", "[I", true)
  | 15 => ("WolfFires$Camp", "guard", "[I", true)
  | _ => ("WolfFires$Camp", "came", "I", false)
def tyX0 : Nat → FieldType := fun k => match k with
  | 0 => .object "WolfFires$Ring"
  | 1 => .array (.object "WolfFires$Watcher")
  | 2 => .int
  | 3 => .int
  | 4 => .int
  | 5 => .int
  | 6 => .int
  | 7 => .int
  | 8 => .int
  | 9 => .int
  | 10 => .int
  | 11 => .array (.object "WolfFires$Law")
  | 12 => .int
  | 13 => .array .int
  | 14 => .array .int
  | 15 => .array .int
  | _ => .int
abbrev wsX00 : List Cond := u_ws RX0 TX0 17
theorem nmX0 : ∀ a, a < 17 → ∀ b, b < 17 → a ≠ b → (TX0 a).2.1 ≠ (TX0 b).2.1 := by decide +kernel
theorem tyX0_ok : ∀ k, k < 17 → parseFieldDescriptor (TX0 k).2.2.1 = some (tyX0 k) := by decide +kernel
abbrev cX0_init : ByteArray := prog_2_method_1_code
def yX0_init : MethodName := ⟨RX0, "<init>", "([LWolfFires$Law;)V"⟩
abbrev cX0_takeFrom : ByteArray := prog_2_method_2_code
def yX0_takeFrom : MethodName := ⟨RX0, "takeFrom", "(LWolfFires$Camp;)V"⟩
abbrev cX0_hasWatcher : ByteArray := prog_2_method_3_code
def yX0_hasWatcher : MethodName := ⟨RX0, "hasWatcher", "(I)Z"⟩
abbrev cX0_hires : ByteArray := prog_2_method_4_code
def yX0_hires : MethodName := ⟨RX0, "hires", "(III)I"⟩
abbrev cX0_draw : ByteArray := prog_2_method_5_code
def yX0_draw : MethodName := ⟨RX0, "draw", "()I"⟩
abbrev cX0_onMany : ByteArray := prog_2_method_6_code
def yX0_onMany : MethodName := ⟨RX0, "onMany", "()I"⟩
abbrev cX0_wakesOnly : ByteArray := prog_2_method_7_code
def yX0_wakesOnly : MethodName := ⟨RX0, "wakesOnly", "(I)V"⟩
abbrev cX0_byLaw : ByteArray := prog_2_method_8_code
def yX0_byLaw : MethodName := ⟨RX0, "byLaw", "(IIIII)I"⟩
abbrev cX0_lightBy : ByteArray := prog_2_method_9_code
def yX0_lightBy : MethodName := ⟨RX0, "lightBy", "(II)I"⟩
abbrev cX0_measure : ByteArray := prog_2_method_10_code
def yX0_measure : MethodName := ⟨RX0, "measure", "()V"⟩
abbrev cX0_sightOf : ByteArray := prog_2_method_11_code
def yX0_sightOf : MethodName := ⟨RX0, "sightOf", "(LWolfFires$Watcher;)I"⟩
abbrev cX0_fearsOf : ByteArray := prog_2_method_12_code
def yX0_fearsOf : MethodName := ⟨RX0, "fearsOf", "(I)I"⟩
abbrev cX0_leastFeared : ByteArray := prog_2_method_13_code
def yX0_leastFeared : MethodName := ⟨RX0, "leastFeared", "()I"⟩
abbrev cX0_cameTold : ByteArray := prog_2_method_14_code
def yX0_cameTold : MethodName := ⟨RX0, "cameTold", "()I"⟩
abbrev cX0_pass : ByteArray := prog_2_method_15_code
def yX0_pass : MethodName := ⟨RX0, "pass", "(I)V"⟩
abbrev cX0_burn : ByteArray := prog_2_method_16_code
def yX0_burn : MethodName := ⟨RX0, "burn", "()Z"⟩
abbrev cX0_meet : ByteArray := prog_2_method_17_code
def yX0_meet : MethodName := ⟨RX0, "meet", "(I)V"⟩
abbrev cX0_tire : ByteArray := prog_2_method_18_code
def yX0_tire : MethodName := ⟨RX0, "tire", "()V"⟩
def RX1 : String := "WolfFires$FireSearch"
def TX1 : u_T := fun k => match k with
  | 0 => ("WolfFires$FireSearch", "lights", "[I", true)
  | 1 => ("WolfFires$FireSearch", "light", "I", false)
  | 2 => ("WolfFires$FireSearch", "together", "I", false)
  | _ => ("WolfFires$FireSearch", "digits", "I", false)
def tyX1 : Nat → FieldType := fun k => match k with
  | 0 => .array .int
  | 1 => .int
  | 2 => .int
  | _ => .int
abbrev wsX10 : List Cond := u_ws RX1 TX1 4
theorem nmX1 : ∀ a, a < 4 → ∀ b, b < 4 → a ≠ b → (TX1 a).2.1 ≠ (TX1 b).2.1 := by decide +kernel
theorem tyX1_ok : ∀ k, k < 4 → parseFieldDescriptor (TX1 k).2.2.1 = some (tyX1 k) := by decide +kernel
abbrev cX1_init : ByteArray := prog_3_method_1_code
def yX1_init : MethodName := ⟨RX1, "<init>", "()V"⟩
abbrev cX1_runOn : ByteArray := prog_3_method_2_code
def yX1_runOn : MethodName := ⟨RX1, "runOn", "(LWolfFires$Camp;I)V"⟩
abbrev cX1_putFires : ByteArray := prog_3_method_3_code
def yX1_putFires : MethodName := ⟨RX1, "putFires", "(LWolfFires$Ring;II)I"⟩
abbrev cX1_leastLight : ByteArray := prog_3_method_4_code
def yX1_leastLight : MethodName := ⟨RX1, "leastLight", "(LWolfFires$Ring;I)I"⟩
def RX2 : String := "WolfFires$Law"
def TX2 : u_T := fun k => match k with
  | 0 => ("WolfFires$Law", "key", "I", false)
  | 1 => ("WolfFires$Law", "leaves", "I", false)
  | 2 => ("WolfFires$Law", "codes", "[I", true)
  | 3 => ("WolfFires$Law", "many", "I", false)
  | _ => ("WolfFires$Law", "stack", "[I", true)
def tyX2 : Nat → FieldType := fun k => match k with
  | 0 => .int
  | 1 => .int
  | 2 => .array .int
  | 3 => .int
  | _ => .array .int
abbrev wsX20 : List Cond := u_ws RX2 TX2 5
theorem nmX2 : ∀ a, a < 5 → ∀ b, b < 5 → a ≠ b → (TX2 a).2.1 ≠ (TX2 b).2.1 := by decide +kernel
theorem tyX2_ok : ∀ k, k < 5 → parseFieldDescriptor (TX2 k).2.2.1 = some (tyX2 k) := by decide +kernel
abbrev cX2_init : ByteArray := prog_4_method_1_code
def yX2_init : MethodName := ⟨RX2, "<init>", "([I)V"⟩
abbrev cX2_begins : ByteArray := prog_4_method_2_code
def yX2_begins : MethodName := ⟨RX2, "begins", "(I)V"⟩
abbrev cX2_addNumber : ByteArray := prog_4_method_3_code
def yX2_addNumber : MethodName := ⟨RX2, "addNumber", "(I)V"⟩
abbrev cX2_addName : ByteArray := prog_4_method_4_code
def yX2_addName : MethodName := ⟨RX2, "addName", "(I)V"⟩
abbrev cX2_addSign : ByteArray := prog_4_method_5_code
def yX2_addSign : MethodName := ⟨RX2, "addSign", "(I)V"⟩
abbrev cX2_addCode : ByteArray := prog_4_method_6_code
def yX2_addCode : MethodName := ⟨RX2, "addCode", "(I)V"⟩
abbrev cX2_work : ByteArray := prog_4_method_7_code
def yX2_work : MethodName := ⟨RX2, "work", "(III)I"⟩
abbrev cX2_named : ByteArray := prog_4_method_8_code
def yX2_named : MethodName := ⟨RX2, "named", "(IIII)I"⟩
abbrev cX2_joined : ByteArray := prog_4_method_9_code
def yX2_joined : MethodName := ⟨RX2, "joined", "(III)I"⟩
def RX3 : String := "WolfFires$Ring"
def TX3 : u_T := fun k => match k with
  | 0 => ("WolfFires$Ring", "many", "I", false)
  | 1 => ("WolfFires$Ring", "foals", "[I", true)
  | 2 => ("WolfFires$Ring", "fire", "[I", true)
  | _ => ("WolfFires$Ring", "tried", "[I", true)
def tyX3 : Nat → FieldType := fun k => match k with
  | 0 => .int
  | 1 => .array .int
  | 2 => .array .int
  | _ => .array .int
abbrev wsX30 : List Cond := u_ws RX3 TX3 4
theorem nmX3 : ∀ a, a < 4 → ∀ b, b < 4 → a ≠ b → (TX3 a).2.1 ≠ (TX3 b).2.1 := by decide +kernel
theorem tyX3_ok : ∀ k, k < 4 → parseFieldDescriptor (TX3 k).2.2.1 = some (tyX3 k) := by decide +kernel
abbrev cX3_init : ByteArray := prog_5_method_1_code
def yX3_init : MethodName := ⟨RX3, "<init>", "()V"⟩
abbrev cX3_has : ByteArray := prog_5_method_2_code
def yX3_has : MethodName := ⟨RX3, "has", "(I)Z"⟩
abbrev cX3_joins : ByteArray := prog_5_method_3_code
def yX3_joins : MethodName := ⟨RX3, "joins", "(I)I"⟩
abbrev cX3_row : ByteArray := prog_5_method_4_code
def yX3_row : MethodName := ⟨RX3, "row", "(I)[I"⟩
abbrev cX3_nextFires : ByteArray := prog_5_method_5_code
def yX3_nextFires : MethodName := ⟨RX3, "nextFires", "(I)I"⟩
abbrev cX3_allFoals : ByteArray := prog_5_method_6_code
def yX3_allFoals : MethodName := ⟨RX3, "allFoals", "()I"⟩
abbrev cX3_takeFrom : ByteArray := prog_5_method_7_code
def yX3_takeFrom : MethodName := ⟨RX3, "takeFrom", "(LWolfFires$Ring;)V"⟩
def RX4 : String := "WolfFires$Sheet"
def TX4 : u_T := fun k => match k with
  | 0 => ("WolfFires$Sheet", "sort", "I", false)
  | 1 => ("WolfFires$Sheet", "many", "I", false)
  | _ => ("WolfFires$Sheet", "places", "[I", true)
def tyX4 : Nat → FieldType := fun k => match k with
  | 0 => .int
  | 1 => .int
  | _ => .array .int
abbrev wsX40 : List Cond := u_ws RX4 TX4 3
theorem nmX4 : ∀ a, a < 3 → ∀ b, b < 3 → a ≠ b → (TX4 a).2.1 ≠ (TX4 b).2.1 := by decide +kernel
theorem tyX4_ok : ∀ k, k < 3 → parseFieldDescriptor (TX4 k).2.2.1 = some (tyX4 k) := by decide +kernel
abbrev cX4_init : ByteArray := prog_6_method_1_code
def yX4_init : MethodName := ⟨RX4, "<init>", "()V"⟩
abbrev cX4_has : ByteArray := prog_6_method_2_code
def yX4_has : MethodName := ⟨RX4, "has", "(I)Z"⟩
abbrev cX4_hasRun : ByteArray := prog_6_method_3_code
def yX4_hasRun : MethodName := ⟨RX4, "hasRun", "(II)Z"⟩
abbrev cX4_becomes : ByteArray := prog_6_method_4_code
def yX4_becomes : MethodName := ⟨RX4, "becomes", "(II)V"⟩
abbrev cX4_takeFrom : ByteArray := prog_6_method_5_code
def yX4_takeFrom : MethodName := ⟨RX4, "takeFrom", "(LWolfFires$Sheet;)V"⟩
abbrev cX4_differences : ByteArray := prog_6_method_6_code
def yX4_differences : MethodName := ⟨RX4, "differences", "(LWolfFires$Ring;)I"⟩
def RX5 : String := "WolfFires$Slot"
def TX5 : u_T := fun k => match k with
  | 0 => ("WolfFires$Slot", "thing", "I", false)
  | 1 => ("WolfFires$Slot", "number", "I", false)
  | 2 => ("WolfFires$Slot", "watcher", "LWolfFires$Watcher;", true)
  | _ => ("WolfFires$Slot", "sheet", "LWolfFires$Sheet;", true)
def tyX5 : Nat → FieldType := fun k => match k with
  | 0 => .int
  | 1 => .int
  | 2 => .object "WolfFires$Watcher"
  | _ => .object "WolfFires$Sheet"
abbrev wsX50 : List Cond := u_ws RX5 TX5 4
theorem nmX5 : ∀ a, a < 4 → ∀ b, b < 4 → a ≠ b → (TX5 a).2.1 ≠ (TX5 b).2.1 := by decide +kernel
theorem tyX5_ok : ∀ k, k < 4 → parseFieldDescriptor (TX5 k).2.2.1 = some (tyX5 k) := by decide +kernel
abbrev cX5_init : ByteArray := prog_7_method_1_code
def yX5_init : MethodName := ⟨RX5, "<init>", "()V"⟩
def RX6 : String := "WolfFires$Tape"
def TX6 : u_T := fun k => match k with
  | 0 => ("WolfFires$Tape", "bytes", "[I", true)
  | 1 => ("WolfFires$Tape", "many", "I", false)
  | 2 => ("WolfFires$Tape", "from", "I", false)
  | 3 => ("WolfFires$Tape", "to", "I", false)
  | 4 => ("WolfFires$Tape", "open", "[I", true)
  | 5 => ("WolfFires$Tape", "height", "I", false)
  | 6 => ("WolfFires$Tape", "parens", "I", false)
  | 7 => ("WolfFires$Tape", "nots", "I", false)
  | _ => ("WolfFires$Tape", "wantsPiece", "Z", false)
def tyX6 : Nat → FieldType := fun k => match k with
  | 0 => .array .int
  | 1 => .int
  | 2 => .int
  | 3 => .int
  | 4 => .array .int
  | 5 => .int
  | 6 => .int
  | 7 => .int
  | _ => .boolean
abbrev wsX60 : List Cond := u_ws RX6 TX6 9
theorem nmX6 : ∀ a, a < 9 → ∀ b, b < 9 → a ≠ b → (TX6 a).2.1 ≠ (TX6 b).2.1 := by decide +kernel
theorem tyX6_ok : ∀ k, k < 9 → parseFieldDescriptor (TX6 k).2.2.1 = some (tyX6 k) := by decide +kernel
abbrev cX6_init : ByteArray := prog_8_method_1_code
def yX6_init : MethodName := ⟨RX6, "<init>", "()V"⟩
abbrev cX6_takesNumber : ByteArray := prog_8_method_2_code
def yX6_takesNumber : MethodName := ⟨RX6, "takesNumber", "(I)V"⟩
abbrev cX6_readInto : ByteArray := prog_8_method_3_code
def yX6_readInto : MethodName := ⟨RX6, "readInto", "(LWolfFires$Law;)I"⟩
abbrev cX6_steps : ByteArray := prog_8_method_4_code
def yX6_steps : MethodName := ⟨RX6, "steps", "()V"⟩
abbrev cX6_sortHere : ByteArray := prog_8_method_5_code
def yX6_sortHere : MethodName := ⟨RX6, "sortHere", "()I"⟩
abbrev cX6_sortOf : ByteArray := prog_8_method_6_code
def yX6_sortOf : MethodName := ⟨RX6, "sortOf", "(I)I"⟩
abbrev cX6_keyHere : ByteArray := prog_8_method_7_code
def yX6_keyHere : MethodName := ⟨RX6, "keyHere", "()I"⟩
abbrev cX6_isHere : ByteArray := prog_8_method_8_code
def yX6_isHere : MethodName := ⟨RX6, "isHere", "(Ljava/lang/String;)Z"⟩
abbrev cX6_takesPiece : ByteArray := prog_8_method_9_code
def yX6_takesPiece : MethodName := ⟨RX6, "takesPiece", "(LWolfFires$Law;)Z"⟩
abbrev cX6_takesName : ByteArray := prog_8_method_10_code
def yX6_takesName : MethodName := ⟨RX6, "takesName", "(LWolfFires$Law;)Z"⟩
abbrev cX6_namesOf : ByteArray := prog_8_method_11_code
def yX6_namesOf : MethodName := ⟨RX6, "namesOf", "(I)Ljava/lang/String;"⟩
abbrev cX6_takesDigits : ByteArray := prog_8_method_12_code
def yX6_takesDigits : MethodName := ⟨RX6, "takesDigits", "(LWolfFires$Law;)Z"⟩
abbrev cX6_opens : ByteArray := prog_8_method_13_code
def yX6_opens : MethodName := ⟨RX6, "opens", "(I)Z"⟩
abbrev cX6_pushes : ByteArray := prog_8_method_14_code
def yX6_pushes : MethodName := ⟨RX6, "pushes", "(I)V"⟩
abbrev cX6_endsPiece : ByteArray := prog_8_method_15_code
def yX6_endsPiece : MethodName := ⟨RX6, "endsPiece", "(LWolfFires$Law;)V"⟩
abbrev cX6_takesSign : ByteArray := prog_8_method_16_code
def yX6_takesSign : MethodName := ⟨RX6, "takesSign", "(LWolfFires$Law;)Z"⟩
abbrev cX6_takesClose : ByteArray := prog_8_method_17_code
def yX6_takesClose : MethodName := ⟨RX6, "takesClose", "(LWolfFires$Law;)Z"⟩
abbrev cX6_closesDownTo : ByteArray := prog_8_method_18_code
def yX6_closesDownTo : MethodName := ⟨RX6, "closesDownTo", "(ILWolfFires$Law;)V"⟩
abbrev cX6_levelOf : ByteArray := prog_8_method_19_code
def yX6_levelOf : MethodName := ⟨RX6, "levelOf", "(I)I"⟩
def RX7 : String := "WolfFires$Watcher"
def TX7 : u_T := fun k => match k with
  | 0 => ("WolfFires$Watcher", "kind", "I", false)
  | 1 => ("WolfFires$Watcher", "at", "I", false)
  | 2 => ("WolfFires$Watcher", "eyes", "I", false)
  | 3 => ("WolfFires$Watcher", "tired", "I", false)
  | _ => ("WolfFires$Watcher", "on", "I", false)
def tyX7 : Nat → FieldType := fun k => match k with
  | 0 => .int
  | 1 => .int
  | 2 => .int
  | 3 => .int
  | _ => .int
abbrev wsX70 : List Cond := u_ws RX7 TX7 5
theorem nmX7 : ∀ a, a < 5 → ∀ b, b < 5 → a ≠ b → (TX7 a).2.1 ≠ (TX7 b).2.1 := by decide +kernel
theorem tyX7_ok : ∀ k, k < 5 → parseFieldDescriptor (TX7 k).2.2.1 = some (tyX7 k) := by decide +kernel
abbrev cX7_init : ByteArray := prog_9_method_1_code
def yX7_init : MethodName := ⟨RX7, "<init>", "()V"⟩
abbrev cX7_canBe : ByteArray := prog_9_method_2_code
def yX7_canBe : MethodName := ⟨RX7, "canBe", "(II)Z"⟩
abbrev cX7_isOf : ByteArray := prog_9_method_3_code
def yX7_isOf : MethodName := ⟨RX7, "isOf", "(I)Z"⟩
abbrev cX7_sight : ByteArray := prog_9_method_4_code
def yX7_sight : MethodName := ⟨RX7, "sight", "(II)I"⟩
abbrev cX7_plainSight : ByteArray := prog_9_method_5_code
def yX7_plainSight : MethodName := ⟨RX7, "plainSight", "(I)I"⟩
abbrev cX7_worth : ByteArray := prog_9_method_6_code
def yX7_worth : MethodName := ⟨RX7, "worth", "()I"⟩
abbrev cX7_takeFrom : ByteArray := prog_9_method_7_code
def yX7_takeFrom : MethodName := ⟨RX7, "takeFrom", "(LWolfFires$Watcher;)V"⟩
def RX8 : String := "WolfFires"
def TX8 : u_T := fun k => match k with
  | 0 => ("WolfFires", "laws", "[LWolfFires$Law;", true)
  | 1 => ("WolfFires", "now", "LWolfFires$Camp;", true)
  | 2 => ("WolfFires", "image", "LWolfFires$Camp;", true)
  | 3 => ("WolfFires", "thought", "LWolfFires$Camp;", true)
  | 4 => ("WolfFires", "search", "LWolfFires$FireSearch;", true)
  | 5 => ("WolfFires", "tape", "LWolfFires$Tape;", true)
  | 6 => ("WolfFires", "sheets", "[LWolfFires$Sheet;", true)
  | 7 => ("WolfFires", "slots", "[LWolfFires$Slot;", true)
  | 8 => ("WolfFires", "waiting", "[I", true)
  | 9 => ("WolfFires", "waitingMany", "I", false)
  | _ => ("WolfFires", "kept", "Z", false)
def tyX8 : Nat → FieldType := fun k => match k with
  | 0 => .array (.object "WolfFires$Law")
  | 1 => .object "WolfFires$Camp"
  | 2 => .object "WolfFires$Camp"
  | 3 => .object "WolfFires$Camp"
  | 4 => .object "WolfFires$FireSearch"
  | 5 => .object "WolfFires$Tape"
  | 6 => .array (.object "WolfFires$Sheet")
  | 7 => .array (.object "WolfFires$Slot")
  | 8 => .array .int
  | 9 => .int
  | _ => .boolean
abbrev wsX80 : List Cond := u_ws RX8 TX8 11
theorem nmX8 : ∀ a, a < 11 → ∀ b, b < 11 → a ≠ b → (TX8 a).2.1 ≠ (TX8 b).2.1 := by decide +kernel
theorem tyX8_ok : ∀ k, k < 11 → parseFieldDescriptor (TX8 k).2.2.1 = some (tyX8 k) := by decide +kernel
abbrev cX8_init : ByteArray := prog_1_method_1_code
def yX8_init : MethodName := ⟨RX8, "<init>", "()V"⟩
abbrev cX8_emptyLaws : ByteArray := prog_1_method_2_code
def yX8_emptyLaws : MethodName := ⟨RX8, "emptyLaws", "()[LWolfFires$Law;"⟩
abbrev cX8_wagon : ByteArray := prog_1_method_3_code
def yX8_wagon : MethodName := ⟨RX8, "wagon", "(I)I"⟩
abbrev cX8_at : ByteArray := prog_1_method_4_code
def yX8_at : MethodName := ⟨RX8, "at", "(II)I"⟩
abbrev cX8_lays : ByteArray := prog_1_method_5_code
def yX8_lays : MethodName := ⟨RX8, "lays", "(III)I"⟩
abbrev cX8_far : ByteArray := prog_1_method_6_code
def yX8_far : MethodName := ⟨RX8, "far", "(II)I"⟩
abbrev cX8_plain : ByteArray := prog_1_method_7_code
def yX8_plain : MethodName := ⟨RX8, "plain", "(II)I"⟩
abbrev cX8_watcher : ByteArray := prog_1_method_8_code
def yX8_watcher : MethodName := ⟨RX8, "watcher", "(III)I"⟩
abbrev cX8_told : ByteArray := prog_1_method_9_code
def yX8_told : MethodName := ⟨RX8, "told", "(II)I"⟩
abbrev cX8_as : ByteArray := prog_1_method_10_code
def yX8_as : MethodName := ⟨RX8, "as", "(II)I"⟩
abbrev cX8_turns : ByteArray := prog_1_method_11_code
def yX8_turns : MethodName := ⟨RX8, "turns", "(II)I"⟩
abbrev cX8_set : ByteArray := prog_1_method_12_code
def yX8_set : MethodName := ⟨RX8, "set", "(III)I"⟩
abbrev cX8_deal : ByteArray := prog_1_method_13_code
def yX8_deal : MethodName := ⟨RX8, "deal", "(I)I"⟩
abbrev cX8_seed : ByteArray := prog_1_method_14_code
def yX8_seed : MethodName := ⟨RX8, "seed", "(I)I"⟩
abbrev cX8_hours : ByteArray := prog_1_method_15_code
def yX8_hours : MethodName := ⟨RX8, "hours", "(I)I"⟩
abbrev cX8_night : ByteArray := prog_1_method_16_code
def yX8_night : MethodName := ⟨RX8, "night", "(I)I"⟩
abbrev cX8_behind : ByteArray := prog_1_method_17_code
def yX8_behind : MethodName := ⟨RX8, "behind", "(II)I"⟩
abbrev cX8_lasts : ByteArray := prog_1_method_18_code
def yX8_lasts : MethodName := ⟨RX8, "lasts", "()I"⟩
abbrev cX8_loss : ByteArray := prog_1_method_19_code
def yX8_loss : MethodName := ⟨RX8, "loss", "()I"⟩
abbrev cX8_dark : ByteArray := prog_1_method_20_code
def yX8_dark : MethodName := ⟨RX8, "dark", "(I)I"⟩
abbrev cX8_fires : ByteArray := prog_1_method_21_code
def yX8_fires : MethodName := ⟨RX8, "fires", "(II)I"⟩
abbrev cX8_watch : ByteArray := prog_1_method_22_code
def yX8_watch : MethodName := ⟨RX8, "watch", "(II)I"⟩
abbrev cX8_place : ByteArray := prog_1_method_23_code
def yX8_place : MethodName := ⟨RX8, "place", "(II)I"⟩
abbrev cX8_signs : ByteArray := prog_1_method_24_code
def yX8_signs : MethodName := ⟨RX8, "signs", "(III)I"⟩
abbrev cX8_feed : ByteArray := prog_1_method_25_code
def yX8_feed : MethodName := ⟨RX8, "feed", "(III)I"⟩
abbrev cX8_trim : ByteArray := prog_1_method_26_code
def yX8_trim : MethodName := ⟨RX8, "trim", "(I)I"⟩
abbrev cX8_text : ByteArray := prog_1_method_27_code
def yX8_text : MethodName := ⟨RX8, "text", "()I"⟩
abbrev cX8_textTold : ByteArray := prog_1_method_28_code
def yX8_textTold : MethodName := ⟨RX8, "textTold", "(II)I"⟩
abbrev cX8_why : ByteArray := prog_1_method_29_code
def yX8_why : MethodName := ⟨RX8, "why", "(I)I"⟩
abbrev cX8_sheet : ByteArray := prog_1_method_30_code
def yX8_sheet : MethodName := ⟨RX8, "sheet", "(III)I"⟩
abbrev cX8_mark : ByteArray := prog_1_method_31_code
def yX8_mark : MethodName := ⟨RX8, "mark", "(III)I"⟩
abbrev cX8_pour : ByteArray := prog_1_method_32_code
def yX8_pour : MethodName := ⟨RX8, "pour", "(I)I"⟩
abbrev cX8_reads : ByteArray := prog_1_method_33_code
def yX8_reads : MethodName := ⟨RX8, "reads", "(I)I"⟩
abbrev cX8_copy : ByteArray := prog_1_method_34_code
def yX8_copy : MethodName := ⟨RX8, "copy", "(IIIII)I"⟩
abbrev cX8_lay : ByteArray := prog_1_method_35_code
def yX8_lay : MethodName := ⟨RX8, "lay", "(III)I"⟩
abbrev cX8_ask : ByteArray := prog_1_method_36_code
def yX8_ask : MethodName := ⟨RX8, "ask", "(II)I"⟩
abbrev cX8_item : ByteArray := prog_1_method_37_code
def yX8_item : MethodName := ⟨RX8, "item", "(II)I"⟩
abbrev cX8_rest : ByteArray := prog_1_method_38_code
def yX8_rest : MethodName := ⟨RX8, "rest", "(II)I"⟩
abbrev cX8_tell : ByteArray := prog_1_method_39_code
def yX8_tell : MethodName := ⟨RX8, "tell", "(I)I"⟩
abbrev cX8_check : ByteArray := prog_1_method_40_code
def yX8_check : MethodName := ⟨RX8, "check", "(I)I"⟩
abbrev cX8_keep : ByteArray := prog_1_method_41_code
def yX8_keep : MethodName := ⟨RX8, "keep", "()I"⟩
abbrev cX8_back : ByteArray := prog_1_method_42_code
def yX8_back : MethodName := ⟨RX8, "back", "()I"⟩
abbrev cX8_count : ByteArray := prog_1_method_43_code
def yX8_count : MethodName := ⟨RX8, "count", "(I)I"⟩
abbrev cX8_within : ByteArray := prog_1_method_44_code
def yX8_within : MethodName := ⟨RX8, "within", "(III)Z"⟩
abbrev cX8_held : ByteArray := prog_1_method_45_code
def yX8_held : MethodName := ⟨RX8, "held", "(III)I"⟩
abbrev cX8_isKind : ByteArray := prog_1_method_46_code
def yX8_isKind : MethodName := ⟨RX8, "isKind", "(I)Z"⟩
abbrev cX8_isSheet : ByteArray := prog_1_method_47_code
def yX8_isSheet : MethodName := ⟨RX8, "isSheet", "(I)Z"⟩
abbrev cX8_isSlot : ByteArray := prog_1_method_48_code
def yX8_isSlot : MethodName := ⟨RX8, "isSlot", "(I)Z"⟩
def RX9 : String := "WolfFiresModel"
def TX9 : u_T := fun k => match k with
  | 0 => ("WolfFiresModel", "s", "[I", true)
  | 1 => ("WolfFiresModel", "image", "[I", true)
  | 2 => ("WolfFiresModel", "aside", "[I", true)
  | 3 => ("WolfFiresModel", "hasImage", "Z", false)
  | 4 => ("WolfFiresModel", "tSort", "[I", true)
  | 5 => ("WolfFiresModel", "tSize", "[I", true)
  | 6 => ("WolfFiresModel", "tNumber", "[I", true)
  | 7 => ("WolfFiresModel", "held", "[I", true)
  | 8 => ("WolfFiresModel", "heldNumber", "[I", true)
  | 9 => ("WolfFiresModel", "heldWorth", "[I", true)
  | 10 => ("WolfFiresModel", "heldSize", "[I", true)
  | 11 => ("WolfFiresModel", "heldRow", "[I", true)
  | 12 => ("WolfFiresModel", "wentOut", "Z", false)
  | 13 => ("WolfFiresModel", "cameTo", "I", false)
  | 14 => ("WolfFiresModel", "close", "[I", true)
  | 15 => ("WolfFiresModel", "tape", "[I", true)
  | 16 => ("WolfFiresModel", "taped", "I", false)
  | 17 => ("WolfFiresModel", "begin", "I", false)
  | 18 => ("WolfFiresModel", "behind", "I", false)
  | 19 => ("WolfFiresModel", "token", "I", false)
  | 20 => ("WolfFiresModel", "number", "I", false)
  | 21 => ("WolfFiresModel", "letter", "I", false)
  | 22 => ("WolfFiresModel", "deep", "I", false)
  | 23 => ("WolfFiresModel", "turned", "I", false)
  | 24 => ("WolfFiresModel", "laid", "I", false)
  | 25 => ("WolfFiresModel", "laidAt", "I", false)
  | 26 => ("WolfFiresModel", "said", "I", false)
  | 27 => ("WolfFiresModel", "named", "[I", true)
  | 28 => ("WolfFiresModel", "pile", "[I", true)
  | 29 => ("WolfFiresModel", "carried", "[I", true)
  | 30 => ("WolfFiresModel", "waits", "[I", true)
  | 31 => ("WolfFiresModel", "waiting", "I", false)
  | _ => ("WolfFiresModel", "rowDue", "[I", true)
def tyX9 : Nat → FieldType := fun k => match k with
  | 0 => .array .int
  | 1 => .array .int
  | 2 => .array .int
  | 3 => .boolean
  | 4 => .array .int
  | 5 => .array .int
  | 6 => .array .int
  | 7 => .array .int
  | 8 => .array .int
  | 9 => .array .int
  | 10 => .array .int
  | 11 => .array .int
  | 12 => .boolean
  | 13 => .int
  | 14 => .array .int
  | 15 => .array .int
  | 16 => .int
  | 17 => .int
  | 18 => .int
  | 19 => .int
  | 20 => .int
  | 21 => .int
  | 22 => .int
  | 23 => .int
  | 24 => .int
  | 25 => .int
  | 26 => .int
  | 27 => .array .int
  | 28 => .array .int
  | 29 => .array .int
  | 30 => .array .int
  | 31 => .int
  | _ => .array .int
abbrev wsX90 : List Cond := u_ws RX9 TX9 33
theorem nmX9 : ∀ a, a < 33 → ∀ b, b < 33 → a ≠ b → (TX9 a).2.1 ≠ (TX9 b).2.1 := by decide +kernel
theorem tyX9_ok : ∀ k, k < 33 → parseFieldDescriptor (TX9 k).2.2.1 = some (tyX9 k) := by decide +kernel
abbrev cX9_init : ByteArray := prog_11_method_1_code
def yX9_init : MethodName := ⟨RX9, "<init>", "()V"⟩
abbrev cX9_isIn : ByteArray := prog_11_method_2_code
def yX9_isIn : MethodName := ⟨RX9, "isIn", "(JJJ)Z"⟩
abbrev cX9_orNone : ByteArray := prog_11_method_3_code
def yX9_orNone : MethodName := ⟨RX9, "orNone", "(I)I"⟩
abbrev cX9_within : ByteArray := prog_11_method_4_code
def yX9_within : MethodName := ⟨RX9, "within", "(II)I"⟩
abbrev cX9_off : ByteArray := prog_11_method_5_code
def yX9_off : MethodName := ⟨RX9, "off", "(II)I"⟩
abbrev cX9_becomes : ByteArray := prog_11_method_6_code
def yX9_becomes : MethodName := ⟨RX9, "becomes", "(II)I"⟩
abbrev cX9_textAt : ByteArray := prog_11_method_7_code
def yX9_textAt : MethodName := ⟨RX9, "textAt", "(I)I"⟩
abbrev cX9_wagonsOwn : ByteArray := prog_11_method_8_code
def yX9_wagonsOwn : MethodName := ⟨RX9, "wagonsOwn", "(II)I"⟩
abbrev cX9_of : ByteArray := prog_11_method_9_code
def yX9_of : MethodName := ⟨RX9, "of", "(II)I"⟩
abbrev cX9_isWagon : ByteArray := prog_11_method_10_code
def yX9_isWagon : MethodName := ⟨RX9, "isWagon", "(I)Z"⟩
abbrev cX9_isWatcher : ByteArray := prog_11_method_11_code
def yX9_isWatcher : MethodName := ⟨RX9, "isWatcher", "(I)Z"⟩
abbrev cX9_isText : ByteArray := prog_11_method_12_code
def yX9_isText : MethodName := ⟨RX9, "isText", "(I)Z"⟩
abbrev cX9_drawn : ByteArray := prog_11_method_13_code
def yX9_drawn : MethodName := ⟨RX9, "drawn", "()I"⟩
abbrev cX9_wagon : ByteArray := prog_11_method_14_code
def yX9_wagon : MethodName := ⟨RX9, "wagon", "(I)I"⟩
abbrev cX9_nextFires : ByteArray := prog_11_method_15_code
def yX9_nextFires : MethodName := ⟨RX9, "nextFires", "(I)I"⟩
abbrev cX9_light : ByteArray := prog_11_method_16_code
def yX9_light : MethodName := ⟨RX9, "light", "(I)I"⟩
abbrev cX9_sees : ByteArray := prog_11_method_17_code
def yX9_sees : MethodName := ⟨RX9, "sees", "(I)I"⟩
abbrev cX9_worth : ByteArray := prog_11_method_18_code
def yX9_worth : MethodName := ⟨RX9, "worth", "(I)I"⟩
abbrev cX9_guard : ByteArray := prog_11_method_19_code
def yX9_guard : MethodName := ⟨RX9, "guard", "(I)I"⟩
abbrev cX9_fears : ByteArray := prog_11_method_20_code
def yX9_fears : MethodName := ⟨RX9, "fears", "(I)I"⟩
abbrev cX9_at : ByteArray := prog_11_method_21_code
def yX9_at : MethodName := ⟨RX9, "at", "(II)I"⟩
abbrev cX9_lays : ByteArray := prog_11_method_22_code
def yX9_lays : MethodName := ⟨RX9, "lays", "(III)I"⟩
abbrev cX9_far : ByteArray := prog_11_method_23_code
def yX9_far : MethodName := ⟨RX9, "far", "(II)I"⟩
abbrev cX9_plain : ByteArray := prog_11_method_24_code
def yX9_plain : MethodName := ⟨RX9, "plain", "(II)I"⟩
abbrev cX9_comes : ByteArray := prog_11_method_25_code
def yX9_comes : MethodName := ⟨RX9, "comes", "(III)V"⟩
abbrev cX9_watcher : ByteArray := prog_11_method_26_code
def yX9_watcher : MethodName := ⟨RX9, "watcher", "(III)I"⟩
abbrev cX9_told : ByteArray := prog_11_method_27_code
def yX9_told : MethodName := ⟨RX9, "told", "(II)I"⟩
abbrev cX9_isOf : ByteArray := prog_11_method_28_code
def yX9_isOf : MethodName := ⟨RX9, "isOf", "(II)Z"⟩
abbrev cX9_as : ByteArray := prog_11_method_29_code
def yX9_as : MethodName := ⟨RX9, "as", "(II)I"⟩
abbrev cX9_turns : ByteArray := prog_11_method_30_code
def yX9_turns : MethodName := ⟨RX9, "turns", "(II)I"⟩
abbrev cX9_mayBe : ByteArray := prog_11_method_31_code
def yX9_mayBe : MethodName := ⟨RX9, "mayBe", "(II)Z"⟩
abbrev cX9_set : ByteArray := prog_11_method_32_code
def yX9_set : MethodName := ⟨RX9, "set", "(III)I"⟩
abbrev cX9_deal : ByteArray := prog_11_method_33_code
def yX9_deal : MethodName := ⟨RX9, "deal", "(I)I"⟩
abbrev cX9_seed : ByteArray := prog_11_method_34_code
def yX9_seed : MethodName := ⟨RX9, "seed", "(I)I"⟩
abbrev cX9_comeTo : ByteArray := prog_11_method_35_code
def yX9_comeTo : MethodName := ⟨RX9, "comeTo", "()I"⟩
abbrev cX9_burns : ByteArray := prog_11_method_36_code
def yX9_burns : MethodName := ⟨RX9, "burns", "()V"⟩
abbrev cX9_comeAndTake : ByteArray := prog_11_method_37_code
def yX9_comeAndTake : MethodName := ⟨RX9, "comeAndTake", "()V"⟩
abbrev cX9_tires : ByteArray := prog_11_method_38_code
def yX9_tires : MethodName := ⟨RX9, "tires", "(I)I"⟩
abbrev cX9_goesOn : ByteArray := prog_11_method_39_code
def yX9_goesOn : MethodName := ⟨RX9, "goesOn", "()V"⟩
abbrev cX9_hours : ByteArray := prog_11_method_40_code
def yX9_hours : MethodName := ⟨RX9, "hours", "(I)I"⟩
abbrev cX9_night : ByteArray := prog_11_method_41_code
def yX9_night : MethodName := ⟨RX9, "night", "(I)I"⟩
abbrev cX9_allFoals : ByteArray := prog_11_method_42_code
def yX9_allFoals : MethodName := ⟨RX9, "allFoals", "()I"⟩
abbrev cX9_laysBy : ByteArray := prog_11_method_43_code
def yX9_laysBy : MethodName := ⟨RX9, "laysBy", "()V"⟩
abbrev cX9_laysBack : ByteArray := prog_11_method_44_code
def yX9_laysBack : MethodName := ⟨RX9, "laysBack", "()V"⟩
abbrev cX9_goesOnMany : ByteArray := prog_11_method_45_code
def yX9_goesOnMany : MethodName := ⟨RX9, "goesOnMany", "(I)V"⟩
abbrev cX9_behind : ByteArray := prog_11_method_46_code
def yX9_behind : MethodName := ⟨RX9, "behind", "(II)I"⟩
abbrev cX9_lasts : ByteArray := prog_11_method_47_code
def yX9_lasts : MethodName := ⟨RX9, "lasts", "()I"⟩
abbrev cX9_loss : ByteArray := prog_11_method_48_code
def yX9_loss : MethodName := ⟨RX9, "loss", "()I"⟩
abbrev cX9_dark : ByteArray := prog_11_method_49_code
def yX9_dark : MethodName := ⟨RX9, "dark", "(I)I"⟩
abbrev cX9_laysFires : ByteArray := prog_11_method_50_code
def yX9_laysFires : MethodName := ⟨RX9, "laysFires", "(I)I"⟩
abbrev cX9_leastLight : ByteArray := prog_11_method_51_code
def yX9_leastLight : MethodName := ⟨RX9, "leastLight", "()I"⟩
abbrev cX9_fires : ByteArray := prog_11_method_52_code
def yX9_fires : MethodName := ⟨RX9, "fires", "(II)I"⟩
abbrev cX9_watch : ByteArray := prog_11_method_53_code
def yX9_watch : MethodName := ⟨RX9, "watch", "(II)I"⟩
abbrev cX9_place : ByteArray := prog_11_method_54_code
def yX9_place : MethodName := ⟨RX9, "place", "(II)I"⟩
abbrev cX9_feed : ByteArray := prog_11_method_55_code
def yX9_feed : MethodName := ⟨RX9, "feed", "(III)I"⟩
abbrev cX9_trim : ByteArray := prog_11_method_56_code
def yX9_trim : MethodName := ⟨RX9, "trim", "(I)I"⟩
abbrev cX9_isLetter : ByteArray := prog_11_method_57_code
def yX9_isLetter : MethodName := ⟨RX9, "isLetter", "(I)Z"⟩
abbrev cX9_isDigit : ByteArray := prog_11_method_58_code
def yX9_isDigit : MethodName := ⟨RX9, "isDigit", "(I)Z"⟩
abbrev cX9_nextToken : ByteArray := prog_11_method_59_code
def yX9_nextToken : MethodName := ⟨RX9, "nextToken", "()V"⟩
abbrev cX9_isSign : ByteArray := prog_11_method_60_code
def yX9_isSign : MethodName := ⟨RX9, "isSign", "(I)Z"⟩
abbrev cX9_isWordAt : ByteArray := prog_11_method_61_code
def yX9_isWordAt : MethodName := ⟨RX9, "isWordAt", "(IIII)Z"⟩
abbrev cX9_isLong : ByteArray := prog_11_method_62_code
def yX9_isLong : MethodName := ⟨RX9, "isLong", "(IIIIII)Z"⟩
abbrev cX9_key : ByteArray := prog_11_method_63_code
def yX9_key : MethodName := ⟨RX9, "key", "()I"⟩
abbrev cX9_isName : ByteArray := prog_11_method_64_code
def yX9_isName : MethodName := ⟨RX9, "isName", "(II)Z"⟩
abbrev cX9_step : ByteArray := prog_11_method_65_code
def yX9_step : MethodName := ⟨RX9, "step", "(II)V"⟩
abbrev cX9_either : ByteArray := prog_11_method_66_code
def yX9_either : MethodName := ⟨RX9, "either", "(I)Z"⟩
abbrev cX9_both : ByteArray := prog_11_method_67_code
def yX9_both : MethodName := ⟨RX9, "both", "(I)Z"⟩
abbrev cX9_test : ByteArray := prog_11_method_68_code
def yX9_test : MethodName := ⟨RX9, "test", "(I)Z"⟩
abbrev cX9_sum : ByteArray := prog_11_method_69_code
def yX9_sum : MethodName := ⟨RX9, "sum", "(I)Z"⟩
abbrev cX9_term : ByteArray := prog_11_method_70_code
def yX9_term : MethodName := ⟨RX9, "term", "(I)Z"⟩
abbrev cX9_part0 : ByteArray := prog_11_method_71_code
def yX9_part0 : MethodName := ⟨RX9, "part0", "(I)Z"⟩
abbrev cX9_parse : ByteArray := prog_11_method_72_code
def yX9_parse : MethodName := ⟨RX9, "parse", "()I"⟩
abbrev cX9_text : ByteArray := prog_11_method_73_code
def yX9_text : MethodName := ⟨RX9, "text", "()I"⟩
abbrev cX9_textTold : ByteArray := prog_11_method_74_code
def yX9_textTold : MethodName := ⟨RX9, "textTold", "(II)I"⟩
abbrev cX9_counts : ByteArray := prog_11_method_75_code
def yX9_counts : MethodName := ⟨RX9, "counts", "(I)I"⟩
abbrev cX9_why : ByteArray := prog_11_method_76_code
def yX9_why : MethodName := ⟨RX9, "why", "(I)I"⟩
abbrev cX9_joined : ByteArray := prog_11_method_77_code
def yX9_joined : MethodName := ⟨RX9, "joined", "(III)I"⟩
abbrev cX9_worked : ByteArray := prog_11_method_78_code
def yX9_worked : MethodName := ⟨RX9, "worked", "(I)I"⟩
abbrev cX9_isSheet : ByteArray := prog_11_method_79_code
def yX9_isSheet : MethodName := ⟨RX9, "isSheet", "(I)Z"⟩
abbrev cX9_sheet : ByteArray := prog_11_method_80_code
def yX9_sheet : MethodName := ⟨RX9, "sheet", "(III)I"⟩
abbrev cX9_mark : ByteArray := prog_11_method_81_code
def yX9_mark : MethodName := ⟨RX9, "mark", "(III)I"⟩
abbrev cX9_pour : ByteArray := prog_11_method_82_code
def yX9_pour : MethodName := ⟨RX9, "pour", "(I)I"⟩
abbrev cX9_reads : ByteArray := prog_11_method_83_code
def yX9_reads : MethodName := ⟨RX9, "reads", "(I)I"⟩
abbrev cX9_signs : ByteArray := prog_11_method_84_code
def yX9_signs : MethodName := ⟨RX9, "signs", "(III)I"⟩
abbrev cX9_copy : ByteArray := prog_11_method_85_code
def yX9_copy : MethodName := ⟨RX9, "copy", "(IIIII)I"⟩
abbrev cX9_isSlot : ByteArray := prog_11_method_86_code
def yX9_isSlot : MethodName := ⟨RX9, "isSlot", "(I)Z"⟩
abbrev cX9_lay : ByteArray := prog_11_method_87_code
def yX9_lay : MethodName := ⟨RX9, "lay", "(III)I"⟩
abbrev cX9_ask : ByteArray := prog_11_method_88_code
def yX9_ask : MethodName := ⟨RX9, "ask", "(II)I"⟩
abbrev cX9_item : ByteArray := prog_11_method_89_code
def yX9_item : MethodName := ⟨RX9, "item", "(II)I"⟩
abbrev cX9_rest : ByteArray := prog_11_method_90_code
def yX9_rest : MethodName := ⟨RX9, "rest", "(II)I"⟩
abbrev cX9_tell : ByteArray := prog_11_method_91_code
def yX9_tell : MethodName := ⟨RX9, "tell", "(I)I"⟩
abbrev cX9_setAside : ByteArray := prog_11_method_92_code
def yX9_setAside : MethodName := ⟨RX9, "setAside", "([I[I)V"⟩
abbrev cX9_check : ByteArray := prog_11_method_93_code
def yX9_check : MethodName := ⟨RX9, "check", "(I)I"⟩
abbrev cX9_keep : ByteArray := prog_11_method_94_code
def yX9_keep : MethodName := ⟨RX9, "keep", "()I"⟩
abbrev cX9_back : ByteArray := prog_11_method_95_code
def yX9_back : MethodName := ⟨RX9, "back", "()I"⟩
abbrev cX9_awake : ByteArray := prog_11_method_96_code
def yX9_awake : MethodName := ⟨RX9, "awake", "()I"⟩
abbrev cX9_count : ByteArray := prog_11_method_97_code
def yX9_count : MethodName := ⟨RX9, "count", "(I)I"⟩
def RJ0 : String := "java/lang/String"
def TJ0 : u_T := fun k => match k with
  | _ => ("", "", "", false)
def tyJ0 : Nat → FieldType := fun k => match k with
  | _ => .int
abbrev wsJ00 : List Cond := u_ws RJ0 TJ0 0
theorem nmJ0 : ∀ a, a < 0 → ∀ b, b < 0 → a ≠ b → (TJ0 a).2.1 ≠ (TJ0 b).2.1 := by decide +kernel
theorem tyJ0_ok : ∀ k, k < 0 → parseFieldDescriptor (TJ0 k).2.2.1 = some (tyJ0 k) := by decide +kernel
abbrev cJ0_length_8abf5 : ByteArray := prog_14_method_54_code
def yJ0_length_8abf5 : MethodName := ⟨RJ0, "length", "()I"⟩
abbrev cJ0_charAt_5068e : ByteArray := prog_14_method_56_code
def yJ0_charAt_5068e : MethodName := ⟨RJ0, "charAt", "(I)C"⟩
abbrev cJ0_indexOf_0f7a4 : ByteArray := prog_14_method_79_code
def yJ0_indexOf_0f7a4 : MethodName := ⟨RJ0, "indexOf", "(I)I"⟩
abbrev cJ0_indexOf_7cf53 : ByteArray := prog_14_method_80_code
def yJ0_indexOf_7cf53 : MethodName := ⟨RJ0, "indexOf", "(II)I"⟩
abbrev cJ0_coder_7d493 : ByteArray := prog_14_method_152_code
def yJ0_coder_7d493 : MethodName := ⟨RJ0, "coder", "()B"⟩
abbrev cJ0_isLatin1_aae02 : ByteArray := prog_14_method_154_code
def yJ0_isLatin1_aae02 : MethodName := ⟨RJ0, "isLatin1", "()Z"⟩
abbrev cJ0_checkIndex_df160 : ByteArray := prog_14_method_155_code
def yJ0_checkIndex_df160 : MethodName := ⟨RJ0, "checkIndex", "(II)V"⟩
abbrev cJ0_checkBoundsBeginEnd_23922 : ByteArray := prog_14_method_158_code
def yJ0_checkBoundsBeginEnd_23922 : MethodName := ⟨RJ0, "checkBoundsBeginEnd", "(III)V"⟩
def RJ1 : String := "java/lang/StringLatin1"
def TJ1 : u_T := fun k => match k with
  | _ => ("", "", "", false)
def tyJ1 : Nat → FieldType := fun k => match k with
  | _ => .int
abbrev wsJ10 : List Cond := u_ws RJ1 TJ1 0
theorem nmJ1 : ∀ a, a < 0 → ∀ b, b < 0 → a ≠ b → (TJ1 a).2.1 ≠ (TJ1 b).2.1 := by decide +kernel
theorem tyJ1_ok : ∀ k, k < 0 → parseFieldDescriptor (TJ1 k).2.2.1 = some (tyJ1 k) := by decide +kernel
abbrev cJ1_charAt_3b067 : ByteArray := prog_15_method_2_code
def yJ1_charAt_3b067 : MethodName := ⟨RJ1, "charAt", "([BI)C"⟩
abbrev cJ1_canEncode_9a6ad : ByteArray := prog_15_method_4_code
def yJ1_canEncode_9a6ad : MethodName := ⟨RJ1, "canEncode", "(I)Z"⟩
abbrev cJ1_indexOf_4cfef : ByteArray := prog_15_method_22_code
def yJ1_indexOf_4cfef : MethodName := ⟨RJ1, "indexOf", "([BIII)I"⟩
abbrev cJ1_indexOfChar_4cfef : ByteArray := prog_15_method_23_code
def yJ1_indexOfChar_4cfef : MethodName := ⟨RJ1, "indexOfChar", "([BIII)I"⟩
def RJ7 : String := "java/util/Arrays"
def TJ7 : u_T := fun k => match k with
  | _ => ("", "", "", false)
def tyJ7 : Nat → FieldType := fun k => match k with
  | _ => .int
abbrev wsJ70 : List Cond := u_ws RJ7 TJ7 0
theorem nmJ7 : ∀ a, a < 0 → ∀ b, b < 0 → a ≠ b → (TJ7 a).2.1 ≠ (TJ7 b).2.1 := by decide +kernel
theorem tyJ7_ok : ∀ k, k < 0 → parseFieldDescriptor (TJ7 k).2.2.1 = some (tyJ7 k) := by decide +kernel
abbrev cJ7_fill_53178 : ByteArray := prog_18_method_103_code
def yJ7_fill_53178 : MethodName := ⟨RJ7, "fill", "([II)V"⟩
def RJ3 : String := "jdk/internal/util/Preconditions"
def TJ3 : u_T := fun k => match k with
  | _ => ("", "", "", false)
def tyJ3 : Nat → FieldType := fun k => match k with
  | _ => .int
abbrev wsJ30 : List Cond := u_ws RJ3 TJ3 0
theorem nmJ3 : ∀ a, a < 0 → ∀ b, b < 0 → a ≠ b → (TJ3 a).2.1 ≠ (TJ3 b).2.1 := by decide +kernel
theorem tyJ3_ok : ∀ k, k < 0 → parseFieldDescriptor (TJ3 k).2.2.1 = some (tyJ3 k) := by decide +kernel
abbrev cJ3_checkIndex_8e157 : ByteArray := prog_19_method_11_code
def yJ3_checkIndex_8e157 : MethodName := ⟨RJ3, "checkIndex", "(IILjava/util/function/BiFunction;)I"⟩
abbrev cJ3_checkFromToIndex_8c36e : ByteArray := prog_19_method_12_code
def yJ3_checkFromToIndex_8c36e : MethodName := ⟨RJ3, "checkFromToIndex", "(IIILjava/util/function/BiFunction;)I"⟩
def RL : String := "WolfFiresLaw"
abbrev cL_law : ByteArray := code
def yL_law : MethodName := ⟨RL, "law", "([I)Z"⟩
abbrev vwCl : List vw_C := [(RX0, TX0, 17), (RX1, TX1, 4), (RX2, TX2, 5), (RX3, TX3, 4), (RX4, TX4, 3), (RX5, TX5, 4), (RX6, TX6, 9), (RX7, TX7, 5), (RX8, TX8, 11), (RX9, TX9, 33)]
end
section
theorem dX0_init_0 : decode cX0_init 0 = .ok (.aload_n 0, 1) := by decide +kernel
theorem dX0_init_1 : decode cX0_init 1 = .ok (.invokespecial 3, 3) := by decide +kernel
theorem dX0_init_4 : decode cX0_init 4 = .ok (.aload_n 0, 1) := by decide +kernel
theorem dX0_init_5 : decode cX0_init 5 = .ok (.new 9, 3) := by decide +kernel
theorem dX0_init_8 : decode cX0_init 8 = .ok (.dup, 1) := by decide +kernel
theorem dX0_init_9 : decode cX0_init 9 = .ok (.invokespecial 11, 3) := by decide +kernel
theorem dX0_init_12 : decode cX0_init 12 = .ok (.putfield 12, 3) := by decide +kernel
theorem dX0_init_15 : decode cX0_init 15 = .ok (.aload_n 0, 1) := by decide +kernel
theorem dX0_init_16 : decode cX0_init 16 = .ok (.bipush 8, 2) := by decide +kernel
theorem dX0_init_18 : decode cX0_init 18 = .ok (.anewarray 18, 3) := by decide +kernel
theorem dX0_init_21 : decode cX0_init 21 = .ok (.putfield 20, 3) := by decide +kernel
theorem dX0_init_24 : decode cX0_init 24 = .ok (.aload_n 0, 1) := by decide +kernel
theorem dX0_init_25 : decode cX0_init 25 = .ok (.iconst 0, 1) := by decide +kernel
theorem dX0_init_26 : decode cX0_init 26 = .ok (.putfield 24, 3) := by decide +kernel
theorem dX0_init_29 : decode cX0_init 29 = .ok (.aload_n 0, 1) := by decide +kernel
theorem dX0_init_30 : decode cX0_init 30 = .ok (.bipush 100, 2) := by decide +kernel
theorem dX0_init_32 : decode cX0_init 32 = .ok (.putfield 28, 3) := by decide +kernel
theorem dX0_init_35 : decode cX0_init 35 = .ok (.aload_n 0, 1) := by decide +kernel
theorem dX0_init_36 : decode cX0_init 36 = .ok (.iconst 3, 1) := by decide +kernel
theorem dX0_init_37 : decode cX0_init 37 = .ok (.putfield 31, 3) := by decide +kernel
theorem dX0_init_40 : decode cX0_init 40 = .ok (.aload_n 0, 1) := by decide +kernel
theorem dX0_init_41 : decode cX0_init 41 = .ok (.iconst 5, 1) := by decide +kernel
theorem dX0_init_42 : decode cX0_init 42 = .ok (.putfield 34, 3) := by decide +kernel
theorem dX0_init_45 : decode cX0_init 45 = .ok (.aload_n 0, 1) := by decide +kernel
theorem dX0_init_46 : decode cX0_init 46 = .ok (.iconst 0, 1) := by decide +kernel
theorem dX0_init_47 : decode cX0_init 47 = .ok (.putfield 37, 3) := by decide +kernel
theorem dX0_init_50 : decode cX0_init 50 = .ok (.aload_n 0, 1) := by decide +kernel
theorem dX0_init_51 : decode cX0_init 51 = .ok (.iconst 0, 1) := by decide +kernel
theorem dX0_init_52 : decode cX0_init 52 = .ok (.putfield 40, 3) := by decide +kernel
theorem dX0_init_55 : decode cX0_init 55 = .ok (.aload_n 0, 1) := by decide +kernel
theorem dX0_init_56 : decode cX0_init 56 = .ok (.iconst 0, 1) := by decide +kernel
theorem dX0_init_57 : decode cX0_init 57 = .ok (.putfield 43, 3) := by decide +kernel
theorem dX0_init_60 : decode cX0_init 60 = .ok (.aload_n 0, 1) := by decide +kernel
theorem dX0_init_61 : decode cX0_init 61 = .ok (.iconst 0, 1) := by decide +kernel
theorem dX0_init_62 : decode cX0_init 62 = .ok (.putfield 46, 3) := by decide +kernel
theorem dX0_init_65 : decode cX0_init 65 = .ok (.aload_n 0, 1) := by decide +kernel
theorem dX0_init_66 : decode cX0_init 66 = .ok (.iconst 1, 1) := by decide +kernel
theorem dX0_init_67 : decode cX0_init 67 = .ok (.putfield 49, 3) := by decide +kernel
theorem dX0_init_70 : decode cX0_init 70 = .ok (.aload_n 0, 1) := by decide +kernel
theorem dX0_init_71 : decode cX0_init 71 = .ok (.iconst 0, 1) := by decide +kernel
theorem dX0_init_72 : decode cX0_init 72 = .ok (.putfield 52, 3) := by decide +kernel
theorem dX0_init_75 : decode cX0_init 75 = .ok (.aload_n 0, 1) := by decide +kernel
theorem dX0_init_76 : decode cX0_init 76 = .ok (.iconst 3, 1) := by decide +kernel
theorem dX0_init_77 : decode cX0_init 77 = .ok (.newarray .int, 2) := by decide +kernel
theorem dX0_init_79 : decode cX0_init 79 = .ok (.dup, 1) := by decide +kernel
theorem dX0_init_80 : decode cX0_init 80 = .ok (.iconst 0, 1) := by decide +kernel
theorem dX0_init_81 : decode cX0_init 81 = .ok (.ldc 55, 2) := by decide +kernel
theorem dX0_init_83 : decode cX0_init 83 = .ok (.iastore, 1) := by decide +kernel
theorem dX0_init_84 : decode cX0_init 84 = .ok (.dup, 1) := by decide +kernel
theorem dX0_init_85 : decode cX0_init 85 = .ok (.iconst 1, 1) := by decide +kernel
theorem dX0_init_86 : decode cX0_init 86 = .ok (.ldc 55, 2) := by decide +kernel
theorem dX0_init_88 : decode cX0_init 88 = .ok (.iastore, 1) := by decide +kernel
theorem dX0_init_89 : decode cX0_init 89 = .ok (.dup, 1) := by decide +kernel
theorem dX0_init_90 : decode cX0_init 90 = .ok (.iconst 2, 1) := by decide +kernel
theorem dX0_init_91 : decode cX0_init 91 = .ok (.ldc 55, 2) := by decide +kernel
theorem dX0_init_93 : decode cX0_init 93 = .ok (.iastore, 1) := by decide +kernel
theorem dX0_init_94 : decode cX0_init 94 = .ok (.putfield 56, 3) := by decide +kernel
theorem dX0_init_97 : decode cX0_init 97 = .ok (.aload_n 0, 1) := by decide +kernel
theorem dX0_init_98 : decode cX0_init 98 = .ok (.bipush 12, 2) := by decide +kernel
theorem dX0_init_100 : decode cX0_init 100 = .ok (.newarray .int, 2) := by decide +kernel
theorem dX0_init_102 : decode cX0_init 102 = .ok (.putfield 60, 3) := by decide +kernel
theorem dX0_init_105 : decode cX0_init 105 = .ok (.aload_n 0, 1) := by decide +kernel
theorem dX0_init_106 : decode cX0_init 106 = .ok (.bipush 12, 2) := by decide +kernel
theorem dX0_init_108 : decode cX0_init 108 = .ok (.newarray .int, 2) := by decide +kernel
theorem dX0_init_110 : decode cX0_init 110 = .ok (.putfield 63, 3) := by decide +kernel
theorem dX0_init_113 : decode cX0_init 113 = .ok (.aload_n 0, 1) := by decide +kernel
theorem dX0_init_114 : decode cX0_init 114 = .ok (.ldc 55, 2) := by decide +kernel
theorem dX0_init_116 : decode cX0_init 116 = .ok (.putfield 66, 3) := by decide +kernel
theorem dX0_init_119 : decode cX0_init 119 = .ok (.aload_n 0, 1) := by decide +kernel
theorem dX0_init_120 : decode cX0_init 120 = .ok (.aload_n 1, 1) := by decide +kernel
theorem dX0_init_121 : decode cX0_init 121 = .ok (.putfield 69, 3) := by decide +kernel
theorem dX0_init_124 : decode cX0_init 124 = .ok (.iconst 0, 1) := by decide +kernel
theorem dX0_init_125 : decode cX0_init 125 = .ok (.istore_n 2, 1) := by decide +kernel
theorem dX0_init_126 : decode cX0_init 126 = .ok (.iload_n 2, 1) := by decide +kernel
theorem dX0_init_127 : decode cX0_init 127 = .ok (.aload_n 0, 1) := by decide +kernel
theorem dX0_init_128 : decode cX0_init 128 = .ok (.getfield 20, 3) := by decide +kernel
theorem dX0_init_131 : decode cX0_init 131 = .ok (.arraylength, 1) := by decide +kernel
theorem dX0_init_132 : decode cX0_init 132 = .ok (.if_icmp .ge 22, 3) := by decide +kernel
theorem dX0_init_135 : decode cX0_init 135 = .ok (.aload_n 0, 1) := by decide +kernel
theorem dX0_init_136 : decode cX0_init 136 = .ok (.getfield 20, 3) := by decide +kernel
theorem dX0_init_139 : decode cX0_init 139 = .ok (.iload_n 2, 1) := by decide +kernel
theorem dX0_init_140 : decode cX0_init 140 = .ok (.new 18, 3) := by decide +kernel
theorem dX0_init_143 : decode cX0_init 143 = .ok (.dup, 1) := by decide +kernel
theorem dX0_init_144 : decode cX0_init 144 = .ok (.invokespecial 73, 3) := by decide +kernel
theorem dX0_init_147 : decode cX0_init 147 = .ok (.aastore, 1) := by decide +kernel
theorem dX0_init_148 : decode cX0_init 148 = .ok (.iinc 2 1, 3) := by decide +kernel
theorem dX0_init_151 : decode cX0_init 151 = .ok (.goto (-25), 3) := by decide +kernel
theorem dX0_init_154 : decode cX0_init 154 = .ok (.return_, 1) := by decide +kernel
theorem dX0_takeFrom_0 : decode cX0_takeFrom 0 = .ok (.aload_n 0, 1) := by decide +kernel
theorem dX0_takeFrom_1 : decode cX0_takeFrom 1 = .ok (.getfield 12, 3) := by decide +kernel
theorem dX0_takeFrom_4 : decode cX0_takeFrom 4 = .ok (.aload_n 1, 1) := by decide +kernel
theorem dX0_takeFrom_5 : decode cX0_takeFrom 5 = .ok (.getfield 12, 3) := by decide +kernel
theorem dX0_takeFrom_8 : decode cX0_takeFrom 8 = .ok (.invokevirtual 74, 3) := by decide +kernel
theorem dX0_takeFrom_11 : decode cX0_takeFrom 11 = .ok (.aload_n 0, 1) := by decide +kernel
theorem dX0_takeFrom_12 : decode cX0_takeFrom 12 = .ok (.aload_n 1, 1) := by decide +kernel
theorem dX0_takeFrom_13 : decode cX0_takeFrom 13 = .ok (.getfield 24, 3) := by decide +kernel
theorem dX0_takeFrom_16 : decode cX0_takeFrom 16 = .ok (.putfield 24, 3) := by decide +kernel
theorem dX0_takeFrom_19 : decode cX0_takeFrom 19 = .ok (.iconst 0, 1) := by decide +kernel
theorem dX0_takeFrom_20 : decode cX0_takeFrom 20 = .ok (.istore_n 2, 1) := by decide +kernel
theorem dX0_takeFrom_21 : decode cX0_takeFrom 21 = .ok (.iload_n 2, 1) := by decide +kernel
theorem dX0_takeFrom_22 : decode cX0_takeFrom 22 = .ok (.aload_n 0, 1) := by decide +kernel
theorem dX0_takeFrom_23 : decode cX0_takeFrom 23 = .ok (.getfield 24, 3) := by decide +kernel
theorem dX0_takeFrom_26 : decode cX0_takeFrom 26 = .ok (.if_icmp .ge 24, 3) := by decide +kernel
theorem dX0_takeFrom_29 : decode cX0_takeFrom 29 = .ok (.aload_n 0, 1) := by decide +kernel
theorem dX0_takeFrom_30 : decode cX0_takeFrom 30 = .ok (.getfield 20, 3) := by decide +kernel
theorem dX0_takeFrom_33 : decode cX0_takeFrom 33 = .ok (.iload_n 2, 1) := by decide +kernel
theorem dX0_takeFrom_34 : decode cX0_takeFrom 34 = .ok (.aaload, 1) := by decide +kernel
theorem dX0_takeFrom_35 : decode cX0_takeFrom 35 = .ok (.aload_n 1, 1) := by decide +kernel
theorem dX0_takeFrom_36 : decode cX0_takeFrom 36 = .ok (.getfield 20, 3) := by decide +kernel
theorem dX0_takeFrom_39 : decode cX0_takeFrom 39 = .ok (.iload_n 2, 1) := by decide +kernel
theorem dX0_takeFrom_40 : decode cX0_takeFrom 40 = .ok (.aaload, 1) := by decide +kernel
theorem dX0_takeFrom_41 : decode cX0_takeFrom 41 = .ok (.invokevirtual 78, 3) := by decide +kernel
theorem dX0_takeFrom_44 : decode cX0_takeFrom 44 = .ok (.iinc 2 1, 3) := by decide +kernel
theorem dX0_takeFrom_47 : decode cX0_takeFrom 47 = .ok (.goto (-26), 3) := by decide +kernel
theorem dX0_takeFrom_50 : decode cX0_takeFrom 50 = .ok (.aload_n 0, 1) := by decide +kernel
theorem dX0_takeFrom_51 : decode cX0_takeFrom 51 = .ok (.aload_n 1, 1) := by decide +kernel
theorem dX0_takeFrom_52 : decode cX0_takeFrom 52 = .ok (.getfield 28, 3) := by decide +kernel
theorem dX0_takeFrom_55 : decode cX0_takeFrom 55 = .ok (.putfield 28, 3) := by decide +kernel
theorem dX0_takeFrom_58 : decode cX0_takeFrom 58 = .ok (.aload_n 0, 1) := by decide +kernel
theorem dX0_takeFrom_59 : decode cX0_takeFrom 59 = .ok (.aload_n 1, 1) := by decide +kernel
theorem dX0_takeFrom_60 : decode cX0_takeFrom 60 = .ok (.getfield 31, 3) := by decide +kernel
theorem dX0_takeFrom_63 : decode cX0_takeFrom 63 = .ok (.putfield 31, 3) := by decide +kernel
theorem dX0_takeFrom_66 : decode cX0_takeFrom 66 = .ok (.aload_n 0, 1) := by decide +kernel
theorem dX0_takeFrom_67 : decode cX0_takeFrom 67 = .ok (.aload_n 1, 1) := by decide +kernel
theorem dX0_takeFrom_68 : decode cX0_takeFrom 68 = .ok (.getfield 34, 3) := by decide +kernel
theorem dX0_takeFrom_71 : decode cX0_takeFrom 71 = .ok (.putfield 34, 3) := by decide +kernel
theorem dX0_takeFrom_74 : decode cX0_takeFrom 74 = .ok (.aload_n 0, 1) := by decide +kernel
theorem dX0_takeFrom_75 : decode cX0_takeFrom 75 = .ok (.aload_n 1, 1) := by decide +kernel
theorem dX0_takeFrom_76 : decode cX0_takeFrom 76 = .ok (.getfield 37, 3) := by decide +kernel
theorem dX0_takeFrom_79 : decode cX0_takeFrom 79 = .ok (.putfield 37, 3) := by decide +kernel
theorem dX0_takeFrom_82 : decode cX0_takeFrom 82 = .ok (.aload_n 0, 1) := by decide +kernel
theorem dX0_takeFrom_83 : decode cX0_takeFrom 83 = .ok (.aload_n 1, 1) := by decide +kernel
theorem dX0_takeFrom_84 : decode cX0_takeFrom 84 = .ok (.getfield 40, 3) := by decide +kernel
theorem dX0_takeFrom_87 : decode cX0_takeFrom 87 = .ok (.putfield 40, 3) := by decide +kernel
theorem dX0_takeFrom_90 : decode cX0_takeFrom 90 = .ok (.aload_n 0, 1) := by decide +kernel
theorem dX0_takeFrom_91 : decode cX0_takeFrom 91 = .ok (.aload_n 1, 1) := by decide +kernel
theorem dX0_takeFrom_92 : decode cX0_takeFrom 92 = .ok (.getfield 43, 3) := by decide +kernel
theorem dX0_takeFrom_95 : decode cX0_takeFrom 95 = .ok (.putfield 43, 3) := by decide +kernel
theorem dX0_takeFrom_98 : decode cX0_takeFrom 98 = .ok (.aload_n 0, 1) := by decide +kernel
theorem dX0_takeFrom_99 : decode cX0_takeFrom 99 = .ok (.aload_n 1, 1) := by decide +kernel
theorem dX0_takeFrom_100 : decode cX0_takeFrom 100 = .ok (.getfield 46, 3) := by decide +kernel
theorem dX0_takeFrom_103 : decode cX0_takeFrom 103 = .ok (.putfield 46, 3) := by decide +kernel
theorem dX0_takeFrom_106 : decode cX0_takeFrom 106 = .ok (.aload_n 0, 1) := by decide +kernel
theorem dX0_takeFrom_107 : decode cX0_takeFrom 107 = .ok (.aload_n 1, 1) := by decide +kernel
theorem dX0_takeFrom_108 : decode cX0_takeFrom 108 = .ok (.getfield 49, 3) := by decide +kernel
theorem dX0_takeFrom_111 : decode cX0_takeFrom 111 = .ok (.putfield 49, 3) := by decide +kernel
theorem dX0_takeFrom_114 : decode cX0_takeFrom 114 = .ok (.aload_n 0, 1) := by decide +kernel
theorem dX0_takeFrom_115 : decode cX0_takeFrom 115 = .ok (.aload_n 1, 1) := by decide +kernel
theorem dX0_takeFrom_116 : decode cX0_takeFrom 116 = .ok (.getfield 52, 3) := by decide +kernel
theorem dX0_takeFrom_119 : decode cX0_takeFrom 119 = .ok (.putfield 52, 3) := by decide +kernel
theorem dX0_takeFrom_122 : decode cX0_takeFrom 122 = .ok (.aload_n 1, 1) := by decide +kernel
theorem dX0_takeFrom_123 : decode cX0_takeFrom 123 = .ok (.getfield 56, 3) := by decide +kernel
theorem dX0_takeFrom_126 : decode cX0_takeFrom 126 = .ok (.iconst 0, 1) := by decide +kernel
theorem dX0_takeFrom_127 : decode cX0_takeFrom 127 = .ok (.aload_n 0, 1) := by decide +kernel
theorem dX0_takeFrom_128 : decode cX0_takeFrom 128 = .ok (.getfield 56, 3) := by decide +kernel
theorem dX0_takeFrom_131 : decode cX0_takeFrom 131 = .ok (.iconst 0, 1) := by decide +kernel
theorem dX0_takeFrom_132 : decode cX0_takeFrom 132 = .ok (.aload_n 0, 1) := by decide +kernel
theorem dX0_takeFrom_133 : decode cX0_takeFrom 133 = .ok (.getfield 56, 3) := by decide +kernel
theorem dX0_takeFrom_136 : decode cX0_takeFrom 136 = .ok (.arraylength, 1) := by decide +kernel
theorem dX0_takeFrom_137 : decode cX0_takeFrom 137 = .ok (.invokestatic 81, 3) := by decide +kernel
theorem dX0_takeFrom_140 : decode cX0_takeFrom 140 = .ok (.return_, 1) := by decide +kernel
theorem dX0_hasWatcher_0 : decode cX0_hasWatcher 0 = .ok (.iload_n 1, 1) := by decide +kernel
theorem dX0_hasWatcher_1 : decode cX0_hasWatcher 1 = .ok (.iconst 0, 1) := by decide +kernel
theorem dX0_hasWatcher_2 : decode cX0_hasWatcher 2 = .ok (.aload_n 0, 1) := by decide +kernel
theorem dX0_hasWatcher_3 : decode cX0_hasWatcher 3 = .ok (.getfield 24, 3) := by decide +kernel
theorem dX0_hasWatcher_6 : decode cX0_hasWatcher 6 = .ok (.iconst 1, 1) := by decide +kernel
theorem dX0_hasWatcher_7 : decode cX0_hasWatcher 7 = .ok (.isub, 1) := by decide +kernel
theorem dX0_hasWatcher_8 : decode cX0_hasWatcher 8 = .ok (.invokestatic 87, 3) := by decide +kernel
theorem dX0_hasWatcher_11 : decode cX0_hasWatcher 11 = .ok (.ireturn, 1) := by decide +kernel
theorem dX0_hires_0 : decode cX0_hires 0 = .ok (.aload_n 0, 1) := by decide +kernel
theorem dX0_hires_1 : decode cX0_hires 1 = .ok (.getfield 24, 3) := by decide +kernel
theorem dX0_hires_4 : decode cX0_hires 4 = .ok (.bipush 8, 2) := by decide +kernel
theorem dX0_hires_6 : decode cX0_hires 6 = .ok (.if_icmp .lt 6, 3) := by decide +kernel
theorem dX0_hires_9 : decode cX0_hires 9 = .ok (.ldc 91, 2) := by decide +kernel
theorem dX0_hires_11 : decode cX0_hires 11 = .ok (.ireturn, 1) := by decide +kernel
theorem dX0_hires_12 : decode cX0_hires 12 = .ok (.aload_n 0, 1) := by decide +kernel
theorem dX0_hires_13 : decode cX0_hires 13 = .ok (.getfield 20, 3) := by decide +kernel
theorem dX0_hires_16 : decode cX0_hires 16 = .ok (.aload_n 0, 1) := by decide +kernel
theorem dX0_hires_17 : decode cX0_hires 17 = .ok (.getfield 24, 3) := by decide +kernel
theorem dX0_hires_20 : decode cX0_hires 20 = .ok (.aaload, 1) := by decide +kernel
theorem dX0_hires_21 : decode cX0_hires 21 = .ok (.astore 4, 2) := by decide +kernel
theorem dX0_hires_23 : decode cX0_hires 23 = .ok (.aload 4, 2) := by decide +kernel
theorem dX0_hires_25 : decode cX0_hires 25 = .ok (.iload_n 1, 1) := by decide +kernel
theorem dX0_hires_26 : decode cX0_hires 26 = .ok (.putfield 92, 3) := by decide +kernel
theorem dX0_hires_29 : decode cX0_hires 29 = .ok (.aload 4, 2) := by decide +kernel
theorem dX0_hires_31 : decode cX0_hires 31 = .ok (.iload_n 2, 1) := by decide +kernel
theorem dX0_hires_32 : decode cX0_hires 32 = .ok (.putfield 95, 3) := by decide +kernel
theorem dX0_hires_35 : decode cX0_hires 35 = .ok (.aload 4, 2) := by decide +kernel
theorem dX0_hires_37 : decode cX0_hires 37 = .ok (.iload_n 3, 1) := by decide +kernel
theorem dX0_hires_38 : decode cX0_hires 38 = .ok (.putfield 98, 3) := by decide +kernel
theorem dX0_hires_41 : decode cX0_hires 41 = .ok (.aload 4, 2) := by decide +kernel
theorem dX0_hires_43 : decode cX0_hires 43 = .ok (.iconst 0, 1) := by decide +kernel
theorem dX0_hires_44 : decode cX0_hires 44 = .ok (.putfield 101, 3) := by decide +kernel
theorem dX0_hires_47 : decode cX0_hires 47 = .ok (.aload 4, 2) := by decide +kernel
theorem dX0_hires_49 : decode cX0_hires 49 = .ok (.iconst 0, 1) := by decide +kernel
theorem dX0_hires_50 : decode cX0_hires 50 = .ok (.putfield 104, 3) := by decide +kernel
theorem dX0_hires_53 : decode cX0_hires 53 = .ok (.aload_n 0, 1) := by decide +kernel
theorem dX0_hires_54 : decode cX0_hires 54 = .ok (.dup, 1) := by decide +kernel
theorem dX0_hires_55 : decode cX0_hires 55 = .ok (.getfield 24, 3) := by decide +kernel
theorem dX0_hires_58 : decode cX0_hires 58 = .ok (.iconst 1, 1) := by decide +kernel
theorem dX0_hires_59 : decode cX0_hires 59 = .ok (.iadd, 1) := by decide +kernel
theorem dX0_hires_60 : decode cX0_hires 60 = .ok (.putfield 24, 3) := by decide +kernel
theorem dX0_hires_63 : decode cX0_hires 63 = .ok (.aload_n 0, 1) := by decide +kernel
theorem dX0_hires_64 : decode cX0_hires 64 = .ok (.getfield 24, 3) := by decide +kernel
theorem dX0_hires_67 : decode cX0_hires 67 = .ok (.iconst 1, 1) := by decide +kernel
theorem dX0_hires_68 : decode cX0_hires 68 = .ok (.isub, 1) := by decide +kernel
theorem dX0_hires_69 : decode cX0_hires 69 = .ok (.ireturn, 1) := by decide +kernel
theorem dX0_draw_0 : decode cX0_draw 0 = .ok (.aload_n 0, 1) := by decide +kernel
theorem dX0_draw_1 : decode cX0_draw 1 = .ok (.aload_n 0, 1) := by decide +kernel
theorem dX0_draw_2 : decode cX0_draw 2 = .ok (.getfield 49, 3) := by decide +kernel
theorem dX0_draw_5 : decode cX0_draw 5 = .ok (.ldc 107, 2) := by decide +kernel
theorem dX0_draw_7 : decode cX0_draw 7 = .ok (.imul, 1) := by decide +kernel
theorem dX0_draw_8 : decode cX0_draw 8 = .ok (.sipush 12345, 3) := by decide +kernel
theorem dX0_draw_11 : decode cX0_draw 11 = .ok (.iadd, 1) := by decide +kernel
theorem dX0_draw_12 : decode cX0_draw 12 = .ok (.putfield 49, 3) := by decide +kernel
theorem dX0_draw_15 : decode cX0_draw 15 = .ok (.aload_n 0, 1) := by decide +kernel
theorem dX0_draw_16 : decode cX0_draw 16 = .ok (.getfield 49, 3) := by decide +kernel
theorem dX0_draw_19 : decode cX0_draw 19 = .ok (.bipush 8, 2) := by decide +kernel
theorem dX0_draw_21 : decode cX0_draw 21 = .ok (.iushr, 1) := by decide +kernel
theorem dX0_draw_22 : decode cX0_draw 22 = .ok (.ireturn, 1) := by decide +kernel
theorem dX0_onMany_0 : decode cX0_onMany 0 = .ok (.iconst 0, 1) := by decide +kernel
theorem dX0_onMany_1 : decode cX0_onMany 1 = .ok (.istore_n 1, 1) := by decide +kernel
theorem dX0_onMany_2 : decode cX0_onMany 2 = .ok (.iconst 0, 1) := by decide +kernel
theorem dX0_onMany_3 : decode cX0_onMany 3 = .ok (.istore_n 2, 1) := by decide +kernel
theorem dX0_onMany_4 : decode cX0_onMany 4 = .ok (.iload_n 2, 1) := by decide +kernel
theorem dX0_onMany_5 : decode cX0_onMany 5 = .ok (.aload_n 0, 1) := by decide +kernel
theorem dX0_onMany_6 : decode cX0_onMany 6 = .ok (.getfield 24, 3) := by decide +kernel
theorem dX0_onMany_9 : decode cX0_onMany 9 = .ok (.if_icmp .ge 21, 3) := by decide +kernel
theorem dX0_onMany_12 : decode cX0_onMany 12 = .ok (.iload_n 1, 1) := by decide +kernel
theorem dX0_onMany_13 : decode cX0_onMany 13 = .ok (.aload_n 0, 1) := by decide +kernel
theorem dX0_onMany_14 : decode cX0_onMany 14 = .ok (.getfield 20, 3) := by decide +kernel
theorem dX0_onMany_17 : decode cX0_onMany 17 = .ok (.iload_n 2, 1) := by decide +kernel
theorem dX0_onMany_18 : decode cX0_onMany 18 = .ok (.aaload, 1) := by decide +kernel
theorem dX0_onMany_19 : decode cX0_onMany 19 = .ok (.getfield 104, 3) := by decide +kernel
theorem dX0_onMany_22 : decode cX0_onMany 22 = .ok (.iadd, 1) := by decide +kernel
theorem dX0_onMany_23 : decode cX0_onMany 23 = .ok (.istore_n 1, 1) := by decide +kernel
theorem dX0_onMany_24 : decode cX0_onMany 24 = .ok (.iinc 2 1, 3) := by decide +kernel
theorem dX0_onMany_27 : decode cX0_onMany 27 = .ok (.goto (-23), 3) := by decide +kernel
theorem dX0_onMany_30 : decode cX0_onMany 30 = .ok (.iload_n 1, 1) := by decide +kernel
theorem dX0_onMany_31 : decode cX0_onMany 31 = .ok (.ireturn, 1) := by decide +kernel
theorem dX0_wakesOnly_0 : decode cX0_wakesOnly 0 = .ok (.iconst 0, 1) := by decide +kernel
theorem dX0_wakesOnly_1 : decode cX0_wakesOnly 1 = .ok (.istore_n 2, 1) := by decide +kernel
theorem dX0_wakesOnly_2 : decode cX0_wakesOnly 2 = .ok (.iload_n 2, 1) := by decide +kernel
theorem dX0_wakesOnly_3 : decode cX0_wakesOnly 3 = .ok (.aload_n 0, 1) := by decide +kernel
theorem dX0_wakesOnly_4 : decode cX0_wakesOnly 4 = .ok (.getfield 24, 3) := by decide +kernel
theorem dX0_wakesOnly_7 : decode cX0_wakesOnly 7 = .ok (.if_icmp .ge 28, 3) := by decide +kernel
theorem dX0_wakesOnly_10 : decode cX0_wakesOnly 10 = .ok (.aload_n 0, 1) := by decide +kernel
theorem dX0_wakesOnly_11 : decode cX0_wakesOnly 11 = .ok (.getfield 20, 3) := by decide +kernel
theorem dX0_wakesOnly_14 : decode cX0_wakesOnly 14 = .ok (.iload_n 2, 1) := by decide +kernel
theorem dX0_wakesOnly_15 : decode cX0_wakesOnly 15 = .ok (.aaload, 1) := by decide +kernel
theorem dX0_wakesOnly_16 : decode cX0_wakesOnly 16 = .ok (.iload_n 2, 1) := by decide +kernel
theorem dX0_wakesOnly_17 : decode cX0_wakesOnly 17 = .ok (.iload_n 1, 1) := by decide +kernel
theorem dX0_wakesOnly_18 : decode cX0_wakesOnly 18 = .ok (.if_icmp .ne 7, 3) := by decide +kernel
theorem dX0_wakesOnly_21 : decode cX0_wakesOnly 21 = .ok (.iconst 1, 1) := by decide +kernel
theorem dX0_wakesOnly_22 : decode cX0_wakesOnly 22 = .ok (.goto 4, 3) := by decide +kernel
theorem dX0_wakesOnly_25 : decode cX0_wakesOnly 25 = .ok (.iconst 0, 1) := by decide +kernel
theorem dX0_wakesOnly_26 : decode cX0_wakesOnly 26 = .ok (.putfield 104, 3) := by decide +kernel
theorem dX0_wakesOnly_29 : decode cX0_wakesOnly 29 = .ok (.iinc 2 1, 3) := by decide +kernel
theorem dX0_wakesOnly_32 : decode cX0_wakesOnly 32 = .ok (.goto (-30), 3) := by decide +kernel
theorem dX0_wakesOnly_35 : decode cX0_wakesOnly 35 = .ok (.return_, 1) := by decide +kernel
theorem dX0_byLaw_0 : decode cX0_byLaw 0 = .ok (.aload_n 0, 1) := by decide +kernel
theorem dX0_byLaw_1 : decode cX0_byLaw 1 = .ok (.getfield 56, 3) := by decide +kernel
theorem dX0_byLaw_4 : decode cX0_byLaw 4 = .ok (.iload_n 1, 1) := by decide +kernel
theorem dX0_byLaw_5 : decode cX0_byLaw 5 = .ok (.iaload, 1) := by decide +kernel
theorem dX0_byLaw_6 : decode cX0_byLaw 6 = .ok (.istore 6, 2) := by decide +kernel
theorem dX0_byLaw_8 : decode cX0_byLaw 8 = .ok (.iload 6, 2) := by decide +kernel
theorem dX0_byLaw_10 : decode cX0_byLaw 10 = .ok (.iconst 0, 1) := by decide +kernel
theorem dX0_byLaw_11 : decode cX0_byLaw 11 = .ok (.aload_n 0, 1) := by decide +kernel
theorem dX0_byLaw_12 : decode cX0_byLaw 12 = .ok (.getfield 52, 3) := by decide +kernel
theorem dX0_byLaw_15 : decode cX0_byLaw 15 = .ok (.iconst 1, 1) := by decide +kernel
theorem dX0_byLaw_16 : decode cX0_byLaw 16 = .ok (.isub, 1) := by decide +kernel
theorem dX0_byLaw_17 : decode cX0_byLaw 17 = .ok (.invokestatic 87, 3) := by decide +kernel
theorem dX0_byLaw_20 : decode cX0_byLaw 20 = .ok (.ifCond .eq 20, 3) := by decide +kernel
theorem dX0_byLaw_23 : decode cX0_byLaw 23 = .ok (.aload_n 0, 1) := by decide +kernel
theorem dX0_byLaw_24 : decode cX0_byLaw 24 = .ok (.getfield 69, 3) := by decide +kernel
theorem dX0_byLaw_27 : decode cX0_byLaw 27 = .ok (.iload 6, 2) := by decide +kernel
theorem dX0_byLaw_29 : decode cX0_byLaw 29 = .ok (.aaload, 1) := by decide +kernel
theorem dX0_byLaw_30 : decode cX0_byLaw 30 = .ok (.iload_n 2, 1) := by decide +kernel
theorem dX0_byLaw_31 : decode cX0_byLaw 31 = .ok (.iload_n 3, 1) := by decide +kernel
theorem dX0_byLaw_32 : decode cX0_byLaw 32 = .ok (.iload 4, 2) := by decide +kernel
theorem dX0_byLaw_34 : decode cX0_byLaw 34 = .ok (.invokevirtual 108, 3) := by decide +kernel
theorem dX0_byLaw_37 : decode cX0_byLaw 37 = .ok (.goto 5, 3) := by decide +kernel
theorem dX0_byLaw_40 : decode cX0_byLaw 40 = .ok (.iload 5, 2) := by decide +kernel
theorem dX0_byLaw_42 : decode cX0_byLaw 42 = .ok (.ireturn, 1) := by decide +kernel
theorem dX0_lightBy_0 : decode cX0_lightBy 0 = .ok (.aload_n 0, 1) := by decide +kernel
theorem dX0_lightBy_1 : decode cX0_lightBy 1 = .ok (.iconst 0, 1) := by decide +kernel
theorem dX0_lightBy_2 : decode cX0_lightBy 2 = .ok (.iload_n 1, 1) := by decide +kernel
theorem dX0_lightBy_3 : decode cX0_lightBy 3 = .ok (.iload_n 2, 1) := by decide +kernel
theorem dX0_lightBy_4 : decode cX0_lightBy 4 = .ok (.aload_n 0, 1) := by decide +kernel
theorem dX0_lightBy_5 : decode cX0_lightBy 5 = .ok (.getfield 28, 3) := by decide +kernel
theorem dX0_lightBy_8 : decode cX0_lightBy 8 = .ok (.iconst 2, 1) := by decide +kernel
theorem dX0_lightBy_9 : decode cX0_lightBy 9 = .ok (.iload_n 1, 1) := by decide +kernel
theorem dX0_lightBy_10 : decode cX0_lightBy 10 = .ok (.imul, 1) := by decide +kernel
theorem dX0_lightBy_11 : decode cX0_lightBy 11 = .ok (.iload_n 2, 1) := by decide +kernel
theorem dX0_lightBy_12 : decode cX0_lightBy 12 = .ok (.iadd, 1) := by decide +kernel
theorem dX0_lightBy_13 : decode cX0_lightBy 13 = .ok (.invokevirtual 114, 3) := by decide +kernel
theorem dX0_lightBy_16 : decode cX0_lightBy 16 = .ok (.iconst 0, 1) := by decide +kernel
theorem dX0_lightBy_17 : decode cX0_lightBy 17 = .ok (.bipush 99, 2) := by decide +kernel
theorem dX0_lightBy_19 : decode cX0_lightBy 19 = .ok (.invokestatic 118, 3) := by decide +kernel
theorem dX0_lightBy_22 : decode cX0_lightBy 22 = .ok (.ireturn, 1) := by decide +kernel
theorem dX0_measure_0 : decode cX0_measure 0 = .ok (.iconst 0, 1) := by decide +kernel
theorem dX0_measure_1 : decode cX0_measure 1 = .ok (.istore_n 1, 1) := by decide +kernel
theorem dX0_measure_2 : decode cX0_measure 2 = .ok (.iload_n 1, 1) := by decide +kernel
theorem dX0_measure_3 : decode cX0_measure 3 = .ok (.aload_n 0, 1) := by decide +kernel
theorem dX0_measure_4 : decode cX0_measure 4 = .ok (.getfield 12, 3) := by decide +kernel
theorem dX0_measure_7 : decode cX0_measure 7 = .ok (.getfield 121, 3) := by decide +kernel
theorem dX0_measure_10 : decode cX0_measure 10 = .ok (.if_icmp .ge 48, 3) := by decide +kernel
theorem dX0_measure_13 : decode cX0_measure 13 = .ok (.aload_n 0, 1) := by decide +kernel
theorem dX0_measure_14 : decode cX0_measure 14 = .ok (.getfield 60, 3) := by decide +kernel
theorem dX0_measure_17 : decode cX0_measure 17 = .ok (.iload_n 1, 1) := by decide +kernel
theorem dX0_measure_18 : decode cX0_measure 18 = .ok (.aload_n 0, 1) := by decide +kernel
theorem dX0_measure_19 : decode cX0_measure 19 = .ok (.aload_n 0, 1) := by decide +kernel
theorem dX0_measure_20 : decode cX0_measure 20 = .ok (.getfield 12, 3) := by decide +kernel
theorem dX0_measure_23 : decode cX0_measure 23 = .ok (.getfield 124, 3) := by decide +kernel
theorem dX0_measure_26 : decode cX0_measure 26 = .ok (.iload_n 1, 1) := by decide +kernel
theorem dX0_measure_27 : decode cX0_measure 27 = .ok (.iaload, 1) := by decide +kernel
theorem dX0_measure_28 : decode cX0_measure 28 = .ok (.aload_n 0, 1) := by decide +kernel
theorem dX0_measure_29 : decode cX0_measure 29 = .ok (.getfield 12, 3) := by decide +kernel
theorem dX0_measure_32 : decode cX0_measure 32 = .ok (.iload_n 1, 1) := by decide +kernel
theorem dX0_measure_33 : decode cX0_measure 33 = .ok (.invokevirtual 127, 3) := by decide +kernel
theorem dX0_measure_36 : decode cX0_measure 36 = .ok (.invokevirtual 131, 3) := by decide +kernel
theorem dX0_measure_39 : decode cX0_measure 39 = .ok (.iastore, 1) := by decide +kernel
theorem dX0_measure_40 : decode cX0_measure 40 = .ok (.aload_n 0, 1) := by decide +kernel
theorem dX0_measure_41 : decode cX0_measure 41 = .ok (.getfield 63, 3) := by decide +kernel
theorem dX0_measure_44 : decode cX0_measure 44 = .ok (.iload_n 1, 1) := by decide +kernel
theorem dX0_measure_45 : decode cX0_measure 45 = .ok (.aload_n 0, 1) := by decide +kernel
theorem dX0_measure_46 : decode cX0_measure 46 = .ok (.getfield 60, 3) := by decide +kernel
theorem dX0_measure_49 : decode cX0_measure 49 = .ok (.iload_n 1, 1) := by decide +kernel
theorem dX0_measure_50 : decode cX0_measure 50 = .ok (.iaload, 1) := by decide +kernel
theorem dX0_measure_51 : decode cX0_measure 51 = .ok (.iastore, 1) := by decide +kernel
theorem dX0_measure_52 : decode cX0_measure 52 = .ok (.iinc 1 1, 3) := by decide +kernel
theorem dX0_measure_55 : decode cX0_measure 55 = .ok (.goto (-53), 3) := by decide +kernel
theorem dX0_measure_58 : decode cX0_measure 58 = .ok (.iconst 0, 1) := by decide +kernel
theorem dX0_measure_59 : decode cX0_measure 59 = .ok (.istore_n 1, 1) := by decide +kernel
theorem dX0_measure_60 : decode cX0_measure 60 = .ok (.iload_n 1, 1) := by decide +kernel
theorem dX0_measure_61 : decode cX0_measure 61 = .ok (.aload_n 0, 1) := by decide +kernel
theorem dX0_measure_62 : decode cX0_measure 62 = .ok (.getfield 24, 3) := by decide +kernel
theorem dX0_measure_65 : decode cX0_measure 65 = .ok (.if_icmp .ge 49, 3) := by decide +kernel
theorem dX0_measure_68 : decode cX0_measure 68 = .ok (.aload_n 0, 1) := by decide +kernel
theorem dX0_measure_69 : decode cX0_measure 69 = .ok (.getfield 20, 3) := by decide +kernel
theorem dX0_measure_72 : decode cX0_measure 72 = .ok (.iload_n 1, 1) := by decide +kernel
theorem dX0_measure_73 : decode cX0_measure 73 = .ok (.aaload, 1) := by decide +kernel
theorem dX0_measure_74 : decode cX0_measure 74 = .ok (.getfield 95, 3) := by decide +kernel
theorem dX0_measure_77 : decode cX0_measure 77 = .ok (.istore_n 2, 1) := by decide +kernel
theorem dX0_measure_78 : decode cX0_measure 78 = .ok (.aload_n 0, 1) := by decide +kernel
theorem dX0_measure_79 : decode cX0_measure 79 = .ok (.getfield 12, 3) := by decide +kernel
theorem dX0_measure_82 : decode cX0_measure 82 = .ok (.iload_n 2, 1) := by decide +kernel
theorem dX0_measure_83 : decode cX0_measure 83 = .ok (.invokevirtual 135, 3) := by decide +kernel
theorem dX0_measure_86 : decode cX0_measure 86 = .ok (.ifCond .eq 22, 3) := by decide +kernel
theorem dX0_measure_89 : decode cX0_measure 89 = .ok (.aload_n 0, 1) := by decide +kernel
theorem dX0_measure_90 : decode cX0_measure 90 = .ok (.getfield 63, 3) := by decide +kernel
theorem dX0_measure_93 : decode cX0_measure 93 = .ok (.iload_n 2, 1) := by decide +kernel
theorem dX0_measure_94 : decode cX0_measure 94 = .ok (.dup2, 1) := by decide +kernel
theorem dX0_measure_95 : decode cX0_measure 95 = .ok (.iaload, 1) := by decide +kernel
theorem dX0_measure_96 : decode cX0_measure 96 = .ok (.aload_n 0, 1) := by decide +kernel
theorem dX0_measure_97 : decode cX0_measure 97 = .ok (.aload_n 0, 1) := by decide +kernel
theorem dX0_measure_98 : decode cX0_measure 98 = .ok (.getfield 20, 3) := by decide +kernel
theorem dX0_measure_101 : decode cX0_measure 101 = .ok (.iload_n 1, 1) := by decide +kernel
theorem dX0_measure_102 : decode cX0_measure 102 = .ok (.aaload, 1) := by decide +kernel
theorem dX0_measure_103 : decode cX0_measure 103 = .ok (.invokevirtual 139, 3) := by decide +kernel
theorem dX0_measure_106 : decode cX0_measure 106 = .ok (.iadd, 1) := by decide +kernel
theorem dX0_measure_107 : decode cX0_measure 107 = .ok (.iastore, 1) := by decide +kernel
theorem dX0_measure_108 : decode cX0_measure 108 = .ok (.iinc 1 1, 3) := by decide +kernel
theorem dX0_measure_111 : decode cX0_measure 111 = .ok (.goto (-51), 3) := by decide +kernel
theorem dX0_measure_114 : decode cX0_measure 114 = .ok (.return_, 1) := by decide +kernel
theorem dX0_sightOf_0 : decode cX0_sightOf 0 = .ok (.aload_n 0, 1) := by decide +kernel
theorem dX0_sightOf_1 : decode cX0_sightOf 1 = .ok (.getfield 12, 3) := by decide +kernel
theorem dX0_sightOf_4 : decode cX0_sightOf 4 = .ok (.aload_n 1, 1) := by decide +kernel
theorem dX0_sightOf_5 : decode cX0_sightOf 5 = .ok (.getfield 95, 3) := by decide +kernel
theorem dX0_sightOf_8 : decode cX0_sightOf 8 = .ok (.invokevirtual 135, 3) := by decide +kernel
theorem dX0_sightOf_11 : decode cX0_sightOf 11 = .ok (.ifCond .eq 31, 3) := by decide +kernel
theorem dX0_sightOf_14 : decode cX0_sightOf 14 = .ok (.aload_n 1, 1) := by decide +kernel
theorem dX0_sightOf_15 : decode cX0_sightOf 15 = .ok (.aload_n 0, 1) := by decide +kernel
theorem dX0_sightOf_16 : decode cX0_sightOf 16 = .ok (.getfield 60, 3) := by decide +kernel
theorem dX0_sightOf_19 : decode cX0_sightOf 19 = .ok (.aload_n 1, 1) := by decide +kernel
theorem dX0_sightOf_20 : decode cX0_sightOf 20 = .ok (.getfield 95, 3) := by decide +kernel
theorem dX0_sightOf_23 : decode cX0_sightOf 23 = .ok (.iaload, 1) := by decide +kernel
theorem dX0_sightOf_24 : decode cX0_sightOf 24 = .ok (.aload_n 0, 1) := by decide +kernel
theorem dX0_sightOf_25 : decode cX0_sightOf 25 = .ok (.getfield 12, 3) := by decide +kernel
theorem dX0_sightOf_28 : decode cX0_sightOf 28 = .ok (.getfield 143, 3) := by decide +kernel
theorem dX0_sightOf_31 : decode cX0_sightOf 31 = .ok (.aload_n 1, 1) := by decide +kernel
theorem dX0_sightOf_32 : decode cX0_sightOf 32 = .ok (.getfield 95, 3) := by decide +kernel
theorem dX0_sightOf_35 : decode cX0_sightOf 35 = .ok (.iaload, 1) := by decide +kernel
theorem dX0_sightOf_36 : decode cX0_sightOf 36 = .ok (.invokevirtual 146, 3) := by decide +kernel
theorem dX0_sightOf_39 : decode cX0_sightOf 39 = .ok (.goto 4, 3) := by decide +kernel
theorem dX0_sightOf_42 : decode cX0_sightOf 42 = .ok (.iconst 0, 1) := by decide +kernel
theorem dX0_sightOf_43 : decode cX0_sightOf 43 = .ok (.ireturn, 1) := by decide +kernel
theorem dX0_fearsOf_0 : decode cX0_fearsOf 0 = .ok (.aload_n 0, 1) := by decide +kernel
theorem dX0_fearsOf_1 : decode cX0_fearsOf 1 = .ok (.getfield 12, 3) := by decide +kernel
theorem dX0_fearsOf_4 : decode cX0_fearsOf 4 = .ok (.iload_n 1, 1) := by decide +kernel
theorem dX0_fearsOf_5 : decode cX0_fearsOf 5 = .ok (.invokevirtual 135, 3) := by decide +kernel
theorem dX0_fearsOf_8 : decode cX0_fearsOf 8 = .ok (.ifCond .ne 5, 3) := by decide +kernel
theorem dX0_fearsOf_11 : decode cX0_fearsOf 11 = .ok (.iconst 0, 1) := by decide +kernel
theorem dX0_fearsOf_12 : decode cX0_fearsOf 12 = .ok (.ireturn, 1) := by decide +kernel
theorem dX0_fearsOf_13 : decode cX0_fearsOf 13 = .ok (.aload_n 0, 1) := by decide +kernel
theorem dX0_fearsOf_14 : decode cX0_fearsOf 14 = .ok (.getfield 12, 3) := by decide +kernel
theorem dX0_fearsOf_17 : decode cX0_fearsOf 17 = .ok (.getfield 149, 3) := by decide +kernel
theorem dX0_fearsOf_20 : decode cX0_fearsOf 20 = .ok (.iload_n 1, 1) := by decide +kernel
theorem dX0_fearsOf_21 : decode cX0_fearsOf 21 = .ok (.iaload, 1) := by decide +kernel
theorem dX0_fearsOf_22 : decode cX0_fearsOf 22 = .ok (.istore_n 2, 1) := by decide +kernel
theorem dX0_fearsOf_23 : decode cX0_fearsOf 23 = .ok (.aload_n 0, 1) := by decide +kernel
theorem dX0_fearsOf_24 : decode cX0_fearsOf 24 = .ok (.iconst 1, 1) := by decide +kernel
theorem dX0_fearsOf_25 : decode cX0_fearsOf 25 = .ok (.aload_n 0, 1) := by decide +kernel
theorem dX0_fearsOf_26 : decode cX0_fearsOf 26 = .ok (.getfield 63, 3) := by decide +kernel
theorem dX0_fearsOf_29 : decode cX0_fearsOf 29 = .ok (.iload_n 1, 1) := by decide +kernel
theorem dX0_fearsOf_30 : decode cX0_fearsOf 30 = .ok (.iaload, 1) := by decide +kernel
theorem dX0_fearsOf_31 : decode cX0_fearsOf 31 = .ok (.iload_n 2, 1) := by decide +kernel
theorem dX0_fearsOf_32 : decode cX0_fearsOf 32 = .ok (.aload_n 0, 1) := by decide +kernel
theorem dX0_fearsOf_33 : decode cX0_fearsOf 33 = .ok (.getfield 34, 3) := by decide +kernel
theorem dX0_fearsOf_36 : decode cX0_fearsOf 36 = .ok (.aload_n 0, 1) := by decide +kernel
theorem dX0_fearsOf_37 : decode cX0_fearsOf 37 = .ok (.getfield 63, 3) := by decide +kernel
theorem dX0_fearsOf_40 : decode cX0_fearsOf 40 = .ok (.iload_n 1, 1) := by decide +kernel
theorem dX0_fearsOf_41 : decode cX0_fearsOf 41 = .ok (.iaload, 1) := by decide +kernel
theorem dX0_fearsOf_42 : decode cX0_fearsOf 42 = .ok (.iload_n 2, 1) := by decide +kernel
theorem dX0_fearsOf_43 : decode cX0_fearsOf 43 = .ok (.iadd, 1) := by decide +kernel
theorem dX0_fearsOf_44 : decode cX0_fearsOf 44 = .ok (.invokevirtual 114, 3) := by decide +kernel
theorem dX0_fearsOf_47 : decode cX0_fearsOf 47 = .ok (.iconst 0, 1) := by decide +kernel
theorem dX0_fearsOf_48 : decode cX0_fearsOf 48 = .ok (.sipush 999, 3) := by decide +kernel
theorem dX0_fearsOf_51 : decode cX0_fearsOf 51 = .ok (.invokestatic 118, 3) := by decide +kernel
theorem dX0_fearsOf_54 : decode cX0_fearsOf 54 = .ok (.ireturn, 1) := by decide +kernel
theorem dX0_leastFeared_0 : decode cX0_leastFeared 0 = .ok (.ldc 55, 2) := by decide +kernel
theorem dX0_leastFeared_2 : decode cX0_leastFeared 2 = .ok (.istore_n 1, 1) := by decide +kernel
theorem dX0_leastFeared_3 : decode cX0_leastFeared 3 = .ok (.iconst 0, 1) := by decide +kernel
theorem dX0_leastFeared_4 : decode cX0_leastFeared 4 = .ok (.istore_n 2, 1) := by decide +kernel
theorem dX0_leastFeared_5 : decode cX0_leastFeared 5 = .ok (.iconst 0, 1) := by decide +kernel
theorem dX0_leastFeared_6 : decode cX0_leastFeared 6 = .ok (.istore_n 3, 1) := by decide +kernel
theorem dX0_leastFeared_7 : decode cX0_leastFeared 7 = .ok (.iload_n 3, 1) := by decide +kernel
theorem dX0_leastFeared_8 : decode cX0_leastFeared 8 = .ok (.aload_n 0, 1) := by decide +kernel
theorem dX0_leastFeared_9 : decode cX0_leastFeared 9 = .ok (.getfield 12, 3) := by decide +kernel
theorem dX0_leastFeared_12 : decode cX0_leastFeared 12 = .ok (.getfield 121, 3) := by decide +kernel
theorem dX0_leastFeared_15 : decode cX0_leastFeared 15 = .ok (.if_icmp .ge 40, 3) := by decide +kernel
theorem dX0_leastFeared_18 : decode cX0_leastFeared 18 = .ok (.aload_n 0, 1) := by decide +kernel
theorem dX0_leastFeared_19 : decode cX0_leastFeared 19 = .ok (.getfield 31, 3) := by decide +kernel
theorem dX0_leastFeared_22 : decode cX0_leastFeared 22 = .ok (.ifCond .le 33, 3) := by decide +kernel
theorem dX0_leastFeared_25 : decode cX0_leastFeared 25 = .ok (.aload_n 0, 1) := by decide +kernel
theorem dX0_leastFeared_26 : decode cX0_leastFeared 26 = .ok (.iload_n 3, 1) := by decide +kernel
theorem dX0_leastFeared_27 : decode cX0_leastFeared 27 = .ok (.invokevirtual 152, 3) := by decide +kernel
theorem dX0_leastFeared_30 : decode cX0_leastFeared 30 = .ok (.istore 4, 2) := by decide +kernel
theorem dX0_leastFeared_32 : decode cX0_leastFeared 32 = .ok (.iload_n 1, 1) := by decide +kernel
theorem dX0_leastFeared_33 : decode cX0_leastFeared 33 = .ok (.ldc 55, 2) := by decide +kernel
theorem dX0_leastFeared_35 : decode cX0_leastFeared 35 = .ok (.if_icmp .eq 9, 3) := by decide +kernel
theorem dX0_leastFeared_38 : decode cX0_leastFeared 38 = .ok (.iload 4, 2) := by decide +kernel
theorem dX0_leastFeared_40 : decode cX0_leastFeared 40 = .ok (.iload_n 2, 1) := by decide +kernel
theorem dX0_leastFeared_41 : decode cX0_leastFeared 41 = .ok (.if_icmp .ge 8, 3) := by decide +kernel
theorem dX0_leastFeared_44 : decode cX0_leastFeared 44 = .ok (.iload_n 3, 1) := by decide +kernel
theorem dX0_leastFeared_45 : decode cX0_leastFeared 45 = .ok (.istore_n 1, 1) := by decide +kernel
theorem dX0_leastFeared_46 : decode cX0_leastFeared 46 = .ok (.iload 4, 2) := by decide +kernel
theorem dX0_leastFeared_48 : decode cX0_leastFeared 48 = .ok (.istore_n 2, 1) := by decide +kernel
theorem dX0_leastFeared_49 : decode cX0_leastFeared 49 = .ok (.iinc 3 1, 3) := by decide +kernel
theorem dX0_leastFeared_52 : decode cX0_leastFeared 52 = .ok (.goto (-45), 3) := by decide +kernel
theorem dX0_leastFeared_55 : decode cX0_leastFeared 55 = .ok (.iload_n 1, 1) := by decide +kernel
theorem dX0_leastFeared_56 : decode cX0_leastFeared 56 = .ok (.ireturn, 1) := by decide +kernel
theorem dX0_cameTold_0 : decode cX0_cameTold 0 = .ok (.aload_n 0, 1) := by decide +kernel
theorem dX0_cameTold_1 : decode cX0_cameTold 1 = .ok (.getfield 66, 3) := by decide +kernel
theorem dX0_cameTold_4 : decode cX0_cameTold 4 = .ok (.ldc 55, 2) := by decide +kernel
theorem dX0_cameTold_6 : decode cX0_cameTold 6 = .ok (.if_icmp .ne 8, 3) := by decide +kernel
theorem dX0_cameTold_9 : decode cX0_cameTold 9 = .ok (.bipush 99, 2) := by decide +kernel
theorem dX0_cameTold_11 : decode cX0_cameTold 11 = .ok (.goto 7, 3) := by decide +kernel
theorem dX0_cameTold_14 : decode cX0_cameTold 14 = .ok (.aload_n 0, 1) := by decide +kernel
theorem dX0_cameTold_15 : decode cX0_cameTold 15 = .ok (.getfield 66, 3) := by decide +kernel
theorem dX0_cameTold_18 : decode cX0_cameTold 18 = .ok (.ireturn, 1) := by decide +kernel
theorem dX0_pass_0 : decode cX0_pass 0 = .ok (.iconst 0, 1) := by decide +kernel
theorem dX0_pass_1 : decode cX0_pass 1 = .ok (.istore_n 2, 1) := by decide +kernel
theorem dX0_pass_2 : decode cX0_pass 2 = .ok (.iload_n 2, 1) := by decide +kernel
theorem dX0_pass_3 : decode cX0_pass 3 = .ok (.iload_n 1, 1) := by decide +kernel
theorem dX0_pass_4 : decode cX0_pass 4 = .ok (.if_icmp .ge 62, 3) := by decide +kernel
theorem dX0_pass_7 : decode cX0_pass 7 = .ok (.aload_n 0, 1) := by decide +kernel
theorem dX0_pass_8 : decode cX0_pass 8 = .ok (.invokevirtual 155, 3) := by decide +kernel
theorem dX0_pass_11 : decode cX0_pass 11 = .ok (.pop, 1) := by decide +kernel
theorem dX0_pass_12 : decode cX0_pass 12 = .ok (.aload_n 0, 1) := by decide +kernel
theorem dX0_pass_13 : decode cX0_pass 13 = .ok (.invokevirtual 159, 3) := by decide +kernel
theorem dX0_pass_16 : decode cX0_pass 16 = .ok (.aload_n 0, 1) := by decide +kernel
theorem dX0_pass_17 : decode cX0_pass 17 = .ok (.aload_n 0, 1) := by decide +kernel
theorem dX0_pass_18 : decode cX0_pass 18 = .ok (.invokevirtual 162, 3) := by decide +kernel
theorem dX0_pass_21 : decode cX0_pass 21 = .ok (.putfield 66, 3) := by decide +kernel
theorem dX0_pass_24 : decode cX0_pass 24 = .ok (.aload_n 0, 1) := by decide +kernel
theorem dX0_pass_25 : decode cX0_pass 25 = .ok (.getfield 12, 3) := by decide +kernel
theorem dX0_pass_28 : decode cX0_pass 28 = .ok (.aload_n 0, 1) := by decide +kernel
theorem dX0_pass_29 : decode cX0_pass 29 = .ok (.getfield 66, 3) := by decide +kernel
theorem dX0_pass_32 : decode cX0_pass 32 = .ok (.invokevirtual 135, 3) := by decide +kernel
theorem dX0_pass_35 : decode cX0_pass 35 = .ok (.ifCond .eq 11, 3) := by decide +kernel
theorem dX0_pass_38 : decode cX0_pass 38 = .ok (.aload_n 0, 1) := by decide +kernel
theorem dX0_pass_39 : decode cX0_pass 39 = .ok (.aload_n 0, 1) := by decide +kernel
theorem dX0_pass_40 : decode cX0_pass 40 = .ok (.getfield 66, 3) := by decide +kernel
theorem dX0_pass_43 : decode cX0_pass 43 = .ok (.invokevirtual 166, 3) := by decide +kernel
theorem dX0_pass_46 : decode cX0_pass 46 = .ok (.aload_n 0, 1) := by decide +kernel
theorem dX0_pass_47 : decode cX0_pass 47 = .ok (.invokevirtual 170, 3) := by decide +kernel
theorem dX0_pass_50 : decode cX0_pass 50 = .ok (.aload_n 0, 1) := by decide +kernel
theorem dX0_pass_51 : decode cX0_pass 51 = .ok (.dup, 1) := by decide +kernel
theorem dX0_pass_52 : decode cX0_pass 52 = .ok (.getfield 37, 3) := by decide +kernel
theorem dX0_pass_55 : decode cX0_pass 55 = .ok (.iconst 1, 1) := by decide +kernel
theorem dX0_pass_56 : decode cX0_pass 56 = .ok (.iadd, 1) := by decide +kernel
theorem dX0_pass_57 : decode cX0_pass 57 = .ok (.putfield 37, 3) := by decide +kernel
theorem dX0_pass_60 : decode cX0_pass 60 = .ok (.iinc 2 1, 3) := by decide +kernel
theorem dX0_pass_63 : decode cX0_pass 63 = .ok (.goto (-61), 3) := by decide +kernel
theorem dX0_pass_66 : decode cX0_pass 66 = .ok (.return_, 1) := by decide +kernel
theorem dX0_burn_0 : decode cX0_burn 0 = .ok (.iconst 0, 1) := by decide +kernel
theorem dX0_burn_1 : decode cX0_burn 1 = .ok (.istore_n 1, 1) := by decide +kernel
theorem dX0_burn_2 : decode cX0_burn 2 = .ok (.iconst 0, 1) := by decide +kernel
theorem dX0_burn_3 : decode cX0_burn 3 = .ok (.istore_n 2, 1) := by decide +kernel
theorem dX0_burn_4 : decode cX0_burn 4 = .ok (.iload_n 2, 1) := by decide +kernel
theorem dX0_burn_5 : decode cX0_burn 5 = .ok (.aload_n 0, 1) := by decide +kernel
theorem dX0_burn_6 : decode cX0_burn 6 = .ok (.getfield 12, 3) := by decide +kernel
theorem dX0_burn_9 : decode cX0_burn 9 = .ok (.getfield 121, 3) := by decide +kernel
theorem dX0_burn_12 : decode cX0_burn 12 = .ok (.if_icmp .ge 73, 3) := by decide +kernel
theorem dX0_burn_15 : decode cX0_burn 15 = .ok (.aload_n 0, 1) := by decide +kernel
theorem dX0_burn_16 : decode cX0_burn 16 = .ok (.getfield 12, 3) := by decide +kernel
theorem dX0_burn_19 : decode cX0_burn 19 = .ok (.getfield 124, 3) := by decide +kernel
theorem dX0_burn_22 : decode cX0_burn 22 = .ok (.iload_n 2, 1) := by decide +kernel
theorem dX0_burn_23 : decode cX0_burn 23 = .ok (.iaload, 1) := by decide +kernel
theorem dX0_burn_24 : decode cX0_burn 24 = .ok (.aload_n 0, 1) := by decide +kernel
theorem dX0_burn_25 : decode cX0_burn 25 = .ok (.getfield 28, 3) := by decide +kernel
theorem dX0_burn_28 : decode cX0_burn 28 = .ok (.if_icmp .le 15, 3) := by decide +kernel
theorem dX0_burn_31 : decode cX0_burn 31 = .ok (.aload_n 0, 1) := by decide +kernel
theorem dX0_burn_32 : decode cX0_burn 32 = .ok (.getfield 12, 3) := by decide +kernel
theorem dX0_burn_35 : decode cX0_burn 35 = .ok (.getfield 124, 3) := by decide +kernel
theorem dX0_burn_38 : decode cX0_burn 38 = .ok (.iload_n 2, 1) := by decide +kernel
theorem dX0_burn_39 : decode cX0_burn 39 = .ok (.iconst 0, 1) := by decide +kernel
theorem dX0_burn_40 : decode cX0_burn 40 = .ok (.iastore, 1) := by decide +kernel
theorem dX0_burn_41 : decode cX0_burn 41 = .ok (.iconst 1, 1) := by decide +kernel
theorem dX0_burn_42 : decode cX0_burn 42 = .ok (.istore_n 1, 1) := by decide +kernel
theorem dX0_burn_43 : decode cX0_burn 43 = .ok (.aload_n 0, 1) := by decide +kernel
theorem dX0_burn_44 : decode cX0_burn 44 = .ok (.dup, 1) := by decide +kernel
theorem dX0_burn_45 : decode cX0_burn 45 = .ok (.getfield 28, 3) := by decide +kernel
theorem dX0_burn_48 : decode cX0_burn 48 = .ok (.aload_n 0, 1) := by decide +kernel
theorem dX0_burn_49 : decode cX0_burn 49 = .ok (.getfield 12, 3) := by decide +kernel
theorem dX0_burn_52 : decode cX0_burn 52 = .ok (.getfield 124, 3) := by decide +kernel
theorem dX0_burn_55 : decode cX0_burn 55 = .ok (.iload_n 2, 1) := by decide +kernel
theorem dX0_burn_56 : decode cX0_burn 56 = .ok (.iaload, 1) := by decide +kernel
theorem dX0_burn_57 : decode cX0_burn 57 = .ok (.isub, 1) := by decide +kernel
theorem dX0_burn_58 : decode cX0_burn 58 = .ok (.putfield 28, 3) := by decide +kernel
theorem dX0_burn_61 : decode cX0_burn 61 = .ok (.aload_n 0, 1) := by decide +kernel
theorem dX0_burn_62 : decode cX0_burn 62 = .ok (.dup, 1) := by decide +kernel
theorem dX0_burn_63 : decode cX0_burn 63 = .ok (.getfield 46, 3) := by decide +kernel
theorem dX0_burn_66 : decode cX0_burn 66 = .ok (.aload_n 0, 1) := by decide +kernel
theorem dX0_burn_67 : decode cX0_burn 67 = .ok (.getfield 12, 3) := by decide +kernel
theorem dX0_burn_70 : decode cX0_burn 70 = .ok (.getfield 124, 3) := by decide +kernel
theorem dX0_burn_73 : decode cX0_burn 73 = .ok (.iload_n 2, 1) := by decide +kernel
theorem dX0_burn_74 : decode cX0_burn 74 = .ok (.iaload, 1) := by decide +kernel
theorem dX0_burn_75 : decode cX0_burn 75 = .ok (.iadd, 1) := by decide +kernel
theorem dX0_burn_76 : decode cX0_burn 76 = .ok (.putfield 46, 3) := by decide +kernel
theorem dX0_burn_79 : decode cX0_burn 79 = .ok (.iinc 2 1, 3) := by decide +kernel
theorem dX0_burn_82 : decode cX0_burn 82 = .ok (.goto (-78), 3) := by decide +kernel
theorem dX0_burn_85 : decode cX0_burn 85 = .ok (.iload_n 1, 1) := by decide +kernel
theorem dX0_burn_86 : decode cX0_burn 86 = .ok (.ireturn, 1) := by decide +kernel
theorem dX0_meet_0 : decode cX0_meet 0 = .ok (.aload_n 0, 1) := by decide +kernel
theorem dX0_meet_1 : decode cX0_meet 1 = .ok (.getfield 63, 3) := by decide +kernel
theorem dX0_meet_4 : decode cX0_meet 4 = .ok (.iload_n 1, 1) := by decide +kernel
theorem dX0_meet_5 : decode cX0_meet 5 = .ok (.iaload, 1) := by decide +kernel
theorem dX0_meet_6 : decode cX0_meet 6 = .ok (.aload_n 0, 1) := by decide +kernel
theorem dX0_meet_7 : decode cX0_meet 7 = .ok (.getfield 31, 3) := by decide +kernel
theorem dX0_meet_10 : decode cX0_meet 10 = .ok (.aload_n 0, 1) := by decide +kernel
theorem dX0_meet_11 : decode cX0_meet 11 = .ok (.getfield 34, 3) := by decide +kernel
theorem dX0_meet_14 : decode cX0_meet 14 = .ok (.iadd, 1) := by decide +kernel
theorem dX0_meet_15 : decode cX0_meet 15 = .ok (.if_icmp .ge 56, 3) := by decide +kernel
theorem dX0_meet_18 : decode cX0_meet 18 = .ok (.aload_n 0, 1) := by decide +kernel
theorem dX0_meet_19 : decode cX0_meet 19 = .ok (.getfield 12, 3) := by decide +kernel
theorem dX0_meet_22 : decode cX0_meet 22 = .ok (.getfield 143, 3) := by decide +kernel
theorem dX0_meet_25 : decode cX0_meet 25 = .ok (.iload_n 1, 1) := by decide +kernel
theorem dX0_meet_26 : decode cX0_meet 26 = .ok (.iaload, 1) := by decide +kernel
theorem dX0_meet_27 : decode cX0_meet 27 = .ok (.ifCond .le 44, 3) := by decide +kernel
theorem dX0_meet_30 : decode cX0_meet 30 = .ok (.aload_n 0, 1) := by decide +kernel
theorem dX0_meet_31 : decode cX0_meet 31 = .ok (.getfield 12, 3) := by decide +kernel
theorem dX0_meet_34 : decode cX0_meet 34 = .ok (.getfield 143, 3) := by decide +kernel
theorem dX0_meet_37 : decode cX0_meet 37 = .ok (.iload_n 1, 1) := by decide +kernel
theorem dX0_meet_38 : decode cX0_meet 38 = .ok (.dup2, 1) := by decide +kernel
theorem dX0_meet_39 : decode cX0_meet 39 = .ok (.iaload, 1) := by decide +kernel
theorem dX0_meet_40 : decode cX0_meet 40 = .ok (.iconst 1, 1) := by decide +kernel
theorem dX0_meet_41 : decode cX0_meet 41 = .ok (.isub, 1) := by decide +kernel
theorem dX0_meet_42 : decode cX0_meet 42 = .ok (.iastore, 1) := by decide +kernel
theorem dX0_meet_43 : decode cX0_meet 43 = .ok (.aload_n 0, 1) := by decide +kernel
theorem dX0_meet_44 : decode cX0_meet 44 = .ok (.getfield 12, 3) := by decide +kernel
theorem dX0_meet_47 : decode cX0_meet 47 = .ok (.getfield 149, 3) := by decide +kernel
theorem dX0_meet_50 : decode cX0_meet 50 = .ok (.iload_n 1, 1) := by decide +kernel
theorem dX0_meet_51 : decode cX0_meet 51 = .ok (.iconst 0, 1) := by decide +kernel
theorem dX0_meet_52 : decode cX0_meet 52 = .ok (.iastore, 1) := by decide +kernel
theorem dX0_meet_53 : decode cX0_meet 53 = .ok (.aload_n 0, 1) := by decide +kernel
theorem dX0_meet_54 : decode cX0_meet 54 = .ok (.dup, 1) := by decide +kernel
theorem dX0_meet_55 : decode cX0_meet 55 = .ok (.getfield 43, 3) := by decide +kernel
theorem dX0_meet_58 : decode cX0_meet 58 = .ok (.iconst 1, 1) := by decide +kernel
theorem dX0_meet_59 : decode cX0_meet 59 = .ok (.iadd, 1) := by decide +kernel
theorem dX0_meet_60 : decode cX0_meet 60 = .ok (.putfield 43, 3) := by decide +kernel
theorem dX0_meet_63 : decode cX0_meet 63 = .ok (.aload_n 0, 1) := by decide +kernel
theorem dX0_meet_64 : decode cX0_meet 64 = .ok (.iconst 0, 1) := by decide +kernel
theorem dX0_meet_65 : decode cX0_meet 65 = .ok (.putfield 34, 3) := by decide +kernel
theorem dX0_meet_68 : decode cX0_meet 68 = .ok (.goto 43, 3) := by decide +kernel
theorem dX0_meet_71 : decode cX0_meet 71 = .ok (.aload_n 0, 1) := by decide +kernel
theorem dX0_meet_72 : decode cX0_meet 72 = .ok (.getfield 12, 3) := by decide +kernel
theorem dX0_meet_75 : decode cX0_meet 75 = .ok (.getfield 149, 3) := by decide +kernel
theorem dX0_meet_78 : decode cX0_meet 78 = .ok (.iload_n 1, 1) := by decide +kernel
theorem dX0_meet_79 : decode cX0_meet 79 = .ok (.bipush 99, 2) := by decide +kernel
theorem dX0_meet_81 : decode cX0_meet 81 = .ok (.aload_n 0, 1) := by decide +kernel
theorem dX0_meet_82 : decode cX0_meet 82 = .ok (.getfield 12, 3) := by decide +kernel
theorem dX0_meet_85 : decode cX0_meet 85 = .ok (.getfield 149, 3) := by decide +kernel
theorem dX0_meet_88 : decode cX0_meet 88 = .ok (.iload_n 1, 1) := by decide +kernel
theorem dX0_meet_89 : decode cX0_meet 89 = .ok (.iaload, 1) := by decide +kernel
theorem dX0_meet_90 : decode cX0_meet 90 = .ok (.iconst 1, 1) := by decide +kernel
theorem dX0_meet_91 : decode cX0_meet 91 = .ok (.iadd, 1) := by decide +kernel
theorem dX0_meet_92 : decode cX0_meet 92 = .ok (.invokestatic 173, 3) := by decide +kernel
theorem dX0_meet_95 : decode cX0_meet 95 = .ok (.iastore, 1) := by decide +kernel
theorem dX0_meet_96 : decode cX0_meet 96 = .ok (.aload_n 0, 1) := by decide +kernel
theorem dX0_meet_97 : decode cX0_meet 97 = .ok (.bipush 99, 2) := by decide +kernel
theorem dX0_meet_99 : decode cX0_meet 99 = .ok (.aload_n 0, 1) := by decide +kernel
theorem dX0_meet_100 : decode cX0_meet 100 = .ok (.getfield 34, 3) := by decide +kernel
theorem dX0_meet_103 : decode cX0_meet 103 = .ok (.iconst 1, 1) := by decide +kernel
theorem dX0_meet_104 : decode cX0_meet 104 = .ok (.iadd, 1) := by decide +kernel
theorem dX0_meet_105 : decode cX0_meet 105 = .ok (.invokestatic 173, 3) := by decide +kernel
theorem dX0_meet_108 : decode cX0_meet 108 = .ok (.putfield 34, 3) := by decide +kernel
theorem dX0_meet_111 : decode cX0_meet 111 = .ok (.return_, 1) := by decide +kernel
theorem dX0_tire_0 : decode cX0_tire 0 = .ok (.iconst 0, 1) := by decide +kernel
theorem dX0_tire_1 : decode cX0_tire 1 = .ok (.istore_n 1, 1) := by decide +kernel
theorem dX0_tire_2 : decode cX0_tire 2 = .ok (.iload_n 1, 1) := by decide +kernel
theorem dX0_tire_3 : decode cX0_tire 3 = .ok (.aload_n 0, 1) := by decide +kernel
theorem dX0_tire_4 : decode cX0_tire 4 = .ok (.getfield 24, 3) := by decide +kernel
theorem dX0_tire_7 : decode cX0_tire 7 = .ok (.if_icmp .ge 89, 3) := by decide +kernel
theorem dX0_tire_10 : decode cX0_tire 10 = .ok (.aload_n 0, 1) := by decide +kernel
theorem dX0_tire_11 : decode cX0_tire 11 = .ok (.getfield 20, 3) := by decide +kernel
theorem dX0_tire_14 : decode cX0_tire 14 = .ok (.iload_n 1, 1) := by decide +kernel
theorem dX0_tire_15 : decode cX0_tire 15 = .ok (.aaload, 1) := by decide +kernel
theorem dX0_tire_16 : decode cX0_tire 16 = .ok (.astore_n 2, 1) := by decide +kernel
theorem dX0_tire_17 : decode cX0_tire 17 = .ok (.aload_n 2, 1) := by decide +kernel
theorem dX0_tire_18 : decode cX0_tire 18 = .ok (.getfield 104, 3) := by decide +kernel
theorem dX0_tire_21 : decode cX0_tire 21 = .ok (.iconst 1, 1) := by decide +kernel
theorem dX0_tire_22 : decode cX0_tire 22 = .ok (.if_icmp .ne 44, 3) := by decide +kernel
theorem dX0_tire_25 : decode cX0_tire 25 = .ok (.aload_n 0, 1) := by decide +kernel
theorem dX0_tire_26 : decode cX0_tire 26 = .ok (.iconst 2, 1) := by decide +kernel
theorem dX0_tire_27 : decode cX0_tire 27 = .ok (.aload_n 2, 1) := by decide +kernel
theorem dX0_tire_28 : decode cX0_tire 28 = .ok (.getfield 101, 3) := by decide +kernel
theorem dX0_tire_31 : decode cX0_tire 31 = .ok (.aload_n 2, 1) := by decide +kernel
theorem dX0_tire_32 : decode cX0_tire 32 = .ok (.getfield 98, 3) := by decide +kernel
theorem dX0_tire_35 : decode cX0_tire 35 = .ok (.iconst 0, 1) := by decide +kernel
theorem dX0_tire_36 : decode cX0_tire 36 = .ok (.iconst 1, 1) := by decide +kernel
theorem dX0_tire_37 : decode cX0_tire 37 = .ok (.invokevirtual 114, 3) := by decide +kernel
theorem dX0_tire_40 : decode cX0_tire 40 = .ok (.iconst 0, 1) := by decide +kernel
theorem dX0_tire_41 : decode cX0_tire 41 = .ok (.bipush 99, 2) := by decide +kernel
theorem dX0_tire_43 : decode cX0_tire 43 = .ok (.invokestatic 118, 3) := by decide +kernel
theorem dX0_tire_46 : decode cX0_tire 46 = .ok (.istore_n 3, 1) := by decide +kernel
theorem dX0_tire_47 : decode cX0_tire 47 = .ok (.aload_n 2, 1) := by decide +kernel
theorem dX0_tire_48 : decode cX0_tire 48 = .ok (.sipush 999, 3) := by decide +kernel
theorem dX0_tire_51 : decode cX0_tire 51 = .ok (.aload_n 2, 1) := by decide +kernel
theorem dX0_tire_52 : decode cX0_tire 52 = .ok (.getfield 101, 3) := by decide +kernel
theorem dX0_tire_55 : decode cX0_tire 55 = .ok (.iload_n 3, 1) := by decide +kernel
theorem dX0_tire_56 : decode cX0_tire 56 = .ok (.iadd, 1) := by decide +kernel
theorem dX0_tire_57 : decode cX0_tire 57 = .ok (.invokestatic 173, 3) := by decide +kernel
theorem dX0_tire_60 : decode cX0_tire 60 = .ok (.putfield 101, 3) := by decide +kernel
theorem dX0_tire_63 : decode cX0_tire 63 = .ok (.goto 27, 3) := by decide +kernel
theorem dX0_tire_66 : decode cX0_tire 66 = .ok (.aload_n 2, 1) := by decide +kernel
theorem dX0_tire_67 : decode cX0_tire 67 = .ok (.iconst 0, 1) := by decide +kernel
theorem dX0_tire_68 : decode cX0_tire 68 = .ok (.aload_n 2, 1) := by decide +kernel
theorem dX0_tire_69 : decode cX0_tire 69 = .ok (.getfield 101, 3) := by decide +kernel
theorem dX0_tire_72 : decode cX0_tire 72 = .ok (.iconst 2, 1) := by decide +kernel
theorem dX0_tire_73 : decode cX0_tire 73 = .ok (.isub, 1) := by decide +kernel
theorem dX0_tire_74 : decode cX0_tire 74 = .ok (.invokestatic 178, 3) := by decide +kernel
theorem dX0_tire_77 : decode cX0_tire 77 = .ok (.putfield 101, 3) := by decide +kernel
theorem dX0_tire_80 : decode cX0_tire 80 = .ok (.aload_n 0, 1) := by decide +kernel
theorem dX0_tire_81 : decode cX0_tire 81 = .ok (.dup, 1) := by decide +kernel
theorem dX0_tire_82 : decode cX0_tire 82 = .ok (.getfield 40, 3) := by decide +kernel
theorem dX0_tire_85 : decode cX0_tire 85 = .ok (.iconst 1, 1) := by decide +kernel
theorem dX0_tire_86 : decode cX0_tire 86 = .ok (.iadd, 1) := by decide +kernel
theorem dX0_tire_87 : decode cX0_tire 87 = .ok (.putfield 40, 3) := by decide +kernel
theorem dX0_tire_90 : decode cX0_tire 90 = .ok (.iinc 1 1, 3) := by decide +kernel
theorem dX0_tire_93 : decode cX0_tire 93 = .ok (.goto (-91), 3) := by decide +kernel
theorem dX0_tire_96 : decode cX0_tire 96 = .ok (.return_, 1) := by decide +kernel
theorem dX1_init_0 : decode cX1_init 0 = .ok (.aload_n 0, 1) := by decide +kernel
theorem dX1_init_1 : decode cX1_init 1 = .ok (.invokespecial 5, 3) := by decide +kernel
theorem dX1_init_4 : decode cX1_init 4 = .ok (.aload_n 0, 1) := by decide +kernel
theorem dX1_init_5 : decode cX1_init 5 = .ok (.bipush 28, 2) := by decide +kernel
theorem dX1_init_7 : decode cX1_init 7 = .ok (.newarray .int, 2) := by decide +kernel
theorem dX1_init_9 : decode cX1_init 9 = .ok (.putfield 11, 3) := by decide +kernel
theorem dX1_init_12 : decode cX1_init 12 = .ok (.aload_n 0, 1) := by decide +kernel
theorem dX1_init_13 : decode cX1_init 13 = .ok (.iconst 0, 1) := by decide +kernel
theorem dX1_init_14 : decode cX1_init 14 = .ok (.putfield 15, 3) := by decide +kernel
theorem dX1_init_17 : decode cX1_init 17 = .ok (.aload_n 0, 1) := by decide +kernel
theorem dX1_init_18 : decode cX1_init 18 = .ok (.iconst 0, 1) := by decide +kernel
theorem dX1_init_19 : decode cX1_init 19 = .ok (.putfield 19, 3) := by decide +kernel
theorem dX1_init_22 : decode cX1_init 22 = .ok (.aload_n 0, 1) := by decide +kernel
theorem dX1_init_23 : decode cX1_init 23 = .ok (.iconst 0, 1) := by decide +kernel
theorem dX1_init_24 : decode cX1_init 24 = .ok (.putfield 22, 3) := by decide +kernel
theorem dX1_init_27 : decode cX1_init 27 = .ok (.return_, 1) := by decide +kernel
theorem dX1_runOn_0 : decode cX1_runOn 0 = .ok (.iconst 0, 1) := by decide +kernel
theorem dX1_runOn_1 : decode cX1_runOn 1 = .ok (.istore_n 3, 1) := by decide +kernel
theorem dX1_runOn_2 : decode cX1_runOn 2 = .ok (.iload_n 3, 1) := by decide +kernel
theorem dX1_runOn_3 : decode cX1_runOn 3 = .ok (.aload_n 0, 1) := by decide +kernel
theorem dX1_runOn_4 : decode cX1_runOn 4 = .ok (.getfield 11, 3) := by decide +kernel
theorem dX1_runOn_7 : decode cX1_runOn 7 = .ok (.arraylength, 1) := by decide +kernel
theorem dX1_runOn_8 : decode cX1_runOn 8 = .ok (.if_icmp .ge 27, 3) := by decide +kernel
theorem dX1_runOn_11 : decode cX1_runOn 11 = .ok (.aload_n 0, 1) := by decide +kernel
theorem dX1_runOn_12 : decode cX1_runOn 12 = .ok (.getfield 11, 3) := by decide +kernel
theorem dX1_runOn_15 : decode cX1_runOn 15 = .ok (.iload_n 3, 1) := by decide +kernel
theorem dX1_runOn_16 : decode cX1_runOn 16 = .ok (.aload_n 1, 1) := by decide +kernel
theorem dX1_runOn_17 : decode cX1_runOn 17 = .ok (.iload_n 3, 1) := by decide +kernel
theorem dX1_runOn_18 : decode cX1_runOn 18 = .ok (.bipush 7, 2) := by decide +kernel
theorem dX1_runOn_20 : decode cX1_runOn 20 = .ok (.idiv, 1) := by decide +kernel
theorem dX1_runOn_21 : decode cX1_runOn 21 = .ok (.iload_n 3, 1) := by decide +kernel
theorem dX1_runOn_22 : decode cX1_runOn 22 = .ok (.bipush 7, 2) := by decide +kernel
theorem dX1_runOn_24 : decode cX1_runOn 24 = .ok (.irem, 1) := by decide +kernel
theorem dX1_runOn_25 : decode cX1_runOn 25 = .ok (.invokevirtual 25, 3) := by decide +kernel
theorem dX1_runOn_28 : decode cX1_runOn 28 = .ok (.iastore, 1) := by decide +kernel
theorem dX1_runOn_29 : decode cX1_runOn 29 = .ok (.iinc 3 1, 3) := by decide +kernel
theorem dX1_runOn_32 : decode cX1_runOn 32 = .ok (.goto (-30), 3) := by decide +kernel
theorem dX1_runOn_35 : decode cX1_runOn 35 = .ok (.aload_n 0, 1) := by decide +kernel
theorem dX1_runOn_36 : decode cX1_runOn 36 = .ok (.iconst (-1), 1) := by decide +kernel
theorem dX1_runOn_37 : decode cX1_runOn 37 = .ok (.putfield 15, 3) := by decide +kernel
theorem dX1_runOn_40 : decode cX1_runOn 40 = .ok (.aload_n 1, 1) := by decide +kernel
theorem dX1_runOn_41 : decode cX1_runOn 41 = .ok (.getfield 31, 3) := by decide +kernel
theorem dX1_runOn_44 : decode cX1_runOn 44 = .ok (.getfield 35, 3) := by decide +kernel
theorem dX1_runOn_47 : decode cX1_runOn 47 = .ok (.bipush 6, 2) := by decide +kernel
theorem dX1_runOn_49 : decode cX1_runOn 49 = .ok (.invokestatic 40, 3) := by decide +kernel
theorem dX1_runOn_52 : decode cX1_runOn 52 = .ok (.istore_n 3, 1) := by decide +kernel
theorem dX1_runOn_53 : decode cX1_runOn 53 = .ok (.iconst 0, 1) := by decide +kernel
theorem dX1_runOn_54 : decode cX1_runOn 54 = .ok (.istore 4, 2) := by decide +kernel
theorem dX1_runOn_56 : decode cX1_runOn 56 = .ok (.iload 4, 2) := by decide +kernel
theorem dX1_runOn_58 : decode cX1_runOn 58 = .ok (.iconst 1, 1) := by decide +kernel
theorem dX1_runOn_59 : decode cX1_runOn 59 = .ok (.iconst 2, 1) := by decide +kernel
theorem dX1_runOn_60 : decode cX1_runOn 60 = .ok (.iload_n 3, 1) := by decide +kernel
theorem dX1_runOn_61 : decode cX1_runOn 61 = .ok (.imul, 1) := by decide +kernel
theorem dX1_runOn_62 : decode cX1_runOn 62 = .ok (.ishl, 1) := by decide +kernel
theorem dX1_runOn_63 : decode cX1_runOn 63 = .ok (.if_icmp .ge 84, 3) := by decide +kernel
theorem dX1_runOn_66 : decode cX1_runOn 66 = .ok (.aload_n 0, 1) := by decide +kernel
theorem dX1_runOn_67 : decode cX1_runOn 67 = .ok (.aload_n 1, 1) := by decide +kernel
theorem dX1_runOn_68 : decode cX1_runOn 68 = .ok (.getfield 31, 3) := by decide +kernel
theorem dX1_runOn_71 : decode cX1_runOn 71 = .ok (.iload_n 3, 1) := by decide +kernel
theorem dX1_runOn_72 : decode cX1_runOn 72 = .ok (.iload 4, 2) := by decide +kernel
theorem dX1_runOn_74 : decode cX1_runOn 74 = .ok (.invokevirtual 45, 3) := by decide +kernel
theorem dX1_runOn_77 : decode cX1_runOn 77 = .ok (.istore 5, 2) := by decide +kernel
theorem dX1_runOn_79 : decode cX1_runOn 79 = .ok (.iload 5, 2) := by decide +kernel
theorem dX1_runOn_81 : decode cX1_runOn 81 = .ok (.iload_n 2, 1) := by decide +kernel
theorem dX1_runOn_82 : decode cX1_runOn 82 = .ok (.if_icmp .gt 59, 3) := by decide +kernel
theorem dX1_runOn_85 : decode cX1_runOn 85 = .ok (.aload_n 0, 1) := by decide +kernel
theorem dX1_runOn_86 : decode cX1_runOn 86 = .ok (.aload_n 1, 1) := by decide +kernel
theorem dX1_runOn_87 : decode cX1_runOn 87 = .ok (.getfield 31, 3) := by decide +kernel
theorem dX1_runOn_90 : decode cX1_runOn 90 = .ok (.iload_n 3, 1) := by decide +kernel
theorem dX1_runOn_91 : decode cX1_runOn 91 = .ok (.invokevirtual 49, 3) := by decide +kernel
theorem dX1_runOn_94 : decode cX1_runOn 94 = .ok (.istore 6, 2) := by decide +kernel
theorem dX1_runOn_96 : decode cX1_runOn 96 = .ok (.iload 6, 2) := by decide +kernel
theorem dX1_runOn_98 : decode cX1_runOn 98 = .ok (.aload_n 0, 1) := by decide +kernel
theorem dX1_runOn_99 : decode cX1_runOn 99 = .ok (.getfield 15, 3) := by decide +kernel
theorem dX1_runOn_102 : decode cX1_runOn 102 = .ok (.if_icmp .gt 21, 3) := by decide +kernel
theorem dX1_runOn_105 : decode cX1_runOn 105 = .ok (.iload 6, 2) := by decide +kernel
theorem dX1_runOn_107 : decode cX1_runOn 107 = .ok (.aload_n 0, 1) := by decide +kernel
theorem dX1_runOn_108 : decode cX1_runOn 108 = .ok (.getfield 15, 3) := by decide +kernel
theorem dX1_runOn_111 : decode cX1_runOn 111 = .ok (.if_icmp .ne 30, 3) := by decide +kernel
theorem dX1_runOn_114 : decode cX1_runOn 114 = .ok (.iload 5, 2) := by decide +kernel
theorem dX1_runOn_116 : decode cX1_runOn 116 = .ok (.aload_n 0, 1) := by decide +kernel
theorem dX1_runOn_117 : decode cX1_runOn 117 = .ok (.getfield 19, 3) := by decide +kernel
theorem dX1_runOn_120 : decode cX1_runOn 120 = .ok (.if_icmp .ge 21, 3) := by decide +kernel
theorem dX1_runOn_123 : decode cX1_runOn 123 = .ok (.aload_n 0, 1) := by decide +kernel
theorem dX1_runOn_124 : decode cX1_runOn 124 = .ok (.iload 6, 2) := by decide +kernel
theorem dX1_runOn_126 : decode cX1_runOn 126 = .ok (.putfield 15, 3) := by decide +kernel
theorem dX1_runOn_129 : decode cX1_runOn 129 = .ok (.aload_n 0, 1) := by decide +kernel
theorem dX1_runOn_130 : decode cX1_runOn 130 = .ok (.iload 5, 2) := by decide +kernel
theorem dX1_runOn_132 : decode cX1_runOn 132 = .ok (.putfield 19, 3) := by decide +kernel
theorem dX1_runOn_135 : decode cX1_runOn 135 = .ok (.aload_n 0, 1) := by decide +kernel
theorem dX1_runOn_136 : decode cX1_runOn 136 = .ok (.iload 4, 2) := by decide +kernel
theorem dX1_runOn_138 : decode cX1_runOn 138 = .ok (.putfield 22, 3) := by decide +kernel
theorem dX1_runOn_141 : decode cX1_runOn 141 = .ok (.iinc 4 1, 3) := by decide +kernel
theorem dX1_runOn_144 : decode cX1_runOn 144 = .ok (.goto (-88), 3) := by decide +kernel
theorem dX1_runOn_147 : decode cX1_runOn 147 = .ok (.return_, 1) := by decide +kernel
theorem dX1_putFires_0 : decode cX1_putFires 0 = .ok (.iconst 0, 1) := by decide +kernel
theorem dX1_putFires_1 : decode cX1_putFires 1 = .ok (.istore 4, 2) := by decide +kernel
theorem dX1_putFires_3 : decode cX1_putFires 3 = .ok (.iload_n 3, 1) := by decide +kernel
theorem dX1_putFires_4 : decode cX1_putFires 4 = .ok (.istore 5, 2) := by decide +kernel
theorem dX1_putFires_6 : decode cX1_putFires 6 = .ok (.iload_n 2, 1) := by decide +kernel
theorem dX1_putFires_7 : decode cX1_putFires 7 = .ok (.iconst 1, 1) := by decide +kernel
theorem dX1_putFires_8 : decode cX1_putFires 8 = .ok (.isub, 1) := by decide +kernel
theorem dX1_putFires_9 : decode cX1_putFires 9 = .ok (.istore 6, 2) := by decide +kernel
theorem dX1_putFires_11 : decode cX1_putFires 11 = .ok (.iload 6, 2) := by decide +kernel
theorem dX1_putFires_13 : decode cX1_putFires 13 = .ok (.ifCond .lt 38, 3) := by decide +kernel
theorem dX1_putFires_16 : decode cX1_putFires 16 = .ok (.aload_n 1, 1) := by decide +kernel
theorem dX1_putFires_17 : decode cX1_putFires 17 = .ok (.getfield 53, 3) := by decide +kernel
theorem dX1_putFires_20 : decode cX1_putFires 20 = .ok (.iload 6, 2) := by decide +kernel
theorem dX1_putFires_22 : decode cX1_putFires 22 = .ok (.iload 5, 2) := by decide +kernel
theorem dX1_putFires_24 : decode cX1_putFires 24 = .ok (.iconst 3, 1) := by decide +kernel
theorem dX1_putFires_25 : decode cX1_putFires 25 = .ok (.iand, 1) := by decide +kernel
theorem dX1_putFires_26 : decode cX1_putFires 26 = .ok (.iastore, 1) := by decide +kernel
theorem dX1_putFires_27 : decode cX1_putFires 27 = .ok (.iload 4, 2) := by decide +kernel
theorem dX1_putFires_29 : decode cX1_putFires 29 = .ok (.aload_n 1, 1) := by decide +kernel
theorem dX1_putFires_30 : decode cX1_putFires 30 = .ok (.getfield 53, 3) := by decide +kernel
theorem dX1_putFires_33 : decode cX1_putFires 33 = .ok (.iload 6, 2) := by decide +kernel
theorem dX1_putFires_35 : decode cX1_putFires 35 = .ok (.iaload, 1) := by decide +kernel
theorem dX1_putFires_36 : decode cX1_putFires 36 = .ok (.iadd, 1) := by decide +kernel
theorem dX1_putFires_37 : decode cX1_putFires 37 = .ok (.istore 4, 2) := by decide +kernel
theorem dX1_putFires_39 : decode cX1_putFires 39 = .ok (.iload 5, 2) := by decide +kernel
theorem dX1_putFires_41 : decode cX1_putFires 41 = .ok (.iconst 2, 1) := by decide +kernel
theorem dX1_putFires_42 : decode cX1_putFires 42 = .ok (.ishr, 1) := by decide +kernel
theorem dX1_putFires_43 : decode cX1_putFires 43 = .ok (.istore 5, 2) := by decide +kernel
theorem dX1_putFires_45 : decode cX1_putFires 45 = .ok (.iinc 6 (-1), 3) := by decide +kernel
theorem dX1_putFires_48 : decode cX1_putFires 48 = .ok (.goto (-37), 3) := by decide +kernel
theorem dX1_putFires_51 : decode cX1_putFires 51 = .ok (.iload 4, 2) := by decide +kernel
theorem dX1_putFires_53 : decode cX1_putFires 53 = .ok (.ireturn, 1) := by decide +kernel
theorem dX1_leastLight_0 : decode cX1_leastLight 0 = .ok (.bipush 99, 2) := by decide +kernel
theorem dX1_leastLight_2 : decode cX1_leastLight 2 = .ok (.istore_n 3, 1) := by decide +kernel
theorem dX1_leastLight_3 : decode cX1_leastLight 3 = .ok (.iconst 0, 1) := by decide +kernel
theorem dX1_leastLight_4 : decode cX1_leastLight 4 = .ok (.istore 4, 2) := by decide +kernel
theorem dX1_leastLight_6 : decode cX1_leastLight 6 = .ok (.iload 4, 2) := by decide +kernel
theorem dX1_leastLight_8 : decode cX1_leastLight 8 = .ok (.iload_n 2, 1) := by decide +kernel
theorem dX1_leastLight_9 : decode cX1_leastLight 9 = .ok (.if_icmp .ge 36, 3) := by decide +kernel
theorem dX1_leastLight_12 : decode cX1_leastLight 12 = .ok (.iload_n 3, 1) := by decide +kernel
theorem dX1_leastLight_13 : decode cX1_leastLight 13 = .ok (.aload_n 0, 1) := by decide +kernel
theorem dX1_leastLight_14 : decode cX1_leastLight 14 = .ok (.getfield 11, 3) := by decide +kernel
theorem dX1_leastLight_17 : decode cX1_leastLight 17 = .ok (.aload_n 1, 1) := by decide +kernel
theorem dX1_leastLight_18 : decode cX1_leastLight 18 = .ok (.getfield 53, 3) := by decide +kernel
theorem dX1_leastLight_21 : decode cX1_leastLight 21 = .ok (.iload 4, 2) := by decide +kernel
theorem dX1_leastLight_23 : decode cX1_leastLight 23 = .ok (.iaload, 1) := by decide +kernel
theorem dX1_leastLight_24 : decode cX1_leastLight 24 = .ok (.bipush 7, 2) := by decide +kernel
theorem dX1_leastLight_26 : decode cX1_leastLight 26 = .ok (.imul, 1) := by decide +kernel
theorem dX1_leastLight_27 : decode cX1_leastLight 27 = .ok (.aload_n 1, 1) := by decide +kernel
theorem dX1_leastLight_28 : decode cX1_leastLight 28 = .ok (.iload 4, 2) := by decide +kernel
theorem dX1_leastLight_30 : decode cX1_leastLight 30 = .ok (.invokevirtual 56, 3) := by decide +kernel
theorem dX1_leastLight_33 : decode cX1_leastLight 33 = .ok (.iadd, 1) := by decide +kernel
theorem dX1_leastLight_34 : decode cX1_leastLight 34 = .ok (.iaload, 1) := by decide +kernel
theorem dX1_leastLight_35 : decode cX1_leastLight 35 = .ok (.invokestatic 40, 3) := by decide +kernel
theorem dX1_leastLight_38 : decode cX1_leastLight 38 = .ok (.istore_n 3, 1) := by decide +kernel
theorem dX1_leastLight_39 : decode cX1_leastLight 39 = .ok (.iinc 4 1, 3) := by decide +kernel
theorem dX1_leastLight_42 : decode cX1_leastLight 42 = .ok (.goto (-36), 3) := by decide +kernel
theorem dX1_leastLight_45 : decode cX1_leastLight 45 = .ok (.iload_n 3, 1) := by decide +kernel
theorem dX1_leastLight_46 : decode cX1_leastLight 46 = .ok (.ireturn, 1) := by decide +kernel
theorem dX2_init_0 : decode cX2_init 0 = .ok (.aload_n 0, 1) := by decide +kernel
theorem dX2_init_1 : decode cX2_init 1 = .ok (.invokespecial 3, 3) := by decide +kernel
theorem dX2_init_4 : decode cX2_init 4 = .ok (.aload_n 0, 1) := by decide +kernel
theorem dX2_init_5 : decode cX2_init 5 = .ok (.iconst 0, 1) := by decide +kernel
theorem dX2_init_6 : decode cX2_init 6 = .ok (.putfield 9, 3) := by decide +kernel
theorem dX2_init_9 : decode cX2_init 9 = .ok (.aload_n 0, 1) := by decide +kernel
theorem dX2_init_10 : decode cX2_init 10 = .ok (.iconst 0, 1) := by decide +kernel
theorem dX2_init_11 : decode cX2_init 11 = .ok (.putfield 15, 3) := by decide +kernel
theorem dX2_init_14 : decode cX2_init 14 = .ok (.aload_n 0, 1) := by decide +kernel
theorem dX2_init_15 : decode cX2_init 15 = .ok (.bipush 96, 2) := by decide +kernel
theorem dX2_init_17 : decode cX2_init 17 = .ok (.newarray .int, 2) := by decide +kernel
theorem dX2_init_19 : decode cX2_init 19 = .ok (.putfield 18, 3) := by decide +kernel
theorem dX2_init_22 : decode cX2_init 22 = .ok (.aload_n 0, 1) := by decide +kernel
theorem dX2_init_23 : decode cX2_init 23 = .ok (.iconst 0, 1) := by decide +kernel
theorem dX2_init_24 : decode cX2_init 24 = .ok (.putfield 22, 3) := by decide +kernel
theorem dX2_init_27 : decode cX2_init 27 = .ok (.aload_n 0, 1) := by decide +kernel
theorem dX2_init_28 : decode cX2_init 28 = .ok (.aload_n 1, 1) := by decide +kernel
theorem dX2_init_29 : decode cX2_init 29 = .ok (.putfield 25, 3) := by decide +kernel
theorem dX2_init_32 : decode cX2_init 32 = .ok (.return_, 1) := by decide +kernel
theorem dX2_begins_0 : decode cX2_begins 0 = .ok (.aload_n 0, 1) := by decide +kernel
theorem dX2_begins_1 : decode cX2_begins 1 = .ok (.iload_n 1, 1) := by decide +kernel
theorem dX2_begins_2 : decode cX2_begins 2 = .ok (.putfield 9, 3) := by decide +kernel
theorem dX2_begins_5 : decode cX2_begins 5 = .ok (.aload_n 0, 1) := by decide +kernel
theorem dX2_begins_6 : decode cX2_begins 6 = .ok (.iconst 0, 1) := by decide +kernel
theorem dX2_begins_7 : decode cX2_begins 7 = .ok (.putfield 15, 3) := by decide +kernel
theorem dX2_begins_10 : decode cX2_begins 10 = .ok (.aload_n 0, 1) := by decide +kernel
theorem dX2_begins_11 : decode cX2_begins 11 = .ok (.iconst 0, 1) := by decide +kernel
theorem dX2_begins_12 : decode cX2_begins 12 = .ok (.putfield 22, 3) := by decide +kernel
theorem dX2_begins_15 : decode cX2_begins 15 = .ok (.return_, 1) := by decide +kernel
theorem dX2_addNumber_0 : decode cX2_addNumber 0 = .ok (.aload_n 0, 1) := by decide +kernel
theorem dX2_addNumber_1 : decode cX2_addNumber 1 = .ok (.iload_n 1, 1) := by decide +kernel
theorem dX2_addNumber_2 : decode cX2_addNumber 2 = .ok (.invokevirtual 28, 3) := by decide +kernel
theorem dX2_addNumber_5 : decode cX2_addNumber 5 = .ok (.aload_n 0, 1) := by decide +kernel
theorem dX2_addNumber_6 : decode cX2_addNumber 6 = .ok (.dup, 1) := by decide +kernel
theorem dX2_addNumber_7 : decode cX2_addNumber 7 = .ok (.getfield 15, 3) := by decide +kernel
theorem dX2_addNumber_10 : decode cX2_addNumber 10 = .ok (.iconst 1, 1) := by decide +kernel
theorem dX2_addNumber_11 : decode cX2_addNumber 11 = .ok (.iadd, 1) := by decide +kernel
theorem dX2_addNumber_12 : decode cX2_addNumber 12 = .ok (.putfield 15, 3) := by decide +kernel
theorem dX2_addNumber_15 : decode cX2_addNumber 15 = .ok (.return_, 1) := by decide +kernel
theorem dX2_addName_0 : decode cX2_addName 0 = .ok (.aload_n 0, 1) := by decide +kernel
theorem dX2_addName_1 : decode cX2_addName 1 = .ok (.iconst (-1), 1) := by decide +kernel
theorem dX2_addName_2 : decode cX2_addName 2 = .ok (.iload_n 1, 1) := by decide +kernel
theorem dX2_addName_3 : decode cX2_addName 3 = .ok (.isub, 1) := by decide +kernel
theorem dX2_addName_4 : decode cX2_addName 4 = .ok (.invokevirtual 28, 3) := by decide +kernel
theorem dX2_addName_7 : decode cX2_addName 7 = .ok (.aload_n 0, 1) := by decide +kernel
theorem dX2_addName_8 : decode cX2_addName 8 = .ok (.dup, 1) := by decide +kernel
theorem dX2_addName_9 : decode cX2_addName 9 = .ok (.getfield 15, 3) := by decide +kernel
theorem dX2_addName_12 : decode cX2_addName 12 = .ok (.iconst 1, 1) := by decide +kernel
theorem dX2_addName_13 : decode cX2_addName 13 = .ok (.iadd, 1) := by decide +kernel
theorem dX2_addName_14 : decode cX2_addName 14 = .ok (.putfield 15, 3) := by decide +kernel
theorem dX2_addName_17 : decode cX2_addName 17 = .ok (.return_, 1) := by decide +kernel
theorem dX2_addSign_0 : decode cX2_addSign 0 = .ok (.aload_n 0, 1) := by decide +kernel
theorem dX2_addSign_1 : decode cX2_addSign 1 = .ok (.bipush (-100), 2) := by decide +kernel
theorem dX2_addSign_3 : decode cX2_addSign 3 = .ok (.iload_n 1, 1) := by decide +kernel
theorem dX2_addSign_4 : decode cX2_addSign 4 = .ok (.isub, 1) := by decide +kernel
theorem dX2_addSign_5 : decode cX2_addSign 5 = .ok (.invokevirtual 28, 3) := by decide +kernel
theorem dX2_addSign_8 : decode cX2_addSign 8 = .ok (.return_, 1) := by decide +kernel
theorem dX2_addCode_0 : decode cX2_addCode 0 = .ok (.aload_n 0, 1) := by decide +kernel
theorem dX2_addCode_1 : decode cX2_addCode 1 = .ok (.getfield 22, 3) := by decide +kernel
theorem dX2_addCode_4 : decode cX2_addCode 4 = .ok (.aload_n 0, 1) := by decide +kernel
theorem dX2_addCode_5 : decode cX2_addCode 5 = .ok (.getfield 18, 3) := by decide +kernel
theorem dX2_addCode_8 : decode cX2_addCode 8 = .ok (.arraylength, 1) := by decide +kernel
theorem dX2_addCode_9 : decode cX2_addCode 9 = .ok (.if_icmp .ge 23, 3) := by decide +kernel
theorem dX2_addCode_12 : decode cX2_addCode 12 = .ok (.aload_n 0, 1) := by decide +kernel
theorem dX2_addCode_13 : decode cX2_addCode 13 = .ok (.getfield 18, 3) := by decide +kernel
theorem dX2_addCode_16 : decode cX2_addCode 16 = .ok (.aload_n 0, 1) := by decide +kernel
theorem dX2_addCode_17 : decode cX2_addCode 17 = .ok (.getfield 22, 3) := by decide +kernel
theorem dX2_addCode_20 : decode cX2_addCode 20 = .ok (.iload_n 1, 1) := by decide +kernel
theorem dX2_addCode_21 : decode cX2_addCode 21 = .ok (.iastore, 1) := by decide +kernel
theorem dX2_addCode_22 : decode cX2_addCode 22 = .ok (.aload_n 0, 1) := by decide +kernel
theorem dX2_addCode_23 : decode cX2_addCode 23 = .ok (.dup, 1) := by decide +kernel
theorem dX2_addCode_24 : decode cX2_addCode 24 = .ok (.getfield 22, 3) := by decide +kernel
theorem dX2_addCode_27 : decode cX2_addCode 27 = .ok (.iconst 1, 1) := by decide +kernel
theorem dX2_addCode_28 : decode cX2_addCode 28 = .ok (.iadd, 1) := by decide +kernel
theorem dX2_addCode_29 : decode cX2_addCode 29 = .ok (.putfield 22, 3) := by decide +kernel
theorem dX2_addCode_32 : decode cX2_addCode 32 = .ok (.return_, 1) := by decide +kernel
theorem dX2_work_0 : decode cX2_work 0 = .ok (.iconst 0, 1) := by decide +kernel
theorem dX2_work_1 : decode cX2_work 1 = .ok (.istore 4, 2) := by decide +kernel
theorem dX2_work_3 : decode cX2_work 3 = .ok (.iconst 0, 1) := by decide +kernel
theorem dX2_work_4 : decode cX2_work 4 = .ok (.istore 5, 2) := by decide +kernel
theorem dX2_work_6 : decode cX2_work 6 = .ok (.iload 5, 2) := by decide +kernel
theorem dX2_work_8 : decode cX2_work 8 = .ok (.aload_n 0, 1) := by decide +kernel
theorem dX2_work_9 : decode cX2_work 9 = .ok (.getfield 22, 3) := by decide +kernel
theorem dX2_work_12 : decode cX2_work 12 = .ok (.if_icmp .ge 151, 3) := by decide +kernel
theorem dX2_work_15 : decode cX2_work 15 = .ok (.aload_n 0, 1) := by decide +kernel
theorem dX2_work_16 : decode cX2_work 16 = .ok (.getfield 18, 3) := by decide +kernel
theorem dX2_work_19 : decode cX2_work 19 = .ok (.iload 5, 2) := by decide +kernel
theorem dX2_work_21 : decode cX2_work 21 = .ok (.iaload, 1) := by decide +kernel
theorem dX2_work_22 : decode cX2_work 22 = .ok (.istore 6, 2) := by decide +kernel
theorem dX2_work_24 : decode cX2_work 24 = .ok (.iload 6, 2) := by decide +kernel
theorem dX2_work_26 : decode cX2_work 26 = .ok (.bipush (-3), 2) := by decide +kernel
theorem dX2_work_28 : decode cX2_work 28 = .ok (.if_icmp .lt 44, 3) := by decide +kernel
theorem dX2_work_31 : decode cX2_work 31 = .ok (.iload 4, 2) := by decide +kernel
theorem dX2_work_33 : decode cX2_work 33 = .ok (.aload_n 0, 1) := by decide +kernel
theorem dX2_work_34 : decode cX2_work 34 = .ok (.getfield 25, 3) := by decide +kernel
theorem dX2_work_37 : decode cX2_work 37 = .ok (.arraylength, 1) := by decide +kernel
theorem dX2_work_38 : decode cX2_work 38 = .ok (.if_icmp .ge 34, 3) := by decide +kernel
theorem dX2_work_41 : decode cX2_work 41 = .ok (.aload_n 0, 1) := by decide +kernel
theorem dX2_work_42 : decode cX2_work 42 = .ok (.getfield 25, 3) := by decide +kernel
theorem dX2_work_45 : decode cX2_work 45 = .ok (.iload 4, 2) := by decide +kernel
theorem dX2_work_47 : decode cX2_work 47 = .ok (.iload 6, 2) := by decide +kernel
theorem dX2_work_49 : decode cX2_work 49 = .ok (.ifCond .lt 8, 3) := by decide +kernel
theorem dX2_work_52 : decode cX2_work 52 = .ok (.iload 6, 2) := by decide +kernel
theorem dX2_work_54 : decode cX2_work 54 = .ok (.goto 11, 3) := by decide +kernel
theorem dX2_work_57 : decode cX2_work 57 = .ok (.iload 6, 2) := by decide +kernel
theorem dX2_work_59 : decode cX2_work 59 = .ok (.iload_n 1, 1) := by decide +kernel
theorem dX2_work_60 : decode cX2_work 60 = .ok (.iload_n 2, 1) := by decide +kernel
theorem dX2_work_61 : decode cX2_work 61 = .ok (.iload_n 3, 1) := by decide +kernel
theorem dX2_work_62 : decode cX2_work 62 = .ok (.invokestatic 32, 3) := by decide +kernel
theorem dX2_work_65 : decode cX2_work 65 = .ok (.iastore, 1) := by decide +kernel
theorem dX2_work_66 : decode cX2_work 66 = .ok (.iinc 4 1, 3) := by decide +kernel
theorem dX2_work_69 : decode cX2_work 69 = .ok (.goto 88, 3) := by decide +kernel
theorem dX2_work_72 : decode cX2_work 72 = .ok (.iload 6, 2) := by decide +kernel
theorem dX2_work_74 : decode cX2_work 74 = .ok (.sipush (-133), 3) := by decide +kernel
theorem dX2_work_77 : decode cX2_work 77 = .ok (.if_icmp .ne 38, 3) := by decide +kernel
theorem dX2_work_80 : decode cX2_work 80 = .ok (.iload 4, 2) := by decide +kernel
theorem dX2_work_82 : decode cX2_work 82 = .ok (.iconst 1, 1) := by decide +kernel
theorem dX2_work_83 : decode cX2_work 83 = .ok (.if_icmp .lt 32, 3) := by decide +kernel
theorem dX2_work_86 : decode cX2_work 86 = .ok (.aload_n 0, 1) := by decide +kernel
theorem dX2_work_87 : decode cX2_work 87 = .ok (.getfield 25, 3) := by decide +kernel
theorem dX2_work_90 : decode cX2_work 90 = .ok (.iload 4, 2) := by decide +kernel
theorem dX2_work_92 : decode cX2_work 92 = .ok (.iconst 1, 1) := by decide +kernel
theorem dX2_work_93 : decode cX2_work 93 = .ok (.isub, 1) := by decide +kernel
theorem dX2_work_94 : decode cX2_work 94 = .ok (.aload_n 0, 1) := by decide +kernel
theorem dX2_work_95 : decode cX2_work 95 = .ok (.getfield 25, 3) := by decide +kernel
theorem dX2_work_98 : decode cX2_work 98 = .ok (.iload 4, 2) := by decide +kernel
theorem dX2_work_100 : decode cX2_work 100 = .ok (.iconst 1, 1) := by decide +kernel
theorem dX2_work_101 : decode cX2_work 101 = .ok (.isub, 1) := by decide +kernel
theorem dX2_work_102 : decode cX2_work 102 = .ok (.iaload, 1) := by decide +kernel
theorem dX2_work_103 : decode cX2_work 103 = .ok (.ifCond .ne 7, 3) := by decide +kernel
theorem dX2_work_106 : decode cX2_work 106 = .ok (.iconst 1, 1) := by decide +kernel
theorem dX2_work_107 : decode cX2_work 107 = .ok (.goto 4, 3) := by decide +kernel
theorem dX2_work_110 : decode cX2_work 110 = .ok (.iconst 0, 1) := by decide +kernel
theorem dX2_work_111 : decode cX2_work 111 = .ok (.iastore, 1) := by decide +kernel
theorem dX2_work_112 : decode cX2_work 112 = .ok (.goto 45, 3) := by decide +kernel
theorem dX2_work_115 : decode cX2_work 115 = .ok (.iload 4, 2) := by decide +kernel
theorem dX2_work_117 : decode cX2_work 117 = .ok (.iconst 2, 1) := by decide +kernel
theorem dX2_work_118 : decode cX2_work 118 = .ok (.if_icmp .lt 39, 3) := by decide +kernel
theorem dX2_work_121 : decode cX2_work 121 = .ok (.iinc 4 (-1), 3) := by decide +kernel
theorem dX2_work_124 : decode cX2_work 124 = .ok (.aload_n 0, 1) := by decide +kernel
theorem dX2_work_125 : decode cX2_work 125 = .ok (.getfield 25, 3) := by decide +kernel
theorem dX2_work_128 : decode cX2_work 128 = .ok (.iload 4, 2) := by decide +kernel
theorem dX2_work_130 : decode cX2_work 130 = .ok (.iconst 1, 1) := by decide +kernel
theorem dX2_work_131 : decode cX2_work 131 = .ok (.isub, 1) := by decide +kernel
theorem dX2_work_132 : decode cX2_work 132 = .ok (.bipush (-100), 2) := by decide +kernel
theorem dX2_work_134 : decode cX2_work 134 = .ok (.iload 6, 2) := by decide +kernel
theorem dX2_work_136 : decode cX2_work 136 = .ok (.isub, 1) := by decide +kernel
theorem dX2_work_137 : decode cX2_work 137 = .ok (.aload_n 0, 1) := by decide +kernel
theorem dX2_work_138 : decode cX2_work 138 = .ok (.getfield 25, 3) := by decide +kernel
theorem dX2_work_141 : decode cX2_work 141 = .ok (.iload 4, 2) := by decide +kernel
theorem dX2_work_143 : decode cX2_work 143 = .ok (.iconst 1, 1) := by decide +kernel
theorem dX2_work_144 : decode cX2_work 144 = .ok (.isub, 1) := by decide +kernel
theorem dX2_work_145 : decode cX2_work 145 = .ok (.iaload, 1) := by decide +kernel
theorem dX2_work_146 : decode cX2_work 146 = .ok (.aload_n 0, 1) := by decide +kernel
theorem dX2_work_147 : decode cX2_work 147 = .ok (.getfield 25, 3) := by decide +kernel
theorem dX2_work_150 : decode cX2_work 150 = .ok (.iload 4, 2) := by decide +kernel
theorem dX2_work_152 : decode cX2_work 152 = .ok (.iaload, 1) := by decide +kernel
theorem dX2_work_153 : decode cX2_work 153 = .ok (.invokestatic 36, 3) := by decide +kernel
theorem dX2_work_156 : decode cX2_work 156 = .ok (.iastore, 1) := by decide +kernel
theorem dX2_work_157 : decode cX2_work 157 = .ok (.iinc 5 1, 3) := by decide +kernel
theorem dX2_work_160 : decode cX2_work 160 = .ok (.goto (-154), 3) := by decide +kernel
theorem dX2_work_163 : decode cX2_work 163 = .ok (.aload_n 0, 1) := by decide +kernel
theorem dX2_work_164 : decode cX2_work 164 = .ok (.getfield 25, 3) := by decide +kernel
theorem dX2_work_167 : decode cX2_work 167 = .ok (.iconst 0, 1) := by decide +kernel
theorem dX2_work_168 : decode cX2_work 168 = .ok (.iaload, 1) := by decide +kernel
theorem dX2_work_169 : decode cX2_work 169 = .ok (.ireturn, 1) := by decide +kernel
theorem dX2_named_0 : decode cX2_named 0 = .ok (.iload_n 0, 1) := by decide +kernel
theorem dX2_named_1 : decode cX2_named 1 = .ok (.iconst (-1), 1) := by decide +kernel
theorem dX2_named_2 : decode cX2_named 2 = .ok (.if_icmp .ne 5, 3) := by decide +kernel
theorem dX2_named_5 : decode cX2_named 5 = .ok (.iload_n 1, 1) := by decide +kernel
theorem dX2_named_6 : decode cX2_named 6 = .ok (.ireturn, 1) := by decide +kernel
theorem dX2_named_7 : decode cX2_named 7 = .ok (.iload_n 0, 1) := by decide +kernel
theorem dX2_named_8 : decode cX2_named 8 = .ok (.bipush (-3), 2) := by decide +kernel
theorem dX2_named_10 : decode cX2_named 10 = .ok (.if_icmp .ne 7, 3) := by decide +kernel
theorem dX2_named_13 : decode cX2_named 13 = .ok (.iload_n 3, 1) := by decide +kernel
theorem dX2_named_14 : decode cX2_named 14 = .ok (.goto 4, 3) := by decide +kernel
theorem dX2_named_17 : decode cX2_named 17 = .ok (.iload_n 2, 1) := by decide +kernel
theorem dX2_named_18 : decode cX2_named 18 = .ok (.ireturn, 1) := by decide +kernel
theorem dX2_joined_0 : decode cX2_joined 0 = .ok (.iload_n 0, 1) := by decide +kernel
theorem dX2_joined_1 : decode cX2_joined 1 = .ok (.lookupswitch 148 #[(38, 89), (42, 144), (43, 136), (45, 140), (60, 103), (61, 114), (62, 125), (124, 75)], 75) := by decide +kernel
theorem dX2_joined_76 : decode cX2_joined 76 = .ok (.iload_n 1, 1) := by decide +kernel
theorem dX2_joined_77 : decode cX2_joined 77 = .ok (.ifCond .ne 7, 3) := by decide +kernel
theorem dX2_joined_80 : decode cX2_joined 80 = .ok (.iload_n 2, 1) := by decide +kernel
theorem dX2_joined_81 : decode cX2_joined 81 = .ok (.ifCond .eq 7, 3) := by decide +kernel
theorem dX2_joined_84 : decode cX2_joined 84 = .ok (.iconst 1, 1) := by decide +kernel
theorem dX2_joined_85 : decode cX2_joined 85 = .ok (.goto 4, 3) := by decide +kernel
theorem dX2_joined_88 : decode cX2_joined 88 = .ok (.iconst 0, 1) := by decide +kernel
theorem dX2_joined_89 : decode cX2_joined 89 = .ok (.ireturn, 1) := by decide +kernel
theorem dX2_joined_90 : decode cX2_joined 90 = .ok (.iload_n 1, 1) := by decide +kernel
theorem dX2_joined_91 : decode cX2_joined 91 = .ok (.ifCond .eq 11, 3) := by decide +kernel
theorem dX2_joined_94 : decode cX2_joined 94 = .ok (.iload_n 2, 1) := by decide +kernel
theorem dX2_joined_95 : decode cX2_joined 95 = .ok (.ifCond .eq 7, 3) := by decide +kernel
theorem dX2_joined_98 : decode cX2_joined 98 = .ok (.iconst 1, 1) := by decide +kernel
theorem dX2_joined_99 : decode cX2_joined 99 = .ok (.goto 4, 3) := by decide +kernel
theorem dX2_joined_102 : decode cX2_joined 102 = .ok (.iconst 0, 1) := by decide +kernel
theorem dX2_joined_103 : decode cX2_joined 103 = .ok (.ireturn, 1) := by decide +kernel
theorem dX2_joined_104 : decode cX2_joined 104 = .ok (.iload_n 1, 1) := by decide +kernel
theorem dX2_joined_105 : decode cX2_joined 105 = .ok (.iload_n 2, 1) := by decide +kernel
theorem dX2_joined_106 : decode cX2_joined 106 = .ok (.if_icmp .ge 7, 3) := by decide +kernel
theorem dX2_joined_109 : decode cX2_joined 109 = .ok (.iconst 1, 1) := by decide +kernel
theorem dX2_joined_110 : decode cX2_joined 110 = .ok (.goto 4, 3) := by decide +kernel
theorem dX2_joined_113 : decode cX2_joined 113 = .ok (.iconst 0, 1) := by decide +kernel
theorem dX2_joined_114 : decode cX2_joined 114 = .ok (.ireturn, 1) := by decide +kernel
theorem dX2_joined_115 : decode cX2_joined 115 = .ok (.iload_n 1, 1) := by decide +kernel
theorem dX2_joined_116 : decode cX2_joined 116 = .ok (.iload_n 2, 1) := by decide +kernel
theorem dX2_joined_117 : decode cX2_joined 117 = .ok (.if_icmp .ne 7, 3) := by decide +kernel
theorem dX2_joined_120 : decode cX2_joined 120 = .ok (.iconst 1, 1) := by decide +kernel
theorem dX2_joined_121 : decode cX2_joined 121 = .ok (.goto 4, 3) := by decide +kernel
theorem dX2_joined_124 : decode cX2_joined 124 = .ok (.iconst 0, 1) := by decide +kernel
theorem dX2_joined_125 : decode cX2_joined 125 = .ok (.ireturn, 1) := by decide +kernel
theorem dX2_joined_126 : decode cX2_joined 126 = .ok (.iload_n 1, 1) := by decide +kernel
theorem dX2_joined_127 : decode cX2_joined 127 = .ok (.iload_n 2, 1) := by decide +kernel
theorem dX2_joined_128 : decode cX2_joined 128 = .ok (.if_icmp .le 7, 3) := by decide +kernel
theorem dX2_joined_131 : decode cX2_joined 131 = .ok (.iconst 1, 1) := by decide +kernel
theorem dX2_joined_132 : decode cX2_joined 132 = .ok (.goto 4, 3) := by decide +kernel
theorem dX2_joined_135 : decode cX2_joined 135 = .ok (.iconst 0, 1) := by decide +kernel
theorem dX2_joined_136 : decode cX2_joined 136 = .ok (.ireturn, 1) := by decide +kernel
theorem dX2_joined_137 : decode cX2_joined 137 = .ok (.iload_n 1, 1) := by decide +kernel
theorem dX2_joined_138 : decode cX2_joined 138 = .ok (.iload_n 2, 1) := by decide +kernel
theorem dX2_joined_139 : decode cX2_joined 139 = .ok (.iadd, 1) := by decide +kernel
theorem dX2_joined_140 : decode cX2_joined 140 = .ok (.ireturn, 1) := by decide +kernel
theorem dX2_joined_141 : decode cX2_joined 141 = .ok (.iload_n 1, 1) := by decide +kernel
theorem dX2_joined_142 : decode cX2_joined 142 = .ok (.iload_n 2, 1) := by decide +kernel
theorem dX2_joined_143 : decode cX2_joined 143 = .ok (.isub, 1) := by decide +kernel
theorem dX2_joined_144 : decode cX2_joined 144 = .ok (.ireturn, 1) := by decide +kernel
theorem dX2_joined_145 : decode cX2_joined 145 = .ok (.iload_n 1, 1) := by decide +kernel
theorem dX2_joined_146 : decode cX2_joined 146 = .ok (.iload_n 2, 1) := by decide +kernel
theorem dX2_joined_147 : decode cX2_joined 147 = .ok (.imul, 1) := by decide +kernel
theorem dX2_joined_148 : decode cX2_joined 148 = .ok (.ireturn, 1) := by decide +kernel
theorem dX2_joined_149 : decode cX2_joined 149 = .ok (.iload_n 2, 1) := by decide +kernel
theorem dX2_joined_150 : decode cX2_joined 150 = .ok (.ifCond .ne 7, 3) := by decide +kernel
theorem dX2_joined_153 : decode cX2_joined 153 = .ok (.iconst 0, 1) := by decide +kernel
theorem dX2_joined_154 : decode cX2_joined 154 = .ok (.goto 6, 3) := by decide +kernel
theorem dX2_joined_157 : decode cX2_joined 157 = .ok (.iload_n 1, 1) := by decide +kernel
theorem dX2_joined_158 : decode cX2_joined 158 = .ok (.iload_n 2, 1) := by decide +kernel
theorem dX2_joined_159 : decode cX2_joined 159 = .ok (.idiv, 1) := by decide +kernel
theorem dX2_joined_160 : decode cX2_joined 160 = .ok (.ireturn, 1) := by decide +kernel
theorem dX3_init_0 : decode cX3_init 0 = .ok (.aload_n 0, 1) := by decide +kernel
theorem dX3_init_1 : decode cX3_init 1 = .ok (.invokespecial 3, 3) := by decide +kernel
theorem dX3_init_4 : decode cX3_init 4 = .ok (.aload_n 0, 1) := by decide +kernel
theorem dX3_init_5 : decode cX3_init 5 = .ok (.iconst 0, 1) := by decide +kernel
theorem dX3_init_6 : decode cX3_init 6 = .ok (.putfield 9, 3) := by decide +kernel
theorem dX3_init_9 : decode cX3_init 9 = .ok (.aload_n 0, 1) := by decide +kernel
theorem dX3_init_10 : decode cX3_init 10 = .ok (.bipush 12, 2) := by decide +kernel
theorem dX3_init_12 : decode cX3_init 12 = .ok (.newarray .int, 2) := by decide +kernel
theorem dX3_init_14 : decode cX3_init 14 = .ok (.putfield 15, 3) := by decide +kernel
theorem dX3_init_17 : decode cX3_init 17 = .ok (.aload_n 0, 1) := by decide +kernel
theorem dX3_init_18 : decode cX3_init 18 = .ok (.bipush 12, 2) := by decide +kernel
theorem dX3_init_20 : decode cX3_init 20 = .ok (.newarray .int, 2) := by decide +kernel
theorem dX3_init_22 : decode cX3_init 22 = .ok (.putfield 19, 3) := by decide +kernel
theorem dX3_init_25 : decode cX3_init 25 = .ok (.aload_n 0, 1) := by decide +kernel
theorem dX3_init_26 : decode cX3_init 26 = .ok (.bipush 12, 2) := by decide +kernel
theorem dX3_init_28 : decode cX3_init 28 = .ok (.newarray .int, 2) := by decide +kernel
theorem dX3_init_30 : decode cX3_init 30 = .ok (.putfield 22, 3) := by decide +kernel
theorem dX3_init_33 : decode cX3_init 33 = .ok (.return_, 1) := by decide +kernel
theorem dX3_has_0 : decode cX3_has 0 = .ok (.iload_n 1, 1) := by decide +kernel
theorem dX3_has_1 : decode cX3_has 1 = .ok (.iconst 0, 1) := by decide +kernel
theorem dX3_has_2 : decode cX3_has 2 = .ok (.aload_n 0, 1) := by decide +kernel
theorem dX3_has_3 : decode cX3_has 3 = .ok (.getfield 9, 3) := by decide +kernel
theorem dX3_has_6 : decode cX3_has 6 = .ok (.iconst 1, 1) := by decide +kernel
theorem dX3_has_7 : decode cX3_has 7 = .ok (.isub, 1) := by decide +kernel
theorem dX3_has_8 : decode cX3_has 8 = .ok (.invokestatic 25, 3) := by decide +kernel
theorem dX3_has_11 : decode cX3_has 11 = .ok (.ireturn, 1) := by decide +kernel
theorem dX3_joins_0 : decode cX3_joins 0 = .ok (.aload_n 0, 1) := by decide +kernel
theorem dX3_joins_1 : decode cX3_joins 1 = .ok (.getfield 9, 3) := by decide +kernel
theorem dX3_joins_4 : decode cX3_joins 4 = .ok (.bipush 12, 2) := by decide +kernel
theorem dX3_joins_6 : decode cX3_joins 6 = .ok (.if_icmp .lt 6, 3) := by decide +kernel
theorem dX3_joins_9 : decode cX3_joins 9 = .ok (.ldc 29, 2) := by decide +kernel
theorem dX3_joins_11 : decode cX3_joins 11 = .ok (.ireturn, 1) := by decide +kernel
theorem dX3_joins_12 : decode cX3_joins 12 = .ok (.aload_n 0, 1) := by decide +kernel
theorem dX3_joins_13 : decode cX3_joins 13 = .ok (.getfield 15, 3) := by decide +kernel
theorem dX3_joins_16 : decode cX3_joins 16 = .ok (.aload_n 0, 1) := by decide +kernel
theorem dX3_joins_17 : decode cX3_joins 17 = .ok (.getfield 9, 3) := by decide +kernel
theorem dX3_joins_20 : decode cX3_joins 20 = .ok (.iload_n 1, 1) := by decide +kernel
theorem dX3_joins_21 : decode cX3_joins 21 = .ok (.iastore, 1) := by decide +kernel
theorem dX3_joins_22 : decode cX3_joins 22 = .ok (.aload_n 0, 1) := by decide +kernel
theorem dX3_joins_23 : decode cX3_joins 23 = .ok (.getfield 19, 3) := by decide +kernel
theorem dX3_joins_26 : decode cX3_joins 26 = .ok (.aload_n 0, 1) := by decide +kernel
theorem dX3_joins_27 : decode cX3_joins 27 = .ok (.getfield 9, 3) := by decide +kernel
theorem dX3_joins_30 : decode cX3_joins 30 = .ok (.iconst 0, 1) := by decide +kernel
theorem dX3_joins_31 : decode cX3_joins 31 = .ok (.iastore, 1) := by decide +kernel
theorem dX3_joins_32 : decode cX3_joins 32 = .ok (.aload_n 0, 1) := by decide +kernel
theorem dX3_joins_33 : decode cX3_joins 33 = .ok (.getfield 22, 3) := by decide +kernel
theorem dX3_joins_36 : decode cX3_joins 36 = .ok (.aload_n 0, 1) := by decide +kernel
theorem dX3_joins_37 : decode cX3_joins 37 = .ok (.getfield 9, 3) := by decide +kernel
theorem dX3_joins_40 : decode cX3_joins 40 = .ok (.iconst 0, 1) := by decide +kernel
theorem dX3_joins_41 : decode cX3_joins 41 = .ok (.iastore, 1) := by decide +kernel
theorem dX3_joins_42 : decode cX3_joins 42 = .ok (.aload_n 0, 1) := by decide +kernel
theorem dX3_joins_43 : decode cX3_joins 43 = .ok (.dup, 1) := by decide +kernel
theorem dX3_joins_44 : decode cX3_joins 44 = .ok (.getfield 9, 3) := by decide +kernel
theorem dX3_joins_47 : decode cX3_joins 47 = .ok (.iconst 1, 1) := by decide +kernel
theorem dX3_joins_48 : decode cX3_joins 48 = .ok (.iadd, 1) := by decide +kernel
theorem dX3_joins_49 : decode cX3_joins 49 = .ok (.putfield 9, 3) := by decide +kernel
theorem dX3_joins_52 : decode cX3_joins 52 = .ok (.aload_n 0, 1) := by decide +kernel
theorem dX3_joins_53 : decode cX3_joins 53 = .ok (.getfield 9, 3) := by decide +kernel
theorem dX3_joins_56 : decode cX3_joins 56 = .ok (.iconst 1, 1) := by decide +kernel
theorem dX3_joins_57 : decode cX3_joins 57 = .ok (.isub, 1) := by decide +kernel
theorem dX3_joins_58 : decode cX3_joins 58 = .ok (.ireturn, 1) := by decide +kernel
theorem dX3_row_0 : decode cX3_row 0 = .ok (.iload_n 1, 1) := by decide +kernel
theorem dX3_row_1 : decode cX3_row 1 = .ok (.ifCond .ne 8, 3) := by decide +kernel
theorem dX3_row_4 : decode cX3_row 4 = .ok (.aload_n 0, 1) := by decide +kernel
theorem dX3_row_5 : decode cX3_row 5 = .ok (.getfield 15, 3) := by decide +kernel
theorem dX3_row_8 : decode cX3_row 8 = .ok (.areturn, 1) := by decide +kernel
theorem dX3_row_9 : decode cX3_row 9 = .ok (.iload_n 1, 1) := by decide +kernel
theorem dX3_row_10 : decode cX3_row 10 = .ok (.iconst 1, 1) := by decide +kernel
theorem dX3_row_11 : decode cX3_row 11 = .ok (.if_icmp .ne 10, 3) := by decide +kernel
theorem dX3_row_14 : decode cX3_row 14 = .ok (.aload_n 0, 1) := by decide +kernel
theorem dX3_row_15 : decode cX3_row 15 = .ok (.getfield 19, 3) := by decide +kernel
theorem dX3_row_18 : decode cX3_row 18 = .ok (.goto 7, 3) := by decide +kernel
theorem dX3_row_21 : decode cX3_row 21 = .ok (.aload_n 0, 1) := by decide +kernel
theorem dX3_row_22 : decode cX3_row 22 = .ok (.getfield 22, 3) := by decide +kernel
theorem dX3_row_25 : decode cX3_row 25 = .ok (.areturn, 1) := by decide +kernel
theorem dX3_nextFires_0 : decode cX3_nextFires 0 = .ok (.aload_n 0, 1) := by decide +kernel
theorem dX3_nextFires_1 : decode cX3_nextFires 1 = .ok (.getfield 9, 3) := by decide +kernel
theorem dX3_nextFires_4 : decode cX3_nextFires 4 = .ok (.iconst 2, 1) := by decide +kernel
theorem dX3_nextFires_5 : decode cX3_nextFires 5 = .ok (.if_icmp .lt 11, 3) := by decide +kernel
theorem dX3_nextFires_8 : decode cX3_nextFires 8 = .ok (.aload_n 0, 1) := by decide +kernel
theorem dX3_nextFires_9 : decode cX3_nextFires 9 = .ok (.iload_n 1, 1) := by decide +kernel
theorem dX3_nextFires_10 : decode cX3_nextFires 10 = .ok (.invokevirtual 30, 3) := by decide +kernel
theorem dX3_nextFires_13 : decode cX3_nextFires 13 = .ok (.ifCond .ne 5, 3) := by decide +kernel
theorem dX3_nextFires_16 : decode cX3_nextFires 16 = .ok (.iconst 0, 1) := by decide +kernel
theorem dX3_nextFires_17 : decode cX3_nextFires 17 = .ok (.ireturn, 1) := by decide +kernel
theorem dX3_nextFires_18 : decode cX3_nextFires 18 = .ok (.iload_n 1, 1) := by decide +kernel
theorem dX3_nextFires_19 : decode cX3_nextFires 19 = .ok (.aload_n 0, 1) := by decide +kernel
theorem dX3_nextFires_20 : decode cX3_nextFires 20 = .ok (.getfield 9, 3) := by decide +kernel
theorem dX3_nextFires_23 : decode cX3_nextFires 23 = .ok (.iconst 1, 1) := by decide +kernel
theorem dX3_nextFires_24 : decode cX3_nextFires 24 = .ok (.isub, 1) := by decide +kernel
theorem dX3_nextFires_25 : decode cX3_nextFires 25 = .ok (.if_icmp .ne 7, 3) := by decide +kernel
theorem dX3_nextFires_28 : decode cX3_nextFires 28 = .ok (.iconst 0, 1) := by decide +kernel
theorem dX3_nextFires_29 : decode cX3_nextFires 29 = .ok (.goto 6, 3) := by decide +kernel
theorem dX3_nextFires_32 : decode cX3_nextFires 32 = .ok (.iload_n 1, 1) := by decide +kernel
theorem dX3_nextFires_33 : decode cX3_nextFires 33 = .ok (.iconst 1, 1) := by decide +kernel
theorem dX3_nextFires_34 : decode cX3_nextFires 34 = .ok (.iadd, 1) := by decide +kernel
theorem dX3_nextFires_35 : decode cX3_nextFires 35 = .ok (.istore_n 2, 1) := by decide +kernel
theorem dX3_nextFires_36 : decode cX3_nextFires 36 = .ok (.iload_n 1, 1) := by decide +kernel
theorem dX3_nextFires_37 : decode cX3_nextFires 37 = .ok (.ifCond .ne 12, 3) := by decide +kernel
theorem dX3_nextFires_40 : decode cX3_nextFires 40 = .ok (.aload_n 0, 1) := by decide +kernel
theorem dX3_nextFires_41 : decode cX3_nextFires 41 = .ok (.getfield 9, 3) := by decide +kernel
theorem dX3_nextFires_44 : decode cX3_nextFires 44 = .ok (.iconst 1, 1) := by decide +kernel
theorem dX3_nextFires_45 : decode cX3_nextFires 45 = .ok (.isub, 1) := by decide +kernel
theorem dX3_nextFires_46 : decode cX3_nextFires 46 = .ok (.goto 6, 3) := by decide +kernel
theorem dX3_nextFires_49 : decode cX3_nextFires 49 = .ok (.iload_n 1, 1) := by decide +kernel
theorem dX3_nextFires_50 : decode cX3_nextFires 50 = .ok (.iconst 1, 1) := by decide +kernel
theorem dX3_nextFires_51 : decode cX3_nextFires 51 = .ok (.isub, 1) := by decide +kernel
theorem dX3_nextFires_52 : decode cX3_nextFires 52 = .ok (.istore_n 3, 1) := by decide +kernel
theorem dX3_nextFires_53 : decode cX3_nextFires 53 = .ok (.iload_n 2, 1) := by decide +kernel
theorem dX3_nextFires_54 : decode cX3_nextFires 54 = .ok (.iload_n 3, 1) := by decide +kernel
theorem dX3_nextFires_55 : decode cX3_nextFires 55 = .ok (.if_icmp .ne 12, 3) := by decide +kernel
theorem dX3_nextFires_58 : decode cX3_nextFires 58 = .ok (.aload_n 0, 1) := by decide +kernel
theorem dX3_nextFires_59 : decode cX3_nextFires 59 = .ok (.getfield 19, 3) := by decide +kernel
theorem dX3_nextFires_62 : decode cX3_nextFires 62 = .ok (.iload_n 2, 1) := by decide +kernel
theorem dX3_nextFires_63 : decode cX3_nextFires 63 = .ok (.iaload, 1) := by decide +kernel
theorem dX3_nextFires_64 : decode cX3_nextFires 64 = .ok (.goto 16, 3) := by decide +kernel
theorem dX3_nextFires_67 : decode cX3_nextFires 67 = .ok (.aload_n 0, 1) := by decide +kernel
theorem dX3_nextFires_68 : decode cX3_nextFires 68 = .ok (.getfield 19, 3) := by decide +kernel
theorem dX3_nextFires_71 : decode cX3_nextFires 71 = .ok (.iload_n 2, 1) := by decide +kernel
theorem dX3_nextFires_72 : decode cX3_nextFires 72 = .ok (.iaload, 1) := by decide +kernel
theorem dX3_nextFires_73 : decode cX3_nextFires 73 = .ok (.aload_n 0, 1) := by decide +kernel
theorem dX3_nextFires_74 : decode cX3_nextFires 74 = .ok (.getfield 19, 3) := by decide +kernel
theorem dX3_nextFires_77 : decode cX3_nextFires 77 = .ok (.iload_n 3, 1) := by decide +kernel
theorem dX3_nextFires_78 : decode cX3_nextFires 78 = .ok (.iaload, 1) := by decide +kernel
theorem dX3_nextFires_79 : decode cX3_nextFires 79 = .ok (.iadd, 1) := by decide +kernel
theorem dX3_nextFires_80 : decode cX3_nextFires 80 = .ok (.ireturn, 1) := by decide +kernel
theorem dX3_allFoals_0 : decode cX3_allFoals 0 = .ok (.iconst 0, 1) := by decide +kernel
theorem dX3_allFoals_1 : decode cX3_allFoals 1 = .ok (.istore_n 1, 1) := by decide +kernel
theorem dX3_allFoals_2 : decode cX3_allFoals 2 = .ok (.iconst 0, 1) := by decide +kernel
theorem dX3_allFoals_3 : decode cX3_allFoals 3 = .ok (.istore_n 2, 1) := by decide +kernel
theorem dX3_allFoals_4 : decode cX3_allFoals 4 = .ok (.iload_n 2, 1) := by decide +kernel
theorem dX3_allFoals_5 : decode cX3_allFoals 5 = .ok (.aload_n 0, 1) := by decide +kernel
theorem dX3_allFoals_6 : decode cX3_allFoals 6 = .ok (.getfield 9, 3) := by decide +kernel
theorem dX3_allFoals_9 : decode cX3_allFoals 9 = .ok (.if_icmp .ge 18, 3) := by decide +kernel
theorem dX3_allFoals_12 : decode cX3_allFoals 12 = .ok (.iload_n 1, 1) := by decide +kernel
theorem dX3_allFoals_13 : decode cX3_allFoals 13 = .ok (.aload_n 0, 1) := by decide +kernel
theorem dX3_allFoals_14 : decode cX3_allFoals 14 = .ok (.getfield 15, 3) := by decide +kernel
theorem dX3_allFoals_17 : decode cX3_allFoals 17 = .ok (.iload_n 2, 1) := by decide +kernel
theorem dX3_allFoals_18 : decode cX3_allFoals 18 = .ok (.iaload, 1) := by decide +kernel
theorem dX3_allFoals_19 : decode cX3_allFoals 19 = .ok (.iadd, 1) := by decide +kernel
theorem dX3_allFoals_20 : decode cX3_allFoals 20 = .ok (.istore_n 1, 1) := by decide +kernel
theorem dX3_allFoals_21 : decode cX3_allFoals 21 = .ok (.iinc 2 1, 3) := by decide +kernel
theorem dX3_allFoals_24 : decode cX3_allFoals 24 = .ok (.goto (-20), 3) := by decide +kernel
theorem dX3_allFoals_27 : decode cX3_allFoals 27 = .ok (.iload_n 1, 1) := by decide +kernel
theorem dX3_allFoals_28 : decode cX3_allFoals 28 = .ok (.ireturn, 1) := by decide +kernel
theorem dX3_takeFrom_0 : decode cX3_takeFrom 0 = .ok (.aload_n 0, 1) := by decide +kernel
theorem dX3_takeFrom_1 : decode cX3_takeFrom 1 = .ok (.aload_n 1, 1) := by decide +kernel
theorem dX3_takeFrom_2 : decode cX3_takeFrom 2 = .ok (.getfield 9, 3) := by decide +kernel
theorem dX3_takeFrom_5 : decode cX3_takeFrom 5 = .ok (.putfield 9, 3) := by decide +kernel
theorem dX3_takeFrom_8 : decode cX3_takeFrom 8 = .ok (.aload_n 1, 1) := by decide +kernel
theorem dX3_takeFrom_9 : decode cX3_takeFrom 9 = .ok (.getfield 15, 3) := by decide +kernel
theorem dX3_takeFrom_12 : decode cX3_takeFrom 12 = .ok (.iconst 0, 1) := by decide +kernel
theorem dX3_takeFrom_13 : decode cX3_takeFrom 13 = .ok (.aload_n 0, 1) := by decide +kernel
theorem dX3_takeFrom_14 : decode cX3_takeFrom 14 = .ok (.getfield 15, 3) := by decide +kernel
theorem dX3_takeFrom_17 : decode cX3_takeFrom 17 = .ok (.iconst 0, 1) := by decide +kernel
theorem dX3_takeFrom_18 : decode cX3_takeFrom 18 = .ok (.aload_n 0, 1) := by decide +kernel
theorem dX3_takeFrom_19 : decode cX3_takeFrom 19 = .ok (.getfield 9, 3) := by decide +kernel
theorem dX3_takeFrom_22 : decode cX3_takeFrom 22 = .ok (.invokestatic 34, 3) := by decide +kernel
theorem dX3_takeFrom_25 : decode cX3_takeFrom 25 = .ok (.aload_n 1, 1) := by decide +kernel
theorem dX3_takeFrom_26 : decode cX3_takeFrom 26 = .ok (.getfield 19, 3) := by decide +kernel
theorem dX3_takeFrom_29 : decode cX3_takeFrom 29 = .ok (.iconst 0, 1) := by decide +kernel
theorem dX3_takeFrom_30 : decode cX3_takeFrom 30 = .ok (.aload_n 0, 1) := by decide +kernel
theorem dX3_takeFrom_31 : decode cX3_takeFrom 31 = .ok (.getfield 19, 3) := by decide +kernel
theorem dX3_takeFrom_34 : decode cX3_takeFrom 34 = .ok (.iconst 0, 1) := by decide +kernel
theorem dX3_takeFrom_35 : decode cX3_takeFrom 35 = .ok (.aload_n 0, 1) := by decide +kernel
theorem dX3_takeFrom_36 : decode cX3_takeFrom 36 = .ok (.getfield 9, 3) := by decide +kernel
theorem dX3_takeFrom_39 : decode cX3_takeFrom 39 = .ok (.invokestatic 34, 3) := by decide +kernel
theorem dX3_takeFrom_42 : decode cX3_takeFrom 42 = .ok (.aload_n 1, 1) := by decide +kernel
theorem dX3_takeFrom_43 : decode cX3_takeFrom 43 = .ok (.getfield 22, 3) := by decide +kernel
theorem dX3_takeFrom_46 : decode cX3_takeFrom 46 = .ok (.iconst 0, 1) := by decide +kernel
theorem dX3_takeFrom_47 : decode cX3_takeFrom 47 = .ok (.aload_n 0, 1) := by decide +kernel
theorem dX3_takeFrom_48 : decode cX3_takeFrom 48 = .ok (.getfield 22, 3) := by decide +kernel
theorem dX3_takeFrom_51 : decode cX3_takeFrom 51 = .ok (.iconst 0, 1) := by decide +kernel
theorem dX3_takeFrom_52 : decode cX3_takeFrom 52 = .ok (.aload_n 0, 1) := by decide +kernel
theorem dX3_takeFrom_53 : decode cX3_takeFrom 53 = .ok (.getfield 9, 3) := by decide +kernel
theorem dX3_takeFrom_56 : decode cX3_takeFrom 56 = .ok (.invokestatic 34, 3) := by decide +kernel
theorem dX3_takeFrom_59 : decode cX3_takeFrom 59 = .ok (.return_, 1) := by decide +kernel
theorem dX4_init_0 : decode cX4_init 0 = .ok (.aload_n 0, 1) := by decide +kernel
theorem dX4_init_1 : decode cX4_init 1 = .ok (.invokespecial 3, 3) := by decide +kernel
theorem dX4_init_4 : decode cX4_init 4 = .ok (.aload_n 0, 1) := by decide +kernel
theorem dX4_init_5 : decode cX4_init 5 = .ok (.iconst (-1), 1) := by decide +kernel
theorem dX4_init_6 : decode cX4_init 6 = .ok (.putfield 9, 3) := by decide +kernel
theorem dX4_init_9 : decode cX4_init 9 = .ok (.aload_n 0, 1) := by decide +kernel
theorem dX4_init_10 : decode cX4_init 10 = .ok (.iconst 0, 1) := by decide +kernel
theorem dX4_init_11 : decode cX4_init 11 = .ok (.putfield 15, 3) := by decide +kernel
theorem dX4_init_14 : decode cX4_init 14 = .ok (.aload_n 0, 1) := by decide +kernel
theorem dX4_init_15 : decode cX4_init 15 = .ok (.bipush 24, 2) := by decide +kernel
theorem dX4_init_17 : decode cX4_init 17 = .ok (.newarray .int, 2) := by decide +kernel
theorem dX4_init_19 : decode cX4_init 19 = .ok (.putfield 18, 3) := by decide +kernel
theorem dX4_init_22 : decode cX4_init 22 = .ok (.return_, 1) := by decide +kernel
theorem dX4_has_0 : decode cX4_has 0 = .ok (.iload_n 1, 1) := by decide +kernel
theorem dX4_has_1 : decode cX4_has 1 = .ok (.iconst 0, 1) := by decide +kernel
theorem dX4_has_2 : decode cX4_has 2 = .ok (.aload_n 0, 1) := by decide +kernel
theorem dX4_has_3 : decode cX4_has 3 = .ok (.getfield 15, 3) := by decide +kernel
theorem dX4_has_6 : decode cX4_has 6 = .ok (.iconst 1, 1) := by decide +kernel
theorem dX4_has_7 : decode cX4_has 7 = .ok (.isub, 1) := by decide +kernel
theorem dX4_has_8 : decode cX4_has 8 = .ok (.invokestatic 22, 3) := by decide +kernel
theorem dX4_has_11 : decode cX4_has 11 = .ok (.ireturn, 1) := by decide +kernel
theorem dX4_hasRun_0 : decode cX4_hasRun 0 = .ok (.iload_n 1, 1) := by decide +kernel
theorem dX4_hasRun_1 : decode cX4_hasRun 1 = .ok (.ifCond .lt 29, 3) := by decide +kernel
theorem dX4_hasRun_4 : decode cX4_hasRun 4 = .ok (.iload_n 2, 1) := by decide +kernel
theorem dX4_hasRun_5 : decode cX4_hasRun 5 = .ok (.ifCond .lt 25, 3) := by decide +kernel
theorem dX4_hasRun_8 : decode cX4_hasRun 8 = .ok (.iload_n 2, 1) := by decide +kernel
theorem dX4_hasRun_9 : decode cX4_hasRun 9 = .ok (.aload_n 0, 1) := by decide +kernel
theorem dX4_hasRun_10 : decode cX4_hasRun 10 = .ok (.getfield 15, 3) := by decide +kernel
theorem dX4_hasRun_13 : decode cX4_hasRun 13 = .ok (.if_icmp .gt 17, 3) := by decide +kernel
theorem dX4_hasRun_16 : decode cX4_hasRun 16 = .ok (.iload_n 1, 1) := by decide +kernel
theorem dX4_hasRun_17 : decode cX4_hasRun 17 = .ok (.aload_n 0, 1) := by decide +kernel
theorem dX4_hasRun_18 : decode cX4_hasRun 18 = .ok (.getfield 15, 3) := by decide +kernel
theorem dX4_hasRun_21 : decode cX4_hasRun 21 = .ok (.iload_n 2, 1) := by decide +kernel
theorem dX4_hasRun_22 : decode cX4_hasRun 22 = .ok (.isub, 1) := by decide +kernel
theorem dX4_hasRun_23 : decode cX4_hasRun 23 = .ok (.if_icmp .gt 7, 3) := by decide +kernel
theorem dX4_hasRun_26 : decode cX4_hasRun 26 = .ok (.iconst 1, 1) := by decide +kernel
theorem dX4_hasRun_27 : decode cX4_hasRun 27 = .ok (.goto 4, 3) := by decide +kernel
theorem dX4_hasRun_30 : decode cX4_hasRun 30 = .ok (.iconst 0, 1) := by decide +kernel
theorem dX4_hasRun_31 : decode cX4_hasRun 31 = .ok (.ireturn, 1) := by decide +kernel
theorem dX4_becomes_0 : decode cX4_becomes 0 = .ok (.aload_n 0, 1) := by decide +kernel
theorem dX4_becomes_1 : decode cX4_becomes 1 = .ok (.iload_n 1, 1) := by decide +kernel
theorem dX4_becomes_2 : decode cX4_becomes 2 = .ok (.putfield 9, 3) := by decide +kernel
theorem dX4_becomes_5 : decode cX4_becomes 5 = .ok (.aload_n 0, 1) := by decide +kernel
theorem dX4_becomes_6 : decode cX4_becomes 6 = .ok (.iload_n 2, 1) := by decide +kernel
theorem dX4_becomes_7 : decode cX4_becomes 7 = .ok (.putfield 15, 3) := by decide +kernel
theorem dX4_becomes_10 : decode cX4_becomes 10 = .ok (.aload_n 0, 1) := by decide +kernel
theorem dX4_becomes_11 : decode cX4_becomes 11 = .ok (.getfield 18, 3) := by decide +kernel
theorem dX4_becomes_14 : decode cX4_becomes 14 = .ok (.iconst 0, 1) := by decide +kernel
theorem dX4_becomes_15 : decode cX4_becomes 15 = .ok (.invokestatic 26, 3) := by decide +kernel
theorem dX4_becomes_18 : decode cX4_becomes 18 = .ok (.return_, 1) := by decide +kernel
theorem dX4_takeFrom_0 : decode cX4_takeFrom 0 = .ok (.aload_n 0, 1) := by decide +kernel
theorem dX4_takeFrom_1 : decode cX4_takeFrom 1 = .ok (.aload_n 1, 1) := by decide +kernel
theorem dX4_takeFrom_2 : decode cX4_takeFrom 2 = .ok (.getfield 9, 3) := by decide +kernel
theorem dX4_takeFrom_5 : decode cX4_takeFrom 5 = .ok (.putfield 9, 3) := by decide +kernel
theorem dX4_takeFrom_8 : decode cX4_takeFrom 8 = .ok (.aload_n 0, 1) := by decide +kernel
theorem dX4_takeFrom_9 : decode cX4_takeFrom 9 = .ok (.aload_n 1, 1) := by decide +kernel
theorem dX4_takeFrom_10 : decode cX4_takeFrom 10 = .ok (.getfield 15, 3) := by decide +kernel
theorem dX4_takeFrom_13 : decode cX4_takeFrom 13 = .ok (.putfield 15, 3) := by decide +kernel
theorem dX4_takeFrom_16 : decode cX4_takeFrom 16 = .ok (.aload_n 1, 1) := by decide +kernel
theorem dX4_takeFrom_17 : decode cX4_takeFrom 17 = .ok (.getfield 18, 3) := by decide +kernel
theorem dX4_takeFrom_20 : decode cX4_takeFrom 20 = .ok (.iconst 0, 1) := by decide +kernel
theorem dX4_takeFrom_21 : decode cX4_takeFrom 21 = .ok (.aload_n 0, 1) := by decide +kernel
theorem dX4_takeFrom_22 : decode cX4_takeFrom 22 = .ok (.getfield 18, 3) := by decide +kernel
theorem dX4_takeFrom_25 : decode cX4_takeFrom 25 = .ok (.iconst 0, 1) := by decide +kernel
theorem dX4_takeFrom_26 : decode cX4_takeFrom 26 = .ok (.aload_n 0, 1) := by decide +kernel
theorem dX4_takeFrom_27 : decode cX4_takeFrom 27 = .ok (.getfield 15, 3) := by decide +kernel
theorem dX4_takeFrom_30 : decode cX4_takeFrom 30 = .ok (.invokestatic 32, 3) := by decide +kernel
theorem dX4_takeFrom_33 : decode cX4_takeFrom 33 = .ok (.return_, 1) := by decide +kernel
theorem dX4_differences_0 : decode cX4_differences 0 = .ok (.iconst 0, 1) := by decide +kernel
theorem dX4_differences_1 : decode cX4_differences 1 = .ok (.istore_n 2, 1) := by decide +kernel
theorem dX4_differences_2 : decode cX4_differences 2 = .ok (.iconst 0, 1) := by decide +kernel
theorem dX4_differences_3 : decode cX4_differences 3 = .ok (.istore_n 3, 1) := by decide +kernel
theorem dX4_differences_4 : decode cX4_differences 4 = .ok (.iload_n 3, 1) := by decide +kernel
theorem dX4_differences_5 : decode cX4_differences 5 = .ok (.aload_n 0, 1) := by decide +kernel
theorem dX4_differences_6 : decode cX4_differences 6 = .ok (.getfield 15, 3) := by decide +kernel
theorem dX4_differences_9 : decode cX4_differences 9 = .ok (.if_icmp .ge 55, 3) := by decide +kernel
theorem dX4_differences_12 : decode cX4_differences 12 = .ok (.aload_n 0, 1) := by decide +kernel
theorem dX4_differences_13 : decode cX4_differences 13 = .ok (.getfield 18, 3) := by decide +kernel
theorem dX4_differences_16 : decode cX4_differences 16 = .ok (.iload_n 3, 1) := by decide +kernel
theorem dX4_differences_17 : decode cX4_differences 17 = .ok (.iaload, 1) := by decide +kernel
theorem dX4_differences_18 : decode cX4_differences 18 = .ok (.ldc 38, 2) := by decide +kernel
theorem dX4_differences_20 : decode cX4_differences 20 = .ok (.if_icmp .eq 38, 3) := by decide +kernel
theorem dX4_differences_23 : decode cX4_differences 23 = .ok (.aload_n 1, 1) := by decide +kernel
theorem dX4_differences_24 : decode cX4_differences 24 = .ok (.iload_n 3, 1) := by decide +kernel
theorem dX4_differences_25 : decode cX4_differences 25 = .ok (.invokevirtual 39, 3) := by decide +kernel
theorem dX4_differences_28 : decode cX4_differences 28 = .ok (.ifCond .eq 12, 3) := by decide +kernel
theorem dX4_differences_31 : decode cX4_differences 31 = .ok (.aload_n 1, 1) := by decide +kernel
theorem dX4_differences_32 : decode cX4_differences 32 = .ok (.getfield 45, 3) := by decide +kernel
theorem dX4_differences_35 : decode cX4_differences 35 = .ok (.iload_n 3, 1) := by decide +kernel
theorem dX4_differences_36 : decode cX4_differences 36 = .ok (.iaload, 1) := by decide +kernel
theorem dX4_differences_37 : decode cX4_differences 37 = .ok (.goto 4, 3) := by decide +kernel
theorem dX4_differences_40 : decode cX4_differences 40 = .ok (.iconst 0, 1) := by decide +kernel
theorem dX4_differences_41 : decode cX4_differences 41 = .ok (.istore 4, 2) := by decide +kernel
theorem dX4_differences_43 : decode cX4_differences 43 = .ok (.iload_n 2, 1) := by decide +kernel
theorem dX4_differences_44 : decode cX4_differences 44 = .ok (.aload_n 0, 1) := by decide +kernel
theorem dX4_differences_45 : decode cX4_differences 45 = .ok (.getfield 18, 3) := by decide +kernel
theorem dX4_differences_48 : decode cX4_differences 48 = .ok (.iload_n 3, 1) := by decide +kernel
theorem dX4_differences_49 : decode cX4_differences 49 = .ok (.iaload, 1) := by decide +kernel
theorem dX4_differences_50 : decode cX4_differences 50 = .ok (.iload 4, 2) := by decide +kernel
theorem dX4_differences_52 : decode cX4_differences 52 = .ok (.isub, 1) := by decide +kernel
theorem dX4_differences_53 : decode cX4_differences 53 = .ok (.invokestatic 48, 3) := by decide +kernel
theorem dX4_differences_56 : decode cX4_differences 56 = .ok (.iadd, 1) := by decide +kernel
theorem dX4_differences_57 : decode cX4_differences 57 = .ok (.istore_n 2, 1) := by decide +kernel
theorem dX4_differences_58 : decode cX4_differences 58 = .ok (.iinc 3 1, 3) := by decide +kernel
theorem dX4_differences_61 : decode cX4_differences 61 = .ok (.goto (-57), 3) := by decide +kernel
theorem dX4_differences_64 : decode cX4_differences 64 = .ok (.iload_n 2, 1) := by decide +kernel
theorem dX4_differences_65 : decode cX4_differences 65 = .ok (.ireturn, 1) := by decide +kernel
theorem dX5_init_0 : decode cX5_init 0 = .ok (.aload_n 0, 1) := by decide +kernel
theorem dX5_init_1 : decode cX5_init 1 = .ok (.invokespecial 3, 3) := by decide +kernel
theorem dX5_init_4 : decode cX5_init 4 = .ok (.aload_n 0, 1) := by decide +kernel
theorem dX5_init_5 : decode cX5_init 5 = .ok (.iconst 0, 1) := by decide +kernel
theorem dX5_init_6 : decode cX5_init 6 = .ok (.putfield 9, 3) := by decide +kernel
theorem dX5_init_9 : decode cX5_init 9 = .ok (.aload_n 0, 1) := by decide +kernel
theorem dX5_init_10 : decode cX5_init 10 = .ok (.iconst 0, 1) := by decide +kernel
theorem dX5_init_11 : decode cX5_init 11 = .ok (.putfield 15, 3) := by decide +kernel
theorem dX5_init_14 : decode cX5_init 14 = .ok (.aload_n 0, 1) := by decide +kernel
theorem dX5_init_15 : decode cX5_init 15 = .ok (.new 18, 3) := by decide +kernel
theorem dX5_init_18 : decode cX5_init 18 = .ok (.dup, 1) := by decide +kernel
theorem dX5_init_19 : decode cX5_init 19 = .ok (.invokespecial 20, 3) := by decide +kernel
theorem dX5_init_22 : decode cX5_init 22 = .ok (.putfield 21, 3) := by decide +kernel
theorem dX5_init_25 : decode cX5_init 25 = .ok (.aload_n 0, 1) := by decide +kernel
theorem dX5_init_26 : decode cX5_init 26 = .ok (.new 25, 3) := by decide +kernel
theorem dX5_init_29 : decode cX5_init 29 = .ok (.dup, 1) := by decide +kernel
theorem dX5_init_30 : decode cX5_init 30 = .ok (.invokespecial 27, 3) := by decide +kernel
theorem dX5_init_33 : decode cX5_init 33 = .ok (.putfield 28, 3) := by decide +kernel
theorem dX5_init_36 : decode cX5_init 36 = .ok (.return_, 1) := by decide +kernel
theorem dX6_init_0 : decode cX6_init 0 = .ok (.aload_n 0, 1) := by decide +kernel
theorem dX6_init_1 : decode cX6_init 1 = .ok (.invokespecial 3, 3) := by decide +kernel
theorem dX6_init_4 : decode cX6_init 4 = .ok (.aload_n 0, 1) := by decide +kernel
theorem dX6_init_5 : decode cX6_init 5 = .ok (.bipush 96, 2) := by decide +kernel
theorem dX6_init_7 : decode cX6_init 7 = .ok (.newarray .int, 2) := by decide +kernel
theorem dX6_init_9 : decode cX6_init 9 = .ok (.putfield 9, 3) := by decide +kernel
theorem dX6_init_12 : decode cX6_init 12 = .ok (.aload_n 0, 1) := by decide +kernel
theorem dX6_init_13 : decode cX6_init 13 = .ok (.iconst 0, 1) := by decide +kernel
theorem dX6_init_14 : decode cX6_init 14 = .ok (.putfield 15, 3) := by decide +kernel
theorem dX6_init_17 : decode cX6_init 17 = .ok (.aload_n 0, 1) := by decide +kernel
theorem dX6_init_18 : decode cX6_init 18 = .ok (.iconst 0, 1) := by decide +kernel
theorem dX6_init_19 : decode cX6_init 19 = .ok (.putfield 19, 3) := by decide +kernel
theorem dX6_init_22 : decode cX6_init 22 = .ok (.aload_n 0, 1) := by decide +kernel
theorem dX6_init_23 : decode cX6_init 23 = .ok (.iconst 0, 1) := by decide +kernel
theorem dX6_init_24 : decode cX6_init 24 = .ok (.putfield 22, 3) := by decide +kernel
theorem dX6_init_27 : decode cX6_init 27 = .ok (.aload_n 0, 1) := by decide +kernel
theorem dX6_init_28 : decode cX6_init 28 = .ok (.bipush 96, 2) := by decide +kernel
theorem dX6_init_30 : decode cX6_init 30 = .ok (.newarray .int, 2) := by decide +kernel
theorem dX6_init_32 : decode cX6_init 32 = .ok (.putfield 25, 3) := by decide +kernel
theorem dX6_init_35 : decode cX6_init 35 = .ok (.aload_n 0, 1) := by decide +kernel
theorem dX6_init_36 : decode cX6_init 36 = .ok (.iconst 0, 1) := by decide +kernel
theorem dX6_init_37 : decode cX6_init 37 = .ok (.putfield 28, 3) := by decide +kernel
theorem dX6_init_40 : decode cX6_init 40 = .ok (.aload_n 0, 1) := by decide +kernel
theorem dX6_init_41 : decode cX6_init 41 = .ok (.iconst 0, 1) := by decide +kernel
theorem dX6_init_42 : decode cX6_init 42 = .ok (.putfield 31, 3) := by decide +kernel
theorem dX6_init_45 : decode cX6_init 45 = .ok (.aload_n 0, 1) := by decide +kernel
theorem dX6_init_46 : decode cX6_init 46 = .ok (.iconst 0, 1) := by decide +kernel
theorem dX6_init_47 : decode cX6_init 47 = .ok (.putfield 34, 3) := by decide +kernel
theorem dX6_init_50 : decode cX6_init 50 = .ok (.aload_n 0, 1) := by decide +kernel
theorem dX6_init_51 : decode cX6_init 51 = .ok (.iconst 1, 1) := by decide +kernel
theorem dX6_init_52 : decode cX6_init 52 = .ok (.putfield 37, 3) := by decide +kernel
theorem dX6_init_55 : decode cX6_init 55 = .ok (.return_, 1) := by decide +kernel
theorem dX6_takesNumber_0 : decode cX6_takesNumber 0 = .ok (.bipush 24, 2) := by decide +kernel
theorem dX6_takesNumber_2 : decode cX6_takesNumber 2 = .ok (.istore_n 2, 1) := by decide +kernel
theorem dX6_takesNumber_3 : decode cX6_takesNumber 3 = .ok (.iload_n 2, 1) := by decide +kernel
theorem dX6_takesNumber_4 : decode cX6_takesNumber 4 = .ok (.ifCond .lt 47, 3) := by decide +kernel
theorem dX6_takesNumber_7 : decode cX6_takesNumber 7 = .ok (.aload_n 0, 1) := by decide +kernel
theorem dX6_takesNumber_8 : decode cX6_takesNumber 8 = .ok (.getfield 15, 3) := by decide +kernel
theorem dX6_takesNumber_11 : decode cX6_takesNumber 11 = .ok (.aload_n 0, 1) := by decide +kernel
theorem dX6_takesNumber_12 : decode cX6_takesNumber 12 = .ok (.getfield 9, 3) := by decide +kernel
theorem dX6_takesNumber_15 : decode cX6_takesNumber 15 = .ok (.arraylength, 1) := by decide +kernel
theorem dX6_takesNumber_16 : decode cX6_takesNumber 16 = .ok (.if_icmp .ge 35, 3) := by decide +kernel
theorem dX6_takesNumber_19 : decode cX6_takesNumber 19 = .ok (.aload_n 0, 1) := by decide +kernel
theorem dX6_takesNumber_20 : decode cX6_takesNumber 20 = .ok (.getfield 9, 3) := by decide +kernel
theorem dX6_takesNumber_23 : decode cX6_takesNumber 23 = .ok (.aload_n 0, 1) := by decide +kernel
theorem dX6_takesNumber_24 : decode cX6_takesNumber 24 = .ok (.getfield 15, 3) := by decide +kernel
theorem dX6_takesNumber_27 : decode cX6_takesNumber 27 = .ok (.iload_n 1, 1) := by decide +kernel
theorem dX6_takesNumber_28 : decode cX6_takesNumber 28 = .ok (.iload_n 2, 1) := by decide +kernel
theorem dX6_takesNumber_29 : decode cX6_takesNumber 29 = .ok (.iushr, 1) := by decide +kernel
theorem dX6_takesNumber_30 : decode cX6_takesNumber 30 = .ok (.sipush 255, 3) := by decide +kernel
theorem dX6_takesNumber_33 : decode cX6_takesNumber 33 = .ok (.iand, 1) := by decide +kernel
theorem dX6_takesNumber_34 : decode cX6_takesNumber 34 = .ok (.iastore, 1) := by decide +kernel
theorem dX6_takesNumber_35 : decode cX6_takesNumber 35 = .ok (.aload_n 0, 1) := by decide +kernel
theorem dX6_takesNumber_36 : decode cX6_takesNumber 36 = .ok (.dup, 1) := by decide +kernel
theorem dX6_takesNumber_37 : decode cX6_takesNumber 37 = .ok (.getfield 15, 3) := by decide +kernel
theorem dX6_takesNumber_40 : decode cX6_takesNumber 40 = .ok (.iconst 1, 1) := by decide +kernel
theorem dX6_takesNumber_41 : decode cX6_takesNumber 41 = .ok (.iadd, 1) := by decide +kernel
theorem dX6_takesNumber_42 : decode cX6_takesNumber 42 = .ok (.putfield 15, 3) := by decide +kernel
theorem dX6_takesNumber_45 : decode cX6_takesNumber 45 = .ok (.iinc 2 (-8), 3) := by decide +kernel
theorem dX6_takesNumber_48 : decode cX6_takesNumber 48 = .ok (.goto (-45), 3) := by decide +kernel
theorem dX6_takesNumber_51 : decode cX6_takesNumber 51 = .ok (.return_, 1) := by decide +kernel
theorem dX6_readInto_0 : decode cX6_readInto 0 = .ok (.aload_n 0, 1) := by decide +kernel
theorem dX6_readInto_1 : decode cX6_readInto 1 = .ok (.iconst 0, 1) := by decide +kernel
theorem dX6_readInto_2 : decode cX6_readInto 2 = .ok (.putfield 22, 3) := by decide +kernel
theorem dX6_readInto_5 : decode cX6_readInto 5 = .ok (.aload_n 0, 1) := by decide +kernel
theorem dX6_readInto_6 : decode cX6_readInto 6 = .ok (.iconst 0, 1) := by decide +kernel
theorem dX6_readInto_7 : decode cX6_readInto 7 = .ok (.putfield 28, 3) := by decide +kernel
theorem dX6_readInto_10 : decode cX6_readInto 10 = .ok (.aload_n 0, 1) := by decide +kernel
theorem dX6_readInto_11 : decode cX6_readInto 11 = .ok (.iconst 0, 1) := by decide +kernel
theorem dX6_readInto_12 : decode cX6_readInto 12 = .ok (.putfield 31, 3) := by decide +kernel
theorem dX6_readInto_15 : decode cX6_readInto 15 = .ok (.aload_n 0, 1) := by decide +kernel
theorem dX6_readInto_16 : decode cX6_readInto 16 = .ok (.iconst 0, 1) := by decide +kernel
theorem dX6_readInto_17 : decode cX6_readInto 17 = .ok (.putfield 34, 3) := by decide +kernel
theorem dX6_readInto_20 : decode cX6_readInto 20 = .ok (.aload_n 0, 1) := by decide +kernel
theorem dX6_readInto_21 : decode cX6_readInto 21 = .ok (.iconst 1, 1) := by decide +kernel
theorem dX6_readInto_22 : decode cX6_readInto 22 = .ok (.putfield 37, 3) := by decide +kernel
theorem dX6_readInto_25 : decode cX6_readInto 25 = .ok (.aload_n 0, 1) := by decide +kernel
theorem dX6_readInto_26 : decode cX6_readInto 26 = .ok (.invokevirtual 41, 3) := by decide +kernel
theorem dX6_readInto_29 : decode cX6_readInto 29 = .ok (.aload_n 0, 1) := by decide +kernel
theorem dX6_readInto_30 : decode cX6_readInto 30 = .ok (.invokevirtual 44, 3) := by decide +kernel
theorem dX6_readInto_33 : decode cX6_readInto 33 = .ok (.istore_n 2, 1) := by decide +kernel
theorem dX6_readInto_34 : decode cX6_readInto 34 = .ok (.iload_n 2, 1) := by decide +kernel
theorem dX6_readInto_35 : decode cX6_readInto 35 = .ok (.ifCond .ge 8, 3) := by decide +kernel
theorem dX6_readInto_38 : decode cX6_readInto 38 = .ok (.aload_n 0, 1) := by decide +kernel
theorem dX6_readInto_39 : decode cX6_readInto 39 = .ok (.getfield 19, 3) := by decide +kernel
theorem dX6_readInto_42 : decode cX6_readInto 42 = .ok (.ireturn, 1) := by decide +kernel
theorem dX6_readInto_43 : decode cX6_readInto 43 = .ok (.aload_n 1, 1) := by decide +kernel
theorem dX6_readInto_44 : decode cX6_readInto 44 = .ok (.iload_n 2, 1) := by decide +kernel
theorem dX6_readInto_45 : decode cX6_readInto 45 = .ok (.invokevirtual 48, 3) := by decide +kernel
theorem dX6_readInto_48 : decode cX6_readInto 48 = .ok (.aload_n 0, 1) := by decide +kernel
theorem dX6_readInto_49 : decode cX6_readInto 49 = .ok (.getfield 22, 3) := by decide +kernel
theorem dX6_readInto_52 : decode cX6_readInto 52 = .ok (.istore_n 3, 1) := by decide +kernel
theorem dX6_readInto_53 : decode cX6_readInto 53 = .ok (.aload_n 0, 1) := by decide +kernel
theorem dX6_readInto_54 : decode cX6_readInto 54 = .ok (.invokevirtual 41, 3) := by decide +kernel
theorem dX6_readInto_57 : decode cX6_readInto 57 = .ok (.aload_n 0, 1) := by decide +kernel
theorem dX6_readInto_58 : decode cX6_readInto 58 = .ok (.getfield 19, 3) := by decide +kernel
theorem dX6_readInto_61 : decode cX6_readInto 61 = .ok (.iload_n 3, 1) := by decide +kernel
theorem dX6_readInto_62 : decode cX6_readInto 62 = .ok (.if_icmp .ne 15, 3) := by decide +kernel
theorem dX6_readInto_65 : decode cX6_readInto 65 = .ok (.aload_n 0, 1) := by decide +kernel
theorem dX6_readInto_66 : decode cX6_readInto 66 = .ok (.invokevirtual 54, 3) := by decide +kernel
theorem dX6_readInto_69 : decode cX6_readInto 69 = .ok (.ifCond .eq 8, 3) := by decide +kernel
theorem dX6_readInto_72 : decode cX6_readInto 72 = .ok (.aload_n 0, 1) := by decide +kernel
theorem dX6_readInto_73 : decode cX6_readInto 73 = .ok (.getfield 19, 3) := by decide +kernel
theorem dX6_readInto_76 : decode cX6_readInto 76 = .ok (.ireturn, 1) := by decide +kernel
theorem dX6_readInto_77 : decode cX6_readInto 77 = .ok (.iconst 0, 1) := by decide +kernel
theorem dX6_readInto_78 : decode cX6_readInto 78 = .ok (.istore 4, 2) := by decide +kernel
theorem dX6_readInto_80 : decode cX6_readInto 80 = .ok (.iload 4, 2) := by decide +kernel
theorem dX6_readInto_82 : decode cX6_readInto 82 = .ok (.bipush 96, 2) := by decide +kernel
theorem dX6_readInto_84 : decode cX6_readInto 84 = .ok (.if_icmp .ge 56, 3) := by decide +kernel
theorem dX6_readInto_87 : decode cX6_readInto 87 = .ok (.aload_n 0, 1) := by decide +kernel
theorem dX6_readInto_88 : decode cX6_readInto 88 = .ok (.getfield 19, 3) := by decide +kernel
theorem dX6_readInto_91 : decode cX6_readInto 91 = .ok (.aload_n 0, 1) := by decide +kernel
theorem dX6_readInto_92 : decode cX6_readInto 92 = .ok (.getfield 15, 3) := by decide +kernel
theorem dX6_readInto_95 : decode cX6_readInto 95 = .ok (.if_icmp .ge 45, 3) := by decide +kernel
theorem dX6_readInto_98 : decode cX6_readInto 98 = .ok (.aload_n 0, 1) := by decide +kernel
theorem dX6_readInto_99 : decode cX6_readInto 99 = .ok (.getfield 37, 3) := by decide +kernel
theorem dX6_readInto_102 : decode cX6_readInto 102 = .ok (.ifCond .eq 11, 3) := by decide +kernel
theorem dX6_readInto_105 : decode cX6_readInto 105 = .ok (.aload_n 0, 1) := by decide +kernel
theorem dX6_readInto_106 : decode cX6_readInto 106 = .ok (.aload_n 1, 1) := by decide +kernel
theorem dX6_readInto_107 : decode cX6_readInto 107 = .ok (.invokevirtual 57, 3) := by decide +kernel
theorem dX6_readInto_110 : decode cX6_readInto 110 = .ok (.goto 8, 3) := by decide +kernel
theorem dX6_readInto_113 : decode cX6_readInto 113 = .ok (.aload_n 0, 1) := by decide +kernel
theorem dX6_readInto_114 : decode cX6_readInto 114 = .ok (.aload_n 1, 1) := by decide +kernel
theorem dX6_readInto_115 : decode cX6_readInto 115 = .ok (.invokevirtual 61, 3) := by decide +kernel
theorem dX6_readInto_118 : decode cX6_readInto 118 = .ok (.istore 5, 2) := by decide +kernel
theorem dX6_readInto_120 : decode cX6_readInto 120 = .ok (.iload 5, 2) := by decide +kernel
theorem dX6_readInto_122 : decode cX6_readInto 122 = .ok (.ifCond .ne 8, 3) := by decide +kernel
theorem dX6_readInto_125 : decode cX6_readInto 125 = .ok (.aload_n 0, 1) := by decide +kernel
theorem dX6_readInto_126 : decode cX6_readInto 126 = .ok (.getfield 19, 3) := by decide +kernel
theorem dX6_readInto_129 : decode cX6_readInto 129 = .ok (.ireturn, 1) := by decide +kernel
theorem dX6_readInto_130 : decode cX6_readInto 130 = .ok (.aload_n 0, 1) := by decide +kernel
theorem dX6_readInto_131 : decode cX6_readInto 131 = .ok (.invokevirtual 41, 3) := by decide +kernel
theorem dX6_readInto_134 : decode cX6_readInto 134 = .ok (.iinc 4 1, 3) := by decide +kernel
theorem dX6_readInto_137 : decode cX6_readInto 137 = .ok (.goto (-57), 3) := by decide +kernel
theorem dX6_readInto_140 : decode cX6_readInto 140 = .ok (.aload_n 0, 1) := by decide +kernel
theorem dX6_readInto_141 : decode cX6_readInto 141 = .ok (.getfield 37, 3) := by decide +kernel
theorem dX6_readInto_144 : decode cX6_readInto 144 = .ok (.ifCond .ne 10, 3) := by decide +kernel
theorem dX6_readInto_147 : decode cX6_readInto 147 = .ok (.aload_n 0, 1) := by decide +kernel
theorem dX6_readInto_148 : decode cX6_readInto 148 = .ok (.getfield 31, 3) := by decide +kernel
theorem dX6_readInto_151 : decode cX6_readInto 151 = .ok (.ifCond .le 8, 3) := by decide +kernel
theorem dX6_readInto_154 : decode cX6_readInto 154 = .ok (.aload_n 0, 1) := by decide +kernel
theorem dX6_readInto_155 : decode cX6_readInto 155 = .ok (.getfield 15, 3) := by decide +kernel
theorem dX6_readInto_158 : decode cX6_readInto 158 = .ok (.ireturn, 1) := by decide +kernel
theorem dX6_readInto_159 : decode cX6_readInto 159 = .ok (.aload_n 0, 1) := by decide +kernel
theorem dX6_readInto_160 : decode cX6_readInto 160 = .ok (.iconst 1, 1) := by decide +kernel
theorem dX6_readInto_161 : decode cX6_readInto 161 = .ok (.aload_n 1, 1) := by decide +kernel
theorem dX6_readInto_162 : decode cX6_readInto 162 = .ok (.invokevirtual 64, 3) := by decide +kernel
theorem dX6_readInto_165 : decode cX6_readInto 165 = .ok (.iconst (-1), 1) := by decide +kernel
theorem dX6_readInto_166 : decode cX6_readInto 166 = .ok (.ireturn, 1) := by decide +kernel
theorem dX6_steps_0 : decode cX6_steps 0 = .ok (.aload_n 0, 1) := by decide +kernel
theorem dX6_steps_1 : decode cX6_steps 1 = .ok (.aload_n 0, 1) := by decide +kernel
theorem dX6_steps_2 : decode cX6_steps 2 = .ok (.getfield 22, 3) := by decide +kernel
theorem dX6_steps_5 : decode cX6_steps 5 = .ok (.putfield 19, 3) := by decide +kernel
theorem dX6_steps_8 : decode cX6_steps 8 = .ok (.aload_n 0, 1) := by decide +kernel
theorem dX6_steps_9 : decode cX6_steps 9 = .ok (.getfield 19, 3) := by decide +kernel
theorem dX6_steps_12 : decode cX6_steps 12 = .ok (.aload_n 0, 1) := by decide +kernel
theorem dX6_steps_13 : decode cX6_steps 13 = .ok (.getfield 15, 3) := by decide +kernel
theorem dX6_steps_16 : decode cX6_steps 16 = .ok (.if_icmp .ge 30, 3) := by decide +kernel
theorem dX6_steps_19 : decode cX6_steps 19 = .ok (.aload_n 0, 1) := by decide +kernel
theorem dX6_steps_20 : decode cX6_steps 20 = .ok (.getfield 9, 3) := by decide +kernel
theorem dX6_steps_23 : decode cX6_steps 23 = .ok (.aload_n 0, 1) := by decide +kernel
theorem dX6_steps_24 : decode cX6_steps 24 = .ok (.getfield 19, 3) := by decide +kernel
theorem dX6_steps_27 : decode cX6_steps 27 = .ok (.iaload, 1) := by decide +kernel
theorem dX6_steps_28 : decode cX6_steps 28 = .ok (.bipush 32, 2) := by decide +kernel
theorem dX6_steps_30 : decode cX6_steps 30 = .ok (.if_icmp .ne 16, 3) := by decide +kernel
theorem dX6_steps_33 : decode cX6_steps 33 = .ok (.aload_n 0, 1) := by decide +kernel
theorem dX6_steps_34 : decode cX6_steps 34 = .ok (.dup, 1) := by decide +kernel
theorem dX6_steps_35 : decode cX6_steps 35 = .ok (.getfield 19, 3) := by decide +kernel
theorem dX6_steps_38 : decode cX6_steps 38 = .ok (.iconst 1, 1) := by decide +kernel
theorem dX6_steps_39 : decode cX6_steps 39 = .ok (.iadd, 1) := by decide +kernel
theorem dX6_steps_40 : decode cX6_steps 40 = .ok (.putfield 19, 3) := by decide +kernel
theorem dX6_steps_43 : decode cX6_steps 43 = .ok (.goto (-35), 3) := by decide +kernel
theorem dX6_steps_46 : decode cX6_steps 46 = .ok (.aload_n 0, 1) := by decide +kernel
theorem dX6_steps_47 : decode cX6_steps 47 = .ok (.aload_n 0, 1) := by decide +kernel
theorem dX6_steps_48 : decode cX6_steps 48 = .ok (.getfield 15, 3) := by decide +kernel
theorem dX6_steps_51 : decode cX6_steps 51 = .ok (.aload_n 0, 1) := by decide +kernel
theorem dX6_steps_52 : decode cX6_steps 52 = .ok (.getfield 19, 3) := by decide +kernel
theorem dX6_steps_55 : decode cX6_steps 55 = .ok (.iconst 1, 1) := by decide +kernel
theorem dX6_steps_56 : decode cX6_steps 56 = .ok (.iadd, 1) := by decide +kernel
theorem dX6_steps_57 : decode cX6_steps 57 = .ok (.invokestatic 68, 3) := by decide +kernel
theorem dX6_steps_60 : decode cX6_steps 60 = .ok (.putfield 22, 3) := by decide +kernel
theorem dX6_steps_63 : decode cX6_steps 63 = .ok (.aload_n 0, 1) := by decide +kernel
theorem dX6_steps_64 : decode cX6_steps 64 = .ok (.invokevirtual 54, 3) := by decide +kernel
theorem dX6_steps_67 : decode cX6_steps 67 = .ok (.istore_n 1, 1) := by decide +kernel
theorem dX6_steps_68 : decode cX6_steps 68 = .ok (.iload_n 1, 1) := by decide +kernel
theorem dX6_steps_69 : decode cX6_steps 69 = .ok (.ifCond .eq 43, 3) := by decide +kernel
theorem dX6_steps_72 : decode cX6_steps 72 = .ok (.aload_n 0, 1) := by decide +kernel
theorem dX6_steps_73 : decode cX6_steps 73 = .ok (.getfield 22, 3) := by decide +kernel
theorem dX6_steps_76 : decode cX6_steps 76 = .ok (.aload_n 0, 1) := by decide +kernel
theorem dX6_steps_77 : decode cX6_steps 77 = .ok (.getfield 15, 3) := by decide +kernel
theorem dX6_steps_80 : decode cX6_steps 80 = .ok (.if_icmp .ge 32, 3) := by decide +kernel
theorem dX6_steps_83 : decode cX6_steps 83 = .ok (.aload_n 0, 1) := by decide +kernel
theorem dX6_steps_84 : decode cX6_steps 84 = .ok (.getfield 9, 3) := by decide +kernel
theorem dX6_steps_87 : decode cX6_steps 87 = .ok (.aload_n 0, 1) := by decide +kernel
theorem dX6_steps_88 : decode cX6_steps 88 = .ok (.getfield 22, 3) := by decide +kernel
theorem dX6_steps_91 : decode cX6_steps 91 = .ok (.iaload, 1) := by decide +kernel
theorem dX6_steps_92 : decode cX6_steps 92 = .ok (.invokestatic 74, 3) := by decide +kernel
theorem dX6_steps_95 : decode cX6_steps 95 = .ok (.iload_n 1, 1) := by decide +kernel
theorem dX6_steps_96 : decode cX6_steps 96 = .ok (.if_icmp .ne 16, 3) := by decide +kernel
theorem dX6_steps_99 : decode cX6_steps 99 = .ok (.aload_n 0, 1) := by decide +kernel
theorem dX6_steps_100 : decode cX6_steps 100 = .ok (.dup, 1) := by decide +kernel
theorem dX6_steps_101 : decode cX6_steps 101 = .ok (.getfield 22, 3) := by decide +kernel
theorem dX6_steps_104 : decode cX6_steps 104 = .ok (.iconst 1, 1) := by decide +kernel
theorem dX6_steps_105 : decode cX6_steps 105 = .ok (.iadd, 1) := by decide +kernel
theorem dX6_steps_106 : decode cX6_steps 106 = .ok (.putfield 22, 3) := by decide +kernel
theorem dX6_steps_109 : decode cX6_steps 109 = .ok (.goto (-41), 3) := by decide +kernel
theorem dX6_steps_112 : decode cX6_steps 112 = .ok (.return_, 1) := by decide +kernel
theorem dX6_sortHere_0 : decode cX6_sortHere 0 = .ok (.aload_n 0, 1) := by decide +kernel
theorem dX6_sortHere_1 : decode cX6_sortHere 1 = .ok (.getfield 19, 3) := by decide +kernel
theorem dX6_sortHere_4 : decode cX6_sortHere 4 = .ok (.aload_n 0, 1) := by decide +kernel
theorem dX6_sortHere_5 : decode cX6_sortHere 5 = .ok (.getfield 15, 3) := by decide +kernel
theorem dX6_sortHere_8 : decode cX6_sortHere 8 = .ok (.if_icmp .ge 18, 3) := by decide +kernel
theorem dX6_sortHere_11 : decode cX6_sortHere 11 = .ok (.aload_n 0, 1) := by decide +kernel
theorem dX6_sortHere_12 : decode cX6_sortHere 12 = .ok (.getfield 9, 3) := by decide +kernel
theorem dX6_sortHere_15 : decode cX6_sortHere 15 = .ok (.aload_n 0, 1) := by decide +kernel
theorem dX6_sortHere_16 : decode cX6_sortHere 16 = .ok (.getfield 19, 3) := by decide +kernel
theorem dX6_sortHere_19 : decode cX6_sortHere 19 = .ok (.iaload, 1) := by decide +kernel
theorem dX6_sortHere_20 : decode cX6_sortHere 20 = .ok (.invokestatic 74, 3) := by decide +kernel
theorem dX6_sortHere_23 : decode cX6_sortHere 23 = .ok (.goto 4, 3) := by decide +kernel
theorem dX6_sortHere_26 : decode cX6_sortHere 26 = .ok (.iconst 0, 1) := by decide +kernel
theorem dX6_sortHere_27 : decode cX6_sortHere 27 = .ok (.ireturn, 1) := by decide +kernel
theorem dX6_sortOf_0 : decode cX6_sortOf 0 = .ok (.iload_n 0, 1) := by decide +kernel
theorem dX6_sortOf_1 : decode cX6_sortOf 1 = .ok (.bipush 97, 2) := by decide +kernel
theorem dX6_sortOf_3 : decode cX6_sortOf 3 = .ok (.if_icmp .lt 11, 3) := by decide +kernel
theorem dX6_sortOf_6 : decode cX6_sortOf 6 = .ok (.iload_n 0, 1) := by decide +kernel
theorem dX6_sortOf_7 : decode cX6_sortOf 7 = .ok (.bipush 122, 2) := by decide +kernel
theorem dX6_sortOf_9 : decode cX6_sortOf 9 = .ok (.if_icmp .gt 5, 3) := by decide +kernel
theorem dX6_sortOf_12 : decode cX6_sortOf 12 = .ok (.iconst 1, 1) := by decide +kernel
theorem dX6_sortOf_13 : decode cX6_sortOf 13 = .ok (.ireturn, 1) := by decide +kernel
theorem dX6_sortOf_14 : decode cX6_sortOf 14 = .ok (.iload_n 0, 1) := by decide +kernel
theorem dX6_sortOf_15 : decode cX6_sortOf 15 = .ok (.bipush 48, 2) := by decide +kernel
theorem dX6_sortOf_17 : decode cX6_sortOf 17 = .ok (.if_icmp .lt 13, 3) := by decide +kernel
theorem dX6_sortOf_20 : decode cX6_sortOf 20 = .ok (.iload_n 0, 1) := by decide +kernel
theorem dX6_sortOf_21 : decode cX6_sortOf 21 = .ok (.bipush 57, 2) := by decide +kernel
theorem dX6_sortOf_23 : decode cX6_sortOf 23 = .ok (.if_icmp .gt 7, 3) := by decide +kernel
theorem dX6_sortOf_26 : decode cX6_sortOf 26 = .ok (.iconst 2, 1) := by decide +kernel
theorem dX6_sortOf_27 : decode cX6_sortOf 27 = .ok (.goto 4, 3) := by decide +kernel
theorem dX6_sortOf_30 : decode cX6_sortOf 30 = .ok (.iconst 0, 1) := by decide +kernel
theorem dX6_sortOf_31 : decode cX6_sortOf 31 = .ok (.ireturn, 1) := by decide +kernel
theorem dX6_keyHere_0 : decode cX6_keyHere 0 = .ok (.aload_n 0, 1) := by decide +kernel
theorem dX6_keyHere_1 : decode cX6_keyHere 1 = .ok (.ldc 78, 2) := by decide +kernel
theorem dX6_keyHere_3 : decode cX6_keyHere 3 = .ok (.invokevirtual 80, 3) := by decide +kernel
theorem dX6_keyHere_6 : decode cX6_keyHere 6 = .ok (.ifCond .eq 5, 3) := by decide +kernel
theorem dX6_keyHere_9 : decode cX6_keyHere 9 = .ok (.iconst 0, 1) := by decide +kernel
theorem dX6_keyHere_10 : decode cX6_keyHere 10 = .ok (.ireturn, 1) := by decide +kernel
theorem dX6_keyHere_11 : decode cX6_keyHere 11 = .ok (.aload_n 0, 1) := by decide +kernel
theorem dX6_keyHere_12 : decode cX6_keyHere 12 = .ok (.ldc 84, 2) := by decide +kernel
theorem dX6_keyHere_14 : decode cX6_keyHere 14 = .ok (.invokevirtual 80, 3) := by decide +kernel
theorem dX6_keyHere_17 : decode cX6_keyHere 17 = .ok (.ifCond .eq 5, 3) := by decide +kernel
theorem dX6_keyHere_20 : decode cX6_keyHere 20 = .ok (.iconst 1, 1) := by decide +kernel
theorem dX6_keyHere_21 : decode cX6_keyHere 21 = .ok (.ireturn, 1) := by decide +kernel
theorem dX6_keyHere_22 : decode cX6_keyHere 22 = .ok (.aload_n 0, 1) := by decide +kernel
theorem dX6_keyHere_23 : decode cX6_keyHere 23 = .ok (.ldc 86, 2) := by decide +kernel
theorem dX6_keyHere_25 : decode cX6_keyHere 25 = .ok (.invokevirtual 80, 3) := by decide +kernel
theorem dX6_keyHere_28 : decode cX6_keyHere 28 = .ok (.ifCond .eq 7, 3) := by decide +kernel
theorem dX6_keyHere_31 : decode cX6_keyHere 31 = .ok (.iconst 2, 1) := by decide +kernel
theorem dX6_keyHere_32 : decode cX6_keyHere 32 = .ok (.goto 4, 3) := by decide +kernel
theorem dX6_keyHere_35 : decode cX6_keyHere 35 = .ok (.iconst (-1), 1) := by decide +kernel
theorem dX6_keyHere_36 : decode cX6_keyHere 36 = .ok (.ireturn, 1) := by decide +kernel
theorem dX6_isHere_0 : decode cX6_isHere 0 = .ok (.aload_n 0, 1) := by decide +kernel
theorem dX6_isHere_1 : decode cX6_isHere 1 = .ok (.getfield 22, 3) := by decide +kernel
theorem dX6_isHere_4 : decode cX6_isHere 4 = .ok (.aload_n 0, 1) := by decide +kernel
theorem dX6_isHere_5 : decode cX6_isHere 5 = .ok (.getfield 19, 3) := by decide +kernel
theorem dX6_isHere_8 : decode cX6_isHere 8 = .ok (.isub, 1) := by decide +kernel
theorem dX6_isHere_9 : decode cX6_isHere 9 = .ok (.aload_n 1, 1) := by decide +kernel
theorem dX6_isHere_10 : decode cX6_isHere 10 = .ok (.invokevirtual 88, 3) := by decide +kernel
theorem dX6_isHere_13 : decode cX6_isHere 13 = .ok (.if_icmp .eq 5, 3) := by decide +kernel
theorem dX6_isHere_16 : decode cX6_isHere 16 = .ok (.iconst 0, 1) := by decide +kernel
theorem dX6_isHere_17 : decode cX6_isHere 17 = .ok (.ireturn, 1) := by decide +kernel
theorem dX6_isHere_18 : decode cX6_isHere 18 = .ok (.iconst 0, 1) := by decide +kernel
theorem dX6_isHere_19 : decode cX6_isHere 19 = .ok (.istore_n 2, 1) := by decide +kernel
theorem dX6_isHere_20 : decode cX6_isHere 20 = .ok (.iload_n 2, 1) := by decide +kernel
theorem dX6_isHere_21 : decode cX6_isHere 21 = .ok (.aload_n 1, 1) := by decide +kernel
theorem dX6_isHere_22 : decode cX6_isHere 22 = .ok (.invokevirtual 88, 3) := by decide +kernel
theorem dX6_isHere_25 : decode cX6_isHere 25 = .ok (.if_icmp .ge 30, 3) := by decide +kernel
theorem dX6_isHere_28 : decode cX6_isHere 28 = .ok (.aload_n 0, 1) := by decide +kernel
theorem dX6_isHere_29 : decode cX6_isHere 29 = .ok (.getfield 9, 3) := by decide +kernel
theorem dX6_isHere_32 : decode cX6_isHere 32 = .ok (.aload_n 0, 1) := by decide +kernel
theorem dX6_isHere_33 : decode cX6_isHere 33 = .ok (.getfield 19, 3) := by decide +kernel
theorem dX6_isHere_36 : decode cX6_isHere 36 = .ok (.iload_n 2, 1) := by decide +kernel
theorem dX6_isHere_37 : decode cX6_isHere 37 = .ok (.iadd, 1) := by decide +kernel
theorem dX6_isHere_38 : decode cX6_isHere 38 = .ok (.iaload, 1) := by decide +kernel
theorem dX6_isHere_39 : decode cX6_isHere 39 = .ok (.aload_n 1, 1) := by decide +kernel
theorem dX6_isHere_40 : decode cX6_isHere 40 = .ok (.iload_n 2, 1) := by decide +kernel
theorem dX6_isHere_41 : decode cX6_isHere 41 = .ok (.invokevirtual 93, 3) := by decide +kernel
theorem dX6_isHere_44 : decode cX6_isHere 44 = .ok (.if_icmp .eq 5, 3) := by decide +kernel
theorem dX6_isHere_47 : decode cX6_isHere 47 = .ok (.iconst 0, 1) := by decide +kernel
theorem dX6_isHere_48 : decode cX6_isHere 48 = .ok (.ireturn, 1) := by decide +kernel
theorem dX6_isHere_49 : decode cX6_isHere 49 = .ok (.iinc 2 1, 3) := by decide +kernel
theorem dX6_isHere_52 : decode cX6_isHere 52 = .ok (.goto (-32), 3) := by decide +kernel
theorem dX6_isHere_55 : decode cX6_isHere 55 = .ok (.iconst 1, 1) := by decide +kernel
theorem dX6_isHere_56 : decode cX6_isHere 56 = .ok (.ireturn, 1) := by decide +kernel
theorem dX6_takesPiece_0 : decode cX6_takesPiece 0 = .ok (.aload_n 0, 1) := by decide +kernel
theorem dX6_takesPiece_1 : decode cX6_takesPiece 1 = .ok (.invokevirtual 54, 3) := by decide +kernel
theorem dX6_takesPiece_4 : decode cX6_takesPiece 4 = .ok (.lookupswitch 40 #[(1, 28), (2, 34)], 28) := by decide +kernel
theorem dX6_takesPiece_32 : decode cX6_takesPiece 32 = .ok (.aload_n 0, 1) := by decide +kernel
theorem dX6_takesPiece_33 : decode cX6_takesPiece 33 = .ok (.aload_n 1, 1) := by decide +kernel
theorem dX6_takesPiece_34 : decode cX6_takesPiece 34 = .ok (.invokevirtual 97, 3) := by decide +kernel
theorem dX6_takesPiece_37 : decode cX6_takesPiece 37 = .ok (.ireturn, 1) := by decide +kernel
theorem dX6_takesPiece_38 : decode cX6_takesPiece 38 = .ok (.aload_n 0, 1) := by decide +kernel
theorem dX6_takesPiece_39 : decode cX6_takesPiece 39 = .ok (.aload_n 1, 1) := by decide +kernel
theorem dX6_takesPiece_40 : decode cX6_takesPiece 40 = .ok (.invokevirtual 100, 3) := by decide +kernel
theorem dX6_takesPiece_43 : decode cX6_takesPiece 43 = .ok (.ireturn, 1) := by decide +kernel
theorem dX6_takesPiece_44 : decode cX6_takesPiece 44 = .ok (.aload_n 0, 1) := by decide +kernel
theorem dX6_takesPiece_45 : decode cX6_takesPiece 45 = .ok (.aload_n 0, 1) := by decide +kernel
theorem dX6_takesPiece_46 : decode cX6_takesPiece 46 = .ok (.getfield 9, 3) := by decide +kernel
theorem dX6_takesPiece_49 : decode cX6_takesPiece 49 = .ok (.aload_n 0, 1) := by decide +kernel
theorem dX6_takesPiece_50 : decode cX6_takesPiece 50 = .ok (.getfield 19, 3) := by decide +kernel
theorem dX6_takesPiece_53 : decode cX6_takesPiece 53 = .ok (.iaload, 1) := by decide +kernel
theorem dX6_takesPiece_54 : decode cX6_takesPiece 54 = .ok (.invokevirtual 103, 3) := by decide +kernel
theorem dX6_takesPiece_57 : decode cX6_takesPiece 57 = .ok (.ireturn, 1) := by decide +kernel
theorem dX6_takesName_0 : decode cX6_takesName 0 = .ok (.aload_n 1, 1) := by decide +kernel
theorem dX6_takesName_1 : decode cX6_takesName 1 = .ok (.getfield 107, 3) := by decide +kernel
theorem dX6_takesName_4 : decode cX6_takesName 4 = .ok (.invokestatic 110, 3) := by decide +kernel
theorem dX6_takesName_7 : decode cX6_takesName 7 = .ok (.aload_n 0, 1) := by decide +kernel
theorem dX6_takesName_8 : decode cX6_takesName 8 = .ok (.getfield 9, 3) := by decide +kernel
theorem dX6_takesName_11 : decode cX6_takesName 11 = .ok (.aload_n 0, 1) := by decide +kernel
theorem dX6_takesName_12 : decode cX6_takesName 12 = .ok (.getfield 19, 3) := by decide +kernel
theorem dX6_takesName_15 : decode cX6_takesName 15 = .ok (.iaload, 1) := by decide +kernel
theorem dX6_takesName_16 : decode cX6_takesName 16 = .ok (.i2c, 1) := by decide +kernel
theorem dX6_takesName_17 : decode cX6_takesName 17 = .ok (.invokevirtual 114, 3) := by decide +kernel
theorem dX6_takesName_20 : decode cX6_takesName 20 = .ok (.istore_n 2, 1) := by decide +kernel
theorem dX6_takesName_21 : decode cX6_takesName 21 = .ok (.aload_n 0, 1) := by decide +kernel
theorem dX6_takesName_22 : decode cX6_takesName 22 = .ok (.getfield 22, 3) := by decide +kernel
theorem dX6_takesName_25 : decode cX6_takesName 25 = .ok (.aload_n 0, 1) := by decide +kernel
theorem dX6_takesName_26 : decode cX6_takesName 26 = .ok (.getfield 19, 3) := by decide +kernel
theorem dX6_takesName_29 : decode cX6_takesName 29 = .ok (.isub, 1) := by decide +kernel
theorem dX6_takesName_30 : decode cX6_takesName 30 = .ok (.iconst 1, 1) := by decide +kernel
theorem dX6_takesName_31 : decode cX6_takesName 31 = .ok (.if_icmp .ne 7, 3) := by decide +kernel
theorem dX6_takesName_34 : decode cX6_takesName 34 = .ok (.iload_n 2, 1) := by decide +kernel
theorem dX6_takesName_35 : decode cX6_takesName 35 = .ok (.ifCond .ge 5, 3) := by decide +kernel
theorem dX6_takesName_38 : decode cX6_takesName 38 = .ok (.iconst 0, 1) := by decide +kernel
theorem dX6_takesName_39 : decode cX6_takesName 39 = .ok (.ireturn, 1) := by decide +kernel
theorem dX6_takesName_40 : decode cX6_takesName 40 = .ok (.aload_n 1, 1) := by decide +kernel
theorem dX6_takesName_41 : decode cX6_takesName 41 = .ok (.iload_n 2, 1) := by decide +kernel
theorem dX6_takesName_42 : decode cX6_takesName 42 = .ok (.invokevirtual 117, 3) := by decide +kernel
theorem dX6_takesName_45 : decode cX6_takesName 45 = .ok (.aload_n 0, 1) := by decide +kernel
theorem dX6_takesName_46 : decode cX6_takesName 46 = .ok (.aload_n 1, 1) := by decide +kernel
theorem dX6_takesName_47 : decode cX6_takesName 47 = .ok (.invokevirtual 120, 3) := by decide +kernel
theorem dX6_takesName_50 : decode cX6_takesName 50 = .ok (.iconst 1, 1) := by decide +kernel
theorem dX6_takesName_51 : decode cX6_takesName 51 = .ok (.ireturn, 1) := by decide +kernel
theorem dX6_namesOf_0 : decode cX6_namesOf 0 = .ok (.iload_n 0, 1) := by decide +kernel
theorem dX6_namesOf_1 : decode cX6_namesOf 1 = .ok (.ifCond .ne 6, 3) := by decide +kernel
theorem dX6_namesOf_4 : decode cX6_namesOf 4 = .ok (.ldc 124, 2) := by decide +kernel
theorem dX6_namesOf_6 : decode cX6_namesOf 6 = .ok (.areturn, 1) := by decide +kernel
theorem dX6_namesOf_7 : decode cX6_namesOf 7 = .ok (.iload_n 0, 1) := by decide +kernel
theorem dX6_namesOf_8 : decode cX6_namesOf 8 = .ok (.iconst 1, 1) := by decide +kernel
theorem dX6_namesOf_9 : decode cX6_namesOf 9 = .ok (.if_icmp .ne 8, 3) := by decide +kernel
theorem dX6_namesOf_12 : decode cX6_namesOf 12 = .ok (.ldc 126, 2) := by decide +kernel
theorem dX6_namesOf_14 : decode cX6_namesOf 14 = .ok (.goto 5, 3) := by decide +kernel
theorem dX6_namesOf_17 : decode cX6_namesOf 17 = .ok (.ldc 128, 2) := by decide +kernel
theorem dX6_namesOf_19 : decode cX6_namesOf 19 = .ok (.areturn, 1) := by decide +kernel
theorem dX6_takesDigits_0 : decode cX6_takesDigits 0 = .ok (.aload_n 0, 1) := by decide +kernel
theorem dX6_takesDigits_1 : decode cX6_takesDigits 1 = .ok (.getfield 22, 3) := by decide +kernel
theorem dX6_takesDigits_4 : decode cX6_takesDigits 4 = .ok (.aload_n 0, 1) := by decide +kernel
theorem dX6_takesDigits_5 : decode cX6_takesDigits 5 = .ok (.getfield 19, 3) := by decide +kernel
theorem dX6_takesDigits_8 : decode cX6_takesDigits 8 = .ok (.isub, 1) := by decide +kernel
theorem dX6_takesDigits_9 : decode cX6_takesDigits 9 = .ok (.iconst 4, 1) := by decide +kernel
theorem dX6_takesDigits_10 : decode cX6_takesDigits 10 = .ok (.if_icmp .le 5, 3) := by decide +kernel
theorem dX6_takesDigits_13 : decode cX6_takesDigits 13 = .ok (.iconst 0, 1) := by decide +kernel
theorem dX6_takesDigits_14 : decode cX6_takesDigits 14 = .ok (.ireturn, 1) := by decide +kernel
theorem dX6_takesDigits_15 : decode cX6_takesDigits 15 = .ok (.iconst 0, 1) := by decide +kernel
theorem dX6_takesDigits_16 : decode cX6_takesDigits 16 = .ok (.istore_n 2, 1) := by decide +kernel
theorem dX6_takesDigits_17 : decode cX6_takesDigits 17 = .ok (.aload_n 0, 1) := by decide +kernel
theorem dX6_takesDigits_18 : decode cX6_takesDigits 18 = .ok (.getfield 19, 3) := by decide +kernel
theorem dX6_takesDigits_21 : decode cX6_takesDigits 21 = .ok (.istore_n 3, 1) := by decide +kernel
theorem dX6_takesDigits_22 : decode cX6_takesDigits 22 = .ok (.iload_n 3, 1) := by decide +kernel
theorem dX6_takesDigits_23 : decode cX6_takesDigits 23 = .ok (.aload_n 0, 1) := by decide +kernel
theorem dX6_takesDigits_24 : decode cX6_takesDigits 24 = .ok (.getfield 22, 3) := by decide +kernel
theorem dX6_takesDigits_27 : decode cX6_takesDigits 27 = .ok (.if_icmp .ge 24, 3) := by decide +kernel
theorem dX6_takesDigits_30 : decode cX6_takesDigits 30 = .ok (.bipush 10, 2) := by decide +kernel
theorem dX6_takesDigits_32 : decode cX6_takesDigits 32 = .ok (.iload_n 2, 1) := by decide +kernel
theorem dX6_takesDigits_33 : decode cX6_takesDigits 33 = .ok (.imul, 1) := by decide +kernel
theorem dX6_takesDigits_34 : decode cX6_takesDigits 34 = .ok (.aload_n 0, 1) := by decide +kernel
theorem dX6_takesDigits_35 : decode cX6_takesDigits 35 = .ok (.getfield 9, 3) := by decide +kernel
theorem dX6_takesDigits_38 : decode cX6_takesDigits 38 = .ok (.iload_n 3, 1) := by decide +kernel
theorem dX6_takesDigits_39 : decode cX6_takesDigits 39 = .ok (.iaload, 1) := by decide +kernel
theorem dX6_takesDigits_40 : decode cX6_takesDigits 40 = .ok (.iadd, 1) := by decide +kernel
theorem dX6_takesDigits_41 : decode cX6_takesDigits 41 = .ok (.bipush 48, 2) := by decide +kernel
theorem dX6_takesDigits_43 : decode cX6_takesDigits 43 = .ok (.isub, 1) := by decide +kernel
theorem dX6_takesDigits_44 : decode cX6_takesDigits 44 = .ok (.istore_n 2, 1) := by decide +kernel
theorem dX6_takesDigits_45 : decode cX6_takesDigits 45 = .ok (.iinc 3 1, 3) := by decide +kernel
theorem dX6_takesDigits_48 : decode cX6_takesDigits 48 = .ok (.goto (-26), 3) := by decide +kernel
theorem dX6_takesDigits_51 : decode cX6_takesDigits 51 = .ok (.aload_n 1, 1) := by decide +kernel
theorem dX6_takesDigits_52 : decode cX6_takesDigits 52 = .ok (.iload_n 2, 1) := by decide +kernel
theorem dX6_takesDigits_53 : decode cX6_takesDigits 53 = .ok (.invokevirtual 130, 3) := by decide +kernel
theorem dX6_takesDigits_56 : decode cX6_takesDigits 56 = .ok (.aload_n 0, 1) := by decide +kernel
theorem dX6_takesDigits_57 : decode cX6_takesDigits 57 = .ok (.aload_n 1, 1) := by decide +kernel
theorem dX6_takesDigits_58 : decode cX6_takesDigits 58 = .ok (.invokevirtual 120, 3) := by decide +kernel
theorem dX6_takesDigits_61 : decode cX6_takesDigits 61 = .ok (.iconst 1, 1) := by decide +kernel
theorem dX6_takesDigits_62 : decode cX6_takesDigits 62 = .ok (.ireturn, 1) := by decide +kernel
theorem dX6_opens_0 : decode cX6_opens 0 = .ok (.iload_n 1, 1) := by decide +kernel
theorem dX6_opens_1 : decode cX6_opens 1 = .ok (.bipush 40, 2) := by decide +kernel
theorem dX6_opens_3 : decode cX6_opens 3 = .ok (.if_icmp .ne 25, 3) := by decide +kernel
theorem dX6_opens_6 : decode cX6_opens 6 = .ok (.aload_n 0, 1) := by decide +kernel
theorem dX6_opens_7 : decode cX6_opens 7 = .ok (.getfield 31, 3) := by decide +kernel
theorem dX6_opens_10 : decode cX6_opens 10 = .ok (.bipush 8, 2) := by decide +kernel
theorem dX6_opens_12 : decode cX6_opens 12 = .ok (.if_icmp .ge 16, 3) := by decide +kernel
theorem dX6_opens_15 : decode cX6_opens 15 = .ok (.aload_n 0, 1) := by decide +kernel
theorem dX6_opens_16 : decode cX6_opens 16 = .ok (.dup, 1) := by decide +kernel
theorem dX6_opens_17 : decode cX6_opens 17 = .ok (.getfield 31, 3) := by decide +kernel
theorem dX6_opens_20 : decode cX6_opens 20 = .ok (.iconst 1, 1) := by decide +kernel
theorem dX6_opens_21 : decode cX6_opens 21 = .ok (.iadd, 1) := by decide +kernel
theorem dX6_opens_22 : decode cX6_opens 22 = .ok (.putfield 31, 3) := by decide +kernel
theorem dX6_opens_25 : decode cX6_opens 25 = .ok (.goto 33, 3) := by decide +kernel
theorem dX6_opens_28 : decode cX6_opens 28 = .ok (.iload_n 1, 1) := by decide +kernel
theorem dX6_opens_29 : decode cX6_opens 29 = .ok (.bipush 33, 2) := by decide +kernel
theorem dX6_opens_31 : decode cX6_opens 31 = .ok (.if_icmp .ne 25, 3) := by decide +kernel
theorem dX6_opens_34 : decode cX6_opens 34 = .ok (.aload_n 0, 1) := by decide +kernel
theorem dX6_opens_35 : decode cX6_opens 35 = .ok (.getfield 34, 3) := by decide +kernel
theorem dX6_opens_38 : decode cX6_opens 38 = .ok (.bipush 8, 2) := by decide +kernel
theorem dX6_opens_40 : decode cX6_opens 40 = .ok (.if_icmp .ge 16, 3) := by decide +kernel
theorem dX6_opens_43 : decode cX6_opens 43 = .ok (.aload_n 0, 1) := by decide +kernel
theorem dX6_opens_44 : decode cX6_opens 44 = .ok (.dup, 1) := by decide +kernel
theorem dX6_opens_45 : decode cX6_opens 45 = .ok (.getfield 34, 3) := by decide +kernel
theorem dX6_opens_48 : decode cX6_opens 48 = .ok (.iconst 1, 1) := by decide +kernel
theorem dX6_opens_49 : decode cX6_opens 49 = .ok (.iadd, 1) := by decide +kernel
theorem dX6_opens_50 : decode cX6_opens 50 = .ok (.putfield 34, 3) := by decide +kernel
theorem dX6_opens_53 : decode cX6_opens 53 = .ok (.goto 5, 3) := by decide +kernel
theorem dX6_opens_56 : decode cX6_opens 56 = .ok (.iconst 0, 1) := by decide +kernel
theorem dX6_opens_57 : decode cX6_opens 57 = .ok (.ireturn, 1) := by decide +kernel
theorem dX6_opens_58 : decode cX6_opens 58 = .ok (.aload_n 0, 1) := by decide +kernel
theorem dX6_opens_59 : decode cX6_opens 59 = .ok (.iload_n 1, 1) := by decide +kernel
theorem dX6_opens_60 : decode cX6_opens 60 = .ok (.invokevirtual 133, 3) := by decide +kernel
theorem dX6_opens_63 : decode cX6_opens 63 = .ok (.iconst 1, 1) := by decide +kernel
theorem dX6_opens_64 : decode cX6_opens 64 = .ok (.ireturn, 1) := by decide +kernel
theorem dX6_pushes_0 : decode cX6_pushes 0 = .ok (.aload_n 0, 1) := by decide +kernel
theorem dX6_pushes_1 : decode cX6_pushes 1 = .ok (.getfield 28, 3) := by decide +kernel
theorem dX6_pushes_4 : decode cX6_pushes 4 = .ok (.aload_n 0, 1) := by decide +kernel
theorem dX6_pushes_5 : decode cX6_pushes 5 = .ok (.getfield 25, 3) := by decide +kernel
theorem dX6_pushes_8 : decode cX6_pushes 8 = .ok (.arraylength, 1) := by decide +kernel
theorem dX6_pushes_9 : decode cX6_pushes 9 = .ok (.if_icmp .ge 23, 3) := by decide +kernel
theorem dX6_pushes_12 : decode cX6_pushes 12 = .ok (.aload_n 0, 1) := by decide +kernel
theorem dX6_pushes_13 : decode cX6_pushes 13 = .ok (.getfield 25, 3) := by decide +kernel
theorem dX6_pushes_16 : decode cX6_pushes 16 = .ok (.aload_n 0, 1) := by decide +kernel
theorem dX6_pushes_17 : decode cX6_pushes 17 = .ok (.getfield 28, 3) := by decide +kernel
theorem dX6_pushes_20 : decode cX6_pushes 20 = .ok (.iload_n 1, 1) := by decide +kernel
theorem dX6_pushes_21 : decode cX6_pushes 21 = .ok (.iastore, 1) := by decide +kernel
theorem dX6_pushes_22 : decode cX6_pushes 22 = .ok (.aload_n 0, 1) := by decide +kernel
theorem dX6_pushes_23 : decode cX6_pushes 23 = .ok (.dup, 1) := by decide +kernel
theorem dX6_pushes_24 : decode cX6_pushes 24 = .ok (.getfield 28, 3) := by decide +kernel
theorem dX6_pushes_27 : decode cX6_pushes 27 = .ok (.iconst 1, 1) := by decide +kernel
theorem dX6_pushes_28 : decode cX6_pushes 28 = .ok (.iadd, 1) := by decide +kernel
theorem dX6_pushes_29 : decode cX6_pushes 29 = .ok (.putfield 28, 3) := by decide +kernel
theorem dX6_pushes_32 : decode cX6_pushes 32 = .ok (.return_, 1) := by decide +kernel
theorem dX6_endsPiece_0 : decode cX6_endsPiece 0 = .ok (.aload_n 0, 1) := by decide +kernel
theorem dX6_endsPiece_1 : decode cX6_endsPiece 1 = .ok (.iconst 0, 1) := by decide +kernel
theorem dX6_endsPiece_2 : decode cX6_endsPiece 2 = .ok (.putfield 37, 3) := by decide +kernel
theorem dX6_endsPiece_5 : decode cX6_endsPiece 5 = .ok (.aload_n 0, 1) := by decide +kernel
theorem dX6_endsPiece_6 : decode cX6_endsPiece 6 = .ok (.getfield 28, 3) := by decide +kernel
theorem dX6_endsPiece_9 : decode cX6_endsPiece 9 = .ok (.ifCond .le 48, 3) := by decide +kernel
theorem dX6_endsPiece_12 : decode cX6_endsPiece 12 = .ok (.aload_n 0, 1) := by decide +kernel
theorem dX6_endsPiece_13 : decode cX6_endsPiece 13 = .ok (.getfield 25, 3) := by decide +kernel
theorem dX6_endsPiece_16 : decode cX6_endsPiece 16 = .ok (.aload_n 0, 1) := by decide +kernel
theorem dX6_endsPiece_17 : decode cX6_endsPiece 17 = .ok (.getfield 28, 3) := by decide +kernel
theorem dX6_endsPiece_20 : decode cX6_endsPiece 20 = .ok (.iconst 1, 1) := by decide +kernel
theorem dX6_endsPiece_21 : decode cX6_endsPiece 21 = .ok (.isub, 1) := by decide +kernel
theorem dX6_endsPiece_22 : decode cX6_endsPiece 22 = .ok (.iaload, 1) := by decide +kernel
theorem dX6_endsPiece_23 : decode cX6_endsPiece 23 = .ok (.bipush 33, 2) := by decide +kernel
theorem dX6_endsPiece_25 : decode cX6_endsPiece 25 = .ok (.if_icmp .ne 32, 3) := by decide +kernel
theorem dX6_endsPiece_28 : decode cX6_endsPiece 28 = .ok (.aload_n 0, 1) := by decide +kernel
theorem dX6_endsPiece_29 : decode cX6_endsPiece 29 = .ok (.dup, 1) := by decide +kernel
theorem dX6_endsPiece_30 : decode cX6_endsPiece 30 = .ok (.getfield 28, 3) := by decide +kernel
theorem dX6_endsPiece_33 : decode cX6_endsPiece 33 = .ok (.iconst 1, 1) := by decide +kernel
theorem dX6_endsPiece_34 : decode cX6_endsPiece 34 = .ok (.isub, 1) := by decide +kernel
theorem dX6_endsPiece_35 : decode cX6_endsPiece 35 = .ok (.putfield 28, 3) := by decide +kernel
theorem dX6_endsPiece_38 : decode cX6_endsPiece 38 = .ok (.aload_n 0, 1) := by decide +kernel
theorem dX6_endsPiece_39 : decode cX6_endsPiece 39 = .ok (.dup, 1) := by decide +kernel
theorem dX6_endsPiece_40 : decode cX6_endsPiece 40 = .ok (.getfield 34, 3) := by decide +kernel
theorem dX6_endsPiece_43 : decode cX6_endsPiece 43 = .ok (.iconst 1, 1) := by decide +kernel
theorem dX6_endsPiece_44 : decode cX6_endsPiece 44 = .ok (.isub, 1) := by decide +kernel
theorem dX6_endsPiece_45 : decode cX6_endsPiece 45 = .ok (.putfield 34, 3) := by decide +kernel
theorem dX6_endsPiece_48 : decode cX6_endsPiece 48 = .ok (.aload_n 1, 1) := by decide +kernel
theorem dX6_endsPiece_49 : decode cX6_endsPiece 49 = .ok (.bipush 33, 2) := by decide +kernel
theorem dX6_endsPiece_51 : decode cX6_endsPiece 51 = .ok (.invokevirtual 136, 3) := by decide +kernel
theorem dX6_endsPiece_54 : decode cX6_endsPiece 54 = .ok (.goto (-49), 3) := by decide +kernel
theorem dX6_endsPiece_57 : decode cX6_endsPiece 57 = .ok (.return_, 1) := by decide +kernel
theorem dX6_takesSign_0 : decode cX6_takesSign 0 = .ok (.aload_n 0, 1) := by decide +kernel
theorem dX6_takesSign_1 : decode cX6_takesSign 1 = .ok (.getfield 9, 3) := by decide +kernel
theorem dX6_takesSign_4 : decode cX6_takesSign 4 = .ok (.aload_n 0, 1) := by decide +kernel
theorem dX6_takesSign_5 : decode cX6_takesSign 5 = .ok (.getfield 19, 3) := by decide +kernel
theorem dX6_takesSign_8 : decode cX6_takesSign 8 = .ok (.iaload, 1) := by decide +kernel
theorem dX6_takesSign_9 : decode cX6_takesSign 9 = .ok (.istore_n 2, 1) := by decide +kernel
theorem dX6_takesSign_10 : decode cX6_takesSign 10 = .ok (.iload_n 2, 1) := by decide +kernel
theorem dX6_takesSign_11 : decode cX6_takesSign 11 = .ok (.bipush 41, 2) := by decide +kernel
theorem dX6_takesSign_13 : decode cX6_takesSign 13 = .ok (.if_icmp .ne 9, 3) := by decide +kernel
theorem dX6_takesSign_16 : decode cX6_takesSign 16 = .ok (.aload_n 0, 1) := by decide +kernel
theorem dX6_takesSign_17 : decode cX6_takesSign 17 = .ok (.aload_n 1, 1) := by decide +kernel
theorem dX6_takesSign_18 : decode cX6_takesSign 18 = .ok (.invokevirtual 139, 3) := by decide +kernel
theorem dX6_takesSign_21 : decode cX6_takesSign 21 = .ok (.ireturn, 1) := by decide +kernel
theorem dX6_takesSign_22 : decode cX6_takesSign 22 = .ok (.iload_n 2, 1) := by decide +kernel
theorem dX6_takesSign_23 : decode cX6_takesSign 23 = .ok (.invokestatic 142, 3) := by decide +kernel
theorem dX6_takesSign_26 : decode cX6_takesSign 26 = .ok (.istore_n 3, 1) := by decide +kernel
theorem dX6_takesSign_27 : decode cX6_takesSign 27 = .ok (.iload_n 3, 1) := by decide +kernel
theorem dX6_takesSign_28 : decode cX6_takesSign 28 = .ok (.ifCond .ne 5, 3) := by decide +kernel
theorem dX6_takesSign_31 : decode cX6_takesSign 31 = .ok (.iconst 0, 1) := by decide +kernel
theorem dX6_takesSign_32 : decode cX6_takesSign 32 = .ok (.ireturn, 1) := by decide +kernel
theorem dX6_takesSign_33 : decode cX6_takesSign 33 = .ok (.aload_n 0, 1) := by decide +kernel
theorem dX6_takesSign_34 : decode cX6_takesSign 34 = .ok (.iload_n 3, 1) := by decide +kernel
theorem dX6_takesSign_35 : decode cX6_takesSign 35 = .ok (.iconst 3, 1) := by decide +kernel
theorem dX6_takesSign_36 : decode cX6_takesSign 36 = .ok (.if_icmp .ne 7, 3) := by decide +kernel
theorem dX6_takesSign_39 : decode cX6_takesSign 39 = .ok (.iconst 4, 1) := by decide +kernel
theorem dX6_takesSign_40 : decode cX6_takesSign 40 = .ok (.goto 4, 3) := by decide +kernel
theorem dX6_takesSign_43 : decode cX6_takesSign 43 = .ok (.iload_n 3, 1) := by decide +kernel
theorem dX6_takesSign_44 : decode cX6_takesSign 44 = .ok (.aload_n 1, 1) := by decide +kernel
theorem dX6_takesSign_45 : decode cX6_takesSign 45 = .ok (.invokevirtual 64, 3) := by decide +kernel
theorem dX6_takesSign_48 : decode cX6_takesSign 48 = .ok (.iload_n 3, 1) := by decide +kernel
theorem dX6_takesSign_49 : decode cX6_takesSign 49 = .ok (.iconst 3, 1) := by decide +kernel
theorem dX6_takesSign_50 : decode cX6_takesSign 50 = .ok (.if_icmp .ne 30, 3) := by decide +kernel
theorem dX6_takesSign_53 : decode cX6_takesSign 53 = .ok (.aload_n 0, 1) := by decide +kernel
theorem dX6_takesSign_54 : decode cX6_takesSign 54 = .ok (.getfield 28, 3) := by decide +kernel
theorem dX6_takesSign_57 : decode cX6_takesSign 57 = .ok (.ifCond .le 23, 3) := by decide +kernel
theorem dX6_takesSign_60 : decode cX6_takesSign 60 = .ok (.aload_n 0, 1) := by decide +kernel
theorem dX6_takesSign_61 : decode cX6_takesSign 61 = .ok (.getfield 25, 3) := by decide +kernel
theorem dX6_takesSign_64 : decode cX6_takesSign 64 = .ok (.aload_n 0, 1) := by decide +kernel
theorem dX6_takesSign_65 : decode cX6_takesSign 65 = .ok (.getfield 28, 3) := by decide +kernel
theorem dX6_takesSign_68 : decode cX6_takesSign 68 = .ok (.iconst 1, 1) := by decide +kernel
theorem dX6_takesSign_69 : decode cX6_takesSign 69 = .ok (.isub, 1) := by decide +kernel
theorem dX6_takesSign_70 : decode cX6_takesSign 70 = .ok (.iaload, 1) := by decide +kernel
theorem dX6_takesSign_71 : decode cX6_takesSign 71 = .ok (.invokestatic 142, 3) := by decide +kernel
theorem dX6_takesSign_74 : decode cX6_takesSign 74 = .ok (.iconst 3, 1) := by decide +kernel
theorem dX6_takesSign_75 : decode cX6_takesSign 75 = .ok (.if_icmp .ne 5, 3) := by decide +kernel
theorem dX6_takesSign_78 : decode cX6_takesSign 78 = .ok (.iconst 0, 1) := by decide +kernel
theorem dX6_takesSign_79 : decode cX6_takesSign 79 = .ok (.ireturn, 1) := by decide +kernel
theorem dX6_takesSign_80 : decode cX6_takesSign 80 = .ok (.aload_n 0, 1) := by decide +kernel
theorem dX6_takesSign_81 : decode cX6_takesSign 81 = .ok (.iload_n 2, 1) := by decide +kernel
theorem dX6_takesSign_82 : decode cX6_takesSign 82 = .ok (.invokevirtual 133, 3) := by decide +kernel
theorem dX6_takesSign_85 : decode cX6_takesSign 85 = .ok (.aload_n 0, 1) := by decide +kernel
theorem dX6_takesSign_86 : decode cX6_takesSign 86 = .ok (.iconst 1, 1) := by decide +kernel
theorem dX6_takesSign_87 : decode cX6_takesSign 87 = .ok (.putfield 37, 3) := by decide +kernel
theorem dX6_takesSign_90 : decode cX6_takesSign 90 = .ok (.iconst 1, 1) := by decide +kernel
theorem dX6_takesSign_91 : decode cX6_takesSign 91 = .ok (.ireturn, 1) := by decide +kernel
theorem dX6_takesClose_0 : decode cX6_takesClose 0 = .ok (.aload_n 0, 1) := by decide +kernel
theorem dX6_takesClose_1 : decode cX6_takesClose 1 = .ok (.getfield 31, 3) := by decide +kernel
theorem dX6_takesClose_4 : decode cX6_takesClose 4 = .ok (.ifCond .ne 5, 3) := by decide +kernel
theorem dX6_takesClose_7 : decode cX6_takesClose 7 = .ok (.iconst 0, 1) := by decide +kernel
theorem dX6_takesClose_8 : decode cX6_takesClose 8 = .ok (.ireturn, 1) := by decide +kernel
theorem dX6_takesClose_9 : decode cX6_takesClose 9 = .ok (.aload_n 0, 1) := by decide +kernel
theorem dX6_takesClose_10 : decode cX6_takesClose 10 = .ok (.iconst 1, 1) := by decide +kernel
theorem dX6_takesClose_11 : decode cX6_takesClose 11 = .ok (.aload_n 1, 1) := by decide +kernel
theorem dX6_takesClose_12 : decode cX6_takesClose 12 = .ok (.invokevirtual 64, 3) := by decide +kernel
theorem dX6_takesClose_15 : decode cX6_takesClose 15 = .ok (.aload_n 0, 1) := by decide +kernel
theorem dX6_takesClose_16 : decode cX6_takesClose 16 = .ok (.getfield 28, 3) := by decide +kernel
theorem dX6_takesClose_19 : decode cX6_takesClose 19 = .ok (.ifCond .le 13, 3) := by decide +kernel
theorem dX6_takesClose_22 : decode cX6_takesClose 22 = .ok (.aload_n 0, 1) := by decide +kernel
theorem dX6_takesClose_23 : decode cX6_takesClose 23 = .ok (.dup, 1) := by decide +kernel
theorem dX6_takesClose_24 : decode cX6_takesClose 24 = .ok (.getfield 28, 3) := by decide +kernel
theorem dX6_takesClose_27 : decode cX6_takesClose 27 = .ok (.iconst 1, 1) := by decide +kernel
theorem dX6_takesClose_28 : decode cX6_takesClose 28 = .ok (.isub, 1) := by decide +kernel
theorem dX6_takesClose_29 : decode cX6_takesClose 29 = .ok (.putfield 28, 3) := by decide +kernel
theorem dX6_takesClose_32 : decode cX6_takesClose 32 = .ok (.aload_n 0, 1) := by decide +kernel
theorem dX6_takesClose_33 : decode cX6_takesClose 33 = .ok (.dup, 1) := by decide +kernel
theorem dX6_takesClose_34 : decode cX6_takesClose 34 = .ok (.getfield 31, 3) := by decide +kernel
theorem dX6_takesClose_37 : decode cX6_takesClose 37 = .ok (.iconst 1, 1) := by decide +kernel
theorem dX6_takesClose_38 : decode cX6_takesClose 38 = .ok (.isub, 1) := by decide +kernel
theorem dX6_takesClose_39 : decode cX6_takesClose 39 = .ok (.putfield 31, 3) := by decide +kernel
theorem dX6_takesClose_42 : decode cX6_takesClose 42 = .ok (.aload_n 0, 1) := by decide +kernel
theorem dX6_takesClose_43 : decode cX6_takesClose 43 = .ok (.aload_n 1, 1) := by decide +kernel
theorem dX6_takesClose_44 : decode cX6_takesClose 44 = .ok (.invokevirtual 120, 3) := by decide +kernel
theorem dX6_takesClose_47 : decode cX6_takesClose 47 = .ok (.iconst 1, 1) := by decide +kernel
theorem dX6_takesClose_48 : decode cX6_takesClose 48 = .ok (.ireturn, 1) := by decide +kernel
theorem dX6_closesDownTo_0 : decode cX6_closesDownTo 0 = .ok (.aload_n 0, 1) := by decide +kernel
theorem dX6_closesDownTo_1 : decode cX6_closesDownTo 1 = .ok (.getfield 28, 3) := by decide +kernel
theorem dX6_closesDownTo_4 : decode cX6_closesDownTo 4 = .ok (.ifCond .le 47, 3) := by decide +kernel
theorem dX6_closesDownTo_7 : decode cX6_closesDownTo 7 = .ok (.aload_n 0, 1) := by decide +kernel
theorem dX6_closesDownTo_8 : decode cX6_closesDownTo 8 = .ok (.getfield 25, 3) := by decide +kernel
theorem dX6_closesDownTo_11 : decode cX6_closesDownTo 11 = .ok (.aload_n 0, 1) := by decide +kernel
theorem dX6_closesDownTo_12 : decode cX6_closesDownTo 12 = .ok (.getfield 28, 3) := by decide +kernel
theorem dX6_closesDownTo_15 : decode cX6_closesDownTo 15 = .ok (.iconst 1, 1) := by decide +kernel
theorem dX6_closesDownTo_16 : decode cX6_closesDownTo 16 = .ok (.isub, 1) := by decide +kernel
theorem dX6_closesDownTo_17 : decode cX6_closesDownTo 17 = .ok (.iaload, 1) := by decide +kernel
theorem dX6_closesDownTo_18 : decode cX6_closesDownTo 18 = .ok (.invokestatic 142, 3) := by decide +kernel
theorem dX6_closesDownTo_21 : decode cX6_closesDownTo 21 = .ok (.iload_n 1, 1) := by decide +kernel
theorem dX6_closesDownTo_22 : decode cX6_closesDownTo 22 = .ok (.if_icmp .lt 29, 3) := by decide +kernel
theorem dX6_closesDownTo_25 : decode cX6_closesDownTo 25 = .ok (.aload_n 0, 1) := by decide +kernel
theorem dX6_closesDownTo_26 : decode cX6_closesDownTo 26 = .ok (.dup, 1) := by decide +kernel
theorem dX6_closesDownTo_27 : decode cX6_closesDownTo 27 = .ok (.getfield 28, 3) := by decide +kernel
theorem dX6_closesDownTo_30 : decode cX6_closesDownTo 30 = .ok (.iconst 1, 1) := by decide +kernel
theorem dX6_closesDownTo_31 : decode cX6_closesDownTo 31 = .ok (.isub, 1) := by decide +kernel
theorem dX6_closesDownTo_32 : decode cX6_closesDownTo 32 = .ok (.putfield 28, 3) := by decide +kernel
theorem dX6_closesDownTo_35 : decode cX6_closesDownTo 35 = .ok (.aload_n 2, 1) := by decide +kernel
theorem dX6_closesDownTo_36 : decode cX6_closesDownTo 36 = .ok (.aload_n 0, 1) := by decide +kernel
theorem dX6_closesDownTo_37 : decode cX6_closesDownTo 37 = .ok (.getfield 25, 3) := by decide +kernel
theorem dX6_closesDownTo_40 : decode cX6_closesDownTo 40 = .ok (.aload_n 0, 1) := by decide +kernel
theorem dX6_closesDownTo_41 : decode cX6_closesDownTo 41 = .ok (.getfield 28, 3) := by decide +kernel
theorem dX6_closesDownTo_44 : decode cX6_closesDownTo 44 = .ok (.iaload, 1) := by decide +kernel
theorem dX6_closesDownTo_45 : decode cX6_closesDownTo 45 = .ok (.invokevirtual 136, 3) := by decide +kernel
theorem dX6_closesDownTo_48 : decode cX6_closesDownTo 48 = .ok (.goto (-48), 3) := by decide +kernel
theorem dX6_closesDownTo_51 : decode cX6_closesDownTo 51 = .ok (.return_, 1) := by decide +kernel
theorem dX6_levelOf_0 : decode cX6_levelOf 0 = .ok (.iload_n 0, 1) := by decide +kernel
theorem dX6_levelOf_1 : decode cX6_levelOf 1 = .ok (.lookupswitch 93 #[(38, 85), (42, 91), (43, 89), (45, 89), (47, 91), (60, 87), (61, 87), (62, 87), (124, 83)], 83) := by decide +kernel
theorem dX6_levelOf_84 : decode cX6_levelOf 84 = .ok (.iconst 1, 1) := by decide +kernel
theorem dX6_levelOf_85 : decode cX6_levelOf 85 = .ok (.ireturn, 1) := by decide +kernel
theorem dX6_levelOf_86 : decode cX6_levelOf 86 = .ok (.iconst 2, 1) := by decide +kernel
theorem dX6_levelOf_87 : decode cX6_levelOf 87 = .ok (.ireturn, 1) := by decide +kernel
theorem dX6_levelOf_88 : decode cX6_levelOf 88 = .ok (.iconst 3, 1) := by decide +kernel
theorem dX6_levelOf_89 : decode cX6_levelOf 89 = .ok (.ireturn, 1) := by decide +kernel
theorem dX6_levelOf_90 : decode cX6_levelOf 90 = .ok (.iconst 4, 1) := by decide +kernel
theorem dX6_levelOf_91 : decode cX6_levelOf 91 = .ok (.ireturn, 1) := by decide +kernel
theorem dX6_levelOf_92 : decode cX6_levelOf 92 = .ok (.iconst 5, 1) := by decide +kernel
theorem dX6_levelOf_93 : decode cX6_levelOf 93 = .ok (.ireturn, 1) := by decide +kernel
theorem dX6_levelOf_94 : decode cX6_levelOf 94 = .ok (.iconst 0, 1) := by decide +kernel
theorem dX6_levelOf_95 : decode cX6_levelOf 95 = .ok (.ireturn, 1) := by decide +kernel
theorem dX7_init_0 : decode cX7_init 0 = .ok (.aload_n 0, 1) := by decide +kernel
theorem dX7_init_1 : decode cX7_init 1 = .ok (.invokespecial 3, 3) := by decide +kernel
theorem dX7_init_4 : decode cX7_init 4 = .ok (.aload_n 0, 1) := by decide +kernel
theorem dX7_init_5 : decode cX7_init 5 = .ok (.iconst 0, 1) := by decide +kernel
theorem dX7_init_6 : decode cX7_init 6 = .ok (.putfield 9, 3) := by decide +kernel
theorem dX7_init_9 : decode cX7_init 9 = .ok (.aload_n 0, 1) := by decide +kernel
theorem dX7_init_10 : decode cX7_init 10 = .ok (.iconst 0, 1) := by decide +kernel
theorem dX7_init_11 : decode cX7_init 11 = .ok (.putfield 15, 3) := by decide +kernel
theorem dX7_init_14 : decode cX7_init 14 = .ok (.aload_n 0, 1) := by decide +kernel
theorem dX7_init_15 : decode cX7_init 15 = .ok (.iconst 1, 1) := by decide +kernel
theorem dX7_init_16 : decode cX7_init 16 = .ok (.putfield 18, 3) := by decide +kernel
theorem dX7_init_19 : decode cX7_init 19 = .ok (.aload_n 0, 1) := by decide +kernel
theorem dX7_init_20 : decode cX7_init 20 = .ok (.iconst 0, 1) := by decide +kernel
theorem dX7_init_21 : decode cX7_init 21 = .ok (.putfield 21, 3) := by decide +kernel
theorem dX7_init_24 : decode cX7_init 24 = .ok (.aload_n 0, 1) := by decide +kernel
theorem dX7_init_25 : decode cX7_init 25 = .ok (.iconst 0, 1) := by decide +kernel
theorem dX7_init_26 : decode cX7_init 26 = .ok (.putfield 24, 3) := by decide +kernel
theorem dX7_init_29 : decode cX7_init 29 = .ok (.return_, 1) := by decide +kernel
theorem dX7_canBe_0 : decode cX7_canBe 0 = .ok (.iload_n 0, 1) := by decide +kernel
theorem dX7_canBe_1 : decode cX7_canBe 1 = .ok (.tableswitch 63 1 4 #[31, 39, 47, 56], 31) := by decide +kernel
theorem dX7_canBe_32 : decode cX7_canBe 32 = .ok (.iload_n 1, 1) := by decide +kernel
theorem dX7_canBe_33 : decode cX7_canBe 33 = .ok (.iconst 0, 1) := by decide +kernel
theorem dX7_canBe_34 : decode cX7_canBe 34 = .ok (.bipush 11, 2) := by decide +kernel
theorem dX7_canBe_36 : decode cX7_canBe 36 = .ok (.invokestatic 27, 3) := by decide +kernel
theorem dX7_canBe_39 : decode cX7_canBe 39 = .ok (.ireturn, 1) := by decide +kernel
theorem dX7_canBe_40 : decode cX7_canBe 40 = .ok (.iload_n 1, 1) := by decide +kernel
theorem dX7_canBe_41 : decode cX7_canBe 41 = .ok (.iconst 1, 1) := by decide +kernel
theorem dX7_canBe_42 : decode cX7_canBe 42 = .ok (.bipush 9, 2) := by decide +kernel
theorem dX7_canBe_44 : decode cX7_canBe 44 = .ok (.invokestatic 27, 3) := by decide +kernel
theorem dX7_canBe_47 : decode cX7_canBe 47 = .ok (.ireturn, 1) := by decide +kernel
theorem dX7_canBe_48 : decode cX7_canBe 48 = .ok (.iload_n 1, 1) := by decide +kernel
theorem dX7_canBe_49 : decode cX7_canBe 49 = .ok (.iconst 0, 1) := by decide +kernel
theorem dX7_canBe_50 : decode cX7_canBe 50 = .ok (.sipush 999, 3) := by decide +kernel
theorem dX7_canBe_53 : decode cX7_canBe 53 = .ok (.invokestatic 27, 3) := by decide +kernel
theorem dX7_canBe_56 : decode cX7_canBe 56 = .ok (.ireturn, 1) := by decide +kernel
theorem dX7_canBe_57 : decode cX7_canBe 57 = .ok (.iload_n 1, 1) := by decide +kernel
theorem dX7_canBe_58 : decode cX7_canBe 58 = .ok (.iconst 0, 1) := by decide +kernel
theorem dX7_canBe_59 : decode cX7_canBe 59 = .ok (.iconst 1, 1) := by decide +kernel
theorem dX7_canBe_60 : decode cX7_canBe 60 = .ok (.invokestatic 27, 3) := by decide +kernel
theorem dX7_canBe_63 : decode cX7_canBe 63 = .ok (.ireturn, 1) := by decide +kernel
theorem dX7_canBe_64 : decode cX7_canBe 64 = .ok (.iconst 0, 1) := by decide +kernel
theorem dX7_canBe_65 : decode cX7_canBe 65 = .ok (.ireturn, 1) := by decide +kernel
theorem dX7_isOf_0 : decode cX7_isOf 0 = .ok (.aload_n 0, 1) := by decide +kernel
theorem dX7_isOf_1 : decode cX7_isOf 1 = .ok (.getfield 9, 3) := by decide +kernel
theorem dX7_isOf_4 : decode cX7_isOf 4 = .ok (.istore_n 2, 1) := by decide +kernel
theorem dX7_isOf_5 : decode cX7_isOf 5 = .ok (.iconst 0, 1) := by decide +kernel
theorem dX7_isOf_6 : decode cX7_isOf 6 = .ok (.istore_n 3, 1) := by decide +kernel
theorem dX7_isOf_7 : decode cX7_isOf 7 = .ok (.iload_n 3, 1) := by decide +kernel
theorem dX7_isOf_8 : decode cX7_isOf 8 = .ok (.getstatic 31, 3) := by decide +kernel
theorem dX7_isOf_11 : decode cX7_isOf 11 = .ok (.arraylength, 1) := by decide +kernel
theorem dX7_isOf_12 : decode cX7_isOf 12 = .ok (.if_icmp .ge 29, 3) := by decide +kernel
theorem dX7_isOf_15 : decode cX7_isOf 15 = .ok (.iload_n 2, 1) := by decide +kernel
theorem dX7_isOf_16 : decode cX7_isOf 16 = .ok (.invokestatic 35, 3) := by decide +kernel
theorem dX7_isOf_19 : decode cX7_isOf 19 = .ok (.ifCond .eq 22, 3) := by decide +kernel
theorem dX7_isOf_22 : decode cX7_isOf 22 = .ok (.iload_n 2, 1) := by decide +kernel
theorem dX7_isOf_23 : decode cX7_isOf 23 = .ok (.iload_n 1, 1) := by decide +kernel
theorem dX7_isOf_24 : decode cX7_isOf 24 = .ok (.if_icmp .ne 5, 3) := by decide +kernel
theorem dX7_isOf_27 : decode cX7_isOf 27 = .ok (.iconst 1, 1) := by decide +kernel
theorem dX7_isOf_28 : decode cX7_isOf 28 = .ok (.ireturn, 1) := by decide +kernel
theorem dX7_isOf_29 : decode cX7_isOf 29 = .ok (.getstatic 31, 3) := by decide +kernel
theorem dX7_isOf_32 : decode cX7_isOf 32 = .ok (.iload_n 2, 1) := by decide +kernel
theorem dX7_isOf_33 : decode cX7_isOf 33 = .ok (.iaload, 1) := by decide +kernel
theorem dX7_isOf_34 : decode cX7_isOf 34 = .ok (.istore_n 2, 1) := by decide +kernel
theorem dX7_isOf_35 : decode cX7_isOf 35 = .ok (.iinc 3 1, 3) := by decide +kernel
theorem dX7_isOf_38 : decode cX7_isOf 38 = .ok (.goto (-31), 3) := by decide +kernel
theorem dX7_isOf_41 : decode cX7_isOf 41 = .ok (.iconst 0, 1) := by decide +kernel
theorem dX7_isOf_42 : decode cX7_isOf 42 = .ok (.ireturn, 1) := by decide +kernel
theorem dX7_sight_0 : decode cX7_sight 0 = .ok (.aload_n 0, 1) := by decide +kernel
theorem dX7_sight_1 : decode cX7_sight 1 = .ok (.getfield 24, 3) := by decide +kernel
theorem dX7_sight_4 : decode cX7_sight 4 = .ok (.ifCond .ne 5, 3) := by decide +kernel
theorem dX7_sight_7 : decode cX7_sight 7 = .ok (.iconst 0, 1) := by decide +kernel
theorem dX7_sight_8 : decode cX7_sight 8 = .ok (.ireturn, 1) := by decide +kernel
theorem dX7_sight_9 : decode cX7_sight 9 = .ok (.aload_n 0, 1) := by decide +kernel
theorem dX7_sight_10 : decode cX7_sight 10 = .ok (.getfield 9, 3) := by decide +kernel
theorem dX7_sight_13 : decode cX7_sight 13 = .ok (.tableswitch 94 1 5 #[35, 53, 43, 58, 76], 35) := by decide +kernel
theorem dX7_sight_48 : decode cX7_sight 48 = .ok (.aload_n 0, 1) := by decide +kernel
theorem dX7_sight_49 : decode cX7_sight 49 = .ok (.iload_n 1, 1) := by decide +kernel
theorem dX7_sight_50 : decode cX7_sight 50 = .ok (.invokevirtual 39, 3) := by decide +kernel
theorem dX7_sight_53 : decode cX7_sight 53 = .ok (.iconst 2, 1) := by decide +kernel
theorem dX7_sight_54 : decode cX7_sight 54 = .ok (.idiv, 1) := by decide +kernel
theorem dX7_sight_55 : decode cX7_sight 55 = .ok (.ireturn, 1) := by decide +kernel
theorem dX7_sight_56 : decode cX7_sight 56 = .ok (.aload_n 0, 1) := by decide +kernel
theorem dX7_sight_57 : decode cX7_sight 57 = .ok (.iload_n 1, 1) := by decide +kernel
theorem dX7_sight_58 : decode cX7_sight 58 = .ok (.invokevirtual 39, 3) := by decide +kernel
theorem dX7_sight_61 : decode cX7_sight 61 = .ok (.iconst 2, 1) := by decide +kernel
theorem dX7_sight_62 : decode cX7_sight 62 = .ok (.idiv, 1) := by decide +kernel
theorem dX7_sight_63 : decode cX7_sight 63 = .ok (.iconst 1, 1) := by decide +kernel
theorem dX7_sight_64 : decode cX7_sight 64 = .ok (.iadd, 1) := by decide +kernel
theorem dX7_sight_65 : decode cX7_sight 65 = .ok (.ireturn, 1) := by decide +kernel
theorem dX7_sight_66 : decode cX7_sight 66 = .ok (.aload_n 0, 1) := by decide +kernel
theorem dX7_sight_67 : decode cX7_sight 67 = .ok (.getfield 18, 3) := by decide +kernel
theorem dX7_sight_70 : decode cX7_sight 70 = .ok (.ireturn, 1) := by decide +kernel
theorem dX7_sight_71 : decode cX7_sight 71 = .ok (.iload_n 2, 1) := by decide +kernel
theorem dX7_sight_72 : decode cX7_sight 72 = .ok (.ifCond .le 12, 3) := by decide +kernel
theorem dX7_sight_75 : decode cX7_sight 75 = .ok (.aload_n 0, 1) := by decide +kernel
theorem dX7_sight_76 : decode cX7_sight 76 = .ok (.getfield 18, 3) := by decide +kernel
theorem dX7_sight_79 : decode cX7_sight 79 = .ok (.iconst 3, 1) := by decide +kernel
theorem dX7_sight_80 : decode cX7_sight 80 = .ok (.iadd, 1) := by decide +kernel
theorem dX7_sight_81 : decode cX7_sight 81 = .ok (.goto 7, 3) := by decide +kernel
theorem dX7_sight_84 : decode cX7_sight 84 = .ok (.aload_n 0, 1) := by decide +kernel
theorem dX7_sight_85 : decode cX7_sight 85 = .ok (.getfield 18, 3) := by decide +kernel
theorem dX7_sight_88 : decode cX7_sight 88 = .ok (.ireturn, 1) := by decide +kernel
theorem dX7_sight_89 : decode cX7_sight 89 = .ok (.aload_n 0, 1) := by decide +kernel
theorem dX7_sight_90 : decode cX7_sight 90 = .ok (.getfield 21, 3) := by decide +kernel
theorem dX7_sight_93 : decode cX7_sight 93 = .ok (.iconst 5, 1) := by decide +kernel
theorem dX7_sight_94 : decode cX7_sight 94 = .ok (.if_icmp .le 7, 3) := by decide +kernel
theorem dX7_sight_97 : decode cX7_sight 97 = .ok (.iconst 0, 1) := by decide +kernel
theorem dX7_sight_98 : decode cX7_sight 98 = .ok (.goto 8, 3) := by decide +kernel
theorem dX7_sight_101 : decode cX7_sight 101 = .ok (.aload_n 0, 1) := by decide +kernel
theorem dX7_sight_102 : decode cX7_sight 102 = .ok (.iload_n 1, 1) := by decide +kernel
theorem dX7_sight_103 : decode cX7_sight 103 = .ok (.invokevirtual 39, 3) := by decide +kernel
theorem dX7_sight_106 : decode cX7_sight 106 = .ok (.ireturn, 1) := by decide +kernel
theorem dX7_sight_107 : decode cX7_sight 107 = .ok (.aload_n 0, 1) := by decide +kernel
theorem dX7_sight_108 : decode cX7_sight 108 = .ok (.iload_n 1, 1) := by decide +kernel
theorem dX7_sight_109 : decode cX7_sight 109 = .ok (.invokevirtual 39, 3) := by decide +kernel
theorem dX7_sight_112 : decode cX7_sight 112 = .ok (.ireturn, 1) := by decide +kernel
theorem dX7_plainSight_0 : decode cX7_plainSight 0 = .ok (.iconst 0, 1) := by decide +kernel
theorem dX7_plainSight_1 : decode cX7_plainSight 1 = .ok (.aload_n 0, 1) := by decide +kernel
theorem dX7_plainSight_2 : decode cX7_plainSight 2 = .ok (.getfield 18, 3) := by decide +kernel
theorem dX7_plainSight_5 : decode cX7_plainSight 5 = .ok (.aload_n 0, 1) := by decide +kernel
theorem dX7_plainSight_6 : decode cX7_plainSight 6 = .ok (.getfield 21, 3) := by decide +kernel
theorem dX7_plainSight_9 : decode cX7_plainSight 9 = .ok (.bipush 10, 2) := by decide +kernel
theorem dX7_plainSight_11 : decode cX7_plainSight 11 = .ok (.idiv, 1) := by decide +kernel
theorem dX7_plainSight_12 : decode cX7_plainSight 12 = .ok (.isub, 1) := by decide +kernel
theorem dX7_plainSight_13 : decode cX7_plainSight 13 = .ok (.invokestatic 43, 3) := by decide +kernel
theorem dX7_plainSight_16 : decode cX7_plainSight 16 = .ok (.iload_n 1, 1) := by decide +kernel
theorem dX7_plainSight_17 : decode cX7_plainSight 17 = .ok (.iconst 4, 1) := by decide +kernel
theorem dX7_plainSight_18 : decode cX7_plainSight 18 = .ok (.idiv, 1) := by decide +kernel
theorem dX7_plainSight_19 : decode cX7_plainSight 19 = .ok (.iadd, 1) := by decide +kernel
theorem dX7_plainSight_20 : decode cX7_plainSight 20 = .ok (.ireturn, 1) := by decide +kernel
theorem dX7_worth_0 : decode cX7_worth 0 = .ok (.aload_n 0, 1) := by decide +kernel
theorem dX7_worth_1 : decode cX7_worth 1 = .ok (.getfield 9, 3) := by decide +kernel
theorem dX7_worth_4 : decode cX7_worth 4 = .ok (.tableswitch 73 1 5 #[36, 52, 43, 60, 71], 36) := by decide +kernel
theorem dX7_worth_40 : decode cX7_worth 40 = .ok (.aload_n 0, 1) := by decide +kernel
theorem dX7_worth_41 : decode cX7_worth 41 = .ok (.getfield 18, 3) := by decide +kernel
theorem dX7_worth_44 : decode cX7_worth 44 = .ok (.iconst 4, 1) := by decide +kernel
theorem dX7_worth_45 : decode cX7_worth 45 = .ok (.iadd, 1) := by decide +kernel
theorem dX7_worth_46 : decode cX7_worth 46 = .ok (.ireturn, 1) := by decide +kernel
theorem dX7_worth_47 : decode cX7_worth 47 = .ok (.iconst 2, 1) := by decide +kernel
theorem dX7_worth_48 : decode cX7_worth 48 = .ok (.aload_n 0, 1) := by decide +kernel
theorem dX7_worth_49 : decode cX7_worth 49 = .ok (.getfield 18, 3) := by decide +kernel
theorem dX7_worth_52 : decode cX7_worth 52 = .ok (.iconst 4, 1) := by decide +kernel
theorem dX7_worth_53 : decode cX7_worth 53 = .ok (.iadd, 1) := by decide +kernel
theorem dX7_worth_54 : decode cX7_worth 54 = .ok (.imul, 1) := by decide +kernel
theorem dX7_worth_55 : decode cX7_worth 55 = .ok (.ireturn, 1) := by decide +kernel
theorem dX7_worth_56 : decode cX7_worth 56 = .ok (.bipush 20, 2) := by decide +kernel
theorem dX7_worth_58 : decode cX7_worth 58 = .ok (.aload_n 0, 1) := by decide +kernel
theorem dX7_worth_59 : decode cX7_worth 59 = .ok (.getfield 18, 3) := by decide +kernel
theorem dX7_worth_62 : decode cX7_worth 62 = .ok (.isub, 1) := by decide +kernel
theorem dX7_worth_63 : decode cX7_worth 63 = .ok (.ireturn, 1) := by decide +kernel
theorem dX7_worth_64 : decode cX7_worth 64 = .ok (.bipush 20, 2) := by decide +kernel
theorem dX7_worth_66 : decode cX7_worth 66 = .ok (.aload_n 0, 1) := by decide +kernel
theorem dX7_worth_67 : decode cX7_worth 67 = .ok (.getfield 18, 3) := by decide +kernel
theorem dX7_worth_70 : decode cX7_worth 70 = .ok (.isub, 1) := by decide +kernel
theorem dX7_worth_71 : decode cX7_worth 71 = .ok (.bipush 9, 2) := by decide +kernel
theorem dX7_worth_73 : decode cX7_worth 73 = .ok (.iadd, 1) := by decide +kernel
theorem dX7_worth_74 : decode cX7_worth 74 = .ok (.ireturn, 1) := by decide +kernel
theorem dX7_worth_75 : decode cX7_worth 75 = .ok (.iconst 2, 1) := by decide +kernel
theorem dX7_worth_76 : decode cX7_worth 76 = .ok (.ireturn, 1) := by decide +kernel
theorem dX7_worth_77 : decode cX7_worth 77 = .ok (.aload_n 0, 1) := by decide +kernel
theorem dX7_worth_78 : decode cX7_worth 78 = .ok (.getfield 18, 3) := by decide +kernel
theorem dX7_worth_81 : decode cX7_worth 81 = .ok (.ireturn, 1) := by decide +kernel
theorem dX7_takeFrom_0 : decode cX7_takeFrom 0 = .ok (.aload_n 0, 1) := by decide +kernel
theorem dX7_takeFrom_1 : decode cX7_takeFrom 1 = .ok (.aload_n 1, 1) := by decide +kernel
theorem dX7_takeFrom_2 : decode cX7_takeFrom 2 = .ok (.getfield 9, 3) := by decide +kernel
theorem dX7_takeFrom_5 : decode cX7_takeFrom 5 = .ok (.putfield 9, 3) := by decide +kernel
theorem dX7_takeFrom_8 : decode cX7_takeFrom 8 = .ok (.aload_n 0, 1) := by decide +kernel
theorem dX7_takeFrom_9 : decode cX7_takeFrom 9 = .ok (.aload_n 1, 1) := by decide +kernel
theorem dX7_takeFrom_10 : decode cX7_takeFrom 10 = .ok (.getfield 15, 3) := by decide +kernel
theorem dX7_takeFrom_13 : decode cX7_takeFrom 13 = .ok (.putfield 15, 3) := by decide +kernel
theorem dX7_takeFrom_16 : decode cX7_takeFrom 16 = .ok (.aload_n 0, 1) := by decide +kernel
theorem dX7_takeFrom_17 : decode cX7_takeFrom 17 = .ok (.aload_n 1, 1) := by decide +kernel
theorem dX7_takeFrom_18 : decode cX7_takeFrom 18 = .ok (.getfield 18, 3) := by decide +kernel
theorem dX7_takeFrom_21 : decode cX7_takeFrom 21 = .ok (.putfield 18, 3) := by decide +kernel
theorem dX7_takeFrom_24 : decode cX7_takeFrom 24 = .ok (.aload_n 0, 1) := by decide +kernel
theorem dX7_takeFrom_25 : decode cX7_takeFrom 25 = .ok (.aload_n 1, 1) := by decide +kernel
theorem dX7_takeFrom_26 : decode cX7_takeFrom 26 = .ok (.getfield 21, 3) := by decide +kernel
theorem dX7_takeFrom_29 : decode cX7_takeFrom 29 = .ok (.putfield 21, 3) := by decide +kernel
theorem dX7_takeFrom_32 : decode cX7_takeFrom 32 = .ok (.aload_n 0, 1) := by decide +kernel
theorem dX7_takeFrom_33 : decode cX7_takeFrom 33 = .ok (.aload_n 1, 1) := by decide +kernel
theorem dX7_takeFrom_34 : decode cX7_takeFrom 34 = .ok (.getfield 24, 3) := by decide +kernel
theorem dX7_takeFrom_37 : decode cX7_takeFrom 37 = .ok (.putfield 24, 3) := by decide +kernel
theorem dX7_takeFrom_40 : decode cX7_takeFrom 40 = .ok (.return_, 1) := by decide +kernel
theorem dJ0_length_8abf5_0 : decode cJ0_length_8abf5 0 = .ok (.aload_n 0, 1) := by decide +kernel
theorem dJ0_length_8abf5_1 : decode cJ0_length_8abf5 1 = .ok (.getfield 9, 3) := by decide +kernel
theorem dJ0_length_8abf5_4 : decode cJ0_length_8abf5 4 = .ok (.arraylength, 1) := by decide +kernel
theorem dJ0_length_8abf5_5 : decode cJ0_length_8abf5 5 = .ok (.aload_n 0, 1) := by decide +kernel
theorem dJ0_length_8abf5_6 : decode cJ0_length_8abf5 6 = .ok (.invokevirtual 335, 3) := by decide +kernel
theorem dJ0_length_8abf5_9 : decode cJ0_length_8abf5 9 = .ok (.ishr, 1) := by decide +kernel
theorem dJ0_length_8abf5_10 : decode cJ0_length_8abf5 10 = .ok (.ireturn, 1) := by decide +kernel
theorem dJ0_charAt_5068e_0 : decode cJ0_charAt_5068e 0 = .ok (.aload_n 0, 1) := by decide +kernel
theorem dJ0_charAt_5068e_1 : decode cJ0_charAt_5068e 1 = .ok (.invokevirtual 492, 3) := by decide +kernel
theorem dJ0_charAt_5068e_4 : decode cJ0_charAt_5068e 4 = .ok (.ifCond .eq 12, 3) := by decide +kernel
theorem dJ0_charAt_5068e_7 : decode cJ0_charAt_5068e 7 = .ok (.aload_n 0, 1) := by decide +kernel
theorem dJ0_charAt_5068e_8 : decode cJ0_charAt_5068e 8 = .ok (.getfield 9, 3) := by decide +kernel
theorem dJ0_charAt_5068e_11 : decode cJ0_charAt_5068e 11 = .ok (.iload_n 1, 1) := by decide +kernel
theorem dJ0_charAt_5068e_12 : decode cJ0_charAt_5068e 12 = .ok (.invokestatic 495, 3) := by decide +kernel
theorem dJ0_charAt_5068e_15 : decode cJ0_charAt_5068e 15 = .ok (.ireturn, 1) := by decide +kernel
theorem dJ0_charAt_5068e_16 : decode cJ0_charAt_5068e 16 = .ok (.aload_n 0, 1) := by decide +kernel
theorem dJ0_charAt_5068e_17 : decode cJ0_charAt_5068e 17 = .ok (.getfield 9, 3) := by decide +kernel
theorem dJ0_charAt_5068e_20 : decode cJ0_charAt_5068e 20 = .ok (.iload_n 1, 1) := by decide +kernel
theorem dJ0_charAt_5068e_21 : decode cJ0_charAt_5068e 21 = .ok (.invokestatic 498, 3) := by decide +kernel
theorem dJ0_charAt_5068e_24 : decode cJ0_charAt_5068e 24 = .ok (.ireturn, 1) := by decide +kernel
theorem dJ0_indexOf_0f7a4_0 : decode cJ0_indexOf_0f7a4 0 = .ok (.aload_n 0, 1) := by decide +kernel
theorem dJ0_indexOf_0f7a4_1 : decode cJ0_indexOf_0f7a4 1 = .ok (.iload_n 1, 1) := by decide +kernel
theorem dJ0_indexOf_0f7a4_2 : decode cJ0_indexOf_0f7a4 2 = .ok (.iconst 0, 1) := by decide +kernel
theorem dJ0_indexOf_0f7a4_3 : decode cJ0_indexOf_0f7a4 3 = .ok (.invokevirtual 633, 3) := by decide +kernel
theorem dJ0_indexOf_0f7a4_6 : decode cJ0_indexOf_0f7a4 6 = .ok (.ireturn, 1) := by decide +kernel
theorem dJ0_indexOf_7cf53_0 : decode cJ0_indexOf_7cf53 0 = .ok (.aload_n 0, 1) := by decide +kernel
theorem dJ0_indexOf_7cf53_1 : decode cJ0_indexOf_7cf53 1 = .ok (.invokevirtual 492, 3) := by decide +kernel
theorem dJ0_indexOf_7cf53_4 : decode cJ0_indexOf_7cf53 4 = .ok (.ifCond .eq 19, 3) := by decide +kernel
theorem dJ0_indexOf_7cf53_7 : decode cJ0_indexOf_7cf53 7 = .ok (.aload_n 0, 1) := by decide +kernel
theorem dJ0_indexOf_7cf53_8 : decode cJ0_indexOf_7cf53 8 = .ok (.getfield 9, 3) := by decide +kernel
theorem dJ0_indexOf_7cf53_11 : decode cJ0_indexOf_7cf53 11 = .ok (.iload_n 1, 1) := by decide +kernel
theorem dJ0_indexOf_7cf53_12 : decode cJ0_indexOf_7cf53 12 = .ok (.iload_n 2, 1) := by decide +kernel
theorem dJ0_indexOf_7cf53_13 : decode cJ0_indexOf_7cf53 13 = .ok (.aload_n 0, 1) := by decide +kernel
theorem dJ0_indexOf_7cf53_14 : decode cJ0_indexOf_7cf53 14 = .ok (.invokevirtual 505, 3) := by decide +kernel
theorem dJ0_indexOf_7cf53_17 : decode cJ0_indexOf_7cf53 17 = .ok (.invokestatic 637, 3) := by decide +kernel
theorem dJ0_indexOf_7cf53_20 : decode cJ0_indexOf_7cf53 20 = .ok (.goto 16, 3) := by decide +kernel
theorem dJ0_indexOf_7cf53_23 : decode cJ0_indexOf_7cf53 23 = .ok (.aload_n 0, 1) := by decide +kernel
theorem dJ0_indexOf_7cf53_24 : decode cJ0_indexOf_7cf53 24 = .ok (.getfield 9, 3) := by decide +kernel
theorem dJ0_indexOf_7cf53_27 : decode cJ0_indexOf_7cf53 27 = .ok (.iload_n 1, 1) := by decide +kernel
theorem dJ0_indexOf_7cf53_28 : decode cJ0_indexOf_7cf53 28 = .ok (.iload_n 2, 1) := by decide +kernel
theorem dJ0_indexOf_7cf53_29 : decode cJ0_indexOf_7cf53 29 = .ok (.aload_n 0, 1) := by decide +kernel
theorem dJ0_indexOf_7cf53_30 : decode cJ0_indexOf_7cf53 30 = .ok (.invokevirtual 505, 3) := by decide +kernel
theorem dJ0_indexOf_7cf53_33 : decode cJ0_indexOf_7cf53 33 = .ok (.invokestatic 640, 3) := by decide +kernel
theorem dJ0_indexOf_7cf53_36 : decode cJ0_indexOf_7cf53 36 = .ok (.ireturn, 1) := by decide +kernel
theorem dJ0_coder_7d493_0 : decode cJ0_coder_7d493 0 = .ok (.getstatic 38, 3) := by decide +kernel
theorem dJ0_coder_7d493_3 : decode cJ0_coder_7d493 3 = .ok (.ifCond .eq 10, 3) := by decide +kernel
theorem dJ0_coder_7d493_6 : decode cJ0_coder_7d493 6 = .ok (.aload_n 0, 1) := by decide +kernel
theorem dJ0_coder_7d493_7 : decode cJ0_coder_7d493 7 = .ok (.getfield 15, 3) := by decide +kernel
theorem dJ0_coder_7d493_10 : decode cJ0_coder_7d493 10 = .ok (.goto 4, 3) := by decide +kernel
theorem dJ0_coder_7d493_13 : decode cJ0_coder_7d493 13 = .ok (.iconst 1, 1) := by decide +kernel
theorem dJ0_coder_7d493_14 : decode cJ0_coder_7d493 14 = .ok (.ireturn, 1) := by decide +kernel
theorem dJ0_isLatin1_aae02_0 : decode cJ0_isLatin1_aae02 0 = .ok (.getstatic 38, 3) := by decide +kernel
theorem dJ0_isLatin1_aae02_3 : decode cJ0_isLatin1_aae02 3 = .ok (.ifCond .eq 14, 3) := by decide +kernel
theorem dJ0_isLatin1_aae02_6 : decode cJ0_isLatin1_aae02 6 = .ok (.aload_n 0, 1) := by decide +kernel
theorem dJ0_isLatin1_aae02_7 : decode cJ0_isLatin1_aae02 7 = .ok (.getfield 15, 3) := by decide +kernel
theorem dJ0_isLatin1_aae02_10 : decode cJ0_isLatin1_aae02 10 = .ok (.ifCond .ne 7, 3) := by decide +kernel
theorem dJ0_isLatin1_aae02_13 : decode cJ0_isLatin1_aae02 13 = .ok (.iconst 1, 1) := by decide +kernel
theorem dJ0_isLatin1_aae02_14 : decode cJ0_isLatin1_aae02 14 = .ok (.goto 4, 3) := by decide +kernel
theorem dJ0_isLatin1_aae02_17 : decode cJ0_isLatin1_aae02 17 = .ok (.iconst 0, 1) := by decide +kernel
theorem dJ0_isLatin1_aae02_18 : decode cJ0_isLatin1_aae02 18 = .ok (.ireturn, 1) := by decide +kernel
theorem dJ1_charAt_3b067_0 : decode cJ1_charAt_3b067 0 = .ok (.iload_n 1, 1) := by decide +kernel
theorem dJ1_charAt_3b067_1 : decode cJ1_charAt_3b067 1 = .ok (.aload_n 0, 1) := by decide +kernel
theorem dJ1_charAt_3b067_2 : decode cJ1_charAt_3b067 2 = .ok (.arraylength, 1) := by decide +kernel
theorem dJ1_charAt_3b067_3 : decode cJ1_charAt_3b067 3 = .ok (.invokestatic 9, 3) := by decide +kernel
theorem dJ1_charAt_3b067_6 : decode cJ1_charAt_3b067 6 = .ok (.aload_n 0, 1) := by decide +kernel
theorem dJ1_charAt_3b067_7 : decode cJ1_charAt_3b067 7 = .ok (.iload_n 1, 1) := by decide +kernel
theorem dJ1_charAt_3b067_8 : decode cJ1_charAt_3b067 8 = .ok (.baload, 1) := by decide +kernel
theorem dJ1_charAt_3b067_9 : decode cJ1_charAt_3b067 9 = .ok (.sipush 255, 3) := by decide +kernel
theorem dJ1_charAt_3b067_12 : decode cJ1_charAt_3b067 12 = .ok (.iand, 1) := by decide +kernel
theorem dJ1_charAt_3b067_13 : decode cJ1_charAt_3b067 13 = .ok (.i2c, 1) := by decide +kernel
theorem dJ1_charAt_3b067_14 : decode cJ1_charAt_3b067 14 = .ok (.ireturn, 1) := by decide +kernel
theorem dJ1_canEncode_9a6ad_0 : decode cJ1_canEncode_9a6ad 0 = .ok (.iload_n 0, 1) := by decide +kernel
theorem dJ1_canEncode_9a6ad_1 : decode cJ1_canEncode_9a6ad 1 = .ok (.ifCond .lt 14, 3) := by decide +kernel
theorem dJ1_canEncode_9a6ad_4 : decode cJ1_canEncode_9a6ad 4 = .ok (.iload_n 0, 1) := by decide +kernel
theorem dJ1_canEncode_9a6ad_5 : decode cJ1_canEncode_9a6ad 5 = .ok (.sipush 255, 3) := by decide +kernel
theorem dJ1_canEncode_9a6ad_8 : decode cJ1_canEncode_9a6ad 8 = .ok (.if_icmp .gt 7, 3) := by decide +kernel
theorem dJ1_canEncode_9a6ad_11 : decode cJ1_canEncode_9a6ad 11 = .ok (.iconst 1, 1) := by decide +kernel
theorem dJ1_canEncode_9a6ad_12 : decode cJ1_canEncode_9a6ad 12 = .ok (.goto 4, 3) := by decide +kernel
theorem dJ1_canEncode_9a6ad_15 : decode cJ1_canEncode_9a6ad 15 = .ok (.iconst 0, 1) := by decide +kernel
theorem dJ1_canEncode_9a6ad_16 : decode cJ1_canEncode_9a6ad 16 = .ok (.ireturn, 1) := by decide +kernel
theorem dJ1_indexOf_4cfef_0 : decode cJ1_indexOf_4cfef 0 = .ok (.iload_n 1, 1) := by decide +kernel
theorem dJ1_indexOf_4cfef_1 : decode cJ1_indexOf_4cfef 1 = .ok (.invokestatic 88, 3) := by decide +kernel
theorem dJ1_indexOf_4cfef_4 : decode cJ1_indexOf_4cfef 4 = .ok (.ifCond .ne 5, 3) := by decide +kernel
theorem dJ1_indexOf_4cfef_7 : decode cJ1_indexOf_4cfef 7 = .ok (.iconst (-1), 1) := by decide +kernel
theorem dJ1_indexOf_4cfef_8 : decode cJ1_indexOf_4cfef 8 = .ok (.ireturn, 1) := by decide +kernel
theorem dJ1_indexOf_4cfef_9 : decode cJ1_indexOf_4cfef 9 = .ok (.iload_n 2, 1) := by decide +kernel
theorem dJ1_indexOf_4cfef_10 : decode cJ1_indexOf_4cfef 10 = .ok (.iconst 0, 1) := by decide +kernel
theorem dJ1_indexOf_4cfef_11 : decode cJ1_indexOf_4cfef 11 = .ok (.invokestatic 92, 3) := by decide +kernel
theorem dJ1_indexOf_4cfef_14 : decode cJ1_indexOf_4cfef 14 = .ok (.istore_n 2, 1) := by decide +kernel
theorem dJ1_indexOf_4cfef_15 : decode cJ1_indexOf_4cfef 15 = .ok (.iload_n 3, 1) := by decide +kernel
theorem dJ1_indexOf_4cfef_16 : decode cJ1_indexOf_4cfef 16 = .ok (.aload_n 0, 1) := by decide +kernel
theorem dJ1_indexOf_4cfef_17 : decode cJ1_indexOf_4cfef 17 = .ok (.arraylength, 1) := by decide +kernel
theorem dJ1_indexOf_4cfef_18 : decode cJ1_indexOf_4cfef 18 = .ok (.invokestatic 38, 3) := by decide +kernel
theorem dJ1_indexOf_4cfef_21 : decode cJ1_indexOf_4cfef 21 = .ok (.istore_n 3, 1) := by decide +kernel
theorem dJ1_indexOf_4cfef_22 : decode cJ1_indexOf_4cfef 22 = .ok (.iload_n 2, 1) := by decide +kernel
theorem dJ1_indexOf_4cfef_23 : decode cJ1_indexOf_4cfef 23 = .ok (.iload_n 3, 1) := by decide +kernel
theorem dJ1_indexOf_4cfef_24 : decode cJ1_indexOf_4cfef 24 = .ok (.if_icmp .lt 5, 3) := by decide +kernel
theorem dJ1_indexOf_4cfef_27 : decode cJ1_indexOf_4cfef 27 = .ok (.iconst (-1), 1) := by decide +kernel
theorem dJ1_indexOf_4cfef_28 : decode cJ1_indexOf_4cfef 28 = .ok (.ireturn, 1) := by decide +kernel
theorem dJ1_indexOf_4cfef_29 : decode cJ1_indexOf_4cfef 29 = .ok (.aload_n 0, 1) := by decide +kernel
theorem dJ1_indexOf_4cfef_30 : decode cJ1_indexOf_4cfef 30 = .ok (.iload_n 1, 1) := by decide +kernel
theorem dJ1_indexOf_4cfef_31 : decode cJ1_indexOf_4cfef 31 = .ok (.iload_n 2, 1) := by decide +kernel
theorem dJ1_indexOf_4cfef_32 : decode cJ1_indexOf_4cfef 32 = .ok (.iload_n 3, 1) := by decide +kernel
theorem dJ1_indexOf_4cfef_33 : decode cJ1_indexOf_4cfef 33 = .ok (.invokestatic 95, 3) := by decide +kernel
theorem dJ1_indexOf_4cfef_36 : decode cJ1_indexOf_4cfef 36 = .ok (.ireturn, 1) := by decide +kernel
theorem dJ1_indexOfChar_4cfef_0 : decode cJ1_indexOfChar_4cfef 0 = .ok (.iload_n 1, 1) := by decide +kernel
theorem dJ1_indexOfChar_4cfef_1 : decode cJ1_indexOfChar_4cfef 1 = .ok (.i2b, 1) := by decide +kernel
theorem dJ1_indexOfChar_4cfef_2 : decode cJ1_indexOfChar_4cfef 2 = .ok (.istore 4, 2) := by decide +kernel
theorem dJ1_indexOfChar_4cfef_4 : decode cJ1_indexOfChar_4cfef 4 = .ok (.iload_n 2, 1) := by decide +kernel
theorem dJ1_indexOfChar_4cfef_5 : decode cJ1_indexOfChar_4cfef 5 = .ok (.istore 5, 2) := by decide +kernel
theorem dJ1_indexOfChar_4cfef_7 : decode cJ1_indexOfChar_4cfef 7 = .ok (.iload 5, 2) := by decide +kernel
theorem dJ1_indexOfChar_4cfef_9 : decode cJ1_indexOfChar_4cfef 9 = .ok (.iload_n 3, 1) := by decide +kernel
theorem dJ1_indexOfChar_4cfef_10 : decode cJ1_indexOfChar_4cfef 10 = .ok (.if_icmp .ge 21, 3) := by decide +kernel
theorem dJ1_indexOfChar_4cfef_13 : decode cJ1_indexOfChar_4cfef 13 = .ok (.aload_n 0, 1) := by decide +kernel
theorem dJ1_indexOfChar_4cfef_14 : decode cJ1_indexOfChar_4cfef 14 = .ok (.iload 5, 2) := by decide +kernel
theorem dJ1_indexOfChar_4cfef_16 : decode cJ1_indexOfChar_4cfef 16 = .ok (.baload, 1) := by decide +kernel
theorem dJ1_indexOfChar_4cfef_17 : decode cJ1_indexOfChar_4cfef 17 = .ok (.iload 4, 2) := by decide +kernel
theorem dJ1_indexOfChar_4cfef_19 : decode cJ1_indexOfChar_4cfef 19 = .ok (.if_icmp .ne 6, 3) := by decide +kernel
theorem dJ1_indexOfChar_4cfef_22 : decode cJ1_indexOfChar_4cfef 22 = .ok (.iload 5, 2) := by decide +kernel
theorem dJ1_indexOfChar_4cfef_24 : decode cJ1_indexOfChar_4cfef 24 = .ok (.ireturn, 1) := by decide +kernel
theorem dJ1_indexOfChar_4cfef_25 : decode cJ1_indexOfChar_4cfef 25 = .ok (.iinc 5 1, 3) := by decide +kernel
theorem dJ1_indexOfChar_4cfef_28 : decode cJ1_indexOfChar_4cfef 28 = .ok (.goto (-21), 3) := by decide +kernel
theorem dJ1_indexOfChar_4cfef_31 : decode cJ1_indexOfChar_4cfef 31 = .ok (.iconst (-1), 1) := by decide +kernel
theorem dJ1_indexOfChar_4cfef_32 : decode cJ1_indexOfChar_4cfef 32 = .ok (.ireturn, 1) := by decide +kernel
theorem dJ7_fill_53178_0 : decode cJ7_fill_53178 0 = .ok (.iconst 0, 1) := by decide +kernel
theorem dJ7_fill_53178_1 : decode cJ7_fill_53178 1 = .ok (.istore_n 2, 1) := by decide +kernel
theorem dJ7_fill_53178_2 : decode cJ7_fill_53178 2 = .ok (.aload_n 0, 1) := by decide +kernel
theorem dJ7_fill_53178_3 : decode cJ7_fill_53178 3 = .ok (.arraylength, 1) := by decide +kernel
theorem dJ7_fill_53178_4 : decode cJ7_fill_53178 4 = .ok (.istore_n 3, 1) := by decide +kernel
theorem dJ7_fill_53178_5 : decode cJ7_fill_53178 5 = .ok (.iload_n 2, 1) := by decide +kernel
theorem dJ7_fill_53178_6 : decode cJ7_fill_53178 6 = .ok (.iload_n 3, 1) := by decide +kernel
theorem dJ7_fill_53178_7 : decode cJ7_fill_53178 7 = .ok (.if_icmp .ge 13, 3) := by decide +kernel
theorem dJ7_fill_53178_10 : decode cJ7_fill_53178 10 = .ok (.aload_n 0, 1) := by decide +kernel
theorem dJ7_fill_53178_11 : decode cJ7_fill_53178 11 = .ok (.iload_n 2, 1) := by decide +kernel
theorem dJ7_fill_53178_12 : decode cJ7_fill_53178 12 = .ok (.iload_n 1, 1) := by decide +kernel
theorem dJ7_fill_53178_13 : decode cJ7_fill_53178 13 = .ok (.iastore, 1) := by decide +kernel
theorem dJ7_fill_53178_14 : decode cJ7_fill_53178 14 = .ok (.iinc 2 1, 3) := by decide +kernel
theorem dJ7_fill_53178_17 : decode cJ7_fill_53178 17 = .ok (.goto (-12), 3) := by decide +kernel
theorem dJ7_fill_53178_20 : decode cJ7_fill_53178 20 = .ok (.return_, 1) := by decide +kernel
theorem dJ0_checkIndex_df160_0 : decode cJ0_checkIndex_df160 0 = .ok (.iload_n 0, 1) := by decide +kernel
theorem dJ0_checkIndex_df160_1 : decode cJ0_checkIndex_df160 1 = .ok (.iload_n 1, 1) := by decide +kernel
theorem dJ0_checkIndex_df160_2 : decode cJ0_checkIndex_df160 2 = .ok (.getstatic 1053, 3) := by decide +kernel
theorem dJ0_checkIndex_df160_5 : decode cJ0_checkIndex_df160 5 = .ok (.invokestatic 1059, 3) := by decide +kernel
theorem dJ0_checkIndex_df160_8 : decode cJ0_checkIndex_df160 8 = .ok (.pop, 1) := by decide +kernel
theorem dJ0_checkIndex_df160_9 : decode cJ0_checkIndex_df160 9 = .ok (.return_, 1) := by decide +kernel
theorem dJ3_checkIndex_8e157_0 : decode cJ3_checkIndex_8e157 0 = .ok (.iload_n 0, 1) := by decide +kernel
theorem dJ3_checkIndex_8e157_1 : decode cJ3_checkIndex_8e157 1 = .ok (.ifCond .lt 8, 3) := by decide +kernel
theorem dJ3_checkIndex_8e157_4 : decode cJ3_checkIndex_8e157 4 = .ok (.iload_n 0, 1) := by decide +kernel
theorem dJ3_checkIndex_8e157_5 : decode cJ3_checkIndex_8e157 5 = .ok (.iload_n 1, 1) := by decide +kernel
theorem dJ3_checkIndex_8e157_6 : decode cJ3_checkIndex_8e157 6 = .ok (.if_icmp .lt 10, 3) := by decide +kernel
theorem dJ3_checkIndex_8e157_9 : decode cJ3_checkIndex_8e157 9 = .ok (.aload_n 2, 1) := by decide +kernel
theorem dJ3_checkIndex_8e157_10 : decode cJ3_checkIndex_8e157 10 = .ok (.iload_n 0, 1) := by decide +kernel
theorem dJ3_checkIndex_8e157_11 : decode cJ3_checkIndex_8e157 11 = .ok (.iload_n 1, 1) := by decide +kernel
theorem dJ3_checkIndex_8e157_12 : decode cJ3_checkIndex_8e157 12 = .ok (.invokestatic 95, 3) := by decide +kernel
theorem dJ3_checkIndex_8e157_15 : decode cJ3_checkIndex_8e157 15 = .ok (.athrow, 1) := by decide +kernel
theorem dJ3_checkIndex_8e157_16 : decode cJ3_checkIndex_8e157 16 = .ok (.iload_n 0, 1) := by decide +kernel
theorem dJ3_checkIndex_8e157_17 : decode cJ3_checkIndex_8e157 17 = .ok (.ireturn, 1) := by decide +kernel
end
section
theorem dX8_init_0 : decode cX8_init 0 = .ok (.aload_n 0, 1) := by decide +kernel
theorem dX8_init_1 : decode cX8_init 1 = .ok (.invokespecial 1, 3) := by decide +kernel
theorem dX8_init_4 : decode cX8_init 4 = .ok (.aload_n 0, 1) := by decide +kernel
theorem dX8_init_5 : decode cX8_init 5 = .ok (.new 7, 3) := by decide +kernel
theorem dX8_init_8 : decode cX8_init 8 = .ok (.dup, 1) := by decide +kernel
theorem dX8_init_9 : decode cX8_init 9 = .ok (.invokespecial 9, 3) := by decide +kernel
theorem dX8_init_12 : decode cX8_init 12 = .ok (.putfield 10, 3) := by decide +kernel
theorem dX8_init_15 : decode cX8_init 15 = .ok (.aload_n 0, 1) := by decide +kernel
theorem dX8_init_16 : decode cX8_init 16 = .ok (.new 16, 3) := by decide +kernel
theorem dX8_init_19 : decode cX8_init 19 = .ok (.dup, 1) := by decide +kernel
theorem dX8_init_20 : decode cX8_init 20 = .ok (.invokespecial 18, 3) := by decide +kernel
theorem dX8_init_23 : decode cX8_init 23 = .ok (.putfield 19, 3) := by decide +kernel
theorem dX8_init_26 : decode cX8_init 26 = .ok (.aload_n 0, 1) := by decide +kernel
theorem dX8_init_27 : decode cX8_init 27 = .ok (.iconst 4, 1) := by decide +kernel
theorem dX8_init_28 : decode cX8_init 28 = .ok (.anewarray 23, 3) := by decide +kernel
theorem dX8_init_31 : decode cX8_init 31 = .ok (.putfield 25, 3) := by decide +kernel
theorem dX8_init_34 : decode cX8_init 34 = .ok (.aload_n 0, 1) := by decide +kernel
theorem dX8_init_35 : decode cX8_init 35 = .ok (.iconst 5, 1) := by decide +kernel
theorem dX8_init_36 : decode cX8_init 36 = .ok (.anewarray 29, 3) := by decide +kernel
theorem dX8_init_39 : decode cX8_init 39 = .ok (.putfield 31, 3) := by decide +kernel
theorem dX8_init_42 : decode cX8_init 42 = .ok (.aload_n 0, 1) := by decide +kernel
theorem dX8_init_43 : decode cX8_init 43 = .ok (.bipush 60, 2) := by decide +kernel
theorem dX8_init_45 : decode cX8_init 45 = .ok (.newarray .int, 2) := by decide +kernel
theorem dX8_init_47 : decode cX8_init 47 = .ok (.putfield 35, 3) := by decide +kernel
theorem dX8_init_50 : decode cX8_init 50 = .ok (.aload_n 0, 1) := by decide +kernel
theorem dX8_init_51 : decode cX8_init 51 = .ok (.iconst 0, 1) := by decide +kernel
theorem dX8_init_52 : decode cX8_init 52 = .ok (.putfield 39, 3) := by decide +kernel
theorem dX8_init_55 : decode cX8_init 55 = .ok (.aload_n 0, 1) := by decide +kernel
theorem dX8_init_56 : decode cX8_init 56 = .ok (.iconst 0, 1) := by decide +kernel
theorem dX8_init_57 : decode cX8_init 57 = .ok (.putfield 43, 3) := by decide +kernel
theorem dX8_init_60 : decode cX8_init 60 = .ok (.invokestatic 47, 3) := by decide +kernel
theorem dX8_init_63 : decode cX8_init 63 = .ok (.astore_n 1, 1) := by decide +kernel
theorem dX8_init_64 : decode cX8_init 64 = .ok (.aload_n 0, 1) := by decide +kernel
theorem dX8_init_65 : decode cX8_init 65 = .ok (.aload_n 1, 1) := by decide +kernel
theorem dX8_init_66 : decode cX8_init 66 = .ok (.putfield 51, 3) := by decide +kernel
theorem dX8_init_69 : decode cX8_init 69 = .ok (.aload_n 0, 1) := by decide +kernel
theorem dX8_init_70 : decode cX8_init 70 = .ok (.new 55, 3) := by decide +kernel
theorem dX8_init_73 : decode cX8_init 73 = .ok (.dup, 1) := by decide +kernel
theorem dX8_init_74 : decode cX8_init 74 = .ok (.aload_n 1, 1) := by decide +kernel
theorem dX8_init_75 : decode cX8_init 75 = .ok (.invokespecial 57, 3) := by decide +kernel
theorem dX8_init_78 : decode cX8_init 78 = .ok (.putfield 60, 3) := by decide +kernel
theorem dX8_init_81 : decode cX8_init 81 = .ok (.aload_n 0, 1) := by decide +kernel
theorem dX8_init_82 : decode cX8_init 82 = .ok (.new 55, 3) := by decide +kernel
theorem dX8_init_85 : decode cX8_init 85 = .ok (.dup, 1) := by decide +kernel
theorem dX8_init_86 : decode cX8_init 86 = .ok (.aload_n 1, 1) := by decide +kernel
theorem dX8_init_87 : decode cX8_init 87 = .ok (.invokespecial 57, 3) := by decide +kernel
theorem dX8_init_90 : decode cX8_init 90 = .ok (.putfield 64, 3) := by decide +kernel
theorem dX8_init_93 : decode cX8_init 93 = .ok (.aload_n 0, 1) := by decide +kernel
theorem dX8_init_94 : decode cX8_init 94 = .ok (.new 55, 3) := by decide +kernel
theorem dX8_init_97 : decode cX8_init 97 = .ok (.dup, 1) := by decide +kernel
theorem dX8_init_98 : decode cX8_init 98 = .ok (.aload_n 1, 1) := by decide +kernel
theorem dX8_init_99 : decode cX8_init 99 = .ok (.invokespecial 57, 3) := by decide +kernel
theorem dX8_init_102 : decode cX8_init 102 = .ok (.putfield 67, 3) := by decide +kernel
theorem dX8_init_105 : decode cX8_init 105 = .ok (.iconst 0, 1) := by decide +kernel
theorem dX8_init_106 : decode cX8_init 106 = .ok (.istore_n 2, 1) := by decide +kernel
theorem dX8_init_107 : decode cX8_init 107 = .ok (.iload_n 2, 1) := by decide +kernel
theorem dX8_init_108 : decode cX8_init 108 = .ok (.aload_n 0, 1) := by decide +kernel
theorem dX8_init_109 : decode cX8_init 109 = .ok (.getfield 25, 3) := by decide +kernel
theorem dX8_init_112 : decode cX8_init 112 = .ok (.arraylength, 1) := by decide +kernel
theorem dX8_init_113 : decode cX8_init 113 = .ok (.if_icmp .ge 22, 3) := by decide +kernel
theorem dX8_init_116 : decode cX8_init 116 = .ok (.aload_n 0, 1) := by decide +kernel
theorem dX8_init_117 : decode cX8_init 117 = .ok (.getfield 25, 3) := by decide +kernel
theorem dX8_init_120 : decode cX8_init 120 = .ok (.iload_n 2, 1) := by decide +kernel
theorem dX8_init_121 : decode cX8_init 121 = .ok (.new 23, 3) := by decide +kernel
theorem dX8_init_124 : decode cX8_init 124 = .ok (.dup, 1) := by decide +kernel
theorem dX8_init_125 : decode cX8_init 125 = .ok (.invokespecial 70, 3) := by decide +kernel
theorem dX8_init_128 : decode cX8_init 128 = .ok (.aastore, 1) := by decide +kernel
theorem dX8_init_129 : decode cX8_init 129 = .ok (.iinc 2 1, 3) := by decide +kernel
theorem dX8_init_132 : decode cX8_init 132 = .ok (.goto (-25), 3) := by decide +kernel
theorem dX8_init_135 : decode cX8_init 135 = .ok (.iconst 0, 1) := by decide +kernel
theorem dX8_init_136 : decode cX8_init 136 = .ok (.istore_n 2, 1) := by decide +kernel
theorem dX8_init_137 : decode cX8_init 137 = .ok (.iload_n 2, 1) := by decide +kernel
theorem dX8_init_138 : decode cX8_init 138 = .ok (.aload_n 0, 1) := by decide +kernel
theorem dX8_init_139 : decode cX8_init 139 = .ok (.getfield 31, 3) := by decide +kernel
theorem dX8_init_142 : decode cX8_init 142 = .ok (.arraylength, 1) := by decide +kernel
theorem dX8_init_143 : decode cX8_init 143 = .ok (.if_icmp .ge 22, 3) := by decide +kernel
theorem dX8_init_146 : decode cX8_init 146 = .ok (.aload_n 0, 1) := by decide +kernel
theorem dX8_init_147 : decode cX8_init 147 = .ok (.getfield 31, 3) := by decide +kernel
theorem dX8_init_150 : decode cX8_init 150 = .ok (.iload_n 2, 1) := by decide +kernel
theorem dX8_init_151 : decode cX8_init 151 = .ok (.new 29, 3) := by decide +kernel
theorem dX8_init_154 : decode cX8_init 154 = .ok (.dup, 1) := by decide +kernel
theorem dX8_init_155 : decode cX8_init 155 = .ok (.invokespecial 71, 3) := by decide +kernel
theorem dX8_init_158 : decode cX8_init 158 = .ok (.aastore, 1) := by decide +kernel
theorem dX8_init_159 : decode cX8_init 159 = .ok (.iinc 2 1, 3) := by decide +kernel
theorem dX8_init_162 : decode cX8_init 162 = .ok (.goto (-25), 3) := by decide +kernel
theorem dX8_init_165 : decode cX8_init 165 = .ok (.return_, 1) := by decide +kernel
theorem dX8_emptyLaws_0 : decode cX8_emptyLaws 0 = .ok (.bipush 96, 2) := by decide +kernel
theorem dX8_emptyLaws_2 : decode cX8_emptyLaws 2 = .ok (.newarray .int, 2) := by decide +kernel
theorem dX8_emptyLaws_4 : decode cX8_emptyLaws 4 = .ok (.astore_n 0, 1) := by decide +kernel
theorem dX8_emptyLaws_5 : decode cX8_emptyLaws 5 = .ok (.bipush 15, 2) := by decide +kernel
theorem dX8_emptyLaws_7 : decode cX8_emptyLaws 7 = .ok (.anewarray 72, 3) := by decide +kernel
theorem dX8_emptyLaws_10 : decode cX8_emptyLaws 10 = .ok (.astore_n 1, 1) := by decide +kernel
theorem dX8_emptyLaws_11 : decode cX8_emptyLaws 11 = .ok (.iconst 0, 1) := by decide +kernel
theorem dX8_emptyLaws_12 : decode cX8_emptyLaws 12 = .ok (.istore_n 2, 1) := by decide +kernel
theorem dX8_emptyLaws_13 : decode cX8_emptyLaws 13 = .ok (.iload_n 2, 1) := by decide +kernel
theorem dX8_emptyLaws_14 : decode cX8_emptyLaws 14 = .ok (.aload_n 1, 1) := by decide +kernel
theorem dX8_emptyLaws_15 : decode cX8_emptyLaws 15 = .ok (.arraylength, 1) := by decide +kernel
theorem dX8_emptyLaws_16 : decode cX8_emptyLaws 16 = .ok (.if_icmp .ge 20, 3) := by decide +kernel
theorem dX8_emptyLaws_19 : decode cX8_emptyLaws 19 = .ok (.aload_n 1, 1) := by decide +kernel
theorem dX8_emptyLaws_20 : decode cX8_emptyLaws 20 = .ok (.iload_n 2, 1) := by decide +kernel
theorem dX8_emptyLaws_21 : decode cX8_emptyLaws 21 = .ok (.new 72, 3) := by decide +kernel
theorem dX8_emptyLaws_24 : decode cX8_emptyLaws 24 = .ok (.dup, 1) := by decide +kernel
theorem dX8_emptyLaws_25 : decode cX8_emptyLaws 25 = .ok (.aload_n 0, 1) := by decide +kernel
theorem dX8_emptyLaws_26 : decode cX8_emptyLaws 26 = .ok (.invokespecial 74, 3) := by decide +kernel
theorem dX8_emptyLaws_29 : decode cX8_emptyLaws 29 = .ok (.aastore, 1) := by decide +kernel
theorem dX8_emptyLaws_30 : decode cX8_emptyLaws 30 = .ok (.iinc 2 1, 3) := by decide +kernel
theorem dX8_emptyLaws_33 : decode cX8_emptyLaws 33 = .ok (.goto (-20), 3) := by decide +kernel
theorem dX8_emptyLaws_36 : decode cX8_emptyLaws 36 = .ok (.aload_n 1, 1) := by decide +kernel
theorem dX8_emptyLaws_37 : decode cX8_emptyLaws 37 = .ok (.areturn, 1) := by decide +kernel
theorem dX8_wagon_0 : decode cX8_wagon 0 = .ok (.iload_n 1, 1) := by decide +kernel
theorem dX8_wagon_1 : decode cX8_wagon 1 = .ok (.iconst 0, 1) := by decide +kernel
theorem dX8_wagon_2 : decode cX8_wagon 2 = .ok (.bipush 99, 2) := by decide +kernel
theorem dX8_wagon_4 : decode cX8_wagon 4 = .ok (.invokestatic 77, 3) := by decide +kernel
theorem dX8_wagon_7 : decode cX8_wagon 7 = .ok (.ifCond .ne 6, 3) := by decide +kernel
theorem dX8_wagon_10 : decode cX8_wagon 10 = .ok (.ldc 81, 2) := by decide +kernel
theorem dX8_wagon_12 : decode cX8_wagon 12 = .ok (.ireturn, 1) := by decide +kernel
theorem dX8_wagon_13 : decode cX8_wagon 13 = .ok (.aload_n 0, 1) := by decide +kernel
theorem dX8_wagon_14 : decode cX8_wagon 14 = .ok (.getfield 60, 3) := by decide +kernel
theorem dX8_wagon_17 : decode cX8_wagon 17 = .ok (.getfield 82, 3) := by decide +kernel
theorem dX8_wagon_20 : decode cX8_wagon 20 = .ok (.iload_n 1, 1) := by decide +kernel
theorem dX8_wagon_21 : decode cX8_wagon 21 = .ok (.invokevirtual 86, 3) := by decide +kernel
theorem dX8_wagon_24 : decode cX8_wagon 24 = .ok (.ireturn, 1) := by decide +kernel
theorem dX8_at_0 : decode cX8_at 0 = .ok (.aload_n 0, 1) := by decide +kernel
theorem dX8_at_1 : decode cX8_at 1 = .ok (.getfield 60, 3) := by decide +kernel
theorem dX8_at_4 : decode cX8_at 4 = .ok (.getfield 82, 3) := by decide +kernel
theorem dX8_at_7 : decode cX8_at 7 = .ok (.iload_n 1, 1) := by decide +kernel
theorem dX8_at_8 : decode cX8_at 8 = .ok (.invokevirtual 92, 3) := by decide +kernel
theorem dX8_at_11 : decode cX8_at 11 = .ok (.ifCond .eq 12, 3) := by decide +kernel
theorem dX8_at_14 : decode cX8_at 14 = .ok (.iload_n 2, 1) := by decide +kernel
theorem dX8_at_15 : decode cX8_at 15 = .ok (.iconst 0, 1) := by decide +kernel
theorem dX8_at_16 : decode cX8_at 16 = .ok (.iconst 5, 1) := by decide +kernel
theorem dX8_at_17 : decode cX8_at 17 = .ok (.invokestatic 77, 3) := by decide +kernel
theorem dX8_at_20 : decode cX8_at 20 = .ok (.ifCond .ne 6, 3) := by decide +kernel
theorem dX8_at_23 : decode cX8_at 23 = .ok (.ldc 81, 2) := by decide +kernel
theorem dX8_at_25 : decode cX8_at 25 = .ok (.ireturn, 1) := by decide +kernel
theorem dX8_at_26 : decode cX8_at 26 = .ok (.iload_n 2, 1) := by decide +kernel
theorem dX8_at_27 : decode cX8_at 27 = .ok (.iconst 2, 1) := by decide +kernel
theorem dX8_at_28 : decode cX8_at 28 = .ok (.if_icmp .gt 17, 3) := by decide +kernel
theorem dX8_at_31 : decode cX8_at 31 = .ok (.aload_n 0, 1) := by decide +kernel
theorem dX8_at_32 : decode cX8_at 32 = .ok (.getfield 60, 3) := by decide +kernel
theorem dX8_at_35 : decode cX8_at 35 = .ok (.getfield 82, 3) := by decide +kernel
theorem dX8_at_38 : decode cX8_at 38 = .ok (.iload_n 2, 1) := by decide +kernel
theorem dX8_at_39 : decode cX8_at 39 = .ok (.invokevirtual 96, 3) := by decide +kernel
theorem dX8_at_42 : decode cX8_at 42 = .ok (.iload_n 1, 1) := by decide +kernel
theorem dX8_at_43 : decode cX8_at 43 = .ok (.iaload, 1) := by decide +kernel
theorem dX8_at_44 : decode cX8_at 44 = .ok (.ireturn, 1) := by decide +kernel
theorem dX8_at_45 : decode cX8_at 45 = .ok (.aload_n 0, 1) := by decide +kernel
theorem dX8_at_46 : decode cX8_at 46 = .ok (.getfield 60, 3) := by decide +kernel
theorem dX8_at_49 : decode cX8_at 49 = .ok (.invokevirtual 100, 3) := by decide +kernel
theorem dX8_at_52 : decode cX8_at 52 = .ok (.iload_n 2, 1) := by decide +kernel
theorem dX8_at_53 : decode cX8_at 53 = .ok (.lookupswitch 47 #[(3, 27), (4, 37)], 27) := by decide +kernel
theorem dX8_at_80 : decode cX8_at 80 = .ok (.aload_n 0, 1) := by decide +kernel
theorem dX8_at_81 : decode cX8_at 81 = .ok (.getfield 60, 3) := by decide +kernel
theorem dX8_at_84 : decode cX8_at 84 = .ok (.getfield 103, 3) := by decide +kernel
theorem dX8_at_87 : decode cX8_at 87 = .ok (.iload_n 1, 1) := by decide +kernel
theorem dX8_at_88 : decode cX8_at 88 = .ok (.iaload, 1) := by decide +kernel
theorem dX8_at_89 : decode cX8_at 89 = .ok (.ireturn, 1) := by decide +kernel
theorem dX8_at_90 : decode cX8_at 90 = .ok (.aload_n 0, 1) := by decide +kernel
theorem dX8_at_91 : decode cX8_at 91 = .ok (.getfield 60, 3) := by decide +kernel
theorem dX8_at_94 : decode cX8_at 94 = .ok (.getfield 106, 3) := by decide +kernel
theorem dX8_at_97 : decode cX8_at 97 = .ok (.iload_n 1, 1) := by decide +kernel
theorem dX8_at_98 : decode cX8_at 98 = .ok (.iaload, 1) := by decide +kernel
theorem dX8_at_99 : decode cX8_at 99 = .ok (.ireturn, 1) := by decide +kernel
theorem dX8_at_100 : decode cX8_at 100 = .ok (.aload_n 0, 1) := by decide +kernel
theorem dX8_at_101 : decode cX8_at 101 = .ok (.getfield 60, 3) := by decide +kernel
theorem dX8_at_104 : decode cX8_at 104 = .ok (.iload_n 1, 1) := by decide +kernel
theorem dX8_at_105 : decode cX8_at 105 = .ok (.invokevirtual 109, 3) := by decide +kernel
theorem dX8_at_108 : decode cX8_at 108 = .ok (.ireturn, 1) := by decide +kernel
theorem dX8_lays_0 : decode cX8_lays 0 = .ok (.aload_n 0, 1) := by decide +kernel
theorem dX8_lays_1 : decode cX8_lays 1 = .ok (.getfield 60, 3) := by decide +kernel
theorem dX8_lays_4 : decode cX8_lays 4 = .ok (.getfield 82, 3) := by decide +kernel
theorem dX8_lays_7 : decode cX8_lays 7 = .ok (.iload_n 1, 1) := by decide +kernel
theorem dX8_lays_8 : decode cX8_lays 8 = .ok (.invokevirtual 92, 3) := by decide +kernel
theorem dX8_lays_11 : decode cX8_lays 11 = .ok (.ifCond .eq 32, 3) := by decide +kernel
theorem dX8_lays_14 : decode cX8_lays 14 = .ok (.iload_n 2, 1) := by decide +kernel
theorem dX8_lays_15 : decode cX8_lays 15 = .ok (.iconst 0, 1) := by decide +kernel
theorem dX8_lays_16 : decode cX8_lays 16 = .ok (.iconst 2, 1) := by decide +kernel
theorem dX8_lays_17 : decode cX8_lays 17 = .ok (.invokestatic 77, 3) := by decide +kernel
theorem dX8_lays_20 : decode cX8_lays 20 = .ok (.ifCond .eq 23, 3) := by decide +kernel
theorem dX8_lays_23 : decode cX8_lays 23 = .ok (.iload_n 3, 1) := by decide +kernel
theorem dX8_lays_24 : decode cX8_lays 24 = .ok (.iconst 0, 1) := by decide +kernel
theorem dX8_lays_25 : decode cX8_lays 25 = .ok (.iload_n 2, 1) := by decide +kernel
theorem dX8_lays_26 : decode cX8_lays 26 = .ok (.iconst 1, 1) := by decide +kernel
theorem dX8_lays_27 : decode cX8_lays 27 = .ok (.if_icmp .ne 8, 3) := by decide +kernel
theorem dX8_lays_30 : decode cX8_lays 30 = .ok (.bipush 9, 2) := by decide +kernel
theorem dX8_lays_32 : decode cX8_lays 32 = .ok (.goto 5, 3) := by decide +kernel
theorem dX8_lays_35 : decode cX8_lays 35 = .ok (.bipush 99, 2) := by decide +kernel
theorem dX8_lays_37 : decode cX8_lays 37 = .ok (.invokestatic 77, 3) := by decide +kernel
theorem dX8_lays_40 : decode cX8_lays 40 = .ok (.ifCond .ne 6, 3) := by decide +kernel
theorem dX8_lays_43 : decode cX8_lays 43 = .ok (.ldc 81, 2) := by decide +kernel
theorem dX8_lays_45 : decode cX8_lays 45 = .ok (.ireturn, 1) := by decide +kernel
theorem dX8_lays_46 : decode cX8_lays 46 = .ok (.aload_n 0, 1) := by decide +kernel
theorem dX8_lays_47 : decode cX8_lays 47 = .ok (.getfield 60, 3) := by decide +kernel
theorem dX8_lays_50 : decode cX8_lays 50 = .ok (.getfield 82, 3) := by decide +kernel
theorem dX8_lays_53 : decode cX8_lays 53 = .ok (.iload_n 2, 1) := by decide +kernel
theorem dX8_lays_54 : decode cX8_lays 54 = .ok (.invokevirtual 96, 3) := by decide +kernel
theorem dX8_lays_57 : decode cX8_lays 57 = .ok (.astore 4, 2) := by decide +kernel
theorem dX8_lays_59 : decode cX8_lays 59 = .ok (.aload 4, 2) := by decide +kernel
theorem dX8_lays_61 : decode cX8_lays 61 = .ok (.iload_n 1, 1) := by decide +kernel
theorem dX8_lays_62 : decode cX8_lays 62 = .ok (.iaload, 1) := by decide +kernel
theorem dX8_lays_63 : decode cX8_lays 63 = .ok (.istore 5, 2) := by decide +kernel
theorem dX8_lays_65 : decode cX8_lays 65 = .ok (.aload 4, 2) := by decide +kernel
theorem dX8_lays_67 : decode cX8_lays 67 = .ok (.iload_n 1, 1) := by decide +kernel
theorem dX8_lays_68 : decode cX8_lays 68 = .ok (.iload_n 3, 1) := by decide +kernel
theorem dX8_lays_69 : decode cX8_lays 69 = .ok (.iastore, 1) := by decide +kernel
theorem dX8_lays_70 : decode cX8_lays 70 = .ok (.iload 5, 2) := by decide +kernel
theorem dX8_lays_72 : decode cX8_lays 72 = .ok (.ireturn, 1) := by decide +kernel
theorem dX8_far_0 : decode cX8_far 0 = .ok (.aload_n 0, 1) := by decide +kernel
theorem dX8_far_1 : decode cX8_far 1 = .ok (.getfield 60, 3) := by decide +kernel
theorem dX8_far_4 : decode cX8_far 4 = .ok (.getfield 82, 3) := by decide +kernel
theorem dX8_far_7 : decode cX8_far 7 = .ok (.iload_n 1, 1) := by decide +kernel
theorem dX8_far_8 : decode cX8_far 8 = .ok (.invokevirtual 92, 3) := by decide +kernel
theorem dX8_far_11 : decode cX8_far 11 = .ok (.ifCond .eq 17, 3) := by decide +kernel
theorem dX8_far_14 : decode cX8_far 14 = .ok (.aload_n 0, 1) := by decide +kernel
theorem dX8_far_15 : decode cX8_far 15 = .ok (.getfield 60, 3) := by decide +kernel
theorem dX8_far_18 : decode cX8_far 18 = .ok (.getfield 82, 3) := by decide +kernel
theorem dX8_far_21 : decode cX8_far 21 = .ok (.iload_n 2, 1) := by decide +kernel
theorem dX8_far_22 : decode cX8_far 22 = .ok (.invokevirtual 92, 3) := by decide +kernel
theorem dX8_far_25 : decode cX8_far 25 = .ok (.ifCond .ne 6, 3) := by decide +kernel
theorem dX8_far_28 : decode cX8_far 28 = .ok (.ldc 81, 2) := by decide +kernel
theorem dX8_far_30 : decode cX8_far 30 = .ok (.ireturn, 1) := by decide +kernel
theorem dX8_far_31 : decode cX8_far 31 = .ok (.iload_n 1, 1) := by decide +kernel
theorem dX8_far_32 : decode cX8_far 32 = .ok (.iload_n 2, 1) := by decide +kernel
theorem dX8_far_33 : decode cX8_far 33 = .ok (.isub, 1) := by decide +kernel
theorem dX8_far_34 : decode cX8_far 34 = .ok (.invokestatic 112, 3) := by decide +kernel
theorem dX8_far_37 : decode cX8_far 37 = .ok (.istore_n 3, 1) := by decide +kernel
theorem dX8_far_38 : decode cX8_far 38 = .ok (.iload_n 3, 1) := by decide +kernel
theorem dX8_far_39 : decode cX8_far 39 = .ok (.aload_n 0, 1) := by decide +kernel
theorem dX8_far_40 : decode cX8_far 40 = .ok (.getfield 60, 3) := by decide +kernel
theorem dX8_far_43 : decode cX8_far 43 = .ok (.getfield 82, 3) := by decide +kernel
theorem dX8_far_46 : decode cX8_far 46 = .ok (.getfield 117, 3) := by decide +kernel
theorem dX8_far_49 : decode cX8_far 49 = .ok (.iload_n 3, 1) := by decide +kernel
theorem dX8_far_50 : decode cX8_far 50 = .ok (.isub, 1) := by decide +kernel
theorem dX8_far_51 : decode cX8_far 51 = .ok (.invokestatic 120, 3) := by decide +kernel
theorem dX8_far_54 : decode cX8_far 54 = .ok (.ireturn, 1) := by decide +kernel
theorem dX8_plain_0 : decode cX8_plain 0 = .ok (.iload_n 1, 1) := by decide +kernel
theorem dX8_plain_1 : decode cX8_plain 1 = .ok (.iconst 0, 1) := by decide +kernel
theorem dX8_plain_2 : decode cX8_plain 2 = .ok (.iconst 2, 1) := by decide +kernel
theorem dX8_plain_3 : decode cX8_plain 3 = .ok (.invokestatic 77, 3) := by decide +kernel
theorem dX8_plain_6 : decode cX8_plain 6 = .ok (.ifCond .eq 23, 3) := by decide +kernel
theorem dX8_plain_9 : decode cX8_plain 9 = .ok (.iload_n 2, 1) := by decide +kernel
theorem dX8_plain_10 : decode cX8_plain 10 = .ok (.iconst 0, 1) := by decide +kernel
theorem dX8_plain_11 : decode cX8_plain 11 = .ok (.iload_n 1, 1) := by decide +kernel
theorem dX8_plain_12 : decode cX8_plain 12 = .ok (.ifCond .ne 9, 3) := by decide +kernel
theorem dX8_plain_15 : decode cX8_plain 15 = .ok (.sipush 9999, 3) := by decide +kernel
theorem dX8_plain_18 : decode cX8_plain 18 = .ok (.goto 5, 3) := by decide +kernel
theorem dX8_plain_21 : decode cX8_plain 21 = .ok (.bipush 99, 2) := by decide +kernel
theorem dX8_plain_23 : decode cX8_plain 23 = .ok (.invokestatic 77, 3) := by decide +kernel
theorem dX8_plain_26 : decode cX8_plain 26 = .ok (.ifCond .ne 6, 3) := by decide +kernel
theorem dX8_plain_29 : decode cX8_plain 29 = .ok (.ldc 81, 2) := by decide +kernel
theorem dX8_plain_31 : decode cX8_plain 31 = .ok (.ireturn, 1) := by decide +kernel
theorem dX8_plain_32 : decode cX8_plain 32 = .ok (.iload_n 1, 1) := by decide +kernel
theorem dX8_plain_33 : decode cX8_plain 33 = .ok (.ifCond .ne 22, 3) := by decide +kernel
theorem dX8_plain_36 : decode cX8_plain 36 = .ok (.aload_n 0, 1) := by decide +kernel
theorem dX8_plain_37 : decode cX8_plain 37 = .ok (.getfield 60, 3) := by decide +kernel
theorem dX8_plain_40 : decode cX8_plain 40 = .ok (.getfield 124, 3) := by decide +kernel
theorem dX8_plain_43 : decode cX8_plain 43 = .ok (.istore_n 3, 1) := by decide +kernel
theorem dX8_plain_44 : decode cX8_plain 44 = .ok (.aload_n 0, 1) := by decide +kernel
theorem dX8_plain_45 : decode cX8_plain 45 = .ok (.getfield 60, 3) := by decide +kernel
theorem dX8_plain_48 : decode cX8_plain 48 = .ok (.iload_n 2, 1) := by decide +kernel
theorem dX8_plain_49 : decode cX8_plain 49 = .ok (.putfield 124, 3) := by decide +kernel
theorem dX8_plain_52 : decode cX8_plain 52 = .ok (.goto 43, 3) := by decide +kernel
theorem dX8_plain_55 : decode cX8_plain 55 = .ok (.iload_n 1, 1) := by decide +kernel
theorem dX8_plain_56 : decode cX8_plain 56 = .ok (.iconst 1, 1) := by decide +kernel
theorem dX8_plain_57 : decode cX8_plain 57 = .ok (.if_icmp .ne 22, 3) := by decide +kernel
theorem dX8_plain_60 : decode cX8_plain 60 = .ok (.aload_n 0, 1) := by decide +kernel
theorem dX8_plain_61 : decode cX8_plain 61 = .ok (.getfield 60, 3) := by decide +kernel
theorem dX8_plain_64 : decode cX8_plain 64 = .ok (.getfield 127, 3) := by decide +kernel
theorem dX8_plain_67 : decode cX8_plain 67 = .ok (.istore_n 3, 1) := by decide +kernel
theorem dX8_plain_68 : decode cX8_plain 68 = .ok (.aload_n 0, 1) := by decide +kernel
theorem dX8_plain_69 : decode cX8_plain 69 = .ok (.getfield 60, 3) := by decide +kernel
theorem dX8_plain_72 : decode cX8_plain 72 = .ok (.iload_n 2, 1) := by decide +kernel
theorem dX8_plain_73 : decode cX8_plain 73 = .ok (.putfield 127, 3) := by decide +kernel
theorem dX8_plain_76 : decode cX8_plain 76 = .ok (.goto 19, 3) := by decide +kernel
theorem dX8_plain_79 : decode cX8_plain 79 = .ok (.aload_n 0, 1) := by decide +kernel
theorem dX8_plain_80 : decode cX8_plain 80 = .ok (.getfield 60, 3) := by decide +kernel
theorem dX8_plain_83 : decode cX8_plain 83 = .ok (.getfield 130, 3) := by decide +kernel
theorem dX8_plain_86 : decode cX8_plain 86 = .ok (.istore_n 3, 1) := by decide +kernel
theorem dX8_plain_87 : decode cX8_plain 87 = .ok (.aload_n 0, 1) := by decide +kernel
theorem dX8_plain_88 : decode cX8_plain 88 = .ok (.getfield 60, 3) := by decide +kernel
theorem dX8_plain_91 : decode cX8_plain 91 = .ok (.iload_n 2, 1) := by decide +kernel
theorem dX8_plain_92 : decode cX8_plain 92 = .ok (.putfield 130, 3) := by decide +kernel
theorem dX8_plain_95 : decode cX8_plain 95 = .ok (.iload_n 3, 1) := by decide +kernel
theorem dX8_plain_96 : decode cX8_plain 96 = .ok (.ireturn, 1) := by decide +kernel
theorem dX8_watcher_0 : decode cX8_watcher 0 = .ok (.iload_n 1, 1) := by decide +kernel
theorem dX8_watcher_1 : decode cX8_watcher 1 = .ok (.invokestatic 133, 3) := by decide +kernel
theorem dX8_watcher_4 : decode cX8_watcher 4 = .ok (.ifCond .eq 23, 3) := by decide +kernel
theorem dX8_watcher_7 : decode cX8_watcher 7 = .ok (.iload_n 2, 1) := by decide +kernel
theorem dX8_watcher_8 : decode cX8_watcher 8 = .ok (.iconst 0, 1) := by decide +kernel
theorem dX8_watcher_9 : decode cX8_watcher 9 = .ok (.bipush 11, 2) := by decide +kernel
theorem dX8_watcher_11 : decode cX8_watcher 11 = .ok (.invokestatic 77, 3) := by decide +kernel
theorem dX8_watcher_14 : decode cX8_watcher 14 = .ok (.ifCond .eq 13, 3) := by decide +kernel
theorem dX8_watcher_17 : decode cX8_watcher 17 = .ok (.iload_n 3, 1) := by decide +kernel
theorem dX8_watcher_18 : decode cX8_watcher 18 = .ok (.iconst 1, 1) := by decide +kernel
theorem dX8_watcher_19 : decode cX8_watcher 19 = .ok (.bipush 9, 2) := by decide +kernel
theorem dX8_watcher_21 : decode cX8_watcher 21 = .ok (.invokestatic 77, 3) := by decide +kernel
theorem dX8_watcher_24 : decode cX8_watcher 24 = .ok (.ifCond .ne 6, 3) := by decide +kernel
theorem dX8_watcher_27 : decode cX8_watcher 27 = .ok (.ldc 81, 2) := by decide +kernel
theorem dX8_watcher_29 : decode cX8_watcher 29 = .ok (.ireturn, 1) := by decide +kernel
theorem dX8_watcher_30 : decode cX8_watcher 30 = .ok (.aload_n 0, 1) := by decide +kernel
theorem dX8_watcher_31 : decode cX8_watcher 31 = .ok (.getfield 60, 3) := by decide +kernel
theorem dX8_watcher_34 : decode cX8_watcher 34 = .ok (.iload_n 1, 1) := by decide +kernel
theorem dX8_watcher_35 : decode cX8_watcher 35 = .ok (.iload_n 2, 1) := by decide +kernel
theorem dX8_watcher_36 : decode cX8_watcher 36 = .ok (.iload_n 3, 1) := by decide +kernel
theorem dX8_watcher_37 : decode cX8_watcher 37 = .ok (.invokevirtual 136, 3) := by decide +kernel
theorem dX8_watcher_40 : decode cX8_watcher 40 = .ok (.ireturn, 1) := by decide +kernel
theorem dX8_told_0 : decode cX8_told 0 = .ok (.aload_n 0, 1) := by decide +kernel
theorem dX8_told_1 : decode cX8_told 1 = .ok (.getfield 60, 3) := by decide +kernel
theorem dX8_told_4 : decode cX8_told 4 = .ok (.iload_n 1, 1) := by decide +kernel
theorem dX8_told_5 : decode cX8_told 5 = .ok (.invokevirtual 140, 3) := by decide +kernel
theorem dX8_told_8 : decode cX8_told 8 = .ok (.ifCond .eq 13, 3) := by decide +kernel
theorem dX8_told_11 : decode cX8_told 11 = .ok (.iload_n 2, 1) := by decide +kernel
theorem dX8_told_12 : decode cX8_told 12 = .ok (.iconst 0, 1) := by decide +kernel
theorem dX8_told_13 : decode cX8_told 13 = .ok (.bipush 6, 2) := by decide +kernel
theorem dX8_told_15 : decode cX8_told 15 = .ok (.invokestatic 77, 3) := by decide +kernel
theorem dX8_told_18 : decode cX8_told 18 = .ok (.ifCond .ne 6, 3) := by decide +kernel
theorem dX8_told_21 : decode cX8_told 21 = .ok (.ldc 81, 2) := by decide +kernel
theorem dX8_told_23 : decode cX8_told 23 = .ok (.ireturn, 1) := by decide +kernel
theorem dX8_told_24 : decode cX8_told 24 = .ok (.aload_n 0, 1) := by decide +kernel
theorem dX8_told_25 : decode cX8_told 25 = .ok (.getfield 60, 3) := by decide +kernel
theorem dX8_told_28 : decode cX8_told 28 = .ok (.getfield 143, 3) := by decide +kernel
theorem dX8_told_31 : decode cX8_told 31 = .ok (.iload_n 1, 1) := by decide +kernel
theorem dX8_told_32 : decode cX8_told 32 = .ok (.aaload, 1) := by decide +kernel
theorem dX8_told_33 : decode cX8_told 33 = .ok (.astore_n 3, 1) := by decide +kernel
theorem dX8_told_34 : decode cX8_told 34 = .ok (.iload_n 2, 1) := by decide +kernel
theorem dX8_told_35 : decode cX8_told 35 = .ok (.tableswitch 78 0 5 #[37, 42, 47, 52, 57, 62], 37) := by decide +kernel
theorem dX8_told_72 : decode cX8_told 72 = .ok (.aload_n 3, 1) := by decide +kernel
theorem dX8_told_73 : decode cX8_told 73 = .ok (.getfield 147, 3) := by decide +kernel
theorem dX8_told_76 : decode cX8_told 76 = .ok (.ireturn, 1) := by decide +kernel
theorem dX8_told_77 : decode cX8_told 77 = .ok (.aload_n 3, 1) := by decide +kernel
theorem dX8_told_78 : decode cX8_told 78 = .ok (.getfield 152, 3) := by decide +kernel
theorem dX8_told_81 : decode cX8_told 81 = .ok (.ireturn, 1) := by decide +kernel
theorem dX8_told_82 : decode cX8_told 82 = .ok (.aload_n 3, 1) := by decide +kernel
theorem dX8_told_83 : decode cX8_told 83 = .ok (.getfield 155, 3) := by decide +kernel
theorem dX8_told_86 : decode cX8_told 86 = .ok (.ireturn, 1) := by decide +kernel
theorem dX8_told_87 : decode cX8_told 87 = .ok (.aload_n 3, 1) := by decide +kernel
theorem dX8_told_88 : decode cX8_told 88 = .ok (.getfield 158, 3) := by decide +kernel
theorem dX8_told_91 : decode cX8_told 91 = .ok (.ireturn, 1) := by decide +kernel
theorem dX8_told_92 : decode cX8_told 92 = .ok (.aload_n 3, 1) := by decide +kernel
theorem dX8_told_93 : decode cX8_told 93 = .ok (.getfield 161, 3) := by decide +kernel
theorem dX8_told_96 : decode cX8_told 96 = .ok (.ireturn, 1) := by decide +kernel
theorem dX8_told_97 : decode cX8_told 97 = .ok (.aload_n 0, 1) := by decide +kernel
theorem dX8_told_98 : decode cX8_told 98 = .ok (.getfield 60, 3) := by decide +kernel
theorem dX8_told_101 : decode cX8_told 101 = .ok (.invokevirtual 100, 3) := by decide +kernel
theorem dX8_told_104 : decode cX8_told 104 = .ok (.aload_n 0, 1) := by decide +kernel
theorem dX8_told_105 : decode cX8_told 105 = .ok (.getfield 60, 3) := by decide +kernel
theorem dX8_told_108 : decode cX8_told 108 = .ok (.aload_n 3, 1) := by decide +kernel
theorem dX8_told_109 : decode cX8_told 109 = .ok (.invokevirtual 164, 3) := by decide +kernel
theorem dX8_told_112 : decode cX8_told 112 = .ok (.ireturn, 1) := by decide +kernel
theorem dX8_told_113 : decode cX8_told 113 = .ok (.aload_n 3, 1) := by decide +kernel
theorem dX8_told_114 : decode cX8_told 114 = .ok (.invokevirtual 168, 3) := by decide +kernel
theorem dX8_told_117 : decode cX8_told 117 = .ok (.ireturn, 1) := by decide +kernel
theorem dX8_as_0 : decode cX8_as 0 = .ok (.aload_n 0, 1) := by decide +kernel
theorem dX8_as_1 : decode cX8_as 1 = .ok (.getfield 60, 3) := by decide +kernel
theorem dX8_as_4 : decode cX8_as 4 = .ok (.iload_n 1, 1) := by decide +kernel
theorem dX8_as_5 : decode cX8_as 5 = .ok (.invokevirtual 140, 3) := by decide +kernel
theorem dX8_as_8 : decode cX8_as 8 = .ok (.ifCond .eq 10, 3) := by decide +kernel
theorem dX8_as_11 : decode cX8_as 11 = .ok (.iload_n 2, 1) := by decide +kernel
theorem dX8_as_12 : decode cX8_as 12 = .ok (.invokestatic 133, 3) := by decide +kernel
theorem dX8_as_15 : decode cX8_as 15 = .ok (.ifCond .ne 6, 3) := by decide +kernel
theorem dX8_as_18 : decode cX8_as 18 = .ok (.ldc 81, 2) := by decide +kernel
theorem dX8_as_20 : decode cX8_as 20 = .ok (.ireturn, 1) := by decide +kernel
theorem dX8_as_21 : decode cX8_as 21 = .ok (.aload_n 0, 1) := by decide +kernel
theorem dX8_as_22 : decode cX8_as 22 = .ok (.getfield 60, 3) := by decide +kernel
theorem dX8_as_25 : decode cX8_as 25 = .ok (.getfield 143, 3) := by decide +kernel
theorem dX8_as_28 : decode cX8_as 28 = .ok (.iload_n 1, 1) := by decide +kernel
theorem dX8_as_29 : decode cX8_as 29 = .ok (.aaload, 1) := by decide +kernel
theorem dX8_as_30 : decode cX8_as 30 = .ok (.astore_n 3, 1) := by decide +kernel
theorem dX8_as_31 : decode cX8_as 31 = .ok (.aload_n 3, 1) := by decide +kernel
theorem dX8_as_32 : decode cX8_as 32 = .ok (.iload_n 2, 1) := by decide +kernel
theorem dX8_as_33 : decode cX8_as 33 = .ok (.invokevirtual 172, 3) := by decide +kernel
theorem dX8_as_36 : decode cX8_as 36 = .ok (.ifCond .eq 10, 3) := by decide +kernel
theorem dX8_as_39 : decode cX8_as 39 = .ok (.aload_n 3, 1) := by decide +kernel
theorem dX8_as_40 : decode cX8_as 40 = .ok (.getfield 155, 3) := by decide +kernel
theorem dX8_as_43 : decode cX8_as 43 = .ok (.goto 5, 3) := by decide +kernel
theorem dX8_as_46 : decode cX8_as 46 = .ok (.ldc 175, 2) := by decide +kernel
theorem dX8_as_48 : decode cX8_as 48 = .ok (.ireturn, 1) := by decide +kernel
theorem dX8_turns_0 : decode cX8_turns 0 = .ok (.aload_n 0, 1) := by decide +kernel
theorem dX8_turns_1 : decode cX8_turns 1 = .ok (.getfield 60, 3) := by decide +kernel
theorem dX8_turns_4 : decode cX8_turns 4 = .ok (.iload_n 1, 1) := by decide +kernel
theorem dX8_turns_5 : decode cX8_turns 5 = .ok (.invokevirtual 140, 3) := by decide +kernel
theorem dX8_turns_8 : decode cX8_turns 8 = .ok (.ifCond .eq 10, 3) := by decide +kernel
theorem dX8_turns_11 : decode cX8_turns 11 = .ok (.iload_n 2, 1) := by decide +kernel
theorem dX8_turns_12 : decode cX8_turns 12 = .ok (.invokestatic 133, 3) := by decide +kernel
theorem dX8_turns_15 : decode cX8_turns 15 = .ok (.ifCond .ne 6, 3) := by decide +kernel
theorem dX8_turns_18 : decode cX8_turns 18 = .ok (.ldc 81, 2) := by decide +kernel
theorem dX8_turns_20 : decode cX8_turns 20 = .ok (.ireturn, 1) := by decide +kernel
theorem dX8_turns_21 : decode cX8_turns 21 = .ok (.aload_n 0, 1) := by decide +kernel
theorem dX8_turns_22 : decode cX8_turns 22 = .ok (.getfield 60, 3) := by decide +kernel
theorem dX8_turns_25 : decode cX8_turns 25 = .ok (.getfield 143, 3) := by decide +kernel
theorem dX8_turns_28 : decode cX8_turns 28 = .ok (.iload_n 1, 1) := by decide +kernel
theorem dX8_turns_29 : decode cX8_turns 29 = .ok (.aaload, 1) := by decide +kernel
theorem dX8_turns_30 : decode cX8_turns 30 = .ok (.astore_n 3, 1) := by decide +kernel
theorem dX8_turns_31 : decode cX8_turns 31 = .ok (.aload_n 3, 1) := by decide +kernel
theorem dX8_turns_32 : decode cX8_turns 32 = .ok (.getfield 147, 3) := by decide +kernel
theorem dX8_turns_35 : decode cX8_turns 35 = .ok (.istore 4, 2) := by decide +kernel
theorem dX8_turns_37 : decode cX8_turns 37 = .ok (.aload_n 3, 1) := by decide +kernel
theorem dX8_turns_38 : decode cX8_turns 38 = .ok (.iload_n 2, 1) := by decide +kernel
theorem dX8_turns_39 : decode cX8_turns 39 = .ok (.putfield 147, 3) := by decide +kernel
theorem dX8_turns_42 : decode cX8_turns 42 = .ok (.iload 4, 2) := by decide +kernel
theorem dX8_turns_44 : decode cX8_turns 44 = .ok (.ireturn, 1) := by decide +kernel
theorem dX8_set_0 : decode cX8_set 0 = .ok (.aload_n 0, 1) := by decide +kernel
theorem dX8_set_1 : decode cX8_set 1 = .ok (.getfield 60, 3) := by decide +kernel
theorem dX8_set_4 : decode cX8_set 4 = .ok (.iload_n 1, 1) := by decide +kernel
theorem dX8_set_5 : decode cX8_set 5 = .ok (.invokevirtual 140, 3) := by decide +kernel
theorem dX8_set_8 : decode cX8_set 8 = .ok (.ifCond .eq 11, 3) := by decide +kernel
theorem dX8_set_11 : decode cX8_set 11 = .ok (.iload_n 2, 1) := by decide +kernel
theorem dX8_set_12 : decode cX8_set 12 = .ok (.iload_n 3, 1) := by decide +kernel
theorem dX8_set_13 : decode cX8_set 13 = .ok (.invokestatic 176, 3) := by decide +kernel
theorem dX8_set_16 : decode cX8_set 16 = .ok (.ifCond .ne 6, 3) := by decide +kernel
theorem dX8_set_19 : decode cX8_set 19 = .ok (.ldc 81, 2) := by decide +kernel
theorem dX8_set_21 : decode cX8_set 21 = .ok (.ireturn, 1) := by decide +kernel
theorem dX8_set_22 : decode cX8_set 22 = .ok (.aload_n 0, 1) := by decide +kernel
theorem dX8_set_23 : decode cX8_set 23 = .ok (.getfield 60, 3) := by decide +kernel
theorem dX8_set_26 : decode cX8_set 26 = .ok (.getfield 143, 3) := by decide +kernel
theorem dX8_set_29 : decode cX8_set 29 = .ok (.iload_n 1, 1) := by decide +kernel
theorem dX8_set_30 : decode cX8_set 30 = .ok (.aaload, 1) := by decide +kernel
theorem dX8_set_31 : decode cX8_set 31 = .ok (.astore 4, 2) := by decide +kernel
theorem dX8_set_33 : decode cX8_set 33 = .ok (.iload_n 2, 1) := by decide +kernel
theorem dX8_set_34 : decode cX8_set 34 = .ok (.tableswitch 74 1 3 #[26, 42, 58], 26) := by decide +kernel
theorem dX8_set_60 : decode cX8_set 60 = .ok (.aload 4, 2) := by decide +kernel
theorem dX8_set_62 : decode cX8_set 62 = .ok (.getfield 152, 3) := by decide +kernel
theorem dX8_set_65 : decode cX8_set 65 = .ok (.istore 5, 2) := by decide +kernel
theorem dX8_set_67 : decode cX8_set 67 = .ok (.aload 4, 2) := by decide +kernel
theorem dX8_set_69 : decode cX8_set 69 = .ok (.iload_n 3, 1) := by decide +kernel
theorem dX8_set_70 : decode cX8_set 70 = .ok (.putfield 152, 3) := by decide +kernel
theorem dX8_set_73 : decode cX8_set 73 = .ok (.iload 5, 2) := by decide +kernel
theorem dX8_set_75 : decode cX8_set 75 = .ok (.ireturn, 1) := by decide +kernel
theorem dX8_set_76 : decode cX8_set 76 = .ok (.aload 4, 2) := by decide +kernel
theorem dX8_set_78 : decode cX8_set 78 = .ok (.getfield 155, 3) := by decide +kernel
theorem dX8_set_81 : decode cX8_set 81 = .ok (.istore 5, 2) := by decide +kernel
theorem dX8_set_83 : decode cX8_set 83 = .ok (.aload 4, 2) := by decide +kernel
theorem dX8_set_85 : decode cX8_set 85 = .ok (.iload_n 3, 1) := by decide +kernel
theorem dX8_set_86 : decode cX8_set 86 = .ok (.putfield 155, 3) := by decide +kernel
theorem dX8_set_89 : decode cX8_set 89 = .ok (.iload 5, 2) := by decide +kernel
theorem dX8_set_91 : decode cX8_set 91 = .ok (.ireturn, 1) := by decide +kernel
theorem dX8_set_92 : decode cX8_set 92 = .ok (.aload 4, 2) := by decide +kernel
theorem dX8_set_94 : decode cX8_set 94 = .ok (.getfield 158, 3) := by decide +kernel
theorem dX8_set_97 : decode cX8_set 97 = .ok (.istore 5, 2) := by decide +kernel
theorem dX8_set_99 : decode cX8_set 99 = .ok (.aload 4, 2) := by decide +kernel
theorem dX8_set_101 : decode cX8_set 101 = .ok (.iload_n 3, 1) := by decide +kernel
theorem dX8_set_102 : decode cX8_set 102 = .ok (.putfield 158, 3) := by decide +kernel
theorem dX8_set_105 : decode cX8_set 105 = .ok (.iload 5, 2) := by decide +kernel
theorem dX8_set_107 : decode cX8_set 107 = .ok (.ireturn, 1) := by decide +kernel
theorem dX8_set_108 : decode cX8_set 108 = .ok (.aload 4, 2) := by decide +kernel
theorem dX8_set_110 : decode cX8_set 110 = .ok (.getfield 161, 3) := by decide +kernel
theorem dX8_set_113 : decode cX8_set 113 = .ok (.istore 5, 2) := by decide +kernel
theorem dX8_set_115 : decode cX8_set 115 = .ok (.aload 4, 2) := by decide +kernel
theorem dX8_set_117 : decode cX8_set 117 = .ok (.iload_n 3, 1) := by decide +kernel
theorem dX8_set_118 : decode cX8_set 118 = .ok (.putfield 161, 3) := by decide +kernel
theorem dX8_set_121 : decode cX8_set 121 = .ok (.iload 5, 2) := by decide +kernel
theorem dX8_set_123 : decode cX8_set 123 = .ok (.ireturn, 1) := by decide +kernel
theorem dX8_deal_0 : decode cX8_deal 0 = .ok (.iload_n 1, 1) := by decide +kernel
theorem dX8_deal_1 : decode cX8_deal 1 = .ok (.iconst 1, 1) := by decide +kernel
theorem dX8_deal_2 : decode cX8_deal 2 = .ok (.bipush 8, 2) := by decide +kernel
theorem dX8_deal_4 : decode cX8_deal 4 = .ok (.invokestatic 77, 3) := by decide +kernel
theorem dX8_deal_7 : decode cX8_deal 7 = .ok (.ifCond .ne 6, 3) := by decide +kernel
theorem dX8_deal_10 : decode cX8_deal 10 = .ok (.ldc 81, 2) := by decide +kernel
theorem dX8_deal_12 : decode cX8_deal 12 = .ok (.ireturn, 1) := by decide +kernel
theorem dX8_deal_13 : decode cX8_deal 13 = .ok (.iload_n 1, 1) := by decide +kernel
theorem dX8_deal_14 : decode cX8_deal 14 = .ok (.bipush 8, 2) := by decide +kernel
theorem dX8_deal_16 : decode cX8_deal 16 = .ok (.aload_n 0, 1) := by decide +kernel
theorem dX8_deal_17 : decode cX8_deal 17 = .ok (.getfield 60, 3) := by decide +kernel
theorem dX8_deal_20 : decode cX8_deal 20 = .ok (.getfield 180, 3) := by decide +kernel
theorem dX8_deal_23 : decode cX8_deal 23 = .ok (.isub, 1) := by decide +kernel
theorem dX8_deal_24 : decode cX8_deal 24 = .ok (.invokestatic 120, 3) := by decide +kernel
theorem dX8_deal_27 : decode cX8_deal 27 = .ok (.istore_n 2, 1) := by decide +kernel
theorem dX8_deal_28 : decode cX8_deal 28 = .ok (.iconst 0, 1) := by decide +kernel
theorem dX8_deal_29 : decode cX8_deal 29 = .ok (.istore_n 3, 1) := by decide +kernel
theorem dX8_deal_30 : decode cX8_deal 30 = .ok (.iload_n 3, 1) := by decide +kernel
theorem dX8_deal_31 : decode cX8_deal 31 = .ok (.iload_n 2, 1) := by decide +kernel
theorem dX8_deal_32 : decode cX8_deal 32 = .ok (.if_icmp .ge 63, 3) := by decide +kernel
theorem dX8_deal_35 : decode cX8_deal 35 = .ok (.aload_n 0, 1) := by decide +kernel
theorem dX8_deal_36 : decode cX8_deal 36 = .ok (.getfield 60, 3) := by decide +kernel
theorem dX8_deal_39 : decode cX8_deal 39 = .ok (.invokevirtual 183, 3) := by decide +kernel
theorem dX8_deal_42 : decode cX8_deal 42 = .ok (.getstatic 186, 3) := by decide +kernel
theorem dX8_deal_45 : decode cX8_deal 45 = .ok (.arraylength, 1) := by decide +kernel
theorem dX8_deal_46 : decode cX8_deal 46 = .ok (.irem, 1) := by decide +kernel
theorem dX8_deal_47 : decode cX8_deal 47 = .ok (.istore 4, 2) := by decide +kernel
theorem dX8_deal_49 : decode cX8_deal 49 = .ok (.aload_n 0, 1) := by decide +kernel
theorem dX8_deal_50 : decode cX8_deal 50 = .ok (.getfield 60, 3) := by decide +kernel
theorem dX8_deal_53 : decode cX8_deal 53 = .ok (.invokevirtual 183, 3) := by decide +kernel
theorem dX8_deal_56 : decode cX8_deal 56 = .ok (.bipush 12, 2) := by decide +kernel
theorem dX8_deal_58 : decode cX8_deal 58 = .ok (.irem, 1) := by decide +kernel
theorem dX8_deal_59 : decode cX8_deal 59 = .ok (.istore 5, 2) := by decide +kernel
theorem dX8_deal_61 : decode cX8_deal 61 = .ok (.iconst 1, 1) := by decide +kernel
theorem dX8_deal_62 : decode cX8_deal 62 = .ok (.aload_n 0, 1) := by decide +kernel
theorem dX8_deal_63 : decode cX8_deal 63 = .ok (.getfield 60, 3) := by decide +kernel
theorem dX8_deal_66 : decode cX8_deal 66 = .ok (.invokevirtual 183, 3) := by decide +kernel
theorem dX8_deal_69 : decode cX8_deal 69 = .ok (.bipush 9, 2) := by decide +kernel
theorem dX8_deal_71 : decode cX8_deal 71 = .ok (.irem, 1) := by decide +kernel
theorem dX8_deal_72 : decode cX8_deal 72 = .ok (.iadd, 1) := by decide +kernel
theorem dX8_deal_73 : decode cX8_deal 73 = .ok (.istore 6, 2) := by decide +kernel
theorem dX8_deal_75 : decode cX8_deal 75 = .ok (.aload_n 0, 1) := by decide +kernel
theorem dX8_deal_76 : decode cX8_deal 76 = .ok (.getfield 60, 3) := by decide +kernel
theorem dX8_deal_79 : decode cX8_deal 79 = .ok (.iload 4, 2) := by decide +kernel
theorem dX8_deal_81 : decode cX8_deal 81 = .ok (.iload 5, 2) := by decide +kernel
theorem dX8_deal_83 : decode cX8_deal 83 = .ok (.iload 6, 2) := by decide +kernel
theorem dX8_deal_85 : decode cX8_deal 85 = .ok (.invokevirtual 136, 3) := by decide +kernel
theorem dX8_deal_88 : decode cX8_deal 88 = .ok (.pop, 1) := by decide +kernel
theorem dX8_deal_89 : decode cX8_deal 89 = .ok (.iinc 3 1, 3) := by decide +kernel
theorem dX8_deal_92 : decode cX8_deal 92 = .ok (.goto (-62), 3) := by decide +kernel
theorem dX8_deal_95 : decode cX8_deal 95 = .ok (.iload_n 2, 1) := by decide +kernel
theorem dX8_deal_96 : decode cX8_deal 96 = .ok (.ireturn, 1) := by decide +kernel
theorem dX8_seed_0 : decode cX8_seed 0 = .ok (.aload_n 0, 1) := by decide +kernel
theorem dX8_seed_1 : decode cX8_seed 1 = .ok (.getfield 60, 3) := by decide +kernel
theorem dX8_seed_4 : decode cX8_seed 4 = .ok (.getfield 189, 3) := by decide +kernel
theorem dX8_seed_7 : decode cX8_seed 7 = .ok (.istore_n 2, 1) := by decide +kernel
theorem dX8_seed_8 : decode cX8_seed 8 = .ok (.aload_n 0, 1) := by decide +kernel
theorem dX8_seed_9 : decode cX8_seed 9 = .ok (.getfield 60, 3) := by decide +kernel
theorem dX8_seed_12 : decode cX8_seed 12 = .ok (.iload_n 1, 1) := by decide +kernel
theorem dX8_seed_13 : decode cX8_seed 13 = .ok (.putfield 189, 3) := by decide +kernel
theorem dX8_seed_16 : decode cX8_seed 16 = .ok (.iload_n 2, 1) := by decide +kernel
theorem dX8_seed_17 : decode cX8_seed 17 = .ok (.ireturn, 1) := by decide +kernel
theorem dX8_hours_0 : decode cX8_hours 0 = .ok (.iload_n 1, 1) := by decide +kernel
theorem dX8_hours_1 : decode cX8_hours 1 = .ok (.iconst 1, 1) := by decide +kernel
theorem dX8_hours_2 : decode cX8_hours 2 = .ok (.sipush 300, 3) := by decide +kernel
theorem dX8_hours_5 : decode cX8_hours 5 = .ok (.invokestatic 77, 3) := by decide +kernel
theorem dX8_hours_8 : decode cX8_hours 8 = .ok (.ifCond .ne 6, 3) := by decide +kernel
theorem dX8_hours_11 : decode cX8_hours 11 = .ok (.ldc 81, 2) := by decide +kernel
theorem dX8_hours_13 : decode cX8_hours 13 = .ok (.ireturn, 1) := by decide +kernel
theorem dX8_hours_14 : decode cX8_hours 14 = .ok (.aload_n 0, 1) := by decide +kernel
theorem dX8_hours_15 : decode cX8_hours 15 = .ok (.getfield 60, 3) := by decide +kernel
theorem dX8_hours_18 : decode cX8_hours 18 = .ok (.getfield 192, 3) := by decide +kernel
theorem dX8_hours_21 : decode cX8_hours 21 = .ok (.istore_n 2, 1) := by decide +kernel
theorem dX8_hours_22 : decode cX8_hours 22 = .ok (.aload_n 0, 1) := by decide +kernel
theorem dX8_hours_23 : decode cX8_hours 23 = .ok (.getfield 60, 3) := by decide +kernel
theorem dX8_hours_26 : decode cX8_hours 26 = .ok (.iload_n 1, 1) := by decide +kernel
theorem dX8_hours_27 : decode cX8_hours 27 = .ok (.sipush 9999, 3) := by decide +kernel
theorem dX8_hours_30 : decode cX8_hours 30 = .ok (.aload_n 0, 1) := by decide +kernel
theorem dX8_hours_31 : decode cX8_hours 31 = .ok (.getfield 60, 3) := by decide +kernel
theorem dX8_hours_34 : decode cX8_hours 34 = .ok (.getfield 195, 3) := by decide +kernel
theorem dX8_hours_37 : decode cX8_hours 37 = .ok (.isub, 1) := by decide +kernel
theorem dX8_hours_38 : decode cX8_hours 38 = .ok (.invokestatic 120, 3) := by decide +kernel
theorem dX8_hours_41 : decode cX8_hours 41 = .ok (.invokevirtual 198, 3) := by decide +kernel
theorem dX8_hours_44 : decode cX8_hours 44 = .ok (.aload_n 0, 1) := by decide +kernel
theorem dX8_hours_45 : decode cX8_hours 45 = .ok (.getfield 60, 3) := by decide +kernel
theorem dX8_hours_48 : decode cX8_hours 48 = .ok (.getfield 192, 3) := by decide +kernel
theorem dX8_hours_51 : decode cX8_hours 51 = .ok (.iload_n 2, 1) := by decide +kernel
theorem dX8_hours_52 : decode cX8_hours 52 = .ok (.isub, 1) := by decide +kernel
theorem dX8_hours_53 : decode cX8_hours 53 = .ok (.ireturn, 1) := by decide +kernel
theorem dX8_night_0 : decode cX8_night 0 = .ok (.iload_n 1, 1) := by decide +kernel
theorem dX8_night_1 : decode cX8_night 1 = .ok (.tableswitch 70 0 3 #[31, 39, 47, 55], 31) := by decide +kernel
theorem dX8_night_32 : decode cX8_night 32 = .ok (.aload_n 0, 1) := by decide +kernel
theorem dX8_night_33 : decode cX8_night 33 = .ok (.getfield 60, 3) := by decide +kernel
theorem dX8_night_36 : decode cX8_night 36 = .ok (.getfield 192, 3) := by decide +kernel
theorem dX8_night_39 : decode cX8_night 39 = .ok (.ireturn, 1) := by decide +kernel
theorem dX8_night_40 : decode cX8_night 40 = .ok (.aload_n 0, 1) := by decide +kernel
theorem dX8_night_41 : decode cX8_night 41 = .ok (.getfield 60, 3) := by decide +kernel
theorem dX8_night_44 : decode cX8_night 44 = .ok (.getfield 202, 3) := by decide +kernel
theorem dX8_night_47 : decode cX8_night 47 = .ok (.ireturn, 1) := by decide +kernel
theorem dX8_night_48 : decode cX8_night 48 = .ok (.aload_n 0, 1) := by decide +kernel
theorem dX8_night_49 : decode cX8_night 49 = .ok (.getfield 60, 3) := by decide +kernel
theorem dX8_night_52 : decode cX8_night 52 = .ok (.getfield 205, 3) := by decide +kernel
theorem dX8_night_55 : decode cX8_night 55 = .ok (.ireturn, 1) := by decide +kernel
theorem dX8_night_56 : decode cX8_night 56 = .ok (.aload_n 0, 1) := by decide +kernel
theorem dX8_night_57 : decode cX8_night 57 = .ok (.getfield 60, 3) := by decide +kernel
theorem dX8_night_60 : decode cX8_night 60 = .ok (.invokevirtual 100, 3) := by decide +kernel
theorem dX8_night_63 : decode cX8_night 63 = .ok (.aload_n 0, 1) := by decide +kernel
theorem dX8_night_64 : decode cX8_night 64 = .ok (.getfield 60, 3) := by decide +kernel
theorem dX8_night_67 : decode cX8_night 67 = .ok (.invokevirtual 208, 3) := by decide +kernel
theorem dX8_night_70 : decode cX8_night 70 = .ok (.ireturn, 1) := by decide +kernel
theorem dX8_night_71 : decode cX8_night 71 = .ok (.ldc 81, 2) := by decide +kernel
theorem dX8_night_73 : decode cX8_night 73 = .ok (.ireturn, 1) := by decide +kernel
theorem dX8_behind_0 : decode cX8_behind 0 = .ok (.iload_n 1, 1) := by decide +kernel
theorem dX8_behind_1 : decode cX8_behind 1 = .ok (.iconst 0, 1) := by decide +kernel
theorem dX8_behind_2 : decode cX8_behind 2 = .ok (.sipush 300, 3) := by decide +kernel
theorem dX8_behind_5 : decode cX8_behind 5 = .ok (.invokestatic 77, 3) := by decide +kernel
theorem dX8_behind_8 : decode cX8_behind 8 = .ok (.ifCond .eq 12, 3) := by decide +kernel
theorem dX8_behind_11 : decode cX8_behind 11 = .ok (.iload_n 2, 1) := by decide +kernel
theorem dX8_behind_12 : decode cX8_behind 12 = .ok (.iconst 0, 1) := by decide +kernel
theorem dX8_behind_13 : decode cX8_behind 13 = .ok (.iconst 3, 1) := by decide +kernel
theorem dX8_behind_14 : decode cX8_behind 14 = .ok (.invokestatic 77, 3) := by decide +kernel
theorem dX8_behind_17 : decode cX8_behind 17 = .ok (.ifCond .ne 6, 3) := by decide +kernel
theorem dX8_behind_20 : decode cX8_behind 20 = .ok (.ldc 81, 2) := by decide +kernel
theorem dX8_behind_22 : decode cX8_behind 22 = .ok (.ireturn, 1) := by decide +kernel
theorem dX8_behind_23 : decode cX8_behind 23 = .ok (.aload_n 0, 1) := by decide +kernel
theorem dX8_behind_24 : decode cX8_behind 24 = .ok (.getfield 67, 3) := by decide +kernel
theorem dX8_behind_27 : decode cX8_behind 27 = .ok (.aload_n 0, 1) := by decide +kernel
theorem dX8_behind_28 : decode cX8_behind 28 = .ok (.getfield 60, 3) := by decide +kernel
theorem dX8_behind_31 : decode cX8_behind 31 = .ok (.invokevirtual 211, 3) := by decide +kernel
theorem dX8_behind_34 : decode cX8_behind 34 = .ok (.aload_n 0, 1) := by decide +kernel
theorem dX8_behind_35 : decode cX8_behind 35 = .ok (.getfield 67, 3) := by decide +kernel
theorem dX8_behind_38 : decode cX8_behind 38 = .ok (.iload_n 1, 1) := by decide +kernel
theorem dX8_behind_39 : decode cX8_behind 39 = .ok (.invokevirtual 198, 3) := by decide +kernel
theorem dX8_behind_42 : decode cX8_behind 42 = .ok (.iload_n 2, 1) := by decide +kernel
theorem dX8_behind_43 : decode cX8_behind 43 = .ok (.tableswitch 49 0 2 #[25, 33, 41], 25) := by decide +kernel
theorem dX8_behind_68 : decode cX8_behind 68 = .ok (.aload_n 0, 1) := by decide +kernel
theorem dX8_behind_69 : decode cX8_behind 69 = .ok (.getfield 67, 3) := by decide +kernel
theorem dX8_behind_72 : decode cX8_behind 72 = .ok (.getfield 192, 3) := by decide +kernel
theorem dX8_behind_75 : decode cX8_behind 75 = .ok (.ireturn, 1) := by decide +kernel
theorem dX8_behind_76 : decode cX8_behind 76 = .ok (.aload_n 0, 1) := by decide +kernel
theorem dX8_behind_77 : decode cX8_behind 77 = .ok (.getfield 67, 3) := by decide +kernel
theorem dX8_behind_80 : decode cX8_behind 80 = .ok (.getfield 124, 3) := by decide +kernel
theorem dX8_behind_83 : decode cX8_behind 83 = .ok (.ireturn, 1) := by decide +kernel
theorem dX8_behind_84 : decode cX8_behind 84 = .ok (.aload_n 0, 1) := by decide +kernel
theorem dX8_behind_85 : decode cX8_behind 85 = .ok (.getfield 67, 3) := by decide +kernel
theorem dX8_behind_88 : decode cX8_behind 88 = .ok (.getfield 130, 3) := by decide +kernel
theorem dX8_behind_91 : decode cX8_behind 91 = .ok (.ireturn, 1) := by decide +kernel
theorem dX8_behind_92 : decode cX8_behind 92 = .ok (.aload_n 0, 1) := by decide +kernel
theorem dX8_behind_93 : decode cX8_behind 93 = .ok (.getfield 67, 3) := by decide +kernel
theorem dX8_behind_96 : decode cX8_behind 96 = .ok (.getfield 82, 3) := by decide +kernel
theorem dX8_behind_99 : decode cX8_behind 99 = .ok (.invokevirtual 215, 3) := by decide +kernel
theorem dX8_behind_102 : decode cX8_behind 102 = .ok (.ireturn, 1) := by decide +kernel
theorem dX8_lasts_0 : decode cX8_lasts 0 = .ok (.aload_n 0, 1) := by decide +kernel
theorem dX8_lasts_1 : decode cX8_lasts 1 = .ok (.getfield 67, 3) := by decide +kernel
theorem dX8_lasts_4 : decode cX8_lasts 4 = .ok (.aload_n 0, 1) := by decide +kernel
theorem dX8_lasts_5 : decode cX8_lasts 5 = .ok (.getfield 60, 3) := by decide +kernel
theorem dX8_lasts_8 : decode cX8_lasts 8 = .ok (.invokevirtual 211, 3) := by decide +kernel
theorem dX8_lasts_11 : decode cX8_lasts 11 = .ok (.iconst 1, 1) := by decide +kernel
theorem dX8_lasts_12 : decode cX8_lasts 12 = .ok (.istore_n 1, 1) := by decide +kernel
theorem dX8_lasts_13 : decode cX8_lasts 13 = .ok (.iload_n 1, 1) := by decide +kernel
theorem dX8_lasts_14 : decode cX8_lasts 14 = .ok (.sipush 300, 3) := by decide +kernel
theorem dX8_lasts_17 : decode cX8_lasts 17 = .ok (.if_icmp .gt 21, 3) := by decide +kernel
theorem dX8_lasts_20 : decode cX8_lasts 20 = .ok (.aload_n 0, 1) := by decide +kernel
theorem dX8_lasts_21 : decode cX8_lasts 21 = .ok (.getfield 67, 3) := by decide +kernel
theorem dX8_lasts_24 : decode cX8_lasts 24 = .ok (.invokevirtual 218, 3) := by decide +kernel
theorem dX8_lasts_27 : decode cX8_lasts 27 = .ok (.ifCond .eq 5, 3) := by decide +kernel
theorem dX8_lasts_30 : decode cX8_lasts 30 = .ok (.iload_n 1, 1) := by decide +kernel
theorem dX8_lasts_31 : decode cX8_lasts 31 = .ok (.ireturn, 1) := by decide +kernel
theorem dX8_lasts_32 : decode cX8_lasts 32 = .ok (.iinc 1 1, 3) := by decide +kernel
theorem dX8_lasts_35 : decode cX8_lasts 35 = .ok (.goto (-22), 3) := by decide +kernel
theorem dX8_lasts_38 : decode cX8_lasts 38 = .ok (.ldc 222, 2) := by decide +kernel
theorem dX8_lasts_40 : decode cX8_lasts 40 = .ok (.ireturn, 1) := by decide +kernel
theorem dX8_loss_0 : decode cX8_loss 0 = .ok (.aload_n 0, 1) := by decide +kernel
theorem dX8_loss_1 : decode cX8_loss 1 = .ok (.getfield 67, 3) := by decide +kernel
theorem dX8_loss_4 : decode cX8_loss 4 = .ok (.aload_n 0, 1) := by decide +kernel
theorem dX8_loss_5 : decode cX8_loss 5 = .ok (.getfield 60, 3) := by decide +kernel
theorem dX8_loss_8 : decode cX8_loss 8 = .ok (.invokevirtual 211, 3) := by decide +kernel
theorem dX8_loss_11 : decode cX8_loss 11 = .ok (.iconst 1, 1) := by decide +kernel
theorem dX8_loss_12 : decode cX8_loss 12 = .ok (.istore_n 1, 1) := by decide +kernel
theorem dX8_loss_13 : decode cX8_loss 13 = .ok (.iload_n 1, 1) := by decide +kernel
theorem dX8_loss_14 : decode cX8_loss 14 = .ok (.sipush 300, 3) := by decide +kernel
theorem dX8_loss_17 : decode cX8_loss 17 = .ok (.if_icmp .gt 36, 3) := by decide +kernel
theorem dX8_loss_20 : decode cX8_loss 20 = .ok (.aload_n 0, 1) := by decide +kernel
theorem dX8_loss_21 : decode cX8_loss 21 = .ok (.getfield 67, 3) := by decide +kernel
theorem dX8_loss_24 : decode cX8_loss 24 = .ok (.iconst 1, 1) := by decide +kernel
theorem dX8_loss_25 : decode cX8_loss 25 = .ok (.invokevirtual 198, 3) := by decide +kernel
theorem dX8_loss_28 : decode cX8_loss 28 = .ok (.aload_n 0, 1) := by decide +kernel
theorem dX8_loss_29 : decode cX8_loss 29 = .ok (.getfield 67, 3) := by decide +kernel
theorem dX8_loss_32 : decode cX8_loss 32 = .ok (.getfield 192, 3) := by decide +kernel
theorem dX8_loss_35 : decode cX8_loss 35 = .ok (.aload_n 0, 1) := by decide +kernel
theorem dX8_loss_36 : decode cX8_loss 36 = .ok (.getfield 60, 3) := by decide +kernel
theorem dX8_loss_39 : decode cX8_loss 39 = .ok (.getfield 192, 3) := by decide +kernel
theorem dX8_loss_42 : decode cX8_loss 42 = .ok (.if_icmp .le 5, 3) := by decide +kernel
theorem dX8_loss_45 : decode cX8_loss 45 = .ok (.iload_n 1, 1) := by decide +kernel
theorem dX8_loss_46 : decode cX8_loss 46 = .ok (.ireturn, 1) := by decide +kernel
theorem dX8_loss_47 : decode cX8_loss 47 = .ok (.iinc 1 1, 3) := by decide +kernel
theorem dX8_loss_50 : decode cX8_loss 50 = .ok (.goto (-37), 3) := by decide +kernel
theorem dX8_loss_53 : decode cX8_loss 53 = .ok (.ldc 222, 2) := by decide +kernel
theorem dX8_loss_55 : decode cX8_loss 55 = .ok (.ireturn, 1) := by decide +kernel
theorem dX8_dark_0 : decode cX8_dark 0 = .ok (.iload_n 1, 1) := by decide +kernel
theorem dX8_dark_1 : decode cX8_dark 1 = .ok (.iconst 0, 1) := by decide +kernel
theorem dX8_dark_2 : decode cX8_dark 2 = .ok (.bipush 100, 2) := by decide +kernel
theorem dX8_dark_4 : decode cX8_dark 4 = .ok (.invokestatic 77, 3) := by decide +kernel
theorem dX8_dark_7 : decode cX8_dark 7 = .ok (.ifCond .ne 6, 3) := by decide +kernel
theorem dX8_dark_10 : decode cX8_dark 10 = .ok (.ldc 81, 2) := by decide +kernel
theorem dX8_dark_12 : decode cX8_dark 12 = .ok (.ireturn, 1) := by decide +kernel
theorem dX8_dark_13 : decode cX8_dark 13 = .ok (.aload_n 0, 1) := by decide +kernel
theorem dX8_dark_14 : decode cX8_dark 14 = .ok (.getfield 60, 3) := by decide +kernel
theorem dX8_dark_17 : decode cX8_dark 17 = .ok (.invokevirtual 100, 3) := by decide +kernel
theorem dX8_dark_20 : decode cX8_dark 20 = .ok (.iconst 0, 1) := by decide +kernel
theorem dX8_dark_21 : decode cX8_dark 21 = .ok (.istore_n 2, 1) := by decide +kernel
theorem dX8_dark_22 : decode cX8_dark 22 = .ok (.iconst 0, 1) := by decide +kernel
theorem dX8_dark_23 : decode cX8_dark 23 = .ok (.istore_n 3, 1) := by decide +kernel
theorem dX8_dark_24 : decode cX8_dark 24 = .ok (.iload_n 3, 1) := by decide +kernel
theorem dX8_dark_25 : decode cX8_dark 25 = .ok (.aload_n 0, 1) := by decide +kernel
theorem dX8_dark_26 : decode cX8_dark 26 = .ok (.getfield 60, 3) := by decide +kernel
theorem dX8_dark_29 : decode cX8_dark 29 = .ok (.getfield 82, 3) := by decide +kernel
theorem dX8_dark_32 : decode cX8_dark 32 = .ok (.getfield 117, 3) := by decide +kernel
theorem dX8_dark_35 : decode cX8_dark 35 = .ok (.if_icmp .ge 28, 3) := by decide +kernel
theorem dX8_dark_38 : decode cX8_dark 38 = .ok (.aload_n 0, 1) := by decide +kernel
theorem dX8_dark_39 : decode cX8_dark 39 = .ok (.getfield 60, 3) := by decide +kernel
theorem dX8_dark_42 : decode cX8_dark 42 = .ok (.getfield 103, 3) := by decide +kernel
theorem dX8_dark_45 : decode cX8_dark 45 = .ok (.iload_n 3, 1) := by decide +kernel
theorem dX8_dark_46 : decode cX8_dark 46 = .ok (.iaload, 1) := by decide +kernel
theorem dX8_dark_47 : decode cX8_dark 47 = .ok (.iload_n 1, 1) := by decide +kernel
theorem dX8_dark_48 : decode cX8_dark 48 = .ok (.if_icmp .ge 9, 3) := by decide +kernel
theorem dX8_dark_51 : decode cX8_dark 51 = .ok (.iload_n 2, 1) := by decide +kernel
theorem dX8_dark_52 : decode cX8_dark 52 = .ok (.iconst 1, 1) := by decide +kernel
theorem dX8_dark_53 : decode cX8_dark 53 = .ok (.iload_n 3, 1) := by decide +kernel
theorem dX8_dark_54 : decode cX8_dark 54 = .ok (.ishl, 1) := by decide +kernel
theorem dX8_dark_55 : decode cX8_dark 55 = .ok (.ior, 1) := by decide +kernel
theorem dX8_dark_56 : decode cX8_dark 56 = .ok (.istore_n 2, 1) := by decide +kernel
theorem dX8_dark_57 : decode cX8_dark 57 = .ok (.iinc 3 1, 3) := by decide +kernel
theorem dX8_dark_60 : decode cX8_dark 60 = .ok (.goto (-36), 3) := by decide +kernel
theorem dX8_dark_63 : decode cX8_dark 63 = .ok (.iload_n 2, 1) := by decide +kernel
theorem dX8_dark_64 : decode cX8_dark 64 = .ok (.ireturn, 1) := by decide +kernel
theorem dX8_fires_0 : decode cX8_fires 0 = .ok (.iload_n 1, 1) := by decide +kernel
theorem dX8_fires_1 : decode cX8_fires 1 = .ok (.iconst 0, 1) := by decide +kernel
theorem dX8_fires_2 : decode cX8_fires 2 = .ok (.bipush 18, 2) := by decide +kernel
theorem dX8_fires_4 : decode cX8_fires 4 = .ok (.invokestatic 77, 3) := by decide +kernel
theorem dX8_fires_7 : decode cX8_fires 7 = .ok (.ifCond .eq 12, 3) := by decide +kernel
theorem dX8_fires_10 : decode cX8_fires 10 = .ok (.iload_n 2, 1) := by decide +kernel
theorem dX8_fires_11 : decode cX8_fires 11 = .ok (.iconst 0, 1) := by decide +kernel
theorem dX8_fires_12 : decode cX8_fires 12 = .ok (.iconst 2, 1) := by decide +kernel
theorem dX8_fires_13 : decode cX8_fires 13 = .ok (.invokestatic 77, 3) := by decide +kernel
theorem dX8_fires_16 : decode cX8_fires 16 = .ok (.ifCond .ne 6, 3) := by decide +kernel
theorem dX8_fires_19 : decode cX8_fires 19 = .ok (.ldc 81, 2) := by decide +kernel
theorem dX8_fires_21 : decode cX8_fires 21 = .ok (.ireturn, 1) := by decide +kernel
theorem dX8_fires_22 : decode cX8_fires 22 = .ok (.aload_n 0, 1) := by decide +kernel
theorem dX8_fires_23 : decode cX8_fires 23 = .ok (.getfield 60, 3) := by decide +kernel
theorem dX8_fires_26 : decode cX8_fires 26 = .ok (.getfield 82, 3) := by decide +kernel
theorem dX8_fires_29 : decode cX8_fires 29 = .ok (.getfield 117, 3) := by decide +kernel
theorem dX8_fires_32 : decode cX8_fires 32 = .ok (.iconst 1, 1) := by decide +kernel
theorem dX8_fires_33 : decode cX8_fires 33 = .ok (.bipush 6, 2) := by decide +kernel
theorem dX8_fires_35 : decode cX8_fires 35 = .ok (.invokestatic 77, 3) := by decide +kernel
theorem dX8_fires_38 : decode cX8_fires 38 = .ok (.ifCond .ne 6, 3) := by decide +kernel
theorem dX8_fires_41 : decode cX8_fires 41 = .ok (.ldc 222, 2) := by decide +kernel
theorem dX8_fires_43 : decode cX8_fires 43 = .ok (.ireturn, 1) := by decide +kernel
theorem dX8_fires_44 : decode cX8_fires 44 = .ok (.aload_n 0, 1) := by decide +kernel
theorem dX8_fires_45 : decode cX8_fires 45 = .ok (.getfield 67, 3) := by decide +kernel
theorem dX8_fires_48 : decode cX8_fires 48 = .ok (.aload_n 0, 1) := by decide +kernel
theorem dX8_fires_49 : decode cX8_fires 49 = .ok (.getfield 60, 3) := by decide +kernel
theorem dX8_fires_52 : decode cX8_fires 52 = .ok (.invokevirtual 211, 3) := by decide +kernel
theorem dX8_fires_55 : decode cX8_fires 55 = .ok (.aload_n 0, 1) := by decide +kernel
theorem dX8_fires_56 : decode cX8_fires 56 = .ok (.getfield 10, 3) := by decide +kernel
theorem dX8_fires_59 : decode cX8_fires 59 = .ok (.aload_n 0, 1) := by decide +kernel
theorem dX8_fires_60 : decode cX8_fires 60 = .ok (.getfield 67, 3) := by decide +kernel
theorem dX8_fires_63 : decode cX8_fires 63 = .ok (.iload_n 1, 1) := by decide +kernel
theorem dX8_fires_64 : decode cX8_fires 64 = .ok (.invokevirtual 223, 3) := by decide +kernel
theorem dX8_fires_67 : decode cX8_fires 67 = .ok (.iload_n 2, 1) := by decide +kernel
theorem dX8_fires_68 : decode cX8_fires 68 = .ok (.lookupswitch 44 #[(0, 28), (1, 36)], 28) := by decide +kernel
theorem dX8_fires_96 : decode cX8_fires 96 = .ok (.aload_n 0, 1) := by decide +kernel
theorem dX8_fires_97 : decode cX8_fires 97 = .ok (.getfield 10, 3) := by decide +kernel
theorem dX8_fires_100 : decode cX8_fires 100 = .ok (.getfield 227, 3) := by decide +kernel
theorem dX8_fires_103 : decode cX8_fires 103 = .ok (.ireturn, 1) := by decide +kernel
theorem dX8_fires_104 : decode cX8_fires 104 = .ok (.aload_n 0, 1) := by decide +kernel
theorem dX8_fires_105 : decode cX8_fires 105 = .ok (.getfield 10, 3) := by decide +kernel
theorem dX8_fires_108 : decode cX8_fires 108 = .ok (.getfield 229, 3) := by decide +kernel
theorem dX8_fires_111 : decode cX8_fires 111 = .ok (.ireturn, 1) := by decide +kernel
theorem dX8_fires_112 : decode cX8_fires 112 = .ok (.aload_n 0, 1) := by decide +kernel
theorem dX8_fires_113 : decode cX8_fires 113 = .ok (.getfield 10, 3) := by decide +kernel
theorem dX8_fires_116 : decode cX8_fires 116 = .ok (.getfield 232, 3) := by decide +kernel
theorem dX8_fires_119 : decode cX8_fires 119 = .ok (.ireturn, 1) := by decide +kernel
theorem dX8_watch_0 : decode cX8_watch 0 = .ok (.iload_n 1, 1) := by decide +kernel
theorem dX8_watch_1 : decode cX8_watch 1 = .ok (.iconst 1, 1) := by decide +kernel
theorem dX8_watch_2 : decode cX8_watch 2 = .ok (.bipush 60, 2) := by decide +kernel
theorem dX8_watch_4 : decode cX8_watch 4 = .ok (.invokestatic 77, 3) := by decide +kernel
theorem dX8_watch_7 : decode cX8_watch 7 = .ok (.ifCond .eq 12, 3) := by decide +kernel
theorem dX8_watch_10 : decode cX8_watch 10 = .ok (.iload_n 2, 1) := by decide +kernel
theorem dX8_watch_11 : decode cX8_watch 11 = .ok (.iconst 0, 1) := by decide +kernel
theorem dX8_watch_12 : decode cX8_watch 12 = .ok (.iconst 1, 1) := by decide +kernel
theorem dX8_watch_13 : decode cX8_watch 13 = .ok (.invokestatic 77, 3) := by decide +kernel
theorem dX8_watch_16 : decode cX8_watch 16 = .ok (.ifCond .ne 6, 3) := by decide +kernel
theorem dX8_watch_19 : decode cX8_watch 19 = .ok (.ldc 81, 2) := by decide +kernel
theorem dX8_watch_21 : decode cX8_watch 21 = .ok (.ireturn, 1) := by decide +kernel
theorem dX8_watch_22 : decode cX8_watch 22 = .ok (.ldc 222, 2) := by decide +kernel
theorem dX8_watch_24 : decode cX8_watch 24 = .ok (.istore_n 3, 1) := by decide +kernel
theorem dX8_watch_25 : decode cX8_watch 25 = .ok (.ldc 222, 2) := by decide +kernel
theorem dX8_watch_27 : decode cX8_watch 27 = .ok (.istore 4, 2) := by decide +kernel
theorem dX8_watch_29 : decode cX8_watch 29 = .ok (.iconst 0, 1) := by decide +kernel
theorem dX8_watch_30 : decode cX8_watch 30 = .ok (.istore 5, 2) := by decide +kernel
theorem dX8_watch_32 : decode cX8_watch 32 = .ok (.iload 5, 2) := by decide +kernel
theorem dX8_watch_34 : decode cX8_watch 34 = .ok (.aload_n 0, 1) := by decide +kernel
theorem dX8_watch_35 : decode cX8_watch 35 = .ok (.getfield 60, 3) := by decide +kernel
theorem dX8_watch_38 : decode cX8_watch 38 = .ok (.getfield 180, 3) := by decide +kernel
theorem dX8_watch_41 : decode cX8_watch 41 = .ok (.if_icmp .ge 67, 3) := by decide +kernel
theorem dX8_watch_44 : decode cX8_watch 44 = .ok (.aload_n 0, 1) := by decide +kernel
theorem dX8_watch_45 : decode cX8_watch 45 = .ok (.getfield 67, 3) := by decide +kernel
theorem dX8_watch_48 : decode cX8_watch 48 = .ok (.aload_n 0, 1) := by decide +kernel
theorem dX8_watch_49 : decode cX8_watch 49 = .ok (.getfield 60, 3) := by decide +kernel
theorem dX8_watch_52 : decode cX8_watch 52 = .ok (.invokevirtual 211, 3) := by decide +kernel
theorem dX8_watch_55 : decode cX8_watch 55 = .ok (.aload_n 0, 1) := by decide +kernel
theorem dX8_watch_56 : decode cX8_watch 56 = .ok (.getfield 67, 3) := by decide +kernel
theorem dX8_watch_59 : decode cX8_watch 59 = .ok (.iload 5, 2) := by decide +kernel
theorem dX8_watch_61 : decode cX8_watch 61 = .ok (.invokevirtual 235, 3) := by decide +kernel
theorem dX8_watch_64 : decode cX8_watch 64 = .ok (.aload_n 0, 1) := by decide +kernel
theorem dX8_watch_65 : decode cX8_watch 65 = .ok (.getfield 67, 3) := by decide +kernel
theorem dX8_watch_68 : decode cX8_watch 68 = .ok (.iload_n 1, 1) := by decide +kernel
theorem dX8_watch_69 : decode cX8_watch 69 = .ok (.invokevirtual 198, 3) := by decide +kernel
theorem dX8_watch_72 : decode cX8_watch 72 = .ok (.iload_n 3, 1) := by decide +kernel
theorem dX8_watch_73 : decode cX8_watch 73 = .ok (.ldc 222, 2) := by decide +kernel
theorem dX8_watch_75 : decode cX8_watch 75 = .ok (.if_icmp .eq 15, 3) := by decide +kernel
theorem dX8_watch_78 : decode cX8_watch 78 = .ok (.aload_n 0, 1) := by decide +kernel
theorem dX8_watch_79 : decode cX8_watch 79 = .ok (.getfield 67, 3) := by decide +kernel
theorem dX8_watch_82 : decode cX8_watch 82 = .ok (.getfield 192, 3) := by decide +kernel
theorem dX8_watch_85 : decode cX8_watch 85 = .ok (.iload 4, 2) := by decide +kernel
theorem dX8_watch_87 : decode cX8_watch 87 = .ok (.if_icmp .ge 15, 3) := by decide +kernel
theorem dX8_watch_90 : decode cX8_watch 90 = .ok (.iload 5, 2) := by decide +kernel
theorem dX8_watch_92 : decode cX8_watch 92 = .ok (.istore_n 3, 1) := by decide +kernel
theorem dX8_watch_93 : decode cX8_watch 93 = .ok (.aload_n 0, 1) := by decide +kernel
theorem dX8_watch_94 : decode cX8_watch 94 = .ok (.getfield 67, 3) := by decide +kernel
theorem dX8_watch_97 : decode cX8_watch 97 = .ok (.getfield 192, 3) := by decide +kernel
theorem dX8_watch_100 : decode cX8_watch 100 = .ok (.istore 4, 2) := by decide +kernel
theorem dX8_watch_102 : decode cX8_watch 102 = .ok (.iinc 5 1, 3) := by decide +kernel
theorem dX8_watch_105 : decode cX8_watch 105 = .ok (.goto (-73), 3) := by decide +kernel
theorem dX8_watch_108 : decode cX8_watch 108 = .ok (.iload_n 2, 1) := by decide +kernel
theorem dX8_watch_109 : decode cX8_watch 109 = .ok (.ifCond .ne 7, 3) := by decide +kernel
theorem dX8_watch_112 : decode cX8_watch 112 = .ok (.iload_n 3, 1) := by decide +kernel
theorem dX8_watch_113 : decode cX8_watch 113 = .ok (.goto 5, 3) := by decide +kernel
theorem dX8_watch_116 : decode cX8_watch 116 = .ok (.iload 4, 2) := by decide +kernel
theorem dX8_watch_118 : decode cX8_watch 118 = .ok (.ireturn, 1) := by decide +kernel
theorem dX8_place_0 : decode cX8_place 0 = .ok (.aload_n 0, 1) := by decide +kernel
theorem dX8_place_1 : decode cX8_place 1 = .ok (.getfield 60, 3) := by decide +kernel
theorem dX8_place_4 : decode cX8_place 4 = .ok (.iload_n 1, 1) := by decide +kernel
theorem dX8_place_5 : decode cX8_place 5 = .ok (.invokevirtual 140, 3) := by decide +kernel
theorem dX8_place_8 : decode cX8_place 8 = .ok (.ifCond .eq 13, 3) := by decide +kernel
theorem dX8_place_11 : decode cX8_place 11 = .ok (.iload_n 2, 1) := by decide +kernel
theorem dX8_place_12 : decode cX8_place 12 = .ok (.iconst 1, 1) := by decide +kernel
theorem dX8_place_13 : decode cX8_place 13 = .ok (.bipush 60, 2) := by decide +kernel
theorem dX8_place_15 : decode cX8_place 15 = .ok (.invokestatic 77, 3) := by decide +kernel
theorem dX8_place_18 : decode cX8_place 18 = .ok (.ifCond .ne 6, 3) := by decide +kernel
theorem dX8_place_21 : decode cX8_place 21 = .ok (.ldc 81, 2) := by decide +kernel
theorem dX8_place_23 : decode cX8_place 23 = .ok (.ireturn, 1) := by decide +kernel
theorem dX8_place_24 : decode cX8_place 24 = .ok (.ldc 222, 2) := by decide +kernel
theorem dX8_place_26 : decode cX8_place 26 = .ok (.istore_n 3, 1) := by decide +kernel
theorem dX8_place_27 : decode cX8_place 27 = .ok (.iconst 0, 1) := by decide +kernel
theorem dX8_place_28 : decode cX8_place 28 = .ok (.istore 4, 2) := by decide +kernel
theorem dX8_place_30 : decode cX8_place 30 = .ok (.iconst 0, 1) := by decide +kernel
theorem dX8_place_31 : decode cX8_place 31 = .ok (.istore 5, 2) := by decide +kernel
theorem dX8_place_33 : decode cX8_place 33 = .ok (.iload 5, 2) := by decide +kernel
theorem dX8_place_35 : decode cX8_place 35 = .ok (.aload_n 0, 1) := by decide +kernel
theorem dX8_place_36 : decode cX8_place 36 = .ok (.getfield 60, 3) := by decide +kernel
theorem dX8_place_39 : decode cX8_place 39 = .ok (.getfield 82, 3) := by decide +kernel
theorem dX8_place_42 : decode cX8_place 42 = .ok (.getfield 117, 3) := by decide +kernel
theorem dX8_place_45 : decode cX8_place 45 = .ok (.if_icmp .ge 85, 3) := by decide +kernel
theorem dX8_place_48 : decode cX8_place 48 = .ok (.aload_n 0, 1) := by decide +kernel
theorem dX8_place_49 : decode cX8_place 49 = .ok (.getfield 67, 3) := by decide +kernel
theorem dX8_place_52 : decode cX8_place 52 = .ok (.aload_n 0, 1) := by decide +kernel
theorem dX8_place_53 : decode cX8_place 53 = .ok (.getfield 60, 3) := by decide +kernel
theorem dX8_place_56 : decode cX8_place 56 = .ok (.invokevirtual 211, 3) := by decide +kernel
theorem dX8_place_59 : decode cX8_place 59 = .ok (.aload_n 0, 1) := by decide +kernel
theorem dX8_place_60 : decode cX8_place 60 = .ok (.getfield 67, 3) := by decide +kernel
theorem dX8_place_63 : decode cX8_place 63 = .ok (.getfield 143, 3) := by decide +kernel
theorem dX8_place_66 : decode cX8_place 66 = .ok (.iload_n 1, 1) := by decide +kernel
theorem dX8_place_67 : decode cX8_place 67 = .ok (.aaload, 1) := by decide +kernel
theorem dX8_place_68 : decode cX8_place 68 = .ok (.iload 5, 2) := by decide +kernel
theorem dX8_place_70 : decode cX8_place 70 = .ok (.putfield 152, 3) := by decide +kernel
theorem dX8_place_73 : decode cX8_place 73 = .ok (.aload_n 0, 1) := by decide +kernel
theorem dX8_place_74 : decode cX8_place 74 = .ok (.getfield 67, 3) := by decide +kernel
theorem dX8_place_77 : decode cX8_place 77 = .ok (.getfield 143, 3) := by decide +kernel
theorem dX8_place_80 : decode cX8_place 80 = .ok (.iload_n 1, 1) := by decide +kernel
theorem dX8_place_81 : decode cX8_place 81 = .ok (.aaload, 1) := by decide +kernel
theorem dX8_place_82 : decode cX8_place 82 = .ok (.iconst 1, 1) := by decide +kernel
theorem dX8_place_83 : decode cX8_place 83 = .ok (.putfield 161, 3) := by decide +kernel
theorem dX8_place_86 : decode cX8_place 86 = .ok (.aload_n 0, 1) := by decide +kernel
theorem dX8_place_87 : decode cX8_place 87 = .ok (.getfield 67, 3) := by decide +kernel
theorem dX8_place_90 : decode cX8_place 90 = .ok (.iload_n 2, 1) := by decide +kernel
theorem dX8_place_91 : decode cX8_place 91 = .ok (.invokevirtual 198, 3) := by decide +kernel
theorem dX8_place_94 : decode cX8_place 94 = .ok (.iload_n 3, 1) := by decide +kernel
theorem dX8_place_95 : decode cX8_place 95 = .ok (.ldc 222, 2) := by decide +kernel
theorem dX8_place_97 : decode cX8_place 97 = .ok (.if_icmp .eq 15, 3) := by decide +kernel
theorem dX8_place_100 : decode cX8_place 100 = .ok (.aload_n 0, 1) := by decide +kernel
theorem dX8_place_101 : decode cX8_place 101 = .ok (.getfield 67, 3) := by decide +kernel
theorem dX8_place_104 : decode cX8_place 104 = .ok (.getfield 192, 3) := by decide +kernel
theorem dX8_place_107 : decode cX8_place 107 = .ok (.iload 4, 2) := by decide +kernel
theorem dX8_place_109 : decode cX8_place 109 = .ok (.if_icmp .ge 15, 3) := by decide +kernel
theorem dX8_place_112 : decode cX8_place 112 = .ok (.iload 5, 2) := by decide +kernel
theorem dX8_place_114 : decode cX8_place 114 = .ok (.istore_n 3, 1) := by decide +kernel
theorem dX8_place_115 : decode cX8_place 115 = .ok (.aload_n 0, 1) := by decide +kernel
theorem dX8_place_116 : decode cX8_place 116 = .ok (.getfield 67, 3) := by decide +kernel
theorem dX8_place_119 : decode cX8_place 119 = .ok (.getfield 192, 3) := by decide +kernel
theorem dX8_place_122 : decode cX8_place 122 = .ok (.istore 4, 2) := by decide +kernel
theorem dX8_place_124 : decode cX8_place 124 = .ok (.iinc 5 1, 3) := by decide +kernel
theorem dX8_place_127 : decode cX8_place 127 = .ok (.goto (-94), 3) := by decide +kernel
theorem dX8_place_130 : decode cX8_place 130 = .ok (.iload_n 3, 1) := by decide +kernel
theorem dX8_place_131 : decode cX8_place 131 = .ok (.ireturn, 1) := by decide +kernel
theorem dX8_signs_0 : decode cX8_signs 0 = .ok (.iload_n 1, 1) := by decide +kernel
theorem dX8_signs_1 : decode cX8_signs 1 = .ok (.invokestatic 238, 3) := by decide +kernel
theorem dX8_signs_4 : decode cX8_signs 4 = .ok (.ifCond .eq 22, 3) := by decide +kernel
theorem dX8_signs_7 : decode cX8_signs 7 = .ok (.iload_n 2, 1) := by decide +kernel
theorem dX8_signs_8 : decode cX8_signs 8 = .ok (.iconst 0, 1) := by decide +kernel
theorem dX8_signs_9 : decode cX8_signs 9 = .ok (.bipush 60, 2) := by decide +kernel
theorem dX8_signs_11 : decode cX8_signs 11 = .ok (.invokestatic 77, 3) := by decide +kernel
theorem dX8_signs_14 : decode cX8_signs 14 = .ok (.ifCond .eq 12, 3) := by decide +kernel
theorem dX8_signs_17 : decode cX8_signs 17 = .ok (.iload_n 3, 1) := by decide +kernel
theorem dX8_signs_18 : decode cX8_signs 18 = .ok (.iconst 0, 1) := by decide +kernel
theorem dX8_signs_19 : decode cX8_signs 19 = .ok (.iconst 1, 1) := by decide +kernel
theorem dX8_signs_20 : decode cX8_signs 20 = .ok (.invokestatic 77, 3) := by decide +kernel
theorem dX8_signs_23 : decode cX8_signs 23 = .ok (.ifCond .ne 6, 3) := by decide +kernel
theorem dX8_signs_26 : decode cX8_signs 26 = .ok (.ldc 81, 2) := by decide +kernel
theorem dX8_signs_28 : decode cX8_signs 28 = .ok (.ireturn, 1) := by decide +kernel
theorem dX8_signs_29 : decode cX8_signs 29 = .ok (.aload_n 0, 1) := by decide +kernel
theorem dX8_signs_30 : decode cX8_signs 30 = .ok (.getfield 25, 3) := by decide +kernel
theorem dX8_signs_33 : decode cX8_signs 33 = .ok (.iload_n 1, 1) := by decide +kernel
theorem dX8_signs_34 : decode cX8_signs 34 = .ok (.aaload, 1) := by decide +kernel
theorem dX8_signs_35 : decode cX8_signs 35 = .ok (.getfield 241, 3) := by decide +kernel
theorem dX8_signs_38 : decode cX8_signs 38 = .ok (.iconst (-1), 1) := by decide +kernel
theorem dX8_signs_39 : decode cX8_signs 39 = .ok (.if_icmp .ne 6, 3) := by decide +kernel
theorem dX8_signs_42 : decode cX8_signs 42 = .ok (.ldc 244, 2) := by decide +kernel
theorem dX8_signs_44 : decode cX8_signs 44 = .ok (.ireturn, 1) := by decide +kernel
theorem dX8_signs_45 : decode cX8_signs 45 = .ok (.ldc 222, 2) := by decide +kernel
theorem dX8_signs_47 : decode cX8_signs 47 = .ok (.istore 4, 2) := by decide +kernel
theorem dX8_signs_49 : decode cX8_signs 49 = .ok (.iconst 0, 1) := by decide +kernel
theorem dX8_signs_50 : decode cX8_signs 50 = .ok (.istore 5, 2) := by decide +kernel
theorem dX8_signs_52 : decode cX8_signs 52 = .ok (.iconst 0, 1) := by decide +kernel
theorem dX8_signs_53 : decode cX8_signs 53 = .ok (.istore 6, 2) := by decide +kernel
theorem dX8_signs_55 : decode cX8_signs 55 = .ok (.iload 6, 2) := by decide +kernel
theorem dX8_signs_57 : decode cX8_signs 57 = .ok (.bipush 40, 2) := by decide +kernel
theorem dX8_signs_59 : decode cX8_signs 59 = .ok (.if_icmp .gt 77, 3) := by decide +kernel
theorem dX8_signs_62 : decode cX8_signs 62 = .ok (.aload_n 0, 1) := by decide +kernel
theorem dX8_signs_63 : decode cX8_signs 63 = .ok (.getfield 67, 3) := by decide +kernel
theorem dX8_signs_66 : decode cX8_signs 66 = .ok (.aload_n 0, 1) := by decide +kernel
theorem dX8_signs_67 : decode cX8_signs 67 = .ok (.getfield 60, 3) := by decide +kernel
theorem dX8_signs_70 : decode cX8_signs 70 = .ok (.invokevirtual 211, 3) := by decide +kernel
theorem dX8_signs_73 : decode cX8_signs 73 = .ok (.aload_n 0, 1) := by decide +kernel
theorem dX8_signs_74 : decode cX8_signs 74 = .ok (.getfield 67, 3) := by decide +kernel
theorem dX8_signs_77 : decode cX8_signs 77 = .ok (.iload 6, 2) := by decide +kernel
theorem dX8_signs_79 : decode cX8_signs 79 = .ok (.putfield 127, 3) := by decide +kernel
theorem dX8_signs_82 : decode cX8_signs 82 = .ok (.aload_n 0, 1) := by decide +kernel
theorem dX8_signs_83 : decode cX8_signs 83 = .ok (.getfield 67, 3) := by decide +kernel
theorem dX8_signs_86 : decode cX8_signs 86 = .ok (.iload_n 2, 1) := by decide +kernel
theorem dX8_signs_87 : decode cX8_signs 87 = .ok (.invokevirtual 198, 3) := by decide +kernel
theorem dX8_signs_90 : decode cX8_signs 90 = .ok (.aload_n 0, 1) := by decide +kernel
theorem dX8_signs_91 : decode cX8_signs 91 = .ok (.getfield 25, 3) := by decide +kernel
theorem dX8_signs_94 : decode cX8_signs 94 = .ok (.iload_n 1, 1) := by decide +kernel
theorem dX8_signs_95 : decode cX8_signs 95 = .ok (.aaload, 1) := by decide +kernel
theorem dX8_signs_96 : decode cX8_signs 96 = .ok (.aload_n 0, 1) := by decide +kernel
theorem dX8_signs_97 : decode cX8_signs 97 = .ok (.getfield 67, 3) := by decide +kernel
theorem dX8_signs_100 : decode cX8_signs 100 = .ok (.getfield 82, 3) := by decide +kernel
theorem dX8_signs_103 : decode cX8_signs 103 = .ok (.invokevirtual 245, 3) := by decide +kernel
theorem dX8_signs_106 : decode cX8_signs 106 = .ok (.istore 7, 2) := by decide +kernel
theorem dX8_signs_108 : decode cX8_signs 108 = .ok (.iload 4, 2) := by decide +kernel
theorem dX8_signs_110 : decode cX8_signs 110 = .ok (.ldc 222, 2) := by decide +kernel
theorem dX8_signs_112 : decode cX8_signs 112 = .ok (.if_icmp .eq 10, 3) := by decide +kernel
theorem dX8_signs_115 : decode cX8_signs 115 = .ok (.iload 7, 2) := by decide +kernel
theorem dX8_signs_117 : decode cX8_signs 117 = .ok (.iload 5, 2) := by decide +kernel
theorem dX8_signs_119 : decode cX8_signs 119 = .ok (.if_icmp .ge 11, 3) := by decide +kernel
theorem dX8_signs_122 : decode cX8_signs 122 = .ok (.iload 6, 2) := by decide +kernel
theorem dX8_signs_124 : decode cX8_signs 124 = .ok (.istore 4, 2) := by decide +kernel
theorem dX8_signs_126 : decode cX8_signs 126 = .ok (.iload 7, 2) := by decide +kernel
theorem dX8_signs_128 : decode cX8_signs 128 = .ok (.istore 5, 2) := by decide +kernel
theorem dX8_signs_130 : decode cX8_signs 130 = .ok (.iinc 6 1, 3) := by decide +kernel
theorem dX8_signs_133 : decode cX8_signs 133 = .ok (.goto (-78), 3) := by decide +kernel
theorem dX8_signs_136 : decode cX8_signs 136 = .ok (.iload_n 3, 1) := by decide +kernel
theorem dX8_signs_137 : decode cX8_signs 137 = .ok (.ifCond .ne 8, 3) := by decide +kernel
theorem dX8_signs_140 : decode cX8_signs 140 = .ok (.iload 4, 2) := by decide +kernel
theorem dX8_signs_142 : decode cX8_signs 142 = .ok (.goto 5, 3) := by decide +kernel
theorem dX8_signs_145 : decode cX8_signs 145 = .ok (.iload 5, 2) := by decide +kernel
theorem dX8_signs_147 : decode cX8_signs 147 = .ok (.ireturn, 1) := by decide +kernel
theorem dX8_feed_0 : decode cX8_feed 0 = .ok (.aload_n 0, 1) := by decide +kernel
theorem dX8_feed_1 : decode cX8_feed 1 = .ok (.getfield 19, 3) := by decide +kernel
theorem dX8_feed_4 : decode cX8_feed 4 = .ok (.getfield 249, 3) := by decide +kernel
theorem dX8_feed_7 : decode cX8_feed 7 = .ok (.bipush 12, 2) := by decide +kernel
theorem dX8_feed_9 : decode cX8_feed 9 = .ok (.iadd, 1) := by decide +kernel
theorem dX8_feed_10 : decode cX8_feed 10 = .ok (.bipush 96, 2) := by decide +kernel
theorem dX8_feed_12 : decode cX8_feed 12 = .ok (.if_icmp .le 6, 3) := by decide +kernel
theorem dX8_feed_15 : decode cX8_feed 15 = .ok (.ldc 250, 2) := by decide +kernel
theorem dX8_feed_17 : decode cX8_feed 17 = .ok (.ireturn, 1) := by decide +kernel
theorem dX8_feed_18 : decode cX8_feed 18 = .ok (.aload_n 0, 1) := by decide +kernel
theorem dX8_feed_19 : decode cX8_feed 19 = .ok (.getfield 19, 3) := by decide +kernel
theorem dX8_feed_22 : decode cX8_feed 22 = .ok (.iload_n 1, 1) := by decide +kernel
theorem dX8_feed_23 : decode cX8_feed 23 = .ok (.invokevirtual 251, 3) := by decide +kernel
theorem dX8_feed_26 : decode cX8_feed 26 = .ok (.aload_n 0, 1) := by decide +kernel
theorem dX8_feed_27 : decode cX8_feed 27 = .ok (.getfield 19, 3) := by decide +kernel
theorem dX8_feed_30 : decode cX8_feed 30 = .ok (.iload_n 2, 1) := by decide +kernel
theorem dX8_feed_31 : decode cX8_feed 31 = .ok (.invokevirtual 251, 3) := by decide +kernel
theorem dX8_feed_34 : decode cX8_feed 34 = .ok (.aload_n 0, 1) := by decide +kernel
theorem dX8_feed_35 : decode cX8_feed 35 = .ok (.getfield 19, 3) := by decide +kernel
theorem dX8_feed_38 : decode cX8_feed 38 = .ok (.iload_n 3, 1) := by decide +kernel
theorem dX8_feed_39 : decode cX8_feed 39 = .ok (.invokevirtual 251, 3) := by decide +kernel
theorem dX8_feed_42 : decode cX8_feed 42 = .ok (.aload_n 0, 1) := by decide +kernel
theorem dX8_feed_43 : decode cX8_feed 43 = .ok (.getfield 19, 3) := by decide +kernel
theorem dX8_feed_46 : decode cX8_feed 46 = .ok (.getfield 249, 3) := by decide +kernel
theorem dX8_feed_49 : decode cX8_feed 49 = .ok (.ireturn, 1) := by decide +kernel
theorem dX8_trim_0 : decode cX8_trim 0 = .ok (.iload_n 1, 1) := by decide +kernel
theorem dX8_trim_1 : decode cX8_trim 1 = .ok (.iconst 0, 1) := by decide +kernel
theorem dX8_trim_2 : decode cX8_trim 2 = .ok (.aload_n 0, 1) := by decide +kernel
theorem dX8_trim_3 : decode cX8_trim 3 = .ok (.getfield 19, 3) := by decide +kernel
theorem dX8_trim_6 : decode cX8_trim 6 = .ok (.getfield 249, 3) := by decide +kernel
theorem dX8_trim_9 : decode cX8_trim 9 = .ok (.invokestatic 77, 3) := by decide +kernel
theorem dX8_trim_12 : decode cX8_trim 12 = .ok (.ifCond .ne 6, 3) := by decide +kernel
theorem dX8_trim_15 : decode cX8_trim 15 = .ok (.ldc 81, 2) := by decide +kernel
theorem dX8_trim_17 : decode cX8_trim 17 = .ok (.ireturn, 1) := by decide +kernel
theorem dX8_trim_18 : decode cX8_trim 18 = .ok (.aload_n 0, 1) := by decide +kernel
theorem dX8_trim_19 : decode cX8_trim 19 = .ok (.getfield 19, 3) := by decide +kernel
theorem dX8_trim_22 : decode cX8_trim 22 = .ok (.iload_n 1, 1) := by decide +kernel
theorem dX8_trim_23 : decode cX8_trim 23 = .ok (.putfield 249, 3) := by decide +kernel
theorem dX8_trim_26 : decode cX8_trim 26 = .ok (.iload_n 1, 1) := by decide +kernel
theorem dX8_trim_27 : decode cX8_trim 27 = .ok (.ireturn, 1) := by decide +kernel
theorem dX8_text_0 : decode cX8_text 0 = .ok (.aload_n 0, 1) := by decide +kernel
theorem dX8_text_1 : decode cX8_text 1 = .ok (.getfield 51, 3) := by decide +kernel
theorem dX8_text_4 : decode cX8_text 4 = .ok (.aload_n 0, 1) := by decide +kernel
theorem dX8_text_5 : decode cX8_text 5 = .ok (.getfield 60, 3) := by decide +kernel
theorem dX8_text_8 : decode cX8_text 8 = .ok (.getfield 254, 3) := by decide +kernel
theorem dX8_text_11 : decode cX8_text 11 = .ok (.bipush 14, 2) := by decide +kernel
theorem dX8_text_13 : decode cX8_text 13 = .ok (.invokestatic 120, 3) := by decide +kernel
theorem dX8_text_16 : decode cX8_text 16 = .ok (.aaload, 1) := by decide +kernel
theorem dX8_text_17 : decode cX8_text 17 = .ok (.astore_n 1, 1) := by decide +kernel
theorem dX8_text_18 : decode cX8_text 18 = .ok (.aload_n 0, 1) := by decide +kernel
theorem dX8_text_19 : decode cX8_text 19 = .ok (.getfield 19, 3) := by decide +kernel
theorem dX8_text_22 : decode cX8_text 22 = .ok (.aload_n 1, 1) := by decide +kernel
theorem dX8_text_23 : decode cX8_text 23 = .ok (.invokevirtual 257, 3) := by decide +kernel
theorem dX8_text_26 : decode cX8_text 26 = .ok (.istore_n 2, 1) := by decide +kernel
theorem dX8_text_27 : decode cX8_text 27 = .ok (.aload_n 0, 1) := by decide +kernel
theorem dX8_text_28 : decode cX8_text 28 = .ok (.getfield 19, 3) := by decide +kernel
theorem dX8_text_31 : decode cX8_text 31 = .ok (.iconst 0, 1) := by decide +kernel
theorem dX8_text_32 : decode cX8_text 32 = .ok (.putfield 249, 3) := by decide +kernel
theorem dX8_text_35 : decode cX8_text 35 = .ok (.iload_n 2, 1) := by decide +kernel
theorem dX8_text_36 : decode cX8_text 36 = .ok (.ifCond .lt 8, 3) := by decide +kernel
theorem dX8_text_39 : decode cX8_text 39 = .ok (.bipush (-100), 2) := by decide +kernel
theorem dX8_text_41 : decode cX8_text 41 = .ok (.iload_n 2, 1) := by decide +kernel
theorem dX8_text_42 : decode cX8_text 42 = .ok (.isub, 1) := by decide +kernel
theorem dX8_text_43 : decode cX8_text 43 = .ok (.ireturn, 1) := by decide +kernel
theorem dX8_text_44 : decode cX8_text 44 = .ok (.aload_n 0, 1) := by decide +kernel
theorem dX8_text_45 : decode cX8_text 45 = .ok (.getfield 60, 3) := by decide +kernel
theorem dX8_text_48 : decode cX8_text 48 = .ok (.getfield 254, 3) := by decide +kernel
theorem dX8_text_51 : decode cX8_text 51 = .ok (.bipush 14, 2) := by decide +kernel
theorem dX8_text_53 : decode cX8_text 53 = .ok (.if_icmp .lt 6, 3) := by decide +kernel
theorem dX8_text_56 : decode cX8_text 56 = .ok (.ldc 250, 2) := by decide +kernel
theorem dX8_text_58 : decode cX8_text 58 = .ok (.ireturn, 1) := by decide +kernel
theorem dX8_text_59 : decode cX8_text 59 = .ok (.aload_n 0, 1) := by decide +kernel
theorem dX8_text_60 : decode cX8_text 60 = .ok (.getfield 60, 3) := by decide +kernel
theorem dX8_text_63 : decode cX8_text 63 = .ok (.getfield 261, 3) := by decide +kernel
theorem dX8_text_66 : decode cX8_text 66 = .ok (.aload_n 1, 1) := by decide +kernel
theorem dX8_text_67 : decode cX8_text 67 = .ok (.getfield 264, 3) := by decide +kernel
theorem dX8_text_70 : decode cX8_text 70 = .ok (.aload_n 0, 1) := by decide +kernel
theorem dX8_text_71 : decode cX8_text 71 = .ok (.getfield 60, 3) := by decide +kernel
theorem dX8_text_74 : decode cX8_text 74 = .ok (.getfield 254, 3) := by decide +kernel
theorem dX8_text_77 : decode cX8_text 77 = .ok (.iastore, 1) := by decide +kernel
theorem dX8_text_78 : decode cX8_text 78 = .ok (.aload_n 0, 1) := by decide +kernel
theorem dX8_text_79 : decode cX8_text 79 = .ok (.getfield 60, 3) := by decide +kernel
theorem dX8_text_82 : decode cX8_text 82 = .ok (.dup, 1) := by decide +kernel
theorem dX8_text_83 : decode cX8_text 83 = .ok (.getfield 254, 3) := by decide +kernel
theorem dX8_text_86 : decode cX8_text 86 = .ok (.dup_x1, 1) := by decide +kernel
theorem dX8_text_87 : decode cX8_text 87 = .ok (.iconst 1, 1) := by decide +kernel
theorem dX8_text_88 : decode cX8_text 88 = .ok (.iadd, 1) := by decide +kernel
theorem dX8_text_89 : decode cX8_text 89 = .ok (.putfield 254, 3) := by decide +kernel
theorem dX8_text_92 : decode cX8_text 92 = .ok (.ireturn, 1) := by decide +kernel
theorem dX8_textTold_0 : decode cX8_textTold 0 = .ok (.iload_n 1, 1) := by decide +kernel
theorem dX8_textTold_1 : decode cX8_textTold 1 = .ok (.iconst 0, 1) := by decide +kernel
theorem dX8_textTold_2 : decode cX8_textTold 2 = .ok (.aload_n 0, 1) := by decide +kernel
theorem dX8_textTold_3 : decode cX8_textTold 3 = .ok (.getfield 60, 3) := by decide +kernel
theorem dX8_textTold_6 : decode cX8_textTold 6 = .ok (.getfield 254, 3) := by decide +kernel
theorem dX8_textTold_9 : decode cX8_textTold 9 = .ok (.iconst 1, 1) := by decide +kernel
theorem dX8_textTold_10 : decode cX8_textTold 10 = .ok (.isub, 1) := by decide +kernel
theorem dX8_textTold_11 : decode cX8_textTold 11 = .ok (.invokestatic 77, 3) := by decide +kernel
theorem dX8_textTold_14 : decode cX8_textTold 14 = .ok (.ifCond .eq 12, 3) := by decide +kernel
theorem dX8_textTold_17 : decode cX8_textTold 17 = .ok (.iload_n 2, 1) := by decide +kernel
theorem dX8_textTold_18 : decode cX8_textTold 18 = .ok (.iconst 0, 1) := by decide +kernel
theorem dX8_textTold_19 : decode cX8_textTold 19 = .ok (.iconst 1, 1) := by decide +kernel
theorem dX8_textTold_20 : decode cX8_textTold 20 = .ok (.invokestatic 77, 3) := by decide +kernel
theorem dX8_textTold_23 : decode cX8_textTold 23 = .ok (.ifCond .ne 6, 3) := by decide +kernel
theorem dX8_textTold_26 : decode cX8_textTold 26 = .ok (.ldc 81, 2) := by decide +kernel
theorem dX8_textTold_28 : decode cX8_textTold 28 = .ok (.ireturn, 1) := by decide +kernel
theorem dX8_textTold_29 : decode cX8_textTold 29 = .ok (.iload_n 2, 1) := by decide +kernel
theorem dX8_textTold_30 : decode cX8_textTold 30 = .ok (.ifCond .ne 15, 3) := by decide +kernel
theorem dX8_textTold_33 : decode cX8_textTold 33 = .ok (.aload_n 0, 1) := by decide +kernel
theorem dX8_textTold_34 : decode cX8_textTold 34 = .ok (.getfield 51, 3) := by decide +kernel
theorem dX8_textTold_37 : decode cX8_textTold 37 = .ok (.iload_n 1, 1) := by decide +kernel
theorem dX8_textTold_38 : decode cX8_textTold 38 = .ok (.aaload, 1) := by decide +kernel
theorem dX8_textTold_39 : decode cX8_textTold 39 = .ok (.getfield 264, 3) := by decide +kernel
theorem dX8_textTold_42 : decode cX8_textTold 42 = .ok (.goto 12, 3) := by decide +kernel
theorem dX8_textTold_45 : decode cX8_textTold 45 = .ok (.aload_n 0, 1) := by decide +kernel
theorem dX8_textTold_46 : decode cX8_textTold 46 = .ok (.getfield 51, 3) := by decide +kernel
theorem dX8_textTold_49 : decode cX8_textTold 49 = .ok (.iload_n 1, 1) := by decide +kernel
theorem dX8_textTold_50 : decode cX8_textTold 50 = .ok (.aaload, 1) := by decide +kernel
theorem dX8_textTold_51 : decode cX8_textTold 51 = .ok (.getfield 267, 3) := by decide +kernel
theorem dX8_textTold_54 : decode cX8_textTold 54 = .ok (.ireturn, 1) := by decide +kernel
theorem dX8_why_0 : decode cX8_why 0 = .ok (.iload_n 1, 1) := by decide +kernel
theorem dX8_why_1 : decode cX8_why 1 = .ok (.iconst 0, 1) := by decide +kernel
theorem dX8_why_2 : decode cX8_why 2 = .ok (.iconst 2, 1) := by decide +kernel
theorem dX8_why_3 : decode cX8_why 3 = .ok (.invokestatic 77, 3) := by decide +kernel
theorem dX8_why_6 : decode cX8_why 6 = .ok (.ifCond .eq 15, 3) := by decide +kernel
theorem dX8_why_9 : decode cX8_why 9 = .ok (.aload_n 0, 1) := by decide +kernel
theorem dX8_why_10 : decode cX8_why 10 = .ok (.getfield 60, 3) := by decide +kernel
theorem dX8_why_13 : decode cX8_why 13 = .ok (.getfield 261, 3) := by decide +kernel
theorem dX8_why_16 : decode cX8_why 16 = .ok (.iload_n 1, 1) := by decide +kernel
theorem dX8_why_17 : decode cX8_why 17 = .ok (.iaload, 1) := by decide +kernel
theorem dX8_why_18 : decode cX8_why 18 = .ok (.goto 5, 3) := by decide +kernel
theorem dX8_why_21 : decode cX8_why 21 = .ok (.ldc 81, 2) := by decide +kernel
theorem dX8_why_23 : decode cX8_why 23 = .ok (.ireturn, 1) := by decide +kernel
theorem dX8_sheet_0 : decode cX8_sheet 0 = .ok (.iload_n 1, 1) := by decide +kernel
theorem dX8_sheet_1 : decode cX8_sheet 1 = .ok (.invokestatic 238, 3) := by decide +kernel
theorem dX8_sheet_4 : decode cX8_sheet 4 = .ok (.ifCond .eq 12, 3) := by decide +kernel
theorem dX8_sheet_7 : decode cX8_sheet 7 = .ok (.iload_n 2, 1) := by decide +kernel
theorem dX8_sheet_8 : decode cX8_sheet 8 = .ok (.iconst (-1), 1) := by decide +kernel
theorem dX8_sheet_9 : decode cX8_sheet 9 = .ok (.iconst 1, 1) := by decide +kernel
theorem dX8_sheet_10 : decode cX8_sheet 10 = .ok (.invokestatic 77, 3) := by decide +kernel
theorem dX8_sheet_13 : decode cX8_sheet 13 = .ok (.ifCond .ne 6, 3) := by decide +kernel
theorem dX8_sheet_16 : decode cX8_sheet 16 = .ok (.ldc 81, 2) := by decide +kernel
theorem dX8_sheet_18 : decode cX8_sheet 18 = .ok (.ireturn, 1) := by decide +kernel
theorem dX8_sheet_19 : decode cX8_sheet 19 = .ok (.iload_n 2, 1) := by decide +kernel
theorem dX8_sheet_20 : decode cX8_sheet 20 = .ok (.iconst (-1), 1) := by decide +kernel
theorem dX8_sheet_21 : decode cX8_sheet 21 = .ok (.if_icmp .ne 16, 3) := by decide +kernel
theorem dX8_sheet_24 : decode cX8_sheet 24 = .ok (.aload_n 0, 1) := by decide +kernel
theorem dX8_sheet_25 : decode cX8_sheet 25 = .ok (.getfield 25, 3) := by decide +kernel
theorem dX8_sheet_28 : decode cX8_sheet 28 = .ok (.iload_n 1, 1) := by decide +kernel
theorem dX8_sheet_29 : decode cX8_sheet 29 = .ok (.aaload, 1) := by decide +kernel
theorem dX8_sheet_30 : decode cX8_sheet 30 = .ok (.iconst (-1), 1) := by decide +kernel
theorem dX8_sheet_31 : decode cX8_sheet 31 = .ok (.iconst 0, 1) := by decide +kernel
theorem dX8_sheet_32 : decode cX8_sheet 32 = .ok (.invokevirtual 270, 3) := by decide +kernel
theorem dX8_sheet_35 : decode cX8_sheet 35 = .ok (.iconst 0, 1) := by decide +kernel
theorem dX8_sheet_36 : decode cX8_sheet 36 = .ok (.ireturn, 1) := by decide +kernel
theorem dX8_sheet_37 : decode cX8_sheet 37 = .ok (.iload_n 3, 1) := by decide +kernel
theorem dX8_sheet_38 : decode cX8_sheet 38 = .ok (.bipush 24, 2) := by decide +kernel
theorem dX8_sheet_40 : decode cX8_sheet 40 = .ok (.if_icmp .le 6, 3) := by decide +kernel
theorem dX8_sheet_43 : decode cX8_sheet 43 = .ok (.ldc 81, 2) := by decide +kernel
theorem dX8_sheet_45 : decode cX8_sheet 45 = .ok (.ireturn, 1) := by decide +kernel
theorem dX8_sheet_46 : decode cX8_sheet 46 = .ok (.iload_n 3, 1) := by decide +kernel
theorem dX8_sheet_47 : decode cX8_sheet 47 = .ok (.ifCond .ge 7, 3) := by decide +kernel
theorem dX8_sheet_50 : decode cX8_sheet 50 = .ok (.ldc_w 274, 3) := by decide +kernel
theorem dX8_sheet_53 : decode cX8_sheet 53 = .ok (.ireturn, 1) := by decide +kernel
theorem dX8_sheet_54 : decode cX8_sheet 54 = .ok (.aload_n 0, 1) := by decide +kernel
theorem dX8_sheet_55 : decode cX8_sheet 55 = .ok (.getfield 25, 3) := by decide +kernel
theorem dX8_sheet_58 : decode cX8_sheet 58 = .ok (.iload_n 1, 1) := by decide +kernel
theorem dX8_sheet_59 : decode cX8_sheet 59 = .ok (.aaload, 1) := by decide +kernel
theorem dX8_sheet_60 : decode cX8_sheet 60 = .ok (.iload_n 2, 1) := by decide +kernel
theorem dX8_sheet_61 : decode cX8_sheet 61 = .ok (.iload_n 3, 1) := by decide +kernel
theorem dX8_sheet_62 : decode cX8_sheet 62 = .ok (.invokevirtual 270, 3) := by decide +kernel
theorem dX8_sheet_65 : decode cX8_sheet 65 = .ok (.iload_n 3, 1) := by decide +kernel
theorem dX8_sheet_66 : decode cX8_sheet 66 = .ok (.ireturn, 1) := by decide +kernel
theorem dX8_mark_0 : decode cX8_mark 0 = .ok (.iload_n 1, 1) := by decide +kernel
theorem dX8_mark_1 : decode cX8_mark 1 = .ok (.invokestatic 238, 3) := by decide +kernel
theorem dX8_mark_4 : decode cX8_mark 4 = .ok (.ifCond .ne 6, 3) := by decide +kernel
theorem dX8_mark_7 : decode cX8_mark 7 = .ok (.ldc 81, 2) := by decide +kernel
theorem dX8_mark_9 : decode cX8_mark 9 = .ok (.ireturn, 1) := by decide +kernel
theorem dX8_mark_10 : decode cX8_mark 10 = .ok (.aload_n 0, 1) := by decide +kernel
theorem dX8_mark_11 : decode cX8_mark 11 = .ok (.getfield 25, 3) := by decide +kernel
theorem dX8_mark_14 : decode cX8_mark 14 = .ok (.iload_n 1, 1) := by decide +kernel
theorem dX8_mark_15 : decode cX8_mark 15 = .ok (.aaload, 1) := by decide +kernel
theorem dX8_mark_16 : decode cX8_mark 16 = .ok (.astore 4, 2) := by decide +kernel
theorem dX8_mark_18 : decode cX8_mark 18 = .ok (.aload 4, 2) := by decide +kernel
theorem dX8_mark_20 : decode cX8_mark 20 = .ok (.getfield 241, 3) := by decide +kernel
theorem dX8_mark_23 : decode cX8_mark 23 = .ok (.iconst (-1), 1) := by decide +kernel
theorem dX8_mark_24 : decode cX8_mark 24 = .ok (.if_icmp .ne 6, 3) := by decide +kernel
theorem dX8_mark_27 : decode cX8_mark 27 = .ok (.ldc 244, 2) := by decide +kernel
theorem dX8_mark_29 : decode cX8_mark 29 = .ok (.ireturn, 1) := by decide +kernel
theorem dX8_mark_30 : decode cX8_mark 30 = .ok (.aload 4, 2) := by decide +kernel
theorem dX8_mark_32 : decode cX8_mark 32 = .ok (.iload_n 2, 1) := by decide +kernel
theorem dX8_mark_33 : decode cX8_mark 33 = .ok (.invokevirtual 275, 3) := by decide +kernel
theorem dX8_mark_36 : decode cX8_mark 36 = .ok (.ifCond .ne 7, 3) := by decide +kernel
theorem dX8_mark_39 : decode cX8_mark 39 = .ok (.ldc_w 276, 3) := by decide +kernel
theorem dX8_mark_42 : decode cX8_mark 42 = .ok (.ireturn, 1) := by decide +kernel
theorem dX8_mark_43 : decode cX8_mark 43 = .ok (.aload 4, 2) := by decide +kernel
theorem dX8_mark_45 : decode cX8_mark 45 = .ok (.getfield 241, 3) := by decide +kernel
theorem dX8_mark_48 : decode cX8_mark 48 = .ok (.ifCond .ne 23, 3) := by decide +kernel
theorem dX8_mark_51 : decode cX8_mark 51 = .ok (.iload_n 3, 1) := by decide +kernel
theorem dX8_mark_52 : decode cX8_mark 52 = .ok (.ldc 222, 2) := by decide +kernel
theorem dX8_mark_54 : decode cX8_mark 54 = .ok (.if_icmp .ne 6, 3) := by decide +kernel
theorem dX8_mark_57 : decode cX8_mark 57 = .ok (.ldc 175, 2) := by decide +kernel
theorem dX8_mark_59 : decode cX8_mark 59 = .ok (.ireturn, 1) := by decide +kernel
theorem dX8_mark_60 : decode cX8_mark 60 = .ok (.aload 4, 2) := by decide +kernel
theorem dX8_mark_62 : decode cX8_mark 62 = .ok (.getfield 277, 3) := by decide +kernel
theorem dX8_mark_65 : decode cX8_mark 65 = .ok (.iload_n 2, 1) := by decide +kernel
theorem dX8_mark_66 : decode cX8_mark 66 = .ok (.iload_n 3, 1) := by decide +kernel
theorem dX8_mark_67 : decode cX8_mark 67 = .ok (.i2s, 1) := by decide +kernel
theorem dX8_mark_68 : decode cX8_mark 68 = .ok (.iastore, 1) := by decide +kernel
theorem dX8_mark_69 : decode cX8_mark 69 = .ok (.iconst 1, 1) := by decide +kernel
theorem dX8_mark_70 : decode cX8_mark 70 = .ok (.ireturn, 1) := by decide +kernel
theorem dX8_mark_71 : decode cX8_mark 71 = .ok (.iload_n 3, 1) := by decide +kernel
theorem dX8_mark_72 : decode cX8_mark 72 = .ok (.ldc 222, 2) := by decide +kernel
theorem dX8_mark_74 : decode cX8_mark 74 = .ok (.if_icmp .eq 19, 3) := by decide +kernel
theorem dX8_mark_77 : decode cX8_mark 77 = .ok (.iload_n 3, 1) := by decide +kernel
theorem dX8_mark_78 : decode cX8_mark 78 = .ok (.ldc_w 280, 3) := by decide +kernel
theorem dX8_mark_81 : decode cX8_mark 81 = .ok (.ldc_w 281, 3) := by decide +kernel
theorem dX8_mark_84 : decode cX8_mark 84 = .ok (.invokestatic 77, 3) := by decide +kernel
theorem dX8_mark_87 : decode cX8_mark 87 = .ok (.ifCond .ne 6, 3) := by decide +kernel
theorem dX8_mark_90 : decode cX8_mark 90 = .ok (.ldc 81, 2) := by decide +kernel
theorem dX8_mark_92 : decode cX8_mark 92 = .ok (.ireturn, 1) := by decide +kernel
theorem dX8_mark_93 : decode cX8_mark 93 = .ok (.aload 4, 2) := by decide +kernel
theorem dX8_mark_95 : decode cX8_mark 95 = .ok (.getfield 277, 3) := by decide +kernel
theorem dX8_mark_98 : decode cX8_mark 98 = .ok (.iload_n 2, 1) := by decide +kernel
theorem dX8_mark_99 : decode cX8_mark 99 = .ok (.iload_n 3, 1) := by decide +kernel
theorem dX8_mark_100 : decode cX8_mark 100 = .ok (.iastore, 1) := by decide +kernel
theorem dX8_mark_101 : decode cX8_mark 101 = .ok (.iconst 1, 1) := by decide +kernel
theorem dX8_mark_102 : decode cX8_mark 102 = .ok (.ireturn, 1) := by decide +kernel
theorem dX8_pour_0 : decode cX8_pour 0 = .ok (.iload_n 1, 1) := by decide +kernel
theorem dX8_pour_1 : decode cX8_pour 1 = .ok (.invokestatic 238, 3) := by decide +kernel
theorem dX8_pour_4 : decode cX8_pour 4 = .ok (.ifCond .ne 6, 3) := by decide +kernel
theorem dX8_pour_7 : decode cX8_pour 7 = .ok (.ldc 81, 2) := by decide +kernel
theorem dX8_pour_9 : decode cX8_pour 9 = .ok (.ireturn, 1) := by decide +kernel
theorem dX8_pour_10 : decode cX8_pour 10 = .ok (.aload_n 0, 1) := by decide +kernel
theorem dX8_pour_11 : decode cX8_pour 11 = .ok (.getfield 25, 3) := by decide +kernel
theorem dX8_pour_14 : decode cX8_pour 14 = .ok (.iload_n 1, 1) := by decide +kernel
theorem dX8_pour_15 : decode cX8_pour 15 = .ok (.aaload, 1) := by decide +kernel
theorem dX8_pour_16 : decode cX8_pour 16 = .ok (.astore_n 2, 1) := by decide +kernel
theorem dX8_pour_17 : decode cX8_pour 17 = .ok (.aload_n 2, 1) := by decide +kernel
theorem dX8_pour_18 : decode cX8_pour 18 = .ok (.getfield 241, 3) := by decide +kernel
theorem dX8_pour_21 : decode cX8_pour 21 = .ok (.iconst (-1), 1) := by decide +kernel
theorem dX8_pour_22 : decode cX8_pour 22 = .ok (.if_icmp .ne 6, 3) := by decide +kernel
theorem dX8_pour_25 : decode cX8_pour 25 = .ok (.ldc 244, 2) := by decide +kernel
theorem dX8_pour_27 : decode cX8_pour 27 = .ok (.ireturn, 1) := by decide +kernel
theorem dX8_pour_28 : decode cX8_pour 28 = .ok (.iconst 0, 1) := by decide +kernel
theorem dX8_pour_29 : decode cX8_pour 29 = .ok (.istore_n 3, 1) := by decide +kernel
theorem dX8_pour_30 : decode cX8_pour 30 = .ok (.iconst 0, 1) := by decide +kernel
theorem dX8_pour_31 : decode cX8_pour 31 = .ok (.istore 4, 2) := by decide +kernel
theorem dX8_pour_33 : decode cX8_pour 33 = .ok (.iload 4, 2) := by decide +kernel
theorem dX8_pour_35 : decode cX8_pour 35 = .ok (.aload_n 0, 1) := by decide +kernel
theorem dX8_pour_36 : decode cX8_pour 36 = .ok (.getfield 60, 3) := by decide +kernel
theorem dX8_pour_39 : decode cX8_pour 39 = .ok (.getfield 82, 3) := by decide +kernel
theorem dX8_pour_42 : decode cX8_pour 42 = .ok (.getfield 117, 3) := by decide +kernel
theorem dX8_pour_45 : decode cX8_pour 45 = .ok (.if_icmp .ge 81, 3) := by decide +kernel
theorem dX8_pour_48 : decode cX8_pour 48 = .ok (.iload 4, 2) := by decide +kernel
theorem dX8_pour_50 : decode cX8_pour 50 = .ok (.aload_n 2, 1) := by decide +kernel
theorem dX8_pour_51 : decode cX8_pour 51 = .ok (.getfield 282, 3) := by decide +kernel
theorem dX8_pour_54 : decode cX8_pour 54 = .ok (.if_icmp .ge 72, 3) := by decide +kernel
theorem dX8_pour_57 : decode cX8_pour 57 = .ok (.aload_n 2, 1) := by decide +kernel
theorem dX8_pour_58 : decode cX8_pour 58 = .ok (.getfield 277, 3) := by decide +kernel
theorem dX8_pour_61 : decode cX8_pour 61 = .ok (.iload 4, 2) := by decide +kernel
theorem dX8_pour_63 : decode cX8_pour 63 = .ok (.iaload, 1) := by decide +kernel
theorem dX8_pour_64 : decode cX8_pour 64 = .ok (.iconst 0, 1) := by decide +kernel
theorem dX8_pour_65 : decode cX8_pour 65 = .ok (.bipush 99, 2) := by decide +kernel
theorem dX8_pour_67 : decode cX8_pour 67 = .ok (.invokestatic 283, 3) := by decide +kernel
theorem dX8_pour_70 : decode cX8_pour 70 = .ok (.istore 5, 2) := by decide +kernel
theorem dX8_pour_72 : decode cX8_pour 72 = .ok (.aload_n 2, 1) := by decide +kernel
theorem dX8_pour_73 : decode cX8_pour 73 = .ok (.getfield 277, 3) := by decide +kernel
theorem dX8_pour_76 : decode cX8_pour 76 = .ok (.iload 4, 2) := by decide +kernel
theorem dX8_pour_78 : decode cX8_pour 78 = .ok (.iaload, 1) := by decide +kernel
theorem dX8_pour_79 : decode cX8_pour 79 = .ok (.ldc 222, 2) := by decide +kernel
theorem dX8_pour_81 : decode cX8_pour 81 = .ok (.if_icmp .eq 39, 3) := by decide +kernel
theorem dX8_pour_84 : decode cX8_pour 84 = .ok (.iload 5, 2) := by decide +kernel
theorem dX8_pour_86 : decode cX8_pour 86 = .ok (.aload_n 0, 1) := by decide +kernel
theorem dX8_pour_87 : decode cX8_pour 87 = .ok (.getfield 60, 3) := by decide +kernel
theorem dX8_pour_90 : decode cX8_pour 90 = .ok (.getfield 82, 3) := by decide +kernel
theorem dX8_pour_93 : decode cX8_pour 93 = .ok (.getfield 286, 3) := by decide +kernel
theorem dX8_pour_96 : decode cX8_pour 96 = .ok (.iload 4, 2) := by decide +kernel
theorem dX8_pour_98 : decode cX8_pour 98 = .ok (.iaload, 1) := by decide +kernel
theorem dX8_pour_99 : decode cX8_pour 99 = .ok (.if_icmp .eq 21, 3) := by decide +kernel
theorem dX8_pour_102 : decode cX8_pour 102 = .ok (.aload_n 0, 1) := by decide +kernel
theorem dX8_pour_103 : decode cX8_pour 103 = .ok (.getfield 60, 3) := by decide +kernel
theorem dX8_pour_106 : decode cX8_pour 106 = .ok (.getfield 82, 3) := by decide +kernel
theorem dX8_pour_109 : decode cX8_pour 109 = .ok (.getfield 286, 3) := by decide +kernel
theorem dX8_pour_112 : decode cX8_pour 112 = .ok (.iload 4, 2) := by decide +kernel
theorem dX8_pour_114 : decode cX8_pour 114 = .ok (.iload 5, 2) := by decide +kernel
theorem dX8_pour_116 : decode cX8_pour 116 = .ok (.iastore, 1) := by decide +kernel
theorem dX8_pour_117 : decode cX8_pour 117 = .ok (.iinc 3 1, 3) := by decide +kernel
theorem dX8_pour_120 : decode cX8_pour 120 = .ok (.iinc 4 1, 3) := by decide +kernel
theorem dX8_pour_123 : decode cX8_pour 123 = .ok (.goto (-90), 3) := by decide +kernel
theorem dX8_pour_126 : decode cX8_pour 126 = .ok (.iload_n 3, 1) := by decide +kernel
theorem dX8_pour_127 : decode cX8_pour 127 = .ok (.ireturn, 1) := by decide +kernel
theorem dX8_reads_0 : decode cX8_reads 0 = .ok (.iload_n 1, 1) := by decide +kernel
theorem dX8_reads_1 : decode cX8_reads 1 = .ok (.invokestatic 238, 3) := by decide +kernel
theorem dX8_reads_4 : decode cX8_reads 4 = .ok (.ifCond .ne 6, 3) := by decide +kernel
theorem dX8_reads_7 : decode cX8_reads 7 = .ok (.ldc 81, 2) := by decide +kernel
theorem dX8_reads_9 : decode cX8_reads 9 = .ok (.ireturn, 1) := by decide +kernel
theorem dX8_reads_10 : decode cX8_reads 10 = .ok (.aload_n 0, 1) := by decide +kernel
theorem dX8_reads_11 : decode cX8_reads 11 = .ok (.getfield 25, 3) := by decide +kernel
theorem dX8_reads_14 : decode cX8_reads 14 = .ok (.iload_n 1, 1) := by decide +kernel
theorem dX8_reads_15 : decode cX8_reads 15 = .ok (.aaload, 1) := by decide +kernel
theorem dX8_reads_16 : decode cX8_reads 16 = .ok (.astore_n 2, 1) := by decide +kernel
theorem dX8_reads_17 : decode cX8_reads 17 = .ok (.aload_n 2, 1) := by decide +kernel
theorem dX8_reads_18 : decode cX8_reads 18 = .ok (.getfield 241, 3) := by decide +kernel
theorem dX8_reads_21 : decode cX8_reads 21 = .ok (.iconst (-1), 1) := by decide +kernel
theorem dX8_reads_22 : decode cX8_reads 22 = .ok (.if_icmp .ne 6, 3) := by decide +kernel
theorem dX8_reads_25 : decode cX8_reads 25 = .ok (.ldc 244, 2) := by decide +kernel
theorem dX8_reads_27 : decode cX8_reads 27 = .ok (.ireturn, 1) := by decide +kernel
theorem dX8_reads_28 : decode cX8_reads 28 = .ok (.aload_n 0, 1) := by decide +kernel
theorem dX8_reads_29 : decode cX8_reads 29 = .ok (.getfield 60, 3) := by decide +kernel
theorem dX8_reads_32 : decode cX8_reads 32 = .ok (.invokevirtual 100, 3) := by decide +kernel
theorem dX8_reads_35 : decode cX8_reads 35 = .ok (.iconst 0, 1) := by decide +kernel
theorem dX8_reads_36 : decode cX8_reads 36 = .ok (.istore_n 3, 1) := by decide +kernel
theorem dX8_reads_37 : decode cX8_reads 37 = .ok (.iload_n 3, 1) := by decide +kernel
theorem dX8_reads_38 : decode cX8_reads 38 = .ok (.aload_n 2, 1) := by decide +kernel
theorem dX8_reads_39 : decode cX8_reads 39 = .ok (.getfield 282, 3) := by decide +kernel
theorem dX8_reads_42 : decode cX8_reads 42 = .ok (.if_icmp .ge 66, 3) := by decide +kernel
theorem dX8_reads_45 : decode cX8_reads 45 = .ok (.aload_n 0, 1) := by decide +kernel
theorem dX8_reads_46 : decode cX8_reads 46 = .ok (.getfield 60, 3) := by decide +kernel
theorem dX8_reads_49 : decode cX8_reads 49 = .ok (.getfield 82, 3) := by decide +kernel
theorem dX8_reads_52 : decode cX8_reads 52 = .ok (.iload_n 3, 1) := by decide +kernel
theorem dX8_reads_53 : decode cX8_reads 53 = .ok (.invokevirtual 92, 3) := by decide +kernel
theorem dX8_reads_56 : decode cX8_reads 56 = .ok (.ifCond .eq 25, 3) := by decide +kernel
theorem dX8_reads_59 : decode cX8_reads 59 = .ok (.aload_n 2, 1) := by decide +kernel
theorem dX8_reads_60 : decode cX8_reads 60 = .ok (.getfield 277, 3) := by decide +kernel
theorem dX8_reads_63 : decode cX8_reads 63 = .ok (.iload_n 3, 1) := by decide +kernel
theorem dX8_reads_64 : decode cX8_reads 64 = .ok (.iaload, 1) := by decide +kernel
theorem dX8_reads_65 : decode cX8_reads 65 = .ok (.aload_n 0, 1) := by decide +kernel
theorem dX8_reads_66 : decode cX8_reads 66 = .ok (.getfield 60, 3) := by decide +kernel
theorem dX8_reads_69 : decode cX8_reads 69 = .ok (.getfield 103, 3) := by decide +kernel
theorem dX8_reads_72 : decode cX8_reads 72 = .ok (.iload_n 3, 1) := by decide +kernel
theorem dX8_reads_73 : decode cX8_reads 73 = .ok (.iaload, 1) := by decide +kernel
theorem dX8_reads_74 : decode cX8_reads 74 = .ok (.if_icmp .ne 7, 3) := by decide +kernel
theorem dX8_reads_77 : decode cX8_reads 77 = .ok (.iconst 1, 1) := by decide +kernel
theorem dX8_reads_78 : decode cX8_reads 78 = .ok (.goto 4, 3) := by decide +kernel
theorem dX8_reads_81 : decode cX8_reads 81 = .ok (.iconst 0, 1) := by decide +kernel
theorem dX8_reads_82 : decode cX8_reads 82 = .ok (.istore 4, 2) := by decide +kernel
theorem dX8_reads_84 : decode cX8_reads 84 = .ok (.aload_n 2, 1) := by decide +kernel
theorem dX8_reads_85 : decode cX8_reads 85 = .ok (.getfield 277, 3) := by decide +kernel
theorem dX8_reads_88 : decode cX8_reads 88 = .ok (.iload_n 3, 1) := by decide +kernel
theorem dX8_reads_89 : decode cX8_reads 89 = .ok (.iaload, 1) := by decide +kernel
theorem dX8_reads_90 : decode cX8_reads 90 = .ok (.ldc 222, 2) := by decide +kernel
theorem dX8_reads_92 : decode cX8_reads 92 = .ok (.if_icmp .eq 10, 3) := by decide +kernel
theorem dX8_reads_95 : decode cX8_reads 95 = .ok (.iload 4, 2) := by decide +kernel
theorem dX8_reads_97 : decode cX8_reads 97 = .ok (.ifCond .ne 5, 3) := by decide +kernel
theorem dX8_reads_100 : decode cX8_reads 100 = .ok (.iload_n 3, 1) := by decide +kernel
theorem dX8_reads_101 : decode cX8_reads 101 = .ok (.ireturn, 1) := by decide +kernel
theorem dX8_reads_102 : decode cX8_reads 102 = .ok (.iinc 3 1, 3) := by decide +kernel
theorem dX8_reads_105 : decode cX8_reads 105 = .ok (.goto (-68), 3) := by decide +kernel
theorem dX8_reads_108 : decode cX8_reads 108 = .ok (.ldc 222, 2) := by decide +kernel
theorem dX8_reads_110 : decode cX8_reads 110 = .ok (.ireturn, 1) := by decide +kernel
theorem dX8_copy_0 : decode cX8_copy 0 = .ok (.iload_n 1, 1) := by decide +kernel
theorem dX8_copy_1 : decode cX8_copy 1 = .ok (.invokestatic 238, 3) := by decide +kernel
theorem dX8_copy_4 : decode cX8_copy 4 = .ok (.ifCond .eq 10, 3) := by decide +kernel
theorem dX8_copy_7 : decode cX8_copy 7 = .ok (.iload_n 3, 1) := by decide +kernel
theorem dX8_copy_8 : decode cX8_copy 8 = .ok (.invokestatic 238, 3) := by decide +kernel
theorem dX8_copy_11 : decode cX8_copy 11 = .ok (.ifCond .ne 6, 3) := by decide +kernel
theorem dX8_copy_14 : decode cX8_copy 14 = .ok (.ldc 81, 2) := by decide +kernel
theorem dX8_copy_16 : decode cX8_copy 16 = .ok (.ireturn, 1) := by decide +kernel
theorem dX8_copy_17 : decode cX8_copy 17 = .ok (.aload_n 0, 1) := by decide +kernel
theorem dX8_copy_18 : decode cX8_copy 18 = .ok (.getfield 25, 3) := by decide +kernel
theorem dX8_copy_21 : decode cX8_copy 21 = .ok (.iload_n 1, 1) := by decide +kernel
theorem dX8_copy_22 : decode cX8_copy 22 = .ok (.aaload, 1) := by decide +kernel
theorem dX8_copy_23 : decode cX8_copy 23 = .ok (.astore 6, 2) := by decide +kernel
theorem dX8_copy_25 : decode cX8_copy 25 = .ok (.aload_n 0, 1) := by decide +kernel
theorem dX8_copy_26 : decode cX8_copy 26 = .ok (.getfield 25, 3) := by decide +kernel
theorem dX8_copy_29 : decode cX8_copy 29 = .ok (.iload_n 3, 1) := by decide +kernel
theorem dX8_copy_30 : decode cX8_copy 30 = .ok (.aaload, 1) := by decide +kernel
theorem dX8_copy_31 : decode cX8_copy 31 = .ok (.astore 7, 2) := by decide +kernel
theorem dX8_copy_33 : decode cX8_copy 33 = .ok (.aload 6, 2) := by decide +kernel
theorem dX8_copy_35 : decode cX8_copy 35 = .ok (.getfield 241, 3) := by decide +kernel
theorem dX8_copy_38 : decode cX8_copy 38 = .ok (.iconst (-1), 1) := by decide +kernel
theorem dX8_copy_39 : decode cX8_copy 39 = .ok (.if_icmp .eq 12, 3) := by decide +kernel
theorem dX8_copy_42 : decode cX8_copy 42 = .ok (.aload 7, 2) := by decide +kernel
theorem dX8_copy_44 : decode cX8_copy 44 = .ok (.getfield 241, 3) := by decide +kernel
theorem dX8_copy_47 : decode cX8_copy 47 = .ok (.iconst (-1), 1) := by decide +kernel
theorem dX8_copy_48 : decode cX8_copy 48 = .ok (.if_icmp .ne 6, 3) := by decide +kernel
theorem dX8_copy_51 : decode cX8_copy 51 = .ok (.ldc 244, 2) := by decide +kernel
theorem dX8_copy_53 : decode cX8_copy 53 = .ok (.ireturn, 1) := by decide +kernel
theorem dX8_copy_54 : decode cX8_copy 54 = .ok (.aload 6, 2) := by decide +kernel
theorem dX8_copy_56 : decode cX8_copy 56 = .ok (.getfield 241, 3) := by decide +kernel
theorem dX8_copy_59 : decode cX8_copy 59 = .ok (.aload 7, 2) := by decide +kernel
theorem dX8_copy_61 : decode cX8_copy 61 = .ok (.getfield 241, 3) := by decide +kernel
theorem dX8_copy_64 : decode cX8_copy 64 = .ok (.if_icmp .eq 6, 3) := by decide +kernel
theorem dX8_copy_67 : decode cX8_copy 67 = .ok (.ldc 175, 2) := by decide +kernel
theorem dX8_copy_69 : decode cX8_copy 69 = .ok (.ireturn, 1) := by decide +kernel
theorem dX8_copy_70 : decode cX8_copy 70 = .ok (.aload 6, 2) := by decide +kernel
theorem dX8_copy_72 : decode cX8_copy 72 = .ok (.iload_n 2, 1) := by decide +kernel
theorem dX8_copy_73 : decode cX8_copy 73 = .ok (.iload 5, 2) := by decide +kernel
theorem dX8_copy_75 : decode cX8_copy 75 = .ok (.invokevirtual 289, 3) := by decide +kernel
theorem dX8_copy_78 : decode cX8_copy 78 = .ok (.ifCond .eq 15, 3) := by decide +kernel
theorem dX8_copy_81 : decode cX8_copy 81 = .ok (.aload 7, 2) := by decide +kernel
theorem dX8_copy_83 : decode cX8_copy 83 = .ok (.iload 4, 2) := by decide +kernel
theorem dX8_copy_85 : decode cX8_copy 85 = .ok (.iload 5, 2) := by decide +kernel
theorem dX8_copy_87 : decode cX8_copy 87 = .ok (.invokevirtual 289, 3) := by decide +kernel
theorem dX8_copy_90 : decode cX8_copy 90 = .ok (.ifCond .ne 7, 3) := by decide +kernel
theorem dX8_copy_93 : decode cX8_copy 93 = .ok (.ldc_w 276, 3) := by decide +kernel
theorem dX8_copy_96 : decode cX8_copy 96 = .ok (.ireturn, 1) := by decide +kernel
theorem dX8_copy_97 : decode cX8_copy 97 = .ok (.aload 6, 2) := by decide +kernel
theorem dX8_copy_99 : decode cX8_copy 99 = .ok (.getfield 277, 3) := by decide +kernel
theorem dX8_copy_102 : decode cX8_copy 102 = .ok (.iload_n 2, 1) := by decide +kernel
theorem dX8_copy_103 : decode cX8_copy 103 = .ok (.aload 7, 2) := by decide +kernel
theorem dX8_copy_105 : decode cX8_copy 105 = .ok (.getfield 277, 3) := by decide +kernel
theorem dX8_copy_108 : decode cX8_copy 108 = .ok (.iload 4, 2) := by decide +kernel
theorem dX8_copy_110 : decode cX8_copy 110 = .ok (.iload 5, 2) := by decide +kernel
theorem dX8_copy_112 : decode cX8_copy 112 = .ok (.invokestatic 292, 3) := by decide +kernel
theorem dX8_copy_115 : decode cX8_copy 115 = .ok (.iload 5, 2) := by decide +kernel
theorem dX8_copy_117 : decode cX8_copy 117 = .ok (.ireturn, 1) := by decide +kernel
theorem dX8_lay_0 : decode cX8_lay 0 = .ok (.iload_n 1, 1) := by decide +kernel
theorem dX8_lay_1 : decode cX8_lay 1 = .ok (.invokestatic 298, 3) := by decide +kernel
theorem dX8_lay_4 : decode cX8_lay 4 = .ok (.ifCond .eq 12, 3) := by decide +kernel
theorem dX8_lay_7 : decode cX8_lay 7 = .ok (.iload_n 2, 1) := by decide +kernel
theorem dX8_lay_8 : decode cX8_lay 8 = .ok (.iconst 0, 1) := by decide +kernel
theorem dX8_lay_9 : decode cX8_lay 9 = .ok (.iconst 3, 1) := by decide +kernel
theorem dX8_lay_10 : decode cX8_lay 10 = .ok (.invokestatic 77, 3) := by decide +kernel
theorem dX8_lay_13 : decode cX8_lay 13 = .ok (.ifCond .ne 6, 3) := by decide +kernel
theorem dX8_lay_16 : decode cX8_lay 16 = .ok (.ldc 81, 2) := by decide +kernel
theorem dX8_lay_18 : decode cX8_lay 18 = .ok (.ireturn, 1) := by decide +kernel
theorem dX8_lay_19 : decode cX8_lay 19 = .ok (.iload_n 2, 1) := by decide +kernel
theorem dX8_lay_20 : decode cX8_lay 20 = .ok (.iconst 1, 1) := by decide +kernel
theorem dX8_lay_21 : decode cX8_lay 21 = .ok (.if_icmp .ne 14, 3) := by decide +kernel
theorem dX8_lay_24 : decode cX8_lay 24 = .ok (.aload_n 0, 1) := by decide +kernel
theorem dX8_lay_25 : decode cX8_lay 25 = .ok (.getfield 60, 3) := by decide +kernel
theorem dX8_lay_28 : decode cX8_lay 28 = .ok (.iload_n 3, 1) := by decide +kernel
theorem dX8_lay_29 : decode cX8_lay 29 = .ok (.invokevirtual 140, 3) := by decide +kernel
theorem dX8_lay_32 : decode cX8_lay 32 = .ok (.ifCond .eq 15, 3) := by decide +kernel
theorem dX8_lay_35 : decode cX8_lay 35 = .ok (.iload_n 2, 1) := by decide +kernel
theorem dX8_lay_36 : decode cX8_lay 36 = .ok (.iconst 2, 1) := by decide +kernel
theorem dX8_lay_37 : decode cX8_lay 37 = .ok (.if_icmp .ne 13, 3) := by decide +kernel
theorem dX8_lay_40 : decode cX8_lay 40 = .ok (.iload_n 3, 1) := by decide +kernel
theorem dX8_lay_41 : decode cX8_lay 41 = .ok (.invokestatic 238, 3) := by decide +kernel
theorem dX8_lay_44 : decode cX8_lay 44 = .ok (.ifCond .ne 6, 3) := by decide +kernel
theorem dX8_lay_47 : decode cX8_lay 47 = .ok (.ldc 81, 2) := by decide +kernel
theorem dX8_lay_49 : decode cX8_lay 49 = .ok (.ireturn, 1) := by decide +kernel
theorem dX8_lay_50 : decode cX8_lay 50 = .ok (.iload_n 2, 1) := by decide +kernel
theorem dX8_lay_51 : decode cX8_lay 51 = .ok (.iconst 2, 1) := by decide +kernel
theorem dX8_lay_52 : decode cX8_lay 52 = .ok (.if_icmp .ne 19, 3) := by decide +kernel
theorem dX8_lay_55 : decode cX8_lay 55 = .ok (.aload_n 0, 1) := by decide +kernel
theorem dX8_lay_56 : decode cX8_lay 56 = .ok (.getfield 25, 3) := by decide +kernel
theorem dX8_lay_59 : decode cX8_lay 59 = .ok (.iload_n 3, 1) := by decide +kernel
theorem dX8_lay_60 : decode cX8_lay 60 = .ok (.aaload, 1) := by decide +kernel
theorem dX8_lay_61 : decode cX8_lay 61 = .ok (.getfield 241, 3) := by decide +kernel
theorem dX8_lay_64 : decode cX8_lay 64 = .ok (.iconst (-1), 1) := by decide +kernel
theorem dX8_lay_65 : decode cX8_lay 65 = .ok (.if_icmp .ne 6, 3) := by decide +kernel
theorem dX8_lay_68 : decode cX8_lay 68 = .ok (.ldc 244, 2) := by decide +kernel
theorem dX8_lay_70 : decode cX8_lay 70 = .ok (.ireturn, 1) := by decide +kernel
theorem dX8_lay_71 : decode cX8_lay 71 = .ok (.aload_n 0, 1) := by decide +kernel
theorem dX8_lay_72 : decode cX8_lay 72 = .ok (.getfield 31, 3) := by decide +kernel
theorem dX8_lay_75 : decode cX8_lay 75 = .ok (.iload_n 1, 1) := by decide +kernel
theorem dX8_lay_76 : decode cX8_lay 76 = .ok (.aaload, 1) := by decide +kernel
theorem dX8_lay_77 : decode cX8_lay 77 = .ok (.astore 4, 2) := by decide +kernel
theorem dX8_lay_79 : decode cX8_lay 79 = .ok (.aload 4, 2) := by decide +kernel
theorem dX8_lay_81 : decode cX8_lay 81 = .ok (.getfield 301, 3) := by decide +kernel
theorem dX8_lay_84 : decode cX8_lay 84 = .ok (.istore 5, 2) := by decide +kernel
theorem dX8_lay_86 : decode cX8_lay 86 = .ok (.aload 4, 2) := by decide +kernel
theorem dX8_lay_88 : decode cX8_lay 88 = .ok (.iload_n 2, 1) := by decide +kernel
theorem dX8_lay_89 : decode cX8_lay 89 = .ok (.putfield 301, 3) := by decide +kernel
theorem dX8_lay_92 : decode cX8_lay 92 = .ok (.iload_n 2, 1) := by decide +kernel
theorem dX8_lay_93 : decode cX8_lay 93 = .ok (.iconst 1, 1) := by decide +kernel
theorem dX8_lay_94 : decode cX8_lay 94 = .ok (.if_icmp .ne 23, 3) := by decide +kernel
theorem dX8_lay_97 : decode cX8_lay 97 = .ok (.aload 4, 2) := by decide +kernel
theorem dX8_lay_99 : decode cX8_lay 99 = .ok (.getfield 304, 3) := by decide +kernel
theorem dX8_lay_102 : decode cX8_lay 102 = .ok (.aload_n 0, 1) := by decide +kernel
theorem dX8_lay_103 : decode cX8_lay 103 = .ok (.getfield 60, 3) := by decide +kernel
theorem dX8_lay_106 : decode cX8_lay 106 = .ok (.getfield 143, 3) := by decide +kernel
theorem dX8_lay_109 : decode cX8_lay 109 = .ok (.iload_n 3, 1) := by decide +kernel
theorem dX8_lay_110 : decode cX8_lay 110 = .ok (.aaload, 1) := by decide +kernel
theorem dX8_lay_111 : decode cX8_lay 111 = .ok (.invokevirtual 308, 3) := by decide +kernel
theorem dX8_lay_114 : decode cX8_lay 114 = .ok (.goto 31, 3) := by decide +kernel
theorem dX8_lay_117 : decode cX8_lay 117 = .ok (.iload_n 2, 1) := by decide +kernel
theorem dX8_lay_118 : decode cX8_lay 118 = .ok (.iconst 2, 1) := by decide +kernel
theorem dX8_lay_119 : decode cX8_lay 119 = .ok (.if_icmp .ne 20, 3) := by decide +kernel
theorem dX8_lay_122 : decode cX8_lay 122 = .ok (.aload 4, 2) := by decide +kernel
theorem dX8_lay_124 : decode cX8_lay 124 = .ok (.getfield 311, 3) := by decide +kernel
theorem dX8_lay_127 : decode cX8_lay 127 = .ok (.aload_n 0, 1) := by decide +kernel
theorem dX8_lay_128 : decode cX8_lay 128 = .ok (.getfield 25, 3) := by decide +kernel
theorem dX8_lay_131 : decode cX8_lay 131 = .ok (.iload_n 3, 1) := by decide +kernel
theorem dX8_lay_132 : decode cX8_lay 132 = .ok (.aaload, 1) := by decide +kernel
theorem dX8_lay_133 : decode cX8_lay 133 = .ok (.invokevirtual 315, 3) := by decide +kernel
theorem dX8_lay_136 : decode cX8_lay 136 = .ok (.goto 9, 3) := by decide +kernel
theorem dX8_lay_139 : decode cX8_lay 139 = .ok (.aload 4, 2) := by decide +kernel
theorem dX8_lay_141 : decode cX8_lay 141 = .ok (.iload_n 3, 1) := by decide +kernel
theorem dX8_lay_142 : decode cX8_lay 142 = .ok (.putfield 318, 3) := by decide +kernel
theorem dX8_lay_145 : decode cX8_lay 145 = .ok (.iload 5, 2) := by decide +kernel
theorem dX8_lay_147 : decode cX8_lay 147 = .ok (.ireturn, 1) := by decide +kernel
theorem dX8_ask_0 : decode cX8_ask 0 = .ok (.iload_n 1, 1) := by decide +kernel
theorem dX8_ask_1 : decode cX8_ask 1 = .ok (.invokestatic 298, 3) := by decide +kernel
theorem dX8_ask_4 : decode cX8_ask 4 = .ok (.ifCond .eq 10, 3) := by decide +kernel
theorem dX8_ask_7 : decode cX8_ask 7 = .ok (.iload_n 2, 1) := by decide +kernel
theorem dX8_ask_8 : decode cX8_ask 8 = .ok (.invokestatic 133, 3) := by decide +kernel
theorem dX8_ask_11 : decode cX8_ask 11 = .ok (.ifCond .ne 6, 3) := by decide +kernel
theorem dX8_ask_14 : decode cX8_ask 14 = .ok (.ldc 81, 2) := by decide +kernel
theorem dX8_ask_16 : decode cX8_ask 16 = .ok (.ireturn, 1) := by decide +kernel
theorem dX8_ask_17 : decode cX8_ask 17 = .ok (.aload_n 0, 1) := by decide +kernel
theorem dX8_ask_18 : decode cX8_ask 18 = .ok (.getfield 31, 3) := by decide +kernel
theorem dX8_ask_21 : decode cX8_ask 21 = .ok (.iload_n 1, 1) := by decide +kernel
theorem dX8_ask_22 : decode cX8_ask 22 = .ok (.aaload, 1) := by decide +kernel
theorem dX8_ask_23 : decode cX8_ask 23 = .ok (.astore_n 3, 1) := by decide +kernel
theorem dX8_ask_24 : decode cX8_ask 24 = .ok (.aload_n 3, 1) := by decide +kernel
theorem dX8_ask_25 : decode cX8_ask 25 = .ok (.getfield 301, 3) := by decide +kernel
theorem dX8_ask_28 : decode cX8_ask 28 = .ok (.ifCond .ne 6, 3) := by decide +kernel
theorem dX8_ask_31 : decode cX8_ask 31 = .ok (.ldc 244, 2) := by decide +kernel
theorem dX8_ask_33 : decode cX8_ask 33 = .ok (.ireturn, 1) := by decide +kernel
theorem dX8_ask_34 : decode cX8_ask 34 = .ok (.aload_n 3, 1) := by decide +kernel
theorem dX8_ask_35 : decode cX8_ask 35 = .ok (.getfield 301, 3) := by decide +kernel
theorem dX8_ask_38 : decode cX8_ask 38 = .ok (.iconst 1, 1) := by decide +kernel
theorem dX8_ask_39 : decode cX8_ask 39 = .ok (.if_icmp .ne 14, 3) := by decide +kernel
theorem dX8_ask_42 : decode cX8_ask 42 = .ok (.aload_n 3, 1) := by decide +kernel
theorem dX8_ask_43 : decode cX8_ask 43 = .ok (.getfield 304, 3) := by decide +kernel
theorem dX8_ask_46 : decode cX8_ask 46 = .ok (.iload_n 2, 1) := by decide +kernel
theorem dX8_ask_47 : decode cX8_ask 47 = .ok (.invokevirtual 172, 3) := by decide +kernel
theorem dX8_ask_50 : decode cX8_ask 50 = .ok (.ifCond .ne 6, 3) := by decide +kernel
theorem dX8_ask_53 : decode cX8_ask 53 = .ok (.ldc 175, 2) := by decide +kernel
theorem dX8_ask_55 : decode cX8_ask 55 = .ok (.ireturn, 1) := by decide +kernel
theorem dX8_ask_56 : decode cX8_ask 56 = .ok (.aload_n 3, 1) := by decide +kernel
theorem dX8_ask_57 : decode cX8_ask 57 = .ok (.getfield 304, 3) := by decide +kernel
theorem dX8_ask_60 : decode cX8_ask 60 = .ok (.invokevirtual 168, 3) := by decide +kernel
theorem dX8_ask_63 : decode cX8_ask 63 = .ok (.ireturn, 1) := by decide +kernel
theorem dX8_item_0 : decode cX8_item 0 = .ok (.iload_n 1, 1) := by decide +kernel
theorem dX8_item_1 : decode cX8_item 1 = .ok (.invokestatic 298, 3) := by decide +kernel
theorem dX8_item_4 : decode cX8_item 4 = .ok (.ifCond .ne 6, 3) := by decide +kernel
theorem dX8_item_7 : decode cX8_item 7 = .ok (.ldc 81, 2) := by decide +kernel
theorem dX8_item_9 : decode cX8_item 9 = .ok (.ireturn, 1) := by decide +kernel
theorem dX8_item_10 : decode cX8_item 10 = .ok (.aload_n 0, 1) := by decide +kernel
theorem dX8_item_11 : decode cX8_item 11 = .ok (.getfield 31, 3) := by decide +kernel
theorem dX8_item_14 : decode cX8_item 14 = .ok (.iload_n 1, 1) := by decide +kernel
theorem dX8_item_15 : decode cX8_item 15 = .ok (.aaload, 1) := by decide +kernel
theorem dX8_item_16 : decode cX8_item 16 = .ok (.astore_n 3, 1) := by decide +kernel
theorem dX8_item_17 : decode cX8_item 17 = .ok (.aload_n 3, 1) := by decide +kernel
theorem dX8_item_18 : decode cX8_item 18 = .ok (.getfield 301, 3) := by decide +kernel
theorem dX8_item_21 : decode cX8_item 21 = .ok (.ifCond .ne 6, 3) := by decide +kernel
theorem dX8_item_24 : decode cX8_item 24 = .ok (.ldc 244, 2) := by decide +kernel
theorem dX8_item_26 : decode cX8_item 26 = .ok (.ireturn, 1) := by decide +kernel
theorem dX8_item_27 : decode cX8_item 27 = .ok (.aload_n 3, 1) := by decide +kernel
theorem dX8_item_28 : decode cX8_item 28 = .ok (.getfield 301, 3) := by decide +kernel
theorem dX8_item_31 : decode cX8_item 31 = .ok (.iconst 2, 1) := by decide +kernel
theorem dX8_item_32 : decode cX8_item 32 = .ok (.if_icmp .eq 6, 3) := by decide +kernel
theorem dX8_item_35 : decode cX8_item 35 = .ok (.ldc 175, 2) := by decide +kernel
theorem dX8_item_37 : decode cX8_item 37 = .ok (.ireturn, 1) := by decide +kernel
theorem dX8_item_38 : decode cX8_item 38 = .ok (.aload_n 3, 1) := by decide +kernel
theorem dX8_item_39 : decode cX8_item 39 = .ok (.getfield 311, 3) := by decide +kernel
theorem dX8_item_42 : decode cX8_item 42 = .ok (.iload_n 2, 1) := by decide +kernel
theorem dX8_item_43 : decode cX8_item 43 = .ok (.invokevirtual 275, 3) := by decide +kernel
theorem dX8_item_46 : decode cX8_item 46 = .ok (.ifCond .ne 7, 3) := by decide +kernel
theorem dX8_item_49 : decode cX8_item 49 = .ok (.ldc_w 276, 3) := by decide +kernel
theorem dX8_item_52 : decode cX8_item 52 = .ok (.ireturn, 1) := by decide +kernel
theorem dX8_item_53 : decode cX8_item 53 = .ok (.aload_n 3, 1) := by decide +kernel
theorem dX8_item_54 : decode cX8_item 54 = .ok (.getfield 311, 3) := by decide +kernel
theorem dX8_item_57 : decode cX8_item 57 = .ok (.getfield 277, 3) := by decide +kernel
theorem dX8_item_60 : decode cX8_item 60 = .ok (.iload_n 2, 1) := by decide +kernel
theorem dX8_item_61 : decode cX8_item 61 = .ok (.iaload, 1) := by decide +kernel
theorem dX8_item_62 : decode cX8_item 62 = .ok (.istore 4, 2) := by decide +kernel
theorem dX8_item_64 : decode cX8_item 64 = .ok (.iload 4, 2) := by decide +kernel
theorem dX8_item_66 : decode cX8_item 66 = .ok (.ldc 222, 2) := by decide +kernel
theorem dX8_item_68 : decode cX8_item 68 = .ok (.if_icmp .ne 8, 3) := by decide +kernel
theorem dX8_item_71 : decode cX8_item 71 = .ok (.ldc 175, 2) := by decide +kernel
theorem dX8_item_73 : decode cX8_item 73 = .ok (.goto 5, 3) := by decide +kernel
theorem dX8_item_76 : decode cX8_item 76 = .ok (.iload 4, 2) := by decide +kernel
theorem dX8_item_78 : decode cX8_item 78 = .ok (.ireturn, 1) := by decide +kernel
theorem dX8_rest_0 : decode cX8_rest 0 = .ok (.iload_n 1, 1) := by decide +kernel
theorem dX8_rest_1 : decode cX8_rest 1 = .ok (.invokestatic 298, 3) := by decide +kernel
theorem dX8_rest_4 : decode cX8_rest 4 = .ok (.ifCond .ne 6, 3) := by decide +kernel
theorem dX8_rest_7 : decode cX8_rest 7 = .ok (.ldc 81, 2) := by decide +kernel
theorem dX8_rest_9 : decode cX8_rest 9 = .ok (.ireturn, 1) := by decide +kernel
theorem dX8_rest_10 : decode cX8_rest 10 = .ok (.aload_n 0, 1) := by decide +kernel
theorem dX8_rest_11 : decode cX8_rest 11 = .ok (.getfield 31, 3) := by decide +kernel
theorem dX8_rest_14 : decode cX8_rest 14 = .ok (.iload_n 1, 1) := by decide +kernel
theorem dX8_rest_15 : decode cX8_rest 15 = .ok (.aaload, 1) := by decide +kernel
theorem dX8_rest_16 : decode cX8_rest 16 = .ok (.astore_n 3, 1) := by decide +kernel
theorem dX8_rest_17 : decode cX8_rest 17 = .ok (.aload_n 3, 1) := by decide +kernel
theorem dX8_rest_18 : decode cX8_rest 18 = .ok (.getfield 301, 3) := by decide +kernel
theorem dX8_rest_21 : decode cX8_rest 21 = .ok (.ifCond .ne 6, 3) := by decide +kernel
theorem dX8_rest_24 : decode cX8_rest 24 = .ok (.ldc 244, 2) := by decide +kernel
theorem dX8_rest_26 : decode cX8_rest 26 = .ok (.ireturn, 1) := by decide +kernel
theorem dX8_rest_27 : decode cX8_rest 27 = .ok (.aload_n 3, 1) := by decide +kernel
theorem dX8_rest_28 : decode cX8_rest 28 = .ok (.getfield 301, 3) := by decide +kernel
theorem dX8_rest_31 : decode cX8_rest 31 = .ok (.iconst 3, 1) := by decide +kernel
theorem dX8_rest_32 : decode cX8_rest 32 = .ok (.if_icmp .eq 6, 3) := by decide +kernel
theorem dX8_rest_35 : decode cX8_rest 35 = .ok (.ldc 175, 2) := by decide +kernel
theorem dX8_rest_37 : decode cX8_rest 37 = .ok (.ireturn, 1) := by decide +kernel
theorem dX8_rest_38 : decode cX8_rest 38 = .ok (.iload_n 2, 1) := by decide +kernel
theorem dX8_rest_39 : decode cX8_rest 39 = .ok (.ifCond .ne 7, 3) := by decide +kernel
theorem dX8_rest_42 : decode cX8_rest 42 = .ok (.ldc_w 321, 3) := by decide +kernel
theorem dX8_rest_45 : decode cX8_rest 45 = .ok (.ireturn, 1) := by decide +kernel
theorem dX8_rest_46 : decode cX8_rest 46 = .ok (.aload_n 3, 1) := by decide +kernel
theorem dX8_rest_47 : decode cX8_rest 47 = .ok (.getfield 318, 3) := by decide +kernel
theorem dX8_rest_50 : decode cX8_rest 50 = .ok (.iload_n 2, 1) := by decide +kernel
theorem dX8_rest_51 : decode cX8_rest 51 = .ok (.irem, 1) := by decide +kernel
theorem dX8_rest_52 : decode cX8_rest 52 = .ok (.ireturn, 1) := by decide +kernel
theorem dX8_tell_0 : decode cX8_tell 0 = .ok (.aload_n 0, 1) := by decide +kernel
theorem dX8_tell_1 : decode cX8_tell 1 = .ok (.getfield 39, 3) := by decide +kernel
theorem dX8_tell_4 : decode cX8_tell 4 = .ok (.aload_n 0, 1) := by decide +kernel
theorem dX8_tell_5 : decode cX8_tell 5 = .ok (.getfield 35, 3) := by decide +kernel
theorem dX8_tell_8 : decode cX8_tell 8 = .ok (.arraylength, 1) := by decide +kernel
theorem dX8_tell_9 : decode cX8_tell 9 = .ok (.if_icmp .lt 6, 3) := by decide +kernel
theorem dX8_tell_12 : decode cX8_tell 12 = .ok (.ldc 250, 2) := by decide +kernel
theorem dX8_tell_14 : decode cX8_tell 14 = .ok (.ireturn, 1) := by decide +kernel
theorem dX8_tell_15 : decode cX8_tell 15 = .ok (.aload_n 0, 1) := by decide +kernel
theorem dX8_tell_16 : decode cX8_tell 16 = .ok (.getfield 35, 3) := by decide +kernel
theorem dX8_tell_19 : decode cX8_tell 19 = .ok (.aload_n 0, 1) := by decide +kernel
theorem dX8_tell_20 : decode cX8_tell 20 = .ok (.getfield 39, 3) := by decide +kernel
theorem dX8_tell_23 : decode cX8_tell 23 = .ok (.iload_n 1, 1) := by decide +kernel
theorem dX8_tell_24 : decode cX8_tell 24 = .ok (.iastore, 1) := by decide +kernel
theorem dX8_tell_25 : decode cX8_tell 25 = .ok (.aload_n 0, 1) := by decide +kernel
theorem dX8_tell_26 : decode cX8_tell 26 = .ok (.dup, 1) := by decide +kernel
theorem dX8_tell_27 : decode cX8_tell 27 = .ok (.getfield 39, 3) := by decide +kernel
theorem dX8_tell_30 : decode cX8_tell 30 = .ok (.iconst 1, 1) := by decide +kernel
theorem dX8_tell_31 : decode cX8_tell 31 = .ok (.iadd, 1) := by decide +kernel
theorem dX8_tell_32 : decode cX8_tell 32 = .ok (.putfield 39, 3) := by decide +kernel
theorem dX8_tell_35 : decode cX8_tell 35 = .ok (.aload_n 0, 1) := by decide +kernel
theorem dX8_tell_36 : decode cX8_tell 36 = .ok (.getfield 39, 3) := by decide +kernel
theorem dX8_tell_39 : decode cX8_tell 39 = .ok (.ireturn, 1) := by decide +kernel
theorem dX8_check_0 : decode cX8_check 0 = .ok (.aload_n 0, 1) := by decide +kernel
theorem dX8_check_1 : decode cX8_check 1 = .ok (.getfield 39, 3) := by decide +kernel
theorem dX8_check_4 : decode cX8_check 4 = .ok (.istore_n 2, 1) := by decide +kernel
theorem dX8_check_5 : decode cX8_check 5 = .ok (.aload_n 0, 1) := by decide +kernel
theorem dX8_check_6 : decode cX8_check 6 = .ok (.iconst 0, 1) := by decide +kernel
theorem dX8_check_7 : decode cX8_check 7 = .ok (.putfield 39, 3) := by decide +kernel
theorem dX8_check_10 : decode cX8_check 10 = .ok (.iload_n 1, 1) := by decide +kernel
theorem dX8_check_11 : decode cX8_check 11 = .ok (.iconst 1, 1) := by decide +kernel
theorem dX8_check_12 : decode cX8_check 12 = .ok (.bipush 30, 2) := by decide +kernel
theorem dX8_check_14 : decode cX8_check 14 = .ok (.invokestatic 77, 3) := by decide +kernel
theorem dX8_check_17 : decode cX8_check 17 = .ok (.ifCond .ne 6, 3) := by decide +kernel
theorem dX8_check_20 : decode cX8_check 20 = .ok (.ldc 81, 2) := by decide +kernel
theorem dX8_check_22 : decode cX8_check 22 = .ok (.ireturn, 1) := by decide +kernel
theorem dX8_check_23 : decode cX8_check 23 = .ok (.aload_n 0, 1) := by decide +kernel
theorem dX8_check_24 : decode cX8_check 24 = .ok (.getfield 43, 3) := by decide +kernel
theorem dX8_check_27 : decode cX8_check 27 = .ok (.ifCond .ne 7, 3) := by decide +kernel
theorem dX8_check_30 : decode cX8_check 30 = .ok (.ldc_w 321, 3) := by decide +kernel
theorem dX8_check_33 : decode cX8_check 33 = .ok (.ireturn, 1) := by decide +kernel
theorem dX8_check_34 : decode cX8_check 34 = .ok (.aload_n 0, 1) := by decide +kernel
theorem dX8_check_35 : decode cX8_check 35 = .ok (.getfield 67, 3) := by decide +kernel
theorem dX8_check_38 : decode cX8_check 38 = .ok (.aload_n 0, 1) := by decide +kernel
theorem dX8_check_39 : decode cX8_check 39 = .ok (.getfield 64, 3) := by decide +kernel
theorem dX8_check_42 : decode cX8_check 42 = .ok (.invokevirtual 211, 3) := by decide +kernel
theorem dX8_check_45 : decode cX8_check 45 = .ok (.iload_n 1, 1) := by decide +kernel
theorem dX8_check_46 : decode cX8_check 46 = .ok (.sipush 9999, 3) := by decide +kernel
theorem dX8_check_49 : decode cX8_check 49 = .ok (.aload_n 0, 1) := by decide +kernel
theorem dX8_check_50 : decode cX8_check 50 = .ok (.getfield 64, 3) := by decide +kernel
theorem dX8_check_53 : decode cX8_check 53 = .ok (.getfield 195, 3) := by decide +kernel
theorem dX8_check_56 : decode cX8_check 56 = .ok (.isub, 1) := by decide +kernel
theorem dX8_check_57 : decode cX8_check 57 = .ok (.invokestatic 120, 3) := by decide +kernel
theorem dX8_check_60 : decode cX8_check 60 = .ok (.istore_n 3, 1) := by decide +kernel
theorem dX8_check_61 : decode cX8_check 61 = .ok (.iconst 0, 1) := by decide +kernel
theorem dX8_check_62 : decode cX8_check 62 = .ok (.istore 4, 2) := by decide +kernel
theorem dX8_check_64 : decode cX8_check 64 = .ok (.iload 4, 2) := by decide +kernel
theorem dX8_check_66 : decode cX8_check 66 = .ok (.iconst 2, 1) := by decide +kernel
theorem dX8_check_67 : decode cX8_check 67 = .ok (.iload_n 3, 1) := by decide +kernel
theorem dX8_check_68 : decode cX8_check 68 = .ok (.imul, 1) := by decide +kernel
theorem dX8_check_69 : decode cX8_check 69 = .ok (.if_icmp .ge 84, 3) := by decide +kernel
theorem dX8_check_72 : decode cX8_check 72 = .ok (.iload 4, 2) := by decide +kernel
theorem dX8_check_74 : decode cX8_check 74 = .ok (.iconst 2, 1) := by decide +kernel
theorem dX8_check_75 : decode cX8_check 75 = .ok (.irem, 1) := by decide +kernel
theorem dX8_check_76 : decode cX8_check 76 = .ok (.ifCond .ne 11, 3) := by decide +kernel
theorem dX8_check_79 : decode cX8_check 79 = .ok (.aload_n 0, 1) := by decide +kernel
theorem dX8_check_80 : decode cX8_check 80 = .ok (.getfield 67, 3) := by decide +kernel
theorem dX8_check_83 : decode cX8_check 83 = .ok (.iconst 1, 1) := by decide +kernel
theorem dX8_check_84 : decode cX8_check 84 = .ok (.invokevirtual 198, 3) := by decide +kernel
theorem dX8_check_87 : decode cX8_check 87 = .ok (.iload 4, 2) := by decide +kernel
theorem dX8_check_89 : decode cX8_check 89 = .ok (.iconst 2, 1) := by decide +kernel
theorem dX8_check_90 : decode cX8_check 90 = .ok (.irem, 1) := by decide +kernel
theorem dX8_check_91 : decode cX8_check 91 = .ok (.ifCond .ne 13, 3) := by decide +kernel
theorem dX8_check_94 : decode cX8_check 94 = .ok (.aload_n 0, 1) := by decide +kernel
theorem dX8_check_95 : decode cX8_check 95 = .ok (.getfield 67, 3) := by decide +kernel
theorem dX8_check_98 : decode cX8_check 98 = .ok (.invokevirtual 322, 3) := by decide +kernel
theorem dX8_check_101 : decode cX8_check 101 = .ok (.goto 21, 3) := by decide +kernel
theorem dX8_check_104 : decode cX8_check 104 = .ok (.aload_n 0, 1) := by decide +kernel
theorem dX8_check_105 : decode cX8_check 105 = .ok (.getfield 67, 3) := by decide +kernel
theorem dX8_check_108 : decode cX8_check 108 = .ok (.getfield 192, 3) := by decide +kernel
theorem dX8_check_111 : decode cX8_check 111 = .ok (.bipush 100, 2) := by decide +kernel
theorem dX8_check_113 : decode cX8_check 113 = .ok (.aload_n 0, 1) := by decide +kernel
theorem dX8_check_114 : decode cX8_check 114 = .ok (.getfield 67, 3) := by decide +kernel
theorem dX8_check_117 : decode cX8_check 117 = .ok (.getfield 124, 3) := by decide +kernel
theorem dX8_check_120 : decode cX8_check 120 = .ok (.imul, 1) := by decide +kernel
theorem dX8_check_121 : decode cX8_check 121 = .ok (.iadd, 1) := by decide +kernel
theorem dX8_check_122 : decode cX8_check 122 = .ok (.istore 5, 2) := by decide +kernel
theorem dX8_check_124 : decode cX8_check 124 = .ok (.iload 4, 2) := by decide +kernel
theorem dX8_check_126 : decode cX8_check 126 = .ok (.iload_n 2, 1) := by decide +kernel
theorem dX8_check_127 : decode cX8_check 127 = .ok (.if_icmp .ge 15, 3) := by decide +kernel
theorem dX8_check_130 : decode cX8_check 130 = .ok (.aload_n 0, 1) := by decide +kernel
theorem dX8_check_131 : decode cX8_check 131 = .ok (.getfield 35, 3) := by decide +kernel
theorem dX8_check_134 : decode cX8_check 134 = .ok (.iload 4, 2) := by decide +kernel
theorem dX8_check_136 : decode cX8_check 136 = .ok (.iaload, 1) := by decide +kernel
theorem dX8_check_137 : decode cX8_check 137 = .ok (.iload 5, 2) := by decide +kernel
theorem dX8_check_139 : decode cX8_check 139 = .ok (.if_icmp .eq 8, 3) := by decide +kernel
theorem dX8_check_142 : decode cX8_check 142 = .ok (.iconst 1, 1) := by decide +kernel
theorem dX8_check_143 : decode cX8_check 143 = .ok (.iload 4, 2) := by decide +kernel
theorem dX8_check_145 : decode cX8_check 145 = .ok (.iadd, 1) := by decide +kernel
theorem dX8_check_146 : decode cX8_check 146 = .ok (.ireturn, 1) := by decide +kernel
theorem dX8_check_147 : decode cX8_check 147 = .ok (.iinc 4 1, 3) := by decide +kernel
theorem dX8_check_150 : decode cX8_check 150 = .ok (.goto (-86), 3) := by decide +kernel
theorem dX8_check_153 : decode cX8_check 153 = .ok (.iload_n 2, 1) := by decide +kernel
theorem dX8_check_154 : decode cX8_check 154 = .ok (.iconst 2, 1) := by decide +kernel
theorem dX8_check_155 : decode cX8_check 155 = .ok (.iload_n 3, 1) := by decide +kernel
theorem dX8_check_156 : decode cX8_check 156 = .ok (.imul, 1) := by decide +kernel
theorem dX8_check_157 : decode cX8_check 157 = .ok (.if_icmp .le 11, 3) := by decide +kernel
theorem dX8_check_160 : decode cX8_check 160 = .ok (.iconst 1, 1) := by decide +kernel
theorem dX8_check_161 : decode cX8_check 161 = .ok (.iconst 2, 1) := by decide +kernel
theorem dX8_check_162 : decode cX8_check 162 = .ok (.iload_n 3, 1) := by decide +kernel
theorem dX8_check_163 : decode cX8_check 163 = .ok (.imul, 1) := by decide +kernel
theorem dX8_check_164 : decode cX8_check 164 = .ok (.iadd, 1) := by decide +kernel
theorem dX8_check_165 : decode cX8_check 165 = .ok (.goto 4, 3) := by decide +kernel
theorem dX8_check_168 : decode cX8_check 168 = .ok (.iconst 0, 1) := by decide +kernel
theorem dX8_check_169 : decode cX8_check 169 = .ok (.ireturn, 1) := by decide +kernel
theorem dX8_keep_0 : decode cX8_keep 0 = .ok (.aload_n 0, 1) := by decide +kernel
theorem dX8_keep_1 : decode cX8_keep 1 = .ok (.getfield 64, 3) := by decide +kernel
theorem dX8_keep_4 : decode cX8_keep 4 = .ok (.aload_n 0, 1) := by decide +kernel
theorem dX8_keep_5 : decode cX8_keep 5 = .ok (.getfield 60, 3) := by decide +kernel
theorem dX8_keep_8 : decode cX8_keep 8 = .ok (.invokevirtual 211, 3) := by decide +kernel
theorem dX8_keep_11 : decode cX8_keep 11 = .ok (.aload_n 0, 1) := by decide +kernel
theorem dX8_keep_12 : decode cX8_keep 12 = .ok (.iconst 1, 1) := by decide +kernel
theorem dX8_keep_13 : decode cX8_keep 13 = .ok (.putfield 43, 3) := by decide +kernel
theorem dX8_keep_16 : decode cX8_keep 16 = .ok (.aload_n 0, 1) := by decide +kernel
theorem dX8_keep_17 : decode cX8_keep 17 = .ok (.getfield 60, 3) := by decide +kernel
theorem dX8_keep_20 : decode cX8_keep 20 = .ok (.getfield 82, 3) := by decide +kernel
theorem dX8_keep_23 : decode cX8_keep 23 = .ok (.getfield 117, 3) := by decide +kernel
theorem dX8_keep_26 : decode cX8_keep 26 = .ok (.ireturn, 1) := by decide +kernel
theorem dX8_back_0 : decode cX8_back 0 = .ok (.aload_n 0, 1) := by decide +kernel
theorem dX8_back_1 : decode cX8_back 1 = .ok (.getfield 43, 3) := by decide +kernel
theorem dX8_back_4 : decode cX8_back 4 = .ok (.ifCond .ne 7, 3) := by decide +kernel
theorem dX8_back_7 : decode cX8_back 7 = .ok (.ldc_w 321, 3) := by decide +kernel
theorem dX8_back_10 : decode cX8_back 10 = .ok (.ireturn, 1) := by decide +kernel
theorem dX8_back_11 : decode cX8_back 11 = .ok (.aload_n 0, 1) := by decide +kernel
theorem dX8_back_12 : decode cX8_back 12 = .ok (.getfield 60, 3) := by decide +kernel
theorem dX8_back_15 : decode cX8_back 15 = .ok (.aload_n 0, 1) := by decide +kernel
theorem dX8_back_16 : decode cX8_back 16 = .ok (.getfield 64, 3) := by decide +kernel
theorem dX8_back_19 : decode cX8_back 19 = .ok (.invokevirtual 211, 3) := by decide +kernel
theorem dX8_back_22 : decode cX8_back 22 = .ok (.aload_n 0, 1) := by decide +kernel
theorem dX8_back_23 : decode cX8_back 23 = .ok (.getfield 60, 3) := by decide +kernel
theorem dX8_back_26 : decode cX8_back 26 = .ok (.getfield 82, 3) := by decide +kernel
theorem dX8_back_29 : decode cX8_back 29 = .ok (.getfield 117, 3) := by decide +kernel
theorem dX8_back_32 : decode cX8_back 32 = .ok (.ireturn, 1) := by decide +kernel
theorem dX8_count_0 : decode cX8_count 0 = .ok (.iload_n 1, 1) := by decide +kernel
theorem dX8_count_1 : decode cX8_count 1 = .ok (.tableswitch 162 0 11 #[63, 74, 82, 90, 98, 106, 114, 122, 133, 141, 146, 154], 63) := by decide +kernel
theorem dX8_count_64 : decode cX8_count 64 = .ok (.aload_n 0, 1) := by decide +kernel
theorem dX8_count_65 : decode cX8_count 65 = .ok (.getfield 60, 3) := by decide +kernel
theorem dX8_count_68 : decode cX8_count 68 = .ok (.getfield 82, 3) := by decide +kernel
theorem dX8_count_71 : decode cX8_count 71 = .ok (.getfield 117, 3) := by decide +kernel
theorem dX8_count_74 : decode cX8_count 74 = .ok (.ireturn, 1) := by decide +kernel
theorem dX8_count_75 : decode cX8_count 75 = .ok (.aload_n 0, 1) := by decide +kernel
theorem dX8_count_76 : decode cX8_count 76 = .ok (.getfield 60, 3) := by decide +kernel
theorem dX8_count_79 : decode cX8_count 79 = .ok (.getfield 180, 3) := by decide +kernel
theorem dX8_count_82 : decode cX8_count 82 = .ok (.ireturn, 1) := by decide +kernel
theorem dX8_count_83 : decode cX8_count 83 = .ok (.aload_n 0, 1) := by decide +kernel
theorem dX8_count_84 : decode cX8_count 84 = .ok (.getfield 60, 3) := by decide +kernel
theorem dX8_count_87 : decode cX8_count 87 = .ok (.invokevirtual 325, 3) := by decide +kernel
theorem dX8_count_90 : decode cX8_count 90 = .ok (.ireturn, 1) := by decide +kernel
theorem dX8_count_91 : decode cX8_count 91 = .ok (.aload_n 0, 1) := by decide +kernel
theorem dX8_count_92 : decode cX8_count 92 = .ok (.getfield 60, 3) := by decide +kernel
theorem dX8_count_95 : decode cX8_count 95 = .ok (.getfield 124, 3) := by decide +kernel
theorem dX8_count_98 : decode cX8_count 98 = .ok (.ireturn, 1) := by decide +kernel
theorem dX8_count_99 : decode cX8_count 99 = .ok (.aload_n 0, 1) := by decide +kernel
theorem dX8_count_100 : decode cX8_count 100 = .ok (.getfield 60, 3) := by decide +kernel
theorem dX8_count_103 : decode cX8_count 103 = .ok (.getfield 127, 3) := by decide +kernel
theorem dX8_count_106 : decode cX8_count 106 = .ok (.ireturn, 1) := by decide +kernel
theorem dX8_count_107 : decode cX8_count 107 = .ok (.aload_n 0, 1) := by decide +kernel
theorem dX8_count_108 : decode cX8_count 108 = .ok (.getfield 60, 3) := by decide +kernel
theorem dX8_count_111 : decode cX8_count 111 = .ok (.getfield 130, 3) := by decide +kernel
theorem dX8_count_114 : decode cX8_count 114 = .ok (.ireturn, 1) := by decide +kernel
theorem dX8_count_115 : decode cX8_count 115 = .ok (.aload_n 0, 1) := by decide +kernel
theorem dX8_count_116 : decode cX8_count 116 = .ok (.getfield 60, 3) := by decide +kernel
theorem dX8_count_119 : decode cX8_count 119 = .ok (.getfield 195, 3) := by decide +kernel
theorem dX8_count_122 : decode cX8_count 122 = .ok (.ireturn, 1) := by decide +kernel
theorem dX8_count_123 : decode cX8_count 123 = .ok (.aload_n 0, 1) := by decide +kernel
theorem dX8_count_124 : decode cX8_count 124 = .ok (.getfield 60, 3) := by decide +kernel
theorem dX8_count_127 : decode cX8_count 127 = .ok (.getfield 82, 3) := by decide +kernel
theorem dX8_count_130 : decode cX8_count 130 = .ok (.invokevirtual 215, 3) := by decide +kernel
theorem dX8_count_133 : decode cX8_count 133 = .ok (.ireturn, 1) := by decide +kernel
theorem dX8_count_134 : decode cX8_count 134 = .ok (.aload_n 0, 1) := by decide +kernel
theorem dX8_count_135 : decode cX8_count 135 = .ok (.getfield 60, 3) := by decide +kernel
theorem dX8_count_138 : decode cX8_count 138 = .ok (.getfield 254, 3) := by decide +kernel
theorem dX8_count_141 : decode cX8_count 141 = .ok (.ireturn, 1) := by decide +kernel
theorem dX8_count_142 : decode cX8_count 142 = .ok (.aload_n 0, 1) := by decide +kernel
theorem dX8_count_143 : decode cX8_count 143 = .ok (.getfield 39, 3) := by decide +kernel
theorem dX8_count_146 : decode cX8_count 146 = .ok (.ireturn, 1) := by decide +kernel
theorem dX8_count_147 : decode cX8_count 147 = .ok (.aload_n 0, 1) := by decide +kernel
theorem dX8_count_148 : decode cX8_count 148 = .ok (.getfield 19, 3) := by decide +kernel
theorem dX8_count_151 : decode cX8_count 151 = .ok (.getfield 249, 3) := by decide +kernel
theorem dX8_count_154 : decode cX8_count 154 = .ok (.ireturn, 1) := by decide +kernel
theorem dX8_count_155 : decode cX8_count 155 = .ok (.aload_n 0, 1) := by decide +kernel
theorem dX8_count_156 : decode cX8_count 156 = .ok (.getfield 60, 3) := by decide +kernel
theorem dX8_count_159 : decode cX8_count 159 = .ok (.getfield 189, 3) := by decide +kernel
theorem dX8_count_162 : decode cX8_count 162 = .ok (.ireturn, 1) := by decide +kernel
theorem dX8_count_163 : decode cX8_count 163 = .ok (.ldc 81, 2) := by decide +kernel
theorem dX8_count_165 : decode cX8_count 165 = .ok (.ireturn, 1) := by decide +kernel
theorem dX8_within_0 : decode cX8_within 0 = .ok (.iload_n 0, 1) := by decide +kernel
theorem dX8_within_1 : decode cX8_within 1 = .ok (.iload_n 1, 1) := by decide +kernel
theorem dX8_within_2 : decode cX8_within 2 = .ok (.if_icmp .lt 12, 3) := by decide +kernel
theorem dX8_within_5 : decode cX8_within 5 = .ok (.iload_n 0, 1) := by decide +kernel
theorem dX8_within_6 : decode cX8_within 6 = .ok (.iload_n 2, 1) := by decide +kernel
theorem dX8_within_7 : decode cX8_within 7 = .ok (.if_icmp .gt 7, 3) := by decide +kernel
theorem dX8_within_10 : decode cX8_within 10 = .ok (.iconst 1, 1) := by decide +kernel
theorem dX8_within_11 : decode cX8_within 11 = .ok (.goto 4, 3) := by decide +kernel
theorem dX8_within_14 : decode cX8_within 14 = .ok (.iconst 0, 1) := by decide +kernel
theorem dX8_within_15 : decode cX8_within 15 = .ok (.ireturn, 1) := by decide +kernel
theorem dX8_held_0 : decode cX8_held 0 = .ok (.iload_n 1, 1) := by decide +kernel
theorem dX8_held_1 : decode cX8_held 1 = .ok (.iload_n 2, 1) := by decide +kernel
theorem dX8_held_2 : decode cX8_held 2 = .ok (.iload_n 0, 1) := by decide +kernel
theorem dX8_held_3 : decode cX8_held 3 = .ok (.invokestatic 120, 3) := by decide +kernel
theorem dX8_held_6 : decode cX8_held 6 = .ok (.invokestatic 328, 3) := by decide +kernel
theorem dX8_held_9 : decode cX8_held 9 = .ok (.ireturn, 1) := by decide +kernel
theorem dX8_isKind_0 : decode cX8_isKind 0 = .ok (.iload_n 0, 1) := by decide +kernel
theorem dX8_isKind_1 : decode cX8_isKind 1 = .ok (.iconst 0, 1) := by decide +kernel
theorem dX8_isKind_2 : decode cX8_isKind 2 = .ok (.getstatic 186, 3) := by decide +kernel
theorem dX8_isKind_5 : decode cX8_isKind 5 = .ok (.arraylength, 1) := by decide +kernel
theorem dX8_isKind_6 : decode cX8_isKind 6 = .ok (.iconst 1, 1) := by decide +kernel
theorem dX8_isKind_7 : decode cX8_isKind 7 = .ok (.isub, 1) := by decide +kernel
theorem dX8_isKind_8 : decode cX8_isKind 8 = .ok (.invokestatic 77, 3) := by decide +kernel
theorem dX8_isKind_11 : decode cX8_isKind 11 = .ok (.ireturn, 1) := by decide +kernel
theorem dX8_isSheet_0 : decode cX8_isSheet 0 = .ok (.iload_n 0, 1) := by decide +kernel
theorem dX8_isSheet_1 : decode cX8_isSheet 1 = .ok (.iconst 0, 1) := by decide +kernel
theorem dX8_isSheet_2 : decode cX8_isSheet 2 = .ok (.iconst 3, 1) := by decide +kernel
theorem dX8_isSheet_3 : decode cX8_isSheet 3 = .ok (.invokestatic 77, 3) := by decide +kernel
theorem dX8_isSheet_6 : decode cX8_isSheet 6 = .ok (.ireturn, 1) := by decide +kernel
theorem dX8_isSlot_0 : decode cX8_isSlot 0 = .ok (.iload_n 0, 1) := by decide +kernel
theorem dX8_isSlot_1 : decode cX8_isSlot 1 = .ok (.iconst 0, 1) := by decide +kernel
theorem dX8_isSlot_2 : decode cX8_isSlot 2 = .ok (.iconst 4, 1) := by decide +kernel
theorem dX8_isSlot_3 : decode cX8_isSlot 3 = .ok (.invokestatic 77, 3) := by decide +kernel
theorem dX8_isSlot_6 : decode cX8_isSlot 6 = .ok (.ireturn, 1) := by decide +kernel
end
section
theorem dX9_init_0 : decode cX9_init 0 = .ok (.aload_n 0, 1) := by decide +kernel
theorem dX9_init_1 : decode cX9_init 1 = .ok (.invokespecial 1, 3) := by decide +kernel
theorem dX9_init_4 : decode cX9_init 4 = .ok (.aload_n 0, 1) := by decide +kernel
theorem dX9_init_5 : decode cX9_init 5 = .ok (.sipush 3088, 3) := by decide +kernel
theorem dX9_init_8 : decode cX9_init 8 = .ok (.newarray .int, 2) := by decide +kernel
theorem dX9_init_10 : decode cX9_init 10 = .ok (.putfield 7, 3) := by decide +kernel
theorem dX9_init_13 : decode cX9_init 13 = .ok (.aload_n 0, 1) := by decide +kernel
theorem dX9_init_14 : decode cX9_init 14 = .ok (.sipush 3088, 3) := by decide +kernel
theorem dX9_init_17 : decode cX9_init 17 = .ok (.newarray .int, 2) := by decide +kernel
theorem dX9_init_19 : decode cX9_init 19 = .ok (.putfield 13, 3) := by decide +kernel
theorem dX9_init_22 : decode cX9_init 22 = .ok (.aload_n 0, 1) := by decide +kernel
theorem dX9_init_23 : decode cX9_init 23 = .ok (.sipush 3088, 3) := by decide +kernel
theorem dX9_init_26 : decode cX9_init 26 = .ok (.newarray .int, 2) := by decide +kernel
theorem dX9_init_28 : decode cX9_init 28 = .ok (.putfield 16, 3) := by decide +kernel
theorem dX9_init_31 : decode cX9_init 31 = .ok (.aload_n 0, 1) := by decide +kernel
theorem dX9_init_32 : decode cX9_init 32 = .ok (.iconst 4, 1) := by decide +kernel
theorem dX9_init_33 : decode cX9_init 33 = .ok (.newarray .int, 2) := by decide +kernel
theorem dX9_init_35 : decode cX9_init 35 = .ok (.putfield 19, 3) := by decide +kernel
theorem dX9_init_38 : decode cX9_init 38 = .ok (.aload_n 0, 1) := by decide +kernel
theorem dX9_init_39 : decode cX9_init 39 = .ok (.iconst 4, 1) := by decide +kernel
theorem dX9_init_40 : decode cX9_init 40 = .ok (.newarray .int, 2) := by decide +kernel
theorem dX9_init_42 : decode cX9_init 42 = .ok (.putfield 22, 3) := by decide +kernel
theorem dX9_init_45 : decode cX9_init 45 = .ok (.aload_n 0, 1) := by decide +kernel
theorem dX9_init_46 : decode cX9_init 46 = .ok (.bipush 96, 2) := by decide +kernel
theorem dX9_init_48 : decode cX9_init 48 = .ok (.newarray .int, 2) := by decide +kernel
theorem dX9_init_50 : decode cX9_init 50 = .ok (.putfield 25, 3) := by decide +kernel
theorem dX9_init_53 : decode cX9_init 53 = .ok (.aload_n 0, 1) := by decide +kernel
theorem dX9_init_54 : decode cX9_init 54 = .ok (.iconst 5, 1) := by decide +kernel
theorem dX9_init_55 : decode cX9_init 55 = .ok (.newarray .int, 2) := by decide +kernel
theorem dX9_init_57 : decode cX9_init 57 = .ok (.putfield 28, 3) := by decide +kernel
theorem dX9_init_60 : decode cX9_init 60 = .ok (.aload_n 0, 1) := by decide +kernel
theorem dX9_init_61 : decode cX9_init 61 = .ok (.iconst 5, 1) := by decide +kernel
theorem dX9_init_62 : decode cX9_init 62 = .ok (.newarray .int, 2) := by decide +kernel
theorem dX9_init_64 : decode cX9_init 64 = .ok (.putfield 31, 3) := by decide +kernel
theorem dX9_init_67 : decode cX9_init 67 = .ok (.aload_n 0, 1) := by decide +kernel
theorem dX9_init_68 : decode cX9_init 68 = .ok (.iconst 5, 1) := by decide +kernel
theorem dX9_init_69 : decode cX9_init 69 = .ok (.newarray .int, 2) := by decide +kernel
theorem dX9_init_71 : decode cX9_init 71 = .ok (.putfield 34, 3) := by decide +kernel
theorem dX9_init_74 : decode cX9_init 74 = .ok (.aload_n 0, 1) := by decide +kernel
theorem dX9_init_75 : decode cX9_init 75 = .ok (.iconst 5, 1) := by decide +kernel
theorem dX9_init_76 : decode cX9_init 76 = .ok (.newarray .int, 2) := by decide +kernel
theorem dX9_init_78 : decode cX9_init 78 = .ok (.putfield 37, 3) := by decide +kernel
theorem dX9_init_81 : decode cX9_init 81 = .ok (.aload_n 0, 1) := by decide +kernel
theorem dX9_init_82 : decode cX9_init 82 = .ok (.bipush 120, 2) := by decide +kernel
theorem dX9_init_84 : decode cX9_init 84 = .ok (.newarray .int, 2) := by decide +kernel
theorem dX9_init_86 : decode cX9_init 86 = .ok (.putfield 40, 3) := by decide +kernel
theorem dX9_init_89 : decode cX9_init 89 = .ok (.aload_n 0, 1) := by decide +kernel
theorem dX9_init_90 : decode cX9_init 90 = .ok (.bipush 88, 2) := by decide +kernel
theorem dX9_init_92 : decode cX9_init 92 = .ok (.newarray .int, 2) := by decide +kernel
theorem dX9_init_94 : decode cX9_init 94 = .ok (.putfield 43, 3) := by decide +kernel
theorem dX9_init_97 : decode cX9_init 97 = .ok (.aload_n 0, 1) := by decide +kernel
theorem dX9_init_98 : decode cX9_init 98 = .ok (.bipush 96, 2) := by decide +kernel
theorem dX9_init_100 : decode cX9_init 100 = .ok (.newarray .int, 2) := by decide +kernel
theorem dX9_init_102 : decode cX9_init 102 = .ok (.putfield 46, 3) := by decide +kernel
theorem dX9_init_105 : decode cX9_init 105 = .ok (.aload_n 0, 1) := by decide +kernel
theorem dX9_init_106 : decode cX9_init 106 = .ok (.sipush 128, 3) := by decide +kernel
theorem dX9_init_109 : decode cX9_init 109 = .ok (.newarray .int, 2) := by decide +kernel
theorem dX9_init_111 : decode cX9_init 111 = .ok (.putfield 49, 3) := by decide +kernel
theorem dX9_init_114 : decode cX9_init 114 = .ok (.aload_n 0, 1) := by decide +kernel
theorem dX9_init_115 : decode cX9_init 115 = .ok (.bipush 100, 2) := by decide +kernel
theorem dX9_init_117 : decode cX9_init 117 = .ok (.newarray .int, 2) := by decide +kernel
theorem dX9_init_119 : decode cX9_init 119 = .ok (.putfield 52, 3) := by decide +kernel
theorem dX9_init_122 : decode cX9_init 122 = .ok (.aload_n 0, 1) := by decide +kernel
theorem dX9_init_123 : decode cX9_init 123 = .ok (.bipush 24, 2) := by decide +kernel
theorem dX9_init_125 : decode cX9_init 125 = .ok (.newarray .int, 2) := by decide +kernel
theorem dX9_init_127 : decode cX9_init 127 = .ok (.putfield 55, 3) := by decide +kernel
theorem dX9_init_130 : decode cX9_init 130 = .ok (.aload_n 0, 1) := by decide +kernel
theorem dX9_init_131 : decode cX9_init 131 = .ok (.bipush 60, 2) := by decide +kernel
theorem dX9_init_133 : decode cX9_init 133 = .ok (.newarray .int, 2) := by decide +kernel
theorem dX9_init_135 : decode cX9_init 135 = .ok (.putfield 58, 3) := by decide +kernel
theorem dX9_init_138 : decode cX9_init 138 = .ok (.aload_n 0, 1) := by decide +kernel
theorem dX9_init_139 : decode cX9_init 139 = .ok (.bipush 60, 2) := by decide +kernel
theorem dX9_init_141 : decode cX9_init 141 = .ok (.newarray .int, 2) := by decide +kernel
theorem dX9_init_143 : decode cX9_init 143 = .ok (.putfield 61, 3) := by decide +kernel
theorem dX9_init_146 : decode cX9_init 146 = .ok (.aload_n 0, 1) := by decide +kernel
theorem dX9_init_147 : decode cX9_init 147 = .ok (.getfield 7, 3) := by decide +kernel
theorem dX9_init_150 : decode cX9_init 150 = .ok (.bipush 10, 2) := by decide +kernel
theorem dX9_init_152 : decode cX9_init 152 = .ok (.iconst 1, 1) := by decide +kernel
theorem dX9_init_153 : decode cX9_init 153 = .ok (.iastore, 1) := by decide +kernel
theorem dX9_init_154 : decode cX9_init 154 = .ok (.aload_n 0, 1) := by decide +kernel
theorem dX9_init_155 : decode cX9_init 155 = .ok (.getfield 7, 3) := by decide +kernel
theorem dX9_init_158 : decode cX9_init 158 = .ok (.iconst 3, 1) := by decide +kernel
theorem dX9_init_159 : decode cX9_init 159 = .ok (.bipush 100, 2) := by decide +kernel
theorem dX9_init_161 : decode cX9_init 161 = .ok (.iastore, 1) := by decide +kernel
theorem dX9_init_162 : decode cX9_init 162 = .ok (.aload_n 0, 1) := by decide +kernel
theorem dX9_init_163 : decode cX9_init 163 = .ok (.getfield 7, 3) := by decide +kernel
theorem dX9_init_166 : decode cX9_init 166 = .ok (.iconst 4, 1) := by decide +kernel
theorem dX9_init_167 : decode cX9_init 167 = .ok (.iconst 3, 1) := by decide +kernel
theorem dX9_init_168 : decode cX9_init 168 = .ok (.iastore, 1) := by decide +kernel
theorem dX9_init_169 : decode cX9_init 169 = .ok (.aload_n 0, 1) := by decide +kernel
theorem dX9_init_170 : decode cX9_init 170 = .ok (.getfield 7, 3) := by decide +kernel
theorem dX9_init_173 : decode cX9_init 173 = .ok (.iconst 5, 1) := by decide +kernel
theorem dX9_init_174 : decode cX9_init 174 = .ok (.iconst 5, 1) := by decide +kernel
theorem dX9_init_175 : decode cX9_init 175 = .ok (.iastore, 1) := by decide +kernel
theorem dX9_init_176 : decode cX9_init 176 = .ok (.iconst 0, 1) := by decide +kernel
theorem dX9_init_177 : decode cX9_init 177 = .ok (.istore_n 1, 1) := by decide +kernel
theorem dX9_init_178 : decode cX9_init 178 = .ok (.iload_n 1, 1) := by decide +kernel
theorem dX9_init_179 : decode cX9_init 179 = .ok (.iconst 4, 1) := by decide +kernel
theorem dX9_init_180 : decode cX9_init 180 = .ok (.if_icmp .ge 16, 3) := by decide +kernel
theorem dX9_init_183 : decode cX9_init 183 = .ok (.aload_n 0, 1) := by decide +kernel
theorem dX9_init_184 : decode cX9_init 184 = .ok (.getfield 19, 3) := by decide +kernel
theorem dX9_init_187 : decode cX9_init 187 = .ok (.iload_n 1, 1) := by decide +kernel
theorem dX9_init_188 : decode cX9_init 188 = .ok (.iconst (-1), 1) := by decide +kernel
theorem dX9_init_189 : decode cX9_init 189 = .ok (.iastore, 1) := by decide +kernel
theorem dX9_init_190 : decode cX9_init 190 = .ok (.iinc 1 1, 3) := by decide +kernel
theorem dX9_init_193 : decode cX9_init 193 = .ok (.goto (-15), 3) := by decide +kernel
theorem dX9_init_196 : decode cX9_init 196 = .ok (.return_, 1) := by decide +kernel
theorem dX9_isIn_0 : decode cX9_isIn 0 = .ok (.lload_n 0, 1) := by decide +kernel
theorem dX9_isIn_1 : decode cX9_isIn 1 = .ok (.lload_n 2, 1) := by decide +kernel
theorem dX9_isIn_2 : decode cX9_isIn 2 = .ok (.lcmp, 1) := by decide +kernel
theorem dX9_isIn_3 : decode cX9_isIn 3 = .ok (.ifCond .lt 14, 3) := by decide +kernel
theorem dX9_isIn_6 : decode cX9_isIn 6 = .ok (.lload_n 0, 1) := by decide +kernel
theorem dX9_isIn_7 : decode cX9_isIn 7 = .ok (.lload 4, 2) := by decide +kernel
theorem dX9_isIn_9 : decode cX9_isIn 9 = .ok (.lcmp, 1) := by decide +kernel
theorem dX9_isIn_10 : decode cX9_isIn 10 = .ok (.ifCond .gt 7, 3) := by decide +kernel
theorem dX9_isIn_13 : decode cX9_isIn 13 = .ok (.iconst 1, 1) := by decide +kernel
theorem dX9_isIn_14 : decode cX9_isIn 14 = .ok (.goto 4, 3) := by decide +kernel
theorem dX9_isIn_17 : decode cX9_isIn 17 = .ok (.iconst 0, 1) := by decide +kernel
theorem dX9_isIn_18 : decode cX9_isIn 18 = .ok (.ireturn, 1) := by decide +kernel
theorem dX9_orNone_0 : decode cX9_orNone 0 = .ok (.iload_n 0, 1) := by decide +kernel
theorem dX9_orNone_1 : decode cX9_orNone 1 = .ok (.ifCond .ge 8, 3) := by decide +kernel
theorem dX9_orNone_4 : decode cX9_orNone 4 = .ok (.ldc 64, 2) := by decide +kernel
theorem dX9_orNone_6 : decode cX9_orNone 6 = .ok (.goto 4, 3) := by decide +kernel
theorem dX9_orNone_9 : decode cX9_orNone 9 = .ok (.iload_n 0, 1) := by decide +kernel
theorem dX9_orNone_10 : decode cX9_orNone 10 = .ok (.ireturn, 1) := by decide +kernel
theorem dX9_within_0 : decode cX9_within 0 = .ok (.iload_n 0, 1) := by decide +kernel
theorem dX9_within_1 : decode cX9_within 1 = .ok (.ifCond .ge 7, 3) := by decide +kernel
theorem dX9_within_4 : decode cX9_within 4 = .ok (.iconst 0, 1) := by decide +kernel
theorem dX9_within_5 : decode cX9_within 5 = .ok (.goto 13, 3) := by decide +kernel
theorem dX9_within_8 : decode cX9_within 8 = .ok (.iload_n 0, 1) := by decide +kernel
theorem dX9_within_9 : decode cX9_within 9 = .ok (.iload_n 1, 1) := by decide +kernel
theorem dX9_within_10 : decode cX9_within 10 = .ok (.if_icmp .le 7, 3) := by decide +kernel
theorem dX9_within_13 : decode cX9_within 13 = .ok (.iload_n 1, 1) := by decide +kernel
theorem dX9_within_14 : decode cX9_within 14 = .ok (.goto 4, 3) := by decide +kernel
theorem dX9_within_17 : decode cX9_within 17 = .ok (.iload_n 0, 1) := by decide +kernel
theorem dX9_within_18 : decode cX9_within 18 = .ok (.ireturn, 1) := by decide +kernel
theorem dX9_off_0 : decode cX9_off 0 = .ok (.iload_n 0, 1) := by decide +kernel
theorem dX9_off_1 : decode cX9_off 1 = .ok (.iload_n 1, 1) := by decide +kernel
theorem dX9_off_2 : decode cX9_off 2 = .ok (.if_icmp .ge 9, 3) := by decide +kernel
theorem dX9_off_5 : decode cX9_off 5 = .ok (.iload_n 1, 1) := by decide +kernel
theorem dX9_off_6 : decode cX9_off 6 = .ok (.iload_n 0, 1) := by decide +kernel
theorem dX9_off_7 : decode cX9_off 7 = .ok (.isub, 1) := by decide +kernel
theorem dX9_off_8 : decode cX9_off 8 = .ok (.goto 6, 3) := by decide +kernel
theorem dX9_off_11 : decode cX9_off 11 = .ok (.iload_n 0, 1) := by decide +kernel
theorem dX9_off_12 : decode cX9_off 12 = .ok (.iload_n 1, 1) := by decide +kernel
theorem dX9_off_13 : decode cX9_off 13 = .ok (.isub, 1) := by decide +kernel
theorem dX9_off_14 : decode cX9_off 14 = .ok (.ireturn, 1) := by decide +kernel
theorem dX9_becomes_0 : decode cX9_becomes 0 = .ok (.aload_n 0, 1) := by decide +kernel
theorem dX9_becomes_1 : decode cX9_becomes 1 = .ok (.getfield 7, 3) := by decide +kernel
theorem dX9_becomes_4 : decode cX9_becomes 4 = .ok (.iload_n 1, 1) := by decide +kernel
theorem dX9_becomes_5 : decode cX9_becomes 5 = .ok (.iaload, 1) := by decide +kernel
theorem dX9_becomes_6 : decode cX9_becomes 6 = .ok (.istore_n 3, 1) := by decide +kernel
theorem dX9_becomes_7 : decode cX9_becomes 7 = .ok (.aload_n 0, 1) := by decide +kernel
theorem dX9_becomes_8 : decode cX9_becomes 8 = .ok (.getfield 7, 3) := by decide +kernel
theorem dX9_becomes_11 : decode cX9_becomes 11 = .ok (.iload_n 1, 1) := by decide +kernel
theorem dX9_becomes_12 : decode cX9_becomes 12 = .ok (.iload_n 2, 1) := by decide +kernel
theorem dX9_becomes_13 : decode cX9_becomes 13 = .ok (.iastore, 1) := by decide +kernel
theorem dX9_becomes_14 : decode cX9_becomes 14 = .ok (.iload_n 3, 1) := by decide +kernel
theorem dX9_becomes_15 : decode cX9_becomes 15 = .ok (.ireturn, 1) := by decide +kernel
theorem dX9_textAt_0 : decode cX9_textAt 0 = .ok (.bipush 88, 2) := by decide +kernel
theorem dX9_textAt_2 : decode cX9_textAt 2 = .ok (.sipush 200, 3) := by decide +kernel
theorem dX9_textAt_5 : decode cX9_textAt 5 = .ok (.iload_n 1, 1) := by decide +kernel
theorem dX9_textAt_6 : decode cX9_textAt 6 = .ok (.imul, 1) := by decide +kernel
theorem dX9_textAt_7 : decode cX9_textAt 7 = .ok (.iadd, 1) := by decide +kernel
theorem dX9_textAt_8 : decode cX9_textAt 8 = .ok (.ireturn, 1) := by decide +kernel
theorem dX9_wagonsOwn_0 : decode cX9_wagonsOwn 0 = .ok (.aload_n 0, 1) := by decide +kernel
theorem dX9_wagonsOwn_1 : decode cX9_wagonsOwn 1 = .ok (.getfield 7, 3) := by decide +kernel
theorem dX9_wagonsOwn_4 : decode cX9_wagonsOwn 4 = .ok (.bipush 12, 2) := by decide +kernel
theorem dX9_wagonsOwn_6 : decode cX9_wagonsOwn 6 = .ok (.iconst 3, 1) := by decide +kernel
theorem dX9_wagonsOwn_7 : decode cX9_wagonsOwn 7 = .ok (.iload_n 1, 1) := by decide +kernel
theorem dX9_wagonsOwn_8 : decode cX9_wagonsOwn 8 = .ok (.imul, 1) := by decide +kernel
theorem dX9_wagonsOwn_9 : decode cX9_wagonsOwn 9 = .ok (.iadd, 1) := by decide +kernel
theorem dX9_wagonsOwn_10 : decode cX9_wagonsOwn 10 = .ok (.iload_n 2, 1) := by decide +kernel
theorem dX9_wagonsOwn_11 : decode cX9_wagonsOwn 11 = .ok (.iadd, 1) := by decide +kernel
theorem dX9_wagonsOwn_12 : decode cX9_wagonsOwn 12 = .ok (.iaload, 1) := by decide +kernel
theorem dX9_wagonsOwn_13 : decode cX9_wagonsOwn 13 = .ok (.ireturn, 1) := by decide +kernel
theorem dX9_of_0 : decode cX9_of 0 = .ok (.aload_n 0, 1) := by decide +kernel
theorem dX9_of_1 : decode cX9_of 1 = .ok (.getfield 7, 3) := by decide +kernel
theorem dX9_of_4 : decode cX9_of 4 = .ok (.bipush 48, 2) := by decide +kernel
theorem dX9_of_6 : decode cX9_of 6 = .ok (.iconst 5, 1) := by decide +kernel
theorem dX9_of_7 : decode cX9_of 7 = .ok (.iload_n 1, 1) := by decide +kernel
theorem dX9_of_8 : decode cX9_of 8 = .ok (.imul, 1) := by decide +kernel
theorem dX9_of_9 : decode cX9_of 9 = .ok (.iadd, 1) := by decide +kernel
theorem dX9_of_10 : decode cX9_of 10 = .ok (.iload_n 2, 1) := by decide +kernel
theorem dX9_of_11 : decode cX9_of 11 = .ok (.iadd, 1) := by decide +kernel
theorem dX9_of_12 : decode cX9_of 12 = .ok (.iaload, 1) := by decide +kernel
theorem dX9_of_13 : decode cX9_of 13 = .ok (.ireturn, 1) := by decide +kernel
theorem dX9_isWagon_0 : decode cX9_isWagon 0 = .ok (.iload_n 1, 1) := by decide +kernel
theorem dX9_isWagon_1 : decode cX9_isWagon 1 = .ok (.i2l, 1) := by decide +kernel
theorem dX9_isWagon_2 : decode cX9_isWagon 2 = .ok (.lconst 0, 1) := by decide +kernel
theorem dX9_isWagon_3 : decode cX9_isWagon 3 = .ok (.aload_n 0, 1) := by decide +kernel
theorem dX9_isWagon_4 : decode cX9_isWagon 4 = .ok (.getfield 7, 3) := by decide +kernel
theorem dX9_isWagon_7 : decode cX9_isWagon 7 = .ok (.iconst 0, 1) := by decide +kernel
theorem dX9_isWagon_8 : decode cX9_isWagon 8 = .ok (.iaload, 1) := by decide +kernel
theorem dX9_isWagon_9 : decode cX9_isWagon 9 = .ok (.iconst 1, 1) := by decide +kernel
theorem dX9_isWagon_10 : decode cX9_isWagon 10 = .ok (.isub, 1) := by decide +kernel
theorem dX9_isWagon_11 : decode cX9_isWagon 11 = .ok (.i2l, 1) := by decide +kernel
theorem dX9_isWagon_12 : decode cX9_isWagon 12 = .ok (.invokestatic 65, 3) := by decide +kernel
theorem dX9_isWagon_15 : decode cX9_isWagon 15 = .ok (.ireturn, 1) := by decide +kernel
theorem dX9_isWatcher_0 : decode cX9_isWatcher 0 = .ok (.iload_n 1, 1) := by decide +kernel
theorem dX9_isWatcher_1 : decode cX9_isWatcher 1 = .ok (.i2l, 1) := by decide +kernel
theorem dX9_isWatcher_2 : decode cX9_isWatcher 2 = .ok (.lconst 0, 1) := by decide +kernel
theorem dX9_isWatcher_3 : decode cX9_isWatcher 3 = .ok (.aload_n 0, 1) := by decide +kernel
theorem dX9_isWatcher_4 : decode cX9_isWatcher 4 = .ok (.getfield 7, 3) := by decide +kernel
theorem dX9_isWatcher_7 : decode cX9_isWatcher 7 = .ok (.iconst 1, 1) := by decide +kernel
theorem dX9_isWatcher_8 : decode cX9_isWatcher 8 = .ok (.iaload, 1) := by decide +kernel
theorem dX9_isWatcher_9 : decode cX9_isWatcher 9 = .ok (.iconst 1, 1) := by decide +kernel
theorem dX9_isWatcher_10 : decode cX9_isWatcher 10 = .ok (.isub, 1) := by decide +kernel
theorem dX9_isWatcher_11 : decode cX9_isWatcher 11 = .ok (.i2l, 1) := by decide +kernel
theorem dX9_isWatcher_12 : decode cX9_isWatcher 12 = .ok (.invokestatic 65, 3) := by decide +kernel
theorem dX9_isWatcher_15 : decode cX9_isWatcher 15 = .ok (.ireturn, 1) := by decide +kernel
theorem dX9_isText_0 : decode cX9_isText 0 = .ok (.iload_n 1, 1) := by decide +kernel
theorem dX9_isText_1 : decode cX9_isText 1 = .ok (.i2l, 1) := by decide +kernel
theorem dX9_isText_2 : decode cX9_isText 2 = .ok (.lconst 0, 1) := by decide +kernel
theorem dX9_isText_3 : decode cX9_isText 3 = .ok (.aload_n 0, 1) := by decide +kernel
theorem dX9_isText_4 : decode cX9_isText 4 = .ok (.getfield 7, 3) := by decide +kernel
theorem dX9_isText_7 : decode cX9_isText 7 = .ok (.iconst 2, 1) := by decide +kernel
theorem dX9_isText_8 : decode cX9_isText 8 = .ok (.iaload, 1) := by decide +kernel
theorem dX9_isText_9 : decode cX9_isText 9 = .ok (.iconst 1, 1) := by decide +kernel
theorem dX9_isText_10 : decode cX9_isText 10 = .ok (.isub, 1) := by decide +kernel
theorem dX9_isText_11 : decode cX9_isText 11 = .ok (.i2l, 1) := by decide +kernel
theorem dX9_isText_12 : decode cX9_isText 12 = .ok (.invokestatic 65, 3) := by decide +kernel
theorem dX9_isText_15 : decode cX9_isText 15 = .ok (.ireturn, 1) := by decide +kernel
theorem dX9_drawn_0 : decode cX9_drawn 0 = .ok (.aload_n 0, 1) := by decide +kernel
theorem dX9_drawn_1 : decode cX9_drawn 1 = .ok (.getfield 7, 3) := by decide +kernel
theorem dX9_drawn_4 : decode cX9_drawn 4 = .ok (.bipush 10, 2) := by decide +kernel
theorem dX9_drawn_6 : decode cX9_drawn 6 = .ok (.aload_n 0, 1) := by decide +kernel
theorem dX9_drawn_7 : decode cX9_drawn 7 = .ok (.getfield 7, 3) := by decide +kernel
theorem dX9_drawn_10 : decode cX9_drawn 10 = .ok (.bipush 10, 2) := by decide +kernel
theorem dX9_drawn_12 : decode cX9_drawn 12 = .ok (.iaload, 1) := by decide +kernel
theorem dX9_drawn_13 : decode cX9_drawn 13 = .ok (.ldc 69, 2) := by decide +kernel
theorem dX9_drawn_15 : decode cX9_drawn 15 = .ok (.imul, 1) := by decide +kernel
theorem dX9_drawn_16 : decode cX9_drawn 16 = .ok (.sipush 12345, 3) := by decide +kernel
theorem dX9_drawn_19 : decode cX9_drawn 19 = .ok (.iadd, 1) := by decide +kernel
theorem dX9_drawn_20 : decode cX9_drawn 20 = .ok (.iastore, 1) := by decide +kernel
theorem dX9_drawn_21 : decode cX9_drawn 21 = .ok (.aload_n 0, 1) := by decide +kernel
theorem dX9_drawn_22 : decode cX9_drawn 22 = .ok (.getfield 7, 3) := by decide +kernel
theorem dX9_drawn_25 : decode cX9_drawn 25 = .ok (.bipush 10, 2) := by decide +kernel
theorem dX9_drawn_27 : decode cX9_drawn 27 = .ok (.iaload, 1) := by decide +kernel
theorem dX9_drawn_28 : decode cX9_drawn 28 = .ok (.bipush 8, 2) := by decide +kernel
theorem dX9_drawn_30 : decode cX9_drawn 30 = .ok (.iushr, 1) := by decide +kernel
theorem dX9_drawn_31 : decode cX9_drawn 31 = .ok (.ireturn, 1) := by decide +kernel
theorem dX9_wagon_0 : decode cX9_wagon 0 = .ok (.iload_n 1, 1) := by decide +kernel
theorem dX9_wagon_1 : decode cX9_wagon 1 = .ok (.i2l, 1) := by decide +kernel
theorem dX9_wagon_2 : decode cX9_wagon 2 = .ok (.lconst 0, 1) := by decide +kernel
theorem dX9_wagon_3 : decode cX9_wagon 3 = .ok (.ldc2_w 70, 3) := by decide +kernel
theorem dX9_wagon_6 : decode cX9_wagon 6 = .ok (.invokestatic 65, 3) := by decide +kernel
theorem dX9_wagon_9 : decode cX9_wagon 9 = .ok (.ifCond .ne 6, 3) := by decide +kernel
theorem dX9_wagon_12 : decode cX9_wagon 12 = .ok (.ldc 72, 2) := by decide +kernel
theorem dX9_wagon_14 : decode cX9_wagon 14 = .ok (.ireturn, 1) := by decide +kernel
theorem dX9_wagon_15 : decode cX9_wagon 15 = .ok (.aload_n 0, 1) := by decide +kernel
theorem dX9_wagon_16 : decode cX9_wagon 16 = .ok (.getfield 7, 3) := by decide +kernel
theorem dX9_wagon_19 : decode cX9_wagon 19 = .ok (.iconst 0, 1) := by decide +kernel
theorem dX9_wagon_20 : decode cX9_wagon 20 = .ok (.iaload, 1) := by decide +kernel
theorem dX9_wagon_21 : decode cX9_wagon 21 = .ok (.bipush 12, 2) := by decide +kernel
theorem dX9_wagon_23 : decode cX9_wagon 23 = .ok (.if_icmp .ne 6, 3) := by decide +kernel
theorem dX9_wagon_26 : decode cX9_wagon 26 = .ok (.ldc 73, 2) := by decide +kernel
theorem dX9_wagon_28 : decode cX9_wagon 28 = .ok (.ireturn, 1) := by decide +kernel
theorem dX9_wagon_29 : decode cX9_wagon 29 = .ok (.bipush 12, 2) := by decide +kernel
theorem dX9_wagon_31 : decode cX9_wagon 31 = .ok (.iconst 3, 1) := by decide +kernel
theorem dX9_wagon_32 : decode cX9_wagon 32 = .ok (.aload_n 0, 1) := by decide +kernel
theorem dX9_wagon_33 : decode cX9_wagon 33 = .ok (.getfield 7, 3) := by decide +kernel
theorem dX9_wagon_36 : decode cX9_wagon 36 = .ok (.iconst 0, 1) := by decide +kernel
theorem dX9_wagon_37 : decode cX9_wagon 37 = .ok (.iaload, 1) := by decide +kernel
theorem dX9_wagon_38 : decode cX9_wagon 38 = .ok (.imul, 1) := by decide +kernel
theorem dX9_wagon_39 : decode cX9_wagon 39 = .ok (.iadd, 1) := by decide +kernel
theorem dX9_wagon_40 : decode cX9_wagon 40 = .ok (.istore_n 2, 1) := by decide +kernel
theorem dX9_wagon_41 : decode cX9_wagon 41 = .ok (.aload_n 0, 1) := by decide +kernel
theorem dX9_wagon_42 : decode cX9_wagon 42 = .ok (.getfield 7, 3) := by decide +kernel
theorem dX9_wagon_45 : decode cX9_wagon 45 = .ok (.iload_n 2, 1) := by decide +kernel
theorem dX9_wagon_46 : decode cX9_wagon 46 = .ok (.iload_n 1, 1) := by decide +kernel
theorem dX9_wagon_47 : decode cX9_wagon 47 = .ok (.iastore, 1) := by decide +kernel
theorem dX9_wagon_48 : decode cX9_wagon 48 = .ok (.aload_n 0, 1) := by decide +kernel
theorem dX9_wagon_49 : decode cX9_wagon 49 = .ok (.getfield 7, 3) := by decide +kernel
theorem dX9_wagon_52 : decode cX9_wagon 52 = .ok (.iload_n 2, 1) := by decide +kernel
theorem dX9_wagon_53 : decode cX9_wagon 53 = .ok (.iconst 1, 1) := by decide +kernel
theorem dX9_wagon_54 : decode cX9_wagon 54 = .ok (.iadd, 1) := by decide +kernel
theorem dX9_wagon_55 : decode cX9_wagon 55 = .ok (.iconst 0, 1) := by decide +kernel
theorem dX9_wagon_56 : decode cX9_wagon 56 = .ok (.iastore, 1) := by decide +kernel
theorem dX9_wagon_57 : decode cX9_wagon 57 = .ok (.aload_n 0, 1) := by decide +kernel
theorem dX9_wagon_58 : decode cX9_wagon 58 = .ok (.getfield 7, 3) := by decide +kernel
theorem dX9_wagon_61 : decode cX9_wagon 61 = .ok (.iload_n 2, 1) := by decide +kernel
theorem dX9_wagon_62 : decode cX9_wagon 62 = .ok (.iconst 2, 1) := by decide +kernel
theorem dX9_wagon_63 : decode cX9_wagon 63 = .ok (.iadd, 1) := by decide +kernel
theorem dX9_wagon_64 : decode cX9_wagon 64 = .ok (.iconst 0, 1) := by decide +kernel
theorem dX9_wagon_65 : decode cX9_wagon 65 = .ok (.iastore, 1) := by decide +kernel
theorem dX9_wagon_66 : decode cX9_wagon 66 = .ok (.aload_n 0, 1) := by decide +kernel
theorem dX9_wagon_67 : decode cX9_wagon 67 = .ok (.getfield 7, 3) := by decide +kernel
theorem dX9_wagon_70 : decode cX9_wagon 70 = .ok (.iconst 0, 1) := by decide +kernel
theorem dX9_wagon_71 : decode cX9_wagon 71 = .ok (.dup2, 1) := by decide +kernel
theorem dX9_wagon_72 : decode cX9_wagon 72 = .ok (.iaload, 1) := by decide +kernel
theorem dX9_wagon_73 : decode cX9_wagon 73 = .ok (.iconst 1, 1) := by decide +kernel
theorem dX9_wagon_74 : decode cX9_wagon 74 = .ok (.iadd, 1) := by decide +kernel
theorem dX9_wagon_75 : decode cX9_wagon 75 = .ok (.iastore, 1) := by decide +kernel
theorem dX9_wagon_76 : decode cX9_wagon 76 = .ok (.aload_n 0, 1) := by decide +kernel
theorem dX9_wagon_77 : decode cX9_wagon 77 = .ok (.getfield 7, 3) := by decide +kernel
theorem dX9_wagon_80 : decode cX9_wagon 80 = .ok (.iconst 0, 1) := by decide +kernel
theorem dX9_wagon_81 : decode cX9_wagon 81 = .ok (.iaload, 1) := by decide +kernel
theorem dX9_wagon_82 : decode cX9_wagon 82 = .ok (.iconst 1, 1) := by decide +kernel
theorem dX9_wagon_83 : decode cX9_wagon 83 = .ok (.isub, 1) := by decide +kernel
theorem dX9_wagon_84 : decode cX9_wagon 84 = .ok (.ireturn, 1) := by decide +kernel
theorem dX9_nextFires_0 : decode cX9_nextFires 0 = .ok (.aload_n 0, 1) := by decide +kernel
theorem dX9_nextFires_1 : decode cX9_nextFires 1 = .ok (.getfield 7, 3) := by decide +kernel
theorem dX9_nextFires_4 : decode cX9_nextFires 4 = .ok (.iconst 0, 1) := by decide +kernel
theorem dX9_nextFires_5 : decode cX9_nextFires 5 = .ok (.iaload, 1) := by decide +kernel
theorem dX9_nextFires_6 : decode cX9_nextFires 6 = .ok (.istore_n 2, 1) := by decide +kernel
theorem dX9_nextFires_7 : decode cX9_nextFires 7 = .ok (.iload_n 2, 1) := by decide +kernel
theorem dX9_nextFires_8 : decode cX9_nextFires 8 = .ok (.iconst 3, 1) := by decide +kernel
theorem dX9_nextFires_9 : decode cX9_nextFires 9 = .ok (.if_icmp .ge 21, 3) := by decide +kernel
theorem dX9_nextFires_12 : decode cX9_nextFires 12 = .ok (.iload_n 2, 1) := by decide +kernel
theorem dX9_nextFires_13 : decode cX9_nextFires 13 = .ok (.iconst 2, 1) := by decide +kernel
theorem dX9_nextFires_14 : decode cX9_nextFires 14 = .ok (.if_icmp .ge 7, 3) := by decide +kernel
theorem dX9_nextFires_17 : decode cX9_nextFires 17 = .ok (.iconst 0, 1) := by decide +kernel
theorem dX9_nextFires_18 : decode cX9_nextFires 18 = .ok (.goto 11, 3) := by decide +kernel
theorem dX9_nextFires_21 : decode cX9_nextFires 21 = .ok (.aload_n 0, 1) := by decide +kernel
theorem dX9_nextFires_22 : decode cX9_nextFires 22 = .ok (.iconst 1, 1) := by decide +kernel
theorem dX9_nextFires_23 : decode cX9_nextFires 23 = .ok (.iload_n 1, 1) := by decide +kernel
theorem dX9_nextFires_24 : decode cX9_nextFires 24 = .ok (.isub, 1) := by decide +kernel
theorem dX9_nextFires_25 : decode cX9_nextFires 25 = .ok (.iconst 1, 1) := by decide +kernel
theorem dX9_nextFires_26 : decode cX9_nextFires 26 = .ok (.invokevirtual 74, 3) := by decide +kernel
theorem dX9_nextFires_29 : decode cX9_nextFires 29 = .ok (.ireturn, 1) := by decide +kernel
theorem dX9_nextFires_30 : decode cX9_nextFires 30 = .ok (.aload_n 0, 1) := by decide +kernel
theorem dX9_nextFires_31 : decode cX9_nextFires 31 = .ok (.iload_n 1, 1) := by decide +kernel
theorem dX9_nextFires_32 : decode cX9_nextFires 32 = .ok (.iconst 1, 1) := by decide +kernel
theorem dX9_nextFires_33 : decode cX9_nextFires 33 = .ok (.iadd, 1) := by decide +kernel
theorem dX9_nextFires_34 : decode cX9_nextFires 34 = .ok (.iload_n 2, 1) := by decide +kernel
theorem dX9_nextFires_35 : decode cX9_nextFires 35 = .ok (.irem, 1) := by decide +kernel
theorem dX9_nextFires_36 : decode cX9_nextFires 36 = .ok (.iconst 1, 1) := by decide +kernel
theorem dX9_nextFires_37 : decode cX9_nextFires 37 = .ok (.invokevirtual 74, 3) := by decide +kernel
theorem dX9_nextFires_40 : decode cX9_nextFires 40 = .ok (.aload_n 0, 1) := by decide +kernel
theorem dX9_nextFires_41 : decode cX9_nextFires 41 = .ok (.iload_n 1, 1) := by decide +kernel
theorem dX9_nextFires_42 : decode cX9_nextFires 42 = .ok (.iload_n 2, 1) := by decide +kernel
theorem dX9_nextFires_43 : decode cX9_nextFires 43 = .ok (.iadd, 1) := by decide +kernel
theorem dX9_nextFires_44 : decode cX9_nextFires 44 = .ok (.iconst 1, 1) := by decide +kernel
theorem dX9_nextFires_45 : decode cX9_nextFires 45 = .ok (.isub, 1) := by decide +kernel
theorem dX9_nextFires_46 : decode cX9_nextFires 46 = .ok (.iload_n 2, 1) := by decide +kernel
theorem dX9_nextFires_47 : decode cX9_nextFires 47 = .ok (.irem, 1) := by decide +kernel
theorem dX9_nextFires_48 : decode cX9_nextFires 48 = .ok (.iconst 1, 1) := by decide +kernel
theorem dX9_nextFires_49 : decode cX9_nextFires 49 = .ok (.invokevirtual 74, 3) := by decide +kernel
theorem dX9_nextFires_52 : decode cX9_nextFires 52 = .ok (.iadd, 1) := by decide +kernel
theorem dX9_nextFires_53 : decode cX9_nextFires 53 = .ok (.ireturn, 1) := by decide +kernel
theorem dX9_light_0 : decode cX9_light 0 = .ok (.aload_n 0, 1) := by decide +kernel
theorem dX9_light_1 : decode cX9_light 1 = .ok (.iload_n 1, 1) := by decide +kernel
theorem dX9_light_2 : decode cX9_light 2 = .ok (.iconst 1, 1) := by decide +kernel
theorem dX9_light_3 : decode cX9_light 3 = .ok (.invokevirtual 74, 3) := by decide +kernel
theorem dX9_light_6 : decode cX9_light 6 = .ok (.istore_n 2, 1) := by decide +kernel
theorem dX9_light_7 : decode cX9_light 7 = .ok (.aload_n 0, 1) := by decide +kernel
theorem dX9_light_8 : decode cX9_light 8 = .ok (.iload_n 1, 1) := by decide +kernel
theorem dX9_light_9 : decode cX9_light 9 = .ok (.invokevirtual 78, 3) := by decide +kernel
theorem dX9_light_12 : decode cX9_light 12 = .ok (.istore_n 3, 1) := by decide +kernel
theorem dX9_light_13 : decode cX9_light 13 = .ok (.aload_n 0, 1) := by decide +kernel
theorem dX9_light_14 : decode cX9_light 14 = .ok (.iconst 0, 1) := by decide +kernel
theorem dX9_light_15 : decode cX9_light 15 = .ok (.invokevirtual 82, 3) := by decide +kernel
theorem dX9_light_18 : decode cX9_light 18 = .ok (.istore 4, 2) := by decide +kernel
theorem dX9_light_20 : decode cX9_light 20 = .ok (.iload 4, 2) := by decide +kernel
theorem dX9_light_22 : decode cX9_light 22 = .ok (.ifCond .ge 9, 3) := by decide +kernel
theorem dX9_light_25 : decode cX9_light 25 = .ok (.iconst 2, 1) := by decide +kernel
theorem dX9_light_26 : decode cX9_light 26 = .ok (.iload_n 2, 1) := by decide +kernel
theorem dX9_light_27 : decode cX9_light 27 = .ok (.imul, 1) := by decide +kernel
theorem dX9_light_28 : decode cX9_light 28 = .ok (.iload_n 3, 1) := by decide +kernel
theorem dX9_light_29 : decode cX9_light 29 = .ok (.iadd, 1) := by decide +kernel
theorem dX9_light_30 : decode cX9_light 30 = .ok (.ireturn, 1) := by decide +kernel
theorem dX9_light_31 : decode cX9_light 31 = .ok (.aload_n 0, 1) := by decide +kernel
theorem dX9_light_32 : decode cX9_light 32 = .ok (.getfield 49, 3) := by decide +kernel
theorem dX9_light_35 : decode cX9_light 35 = .ok (.bipush 102, 2) := by decide +kernel
theorem dX9_light_37 : decode cX9_light 37 = .ok (.iload_n 2, 1) := by decide +kernel
theorem dX9_light_38 : decode cX9_light 38 = .ok (.iastore, 1) := by decide +kernel
theorem dX9_light_39 : decode cX9_light 39 = .ok (.aload_n 0, 1) := by decide +kernel
theorem dX9_light_40 : decode cX9_light 40 = .ok (.getfield 49, 3) := by decide +kernel
theorem dX9_light_43 : decode cX9_light 43 = .ok (.bipush 110, 2) := by decide +kernel
theorem dX9_light_45 : decode cX9_light 45 = .ok (.iload_n 3, 1) := by decide +kernel
theorem dX9_light_46 : decode cX9_light 46 = .ok (.iastore, 1) := by decide +kernel
theorem dX9_light_47 : decode cX9_light 47 = .ok (.aload_n 0, 1) := by decide +kernel
theorem dX9_light_48 : decode cX9_light 48 = .ok (.getfield 49, 3) := by decide +kernel
theorem dX9_light_51 : decode cX9_light 51 = .ok (.bipush 119, 2) := by decide +kernel
theorem dX9_light_53 : decode cX9_light 53 = .ok (.aload_n 0, 1) := by decide +kernel
theorem dX9_light_54 : decode cX9_light 54 = .ok (.getfield 7, 3) := by decide +kernel
theorem dX9_light_57 : decode cX9_light 57 = .ok (.iconst 3, 1) := by decide +kernel
theorem dX9_light_58 : decode cX9_light 58 = .ok (.iaload, 1) := by decide +kernel
theorem dX9_light_59 : decode cX9_light 59 = .ok (.iastore, 1) := by decide +kernel
theorem dX9_light_60 : decode cX9_light 60 = .ok (.aload_n 0, 1) := by decide +kernel
theorem dX9_light_61 : decode cX9_light 61 = .ok (.iload 4, 2) := by decide +kernel
theorem dX9_light_63 : decode cX9_light 63 = .ok (.invokevirtual 85, 3) := by decide +kernel
theorem dX9_light_66 : decode cX9_light 66 = .ok (.bipush 99, 2) := by decide +kernel
theorem dX9_light_68 : decode cX9_light 68 = .ok (.invokestatic 88, 3) := by decide +kernel
theorem dX9_light_71 : decode cX9_light 71 = .ok (.ireturn, 1) := by decide +kernel
theorem dX9_sees_0 : decode cX9_sees 0 = .ok (.aload_n 0, 1) := by decide +kernel
theorem dX9_sees_1 : decode cX9_sees 1 = .ok (.iload_n 1, 1) := by decide +kernel
theorem dX9_sees_2 : decode cX9_sees 2 = .ok (.iconst 1, 1) := by decide +kernel
theorem dX9_sees_3 : decode cX9_sees 3 = .ok (.invokevirtual 91, 3) := by decide +kernel
theorem dX9_sees_6 : decode cX9_sees 6 = .ok (.istore_n 2, 1) := by decide +kernel
theorem dX9_sees_7 : decode cX9_sees 7 = .ok (.aload_n 0, 1) := by decide +kernel
theorem dX9_sees_8 : decode cX9_sees 8 = .ok (.iload_n 1, 1) := by decide +kernel
theorem dX9_sees_9 : decode cX9_sees 9 = .ok (.iconst 4, 1) := by decide +kernel
theorem dX9_sees_10 : decode cX9_sees 10 = .ok (.invokevirtual 91, 3) := by decide +kernel
theorem dX9_sees_13 : decode cX9_sees 13 = .ok (.ifCond .eq 11, 3) := by decide +kernel
theorem dX9_sees_16 : decode cX9_sees 16 = .ok (.aload_n 0, 1) := by decide +kernel
theorem dX9_sees_17 : decode cX9_sees 17 = .ok (.iload_n 2, 1) := by decide +kernel
theorem dX9_sees_18 : decode cX9_sees 18 = .ok (.invokevirtual 94, 3) := by decide +kernel
theorem dX9_sees_21 : decode cX9_sees 21 = .ok (.ifCond .ne 5, 3) := by decide +kernel
theorem dX9_sees_24 : decode cX9_sees 24 = .ok (.iconst 0, 1) := by decide +kernel
theorem dX9_sees_25 : decode cX9_sees 25 = .ok (.ireturn, 1) := by decide +kernel
theorem dX9_sees_26 : decode cX9_sees 26 = .ok (.aload_n 0, 1) := by decide +kernel
theorem dX9_sees_27 : decode cX9_sees 27 = .ok (.iload_n 1, 1) := by decide +kernel
theorem dX9_sees_28 : decode cX9_sees 28 = .ok (.iconst 2, 1) := by decide +kernel
theorem dX9_sees_29 : decode cX9_sees 29 = .ok (.invokevirtual 91, 3) := by decide +kernel
theorem dX9_sees_32 : decode cX9_sees 32 = .ok (.aload_n 0, 1) := by decide +kernel
theorem dX9_sees_33 : decode cX9_sees 33 = .ok (.iload_n 1, 1) := by decide +kernel
theorem dX9_sees_34 : decode cX9_sees 34 = .ok (.iconst 3, 1) := by decide +kernel
theorem dX9_sees_35 : decode cX9_sees 35 = .ok (.invokevirtual 91, 3) := by decide +kernel
theorem dX9_sees_38 : decode cX9_sees 38 = .ok (.bipush 10, 2) := by decide +kernel
theorem dX9_sees_40 : decode cX9_sees 40 = .ok (.idiv, 1) := by decide +kernel
theorem dX9_sees_41 : decode cX9_sees 41 = .ok (.isub, 1) := by decide +kernel
theorem dX9_sees_42 : decode cX9_sees 42 = .ok (.istore_n 3, 1) := by decide +kernel
theorem dX9_sees_43 : decode cX9_sees 43 = .ok (.iload_n 3, 1) := by decide +kernel
theorem dX9_sees_44 : decode cX9_sees 44 = .ok (.ifCond .ge 7, 3) := by decide +kernel
theorem dX9_sees_47 : decode cX9_sees 47 = .ok (.iconst 0, 1) := by decide +kernel
theorem dX9_sees_48 : decode cX9_sees 48 = .ok (.goto 4, 3) := by decide +kernel
theorem dX9_sees_51 : decode cX9_sees 51 = .ok (.iload_n 3, 1) := by decide +kernel
theorem dX9_sees_52 : decode cX9_sees 52 = .ok (.aload_n 0, 1) := by decide +kernel
theorem dX9_sees_53 : decode cX9_sees 53 = .ok (.iload_n 2, 1) := by decide +kernel
theorem dX9_sees_54 : decode cX9_sees 54 = .ok (.invokevirtual 98, 3) := by decide +kernel
theorem dX9_sees_57 : decode cX9_sees 57 = .ok (.iconst 4, 1) := by decide +kernel
theorem dX9_sees_58 : decode cX9_sees 58 = .ok (.idiv, 1) := by decide +kernel
theorem dX9_sees_59 : decode cX9_sees 59 = .ok (.iadd, 1) := by decide +kernel
theorem dX9_sees_60 : decode cX9_sees 60 = .ok (.istore 4, 2) := by decide +kernel
theorem dX9_sees_62 : decode cX9_sees 62 = .ok (.aload_n 0, 1) := by decide +kernel
theorem dX9_sees_63 : decode cX9_sees 63 = .ok (.iload_n 1, 1) := by decide +kernel
theorem dX9_sees_64 : decode cX9_sees 64 = .ok (.iconst 0, 1) := by decide +kernel
theorem dX9_sees_65 : decode cX9_sees 65 = .ok (.invokevirtual 91, 3) := by decide +kernel
theorem dX9_sees_68 : decode cX9_sees 68 = .ok (.tableswitch 94 1 5 #[36, 41, 48, 55, 77], 36) := by decide +kernel
theorem dX9_sees_104 : decode cX9_sees 104 = .ok (.iload 4, 2) := by decide +kernel
theorem dX9_sees_106 : decode cX9_sees 106 = .ok (.iconst 2, 1) := by decide +kernel
theorem dX9_sees_107 : decode cX9_sees 107 = .ok (.idiv, 1) := by decide +kernel
theorem dX9_sees_108 : decode cX9_sees 108 = .ok (.ireturn, 1) := by decide +kernel
theorem dX9_sees_109 : decode cX9_sees 109 = .ok (.aload_n 0, 1) := by decide +kernel
theorem dX9_sees_110 : decode cX9_sees 110 = .ok (.iload_n 1, 1) := by decide +kernel
theorem dX9_sees_111 : decode cX9_sees 111 = .ok (.iconst 2, 1) := by decide +kernel
theorem dX9_sees_112 : decode cX9_sees 112 = .ok (.invokevirtual 91, 3) := by decide +kernel
theorem dX9_sees_115 : decode cX9_sees 115 = .ok (.ireturn, 1) := by decide +kernel
theorem dX9_sees_116 : decode cX9_sees 116 = .ok (.iload 4, 2) := by decide +kernel
theorem dX9_sees_118 : decode cX9_sees 118 = .ok (.iconst 2, 1) := by decide +kernel
theorem dX9_sees_119 : decode cX9_sees 119 = .ok (.idiv, 1) := by decide +kernel
theorem dX9_sees_120 : decode cX9_sees 120 = .ok (.iconst 1, 1) := by decide +kernel
theorem dX9_sees_121 : decode cX9_sees 121 = .ok (.iadd, 1) := by decide +kernel
theorem dX9_sees_122 : decode cX9_sees 122 = .ok (.ireturn, 1) := by decide +kernel
theorem dX9_sees_123 : decode cX9_sees 123 = .ok (.aload_n 0, 1) := by decide +kernel
theorem dX9_sees_124 : decode cX9_sees 124 = .ok (.iload_n 1, 1) := by decide +kernel
theorem dX9_sees_125 : decode cX9_sees 125 = .ok (.iconst 2, 1) := by decide +kernel
theorem dX9_sees_126 : decode cX9_sees 126 = .ok (.invokevirtual 91, 3) := by decide +kernel
theorem dX9_sees_129 : decode cX9_sees 129 = .ok (.aload_n 0, 1) := by decide +kernel
theorem dX9_sees_130 : decode cX9_sees 130 = .ok (.iload_n 2, 1) := by decide +kernel
theorem dX9_sees_131 : decode cX9_sees 131 = .ok (.iconst 0, 1) := by decide +kernel
theorem dX9_sees_132 : decode cX9_sees 132 = .ok (.invokevirtual 74, 3) := by decide +kernel
theorem dX9_sees_135 : decode cX9_sees 135 = .ok (.ifCond .le 7, 3) := by decide +kernel
theorem dX9_sees_138 : decode cX9_sees 138 = .ok (.iconst 3, 1) := by decide +kernel
theorem dX9_sees_139 : decode cX9_sees 139 = .ok (.goto 4, 3) := by decide +kernel
theorem dX9_sees_142 : decode cX9_sees 142 = .ok (.iconst 0, 1) := by decide +kernel
theorem dX9_sees_143 : decode cX9_sees 143 = .ok (.iadd, 1) := by decide +kernel
theorem dX9_sees_144 : decode cX9_sees 144 = .ok (.ireturn, 1) := by decide +kernel
theorem dX9_sees_145 : decode cX9_sees 145 = .ok (.aload_n 0, 1) := by decide +kernel
theorem dX9_sees_146 : decode cX9_sees 146 = .ok (.iload_n 1, 1) := by decide +kernel
theorem dX9_sees_147 : decode cX9_sees 147 = .ok (.iconst 3, 1) := by decide +kernel
theorem dX9_sees_148 : decode cX9_sees 148 = .ok (.invokevirtual 91, 3) := by decide +kernel
theorem dX9_sees_151 : decode cX9_sees 151 = .ok (.iconst 5, 1) := by decide +kernel
theorem dX9_sees_152 : decode cX9_sees 152 = .ok (.if_icmp .le 7, 3) := by decide +kernel
theorem dX9_sees_155 : decode cX9_sees 155 = .ok (.iconst 0, 1) := by decide +kernel
theorem dX9_sees_156 : decode cX9_sees 156 = .ok (.goto 5, 3) := by decide +kernel
theorem dX9_sees_159 : decode cX9_sees 159 = .ok (.iload 4, 2) := by decide +kernel
theorem dX9_sees_161 : decode cX9_sees 161 = .ok (.ireturn, 1) := by decide +kernel
theorem dX9_sees_162 : decode cX9_sees 162 = .ok (.iload 4, 2) := by decide +kernel
theorem dX9_sees_164 : decode cX9_sees 164 = .ok (.ireturn, 1) := by decide +kernel
theorem dX9_worth_0 : decode cX9_worth 0 = .ok (.aload_n 0, 1) := by decide +kernel
theorem dX9_worth_1 : decode cX9_worth 1 = .ok (.iload_n 1, 1) := by decide +kernel
theorem dX9_worth_2 : decode cX9_worth 2 = .ok (.iconst 2, 1) := by decide +kernel
theorem dX9_worth_3 : decode cX9_worth 3 = .ok (.invokevirtual 91, 3) := by decide +kernel
theorem dX9_worth_6 : decode cX9_worth 6 = .ok (.istore_n 2, 1) := by decide +kernel
theorem dX9_worth_7 : decode cX9_worth 7 = .ok (.aload_n 0, 1) := by decide +kernel
theorem dX9_worth_8 : decode cX9_worth 8 = .ok (.iload_n 1, 1) := by decide +kernel
theorem dX9_worth_9 : decode cX9_worth 9 = .ok (.iconst 0, 1) := by decide +kernel
theorem dX9_worth_10 : decode cX9_worth 10 = .ok (.invokevirtual 91, 3) := by decide +kernel
theorem dX9_worth_13 : decode cX9_worth 13 = .ok (.tableswitch 57 1 5 #[35, 39, 44, 50, 55], 35) := by decide +kernel
theorem dX9_worth_48 : decode cX9_worth 48 = .ok (.iload_n 2, 1) := by decide +kernel
theorem dX9_worth_49 : decode cX9_worth 49 = .ok (.iconst 4, 1) := by decide +kernel
theorem dX9_worth_50 : decode cX9_worth 50 = .ok (.iadd, 1) := by decide +kernel
theorem dX9_worth_51 : decode cX9_worth 51 = .ok (.ireturn, 1) := by decide +kernel
theorem dX9_worth_52 : decode cX9_worth 52 = .ok (.bipush 20, 2) := by decide +kernel
theorem dX9_worth_54 : decode cX9_worth 54 = .ok (.iload_n 2, 1) := by decide +kernel
theorem dX9_worth_55 : decode cX9_worth 55 = .ok (.isub, 1) := by decide +kernel
theorem dX9_worth_56 : decode cX9_worth 56 = .ok (.ireturn, 1) := by decide +kernel
theorem dX9_worth_57 : decode cX9_worth 57 = .ok (.iconst 2, 1) := by decide +kernel
theorem dX9_worth_58 : decode cX9_worth 58 = .ok (.iload_n 2, 1) := by decide +kernel
theorem dX9_worth_59 : decode cX9_worth 59 = .ok (.iconst 4, 1) := by decide +kernel
theorem dX9_worth_60 : decode cX9_worth 60 = .ok (.iadd, 1) := by decide +kernel
theorem dX9_worth_61 : decode cX9_worth 61 = .ok (.imul, 1) := by decide +kernel
theorem dX9_worth_62 : decode cX9_worth 62 = .ok (.ireturn, 1) := by decide +kernel
theorem dX9_worth_63 : decode cX9_worth 63 = .ok (.bipush 29, 2) := by decide +kernel
theorem dX9_worth_65 : decode cX9_worth 65 = .ok (.iload_n 2, 1) := by decide +kernel
theorem dX9_worth_66 : decode cX9_worth 66 = .ok (.isub, 1) := by decide +kernel
theorem dX9_worth_67 : decode cX9_worth 67 = .ok (.ireturn, 1) := by decide +kernel
theorem dX9_worth_68 : decode cX9_worth 68 = .ok (.iconst 2, 1) := by decide +kernel
theorem dX9_worth_69 : decode cX9_worth 69 = .ok (.ireturn, 1) := by decide +kernel
theorem dX9_worth_70 : decode cX9_worth 70 = .ok (.iload_n 2, 1) := by decide +kernel
theorem dX9_worth_71 : decode cX9_worth 71 = .ok (.ireturn, 1) := by decide +kernel
theorem dX9_guard_0 : decode cX9_guard 0 = .ok (.aload_n 0, 1) := by decide +kernel
theorem dX9_guard_1 : decode cX9_guard 1 = .ok (.iload_n 1, 1) := by decide +kernel
theorem dX9_guard_2 : decode cX9_guard 2 = .ok (.invokevirtual 98, 3) := by decide +kernel
theorem dX9_guard_5 : decode cX9_guard 5 = .ok (.istore_n 2, 1) := by decide +kernel
theorem dX9_guard_6 : decode cX9_guard 6 = .ok (.iconst 0, 1) := by decide +kernel
theorem dX9_guard_7 : decode cX9_guard 7 = .ok (.istore_n 3, 1) := by decide +kernel
theorem dX9_guard_8 : decode cX9_guard 8 = .ok (.iload_n 3, 1) := by decide +kernel
theorem dX9_guard_9 : decode cX9_guard 9 = .ok (.aload_n 0, 1) := by decide +kernel
theorem dX9_guard_10 : decode cX9_guard 10 = .ok (.getfield 7, 3) := by decide +kernel
theorem dX9_guard_13 : decode cX9_guard 13 = .ok (.iconst 1, 1) := by decide +kernel
theorem dX9_guard_14 : decode cX9_guard 14 = .ok (.iaload, 1) := by decide +kernel
theorem dX9_guard_15 : decode cX9_guard 15 = .ok (.if_icmp .ge 31, 3) := by decide +kernel
theorem dX9_guard_18 : decode cX9_guard 18 = .ok (.iload_n 2, 1) := by decide +kernel
theorem dX9_guard_19 : decode cX9_guard 19 = .ok (.aload_n 0, 1) := by decide +kernel
theorem dX9_guard_20 : decode cX9_guard 20 = .ok (.iload_n 3, 1) := by decide +kernel
theorem dX9_guard_21 : decode cX9_guard 21 = .ok (.iconst 1, 1) := by decide +kernel
theorem dX9_guard_22 : decode cX9_guard 22 = .ok (.invokevirtual 91, 3) := by decide +kernel
theorem dX9_guard_25 : decode cX9_guard 25 = .ok (.iload_n 1, 1) := by decide +kernel
theorem dX9_guard_26 : decode cX9_guard 26 = .ok (.if_icmp .ne 11, 3) := by decide +kernel
theorem dX9_guard_29 : decode cX9_guard 29 = .ok (.aload_n 0, 1) := by decide +kernel
theorem dX9_guard_30 : decode cX9_guard 30 = .ok (.iload_n 3, 1) := by decide +kernel
theorem dX9_guard_31 : decode cX9_guard 31 = .ok (.invokevirtual 101, 3) := by decide +kernel
theorem dX9_guard_34 : decode cX9_guard 34 = .ok (.goto 4, 3) := by decide +kernel
theorem dX9_guard_37 : decode cX9_guard 37 = .ok (.iconst 0, 1) := by decide +kernel
theorem dX9_guard_38 : decode cX9_guard 38 = .ok (.iadd, 1) := by decide +kernel
theorem dX9_guard_39 : decode cX9_guard 39 = .ok (.istore_n 2, 1) := by decide +kernel
theorem dX9_guard_40 : decode cX9_guard 40 = .ok (.iinc 3 1, 3) := by decide +kernel
theorem dX9_guard_43 : decode cX9_guard 43 = .ok (.goto (-35), 3) := by decide +kernel
theorem dX9_guard_46 : decode cX9_guard 46 = .ok (.iload_n 2, 1) := by decide +kernel
theorem dX9_guard_47 : decode cX9_guard 47 = .ok (.ireturn, 1) := by decide +kernel
theorem dX9_fears_0 : decode cX9_fears 0 = .ok (.aload_n 0, 1) := by decide +kernel
theorem dX9_fears_1 : decode cX9_fears 1 = .ok (.iload_n 1, 1) := by decide +kernel
theorem dX9_fears_2 : decode cX9_fears 2 = .ok (.invokevirtual 104, 3) := by decide +kernel
theorem dX9_fears_5 : decode cX9_fears 5 = .ok (.istore_n 2, 1) := by decide +kernel
theorem dX9_fears_6 : decode cX9_fears 6 = .ok (.aload_n 0, 1) := by decide +kernel
theorem dX9_fears_7 : decode cX9_fears 7 = .ok (.iconst 1, 1) := by decide +kernel
theorem dX9_fears_8 : decode cX9_fears 8 = .ok (.invokevirtual 82, 3) := by decide +kernel
theorem dX9_fears_11 : decode cX9_fears 11 = .ok (.istore_n 3, 1) := by decide +kernel
theorem dX9_fears_12 : decode cX9_fears 12 = .ok (.iload_n 3, 1) := by decide +kernel
theorem dX9_fears_13 : decode cX9_fears 13 = .ok (.ifCond .ge 12, 3) := by decide +kernel
theorem dX9_fears_16 : decode cX9_fears 16 = .ok (.iload_n 2, 1) := by decide +kernel
theorem dX9_fears_17 : decode cX9_fears 17 = .ok (.aload_n 0, 1) := by decide +kernel
theorem dX9_fears_18 : decode cX9_fears 18 = .ok (.iload_n 1, 1) := by decide +kernel
theorem dX9_fears_19 : decode cX9_fears 19 = .ok (.iconst 2, 1) := by decide +kernel
theorem dX9_fears_20 : decode cX9_fears 20 = .ok (.invokevirtual 74, 3) := by decide +kernel
theorem dX9_fears_23 : decode cX9_fears 23 = .ok (.iadd, 1) := by decide +kernel
theorem dX9_fears_24 : decode cX9_fears 24 = .ok (.ireturn, 1) := by decide +kernel
theorem dX9_fears_25 : decode cX9_fears 25 = .ok (.aload_n 0, 1) := by decide +kernel
theorem dX9_fears_26 : decode cX9_fears 26 = .ok (.getfield 49, 3) := by decide +kernel
theorem dX9_fears_29 : decode cX9_fears 29 = .ok (.bipush 103, 2) := by decide +kernel
theorem dX9_fears_31 : decode cX9_fears 31 = .ok (.iload_n 2, 1) := by decide +kernel
theorem dX9_fears_32 : decode cX9_fears 32 = .ok (.iastore, 1) := by decide +kernel
theorem dX9_fears_33 : decode cX9_fears 33 = .ok (.aload_n 0, 1) := by decide +kernel
theorem dX9_fears_34 : decode cX9_fears 34 = .ok (.getfield 49, 3) := by decide +kernel
theorem dX9_fears_37 : decode cX9_fears 37 = .ok (.bipush 116, 2) := by decide +kernel
theorem dX9_fears_39 : decode cX9_fears 39 = .ok (.aload_n 0, 1) := by decide +kernel
theorem dX9_fears_40 : decode cX9_fears 40 = .ok (.iload_n 1, 1) := by decide +kernel
theorem dX9_fears_41 : decode cX9_fears 41 = .ok (.iconst 2, 1) := by decide +kernel
theorem dX9_fears_42 : decode cX9_fears 42 = .ok (.invokevirtual 74, 3) := by decide +kernel
theorem dX9_fears_45 : decode cX9_fears 45 = .ok (.iastore, 1) := by decide +kernel
theorem dX9_fears_46 : decode cX9_fears 46 = .ok (.aload_n 0, 1) := by decide +kernel
theorem dX9_fears_47 : decode cX9_fears 47 = .ok (.getfield 49, 3) := by decide +kernel
theorem dX9_fears_50 : decode cX9_fears 50 = .ok (.bipush 104, 2) := by decide +kernel
theorem dX9_fears_52 : decode cX9_fears 52 = .ok (.aload_n 0, 1) := by decide +kernel
theorem dX9_fears_53 : decode cX9_fears 53 = .ok (.getfield 7, 3) := by decide +kernel
theorem dX9_fears_56 : decode cX9_fears 56 = .ok (.iconst 5, 1) := by decide +kernel
theorem dX9_fears_57 : decode cX9_fears 57 = .ok (.iaload, 1) := by decide +kernel
theorem dX9_fears_58 : decode cX9_fears 58 = .ok (.iastore, 1) := by decide +kernel
theorem dX9_fears_59 : decode cX9_fears 59 = .ok (.aload_n 0, 1) := by decide +kernel
theorem dX9_fears_60 : decode cX9_fears 60 = .ok (.iload_n 3, 1) := by decide +kernel
theorem dX9_fears_61 : decode cX9_fears 61 = .ok (.invokevirtual 85, 3) := by decide +kernel
theorem dX9_fears_64 : decode cX9_fears 64 = .ok (.sipush 999, 3) := by decide +kernel
theorem dX9_fears_67 : decode cX9_fears 67 = .ok (.invokestatic 88, 3) := by decide +kernel
theorem dX9_fears_70 : decode cX9_fears 70 = .ok (.ireturn, 1) := by decide +kernel
theorem dX9_at_0 : decode cX9_at 0 = .ok (.aload_n 0, 1) := by decide +kernel
theorem dX9_at_1 : decode cX9_at 1 = .ok (.iload_n 1, 1) := by decide +kernel
theorem dX9_at_2 : decode cX9_at 2 = .ok (.invokevirtual 94, 3) := by decide +kernel
theorem dX9_at_5 : decode cX9_at 5 = .ok (.ifCond .ne 6, 3) := by decide +kernel
theorem dX9_at_8 : decode cX9_at 8 = .ok (.ldc 72, 2) := by decide +kernel
theorem dX9_at_10 : decode cX9_at 10 = .ok (.ireturn, 1) := by decide +kernel
theorem dX9_at_11 : decode cX9_at 11 = .ok (.iload_n 2, 1) := by decide +kernel
theorem dX9_at_12 : decode cX9_at 12 = .ok (.tableswitch 65 0 5 #[40, 40, 40, 47, 53, 59], 40) := by decide +kernel
theorem dX9_at_52 : decode cX9_at 52 = .ok (.aload_n 0, 1) := by decide +kernel
theorem dX9_at_53 : decode cX9_at 53 = .ok (.iload_n 1, 1) := by decide +kernel
theorem dX9_at_54 : decode cX9_at 54 = .ok (.iload_n 2, 1) := by decide +kernel
theorem dX9_at_55 : decode cX9_at 55 = .ok (.invokevirtual 74, 3) := by decide +kernel
theorem dX9_at_58 : decode cX9_at 58 = .ok (.ireturn, 1) := by decide +kernel
theorem dX9_at_59 : decode cX9_at 59 = .ok (.aload_n 0, 1) := by decide +kernel
theorem dX9_at_60 : decode cX9_at 60 = .ok (.iload_n 1, 1) := by decide +kernel
theorem dX9_at_61 : decode cX9_at 61 = .ok (.invokevirtual 98, 3) := by decide +kernel
theorem dX9_at_64 : decode cX9_at 64 = .ok (.ireturn, 1) := by decide +kernel
theorem dX9_at_65 : decode cX9_at 65 = .ok (.aload_n 0, 1) := by decide +kernel
theorem dX9_at_66 : decode cX9_at 66 = .ok (.iload_n 1, 1) := by decide +kernel
theorem dX9_at_67 : decode cX9_at 67 = .ok (.invokevirtual 104, 3) := by decide +kernel
theorem dX9_at_70 : decode cX9_at 70 = .ok (.ireturn, 1) := by decide +kernel
theorem dX9_at_71 : decode cX9_at 71 = .ok (.aload_n 0, 1) := by decide +kernel
theorem dX9_at_72 : decode cX9_at 72 = .ok (.iload_n 1, 1) := by decide +kernel
theorem dX9_at_73 : decode cX9_at 73 = .ok (.invokevirtual 107, 3) := by decide +kernel
theorem dX9_at_76 : decode cX9_at 76 = .ok (.ireturn, 1) := by decide +kernel
theorem dX9_at_77 : decode cX9_at 77 = .ok (.ldc 72, 2) := by decide +kernel
theorem dX9_at_79 : decode cX9_at 79 = .ok (.ireturn, 1) := by decide +kernel
theorem dX9_lays_0 : decode cX9_lays 0 = .ok (.aload_n 0, 1) := by decide +kernel
theorem dX9_lays_1 : decode cX9_lays 1 = .ok (.iload_n 1, 1) := by decide +kernel
theorem dX9_lays_2 : decode cX9_lays 2 = .ok (.invokevirtual 94, 3) := by decide +kernel
theorem dX9_lays_5 : decode cX9_lays 5 = .ok (.ifCond .eq 38, 3) := by decide +kernel
theorem dX9_lays_8 : decode cX9_lays 8 = .ok (.iload_n 2, 1) := by decide +kernel
theorem dX9_lays_9 : decode cX9_lays 9 = .ok (.i2l, 1) := by decide +kernel
theorem dX9_lays_10 : decode cX9_lays 10 = .ok (.lconst 0, 1) := by decide +kernel
theorem dX9_lays_11 : decode cX9_lays 11 = .ok (.ldc2_w 110, 3) := by decide +kernel
theorem dX9_lays_14 : decode cX9_lays 14 = .ok (.invokestatic 65, 3) := by decide +kernel
theorem dX9_lays_17 : decode cX9_lays 17 = .ok (.ifCond .eq 26, 3) := by decide +kernel
theorem dX9_lays_20 : decode cX9_lays 20 = .ok (.iload_n 3, 1) := by decide +kernel
theorem dX9_lays_21 : decode cX9_lays 21 = .ok (.i2l, 1) := by decide +kernel
theorem dX9_lays_22 : decode cX9_lays 22 = .ok (.lconst 0, 1) := by decide +kernel
theorem dX9_lays_23 : decode cX9_lays 23 = .ok (.iload_n 2, 1) := by decide +kernel
theorem dX9_lays_24 : decode cX9_lays 24 = .ok (.iconst 1, 1) := by decide +kernel
theorem dX9_lays_25 : decode cX9_lays 25 = .ok (.if_icmp .ne 9, 3) := by decide +kernel
theorem dX9_lays_28 : decode cX9_lays 28 = .ok (.ldc2_w 112, 3) := by decide +kernel
theorem dX9_lays_31 : decode cX9_lays 31 = .ok (.goto 6, 3) := by decide +kernel
theorem dX9_lays_34 : decode cX9_lays 34 = .ok (.ldc2_w 70, 3) := by decide +kernel
theorem dX9_lays_37 : decode cX9_lays 37 = .ok (.invokestatic 65, 3) := by decide +kernel
theorem dX9_lays_40 : decode cX9_lays 40 = .ok (.ifCond .ne 6, 3) := by decide +kernel
theorem dX9_lays_43 : decode cX9_lays 43 = .ok (.ldc 72, 2) := by decide +kernel
theorem dX9_lays_45 : decode cX9_lays 45 = .ok (.ireturn, 1) := by decide +kernel
theorem dX9_lays_46 : decode cX9_lays 46 = .ok (.aload_n 0, 1) := by decide +kernel
theorem dX9_lays_47 : decode cX9_lays 47 = .ok (.bipush 12, 2) := by decide +kernel
theorem dX9_lays_49 : decode cX9_lays 49 = .ok (.iconst 3, 1) := by decide +kernel
theorem dX9_lays_50 : decode cX9_lays 50 = .ok (.iload_n 1, 1) := by decide +kernel
theorem dX9_lays_51 : decode cX9_lays 51 = .ok (.imul, 1) := by decide +kernel
theorem dX9_lays_52 : decode cX9_lays 52 = .ok (.iadd, 1) := by decide +kernel
theorem dX9_lays_53 : decode cX9_lays 53 = .ok (.iload_n 2, 1) := by decide +kernel
theorem dX9_lays_54 : decode cX9_lays 54 = .ok (.iadd, 1) := by decide +kernel
theorem dX9_lays_55 : decode cX9_lays 55 = .ok (.iload_n 3, 1) := by decide +kernel
theorem dX9_lays_56 : decode cX9_lays 56 = .ok (.invokevirtual 114, 3) := by decide +kernel
theorem dX9_lays_59 : decode cX9_lays 59 = .ok (.ireturn, 1) := by decide +kernel
theorem dX9_far_0 : decode cX9_far 0 = .ok (.aload_n 0, 1) := by decide +kernel
theorem dX9_far_1 : decode cX9_far 1 = .ok (.iload_n 1, 1) := by decide +kernel
theorem dX9_far_2 : decode cX9_far 2 = .ok (.invokevirtual 94, 3) := by decide +kernel
theorem dX9_far_5 : decode cX9_far 5 = .ok (.ifCond .eq 11, 3) := by decide +kernel
theorem dX9_far_8 : decode cX9_far 8 = .ok (.aload_n 0, 1) := by decide +kernel
theorem dX9_far_9 : decode cX9_far 9 = .ok (.iload_n 2, 1) := by decide +kernel
theorem dX9_far_10 : decode cX9_far 10 = .ok (.invokevirtual 94, 3) := by decide +kernel
theorem dX9_far_13 : decode cX9_far 13 = .ok (.ifCond .ne 6, 3) := by decide +kernel
theorem dX9_far_16 : decode cX9_far 16 = .ok (.ldc 72, 2) := by decide +kernel
theorem dX9_far_18 : decode cX9_far 18 = .ok (.ireturn, 1) := by decide +kernel
theorem dX9_far_19 : decode cX9_far 19 = .ok (.iload_n 1, 1) := by decide +kernel
theorem dX9_far_20 : decode cX9_far 20 = .ok (.iload_n 2, 1) := by decide +kernel
theorem dX9_far_21 : decode cX9_far 21 = .ok (.invokestatic 117, 3) := by decide +kernel
theorem dX9_far_24 : decode cX9_far 24 = .ok (.istore_n 3, 1) := by decide +kernel
theorem dX9_far_25 : decode cX9_far 25 = .ok (.iload_n 3, 1) := by decide +kernel
theorem dX9_far_26 : decode cX9_far 26 = .ok (.aload_n 0, 1) := by decide +kernel
theorem dX9_far_27 : decode cX9_far 27 = .ok (.getfield 7, 3) := by decide +kernel
theorem dX9_far_30 : decode cX9_far 30 = .ok (.iconst 0, 1) := by decide +kernel
theorem dX9_far_31 : decode cX9_far 31 = .ok (.iaload, 1) := by decide +kernel
theorem dX9_far_32 : decode cX9_far 32 = .ok (.iload_n 3, 1) := by decide +kernel
theorem dX9_far_33 : decode cX9_far 33 = .ok (.isub, 1) := by decide +kernel
theorem dX9_far_34 : decode cX9_far 34 = .ok (.if_icmp .ge 7, 3) := by decide +kernel
theorem dX9_far_37 : decode cX9_far 37 = .ok (.iload_n 3, 1) := by decide +kernel
theorem dX9_far_38 : decode cX9_far 38 = .ok (.goto 11, 3) := by decide +kernel
theorem dX9_far_41 : decode cX9_far 41 = .ok (.aload_n 0, 1) := by decide +kernel
theorem dX9_far_42 : decode cX9_far 42 = .ok (.getfield 7, 3) := by decide +kernel
theorem dX9_far_45 : decode cX9_far 45 = .ok (.iconst 0, 1) := by decide +kernel
theorem dX9_far_46 : decode cX9_far 46 = .ok (.iaload, 1) := by decide +kernel
theorem dX9_far_47 : decode cX9_far 47 = .ok (.iload_n 3, 1) := by decide +kernel
theorem dX9_far_48 : decode cX9_far 48 = .ok (.isub, 1) := by decide +kernel
theorem dX9_far_49 : decode cX9_far 49 = .ok (.ireturn, 1) := by decide +kernel
theorem dX9_plain_0 : decode cX9_plain 0 = .ok (.iload_n 1, 1) := by decide +kernel
theorem dX9_plain_1 : decode cX9_plain 1 = .ok (.i2l, 1) := by decide +kernel
theorem dX9_plain_2 : decode cX9_plain 2 = .ok (.lconst 0, 1) := by decide +kernel
theorem dX9_plain_3 : decode cX9_plain 3 = .ok (.ldc2_w 110, 3) := by decide +kernel
theorem dX9_plain_6 : decode cX9_plain 6 = .ok (.invokestatic 65, 3) := by decide +kernel
theorem dX9_plain_9 : decode cX9_plain 9 = .ok (.ifCond .eq 36, 3) := by decide +kernel
theorem dX9_plain_12 : decode cX9_plain 12 = .ok (.iload_n 2, 1) := by decide +kernel
theorem dX9_plain_13 : decode cX9_plain 13 = .ok (.i2l, 1) := by decide +kernel
theorem dX9_plain_14 : decode cX9_plain 14 = .ok (.lconst 0, 1) := by decide +kernel
theorem dX9_plain_15 : decode cX9_plain 15 = .ok (.iload_n 1, 1) := by decide +kernel
theorem dX9_plain_16 : decode cX9_plain 16 = .ok (.ifCond .ne 9, 3) := by decide +kernel
theorem dX9_plain_19 : decode cX9_plain 19 = .ok (.ldc2_w 120, 3) := by decide +kernel
theorem dX9_plain_22 : decode cX9_plain 22 = .ok (.goto 6, 3) := by decide +kernel
theorem dX9_plain_25 : decode cX9_plain 25 = .ok (.ldc2_w 70, 3) := by decide +kernel
theorem dX9_plain_28 : decode cX9_plain 28 = .ok (.invokestatic 65, 3) := by decide +kernel
theorem dX9_plain_31 : decode cX9_plain 31 = .ok (.ifCond .eq 14, 3) := by decide +kernel
theorem dX9_plain_34 : decode cX9_plain 34 = .ok (.aload_n 0, 1) := by decide +kernel
theorem dX9_plain_35 : decode cX9_plain 35 = .ok (.iconst 3, 1) := by decide +kernel
theorem dX9_plain_36 : decode cX9_plain 36 = .ok (.iload_n 1, 1) := by decide +kernel
theorem dX9_plain_37 : decode cX9_plain 37 = .ok (.iadd, 1) := by decide +kernel
theorem dX9_plain_38 : decode cX9_plain 38 = .ok (.iload_n 2, 1) := by decide +kernel
theorem dX9_plain_39 : decode cX9_plain 39 = .ok (.invokevirtual 114, 3) := by decide +kernel
theorem dX9_plain_42 : decode cX9_plain 42 = .ok (.goto 5, 3) := by decide +kernel
theorem dX9_plain_45 : decode cX9_plain 45 = .ok (.ldc 72, 2) := by decide +kernel
theorem dX9_plain_47 : decode cX9_plain 47 = .ok (.ireturn, 1) := by decide +kernel
theorem dX9_comes_0 : decode cX9_comes 0 = .ok (.bipush 48, 2) := by decide +kernel
theorem dX9_comes_2 : decode cX9_comes 2 = .ok (.iconst 5, 1) := by decide +kernel
theorem dX9_comes_3 : decode cX9_comes 3 = .ok (.aload_n 0, 1) := by decide +kernel
theorem dX9_comes_4 : decode cX9_comes 4 = .ok (.getfield 7, 3) := by decide +kernel
theorem dX9_comes_7 : decode cX9_comes 7 = .ok (.iconst 1, 1) := by decide +kernel
theorem dX9_comes_8 : decode cX9_comes 8 = .ok (.iaload, 1) := by decide +kernel
theorem dX9_comes_9 : decode cX9_comes 9 = .ok (.imul, 1) := by decide +kernel
theorem dX9_comes_10 : decode cX9_comes 10 = .ok (.iadd, 1) := by decide +kernel
theorem dX9_comes_11 : decode cX9_comes 11 = .ok (.istore 4, 2) := by decide +kernel
theorem dX9_comes_13 : decode cX9_comes 13 = .ok (.aload_n 0, 1) := by decide +kernel
theorem dX9_comes_14 : decode cX9_comes 14 = .ok (.getfield 7, 3) := by decide +kernel
theorem dX9_comes_17 : decode cX9_comes 17 = .ok (.iload 4, 2) := by decide +kernel
theorem dX9_comes_19 : decode cX9_comes 19 = .ok (.iload_n 1, 1) := by decide +kernel
theorem dX9_comes_20 : decode cX9_comes 20 = .ok (.iastore, 1) := by decide +kernel
theorem dX9_comes_21 : decode cX9_comes 21 = .ok (.aload_n 0, 1) := by decide +kernel
theorem dX9_comes_22 : decode cX9_comes 22 = .ok (.getfield 7, 3) := by decide +kernel
theorem dX9_comes_25 : decode cX9_comes 25 = .ok (.iload 4, 2) := by decide +kernel
theorem dX9_comes_27 : decode cX9_comes 27 = .ok (.iconst 1, 1) := by decide +kernel
theorem dX9_comes_28 : decode cX9_comes 28 = .ok (.iadd, 1) := by decide +kernel
theorem dX9_comes_29 : decode cX9_comes 29 = .ok (.iload_n 2, 1) := by decide +kernel
theorem dX9_comes_30 : decode cX9_comes 30 = .ok (.iastore, 1) := by decide +kernel
theorem dX9_comes_31 : decode cX9_comes 31 = .ok (.aload_n 0, 1) := by decide +kernel
theorem dX9_comes_32 : decode cX9_comes 32 = .ok (.getfield 7, 3) := by decide +kernel
theorem dX9_comes_35 : decode cX9_comes 35 = .ok (.iload 4, 2) := by decide +kernel
theorem dX9_comes_37 : decode cX9_comes 37 = .ok (.iconst 2, 1) := by decide +kernel
theorem dX9_comes_38 : decode cX9_comes 38 = .ok (.iadd, 1) := by decide +kernel
theorem dX9_comes_39 : decode cX9_comes 39 = .ok (.iload_n 3, 1) := by decide +kernel
theorem dX9_comes_40 : decode cX9_comes 40 = .ok (.iastore, 1) := by decide +kernel
theorem dX9_comes_41 : decode cX9_comes 41 = .ok (.aload_n 0, 1) := by decide +kernel
theorem dX9_comes_42 : decode cX9_comes 42 = .ok (.getfield 7, 3) := by decide +kernel
theorem dX9_comes_45 : decode cX9_comes 45 = .ok (.iload 4, 2) := by decide +kernel
theorem dX9_comes_47 : decode cX9_comes 47 = .ok (.iconst 3, 1) := by decide +kernel
theorem dX9_comes_48 : decode cX9_comes 48 = .ok (.iadd, 1) := by decide +kernel
theorem dX9_comes_49 : decode cX9_comes 49 = .ok (.iconst 0, 1) := by decide +kernel
theorem dX9_comes_50 : decode cX9_comes 50 = .ok (.iastore, 1) := by decide +kernel
theorem dX9_comes_51 : decode cX9_comes 51 = .ok (.aload_n 0, 1) := by decide +kernel
theorem dX9_comes_52 : decode cX9_comes 52 = .ok (.getfield 7, 3) := by decide +kernel
theorem dX9_comes_55 : decode cX9_comes 55 = .ok (.iload 4, 2) := by decide +kernel
theorem dX9_comes_57 : decode cX9_comes 57 = .ok (.iconst 4, 1) := by decide +kernel
theorem dX9_comes_58 : decode cX9_comes 58 = .ok (.iadd, 1) := by decide +kernel
theorem dX9_comes_59 : decode cX9_comes 59 = .ok (.iconst 0, 1) := by decide +kernel
theorem dX9_comes_60 : decode cX9_comes 60 = .ok (.iastore, 1) := by decide +kernel
theorem dX9_comes_61 : decode cX9_comes 61 = .ok (.aload_n 0, 1) := by decide +kernel
theorem dX9_comes_62 : decode cX9_comes 62 = .ok (.getfield 7, 3) := by decide +kernel
theorem dX9_comes_65 : decode cX9_comes 65 = .ok (.iconst 1, 1) := by decide +kernel
theorem dX9_comes_66 : decode cX9_comes 66 = .ok (.dup2, 1) := by decide +kernel
theorem dX9_comes_67 : decode cX9_comes 67 = .ok (.iaload, 1) := by decide +kernel
theorem dX9_comes_68 : decode cX9_comes 68 = .ok (.iconst 1, 1) := by decide +kernel
theorem dX9_comes_69 : decode cX9_comes 69 = .ok (.iadd, 1) := by decide +kernel
theorem dX9_comes_70 : decode cX9_comes 70 = .ok (.iastore, 1) := by decide +kernel
theorem dX9_comes_71 : decode cX9_comes 71 = .ok (.return_, 1) := by decide +kernel
theorem dX9_watcher_0 : decode cX9_watcher 0 = .ok (.iload_n 1, 1) := by decide +kernel
theorem dX9_watcher_1 : decode cX9_watcher 1 = .ok (.i2l, 1) := by decide +kernel
theorem dX9_watcher_2 : decode cX9_watcher 2 = .ok (.lconst 0, 1) := by decide +kernel
theorem dX9_watcher_3 : decode cX9_watcher 3 = .ok (.ldc2_w 122, 3) := by decide +kernel
theorem dX9_watcher_6 : decode cX9_watcher 6 = .ok (.invokestatic 65, 3) := by decide +kernel
theorem dX9_watcher_9 : decode cX9_watcher 9 = .ok (.ifCond .eq 27, 3) := by decide +kernel
theorem dX9_watcher_12 : decode cX9_watcher 12 = .ok (.iload_n 2, 1) := by decide +kernel
theorem dX9_watcher_13 : decode cX9_watcher 13 = .ok (.i2l, 1) := by decide +kernel
theorem dX9_watcher_14 : decode cX9_watcher 14 = .ok (.lconst 0, 1) := by decide +kernel
theorem dX9_watcher_15 : decode cX9_watcher 15 = .ok (.ldc2_w 124, 3) := by decide +kernel
theorem dX9_watcher_18 : decode cX9_watcher 18 = .ok (.invokestatic 65, 3) := by decide +kernel
theorem dX9_watcher_21 : decode cX9_watcher 21 = .ok (.ifCond .eq 15, 3) := by decide +kernel
theorem dX9_watcher_24 : decode cX9_watcher 24 = .ok (.iload_n 3, 1) := by decide +kernel
theorem dX9_watcher_25 : decode cX9_watcher 25 = .ok (.i2l, 1) := by decide +kernel
theorem dX9_watcher_26 : decode cX9_watcher 26 = .ok (.lconst 1, 1) := by decide +kernel
theorem dX9_watcher_27 : decode cX9_watcher 27 = .ok (.ldc2_w 112, 3) := by decide +kernel
theorem dX9_watcher_30 : decode cX9_watcher 30 = .ok (.invokestatic 65, 3) := by decide +kernel
theorem dX9_watcher_33 : decode cX9_watcher 33 = .ok (.ifCond .ne 6, 3) := by decide +kernel
theorem dX9_watcher_36 : decode cX9_watcher 36 = .ok (.ldc 72, 2) := by decide +kernel
theorem dX9_watcher_38 : decode cX9_watcher 38 = .ok (.ireturn, 1) := by decide +kernel
theorem dX9_watcher_39 : decode cX9_watcher 39 = .ok (.aload_n 0, 1) := by decide +kernel
theorem dX9_watcher_40 : decode cX9_watcher 40 = .ok (.getfield 7, 3) := by decide +kernel
theorem dX9_watcher_43 : decode cX9_watcher 43 = .ok (.iconst 1, 1) := by decide +kernel
theorem dX9_watcher_44 : decode cX9_watcher 44 = .ok (.iaload, 1) := by decide +kernel
theorem dX9_watcher_45 : decode cX9_watcher 45 = .ok (.bipush 8, 2) := by decide +kernel
theorem dX9_watcher_47 : decode cX9_watcher 47 = .ok (.if_icmp .ne 6, 3) := by decide +kernel
theorem dX9_watcher_50 : decode cX9_watcher 50 = .ok (.ldc 73, 2) := by decide +kernel
theorem dX9_watcher_52 : decode cX9_watcher 52 = .ok (.ireturn, 1) := by decide +kernel
theorem dX9_watcher_53 : decode cX9_watcher 53 = .ok (.aload_n 0, 1) := by decide +kernel
theorem dX9_watcher_54 : decode cX9_watcher 54 = .ok (.iload_n 1, 1) := by decide +kernel
theorem dX9_watcher_55 : decode cX9_watcher 55 = .ok (.iload_n 2, 1) := by decide +kernel
theorem dX9_watcher_56 : decode cX9_watcher 56 = .ok (.iload_n 3, 1) := by decide +kernel
theorem dX9_watcher_57 : decode cX9_watcher 57 = .ok (.invokevirtual 126, 3) := by decide +kernel
theorem dX9_watcher_60 : decode cX9_watcher 60 = .ok (.aload_n 0, 1) := by decide +kernel
theorem dX9_watcher_61 : decode cX9_watcher 61 = .ok (.getfield 7, 3) := by decide +kernel
theorem dX9_watcher_64 : decode cX9_watcher 64 = .ok (.iconst 1, 1) := by decide +kernel
theorem dX9_watcher_65 : decode cX9_watcher 65 = .ok (.iaload, 1) := by decide +kernel
theorem dX9_watcher_66 : decode cX9_watcher 66 = .ok (.iconst 1, 1) := by decide +kernel
theorem dX9_watcher_67 : decode cX9_watcher 67 = .ok (.isub, 1) := by decide +kernel
theorem dX9_watcher_68 : decode cX9_watcher 68 = .ok (.ireturn, 1) := by decide +kernel
theorem dX9_told_0 : decode cX9_told 0 = .ok (.aload_n 0, 1) := by decide +kernel
theorem dX9_told_1 : decode cX9_told 1 = .ok (.iload_n 1, 1) := by decide +kernel
theorem dX9_told_2 : decode cX9_told 2 = .ok (.invokevirtual 130, 3) := by decide +kernel
theorem dX9_told_5 : decode cX9_told 5 = .ok (.ifCond .eq 15, 3) := by decide +kernel
theorem dX9_told_8 : decode cX9_told 8 = .ok (.iload_n 2, 1) := by decide +kernel
theorem dX9_told_9 : decode cX9_told 9 = .ok (.i2l, 1) := by decide +kernel
theorem dX9_told_10 : decode cX9_told 10 = .ok (.lconst 0, 1) := by decide +kernel
theorem dX9_told_11 : decode cX9_told 11 = .ok (.ldc2_w 133, 3) := by decide +kernel
theorem dX9_told_14 : decode cX9_told 14 = .ok (.invokestatic 65, 3) := by decide +kernel
theorem dX9_told_17 : decode cX9_told 17 = .ok (.ifCond .ne 6, 3) := by decide +kernel
theorem dX9_told_20 : decode cX9_told 20 = .ok (.ldc 72, 2) := by decide +kernel
theorem dX9_told_22 : decode cX9_told 22 = .ok (.ireturn, 1) := by decide +kernel
theorem dX9_told_23 : decode cX9_told 23 = .ok (.iload_n 2, 1) := by decide +kernel
theorem dX9_told_24 : decode cX9_told 24 = .ok (.iconst 5, 1) := by decide +kernel
theorem dX9_told_25 : decode cX9_told 25 = .ok (.if_icmp .ge 12, 3) := by decide +kernel
theorem dX9_told_28 : decode cX9_told 28 = .ok (.aload_n 0, 1) := by decide +kernel
theorem dX9_told_29 : decode cX9_told 29 = .ok (.iload_n 1, 1) := by decide +kernel
theorem dX9_told_30 : decode cX9_told 30 = .ok (.iload_n 2, 1) := by decide +kernel
theorem dX9_told_31 : decode cX9_told 31 = .ok (.invokevirtual 91, 3) := by decide +kernel
theorem dX9_told_34 : decode cX9_told 34 = .ok (.goto 21, 3) := by decide +kernel
theorem dX9_told_37 : decode cX9_told 37 = .ok (.iload_n 2, 1) := by decide +kernel
theorem dX9_told_38 : decode cX9_told 38 = .ok (.iconst 5, 1) := by decide +kernel
theorem dX9_told_39 : decode cX9_told 39 = .ok (.if_icmp .ne 11, 3) := by decide +kernel
theorem dX9_told_42 : decode cX9_told 42 = .ok (.aload_n 0, 1) := by decide +kernel
theorem dX9_told_43 : decode cX9_told 43 = .ok (.iload_n 1, 1) := by decide +kernel
theorem dX9_told_44 : decode cX9_told 44 = .ok (.invokevirtual 101, 3) := by decide +kernel
theorem dX9_told_47 : decode cX9_told 47 = .ok (.goto 8, 3) := by decide +kernel
theorem dX9_told_50 : decode cX9_told 50 = .ok (.aload_n 0, 1) := by decide +kernel
theorem dX9_told_51 : decode cX9_told 51 = .ok (.iload_n 1, 1) := by decide +kernel
theorem dX9_told_52 : decode cX9_told 52 = .ok (.invokevirtual 135, 3) := by decide +kernel
theorem dX9_told_55 : decode cX9_told 55 = .ok (.ireturn, 1) := by decide +kernel
theorem dX9_isOf_0 : decode cX9_isOf 0 = .ok (.iload_n 0, 1) := by decide +kernel
theorem dX9_isOf_1 : decode cX9_isOf 1 = .ok (.iload_n 1, 1) := by decide +kernel
theorem dX9_isOf_2 : decode cX9_isOf 2 = .ok (.if_icmp .eq 27, 3) := by decide +kernel
theorem dX9_isOf_5 : decode cX9_isOf 5 = .ok (.iload_n 1, 1) := by decide +kernel
theorem dX9_isOf_6 : decode cX9_isOf 6 = .ok (.ifCond .eq 23, 3) := by decide +kernel
theorem dX9_isOf_9 : decode cX9_isOf 9 = .ok (.iload_n 1, 1) := by decide +kernel
theorem dX9_isOf_10 : decode cX9_isOf 10 = .ok (.iconst 1, 1) := by decide +kernel
theorem dX9_isOf_11 : decode cX9_isOf 11 = .ok (.if_icmp .ne 8, 3) := by decide +kernel
theorem dX9_isOf_14 : decode cX9_isOf 14 = .ok (.iload_n 0, 1) := by decide +kernel
theorem dX9_isOf_15 : decode cX9_isOf 15 = .ok (.iconst 3, 1) := by decide +kernel
theorem dX9_isOf_16 : decode cX9_isOf 16 = .ok (.if_icmp .eq 13, 3) := by decide +kernel
theorem dX9_isOf_19 : decode cX9_isOf 19 = .ok (.iload_n 1, 1) := by decide +kernel
theorem dX9_isOf_20 : decode cX9_isOf 20 = .ok (.iconst 2, 1) := by decide +kernel
theorem dX9_isOf_21 : decode cX9_isOf 21 = .ok (.if_icmp .ne 12, 3) := by decide +kernel
theorem dX9_isOf_24 : decode cX9_isOf 24 = .ok (.iload_n 0, 1) := by decide +kernel
theorem dX9_isOf_25 : decode cX9_isOf 25 = .ok (.iconst 4, 1) := by decide +kernel
theorem dX9_isOf_26 : decode cX9_isOf 26 = .ok (.if_icmp .ne 7, 3) := by decide +kernel
theorem dX9_isOf_29 : decode cX9_isOf 29 = .ok (.iconst 1, 1) := by decide +kernel
theorem dX9_isOf_30 : decode cX9_isOf 30 = .ok (.goto 4, 3) := by decide +kernel
theorem dX9_isOf_33 : decode cX9_isOf 33 = .ok (.iconst 0, 1) := by decide +kernel
theorem dX9_isOf_34 : decode cX9_isOf 34 = .ok (.ireturn, 1) := by decide +kernel
theorem dX9_as_0 : decode cX9_as 0 = .ok (.aload_n 0, 1) := by decide +kernel
theorem dX9_as_1 : decode cX9_as 1 = .ok (.iload_n 1, 1) := by decide +kernel
theorem dX9_as_2 : decode cX9_as 2 = .ok (.invokevirtual 130, 3) := by decide +kernel
theorem dX9_as_5 : decode cX9_as 5 = .ok (.ifCond .eq 15, 3) := by decide +kernel
theorem dX9_as_8 : decode cX9_as 8 = .ok (.iload_n 2, 1) := by decide +kernel
theorem dX9_as_9 : decode cX9_as 9 = .ok (.i2l, 1) := by decide +kernel
theorem dX9_as_10 : decode cX9_as 10 = .ok (.lconst 0, 1) := by decide +kernel
theorem dX9_as_11 : decode cX9_as 11 = .ok (.ldc2_w 122, 3) := by decide +kernel
theorem dX9_as_14 : decode cX9_as 14 = .ok (.invokestatic 65, 3) := by decide +kernel
theorem dX9_as_17 : decode cX9_as 17 = .ok (.ifCond .ne 6, 3) := by decide +kernel
theorem dX9_as_20 : decode cX9_as 20 = .ok (.ldc 72, 2) := by decide +kernel
theorem dX9_as_22 : decode cX9_as 22 = .ok (.ireturn, 1) := by decide +kernel
theorem dX9_as_23 : decode cX9_as 23 = .ok (.aload_n 0, 1) := by decide +kernel
theorem dX9_as_24 : decode cX9_as 24 = .ok (.iload_n 1, 1) := by decide +kernel
theorem dX9_as_25 : decode cX9_as 25 = .ok (.iconst 0, 1) := by decide +kernel
theorem dX9_as_26 : decode cX9_as 26 = .ok (.invokevirtual 91, 3) := by decide +kernel
theorem dX9_as_29 : decode cX9_as 29 = .ok (.iload_n 2, 1) := by decide +kernel
theorem dX9_as_30 : decode cX9_as 30 = .ok (.invokestatic 138, 3) := by decide +kernel
theorem dX9_as_33 : decode cX9_as 33 = .ok (.ifCond .eq 12, 3) := by decide +kernel
theorem dX9_as_36 : decode cX9_as 36 = .ok (.aload_n 0, 1) := by decide +kernel
theorem dX9_as_37 : decode cX9_as 37 = .ok (.iload_n 1, 1) := by decide +kernel
theorem dX9_as_38 : decode cX9_as 38 = .ok (.iconst 2, 1) := by decide +kernel
theorem dX9_as_39 : decode cX9_as 39 = .ok (.invokevirtual 91, 3) := by decide +kernel
theorem dX9_as_42 : decode cX9_as 42 = .ok (.goto 5, 3) := by decide +kernel
theorem dX9_as_45 : decode cX9_as 45 = .ok (.ldc 142, 2) := by decide +kernel
theorem dX9_as_47 : decode cX9_as 47 = .ok (.ireturn, 1) := by decide +kernel
theorem dX9_turns_0 : decode cX9_turns 0 = .ok (.aload_n 0, 1) := by decide +kernel
theorem dX9_turns_1 : decode cX9_turns 1 = .ok (.iload_n 1, 1) := by decide +kernel
theorem dX9_turns_2 : decode cX9_turns 2 = .ok (.invokevirtual 130, 3) := by decide +kernel
theorem dX9_turns_5 : decode cX9_turns 5 = .ok (.ifCond .eq 29, 3) := by decide +kernel
theorem dX9_turns_8 : decode cX9_turns 8 = .ok (.iload_n 2, 1) := by decide +kernel
theorem dX9_turns_9 : decode cX9_turns 9 = .ok (.i2l, 1) := by decide +kernel
theorem dX9_turns_10 : decode cX9_turns 10 = .ok (.lconst 0, 1) := by decide +kernel
theorem dX9_turns_11 : decode cX9_turns 11 = .ok (.ldc2_w 122, 3) := by decide +kernel
theorem dX9_turns_14 : decode cX9_turns 14 = .ok (.invokestatic 65, 3) := by decide +kernel
theorem dX9_turns_17 : decode cX9_turns 17 = .ok (.ifCond .eq 17, 3) := by decide +kernel
theorem dX9_turns_20 : decode cX9_turns 20 = .ok (.aload_n 0, 1) := by decide +kernel
theorem dX9_turns_21 : decode cX9_turns 21 = .ok (.bipush 48, 2) := by decide +kernel
theorem dX9_turns_23 : decode cX9_turns 23 = .ok (.iconst 5, 1) := by decide +kernel
theorem dX9_turns_24 : decode cX9_turns 24 = .ok (.iload_n 1, 1) := by decide +kernel
theorem dX9_turns_25 : decode cX9_turns 25 = .ok (.imul, 1) := by decide +kernel
theorem dX9_turns_26 : decode cX9_turns 26 = .ok (.iadd, 1) := by decide +kernel
theorem dX9_turns_27 : decode cX9_turns 27 = .ok (.iload_n 2, 1) := by decide +kernel
theorem dX9_turns_28 : decode cX9_turns 28 = .ok (.invokevirtual 114, 3) := by decide +kernel
theorem dX9_turns_31 : decode cX9_turns 31 = .ok (.goto 5, 3) := by decide +kernel
theorem dX9_turns_34 : decode cX9_turns 34 = .ok (.ldc 72, 2) := by decide +kernel
theorem dX9_turns_36 : decode cX9_turns 36 = .ok (.ireturn, 1) := by decide +kernel
theorem dX9_mayBe_0 : decode cX9_mayBe 0 = .ok (.iload_n 0, 1) := by decide +kernel
theorem dX9_mayBe_1 : decode cX9_mayBe 1 = .ok (.tableswitch 69 1 4 #[31, 41, 51, 61], 31) := by decide +kernel
theorem dX9_mayBe_32 : decode cX9_mayBe 32 = .ok (.iload_n 1, 1) := by decide +kernel
theorem dX9_mayBe_33 : decode cX9_mayBe 33 = .ok (.i2l, 1) := by decide +kernel
theorem dX9_mayBe_34 : decode cX9_mayBe 34 = .ok (.lconst 0, 1) := by decide +kernel
theorem dX9_mayBe_35 : decode cX9_mayBe 35 = .ok (.ldc2_w 124, 3) := by decide +kernel
theorem dX9_mayBe_38 : decode cX9_mayBe 38 = .ok (.invokestatic 65, 3) := by decide +kernel
theorem dX9_mayBe_41 : decode cX9_mayBe 41 = .ok (.ireturn, 1) := by decide +kernel
theorem dX9_mayBe_42 : decode cX9_mayBe 42 = .ok (.iload_n 1, 1) := by decide +kernel
theorem dX9_mayBe_43 : decode cX9_mayBe 43 = .ok (.i2l, 1) := by decide +kernel
theorem dX9_mayBe_44 : decode cX9_mayBe 44 = .ok (.lconst 1, 1) := by decide +kernel
theorem dX9_mayBe_45 : decode cX9_mayBe 45 = .ok (.ldc2_w 112, 3) := by decide +kernel
theorem dX9_mayBe_48 : decode cX9_mayBe 48 = .ok (.invokestatic 65, 3) := by decide +kernel
theorem dX9_mayBe_51 : decode cX9_mayBe 51 = .ok (.ireturn, 1) := by decide +kernel
theorem dX9_mayBe_52 : decode cX9_mayBe 52 = .ok (.iload_n 1, 1) := by decide +kernel
theorem dX9_mayBe_53 : decode cX9_mayBe 53 = .ok (.i2l, 1) := by decide +kernel
theorem dX9_mayBe_54 : decode cX9_mayBe 54 = .ok (.lconst 0, 1) := by decide +kernel
theorem dX9_mayBe_55 : decode cX9_mayBe 55 = .ok (.ldc2_w 143, 3) := by decide +kernel
theorem dX9_mayBe_58 : decode cX9_mayBe 58 = .ok (.invokestatic 65, 3) := by decide +kernel
theorem dX9_mayBe_61 : decode cX9_mayBe 61 = .ok (.ireturn, 1) := by decide +kernel
theorem dX9_mayBe_62 : decode cX9_mayBe 62 = .ok (.iload_n 1, 1) := by decide +kernel
theorem dX9_mayBe_63 : decode cX9_mayBe 63 = .ok (.i2l, 1) := by decide +kernel
theorem dX9_mayBe_64 : decode cX9_mayBe 64 = .ok (.lconst 0, 1) := by decide +kernel
theorem dX9_mayBe_65 : decode cX9_mayBe 65 = .ok (.lconst 1, 1) := by decide +kernel
theorem dX9_mayBe_66 : decode cX9_mayBe 66 = .ok (.invokestatic 65, 3) := by decide +kernel
theorem dX9_mayBe_69 : decode cX9_mayBe 69 = .ok (.ireturn, 1) := by decide +kernel
theorem dX9_mayBe_70 : decode cX9_mayBe 70 = .ok (.iconst 0, 1) := by decide +kernel
theorem dX9_mayBe_71 : decode cX9_mayBe 71 = .ok (.ireturn, 1) := by decide +kernel
theorem dX9_set_0 : decode cX9_set 0 = .ok (.aload_n 0, 1) := by decide +kernel
theorem dX9_set_1 : decode cX9_set 1 = .ok (.iload_n 1, 1) := by decide +kernel
theorem dX9_set_2 : decode cX9_set 2 = .ok (.invokevirtual 130, 3) := by decide +kernel
theorem dX9_set_5 : decode cX9_set 5 = .ok (.ifCond .eq 27, 3) := by decide +kernel
theorem dX9_set_8 : decode cX9_set 8 = .ok (.iload_n 2, 1) := by decide +kernel
theorem dX9_set_9 : decode cX9_set 9 = .ok (.iload_n 3, 1) := by decide +kernel
theorem dX9_set_10 : decode cX9_set 10 = .ok (.invokestatic 145, 3) := by decide +kernel
theorem dX9_set_13 : decode cX9_set 13 = .ok (.ifCond .eq 19, 3) := by decide +kernel
theorem dX9_set_16 : decode cX9_set 16 = .ok (.aload_n 0, 1) := by decide +kernel
theorem dX9_set_17 : decode cX9_set 17 = .ok (.bipush 48, 2) := by decide +kernel
theorem dX9_set_19 : decode cX9_set 19 = .ok (.iconst 5, 1) := by decide +kernel
theorem dX9_set_20 : decode cX9_set 20 = .ok (.iload_n 1, 1) := by decide +kernel
theorem dX9_set_21 : decode cX9_set 21 = .ok (.imul, 1) := by decide +kernel
theorem dX9_set_22 : decode cX9_set 22 = .ok (.iadd, 1) := by decide +kernel
theorem dX9_set_23 : decode cX9_set 23 = .ok (.iload_n 2, 1) := by decide +kernel
theorem dX9_set_24 : decode cX9_set 24 = .ok (.iadd, 1) := by decide +kernel
theorem dX9_set_25 : decode cX9_set 25 = .ok (.iload_n 3, 1) := by decide +kernel
theorem dX9_set_26 : decode cX9_set 26 = .ok (.invokevirtual 114, 3) := by decide +kernel
theorem dX9_set_29 : decode cX9_set 29 = .ok (.goto 5, 3) := by decide +kernel
theorem dX9_set_32 : decode cX9_set 32 = .ok (.ldc 72, 2) := by decide +kernel
theorem dX9_set_34 : decode cX9_set 34 = .ok (.ireturn, 1) := by decide +kernel
theorem dX9_deal_0 : decode cX9_deal 0 = .ok (.iload_n 1, 1) := by decide +kernel
theorem dX9_deal_1 : decode cX9_deal 1 = .ok (.i2l, 1) := by decide +kernel
theorem dX9_deal_2 : decode cX9_deal 2 = .ok (.lconst 1, 1) := by decide +kernel
theorem dX9_deal_3 : decode cX9_deal 3 = .ok (.ldc2_w 148, 3) := by decide +kernel
theorem dX9_deal_6 : decode cX9_deal 6 = .ok (.invokestatic 65, 3) := by decide +kernel
theorem dX9_deal_9 : decode cX9_deal 9 = .ok (.ifCond .ne 6, 3) := by decide +kernel
theorem dX9_deal_12 : decode cX9_deal 12 = .ok (.ldc 72, 2) := by decide +kernel
theorem dX9_deal_14 : decode cX9_deal 14 = .ok (.ireturn, 1) := by decide +kernel
theorem dX9_deal_15 : decode cX9_deal 15 = .ok (.iconst 0, 1) := by decide +kernel
theorem dX9_deal_16 : decode cX9_deal 16 = .ok (.istore_n 2, 1) := by decide +kernel
theorem dX9_deal_17 : decode cX9_deal 17 = .ok (.iload_n 2, 1) := by decide +kernel
theorem dX9_deal_18 : decode cX9_deal 18 = .ok (.iload_n 1, 1) := by decide +kernel
theorem dX9_deal_19 : decode cX9_deal 19 = .ok (.if_icmp .ge 53, 3) := by decide +kernel
theorem dX9_deal_22 : decode cX9_deal 22 = .ok (.aload_n 0, 1) := by decide +kernel
theorem dX9_deal_23 : decode cX9_deal 23 = .ok (.getfield 7, 3) := by decide +kernel
theorem dX9_deal_26 : decode cX9_deal 26 = .ok (.iconst 1, 1) := by decide +kernel
theorem dX9_deal_27 : decode cX9_deal 27 = .ok (.iaload, 1) := by decide +kernel
theorem dX9_deal_28 : decode cX9_deal 28 = .ok (.bipush 8, 2) := by decide +kernel
theorem dX9_deal_30 : decode cX9_deal 30 = .ok (.if_icmp .ge 42, 3) := by decide +kernel
theorem dX9_deal_33 : decode cX9_deal 33 = .ok (.aload_n 0, 1) := by decide +kernel
theorem dX9_deal_34 : decode cX9_deal 34 = .ok (.invokevirtual 150, 3) := by decide +kernel
theorem dX9_deal_37 : decode cX9_deal 37 = .ok (.bipush 6, 2) := by decide +kernel
theorem dX9_deal_39 : decode cX9_deal 39 = .ok (.irem, 1) := by decide +kernel
theorem dX9_deal_40 : decode cX9_deal 40 = .ok (.istore_n 3, 1) := by decide +kernel
theorem dX9_deal_41 : decode cX9_deal 41 = .ok (.aload_n 0, 1) := by decide +kernel
theorem dX9_deal_42 : decode cX9_deal 42 = .ok (.invokevirtual 150, 3) := by decide +kernel
theorem dX9_deal_45 : decode cX9_deal 45 = .ok (.bipush 12, 2) := by decide +kernel
theorem dX9_deal_47 : decode cX9_deal 47 = .ok (.irem, 1) := by decide +kernel
theorem dX9_deal_48 : decode cX9_deal 48 = .ok (.istore 4, 2) := by decide +kernel
theorem dX9_deal_50 : decode cX9_deal 50 = .ok (.aload_n 0, 1) := by decide +kernel
theorem dX9_deal_51 : decode cX9_deal 51 = .ok (.iload_n 3, 1) := by decide +kernel
theorem dX9_deal_52 : decode cX9_deal 52 = .ok (.iload 4, 2) := by decide +kernel
theorem dX9_deal_54 : decode cX9_deal 54 = .ok (.iconst 1, 1) := by decide +kernel
theorem dX9_deal_55 : decode cX9_deal 55 = .ok (.aload_n 0, 1) := by decide +kernel
theorem dX9_deal_56 : decode cX9_deal 56 = .ok (.invokevirtual 150, 3) := by decide +kernel
theorem dX9_deal_59 : decode cX9_deal 59 = .ok (.bipush 9, 2) := by decide +kernel
theorem dX9_deal_61 : decode cX9_deal 61 = .ok (.irem, 1) := by decide +kernel
theorem dX9_deal_62 : decode cX9_deal 62 = .ok (.iadd, 1) := by decide +kernel
theorem dX9_deal_63 : decode cX9_deal 63 = .ok (.invokevirtual 126, 3) := by decide +kernel
theorem dX9_deal_66 : decode cX9_deal 66 = .ok (.iinc 2 1, 3) := by decide +kernel
theorem dX9_deal_69 : decode cX9_deal 69 = .ok (.goto (-52), 3) := by decide +kernel
theorem dX9_deal_72 : decode cX9_deal 72 = .ok (.iload_n 2, 1) := by decide +kernel
theorem dX9_deal_73 : decode cX9_deal 73 = .ok (.ireturn, 1) := by decide +kernel
theorem dX9_seed_0 : decode cX9_seed 0 = .ok (.aload_n 0, 1) := by decide +kernel
theorem dX9_seed_1 : decode cX9_seed 1 = .ok (.bipush 10, 2) := by decide +kernel
theorem dX9_seed_3 : decode cX9_seed 3 = .ok (.iload_n 1, 1) := by decide +kernel
theorem dX9_seed_4 : decode cX9_seed 4 = .ok (.invokevirtual 114, 3) := by decide +kernel
theorem dX9_seed_7 : decode cX9_seed 7 = .ok (.ireturn, 1) := by decide +kernel
theorem dX9_comeTo_0 : decode cX9_comeTo 0 = .ok (.iconst (-1), 1) := by decide +kernel
theorem dX9_comeTo_1 : decode cX9_comeTo 1 = .ok (.istore_n 1, 1) := by decide +kernel
theorem dX9_comeTo_2 : decode cX9_comeTo 2 = .ok (.iconst 0, 1) := by decide +kernel
theorem dX9_comeTo_3 : decode cX9_comeTo 3 = .ok (.istore_n 2, 1) := by decide +kernel
theorem dX9_comeTo_4 : decode cX9_comeTo 4 = .ok (.iconst 0, 1) := by decide +kernel
theorem dX9_comeTo_5 : decode cX9_comeTo 5 = .ok (.istore_n 3, 1) := by decide +kernel
theorem dX9_comeTo_6 : decode cX9_comeTo 6 = .ok (.iload_n 3, 1) := by decide +kernel
theorem dX9_comeTo_7 : decode cX9_comeTo 7 = .ok (.aload_n 0, 1) := by decide +kernel
theorem dX9_comeTo_8 : decode cX9_comeTo 8 = .ok (.getfield 7, 3) := by decide +kernel
theorem dX9_comeTo_11 : decode cX9_comeTo 11 = .ok (.iconst 0, 1) := by decide +kernel
theorem dX9_comeTo_12 : decode cX9_comeTo 12 = .ok (.iaload, 1) := by decide +kernel
theorem dX9_comeTo_13 : decode cX9_comeTo 13 = .ok (.if_icmp .ge 40, 3) := by decide +kernel
theorem dX9_comeTo_16 : decode cX9_comeTo 16 = .ok (.aload_n 0, 1) := by decide +kernel
theorem dX9_comeTo_17 : decode cX9_comeTo 17 = .ok (.getfield 7, 3) := by decide +kernel
theorem dX9_comeTo_20 : decode cX9_comeTo 20 = .ok (.iconst 4, 1) := by decide +kernel
theorem dX9_comeTo_21 : decode cX9_comeTo 21 = .ok (.iaload, 1) := by decide +kernel
theorem dX9_comeTo_22 : decode cX9_comeTo 22 = .ok (.ifCond .le 31, 3) := by decide +kernel
theorem dX9_comeTo_25 : decode cX9_comeTo 25 = .ok (.aload_n 0, 1) := by decide +kernel
theorem dX9_comeTo_26 : decode cX9_comeTo 26 = .ok (.iload_n 3, 1) := by decide +kernel
theorem dX9_comeTo_27 : decode cX9_comeTo 27 = .ok (.invokevirtual 107, 3) := by decide +kernel
theorem dX9_comeTo_30 : decode cX9_comeTo 30 = .ok (.istore 4, 2) := by decide +kernel
theorem dX9_comeTo_32 : decode cX9_comeTo 32 = .ok (.iload_n 1, 1) := by decide +kernel
theorem dX9_comeTo_33 : decode cX9_comeTo 33 = .ok (.ifCond .lt 9, 3) := by decide +kernel
theorem dX9_comeTo_36 : decode cX9_comeTo 36 = .ok (.iload 4, 2) := by decide +kernel
theorem dX9_comeTo_38 : decode cX9_comeTo 38 = .ok (.iload_n 2, 1) := by decide +kernel
theorem dX9_comeTo_39 : decode cX9_comeTo 39 = .ok (.if_icmp .ge 8, 3) := by decide +kernel
theorem dX9_comeTo_42 : decode cX9_comeTo 42 = .ok (.iload_n 3, 1) := by decide +kernel
theorem dX9_comeTo_43 : decode cX9_comeTo 43 = .ok (.istore_n 1, 1) := by decide +kernel
theorem dX9_comeTo_44 : decode cX9_comeTo 44 = .ok (.iload 4, 2) := by decide +kernel
theorem dX9_comeTo_46 : decode cX9_comeTo 46 = .ok (.istore_n 2, 1) := by decide +kernel
theorem dX9_comeTo_47 : decode cX9_comeTo 47 = .ok (.iinc 3 1, 3) := by decide +kernel
theorem dX9_comeTo_50 : decode cX9_comeTo 50 = .ok (.goto (-44), 3) := by decide +kernel
theorem dX9_comeTo_53 : decode cX9_comeTo 53 = .ok (.iload_n 1, 1) := by decide +kernel
theorem dX9_comeTo_54 : decode cX9_comeTo 54 = .ok (.ireturn, 1) := by decide +kernel
theorem dX9_burns_0 : decode cX9_burns 0 = .ok (.aload_n 0, 1) := by decide +kernel
theorem dX9_burns_1 : decode cX9_burns 1 = .ok (.iconst 0, 1) := by decide +kernel
theorem dX9_burns_2 : decode cX9_burns 2 = .ok (.putfield 154, 3) := by decide +kernel
theorem dX9_burns_5 : decode cX9_burns 5 = .ok (.iconst 0, 1) := by decide +kernel
theorem dX9_burns_6 : decode cX9_burns 6 = .ok (.istore_n 1, 1) := by decide +kernel
theorem dX9_burns_7 : decode cX9_burns 7 = .ok (.iload_n 1, 1) := by decide +kernel
theorem dX9_burns_8 : decode cX9_burns 8 = .ok (.aload_n 0, 1) := by decide +kernel
theorem dX9_burns_9 : decode cX9_burns 9 = .ok (.getfield 7, 3) := by decide +kernel
theorem dX9_burns_12 : decode cX9_burns 12 = .ok (.iconst 0, 1) := by decide +kernel
theorem dX9_burns_13 : decode cX9_burns 13 = .ok (.iaload, 1) := by decide +kernel
theorem dX9_burns_14 : decode cX9_burns 14 = .ok (.if_icmp .ge 69, 3) := by decide +kernel
theorem dX9_burns_17 : decode cX9_burns 17 = .ok (.aload_n 0, 1) := by decide +kernel
theorem dX9_burns_18 : decode cX9_burns 18 = .ok (.iload_n 1, 1) := by decide +kernel
theorem dX9_burns_19 : decode cX9_burns 19 = .ok (.iconst 1, 1) := by decide +kernel
theorem dX9_burns_20 : decode cX9_burns 20 = .ok (.invokevirtual 74, 3) := by decide +kernel
theorem dX9_burns_23 : decode cX9_burns 23 = .ok (.istore_n 2, 1) := by decide +kernel
theorem dX9_burns_24 : decode cX9_burns 24 = .ok (.iload_n 2, 1) := by decide +kernel
theorem dX9_burns_25 : decode cX9_burns 25 = .ok (.aload_n 0, 1) := by decide +kernel
theorem dX9_burns_26 : decode cX9_burns 26 = .ok (.getfield 7, 3) := by decide +kernel
theorem dX9_burns_29 : decode cX9_burns 29 = .ok (.iconst 3, 1) := by decide +kernel
theorem dX9_burns_30 : decode cX9_burns 30 = .ok (.iaload, 1) := by decide +kernel
theorem dX9_burns_31 : decode cX9_burns 31 = .ok (.if_icmp .le 25, 3) := by decide +kernel
theorem dX9_burns_34 : decode cX9_burns 34 = .ok (.aload_n 0, 1) := by decide +kernel
theorem dX9_burns_35 : decode cX9_burns 35 = .ok (.getfield 7, 3) := by decide +kernel
theorem dX9_burns_38 : decode cX9_burns 38 = .ok (.bipush 12, 2) := by decide +kernel
theorem dX9_burns_40 : decode cX9_burns 40 = .ok (.iconst 3, 1) := by decide +kernel
theorem dX9_burns_41 : decode cX9_burns 41 = .ok (.iload_n 1, 1) := by decide +kernel
theorem dX9_burns_42 : decode cX9_burns 42 = .ok (.imul, 1) := by decide +kernel
theorem dX9_burns_43 : decode cX9_burns 43 = .ok (.iadd, 1) := by decide +kernel
theorem dX9_burns_44 : decode cX9_burns 44 = .ok (.iconst 1, 1) := by decide +kernel
theorem dX9_burns_45 : decode cX9_burns 45 = .ok (.iadd, 1) := by decide +kernel
theorem dX9_burns_46 : decode cX9_burns 46 = .ok (.iconst 0, 1) := by decide +kernel
theorem dX9_burns_47 : decode cX9_burns 47 = .ok (.iastore, 1) := by decide +kernel
theorem dX9_burns_48 : decode cX9_burns 48 = .ok (.aload_n 0, 1) := by decide +kernel
theorem dX9_burns_49 : decode cX9_burns 49 = .ok (.iconst 1, 1) := by decide +kernel
theorem dX9_burns_50 : decode cX9_burns 50 = .ok (.putfield 154, 3) := by decide +kernel
theorem dX9_burns_53 : decode cX9_burns 53 = .ok (.goto 24, 3) := by decide +kernel
theorem dX9_burns_56 : decode cX9_burns 56 = .ok (.aload_n 0, 1) := by decide +kernel
theorem dX9_burns_57 : decode cX9_burns 57 = .ok (.getfield 7, 3) := by decide +kernel
theorem dX9_burns_60 : decode cX9_burns 60 = .ok (.iconst 3, 1) := by decide +kernel
theorem dX9_burns_61 : decode cX9_burns 61 = .ok (.dup2, 1) := by decide +kernel
theorem dX9_burns_62 : decode cX9_burns 62 = .ok (.iaload, 1) := by decide +kernel
theorem dX9_burns_63 : decode cX9_burns 63 = .ok (.iload_n 2, 1) := by decide +kernel
theorem dX9_burns_64 : decode cX9_burns 64 = .ok (.isub, 1) := by decide +kernel
theorem dX9_burns_65 : decode cX9_burns 65 = .ok (.iastore, 1) := by decide +kernel
theorem dX9_burns_66 : decode cX9_burns 66 = .ok (.aload_n 0, 1) := by decide +kernel
theorem dX9_burns_67 : decode cX9_burns 67 = .ok (.getfield 7, 3) := by decide +kernel
theorem dX9_burns_70 : decode cX9_burns 70 = .ok (.bipush 9, 2) := by decide +kernel
theorem dX9_burns_72 : decode cX9_burns 72 = .ok (.dup2, 1) := by decide +kernel
theorem dX9_burns_73 : decode cX9_burns 73 = .ok (.iaload, 1) := by decide +kernel
theorem dX9_burns_74 : decode cX9_burns 74 = .ok (.iload_n 2, 1) := by decide +kernel
theorem dX9_burns_75 : decode cX9_burns 75 = .ok (.iadd, 1) := by decide +kernel
theorem dX9_burns_76 : decode cX9_burns 76 = .ok (.iastore, 1) := by decide +kernel
theorem dX9_burns_77 : decode cX9_burns 77 = .ok (.iinc 1 1, 3) := by decide +kernel
theorem dX9_burns_80 : decode cX9_burns 80 = .ok (.goto (-73), 3) := by decide +kernel
theorem dX9_burns_83 : decode cX9_burns 83 = .ok (.return_, 1) := by decide +kernel
theorem dX9_comeAndTake_0 : decode cX9_comeAndTake 0 = .ok (.aload_n 0, 1) := by decide +kernel
theorem dX9_comeAndTake_1 : decode cX9_comeAndTake 1 = .ok (.aload_n 0, 1) := by decide +kernel
theorem dX9_comeAndTake_2 : decode cX9_comeAndTake 2 = .ok (.invokevirtual 158, 3) := by decide +kernel
theorem dX9_comeAndTake_5 : decode cX9_comeAndTake 5 = .ok (.putfield 161, 3) := by decide +kernel
theorem dX9_comeAndTake_8 : decode cX9_comeAndTake 8 = .ok (.aload_n 0, 1) := by decide +kernel
theorem dX9_comeAndTake_9 : decode cX9_comeAndTake 9 = .ok (.getfield 161, 3) := by decide +kernel
theorem dX9_comeAndTake_12 : decode cX9_comeAndTake 12 = .ok (.ifCond .ge 4, 3) := by decide +kernel
theorem dX9_comeAndTake_15 : decode cX9_comeAndTake 15 = .ok (.return_, 1) := by decide +kernel
theorem dX9_comeAndTake_16 : decode cX9_comeAndTake 16 = .ok (.bipush 12, 2) := by decide +kernel
theorem dX9_comeAndTake_18 : decode cX9_comeAndTake 18 = .ok (.iconst 3, 1) := by decide +kernel
theorem dX9_comeAndTake_19 : decode cX9_comeAndTake 19 = .ok (.aload_n 0, 1) := by decide +kernel
theorem dX9_comeAndTake_20 : decode cX9_comeAndTake 20 = .ok (.getfield 161, 3) := by decide +kernel
theorem dX9_comeAndTake_23 : decode cX9_comeAndTake 23 = .ok (.imul, 1) := by decide +kernel
theorem dX9_comeAndTake_24 : decode cX9_comeAndTake 24 = .ok (.iadd, 1) := by decide +kernel
theorem dX9_comeAndTake_25 : decode cX9_comeAndTake 25 = .ok (.istore_n 1, 1) := by decide +kernel
theorem dX9_comeAndTake_26 : decode cX9_comeAndTake 26 = .ok (.aload_n 0, 1) := by decide +kernel
theorem dX9_comeAndTake_27 : decode cX9_comeAndTake 27 = .ok (.aload_n 0, 1) := by decide +kernel
theorem dX9_comeAndTake_28 : decode cX9_comeAndTake 28 = .ok (.getfield 161, 3) := by decide +kernel
theorem dX9_comeAndTake_31 : decode cX9_comeAndTake 31 = .ok (.invokevirtual 104, 3) := by decide +kernel
theorem dX9_comeAndTake_34 : decode cX9_comeAndTake 34 = .ok (.aload_n 0, 1) := by decide +kernel
theorem dX9_comeAndTake_35 : decode cX9_comeAndTake 35 = .ok (.getfield 7, 3) := by decide +kernel
theorem dX9_comeAndTake_38 : decode cX9_comeAndTake 38 = .ok (.iconst 4, 1) := by decide +kernel
theorem dX9_comeAndTake_39 : decode cX9_comeAndTake 39 = .ok (.iaload, 1) := by decide +kernel
theorem dX9_comeAndTake_40 : decode cX9_comeAndTake 40 = .ok (.aload_n 0, 1) := by decide +kernel
theorem dX9_comeAndTake_41 : decode cX9_comeAndTake 41 = .ok (.getfield 7, 3) := by decide +kernel
theorem dX9_comeAndTake_44 : decode cX9_comeAndTake 44 = .ok (.iconst 5, 1) := by decide +kernel
theorem dX9_comeAndTake_45 : decode cX9_comeAndTake 45 = .ok (.iaload, 1) := by decide +kernel
theorem dX9_comeAndTake_46 : decode cX9_comeAndTake 46 = .ok (.iadd, 1) := by decide +kernel
theorem dX9_comeAndTake_47 : decode cX9_comeAndTake 47 = .ok (.if_icmp .ge 52, 3) := by decide +kernel
theorem dX9_comeAndTake_50 : decode cX9_comeAndTake 50 = .ok (.aload_n 0, 1) := by decide +kernel
theorem dX9_comeAndTake_51 : decode cX9_comeAndTake 51 = .ok (.getfield 7, 3) := by decide +kernel
theorem dX9_comeAndTake_54 : decode cX9_comeAndTake 54 = .ok (.iload_n 1, 1) := by decide +kernel
theorem dX9_comeAndTake_55 : decode cX9_comeAndTake 55 = .ok (.iaload, 1) := by decide +kernel
theorem dX9_comeAndTake_56 : decode cX9_comeAndTake 56 = .ok (.ifCond .le 43, 3) := by decide +kernel
theorem dX9_comeAndTake_59 : decode cX9_comeAndTake 59 = .ok (.aload_n 0, 1) := by decide +kernel
theorem dX9_comeAndTake_60 : decode cX9_comeAndTake 60 = .ok (.getfield 7, 3) := by decide +kernel
theorem dX9_comeAndTake_63 : decode cX9_comeAndTake 63 = .ok (.iload_n 1, 1) := by decide +kernel
theorem dX9_comeAndTake_64 : decode cX9_comeAndTake 64 = .ok (.dup2, 1) := by decide +kernel
theorem dX9_comeAndTake_65 : decode cX9_comeAndTake 65 = .ok (.iaload, 1) := by decide +kernel
theorem dX9_comeAndTake_66 : decode cX9_comeAndTake 66 = .ok (.iconst 1, 1) := by decide +kernel
theorem dX9_comeAndTake_67 : decode cX9_comeAndTake 67 = .ok (.isub, 1) := by decide +kernel
theorem dX9_comeAndTake_68 : decode cX9_comeAndTake 68 = .ok (.iastore, 1) := by decide +kernel
theorem dX9_comeAndTake_69 : decode cX9_comeAndTake 69 = .ok (.aload_n 0, 1) := by decide +kernel
theorem dX9_comeAndTake_70 : decode cX9_comeAndTake 70 = .ok (.getfield 7, 3) := by decide +kernel
theorem dX9_comeAndTake_73 : decode cX9_comeAndTake 73 = .ok (.bipush 8, 2) := by decide +kernel
theorem dX9_comeAndTake_75 : decode cX9_comeAndTake 75 = .ok (.dup2, 1) := by decide +kernel
theorem dX9_comeAndTake_76 : decode cX9_comeAndTake 76 = .ok (.iaload, 1) := by decide +kernel
theorem dX9_comeAndTake_77 : decode cX9_comeAndTake 77 = .ok (.iconst 1, 1) := by decide +kernel
theorem dX9_comeAndTake_78 : decode cX9_comeAndTake 78 = .ok (.iadd, 1) := by decide +kernel
theorem dX9_comeAndTake_79 : decode cX9_comeAndTake 79 = .ok (.iastore, 1) := by decide +kernel
theorem dX9_comeAndTake_80 : decode cX9_comeAndTake 80 = .ok (.aload_n 0, 1) := by decide +kernel
theorem dX9_comeAndTake_81 : decode cX9_comeAndTake 81 = .ok (.getfield 7, 3) := by decide +kernel
theorem dX9_comeAndTake_84 : decode cX9_comeAndTake 84 = .ok (.iconst 5, 1) := by decide +kernel
theorem dX9_comeAndTake_85 : decode cX9_comeAndTake 85 = .ok (.iconst 0, 1) := by decide +kernel
theorem dX9_comeAndTake_86 : decode cX9_comeAndTake 86 = .ok (.iastore, 1) := by decide +kernel
theorem dX9_comeAndTake_87 : decode cX9_comeAndTake 87 = .ok (.aload_n 0, 1) := by decide +kernel
theorem dX9_comeAndTake_88 : decode cX9_comeAndTake 88 = .ok (.getfield 7, 3) := by decide +kernel
theorem dX9_comeAndTake_91 : decode cX9_comeAndTake 91 = .ok (.iload_n 1, 1) := by decide +kernel
theorem dX9_comeAndTake_92 : decode cX9_comeAndTake 92 = .ok (.iconst 2, 1) := by decide +kernel
theorem dX9_comeAndTake_93 : decode cX9_comeAndTake 93 = .ok (.iadd, 1) := by decide +kernel
theorem dX9_comeAndTake_94 : decode cX9_comeAndTake 94 = .ok (.iconst 0, 1) := by decide +kernel
theorem dX9_comeAndTake_95 : decode cX9_comeAndTake 95 = .ok (.iastore, 1) := by decide +kernel
theorem dX9_comeAndTake_96 : decode cX9_comeAndTake 96 = .ok (.goto 45, 3) := by decide +kernel
theorem dX9_comeAndTake_99 : decode cX9_comeAndTake 99 = .ok (.aload_n 0, 1) := by decide +kernel
theorem dX9_comeAndTake_100 : decode cX9_comeAndTake 100 = .ok (.getfield 7, 3) := by decide +kernel
theorem dX9_comeAndTake_103 : decode cX9_comeAndTake 103 = .ok (.iload_n 1, 1) := by decide +kernel
theorem dX9_comeAndTake_104 : decode cX9_comeAndTake 104 = .ok (.iconst 2, 1) := by decide +kernel
theorem dX9_comeAndTake_105 : decode cX9_comeAndTake 105 = .ok (.iadd, 1) := by decide +kernel
theorem dX9_comeAndTake_106 : decode cX9_comeAndTake 106 = .ok (.aload_n 0, 1) := by decide +kernel
theorem dX9_comeAndTake_107 : decode cX9_comeAndTake 107 = .ok (.getfield 7, 3) := by decide +kernel
theorem dX9_comeAndTake_110 : decode cX9_comeAndTake 110 = .ok (.iload_n 1, 1) := by decide +kernel
theorem dX9_comeAndTake_111 : decode cX9_comeAndTake 111 = .ok (.iconst 2, 1) := by decide +kernel
theorem dX9_comeAndTake_112 : decode cX9_comeAndTake 112 = .ok (.iadd, 1) := by decide +kernel
theorem dX9_comeAndTake_113 : decode cX9_comeAndTake 113 = .ok (.iaload, 1) := by decide +kernel
theorem dX9_comeAndTake_114 : decode cX9_comeAndTake 114 = .ok (.iconst 1, 1) := by decide +kernel
theorem dX9_comeAndTake_115 : decode cX9_comeAndTake 115 = .ok (.iadd, 1) := by decide +kernel
theorem dX9_comeAndTake_116 : decode cX9_comeAndTake 116 = .ok (.bipush 99, 2) := by decide +kernel
theorem dX9_comeAndTake_118 : decode cX9_comeAndTake 118 = .ok (.invokestatic 88, 3) := by decide +kernel
theorem dX9_comeAndTake_121 : decode cX9_comeAndTake 121 = .ok (.iastore, 1) := by decide +kernel
theorem dX9_comeAndTake_122 : decode cX9_comeAndTake 122 = .ok (.aload_n 0, 1) := by decide +kernel
theorem dX9_comeAndTake_123 : decode cX9_comeAndTake 123 = .ok (.getfield 7, 3) := by decide +kernel
theorem dX9_comeAndTake_126 : decode cX9_comeAndTake 126 = .ok (.iconst 5, 1) := by decide +kernel
theorem dX9_comeAndTake_127 : decode cX9_comeAndTake 127 = .ok (.aload_n 0, 1) := by decide +kernel
theorem dX9_comeAndTake_128 : decode cX9_comeAndTake 128 = .ok (.getfield 7, 3) := by decide +kernel
theorem dX9_comeAndTake_131 : decode cX9_comeAndTake 131 = .ok (.iconst 5, 1) := by decide +kernel
theorem dX9_comeAndTake_132 : decode cX9_comeAndTake 132 = .ok (.iaload, 1) := by decide +kernel
theorem dX9_comeAndTake_133 : decode cX9_comeAndTake 133 = .ok (.iconst 1, 1) := by decide +kernel
theorem dX9_comeAndTake_134 : decode cX9_comeAndTake 134 = .ok (.iadd, 1) := by decide +kernel
theorem dX9_comeAndTake_135 : decode cX9_comeAndTake 135 = .ok (.bipush 99, 2) := by decide +kernel
theorem dX9_comeAndTake_137 : decode cX9_comeAndTake 137 = .ok (.invokestatic 88, 3) := by decide +kernel
theorem dX9_comeAndTake_140 : decode cX9_comeAndTake 140 = .ok (.iastore, 1) := by decide +kernel
theorem dX9_comeAndTake_141 : decode cX9_comeAndTake 141 = .ok (.return_, 1) := by decide +kernel
theorem dX9_tires_0 : decode cX9_tires 0 = .ok (.aload_n 0, 1) := by decide +kernel
theorem dX9_tires_1 : decode cX9_tires 1 = .ok (.iconst 2, 1) := by decide +kernel
theorem dX9_tires_2 : decode cX9_tires 2 = .ok (.invokevirtual 82, 3) := by decide +kernel
theorem dX9_tires_5 : decode cX9_tires 5 = .ok (.istore_n 2, 1) := by decide +kernel
theorem dX9_tires_6 : decode cX9_tires 6 = .ok (.iload_n 2, 1) := by decide +kernel
theorem dX9_tires_7 : decode cX9_tires 7 = .ok (.ifCond .ge 5, 3) := by decide +kernel
theorem dX9_tires_10 : decode cX9_tires 10 = .ok (.iconst 1, 1) := by decide +kernel
theorem dX9_tires_11 : decode cX9_tires 11 = .ok (.ireturn, 1) := by decide +kernel
theorem dX9_tires_12 : decode cX9_tires 12 = .ok (.aload_n 0, 1) := by decide +kernel
theorem dX9_tires_13 : decode cX9_tires 13 = .ok (.getfield 49, 3) := by decide +kernel
theorem dX9_tires_16 : decode cX9_tires 16 = .ok (.bipush 116, 2) := by decide +kernel
theorem dX9_tires_18 : decode cX9_tires 18 = .ok (.aload_n 0, 1) := by decide +kernel
theorem dX9_tires_19 : decode cX9_tires 19 = .ok (.iload_n 1, 1) := by decide +kernel
theorem dX9_tires_20 : decode cX9_tires 20 = .ok (.iconst 3, 1) := by decide +kernel
theorem dX9_tires_21 : decode cX9_tires 21 = .ok (.invokevirtual 91, 3) := by decide +kernel
theorem dX9_tires_24 : decode cX9_tires 24 = .ok (.iastore, 1) := by decide +kernel
theorem dX9_tires_25 : decode cX9_tires 25 = .ok (.aload_n 0, 1) := by decide +kernel
theorem dX9_tires_26 : decode cX9_tires 26 = .ok (.getfield 49, 3) := by decide +kernel
theorem dX9_tires_29 : decode cX9_tires 29 = .ok (.bipush 101, 2) := by decide +kernel
theorem dX9_tires_31 : decode cX9_tires 31 = .ok (.aload_n 0, 1) := by decide +kernel
theorem dX9_tires_32 : decode cX9_tires 32 = .ok (.iload_n 1, 1) := by decide +kernel
theorem dX9_tires_33 : decode cX9_tires 33 = .ok (.iconst 2, 1) := by decide +kernel
theorem dX9_tires_34 : decode cX9_tires 34 = .ok (.invokevirtual 91, 3) := by decide +kernel
theorem dX9_tires_37 : decode cX9_tires 37 = .ok (.iastore, 1) := by decide +kernel
theorem dX9_tires_38 : decode cX9_tires 38 = .ok (.aload_n 0, 1) := by decide +kernel
theorem dX9_tires_39 : decode cX9_tires 39 = .ok (.iload_n 2, 1) := by decide +kernel
theorem dX9_tires_40 : decode cX9_tires 40 = .ok (.invokevirtual 85, 3) := by decide +kernel
theorem dX9_tires_43 : decode cX9_tires 43 = .ok (.bipush 99, 2) := by decide +kernel
theorem dX9_tires_45 : decode cX9_tires 45 = .ok (.invokestatic 88, 3) := by decide +kernel
theorem dX9_tires_48 : decode cX9_tires 48 = .ok (.ireturn, 1) := by decide +kernel
theorem dX9_goesOn_0 : decode cX9_goesOn 0 = .ok (.aload_n 0, 1) := by decide +kernel
theorem dX9_goesOn_1 : decode cX9_goesOn 1 = .ok (.invokevirtual 165, 3) := by decide +kernel
theorem dX9_goesOn_4 : decode cX9_goesOn 4 = .ok (.aload_n 0, 1) := by decide +kernel
theorem dX9_goesOn_5 : decode cX9_goesOn 5 = .ok (.invokevirtual 168, 3) := by decide +kernel
theorem dX9_goesOn_8 : decode cX9_goesOn 8 = .ok (.iconst 0, 1) := by decide +kernel
theorem dX9_goesOn_9 : decode cX9_goesOn 9 = .ok (.istore_n 1, 1) := by decide +kernel
theorem dX9_goesOn_10 : decode cX9_goesOn 10 = .ok (.iload_n 1, 1) := by decide +kernel
theorem dX9_goesOn_11 : decode cX9_goesOn 11 = .ok (.aload_n 0, 1) := by decide +kernel
theorem dX9_goesOn_12 : decode cX9_goesOn 12 = .ok (.getfield 7, 3) := by decide +kernel
theorem dX9_goesOn_15 : decode cX9_goesOn 15 = .ok (.iconst 1, 1) := by decide +kernel
theorem dX9_goesOn_16 : decode cX9_goesOn 16 = .ok (.iaload, 1) := by decide +kernel
theorem dX9_goesOn_17 : decode cX9_goesOn 17 = .ok (.if_icmp .ge 86, 3) := by decide +kernel
theorem dX9_goesOn_20 : decode cX9_goesOn 20 = .ok (.bipush 48, 2) := by decide +kernel
theorem dX9_goesOn_22 : decode cX9_goesOn 22 = .ok (.iconst 5, 1) := by decide +kernel
theorem dX9_goesOn_23 : decode cX9_goesOn 23 = .ok (.iload_n 1, 1) := by decide +kernel
theorem dX9_goesOn_24 : decode cX9_goesOn 24 = .ok (.imul, 1) := by decide +kernel
theorem dX9_goesOn_25 : decode cX9_goesOn 25 = .ok (.iadd, 1) := by decide +kernel
theorem dX9_goesOn_26 : decode cX9_goesOn 26 = .ok (.iconst 3, 1) := by decide +kernel
theorem dX9_goesOn_27 : decode cX9_goesOn 27 = .ok (.iadd, 1) := by decide +kernel
theorem dX9_goesOn_28 : decode cX9_goesOn 28 = .ok (.istore_n 2, 1) := by decide +kernel
theorem dX9_goesOn_29 : decode cX9_goesOn 29 = .ok (.aload_n 0, 1) := by decide +kernel
theorem dX9_goesOn_30 : decode cX9_goesOn 30 = .ok (.iload_n 1, 1) := by decide +kernel
theorem dX9_goesOn_31 : decode cX9_goesOn 31 = .ok (.iconst 4, 1) := by decide +kernel
theorem dX9_goesOn_32 : decode cX9_goesOn 32 = .ok (.invokevirtual 91, 3) := by decide +kernel
theorem dX9_goesOn_35 : decode cX9_goesOn 35 = .ok (.iconst 1, 1) := by decide +kernel
theorem dX9_goesOn_36 : decode cX9_goesOn 36 = .ok (.if_icmp .ne 30, 3) := by decide +kernel
theorem dX9_goesOn_39 : decode cX9_goesOn 39 = .ok (.aload_n 0, 1) := by decide +kernel
theorem dX9_goesOn_40 : decode cX9_goesOn 40 = .ok (.getfield 7, 3) := by decide +kernel
theorem dX9_goesOn_43 : decode cX9_goesOn 43 = .ok (.iload_n 2, 1) := by decide +kernel
theorem dX9_goesOn_44 : decode cX9_goesOn 44 = .ok (.aload_n 0, 1) := by decide +kernel
theorem dX9_goesOn_45 : decode cX9_goesOn 45 = .ok (.getfield 7, 3) := by decide +kernel
theorem dX9_goesOn_48 : decode cX9_goesOn 48 = .ok (.iload_n 2, 1) := by decide +kernel
theorem dX9_goesOn_49 : decode cX9_goesOn 49 = .ok (.iaload, 1) := by decide +kernel
theorem dX9_goesOn_50 : decode cX9_goesOn 50 = .ok (.aload_n 0, 1) := by decide +kernel
theorem dX9_goesOn_51 : decode cX9_goesOn 51 = .ok (.iload_n 1, 1) := by decide +kernel
theorem dX9_goesOn_52 : decode cX9_goesOn 52 = .ok (.invokevirtual 171, 3) := by decide +kernel
theorem dX9_goesOn_55 : decode cX9_goesOn 55 = .ok (.iadd, 1) := by decide +kernel
theorem dX9_goesOn_56 : decode cX9_goesOn 56 = .ok (.sipush 999, 3) := by decide +kernel
theorem dX9_goesOn_59 : decode cX9_goesOn 59 = .ok (.invokestatic 88, 3) := by decide +kernel
theorem dX9_goesOn_62 : decode cX9_goesOn 62 = .ok (.iastore, 1) := by decide +kernel
theorem dX9_goesOn_63 : decode cX9_goesOn 63 = .ok (.goto 34, 3) := by decide +kernel
theorem dX9_goesOn_66 : decode cX9_goesOn 66 = .ok (.aload_n 0, 1) := by decide +kernel
theorem dX9_goesOn_67 : decode cX9_goesOn 67 = .ok (.getfield 7, 3) := by decide +kernel
theorem dX9_goesOn_70 : decode cX9_goesOn 70 = .ok (.iload_n 2, 1) := by decide +kernel
theorem dX9_goesOn_71 : decode cX9_goesOn 71 = .ok (.aload_n 0, 1) := by decide +kernel
theorem dX9_goesOn_72 : decode cX9_goesOn 72 = .ok (.getfield 7, 3) := by decide +kernel
theorem dX9_goesOn_75 : decode cX9_goesOn 75 = .ok (.iload_n 2, 1) := by decide +kernel
theorem dX9_goesOn_76 : decode cX9_goesOn 76 = .ok (.iaload, 1) := by decide +kernel
theorem dX9_goesOn_77 : decode cX9_goesOn 77 = .ok (.iconst 2, 1) := by decide +kernel
theorem dX9_goesOn_78 : decode cX9_goesOn 78 = .ok (.isub, 1) := by decide +kernel
theorem dX9_goesOn_79 : decode cX9_goesOn 79 = .ok (.sipush 999, 3) := by decide +kernel
theorem dX9_goesOn_82 : decode cX9_goesOn 82 = .ok (.invokestatic 88, 3) := by decide +kernel
theorem dX9_goesOn_85 : decode cX9_goesOn 85 = .ok (.iastore, 1) := by decide +kernel
theorem dX9_goesOn_86 : decode cX9_goesOn 86 = .ok (.aload_n 0, 1) := by decide +kernel
theorem dX9_goesOn_87 : decode cX9_goesOn 87 = .ok (.getfield 7, 3) := by decide +kernel
theorem dX9_goesOn_90 : decode cX9_goesOn 90 = .ok (.bipush 7, 2) := by decide +kernel
theorem dX9_goesOn_92 : decode cX9_goesOn 92 = .ok (.dup2, 1) := by decide +kernel
theorem dX9_goesOn_93 : decode cX9_goesOn 93 = .ok (.iaload, 1) := by decide +kernel
theorem dX9_goesOn_94 : decode cX9_goesOn 94 = .ok (.iconst 1, 1) := by decide +kernel
theorem dX9_goesOn_95 : decode cX9_goesOn 95 = .ok (.iadd, 1) := by decide +kernel
theorem dX9_goesOn_96 : decode cX9_goesOn 96 = .ok (.iastore, 1) := by decide +kernel
theorem dX9_goesOn_97 : decode cX9_goesOn 97 = .ok (.iinc 1 1, 3) := by decide +kernel
theorem dX9_goesOn_100 : decode cX9_goesOn 100 = .ok (.goto (-90), 3) := by decide +kernel
theorem dX9_goesOn_103 : decode cX9_goesOn 103 = .ok (.aload_n 0, 1) := by decide +kernel
theorem dX9_goesOn_104 : decode cX9_goesOn 104 = .ok (.getfield 7, 3) := by decide +kernel
theorem dX9_goesOn_107 : decode cX9_goesOn 107 = .ok (.bipush 6, 2) := by decide +kernel
theorem dX9_goesOn_109 : decode cX9_goesOn 109 = .ok (.dup2, 1) := by decide +kernel
theorem dX9_goesOn_110 : decode cX9_goesOn 110 = .ok (.iaload, 1) := by decide +kernel
theorem dX9_goesOn_111 : decode cX9_goesOn 111 = .ok (.iconst 1, 1) := by decide +kernel
theorem dX9_goesOn_112 : decode cX9_goesOn 112 = .ok (.iadd, 1) := by decide +kernel
theorem dX9_goesOn_113 : decode cX9_goesOn 113 = .ok (.iastore, 1) := by decide +kernel
theorem dX9_goesOn_114 : decode cX9_goesOn 114 = .ok (.return_, 1) := by decide +kernel
theorem dX9_hours_0 : decode cX9_hours 0 = .ok (.iload_n 1, 1) := by decide +kernel
theorem dX9_hours_1 : decode cX9_hours 1 = .ok (.i2l, 1) := by decide +kernel
theorem dX9_hours_2 : decode cX9_hours 2 = .ok (.lconst 1, 1) := by decide +kernel
theorem dX9_hours_3 : decode cX9_hours 3 = .ok (.ldc2_w 174, 3) := by decide +kernel
theorem dX9_hours_6 : decode cX9_hours 6 = .ok (.invokestatic 65, 3) := by decide +kernel
theorem dX9_hours_9 : decode cX9_hours 9 = .ok (.ifCond .ne 6, 3) := by decide +kernel
theorem dX9_hours_12 : decode cX9_hours 12 = .ok (.ldc 72, 2) := by decide +kernel
theorem dX9_hours_14 : decode cX9_hours 14 = .ok (.ireturn, 1) := by decide +kernel
theorem dX9_hours_15 : decode cX9_hours 15 = .ok (.aload_n 0, 1) := by decide +kernel
theorem dX9_hours_16 : decode cX9_hours 16 = .ok (.getfield 7, 3) := by decide +kernel
theorem dX9_hours_19 : decode cX9_hours 19 = .ok (.bipush 8, 2) := by decide +kernel
theorem dX9_hours_21 : decode cX9_hours 21 = .ok (.iaload, 1) := by decide +kernel
theorem dX9_hours_22 : decode cX9_hours 22 = .ok (.istore_n 2, 1) := by decide +kernel
theorem dX9_hours_23 : decode cX9_hours 23 = .ok (.iconst 0, 1) := by decide +kernel
theorem dX9_hours_24 : decode cX9_hours 24 = .ok (.istore_n 3, 1) := by decide +kernel
theorem dX9_hours_25 : decode cX9_hours 25 = .ok (.iload_n 3, 1) := by decide +kernel
theorem dX9_hours_26 : decode cX9_hours 26 = .ok (.iload_n 1, 1) := by decide +kernel
theorem dX9_hours_27 : decode cX9_hours 27 = .ok (.if_icmp .ge 26, 3) := by decide +kernel
theorem dX9_hours_30 : decode cX9_hours 30 = .ok (.aload_n 0, 1) := by decide +kernel
theorem dX9_hours_31 : decode cX9_hours 31 = .ok (.getfield 7, 3) := by decide +kernel
theorem dX9_hours_34 : decode cX9_hours 34 = .ok (.bipush 6, 2) := by decide +kernel
theorem dX9_hours_36 : decode cX9_hours 36 = .ok (.iaload, 1) := by decide +kernel
theorem dX9_hours_37 : decode cX9_hours 37 = .ok (.sipush 9999, 3) := by decide +kernel
theorem dX9_hours_40 : decode cX9_hours 40 = .ok (.if_icmp .ge 13, 3) := by decide +kernel
theorem dX9_hours_43 : decode cX9_hours 43 = .ok (.aload_n 0, 1) := by decide +kernel
theorem dX9_hours_44 : decode cX9_hours 44 = .ok (.invokevirtual 176, 3) := by decide +kernel
theorem dX9_hours_47 : decode cX9_hours 47 = .ok (.iinc 3 1, 3) := by decide +kernel
theorem dX9_hours_50 : decode cX9_hours 50 = .ok (.goto (-25), 3) := by decide +kernel
theorem dX9_hours_53 : decode cX9_hours 53 = .ok (.aload_n 0, 1) := by decide +kernel
theorem dX9_hours_54 : decode cX9_hours 54 = .ok (.getfield 7, 3) := by decide +kernel
theorem dX9_hours_57 : decode cX9_hours 57 = .ok (.bipush 8, 2) := by decide +kernel
theorem dX9_hours_59 : decode cX9_hours 59 = .ok (.iaload, 1) := by decide +kernel
theorem dX9_hours_60 : decode cX9_hours 60 = .ok (.iload_n 2, 1) := by decide +kernel
theorem dX9_hours_61 : decode cX9_hours 61 = .ok (.isub, 1) := by decide +kernel
theorem dX9_hours_62 : decode cX9_hours 62 = .ok (.ireturn, 1) := by decide +kernel
theorem dX9_night_0 : decode cX9_night 0 = .ok (.iload_n 1, 1) := by decide +kernel
theorem dX9_night_1 : decode cX9_night 1 = .ok (.tableswitch 63 0 3 #[31, 39, 47, 55], 31) := by decide +kernel
theorem dX9_night_32 : decode cX9_night 32 = .ok (.aload_n 0, 1) := by decide +kernel
theorem dX9_night_33 : decode cX9_night 33 = .ok (.getfield 7, 3) := by decide +kernel
theorem dX9_night_36 : decode cX9_night 36 = .ok (.bipush 8, 2) := by decide +kernel
theorem dX9_night_38 : decode cX9_night 38 = .ok (.iaload, 1) := by decide +kernel
theorem dX9_night_39 : decode cX9_night 39 = .ok (.ireturn, 1) := by decide +kernel
theorem dX9_night_40 : decode cX9_night 40 = .ok (.aload_n 0, 1) := by decide +kernel
theorem dX9_night_41 : decode cX9_night 41 = .ok (.getfield 7, 3) := by decide +kernel
theorem dX9_night_44 : decode cX9_night 44 = .ok (.bipush 7, 2) := by decide +kernel
theorem dX9_night_46 : decode cX9_night 46 = .ok (.iaload, 1) := by decide +kernel
theorem dX9_night_47 : decode cX9_night 47 = .ok (.ireturn, 1) := by decide +kernel
theorem dX9_night_48 : decode cX9_night 48 = .ok (.aload_n 0, 1) := by decide +kernel
theorem dX9_night_49 : decode cX9_night 49 = .ok (.getfield 7, 3) := by decide +kernel
theorem dX9_night_52 : decode cX9_night 52 = .ok (.bipush 9, 2) := by decide +kernel
theorem dX9_night_54 : decode cX9_night 54 = .ok (.iaload, 1) := by decide +kernel
theorem dX9_night_55 : decode cX9_night 55 = .ok (.ireturn, 1) := by decide +kernel
theorem dX9_night_56 : decode cX9_night 56 = .ok (.aload_n 0, 1) := by decide +kernel
theorem dX9_night_57 : decode cX9_night 57 = .ok (.invokevirtual 158, 3) := by decide +kernel
theorem dX9_night_60 : decode cX9_night 60 = .ok (.invokestatic 179, 3) := by decide +kernel
theorem dX9_night_63 : decode cX9_night 63 = .ok (.ireturn, 1) := by decide +kernel
theorem dX9_night_64 : decode cX9_night 64 = .ok (.ldc 72, 2) := by decide +kernel
theorem dX9_night_66 : decode cX9_night 66 = .ok (.ireturn, 1) := by decide +kernel
theorem dX9_allFoals_0 : decode cX9_allFoals 0 = .ok (.iconst 0, 1) := by decide +kernel
theorem dX9_allFoals_1 : decode cX9_allFoals 1 = .ok (.istore_n 1, 1) := by decide +kernel
theorem dX9_allFoals_2 : decode cX9_allFoals 2 = .ok (.iconst 0, 1) := by decide +kernel
theorem dX9_allFoals_3 : decode cX9_allFoals 3 = .ok (.istore_n 2, 1) := by decide +kernel
theorem dX9_allFoals_4 : decode cX9_allFoals 4 = .ok (.iload_n 2, 1) := by decide +kernel
theorem dX9_allFoals_5 : decode cX9_allFoals 5 = .ok (.aload_n 0, 1) := by decide +kernel
theorem dX9_allFoals_6 : decode cX9_allFoals 6 = .ok (.getfield 7, 3) := by decide +kernel
theorem dX9_allFoals_9 : decode cX9_allFoals 9 = .ok (.iconst 0, 1) := by decide +kernel
theorem dX9_allFoals_10 : decode cX9_allFoals 10 = .ok (.iaload, 1) := by decide +kernel
theorem dX9_allFoals_11 : decode cX9_allFoals 11 = .ok (.if_icmp .ge 18, 3) := by decide +kernel
theorem dX9_allFoals_14 : decode cX9_allFoals 14 = .ok (.iload_n 1, 1) := by decide +kernel
theorem dX9_allFoals_15 : decode cX9_allFoals 15 = .ok (.aload_n 0, 1) := by decide +kernel
theorem dX9_allFoals_16 : decode cX9_allFoals 16 = .ok (.iload_n 2, 1) := by decide +kernel
theorem dX9_allFoals_17 : decode cX9_allFoals 17 = .ok (.iconst 0, 1) := by decide +kernel
theorem dX9_allFoals_18 : decode cX9_allFoals 18 = .ok (.invokevirtual 74, 3) := by decide +kernel
theorem dX9_allFoals_21 : decode cX9_allFoals 21 = .ok (.iadd, 1) := by decide +kernel
theorem dX9_allFoals_22 : decode cX9_allFoals 22 = .ok (.istore_n 1, 1) := by decide +kernel
theorem dX9_allFoals_23 : decode cX9_allFoals 23 = .ok (.iinc 2 1, 3) := by decide +kernel
theorem dX9_allFoals_26 : decode cX9_allFoals 26 = .ok (.goto (-22), 3) := by decide +kernel
theorem dX9_allFoals_29 : decode cX9_allFoals 29 = .ok (.iload_n 1, 1) := by decide +kernel
theorem dX9_allFoals_30 : decode cX9_allFoals 30 = .ok (.ireturn, 1) := by decide +kernel
theorem dX9_laysBy_0 : decode cX9_laysBy 0 = .ok (.iconst 0, 1) := by decide +kernel
theorem dX9_laysBy_1 : decode cX9_laysBy 1 = .ok (.istore_n 1, 1) := by decide +kernel
theorem dX9_laysBy_2 : decode cX9_laysBy 2 = .ok (.iload_n 1, 1) := by decide +kernel
theorem dX9_laysBy_3 : decode cX9_laysBy 3 = .ok (.bipush 88, 2) := by decide +kernel
theorem dX9_laysBy_5 : decode cX9_laysBy 5 = .ok (.if_icmp .ge 21, 3) := by decide +kernel
theorem dX9_laysBy_8 : decode cX9_laysBy 8 = .ok (.aload_n 0, 1) := by decide +kernel
theorem dX9_laysBy_9 : decode cX9_laysBy 9 = .ok (.getfield 43, 3) := by decide +kernel
theorem dX9_laysBy_12 : decode cX9_laysBy 12 = .ok (.iload_n 1, 1) := by decide +kernel
theorem dX9_laysBy_13 : decode cX9_laysBy 13 = .ok (.aload_n 0, 1) := by decide +kernel
theorem dX9_laysBy_14 : decode cX9_laysBy 14 = .ok (.getfield 7, 3) := by decide +kernel
theorem dX9_laysBy_17 : decode cX9_laysBy 17 = .ok (.iload_n 1, 1) := by decide +kernel
theorem dX9_laysBy_18 : decode cX9_laysBy 18 = .ok (.iaload, 1) := by decide +kernel
theorem dX9_laysBy_19 : decode cX9_laysBy 19 = .ok (.iastore, 1) := by decide +kernel
theorem dX9_laysBy_20 : decode cX9_laysBy 20 = .ok (.iinc 1 1, 3) := by decide +kernel
theorem dX9_laysBy_23 : decode cX9_laysBy 23 = .ok (.goto (-21), 3) := by decide +kernel
theorem dX9_laysBy_26 : decode cX9_laysBy 26 = .ok (.return_, 1) := by decide +kernel
theorem dX9_laysBack_0 : decode cX9_laysBack 0 = .ok (.iconst 0, 1) := by decide +kernel
theorem dX9_laysBack_1 : decode cX9_laysBack 1 = .ok (.istore_n 1, 1) := by decide +kernel
theorem dX9_laysBack_2 : decode cX9_laysBack 2 = .ok (.iload_n 1, 1) := by decide +kernel
theorem dX9_laysBack_3 : decode cX9_laysBack 3 = .ok (.bipush 88, 2) := by decide +kernel
theorem dX9_laysBack_5 : decode cX9_laysBack 5 = .ok (.if_icmp .ge 21, 3) := by decide +kernel
theorem dX9_laysBack_8 : decode cX9_laysBack 8 = .ok (.aload_n 0, 1) := by decide +kernel
theorem dX9_laysBack_9 : decode cX9_laysBack 9 = .ok (.getfield 7, 3) := by decide +kernel
theorem dX9_laysBack_12 : decode cX9_laysBack 12 = .ok (.iload_n 1, 1) := by decide +kernel
theorem dX9_laysBack_13 : decode cX9_laysBack 13 = .ok (.aload_n 0, 1) := by decide +kernel
theorem dX9_laysBack_14 : decode cX9_laysBack 14 = .ok (.getfield 43, 3) := by decide +kernel
theorem dX9_laysBack_17 : decode cX9_laysBack 17 = .ok (.iload_n 1, 1) := by decide +kernel
theorem dX9_laysBack_18 : decode cX9_laysBack 18 = .ok (.iaload, 1) := by decide +kernel
theorem dX9_laysBack_19 : decode cX9_laysBack 19 = .ok (.iastore, 1) := by decide +kernel
theorem dX9_laysBack_20 : decode cX9_laysBack 20 = .ok (.iinc 1 1, 3) := by decide +kernel
theorem dX9_laysBack_23 : decode cX9_laysBack 23 = .ok (.goto (-21), 3) := by decide +kernel
theorem dX9_laysBack_26 : decode cX9_laysBack 26 = .ok (.return_, 1) := by decide +kernel
theorem dX9_goesOnMany_0 : decode cX9_goesOnMany 0 = .ok (.iconst 0, 1) := by decide +kernel
theorem dX9_goesOnMany_1 : decode cX9_goesOnMany 1 = .ok (.istore_n 2, 1) := by decide +kernel
theorem dX9_goesOnMany_2 : decode cX9_goesOnMany 2 = .ok (.iload_n 2, 1) := by decide +kernel
theorem dX9_goesOnMany_3 : decode cX9_goesOnMany 3 = .ok (.iload_n 1, 1) := by decide +kernel
theorem dX9_goesOnMany_4 : decode cX9_goesOnMany 4 = .ok (.if_icmp .ge 13, 3) := by decide +kernel
theorem dX9_goesOnMany_7 : decode cX9_goesOnMany 7 = .ok (.aload_n 0, 1) := by decide +kernel
theorem dX9_goesOnMany_8 : decode cX9_goesOnMany 8 = .ok (.invokevirtual 176, 3) := by decide +kernel
theorem dX9_goesOnMany_11 : decode cX9_goesOnMany 11 = .ok (.iinc 2 1, 3) := by decide +kernel
theorem dX9_goesOnMany_14 : decode cX9_goesOnMany 14 = .ok (.goto (-12), 3) := by decide +kernel
theorem dX9_goesOnMany_17 : decode cX9_goesOnMany 17 = .ok (.return_, 1) := by decide +kernel
theorem dX9_behind_0 : decode cX9_behind 0 = .ok (.iload_n 1, 1) := by decide +kernel
theorem dX9_behind_1 : decode cX9_behind 1 = .ok (.i2l, 1) := by decide +kernel
theorem dX9_behind_2 : decode cX9_behind 2 = .ok (.lconst 0, 1) := by decide +kernel
theorem dX9_behind_3 : decode cX9_behind 3 = .ok (.ldc2_w 174, 3) := by decide +kernel
theorem dX9_behind_6 : decode cX9_behind 6 = .ok (.invokestatic 65, 3) := by decide +kernel
theorem dX9_behind_9 : decode cX9_behind 9 = .ok (.ifCond .eq 15, 3) := by decide +kernel
theorem dX9_behind_12 : decode cX9_behind 12 = .ok (.iload_n 2, 1) := by decide +kernel
theorem dX9_behind_13 : decode cX9_behind 13 = .ok (.i2l, 1) := by decide +kernel
theorem dX9_behind_14 : decode cX9_behind 14 = .ok (.lconst 0, 1) := by decide +kernel
theorem dX9_behind_15 : decode cX9_behind 15 = .ok (.ldc2_w 182, 3) := by decide +kernel
theorem dX9_behind_18 : decode cX9_behind 18 = .ok (.invokestatic 65, 3) := by decide +kernel
theorem dX9_behind_21 : decode cX9_behind 21 = .ok (.ifCond .ne 6, 3) := by decide +kernel
theorem dX9_behind_24 : decode cX9_behind 24 = .ok (.ldc 72, 2) := by decide +kernel
theorem dX9_behind_26 : decode cX9_behind 26 = .ok (.ireturn, 1) := by decide +kernel
theorem dX9_behind_27 : decode cX9_behind 27 = .ok (.aload_n 0, 1) := by decide +kernel
theorem dX9_behind_28 : decode cX9_behind 28 = .ok (.invokevirtual 184, 3) := by decide +kernel
theorem dX9_behind_31 : decode cX9_behind 31 = .ok (.aload_n 0, 1) := by decide +kernel
theorem dX9_behind_32 : decode cX9_behind 32 = .ok (.iload_n 1, 1) := by decide +kernel
theorem dX9_behind_33 : decode cX9_behind 33 = .ok (.invokevirtual 187, 3) := by decide +kernel
theorem dX9_behind_36 : decode cX9_behind 36 = .ok (.iload_n 2, 1) := by decide +kernel
theorem dX9_behind_37 : decode cX9_behind 37 = .ok (.ifCond .ne 13, 3) := by decide +kernel
theorem dX9_behind_40 : decode cX9_behind 40 = .ok (.aload_n 0, 1) := by decide +kernel
theorem dX9_behind_41 : decode cX9_behind 41 = .ok (.getfield 7, 3) := by decide +kernel
theorem dX9_behind_44 : decode cX9_behind 44 = .ok (.bipush 8, 2) := by decide +kernel
theorem dX9_behind_46 : decode cX9_behind 46 = .ok (.iaload, 1) := by decide +kernel
theorem dX9_behind_47 : decode cX9_behind 47 = .ok (.goto 35, 3) := by decide +kernel
theorem dX9_behind_50 : decode cX9_behind 50 = .ok (.iload_n 2, 1) := by decide +kernel
theorem dX9_behind_51 : decode cX9_behind 51 = .ok (.iconst 1, 1) := by decide +kernel
theorem dX9_behind_52 : decode cX9_behind 52 = .ok (.if_icmp .ne 12, 3) := by decide +kernel
theorem dX9_behind_55 : decode cX9_behind 55 = .ok (.aload_n 0, 1) := by decide +kernel
theorem dX9_behind_56 : decode cX9_behind 56 = .ok (.getfield 7, 3) := by decide +kernel
theorem dX9_behind_59 : decode cX9_behind 59 = .ok (.iconst 3, 1) := by decide +kernel
theorem dX9_behind_60 : decode cX9_behind 60 = .ok (.iaload, 1) := by decide +kernel
theorem dX9_behind_61 : decode cX9_behind 61 = .ok (.goto 21, 3) := by decide +kernel
theorem dX9_behind_64 : decode cX9_behind 64 = .ok (.iload_n 2, 1) := by decide +kernel
theorem dX9_behind_65 : decode cX9_behind 65 = .ok (.iconst 2, 1) := by decide +kernel
theorem dX9_behind_66 : decode cX9_behind 66 = .ok (.if_icmp .ne 12, 3) := by decide +kernel
theorem dX9_behind_69 : decode cX9_behind 69 = .ok (.aload_n 0, 1) := by decide +kernel
theorem dX9_behind_70 : decode cX9_behind 70 = .ok (.getfield 7, 3) := by decide +kernel
theorem dX9_behind_73 : decode cX9_behind 73 = .ok (.iconst 5, 1) := by decide +kernel
theorem dX9_behind_74 : decode cX9_behind 74 = .ok (.iaload, 1) := by decide +kernel
theorem dX9_behind_75 : decode cX9_behind 75 = .ok (.goto 7, 3) := by decide +kernel
theorem dX9_behind_78 : decode cX9_behind 78 = .ok (.aload_n 0, 1) := by decide +kernel
theorem dX9_behind_79 : decode cX9_behind 79 = .ok (.invokevirtual 191, 3) := by decide +kernel
theorem dX9_behind_82 : decode cX9_behind 82 = .ok (.istore_n 3, 1) := by decide +kernel
theorem dX9_behind_83 : decode cX9_behind 83 = .ok (.aload_n 0, 1) := by decide +kernel
theorem dX9_behind_84 : decode cX9_behind 84 = .ok (.invokevirtual 194, 3) := by decide +kernel
theorem dX9_behind_87 : decode cX9_behind 87 = .ok (.iload_n 3, 1) := by decide +kernel
theorem dX9_behind_88 : decode cX9_behind 88 = .ok (.ireturn, 1) := by decide +kernel
theorem dX9_lasts_0 : decode cX9_lasts 0 = .ok (.aload_n 0, 1) := by decide +kernel
theorem dX9_lasts_1 : decode cX9_lasts 1 = .ok (.invokevirtual 184, 3) := by decide +kernel
theorem dX9_lasts_4 : decode cX9_lasts 4 = .ok (.iconst (-1), 1) := by decide +kernel
theorem dX9_lasts_5 : decode cX9_lasts 5 = .ok (.istore_n 1, 1) := by decide +kernel
theorem dX9_lasts_6 : decode cX9_lasts 6 = .ok (.iconst 1, 1) := by decide +kernel
theorem dX9_lasts_7 : decode cX9_lasts 7 = .ok (.istore_n 2, 1) := by decide +kernel
theorem dX9_lasts_8 : decode cX9_lasts 8 = .ok (.iload_n 2, 1) := by decide +kernel
theorem dX9_lasts_9 : decode cX9_lasts 9 = .ok (.sipush 300, 3) := by decide +kernel
theorem dX9_lasts_12 : decode cX9_lasts 12 = .ok (.if_icmp .gt 30, 3) := by decide +kernel
theorem dX9_lasts_15 : decode cX9_lasts 15 = .ok (.iload_n 1, 1) := by decide +kernel
theorem dX9_lasts_16 : decode cX9_lasts 16 = .ok (.ifCond .ge 26, 3) := by decide +kernel
theorem dX9_lasts_19 : decode cX9_lasts 19 = .ok (.aload_n 0, 1) := by decide +kernel
theorem dX9_lasts_20 : decode cX9_lasts 20 = .ok (.invokevirtual 176, 3) := by decide +kernel
theorem dX9_lasts_23 : decode cX9_lasts 23 = .ok (.aload_n 0, 1) := by decide +kernel
theorem dX9_lasts_24 : decode cX9_lasts 24 = .ok (.getfield 154, 3) := by decide +kernel
theorem dX9_lasts_27 : decode cX9_lasts 27 = .ok (.ifCond .eq 7, 3) := by decide +kernel
theorem dX9_lasts_30 : decode cX9_lasts 30 = .ok (.iload_n 2, 1) := by decide +kernel
theorem dX9_lasts_31 : decode cX9_lasts 31 = .ok (.goto 4, 3) := by decide +kernel
theorem dX9_lasts_34 : decode cX9_lasts 34 = .ok (.iconst (-1), 1) := by decide +kernel
theorem dX9_lasts_35 : decode cX9_lasts 35 = .ok (.istore_n 1, 1) := by decide +kernel
theorem dX9_lasts_36 : decode cX9_lasts 36 = .ok (.iinc 2 1, 3) := by decide +kernel
theorem dX9_lasts_39 : decode cX9_lasts 39 = .ok (.goto (-31), 3) := by decide +kernel
theorem dX9_lasts_42 : decode cX9_lasts 42 = .ok (.aload_n 0, 1) := by decide +kernel
theorem dX9_lasts_43 : decode cX9_lasts 43 = .ok (.invokevirtual 194, 3) := by decide +kernel
theorem dX9_lasts_46 : decode cX9_lasts 46 = .ok (.iload_n 1, 1) := by decide +kernel
theorem dX9_lasts_47 : decode cX9_lasts 47 = .ok (.invokestatic 179, 3) := by decide +kernel
theorem dX9_lasts_50 : decode cX9_lasts 50 = .ok (.ireturn, 1) := by decide +kernel
theorem dX9_loss_0 : decode cX9_loss 0 = .ok (.aload_n 0, 1) := by decide +kernel
theorem dX9_loss_1 : decode cX9_loss 1 = .ok (.invokevirtual 184, 3) := by decide +kernel
theorem dX9_loss_4 : decode cX9_loss 4 = .ok (.iconst (-1), 1) := by decide +kernel
theorem dX9_loss_5 : decode cX9_loss 5 = .ok (.istore_n 1, 1) := by decide +kernel
theorem dX9_loss_6 : decode cX9_loss 6 = .ok (.iconst 1, 1) := by decide +kernel
theorem dX9_loss_7 : decode cX9_loss 7 = .ok (.istore_n 2, 1) := by decide +kernel
theorem dX9_loss_8 : decode cX9_loss 8 = .ok (.iload_n 2, 1) := by decide +kernel
theorem dX9_loss_9 : decode cX9_loss 9 = .ok (.sipush 300, 3) := by decide +kernel
theorem dX9_loss_12 : decode cX9_loss 12 = .ok (.if_icmp .gt 40, 3) := by decide +kernel
theorem dX9_loss_15 : decode cX9_loss 15 = .ok (.iload_n 1, 1) := by decide +kernel
theorem dX9_loss_16 : decode cX9_loss 16 = .ok (.ifCond .ge 36, 3) := by decide +kernel
theorem dX9_loss_19 : decode cX9_loss 19 = .ok (.aload_n 0, 1) := by decide +kernel
theorem dX9_loss_20 : decode cX9_loss 20 = .ok (.invokevirtual 176, 3) := by decide +kernel
theorem dX9_loss_23 : decode cX9_loss 23 = .ok (.aload_n 0, 1) := by decide +kernel
theorem dX9_loss_24 : decode cX9_loss 24 = .ok (.getfield 7, 3) := by decide +kernel
theorem dX9_loss_27 : decode cX9_loss 27 = .ok (.bipush 8, 2) := by decide +kernel
theorem dX9_loss_29 : decode cX9_loss 29 = .ok (.iaload, 1) := by decide +kernel
theorem dX9_loss_30 : decode cX9_loss 30 = .ok (.aload_n 0, 1) := by decide +kernel
theorem dX9_loss_31 : decode cX9_loss 31 = .ok (.getfield 43, 3) := by decide +kernel
theorem dX9_loss_34 : decode cX9_loss 34 = .ok (.bipush 8, 2) := by decide +kernel
theorem dX9_loss_36 : decode cX9_loss 36 = .ok (.iaload, 1) := by decide +kernel
theorem dX9_loss_37 : decode cX9_loss 37 = .ok (.if_icmp .le 7, 3) := by decide +kernel
theorem dX9_loss_40 : decode cX9_loss 40 = .ok (.iload_n 2, 1) := by decide +kernel
theorem dX9_loss_41 : decode cX9_loss 41 = .ok (.goto 4, 3) := by decide +kernel
theorem dX9_loss_44 : decode cX9_loss 44 = .ok (.iconst (-1), 1) := by decide +kernel
theorem dX9_loss_45 : decode cX9_loss 45 = .ok (.istore_n 1, 1) := by decide +kernel
theorem dX9_loss_46 : decode cX9_loss 46 = .ok (.iinc 2 1, 3) := by decide +kernel
theorem dX9_loss_49 : decode cX9_loss 49 = .ok (.goto (-41), 3) := by decide +kernel
theorem dX9_loss_52 : decode cX9_loss 52 = .ok (.aload_n 0, 1) := by decide +kernel
theorem dX9_loss_53 : decode cX9_loss 53 = .ok (.invokevirtual 194, 3) := by decide +kernel
theorem dX9_loss_56 : decode cX9_loss 56 = .ok (.iload_n 1, 1) := by decide +kernel
theorem dX9_loss_57 : decode cX9_loss 57 = .ok (.invokestatic 179, 3) := by decide +kernel
theorem dX9_loss_60 : decode cX9_loss 60 = .ok (.ireturn, 1) := by decide +kernel
end
section
theorem dX9_dark_0 : decode cX9_dark 0 = .ok (.iload_n 1, 1) := by decide +kernel
theorem dX9_dark_1 : decode cX9_dark 1 = .ok (.i2l, 1) := by decide +kernel
theorem dX9_dark_2 : decode cX9_dark 2 = .ok (.lconst 0, 1) := by decide +kernel
theorem dX9_dark_3 : decode cX9_dark 3 = .ok (.ldc2_w 197, 3) := by decide +kernel
theorem dX9_dark_6 : decode cX9_dark 6 = .ok (.invokestatic 65, 3) := by decide +kernel
theorem dX9_dark_9 : decode cX9_dark 9 = .ok (.ifCond .ne 6, 3) := by decide +kernel
theorem dX9_dark_12 : decode cX9_dark 12 = .ok (.ldc 72, 2) := by decide +kernel
theorem dX9_dark_14 : decode cX9_dark 14 = .ok (.ireturn, 1) := by decide +kernel
theorem dX9_dark_15 : decode cX9_dark 15 = .ok (.iconst 0, 1) := by decide +kernel
theorem dX9_dark_16 : decode cX9_dark 16 = .ok (.istore_n 2, 1) := by decide +kernel
theorem dX9_dark_17 : decode cX9_dark 17 = .ok (.iconst 0, 1) := by decide +kernel
theorem dX9_dark_18 : decode cX9_dark 18 = .ok (.istore_n 3, 1) := by decide +kernel
theorem dX9_dark_19 : decode cX9_dark 19 = .ok (.iload_n 3, 1) := by decide +kernel
theorem dX9_dark_20 : decode cX9_dark 20 = .ok (.aload_n 0, 1) := by decide +kernel
theorem dX9_dark_21 : decode cX9_dark 21 = .ok (.getfield 7, 3) := by decide +kernel
theorem dX9_dark_24 : decode cX9_dark 24 = .ok (.iconst 0, 1) := by decide +kernel
theorem dX9_dark_25 : decode cX9_dark 25 = .ok (.iaload, 1) := by decide +kernel
theorem dX9_dark_26 : decode cX9_dark 26 = .ok (.if_icmp .ge 28, 3) := by decide +kernel
theorem dX9_dark_29 : decode cX9_dark 29 = .ok (.iload_n 2, 1) := by decide +kernel
theorem dX9_dark_30 : decode cX9_dark 30 = .ok (.aload_n 0, 1) := by decide +kernel
theorem dX9_dark_31 : decode cX9_dark 31 = .ok (.iload_n 3, 1) := by decide +kernel
theorem dX9_dark_32 : decode cX9_dark 32 = .ok (.invokevirtual 98, 3) := by decide +kernel
theorem dX9_dark_35 : decode cX9_dark 35 = .ok (.iload_n 1, 1) := by decide +kernel
theorem dX9_dark_36 : decode cX9_dark 36 = .ok (.if_icmp .ge 9, 3) := by decide +kernel
theorem dX9_dark_39 : decode cX9_dark 39 = .ok (.iconst 1, 1) := by decide +kernel
theorem dX9_dark_40 : decode cX9_dark 40 = .ok (.iload_n 3, 1) := by decide +kernel
theorem dX9_dark_41 : decode cX9_dark 41 = .ok (.ishl, 1) := by decide +kernel
theorem dX9_dark_42 : decode cX9_dark 42 = .ok (.goto 4, 3) := by decide +kernel
theorem dX9_dark_45 : decode cX9_dark 45 = .ok (.iconst 0, 1) := by decide +kernel
theorem dX9_dark_46 : decode cX9_dark 46 = .ok (.ior, 1) := by decide +kernel
theorem dX9_dark_47 : decode cX9_dark 47 = .ok (.istore_n 2, 1) := by decide +kernel
theorem dX9_dark_48 : decode cX9_dark 48 = .ok (.iinc 3 1, 3) := by decide +kernel
theorem dX9_dark_51 : decode cX9_dark 51 = .ok (.goto (-32), 3) := by decide +kernel
theorem dX9_dark_54 : decode cX9_dark 54 = .ok (.iload_n 2, 1) := by decide +kernel
theorem dX9_dark_55 : decode cX9_dark 55 = .ok (.ireturn, 1) := by decide +kernel
theorem dX9_laysFires_0 : decode cX9_laysFires 0 = .ok (.iconst 0, 1) := by decide +kernel
theorem dX9_laysFires_1 : decode cX9_laysFires 1 = .ok (.istore_n 2, 1) := by decide +kernel
theorem dX9_laysFires_2 : decode cX9_laysFires 2 = .ok (.iconst 0, 1) := by decide +kernel
theorem dX9_laysFires_3 : decode cX9_laysFires 3 = .ok (.istore_n 3, 1) := by decide +kernel
theorem dX9_laysFires_4 : decode cX9_laysFires 4 = .ok (.iload_n 3, 1) := by decide +kernel
theorem dX9_laysFires_5 : decode cX9_laysFires 5 = .ok (.aload_n 0, 1) := by decide +kernel
theorem dX9_laysFires_6 : decode cX9_laysFires 6 = .ok (.getfield 7, 3) := by decide +kernel
theorem dX9_laysFires_9 : decode cX9_laysFires 9 = .ok (.iconst 0, 1) := by decide +kernel
theorem dX9_laysFires_10 : decode cX9_laysFires 10 = .ok (.iaload, 1) := by decide +kernel
theorem dX9_laysFires_11 : decode cX9_laysFires 11 = .ok (.if_icmp .ge 47, 3) := by decide +kernel
theorem dX9_laysFires_14 : decode cX9_laysFires 14 = .ok (.iload_n 1, 1) := by decide +kernel
theorem dX9_laysFires_15 : decode cX9_laysFires 15 = .ok (.iconst 2, 1) := by decide +kernel
theorem dX9_laysFires_16 : decode cX9_laysFires 16 = .ok (.aload_n 0, 1) := by decide +kernel
theorem dX9_laysFires_17 : decode cX9_laysFires 17 = .ok (.getfield 7, 3) := by decide +kernel
theorem dX9_laysFires_20 : decode cX9_laysFires 20 = .ok (.iconst 0, 1) := by decide +kernel
theorem dX9_laysFires_21 : decode cX9_laysFires 21 = .ok (.iaload, 1) := by decide +kernel
theorem dX9_laysFires_22 : decode cX9_laysFires 22 = .ok (.iconst 1, 1) := by decide +kernel
theorem dX9_laysFires_23 : decode cX9_laysFires 23 = .ok (.isub, 1) := by decide +kernel
theorem dX9_laysFires_24 : decode cX9_laysFires 24 = .ok (.iload_n 3, 1) := by decide +kernel
theorem dX9_laysFires_25 : decode cX9_laysFires 25 = .ok (.isub, 1) := by decide +kernel
theorem dX9_laysFires_26 : decode cX9_laysFires 26 = .ok (.imul, 1) := by decide +kernel
theorem dX9_laysFires_27 : decode cX9_laysFires 27 = .ok (.ishr, 1) := by decide +kernel
theorem dX9_laysFires_28 : decode cX9_laysFires 28 = .ok (.iconst 3, 1) := by decide +kernel
theorem dX9_laysFires_29 : decode cX9_laysFires 29 = .ok (.iand, 1) := by decide +kernel
theorem dX9_laysFires_30 : decode cX9_laysFires 30 = .ok (.istore 4, 2) := by decide +kernel
theorem dX9_laysFires_32 : decode cX9_laysFires 32 = .ok (.aload_n 0, 1) := by decide +kernel
theorem dX9_laysFires_33 : decode cX9_laysFires 33 = .ok (.getfield 7, 3) := by decide +kernel
theorem dX9_laysFires_36 : decode cX9_laysFires 36 = .ok (.bipush 12, 2) := by decide +kernel
theorem dX9_laysFires_38 : decode cX9_laysFires 38 = .ok (.iconst 3, 1) := by decide +kernel
theorem dX9_laysFires_39 : decode cX9_laysFires 39 = .ok (.iload_n 3, 1) := by decide +kernel
theorem dX9_laysFires_40 : decode cX9_laysFires 40 = .ok (.imul, 1) := by decide +kernel
theorem dX9_laysFires_41 : decode cX9_laysFires 41 = .ok (.iadd, 1) := by decide +kernel
theorem dX9_laysFires_42 : decode cX9_laysFires 42 = .ok (.iconst 1, 1) := by decide +kernel
theorem dX9_laysFires_43 : decode cX9_laysFires 43 = .ok (.iadd, 1) := by decide +kernel
theorem dX9_laysFires_44 : decode cX9_laysFires 44 = .ok (.iload 4, 2) := by decide +kernel
theorem dX9_laysFires_46 : decode cX9_laysFires 46 = .ok (.iastore, 1) := by decide +kernel
theorem dX9_laysFires_47 : decode cX9_laysFires 47 = .ok (.iload_n 2, 1) := by decide +kernel
theorem dX9_laysFires_48 : decode cX9_laysFires 48 = .ok (.iload 4, 2) := by decide +kernel
theorem dX9_laysFires_50 : decode cX9_laysFires 50 = .ok (.iadd, 1) := by decide +kernel
theorem dX9_laysFires_51 : decode cX9_laysFires 51 = .ok (.istore_n 2, 1) := by decide +kernel
theorem dX9_laysFires_52 : decode cX9_laysFires 52 = .ok (.iinc 3 1, 3) := by decide +kernel
theorem dX9_laysFires_55 : decode cX9_laysFires 55 = .ok (.goto (-51), 3) := by decide +kernel
theorem dX9_laysFires_58 : decode cX9_laysFires 58 = .ok (.iload_n 2, 1) := by decide +kernel
theorem dX9_laysFires_59 : decode cX9_laysFires 59 = .ok (.ireturn, 1) := by decide +kernel
theorem dX9_leastLight_0 : decode cX9_leastLight 0 = .ok (.sipush 1000, 3) := by decide +kernel
theorem dX9_leastLight_3 : decode cX9_leastLight 3 = .ok (.istore_n 1, 1) := by decide +kernel
theorem dX9_leastLight_4 : decode cX9_leastLight 4 = .ok (.iconst 0, 1) := by decide +kernel
theorem dX9_leastLight_5 : decode cX9_leastLight 5 = .ok (.istore_n 2, 1) := by decide +kernel
theorem dX9_leastLight_6 : decode cX9_leastLight 6 = .ok (.iload_n 2, 1) := by decide +kernel
theorem dX9_leastLight_7 : decode cX9_leastLight 7 = .ok (.aload_n 0, 1) := by decide +kernel
theorem dX9_leastLight_8 : decode cX9_leastLight 8 = .ok (.getfield 7, 3) := by decide +kernel
theorem dX9_leastLight_11 : decode cX9_leastLight 11 = .ok (.iconst 0, 1) := by decide +kernel
theorem dX9_leastLight_12 : decode cX9_leastLight 12 = .ok (.iaload, 1) := by decide +kernel
theorem dX9_leastLight_13 : decode cX9_leastLight 13 = .ok (.if_icmp .ge 26, 3) := by decide +kernel
theorem dX9_leastLight_16 : decode cX9_leastLight 16 = .ok (.aload_n 0, 1) := by decide +kernel
theorem dX9_leastLight_17 : decode cX9_leastLight 17 = .ok (.iload_n 2, 1) := by decide +kernel
theorem dX9_leastLight_18 : decode cX9_leastLight 18 = .ok (.invokevirtual 98, 3) := by decide +kernel
theorem dX9_leastLight_21 : decode cX9_leastLight 21 = .ok (.istore_n 3, 1) := by decide +kernel
theorem dX9_leastLight_22 : decode cX9_leastLight 22 = .ok (.iload_n 3, 1) := by decide +kernel
theorem dX9_leastLight_23 : decode cX9_leastLight 23 = .ok (.iload_n 1, 1) := by decide +kernel
theorem dX9_leastLight_24 : decode cX9_leastLight 24 = .ok (.if_icmp .ge 7, 3) := by decide +kernel
theorem dX9_leastLight_27 : decode cX9_leastLight 27 = .ok (.iload_n 3, 1) := by decide +kernel
theorem dX9_leastLight_28 : decode cX9_leastLight 28 = .ok (.goto 4, 3) := by decide +kernel
theorem dX9_leastLight_31 : decode cX9_leastLight 31 = .ok (.iload_n 1, 1) := by decide +kernel
theorem dX9_leastLight_32 : decode cX9_leastLight 32 = .ok (.istore_n 1, 1) := by decide +kernel
theorem dX9_leastLight_33 : decode cX9_leastLight 33 = .ok (.iinc 2 1, 3) := by decide +kernel
theorem dX9_leastLight_36 : decode cX9_leastLight 36 = .ok (.goto (-30), 3) := by decide +kernel
theorem dX9_leastLight_39 : decode cX9_leastLight 39 = .ok (.iload_n 1, 1) := by decide +kernel
theorem dX9_leastLight_40 : decode cX9_leastLight 40 = .ok (.ireturn, 1) := by decide +kernel
theorem dX9_fires_0 : decode cX9_fires 0 = .ok (.iload_n 1, 1) := by decide +kernel
theorem dX9_fires_1 : decode cX9_fires 1 = .ok (.i2l, 1) := by decide +kernel
theorem dX9_fires_2 : decode cX9_fires 2 = .ok (.lconst 0, 1) := by decide +kernel
theorem dX9_fires_3 : decode cX9_fires 3 = .ok (.ldc2_w 199, 3) := by decide +kernel
theorem dX9_fires_6 : decode cX9_fires 6 = .ok (.invokestatic 65, 3) := by decide +kernel
theorem dX9_fires_9 : decode cX9_fires 9 = .ok (.ifCond .eq 15, 3) := by decide +kernel
theorem dX9_fires_12 : decode cX9_fires 12 = .ok (.iload_n 2, 1) := by decide +kernel
theorem dX9_fires_13 : decode cX9_fires 13 = .ok (.i2l, 1) := by decide +kernel
theorem dX9_fires_14 : decode cX9_fires 14 = .ok (.lconst 0, 1) := by decide +kernel
theorem dX9_fires_15 : decode cX9_fires 15 = .ok (.ldc2_w 110, 3) := by decide +kernel
theorem dX9_fires_18 : decode cX9_fires 18 = .ok (.invokestatic 65, 3) := by decide +kernel
theorem dX9_fires_21 : decode cX9_fires 21 = .ok (.ifCond .ne 6, 3) := by decide +kernel
theorem dX9_fires_24 : decode cX9_fires 24 = .ok (.ldc 72, 2) := by decide +kernel
theorem dX9_fires_26 : decode cX9_fires 26 = .ok (.ireturn, 1) := by decide +kernel
theorem dX9_fires_27 : decode cX9_fires 27 = .ok (.aload_n 0, 1) := by decide +kernel
theorem dX9_fires_28 : decode cX9_fires 28 = .ok (.getfield 7, 3) := by decide +kernel
theorem dX9_fires_31 : decode cX9_fires 31 = .ok (.iconst 0, 1) := by decide +kernel
theorem dX9_fires_32 : decode cX9_fires 32 = .ok (.iaload, 1) := by decide +kernel
theorem dX9_fires_33 : decode cX9_fires 33 = .ok (.ifCond .eq 14, 3) := by decide +kernel
theorem dX9_fires_36 : decode cX9_fires 36 = .ok (.aload_n 0, 1) := by decide +kernel
theorem dX9_fires_37 : decode cX9_fires 37 = .ok (.getfield 7, 3) := by decide +kernel
theorem dX9_fires_40 : decode cX9_fires 40 = .ok (.iconst 0, 1) := by decide +kernel
theorem dX9_fires_41 : decode cX9_fires 41 = .ok (.iaload, 1) := by decide +kernel
theorem dX9_fires_42 : decode cX9_fires 42 = .ok (.bipush 6, 2) := by decide +kernel
theorem dX9_fires_44 : decode cX9_fires 44 = .ok (.if_icmp .le 6, 3) := by decide +kernel
theorem dX9_fires_47 : decode cX9_fires 47 = .ok (.ldc 64, 2) := by decide +kernel
theorem dX9_fires_49 : decode cX9_fires 49 = .ok (.ireturn, 1) := by decide +kernel
theorem dX9_fires_50 : decode cX9_fires 50 = .ok (.aload_n 0, 1) := by decide +kernel
theorem dX9_fires_51 : decode cX9_fires 51 = .ok (.invokevirtual 184, 3) := by decide +kernel
theorem dX9_fires_54 : decode cX9_fires 54 = .ok (.iconst 0, 1) := by decide +kernel
theorem dX9_fires_55 : decode cX9_fires 55 = .ok (.istore_n 3, 1) := by decide +kernel
theorem dX9_fires_56 : decode cX9_fires 56 = .ok (.iconst (-1), 1) := by decide +kernel
theorem dX9_fires_57 : decode cX9_fires 57 = .ok (.istore 4, 2) := by decide +kernel
theorem dX9_fires_59 : decode cX9_fires 59 = .ok (.iconst 0, 1) := by decide +kernel
theorem dX9_fires_60 : decode cX9_fires 60 = .ok (.istore 5, 2) := by decide +kernel
theorem dX9_fires_62 : decode cX9_fires 62 = .ok (.iconst 0, 1) := by decide +kernel
theorem dX9_fires_63 : decode cX9_fires 63 = .ok (.istore 6, 2) := by decide +kernel
theorem dX9_fires_65 : decode cX9_fires 65 = .ok (.iload 6, 2) := by decide +kernel
theorem dX9_fires_67 : decode cX9_fires 67 = .ok (.iconst 1, 1) := by decide +kernel
theorem dX9_fires_68 : decode cX9_fires 68 = .ok (.iconst 2, 1) := by decide +kernel
theorem dX9_fires_69 : decode cX9_fires 69 = .ok (.aload_n 0, 1) := by decide +kernel
theorem dX9_fires_70 : decode cX9_fires 70 = .ok (.getfield 7, 3) := by decide +kernel
theorem dX9_fires_73 : decode cX9_fires 73 = .ok (.iconst 0, 1) := by decide +kernel
theorem dX9_fires_74 : decode cX9_fires 74 = .ok (.iaload, 1) := by decide +kernel
theorem dX9_fires_75 : decode cX9_fires 75 = .ok (.imul, 1) := by decide +kernel
theorem dX9_fires_76 : decode cX9_fires 76 = .ok (.ishl, 1) := by decide +kernel
theorem dX9_fires_77 : decode cX9_fires 77 = .ok (.if_icmp .ge 70, 3) := by decide +kernel
theorem dX9_fires_80 : decode cX9_fires 80 = .ok (.aload_n 0, 1) := by decide +kernel
theorem dX9_fires_81 : decode cX9_fires 81 = .ok (.iload 6, 2) := by decide +kernel
theorem dX9_fires_83 : decode cX9_fires 83 = .ok (.invokevirtual 201, 3) := by decide +kernel
theorem dX9_fires_86 : decode cX9_fires 86 = .ok (.istore 7, 2) := by decide +kernel
theorem dX9_fires_88 : decode cX9_fires 88 = .ok (.iload 7, 2) := by decide +kernel
theorem dX9_fires_90 : decode cX9_fires 90 = .ok (.iload_n 1, 1) := by decide +kernel
theorem dX9_fires_91 : decode cX9_fires 91 = .ok (.if_icmp .le 7, 3) := by decide +kernel
theorem dX9_fires_94 : decode cX9_fires 94 = .ok (.iconst (-1), 1) := by decide +kernel
theorem dX9_fires_95 : decode cX9_fires 95 = .ok (.goto 7, 3) := by decide +kernel
theorem dX9_fires_98 : decode cX9_fires 98 = .ok (.aload_n 0, 1) := by decide +kernel
theorem dX9_fires_99 : decode cX9_fires 99 = .ok (.invokevirtual 204, 3) := by decide +kernel
theorem dX9_fires_102 : decode cX9_fires 102 = .ok (.istore 8, 2) := by decide +kernel
theorem dX9_fires_104 : decode cX9_fires 104 = .ok (.iload 8, 2) := by decide +kernel
theorem dX9_fires_106 : decode cX9_fires 106 = .ok (.iload 4, 2) := by decide +kernel
theorem dX9_fires_108 : decode cX9_fires 108 = .ok (.if_icmp .gt 22, 3) := by decide +kernel
theorem dX9_fires_111 : decode cX9_fires 111 = .ok (.iload 8, 2) := by decide +kernel
theorem dX9_fires_113 : decode cX9_fires 113 = .ok (.ifCond .lt 28, 3) := by decide +kernel
theorem dX9_fires_116 : decode cX9_fires 116 = .ok (.iload 8, 2) := by decide +kernel
theorem dX9_fires_118 : decode cX9_fires 118 = .ok (.iload 4, 2) := by decide +kernel
theorem dX9_fires_120 : decode cX9_fires 120 = .ok (.if_icmp .ne 21, 3) := by decide +kernel
theorem dX9_fires_123 : decode cX9_fires 123 = .ok (.iload 7, 2) := by decide +kernel
theorem dX9_fires_125 : decode cX9_fires 125 = .ok (.iload 5, 2) := by decide +kernel
theorem dX9_fires_127 : decode cX9_fires 127 = .ok (.if_icmp .ge 14, 3) := by decide +kernel
theorem dX9_fires_130 : decode cX9_fires 130 = .ok (.iload 6, 2) := by decide +kernel
theorem dX9_fires_132 : decode cX9_fires 132 = .ok (.istore_n 3, 1) := by decide +kernel
theorem dX9_fires_133 : decode cX9_fires 133 = .ok (.iload 8, 2) := by decide +kernel
theorem dX9_fires_135 : decode cX9_fires 135 = .ok (.istore 4, 2) := by decide +kernel
theorem dX9_fires_137 : decode cX9_fires 137 = .ok (.iload 7, 2) := by decide +kernel
theorem dX9_fires_139 : decode cX9_fires 139 = .ok (.istore 5, 2) := by decide +kernel
theorem dX9_fires_141 : decode cX9_fires 141 = .ok (.iinc 6 1, 3) := by decide +kernel
theorem dX9_fires_144 : decode cX9_fires 144 = .ok (.goto (-79), 3) := by decide +kernel
theorem dX9_fires_147 : decode cX9_fires 147 = .ok (.aload_n 0, 1) := by decide +kernel
theorem dX9_fires_148 : decode cX9_fires 148 = .ok (.invokevirtual 194, 3) := by decide +kernel
theorem dX9_fires_151 : decode cX9_fires 151 = .ok (.iload_n 2, 1) := by decide +kernel
theorem dX9_fires_152 : decode cX9_fires 152 = .ok (.ifCond .ne 8, 3) := by decide +kernel
theorem dX9_fires_155 : decode cX9_fires 155 = .ok (.iload 4, 2) := by decide +kernel
theorem dX9_fires_157 : decode cX9_fires 157 = .ok (.goto 14, 3) := by decide +kernel
theorem dX9_fires_160 : decode cX9_fires 160 = .ok (.iload_n 2, 1) := by decide +kernel
theorem dX9_fires_161 : decode cX9_fires 161 = .ok (.iconst 1, 1) := by decide +kernel
theorem dX9_fires_162 : decode cX9_fires 162 = .ok (.if_icmp .ne 8, 3) := by decide +kernel
theorem dX9_fires_165 : decode cX9_fires 165 = .ok (.iload 5, 2) := by decide +kernel
theorem dX9_fires_167 : decode cX9_fires 167 = .ok (.goto 4, 3) := by decide +kernel
theorem dX9_fires_170 : decode cX9_fires 170 = .ok (.iload_n 3, 1) := by decide +kernel
theorem dX9_fires_171 : decode cX9_fires 171 = .ok (.ireturn, 1) := by decide +kernel
theorem dX9_watch_0 : decode cX9_watch 0 = .ok (.iload_n 1, 1) := by decide +kernel
theorem dX9_watch_1 : decode cX9_watch 1 = .ok (.i2l, 1) := by decide +kernel
theorem dX9_watch_2 : decode cX9_watch 2 = .ok (.lconst 1, 1) := by decide +kernel
theorem dX9_watch_3 : decode cX9_watch 3 = .ok (.ldc2_w 207, 3) := by decide +kernel
theorem dX9_watch_6 : decode cX9_watch 6 = .ok (.invokestatic 65, 3) := by decide +kernel
theorem dX9_watch_9 : decode cX9_watch 9 = .ok (.ifCond .eq 13, 3) := by decide +kernel
theorem dX9_watch_12 : decode cX9_watch 12 = .ok (.iload_n 2, 1) := by decide +kernel
theorem dX9_watch_13 : decode cX9_watch 13 = .ok (.i2l, 1) := by decide +kernel
theorem dX9_watch_14 : decode cX9_watch 14 = .ok (.lconst 0, 1) := by decide +kernel
theorem dX9_watch_15 : decode cX9_watch 15 = .ok (.lconst 1, 1) := by decide +kernel
theorem dX9_watch_16 : decode cX9_watch 16 = .ok (.invokestatic 65, 3) := by decide +kernel
theorem dX9_watch_19 : decode cX9_watch 19 = .ok (.ifCond .ne 6, 3) := by decide +kernel
theorem dX9_watch_22 : decode cX9_watch 22 = .ok (.ldc 72, 2) := by decide +kernel
theorem dX9_watch_24 : decode cX9_watch 24 = .ok (.ireturn, 1) := by decide +kernel
theorem dX9_watch_25 : decode cX9_watch 25 = .ok (.aload_n 0, 1) := by decide +kernel
theorem dX9_watch_26 : decode cX9_watch 26 = .ok (.invokevirtual 184, 3) := by decide +kernel
theorem dX9_watch_29 : decode cX9_watch 29 = .ok (.iconst (-1), 1) := by decide +kernel
theorem dX9_watch_30 : decode cX9_watch 30 = .ok (.istore_n 3, 1) := by decide +kernel
theorem dX9_watch_31 : decode cX9_watch 31 = .ok (.iconst 0, 1) := by decide +kernel
theorem dX9_watch_32 : decode cX9_watch 32 = .ok (.istore 4, 2) := by decide +kernel
theorem dX9_watch_34 : decode cX9_watch 34 = .ok (.iconst 0, 1) := by decide +kernel
theorem dX9_watch_35 : decode cX9_watch 35 = .ok (.istore 5, 2) := by decide +kernel
theorem dX9_watch_37 : decode cX9_watch 37 = .ok (.iload 5, 2) := by decide +kernel
theorem dX9_watch_39 : decode cX9_watch 39 = .ok (.aload_n 0, 1) := by decide +kernel
theorem dX9_watch_40 : decode cX9_watch 40 = .ok (.getfield 7, 3) := by decide +kernel
theorem dX9_watch_43 : decode cX9_watch 43 = .ok (.iconst 1, 1) := by decide +kernel
theorem dX9_watch_44 : decode cX9_watch 44 = .ok (.iaload, 1) := by decide +kernel
theorem dX9_watch_45 : decode cX9_watch 45 = .ok (.if_icmp .ge 91, 3) := by decide +kernel
theorem dX9_watch_48 : decode cX9_watch 48 = .ok (.iconst 0, 1) := by decide +kernel
theorem dX9_watch_49 : decode cX9_watch 49 = .ok (.istore 6, 2) := by decide +kernel
theorem dX9_watch_51 : decode cX9_watch 51 = .ok (.iload 6, 2) := by decide +kernel
theorem dX9_watch_53 : decode cX9_watch 53 = .ok (.aload_n 0, 1) := by decide +kernel
theorem dX9_watch_54 : decode cX9_watch 54 = .ok (.getfield 7, 3) := by decide +kernel
theorem dX9_watch_57 : decode cX9_watch 57 = .ok (.iconst 1, 1) := by decide +kernel
theorem dX9_watch_58 : decode cX9_watch 58 = .ok (.iaload, 1) := by decide +kernel
theorem dX9_watch_59 : decode cX9_watch 59 = .ok (.if_icmp .ge 35, 3) := by decide +kernel
theorem dX9_watch_62 : decode cX9_watch 62 = .ok (.aload_n 0, 1) := by decide +kernel
theorem dX9_watch_63 : decode cX9_watch 63 = .ok (.getfield 7, 3) := by decide +kernel
theorem dX9_watch_66 : decode cX9_watch 66 = .ok (.bipush 48, 2) := by decide +kernel
theorem dX9_watch_68 : decode cX9_watch 68 = .ok (.iconst 5, 1) := by decide +kernel
theorem dX9_watch_69 : decode cX9_watch 69 = .ok (.iload 6, 2) := by decide +kernel
theorem dX9_watch_71 : decode cX9_watch 71 = .ok (.imul, 1) := by decide +kernel
theorem dX9_watch_72 : decode cX9_watch 72 = .ok (.iadd, 1) := by decide +kernel
theorem dX9_watch_73 : decode cX9_watch 73 = .ok (.iconst 4, 1) := by decide +kernel
theorem dX9_watch_74 : decode cX9_watch 74 = .ok (.iadd, 1) := by decide +kernel
theorem dX9_watch_75 : decode cX9_watch 75 = .ok (.iload 6, 2) := by decide +kernel
theorem dX9_watch_77 : decode cX9_watch 77 = .ok (.iload 5, 2) := by decide +kernel
theorem dX9_watch_79 : decode cX9_watch 79 = .ok (.if_icmp .ne 7, 3) := by decide +kernel
theorem dX9_watch_82 : decode cX9_watch 82 = .ok (.iconst 1, 1) := by decide +kernel
theorem dX9_watch_83 : decode cX9_watch 83 = .ok (.goto 4, 3) := by decide +kernel
theorem dX9_watch_86 : decode cX9_watch 86 = .ok (.iconst 0, 1) := by decide +kernel
theorem dX9_watch_87 : decode cX9_watch 87 = .ok (.iastore, 1) := by decide +kernel
theorem dX9_watch_88 : decode cX9_watch 88 = .ok (.iinc 6 1, 3) := by decide +kernel
theorem dX9_watch_91 : decode cX9_watch 91 = .ok (.goto (-40), 3) := by decide +kernel
theorem dX9_watch_94 : decode cX9_watch 94 = .ok (.aload_n 0, 1) := by decide +kernel
theorem dX9_watch_95 : decode cX9_watch 95 = .ok (.iload_n 1, 1) := by decide +kernel
theorem dX9_watch_96 : decode cX9_watch 96 = .ok (.invokevirtual 187, 3) := by decide +kernel
theorem dX9_watch_99 : decode cX9_watch 99 = .ok (.aload_n 0, 1) := by decide +kernel
theorem dX9_watch_100 : decode cX9_watch 100 = .ok (.getfield 7, 3) := by decide +kernel
theorem dX9_watch_103 : decode cX9_watch 103 = .ok (.bipush 8, 2) := by decide +kernel
theorem dX9_watch_105 : decode cX9_watch 105 = .ok (.iaload, 1) := by decide +kernel
theorem dX9_watch_106 : decode cX9_watch 106 = .ok (.istore 6, 2) := by decide +kernel
theorem dX9_watch_108 : decode cX9_watch 108 = .ok (.aload_n 0, 1) := by decide +kernel
theorem dX9_watch_109 : decode cX9_watch 109 = .ok (.invokevirtual 194, 3) := by decide +kernel
theorem dX9_watch_112 : decode cX9_watch 112 = .ok (.iload_n 3, 1) := by decide +kernel
theorem dX9_watch_113 : decode cX9_watch 113 = .ok (.ifCond .lt 10, 3) := by decide +kernel
theorem dX9_watch_116 : decode cX9_watch 116 = .ok (.iload 6, 2) := by decide +kernel
theorem dX9_watch_118 : decode cX9_watch 118 = .ok (.iload 4, 2) := by decide +kernel
theorem dX9_watch_120 : decode cX9_watch 120 = .ok (.if_icmp .ge 10, 3) := by decide +kernel
theorem dX9_watch_123 : decode cX9_watch 123 = .ok (.iload 5, 2) := by decide +kernel
theorem dX9_watch_125 : decode cX9_watch 125 = .ok (.istore_n 3, 1) := by decide +kernel
theorem dX9_watch_126 : decode cX9_watch 126 = .ok (.iload 6, 2) := by decide +kernel
theorem dX9_watch_128 : decode cX9_watch 128 = .ok (.istore 4, 2) := by decide +kernel
theorem dX9_watch_130 : decode cX9_watch 130 = .ok (.iinc 5 1, 3) := by decide +kernel
theorem dX9_watch_133 : decode cX9_watch 133 = .ok (.goto (-96), 3) := by decide +kernel
theorem dX9_watch_136 : decode cX9_watch 136 = .ok (.iload_n 3, 1) := by decide +kernel
theorem dX9_watch_137 : decode cX9_watch 137 = .ok (.ifCond .ge 8, 3) := by decide +kernel
theorem dX9_watch_140 : decode cX9_watch 140 = .ok (.ldc 64, 2) := by decide +kernel
theorem dX9_watch_142 : decode cX9_watch 142 = .ok (.goto 13, 3) := by decide +kernel
theorem dX9_watch_145 : decode cX9_watch 145 = .ok (.iload_n 2, 1) := by decide +kernel
theorem dX9_watch_146 : decode cX9_watch 146 = .ok (.ifCond .ne 7, 3) := by decide +kernel
theorem dX9_watch_149 : decode cX9_watch 149 = .ok (.iload_n 3, 1) := by decide +kernel
theorem dX9_watch_150 : decode cX9_watch 150 = .ok (.goto 5, 3) := by decide +kernel
theorem dX9_watch_153 : decode cX9_watch 153 = .ok (.iload 4, 2) := by decide +kernel
theorem dX9_watch_155 : decode cX9_watch 155 = .ok (.ireturn, 1) := by decide +kernel
theorem dX9_place_0 : decode cX9_place 0 = .ok (.aload_n 0, 1) := by decide +kernel
theorem dX9_place_1 : decode cX9_place 1 = .ok (.iload_n 1, 1) := by decide +kernel
theorem dX9_place_2 : decode cX9_place 2 = .ok (.invokevirtual 130, 3) := by decide +kernel
theorem dX9_place_5 : decode cX9_place 5 = .ok (.ifCond .eq 15, 3) := by decide +kernel
theorem dX9_place_8 : decode cX9_place 8 = .ok (.iload_n 2, 1) := by decide +kernel
theorem dX9_place_9 : decode cX9_place 9 = .ok (.i2l, 1) := by decide +kernel
theorem dX9_place_10 : decode cX9_place 10 = .ok (.lconst 1, 1) := by decide +kernel
theorem dX9_place_11 : decode cX9_place 11 = .ok (.ldc2_w 207, 3) := by decide +kernel
theorem dX9_place_14 : decode cX9_place 14 = .ok (.invokestatic 65, 3) := by decide +kernel
theorem dX9_place_17 : decode cX9_place 17 = .ok (.ifCond .ne 6, 3) := by decide +kernel
theorem dX9_place_20 : decode cX9_place 20 = .ok (.ldc 72, 2) := by decide +kernel
theorem dX9_place_22 : decode cX9_place 22 = .ok (.ireturn, 1) := by decide +kernel
theorem dX9_place_23 : decode cX9_place 23 = .ok (.aload_n 0, 1) := by decide +kernel
theorem dX9_place_24 : decode cX9_place 24 = .ok (.invokevirtual 184, 3) := by decide +kernel
theorem dX9_place_27 : decode cX9_place 27 = .ok (.iconst (-1), 1) := by decide +kernel
theorem dX9_place_28 : decode cX9_place 28 = .ok (.istore_n 3, 1) := by decide +kernel
theorem dX9_place_29 : decode cX9_place 29 = .ok (.iconst 0, 1) := by decide +kernel
theorem dX9_place_30 : decode cX9_place 30 = .ok (.istore 4, 2) := by decide +kernel
theorem dX9_place_32 : decode cX9_place 32 = .ok (.iconst 0, 1) := by decide +kernel
theorem dX9_place_33 : decode cX9_place 33 = .ok (.istore 5, 2) := by decide +kernel
theorem dX9_place_35 : decode cX9_place 35 = .ok (.iload 5, 2) := by decide +kernel
theorem dX9_place_37 : decode cX9_place 37 = .ok (.aload_n 0, 1) := by decide +kernel
theorem dX9_place_38 : decode cX9_place 38 = .ok (.getfield 7, 3) := by decide +kernel
theorem dX9_place_41 : decode cX9_place 41 = .ok (.iconst 0, 1) := by decide +kernel
theorem dX9_place_42 : decode cX9_place 42 = .ok (.iaload, 1) := by decide +kernel
theorem dX9_place_43 : decode cX9_place 43 = .ok (.if_icmp .ge 74, 3) := by decide +kernel
theorem dX9_place_46 : decode cX9_place 46 = .ok (.aload_n 0, 1) := by decide +kernel
theorem dX9_place_47 : decode cX9_place 47 = .ok (.getfield 7, 3) := by decide +kernel
theorem dX9_place_50 : decode cX9_place 50 = .ok (.bipush 48, 2) := by decide +kernel
theorem dX9_place_52 : decode cX9_place 52 = .ok (.iconst 5, 1) := by decide +kernel
theorem dX9_place_53 : decode cX9_place 53 = .ok (.iload_n 1, 1) := by decide +kernel
theorem dX9_place_54 : decode cX9_place 54 = .ok (.imul, 1) := by decide +kernel
theorem dX9_place_55 : decode cX9_place 55 = .ok (.iadd, 1) := by decide +kernel
theorem dX9_place_56 : decode cX9_place 56 = .ok (.iconst 1, 1) := by decide +kernel
theorem dX9_place_57 : decode cX9_place 57 = .ok (.iadd, 1) := by decide +kernel
theorem dX9_place_58 : decode cX9_place 58 = .ok (.iload 5, 2) := by decide +kernel
theorem dX9_place_60 : decode cX9_place 60 = .ok (.iastore, 1) := by decide +kernel
theorem dX9_place_61 : decode cX9_place 61 = .ok (.aload_n 0, 1) := by decide +kernel
theorem dX9_place_62 : decode cX9_place 62 = .ok (.getfield 7, 3) := by decide +kernel
theorem dX9_place_65 : decode cX9_place 65 = .ok (.bipush 48, 2) := by decide +kernel
theorem dX9_place_67 : decode cX9_place 67 = .ok (.iconst 5, 1) := by decide +kernel
theorem dX9_place_68 : decode cX9_place 68 = .ok (.iload_n 1, 1) := by decide +kernel
theorem dX9_place_69 : decode cX9_place 69 = .ok (.imul, 1) := by decide +kernel
theorem dX9_place_70 : decode cX9_place 70 = .ok (.iadd, 1) := by decide +kernel
theorem dX9_place_71 : decode cX9_place 71 = .ok (.iconst 4, 1) := by decide +kernel
theorem dX9_place_72 : decode cX9_place 72 = .ok (.iadd, 1) := by decide +kernel
theorem dX9_place_73 : decode cX9_place 73 = .ok (.iconst 1, 1) := by decide +kernel
theorem dX9_place_74 : decode cX9_place 74 = .ok (.iastore, 1) := by decide +kernel
theorem dX9_place_75 : decode cX9_place 75 = .ok (.aload_n 0, 1) := by decide +kernel
theorem dX9_place_76 : decode cX9_place 76 = .ok (.iload_n 2, 1) := by decide +kernel
theorem dX9_place_77 : decode cX9_place 77 = .ok (.invokevirtual 187, 3) := by decide +kernel
theorem dX9_place_80 : decode cX9_place 80 = .ok (.aload_n 0, 1) := by decide +kernel
theorem dX9_place_81 : decode cX9_place 81 = .ok (.getfield 7, 3) := by decide +kernel
theorem dX9_place_84 : decode cX9_place 84 = .ok (.bipush 8, 2) := by decide +kernel
theorem dX9_place_86 : decode cX9_place 86 = .ok (.iaload, 1) := by decide +kernel
theorem dX9_place_87 : decode cX9_place 87 = .ok (.istore 6, 2) := by decide +kernel
theorem dX9_place_89 : decode cX9_place 89 = .ok (.aload_n 0, 1) := by decide +kernel
theorem dX9_place_90 : decode cX9_place 90 = .ok (.invokevirtual 194, 3) := by decide +kernel
theorem dX9_place_93 : decode cX9_place 93 = .ok (.iload_n 3, 1) := by decide +kernel
theorem dX9_place_94 : decode cX9_place 94 = .ok (.ifCond .lt 10, 3) := by decide +kernel
theorem dX9_place_97 : decode cX9_place 97 = .ok (.iload 6, 2) := by decide +kernel
theorem dX9_place_99 : decode cX9_place 99 = .ok (.iload 4, 2) := by decide +kernel
theorem dX9_place_101 : decode cX9_place 101 = .ok (.if_icmp .ge 10, 3) := by decide +kernel
theorem dX9_place_104 : decode cX9_place 104 = .ok (.iload 5, 2) := by decide +kernel
theorem dX9_place_106 : decode cX9_place 106 = .ok (.istore_n 3, 1) := by decide +kernel
theorem dX9_place_107 : decode cX9_place 107 = .ok (.iload 6, 2) := by decide +kernel
theorem dX9_place_109 : decode cX9_place 109 = .ok (.istore 4, 2) := by decide +kernel
theorem dX9_place_111 : decode cX9_place 111 = .ok (.iinc 5 1, 3) := by decide +kernel
theorem dX9_place_114 : decode cX9_place 114 = .ok (.goto (-79), 3) := by decide +kernel
theorem dX9_place_117 : decode cX9_place 117 = .ok (.iload_n 3, 1) := by decide +kernel
theorem dX9_place_118 : decode cX9_place 118 = .ok (.invokestatic 179, 3) := by decide +kernel
theorem dX9_place_121 : decode cX9_place 121 = .ok (.ireturn, 1) := by decide +kernel
theorem dX9_feed_0 : decode cX9_feed 0 = .ok (.aload_n 0, 1) := by decide +kernel
theorem dX9_feed_1 : decode cX9_feed 1 = .ok (.getfield 209, 3) := by decide +kernel
theorem dX9_feed_4 : decode cX9_feed 4 = .ok (.bipush 12, 2) := by decide +kernel
theorem dX9_feed_6 : decode cX9_feed 6 = .ok (.iadd, 1) := by decide +kernel
theorem dX9_feed_7 : decode cX9_feed 7 = .ok (.bipush 96, 2) := by decide +kernel
theorem dX9_feed_9 : decode cX9_feed 9 = .ok (.if_icmp .le 6, 3) := by decide +kernel
theorem dX9_feed_12 : decode cX9_feed 12 = .ok (.ldc 73, 2) := by decide +kernel
theorem dX9_feed_14 : decode cX9_feed 14 = .ok (.ireturn, 1) := by decide +kernel
theorem dX9_feed_15 : decode cX9_feed 15 = .ok (.iconst 0, 1) := by decide +kernel
theorem dX9_feed_16 : decode cX9_feed 16 = .ok (.istore 4, 2) := by decide +kernel
theorem dX9_feed_18 : decode cX9_feed 18 = .ok (.iload 4, 2) := by decide +kernel
theorem dX9_feed_20 : decode cX9_feed 20 = .ok (.bipush 12, 2) := by decide +kernel
theorem dX9_feed_22 : decode cX9_feed 22 = .ok (.if_icmp .ge 69, 3) := by decide +kernel
theorem dX9_feed_25 : decode cX9_feed 25 = .ok (.iload 4, 2) := by decide +kernel
theorem dX9_feed_27 : decode cX9_feed 27 = .ok (.iconst 4, 1) := by decide +kernel
theorem dX9_feed_28 : decode cX9_feed 28 = .ok (.if_icmp .ge 7, 3) := by decide +kernel
theorem dX9_feed_31 : decode cX9_feed 31 = .ok (.iload_n 1, 1) := by decide +kernel
theorem dX9_feed_32 : decode cX9_feed 32 = .ok (.goto 15, 3) := by decide +kernel
theorem dX9_feed_35 : decode cX9_feed 35 = .ok (.iload 4, 2) := by decide +kernel
theorem dX9_feed_37 : decode cX9_feed 37 = .ok (.bipush 8, 2) := by decide +kernel
theorem dX9_feed_39 : decode cX9_feed 39 = .ok (.if_icmp .ge 7, 3) := by decide +kernel
theorem dX9_feed_42 : decode cX9_feed 42 = .ok (.iload_n 2, 1) := by decide +kernel
theorem dX9_feed_43 : decode cX9_feed 43 = .ok (.goto 4, 3) := by decide +kernel
theorem dX9_feed_46 : decode cX9_feed 46 = .ok (.iload_n 3, 1) := by decide +kernel
theorem dX9_feed_47 : decode cX9_feed 47 = .ok (.istore 5, 2) := by decide +kernel
theorem dX9_feed_49 : decode cX9_feed 49 = .ok (.aload_n 0, 1) := by decide +kernel
theorem dX9_feed_50 : decode cX9_feed 50 = .ok (.getfield 46, 3) := by decide +kernel
theorem dX9_feed_53 : decode cX9_feed 53 = .ok (.aload_n 0, 1) := by decide +kernel
theorem dX9_feed_54 : decode cX9_feed 54 = .ok (.getfield 209, 3) := by decide +kernel
theorem dX9_feed_57 : decode cX9_feed 57 = .ok (.iload 5, 2) := by decide +kernel
theorem dX9_feed_59 : decode cX9_feed 59 = .ok (.bipush 24, 2) := by decide +kernel
theorem dX9_feed_61 : decode cX9_feed 61 = .ok (.bipush 8, 2) := by decide +kernel
theorem dX9_feed_63 : decode cX9_feed 63 = .ok (.iload 4, 2) := by decide +kernel
theorem dX9_feed_65 : decode cX9_feed 65 = .ok (.iconst 4, 1) := by decide +kernel
theorem dX9_feed_66 : decode cX9_feed 66 = .ok (.irem, 1) := by decide +kernel
theorem dX9_feed_67 : decode cX9_feed 67 = .ok (.imul, 1) := by decide +kernel
theorem dX9_feed_68 : decode cX9_feed 68 = .ok (.isub, 1) := by decide +kernel
theorem dX9_feed_69 : decode cX9_feed 69 = .ok (.ishr, 1) := by decide +kernel
theorem dX9_feed_70 : decode cX9_feed 70 = .ok (.sipush 255, 3) := by decide +kernel
theorem dX9_feed_73 : decode cX9_feed 73 = .ok (.iand, 1) := by decide +kernel
theorem dX9_feed_74 : decode cX9_feed 74 = .ok (.iastore, 1) := by decide +kernel
theorem dX9_feed_75 : decode cX9_feed 75 = .ok (.aload_n 0, 1) := by decide +kernel
theorem dX9_feed_76 : decode cX9_feed 76 = .ok (.dup, 1) := by decide +kernel
theorem dX9_feed_77 : decode cX9_feed 77 = .ok (.getfield 209, 3) := by decide +kernel
theorem dX9_feed_80 : decode cX9_feed 80 = .ok (.iconst 1, 1) := by decide +kernel
theorem dX9_feed_81 : decode cX9_feed 81 = .ok (.iadd, 1) := by decide +kernel
theorem dX9_feed_82 : decode cX9_feed 82 = .ok (.putfield 209, 3) := by decide +kernel
theorem dX9_feed_85 : decode cX9_feed 85 = .ok (.iinc 4 1, 3) := by decide +kernel
theorem dX9_feed_88 : decode cX9_feed 88 = .ok (.goto (-70), 3) := by decide +kernel
theorem dX9_feed_91 : decode cX9_feed 91 = .ok (.aload_n 0, 1) := by decide +kernel
theorem dX9_feed_92 : decode cX9_feed 92 = .ok (.getfield 209, 3) := by decide +kernel
theorem dX9_feed_95 : decode cX9_feed 95 = .ok (.ireturn, 1) := by decide +kernel
theorem dX9_trim_0 : decode cX9_trim 0 = .ok (.iload_n 1, 1) := by decide +kernel
theorem dX9_trim_1 : decode cX9_trim 1 = .ok (.i2l, 1) := by decide +kernel
theorem dX9_trim_2 : decode cX9_trim 2 = .ok (.lconst 0, 1) := by decide +kernel
theorem dX9_trim_3 : decode cX9_trim 3 = .ok (.aload_n 0, 1) := by decide +kernel
theorem dX9_trim_4 : decode cX9_trim 4 = .ok (.getfield 209, 3) := by decide +kernel
theorem dX9_trim_7 : decode cX9_trim 7 = .ok (.i2l, 1) := by decide +kernel
theorem dX9_trim_8 : decode cX9_trim 8 = .ok (.invokestatic 65, 3) := by decide +kernel
theorem dX9_trim_11 : decode cX9_trim 11 = .ok (.ifCond .ne 6, 3) := by decide +kernel
theorem dX9_trim_14 : decode cX9_trim 14 = .ok (.ldc 72, 2) := by decide +kernel
theorem dX9_trim_16 : decode cX9_trim 16 = .ok (.ireturn, 1) := by decide +kernel
theorem dX9_trim_17 : decode cX9_trim 17 = .ok (.aload_n 0, 1) := by decide +kernel
theorem dX9_trim_18 : decode cX9_trim 18 = .ok (.iload_n 1, 1) := by decide +kernel
theorem dX9_trim_19 : decode cX9_trim 19 = .ok (.putfield 209, 3) := by decide +kernel
theorem dX9_trim_22 : decode cX9_trim 22 = .ok (.iload_n 1, 1) := by decide +kernel
theorem dX9_trim_23 : decode cX9_trim 23 = .ok (.ireturn, 1) := by decide +kernel
theorem dX9_isLetter_0 : decode cX9_isLetter 0 = .ok (.iload_n 1, 1) := by decide +kernel
theorem dX9_isLetter_1 : decode cX9_isLetter 1 = .ok (.aload_n 0, 1) := by decide +kernel
theorem dX9_isLetter_2 : decode cX9_isLetter 2 = .ok (.getfield 209, 3) := by decide +kernel
theorem dX9_isLetter_5 : decode cX9_isLetter 5 = .ok (.if_icmp .ge 26, 3) := by decide +kernel
theorem dX9_isLetter_8 : decode cX9_isLetter 8 = .ok (.aload_n 0, 1) := by decide +kernel
theorem dX9_isLetter_9 : decode cX9_isLetter 9 = .ok (.getfield 46, 3) := by decide +kernel
theorem dX9_isLetter_12 : decode cX9_isLetter 12 = .ok (.iload_n 1, 1) := by decide +kernel
theorem dX9_isLetter_13 : decode cX9_isLetter 13 = .ok (.iaload, 1) := by decide +kernel
theorem dX9_isLetter_14 : decode cX9_isLetter 14 = .ok (.i2l, 1) := by decide +kernel
theorem dX9_isLetter_15 : decode cX9_isLetter 15 = .ok (.ldc2_w 212, 3) := by decide +kernel
theorem dX9_isLetter_18 : decode cX9_isLetter 18 = .ok (.ldc2_w 214, 3) := by decide +kernel
theorem dX9_isLetter_21 : decode cX9_isLetter 21 = .ok (.invokestatic 65, 3) := by decide +kernel
theorem dX9_isLetter_24 : decode cX9_isLetter 24 = .ok (.ifCond .eq 7, 3) := by decide +kernel
theorem dX9_isLetter_27 : decode cX9_isLetter 27 = .ok (.iconst 1, 1) := by decide +kernel
theorem dX9_isLetter_28 : decode cX9_isLetter 28 = .ok (.goto 4, 3) := by decide +kernel
theorem dX9_isLetter_31 : decode cX9_isLetter 31 = .ok (.iconst 0, 1) := by decide +kernel
theorem dX9_isLetter_32 : decode cX9_isLetter 32 = .ok (.ireturn, 1) := by decide +kernel
theorem dX9_isDigit_0 : decode cX9_isDigit 0 = .ok (.iload_n 1, 1) := by decide +kernel
theorem dX9_isDigit_1 : decode cX9_isDigit 1 = .ok (.aload_n 0, 1) := by decide +kernel
theorem dX9_isDigit_2 : decode cX9_isDigit 2 = .ok (.getfield 209, 3) := by decide +kernel
theorem dX9_isDigit_5 : decode cX9_isDigit 5 = .ok (.if_icmp .ge 26, 3) := by decide +kernel
theorem dX9_isDigit_8 : decode cX9_isDigit 8 = .ok (.aload_n 0, 1) := by decide +kernel
theorem dX9_isDigit_9 : decode cX9_isDigit 9 = .ok (.getfield 46, 3) := by decide +kernel
theorem dX9_isDigit_12 : decode cX9_isDigit 12 = .ok (.iload_n 1, 1) := by decide +kernel
theorem dX9_isDigit_13 : decode cX9_isDigit 13 = .ok (.iaload, 1) := by decide +kernel
theorem dX9_isDigit_14 : decode cX9_isDigit 14 = .ok (.i2l, 1) := by decide +kernel
theorem dX9_isDigit_15 : decode cX9_isDigit 15 = .ok (.ldc2_w 216, 3) := by decide +kernel
theorem dX9_isDigit_18 : decode cX9_isDigit 18 = .ok (.ldc2_w 218, 3) := by decide +kernel
theorem dX9_isDigit_21 : decode cX9_isDigit 21 = .ok (.invokestatic 65, 3) := by decide +kernel
theorem dX9_isDigit_24 : decode cX9_isDigit 24 = .ok (.ifCond .eq 7, 3) := by decide +kernel
theorem dX9_isDigit_27 : decode cX9_isDigit 27 = .ok (.iconst 1, 1) := by decide +kernel
theorem dX9_isDigit_28 : decode cX9_isDigit 28 = .ok (.goto 4, 3) := by decide +kernel
theorem dX9_isDigit_31 : decode cX9_isDigit 31 = .ok (.iconst 0, 1) := by decide +kernel
theorem dX9_isDigit_32 : decode cX9_isDigit 32 = .ok (.ireturn, 1) := by decide +kernel
theorem dX9_nextToken_0 : decode cX9_nextToken 0 = .ok (.aload_n 0, 1) := by decide +kernel
theorem dX9_nextToken_1 : decode cX9_nextToken 1 = .ok (.getfield 220, 3) := by decide +kernel
theorem dX9_nextToken_4 : decode cX9_nextToken 4 = .ok (.ifCond .le 23, 3) := by decide +kernel
theorem dX9_nextToken_7 : decode cX9_nextToken 7 = .ok (.aload_n 0, 1) := by decide +kernel
theorem dX9_nextToken_8 : decode cX9_nextToken 8 = .ok (.getfield 223, 3) := by decide +kernel
theorem dX9_nextToken_11 : decode cX9_nextToken 11 = .ok (.iconst 1, 1) := by decide +kernel
theorem dX9_nextToken_12 : decode cX9_nextToken 12 = .ok (.if_icmp .eq 11, 3) := by decide +kernel
theorem dX9_nextToken_15 : decode cX9_nextToken 15 = .ok (.aload_n 0, 1) := by decide +kernel
theorem dX9_nextToken_16 : decode cX9_nextToken 16 = .ok (.getfield 223, 3) := by decide +kernel
theorem dX9_nextToken_19 : decode cX9_nextToken 19 = .ok (.iconst 2, 1) := by decide +kernel
theorem dX9_nextToken_20 : decode cX9_nextToken 20 = .ok (.if_icmp .ne 7, 3) := by decide +kernel
theorem dX9_nextToken_23 : decode cX9_nextToken 23 = .ok (.iconst 1, 1) := by decide +kernel
theorem dX9_nextToken_24 : decode cX9_nextToken 24 = .ok (.goto 4, 3) := by decide +kernel
theorem dX9_nextToken_27 : decode cX9_nextToken 27 = .ok (.iconst 0, 1) := by decide +kernel
theorem dX9_nextToken_28 : decode cX9_nextToken 28 = .ok (.istore_n 1, 1) := by decide +kernel
theorem dX9_nextToken_29 : decode cX9_nextToken 29 = .ok (.aload_n 0, 1) := by decide +kernel
theorem dX9_nextToken_30 : decode cX9_nextToken 30 = .ok (.getfield 220, 3) := by decide +kernel
theorem dX9_nextToken_33 : decode cX9_nextToken 33 = .ok (.istore_n 2, 1) := by decide +kernel
theorem dX9_nextToken_34 : decode cX9_nextToken 34 = .ok (.aload_n 0, 1) := by decide +kernel
theorem dX9_nextToken_35 : decode cX9_nextToken 35 = .ok (.getfield 220, 3) := by decide +kernel
theorem dX9_nextToken_38 : decode cX9_nextToken 38 = .ok (.aload_n 0, 1) := by decide +kernel
theorem dX9_nextToken_39 : decode cX9_nextToken 39 = .ok (.getfield 209, 3) := by decide +kernel
theorem dX9_nextToken_42 : decode cX9_nextToken 42 = .ok (.if_icmp .ge 30, 3) := by decide +kernel
theorem dX9_nextToken_45 : decode cX9_nextToken 45 = .ok (.aload_n 0, 1) := by decide +kernel
theorem dX9_nextToken_46 : decode cX9_nextToken 46 = .ok (.getfield 46, 3) := by decide +kernel
theorem dX9_nextToken_49 : decode cX9_nextToken 49 = .ok (.aload_n 0, 1) := by decide +kernel
theorem dX9_nextToken_50 : decode cX9_nextToken 50 = .ok (.getfield 220, 3) := by decide +kernel
theorem dX9_nextToken_53 : decode cX9_nextToken 53 = .ok (.iaload, 1) := by decide +kernel
theorem dX9_nextToken_54 : decode cX9_nextToken 54 = .ok (.bipush 32, 2) := by decide +kernel
theorem dX9_nextToken_56 : decode cX9_nextToken 56 = .ok (.if_icmp .ne 16, 3) := by decide +kernel
theorem dX9_nextToken_59 : decode cX9_nextToken 59 = .ok (.aload_n 0, 1) := by decide +kernel
theorem dX9_nextToken_60 : decode cX9_nextToken 60 = .ok (.dup, 1) := by decide +kernel
theorem dX9_nextToken_61 : decode cX9_nextToken 61 = .ok (.getfield 220, 3) := by decide +kernel
theorem dX9_nextToken_64 : decode cX9_nextToken 64 = .ok (.iconst 1, 1) := by decide +kernel
theorem dX9_nextToken_65 : decode cX9_nextToken 65 = .ok (.iadd, 1) := by decide +kernel
theorem dX9_nextToken_66 : decode cX9_nextToken 66 = .ok (.putfield 220, 3) := by decide +kernel
theorem dX9_nextToken_69 : decode cX9_nextToken 69 = .ok (.goto (-35), 3) := by decide +kernel
theorem dX9_nextToken_72 : decode cX9_nextToken 72 = .ok (.iload_n 1, 1) := by decide +kernel
theorem dX9_nextToken_73 : decode cX9_nextToken 73 = .ok (.ifCond .eq 15, 3) := by decide +kernel
theorem dX9_nextToken_76 : decode cX9_nextToken 76 = .ok (.iload_n 2, 1) := by decide +kernel
theorem dX9_nextToken_77 : decode cX9_nextToken 77 = .ok (.aload_n 0, 1) := by decide +kernel
theorem dX9_nextToken_78 : decode cX9_nextToken 78 = .ok (.getfield 220, 3) := by decide +kernel
theorem dX9_nextToken_81 : decode cX9_nextToken 81 = .ok (.if_icmp .ne 7, 3) := by decide +kernel
theorem dX9_nextToken_84 : decode cX9_nextToken 84 = .ok (.iconst 1, 1) := by decide +kernel
theorem dX9_nextToken_85 : decode cX9_nextToken 85 = .ok (.goto 4, 3) := by decide +kernel
theorem dX9_nextToken_88 : decode cX9_nextToken 88 = .ok (.iconst 0, 1) := by decide +kernel
theorem dX9_nextToken_89 : decode cX9_nextToken 89 = .ok (.istore_n 1, 1) := by decide +kernel
theorem dX9_nextToken_90 : decode cX9_nextToken 90 = .ok (.aload_n 0, 1) := by decide +kernel
theorem dX9_nextToken_91 : decode cX9_nextToken 91 = .ok (.aload_n 0, 1) := by decide +kernel
theorem dX9_nextToken_92 : decode cX9_nextToken 92 = .ok (.getfield 220, 3) := by decide +kernel
theorem dX9_nextToken_95 : decode cX9_nextToken 95 = .ok (.putfield 226, 3) := by decide +kernel
theorem dX9_nextToken_98 : decode cX9_nextToken 98 = .ok (.aload_n 0, 1) := by decide +kernel
theorem dX9_nextToken_99 : decode cX9_nextToken 99 = .ok (.getfield 226, 3) := by decide +kernel
theorem dX9_nextToken_102 : decode cX9_nextToken 102 = .ok (.aload_n 0, 1) := by decide +kernel
theorem dX9_nextToken_103 : decode cX9_nextToken 103 = .ok (.getfield 209, 3) := by decide +kernel
theorem dX9_nextToken_106 : decode cX9_nextToken 106 = .ok (.if_icmp .ne 11, 3) := by decide +kernel
theorem dX9_nextToken_109 : decode cX9_nextToken 109 = .ok (.aload_n 0, 1) := by decide +kernel
theorem dX9_nextToken_110 : decode cX9_nextToken 110 = .ok (.iconst 0, 1) := by decide +kernel
theorem dX9_nextToken_111 : decode cX9_nextToken 111 = .ok (.putfield 223, 3) := by decide +kernel
theorem dX9_nextToken_114 : decode cX9_nextToken 114 = .ok (.goto 225, 3) := by decide +kernel
theorem dX9_nextToken_117 : decode cX9_nextToken 117 = .ok (.aload_n 0, 1) := by decide +kernel
theorem dX9_nextToken_118 : decode cX9_nextToken 118 = .ok (.aload_n 0, 1) := by decide +kernel
theorem dX9_nextToken_119 : decode cX9_nextToken 119 = .ok (.getfield 226, 3) := by decide +kernel
theorem dX9_nextToken_122 : decode cX9_nextToken 122 = .ok (.invokevirtual 229, 3) := by decide +kernel
theorem dX9_nextToken_125 : decode cX9_nextToken 125 = .ok (.ifCond .eq 73, 3) := by decide +kernel
theorem dX9_nextToken_128 : decode cX9_nextToken 128 = .ok (.aload_n 0, 1) := by decide +kernel
theorem dX9_nextToken_129 : decode cX9_nextToken 129 = .ok (.aload_n 0, 1) := by decide +kernel
theorem dX9_nextToken_130 : decode cX9_nextToken 130 = .ok (.getfield 220, 3) := by decide +kernel
theorem dX9_nextToken_133 : decode cX9_nextToken 133 = .ok (.invokevirtual 229, 3) := by decide +kernel
theorem dX9_nextToken_136 : decode cX9_nextToken 136 = .ok (.ifCond .eq 16, 3) := by decide +kernel
theorem dX9_nextToken_139 : decode cX9_nextToken 139 = .ok (.aload_n 0, 1) := by decide +kernel
theorem dX9_nextToken_140 : decode cX9_nextToken 140 = .ok (.dup, 1) := by decide +kernel
theorem dX9_nextToken_141 : decode cX9_nextToken 141 = .ok (.getfield 220, 3) := by decide +kernel
theorem dX9_nextToken_144 : decode cX9_nextToken 144 = .ok (.iconst 1, 1) := by decide +kernel
theorem dX9_nextToken_145 : decode cX9_nextToken 145 = .ok (.iadd, 1) := by decide +kernel
theorem dX9_nextToken_146 : decode cX9_nextToken 146 = .ok (.putfield 220, 3) := by decide +kernel
theorem dX9_nextToken_149 : decode cX9_nextToken 149 = .ok (.goto (-21), 3) := by decide +kernel
theorem dX9_nextToken_152 : decode cX9_nextToken 152 = .ok (.aload_n 0, 1) := by decide +kernel
theorem dX9_nextToken_153 : decode cX9_nextToken 153 = .ok (.iload_n 1, 1) := by decide +kernel
theorem dX9_nextToken_154 : decode cX9_nextToken 154 = .ok (.ifCond .eq 7, 3) := by decide +kernel
theorem dX9_nextToken_157 : decode cX9_nextToken 157 = .ok (.iconst 4, 1) := by decide +kernel
theorem dX9_nextToken_158 : decode cX9_nextToken 158 = .ok (.goto 4, 3) := by decide +kernel
theorem dX9_nextToken_161 : decode cX9_nextToken 161 = .ok (.iconst 1, 1) := by decide +kernel
theorem dX9_nextToken_162 : decode cX9_nextToken 162 = .ok (.putfield 223, 3) := by decide +kernel
theorem dX9_nextToken_165 : decode cX9_nextToken 165 = .ok (.aload_n 0, 1) := by decide +kernel
theorem dX9_nextToken_166 : decode cX9_nextToken 166 = .ok (.aload_n 0, 1) := by decide +kernel
theorem dX9_nextToken_167 : decode cX9_nextToken 167 = .ok (.getfield 220, 3) := by decide +kernel
theorem dX9_nextToken_170 : decode cX9_nextToken 170 = .ok (.aload_n 0, 1) := by decide +kernel
theorem dX9_nextToken_171 : decode cX9_nextToken 171 = .ok (.getfield 226, 3) := by decide +kernel
theorem dX9_nextToken_174 : decode cX9_nextToken 174 = .ok (.isub, 1) := by decide +kernel
theorem dX9_nextToken_175 : decode cX9_nextToken 175 = .ok (.iconst 1, 1) := by decide +kernel
theorem dX9_nextToken_176 : decode cX9_nextToken 176 = .ok (.if_icmp .ne 15, 3) := by decide +kernel
theorem dX9_nextToken_179 : decode cX9_nextToken 179 = .ok (.aload_n 0, 1) := by decide +kernel
theorem dX9_nextToken_180 : decode cX9_nextToken 180 = .ok (.getfield 46, 3) := by decide +kernel
theorem dX9_nextToken_183 : decode cX9_nextToken 183 = .ok (.aload_n 0, 1) := by decide +kernel
theorem dX9_nextToken_184 : decode cX9_nextToken 184 = .ok (.getfield 226, 3) := by decide +kernel
theorem dX9_nextToken_187 : decode cX9_nextToken 187 = .ok (.iaload, 1) := by decide +kernel
theorem dX9_nextToken_188 : decode cX9_nextToken 188 = .ok (.goto 4, 3) := by decide +kernel
theorem dX9_nextToken_191 : decode cX9_nextToken 191 = .ok (.iconst 0, 1) := by decide +kernel
theorem dX9_nextToken_192 : decode cX9_nextToken 192 = .ok (.putfield 232, 3) := by decide +kernel
theorem dX9_nextToken_195 : decode cX9_nextToken 195 = .ok (.goto 144, 3) := by decide +kernel
theorem dX9_nextToken_198 : decode cX9_nextToken 198 = .ok (.aload_n 0, 1) := by decide +kernel
theorem dX9_nextToken_199 : decode cX9_nextToken 199 = .ok (.aload_n 0, 1) := by decide +kernel
theorem dX9_nextToken_200 : decode cX9_nextToken 200 = .ok (.getfield 226, 3) := by decide +kernel
theorem dX9_nextToken_203 : decode cX9_nextToken 203 = .ok (.invokevirtual 235, 3) := by decide +kernel
theorem dX9_nextToken_206 : decode cX9_nextToken 206 = .ok (.ifCond .eq 105, 3) := by decide +kernel
theorem dX9_nextToken_209 : decode cX9_nextToken 209 = .ok (.aload_n 0, 1) := by decide +kernel
theorem dX9_nextToken_210 : decode cX9_nextToken 210 = .ok (.iconst 0, 1) := by decide +kernel
theorem dX9_nextToken_211 : decode cX9_nextToken 211 = .ok (.putfield 238, 3) := by decide +kernel
theorem dX9_nextToken_214 : decode cX9_nextToken 214 = .ok (.aload_n 0, 1) := by decide +kernel
theorem dX9_nextToken_215 : decode cX9_nextToken 215 = .ok (.aload_n 0, 1) := by decide +kernel
theorem dX9_nextToken_216 : decode cX9_nextToken 216 = .ok (.getfield 220, 3) := by decide +kernel
theorem dX9_nextToken_219 : decode cX9_nextToken 219 = .ok (.invokevirtual 235, 3) := by decide +kernel
theorem dX9_nextToken_222 : decode cX9_nextToken 222 = .ok (.ifCond .eq 60, 3) := by decide +kernel
theorem dX9_nextToken_225 : decode cX9_nextToken 225 = .ok (.aload_n 0, 1) := by decide +kernel
theorem dX9_nextToken_226 : decode cX9_nextToken 226 = .ok (.aload_n 0, 1) := by decide +kernel
theorem dX9_nextToken_227 : decode cX9_nextToken 227 = .ok (.getfield 220, 3) := by decide +kernel
theorem dX9_nextToken_230 : decode cX9_nextToken 230 = .ok (.aload_n 0, 1) := by decide +kernel
theorem dX9_nextToken_231 : decode cX9_nextToken 231 = .ok (.getfield 226, 3) := by decide +kernel
theorem dX9_nextToken_234 : decode cX9_nextToken 234 = .ok (.isub, 1) := by decide +kernel
theorem dX9_nextToken_235 : decode cX9_nextToken 235 = .ok (.iconst 4, 1) := by decide +kernel
theorem dX9_nextToken_236 : decode cX9_nextToken 236 = .ok (.if_icmp .ge 26, 3) := by decide +kernel
theorem dX9_nextToken_239 : decode cX9_nextToken 239 = .ok (.bipush 10, 2) := by decide +kernel
theorem dX9_nextToken_241 : decode cX9_nextToken 241 = .ok (.aload_n 0, 1) := by decide +kernel
theorem dX9_nextToken_242 : decode cX9_nextToken 242 = .ok (.getfield 238, 3) := by decide +kernel
theorem dX9_nextToken_245 : decode cX9_nextToken 245 = .ok (.imul, 1) := by decide +kernel
theorem dX9_nextToken_246 : decode cX9_nextToken 246 = .ok (.aload_n 0, 1) := by decide +kernel
theorem dX9_nextToken_247 : decode cX9_nextToken 247 = .ok (.getfield 46, 3) := by decide +kernel
theorem dX9_nextToken_250 : decode cX9_nextToken 250 = .ok (.aload_n 0, 1) := by decide +kernel
theorem dX9_nextToken_251 : decode cX9_nextToken 251 = .ok (.getfield 220, 3) := by decide +kernel
theorem dX9_nextToken_254 : decode cX9_nextToken 254 = .ok (.iaload, 1) := by decide +kernel
theorem dX9_nextToken_255 : decode cX9_nextToken 255 = .ok (.iadd, 1) := by decide +kernel
theorem dX9_nextToken_256 : decode cX9_nextToken 256 = .ok (.bipush 48, 2) := by decide +kernel
theorem dX9_nextToken_258 : decode cX9_nextToken 258 = .ok (.isub, 1) := by decide +kernel
theorem dX9_nextToken_259 : decode cX9_nextToken 259 = .ok (.goto 7, 3) := by decide +kernel
theorem dX9_nextToken_262 : decode cX9_nextToken 262 = .ok (.aload_n 0, 1) := by decide +kernel
theorem dX9_nextToken_263 : decode cX9_nextToken 263 = .ok (.getfield 238, 3) := by decide +kernel
theorem dX9_nextToken_266 : decode cX9_nextToken 266 = .ok (.putfield 238, 3) := by decide +kernel
theorem dX9_nextToken_269 : decode cX9_nextToken 269 = .ok (.aload_n 0, 1) := by decide +kernel
theorem dX9_nextToken_270 : decode cX9_nextToken 270 = .ok (.dup, 1) := by decide +kernel
theorem dX9_nextToken_271 : decode cX9_nextToken 271 = .ok (.getfield 220, 3) := by decide +kernel
theorem dX9_nextToken_274 : decode cX9_nextToken 274 = .ok (.iconst 1, 1) := by decide +kernel
theorem dX9_nextToken_275 : decode cX9_nextToken 275 = .ok (.iadd, 1) := by decide +kernel
theorem dX9_nextToken_276 : decode cX9_nextToken 276 = .ok (.putfield 220, 3) := by decide +kernel
theorem dX9_nextToken_279 : decode cX9_nextToken 279 = .ok (.goto (-65), 3) := by decide +kernel
theorem dX9_nextToken_282 : decode cX9_nextToken 282 = .ok (.aload_n 0, 1) := by decide +kernel
theorem dX9_nextToken_283 : decode cX9_nextToken 283 = .ok (.iload_n 1, 1) := by decide +kernel
theorem dX9_nextToken_284 : decode cX9_nextToken 284 = .ok (.ifCond .ne 16, 3) := by decide +kernel
theorem dX9_nextToken_287 : decode cX9_nextToken 287 = .ok (.aload_n 0, 1) := by decide +kernel
theorem dX9_nextToken_288 : decode cX9_nextToken 288 = .ok (.getfield 220, 3) := by decide +kernel
theorem dX9_nextToken_291 : decode cX9_nextToken 291 = .ok (.aload_n 0, 1) := by decide +kernel
theorem dX9_nextToken_292 : decode cX9_nextToken 292 = .ok (.getfield 226, 3) := by decide +kernel
theorem dX9_nextToken_295 : decode cX9_nextToken 295 = .ok (.isub, 1) := by decide +kernel
theorem dX9_nextToken_296 : decode cX9_nextToken 296 = .ok (.iconst 4, 1) := by decide +kernel
theorem dX9_nextToken_297 : decode cX9_nextToken 297 = .ok (.if_icmp .le 7, 3) := by decide +kernel
theorem dX9_nextToken_300 : decode cX9_nextToken 300 = .ok (.iconst 4, 1) := by decide +kernel
theorem dX9_nextToken_301 : decode cX9_nextToken 301 = .ok (.goto 4, 3) := by decide +kernel
theorem dX9_nextToken_304 : decode cX9_nextToken 304 = .ok (.iconst 2, 1) := by decide +kernel
theorem dX9_nextToken_305 : decode cX9_nextToken 305 = .ok (.putfield 223, 3) := by decide +kernel
theorem dX9_nextToken_308 : decode cX9_nextToken 308 = .ok (.goto 31, 3) := by decide +kernel
theorem dX9_nextToken_311 : decode cX9_nextToken 311 = .ok (.aload_n 0, 1) := by decide +kernel
theorem dX9_nextToken_312 : decode cX9_nextToken 312 = .ok (.iconst 3, 1) := by decide +kernel
theorem dX9_nextToken_313 : decode cX9_nextToken 313 = .ok (.putfield 223, 3) := by decide +kernel
theorem dX9_nextToken_316 : decode cX9_nextToken 316 = .ok (.aload_n 0, 1) := by decide +kernel
theorem dX9_nextToken_317 : decode cX9_nextToken 317 = .ok (.aload_n 0, 1) := by decide +kernel
theorem dX9_nextToken_318 : decode cX9_nextToken 318 = .ok (.getfield 46, 3) := by decide +kernel
theorem dX9_nextToken_321 : decode cX9_nextToken 321 = .ok (.aload_n 0, 1) := by decide +kernel
theorem dX9_nextToken_322 : decode cX9_nextToken 322 = .ok (.getfield 226, 3) := by decide +kernel
theorem dX9_nextToken_325 : decode cX9_nextToken 325 = .ok (.iaload, 1) := by decide +kernel
theorem dX9_nextToken_326 : decode cX9_nextToken 326 = .ok (.putfield 232, 3) := by decide +kernel
theorem dX9_nextToken_329 : decode cX9_nextToken 329 = .ok (.aload_n 0, 1) := by decide +kernel
theorem dX9_nextToken_330 : decode cX9_nextToken 330 = .ok (.dup, 1) := by decide +kernel
theorem dX9_nextToken_331 : decode cX9_nextToken 331 = .ok (.getfield 220, 3) := by decide +kernel
theorem dX9_nextToken_334 : decode cX9_nextToken 334 = .ok (.iconst 1, 1) := by decide +kernel
theorem dX9_nextToken_335 : decode cX9_nextToken 335 = .ok (.iadd, 1) := by decide +kernel
theorem dX9_nextToken_336 : decode cX9_nextToken 336 = .ok (.putfield 220, 3) := by decide +kernel
theorem dX9_nextToken_339 : decode cX9_nextToken 339 = .ok (.return_, 1) := by decide +kernel
theorem dX9_isSign_0 : decode cX9_isSign 0 = .ok (.aload_n 0, 1) := by decide +kernel
theorem dX9_isSign_1 : decode cX9_isSign 1 = .ok (.getfield 223, 3) := by decide +kernel
theorem dX9_isSign_4 : decode cX9_isSign 4 = .ok (.iconst 3, 1) := by decide +kernel
theorem dX9_isSign_5 : decode cX9_isSign 5 = .ok (.if_icmp .ne 15, 3) := by decide +kernel
theorem dX9_isSign_8 : decode cX9_isSign 8 = .ok (.aload_n 0, 1) := by decide +kernel
theorem dX9_isSign_9 : decode cX9_isSign 9 = .ok (.getfield 232, 3) := by decide +kernel
theorem dX9_isSign_12 : decode cX9_isSign 12 = .ok (.iload_n 1, 1) := by decide +kernel
theorem dX9_isSign_13 : decode cX9_isSign 13 = .ok (.if_icmp .ne 7, 3) := by decide +kernel
theorem dX9_isSign_16 : decode cX9_isSign 16 = .ok (.iconst 1, 1) := by decide +kernel
theorem dX9_isSign_17 : decode cX9_isSign 17 = .ok (.goto 4, 3) := by decide +kernel
theorem dX9_isSign_20 : decode cX9_isSign 20 = .ok (.iconst 0, 1) := by decide +kernel
theorem dX9_isSign_21 : decode cX9_isSign 21 = .ok (.ireturn, 1) := by decide +kernel
theorem dX9_isWordAt_0 : decode cX9_isWordAt 0 = .ok (.iload 4, 2) := by decide +kernel
theorem dX9_isWordAt_2 : decode cX9_isWordAt 2 = .ok (.ifCond .ne 7, 3) := by decide +kernel
theorem dX9_isWordAt_5 : decode cX9_isWordAt 5 = .ok (.iconst 3, 1) := by decide +kernel
theorem dX9_isWordAt_6 : decode cX9_isWordAt 6 = .ok (.goto 4, 3) := by decide +kernel
theorem dX9_isWordAt_9 : decode cX9_isWordAt 9 = .ok (.iconst 4, 1) := by decide +kernel
theorem dX9_isWordAt_10 : decode cX9_isWordAt 10 = .ok (.istore 5, 2) := by decide +kernel
theorem dX9_isWordAt_12 : decode cX9_isWordAt 12 = .ok (.aload_n 0, 1) := by decide +kernel
theorem dX9_isWordAt_13 : decode cX9_isWordAt 13 = .ok (.getfield 223, 3) := by decide +kernel
theorem dX9_isWordAt_16 : decode cX9_isWordAt 16 = .ok (.iconst 1, 1) := by decide +kernel
theorem dX9_isWordAt_17 : decode cX9_isWordAt 17 = .ok (.if_icmp .ne 85, 3) := by decide +kernel
theorem dX9_isWordAt_20 : decode cX9_isWordAt 20 = .ok (.aload_n 0, 1) := by decide +kernel
theorem dX9_isWordAt_21 : decode cX9_isWordAt 21 = .ok (.getfield 220, 3) := by decide +kernel
theorem dX9_isWordAt_24 : decode cX9_isWordAt 24 = .ok (.aload_n 0, 1) := by decide +kernel
theorem dX9_isWordAt_25 : decode cX9_isWordAt 25 = .ok (.getfield 226, 3) := by decide +kernel
theorem dX9_isWordAt_28 : decode cX9_isWordAt 28 = .ok (.isub, 1) := by decide +kernel
theorem dX9_isWordAt_29 : decode cX9_isWordAt 29 = .ok (.iload 5, 2) := by decide +kernel
theorem dX9_isWordAt_31 : decode cX9_isWordAt 31 = .ok (.if_icmp .ne 71, 3) := by decide +kernel
theorem dX9_isWordAt_34 : decode cX9_isWordAt 34 = .ok (.aload_n 0, 1) := by decide +kernel
theorem dX9_isWordAt_35 : decode cX9_isWordAt 35 = .ok (.getfield 46, 3) := by decide +kernel
theorem dX9_isWordAt_38 : decode cX9_isWordAt 38 = .ok (.aload_n 0, 1) := by decide +kernel
theorem dX9_isWordAt_39 : decode cX9_isWordAt 39 = .ok (.getfield 226, 3) := by decide +kernel
theorem dX9_isWordAt_42 : decode cX9_isWordAt 42 = .ok (.iaload, 1) := by decide +kernel
theorem dX9_isWordAt_43 : decode cX9_isWordAt 43 = .ok (.iload_n 1, 1) := by decide +kernel
theorem dX9_isWordAt_44 : decode cX9_isWordAt 44 = .ok (.if_icmp .ne 58, 3) := by decide +kernel
theorem dX9_isWordAt_47 : decode cX9_isWordAt 47 = .ok (.aload_n 0, 1) := by decide +kernel
theorem dX9_isWordAt_48 : decode cX9_isWordAt 48 = .ok (.getfield 46, 3) := by decide +kernel
theorem dX9_isWordAt_51 : decode cX9_isWordAt 51 = .ok (.aload_n 0, 1) := by decide +kernel
theorem dX9_isWordAt_52 : decode cX9_isWordAt 52 = .ok (.getfield 226, 3) := by decide +kernel
theorem dX9_isWordAt_55 : decode cX9_isWordAt 55 = .ok (.iconst 1, 1) := by decide +kernel
theorem dX9_isWordAt_56 : decode cX9_isWordAt 56 = .ok (.iadd, 1) := by decide +kernel
theorem dX9_isWordAt_57 : decode cX9_isWordAt 57 = .ok (.iaload, 1) := by decide +kernel
theorem dX9_isWordAt_58 : decode cX9_isWordAt 58 = .ok (.iload_n 2, 1) := by decide +kernel
theorem dX9_isWordAt_59 : decode cX9_isWordAt 59 = .ok (.if_icmp .ne 43, 3) := by decide +kernel
theorem dX9_isWordAt_62 : decode cX9_isWordAt 62 = .ok (.aload_n 0, 1) := by decide +kernel
theorem dX9_isWordAt_63 : decode cX9_isWordAt 63 = .ok (.getfield 46, 3) := by decide +kernel
theorem dX9_isWordAt_66 : decode cX9_isWordAt 66 = .ok (.aload_n 0, 1) := by decide +kernel
theorem dX9_isWordAt_67 : decode cX9_isWordAt 67 = .ok (.getfield 226, 3) := by decide +kernel
theorem dX9_isWordAt_70 : decode cX9_isWordAt 70 = .ok (.iconst 2, 1) := by decide +kernel
theorem dX9_isWordAt_71 : decode cX9_isWordAt 71 = .ok (.iadd, 1) := by decide +kernel
theorem dX9_isWordAt_72 : decode cX9_isWordAt 72 = .ok (.iaload, 1) := by decide +kernel
theorem dX9_isWordAt_73 : decode cX9_isWordAt 73 = .ok (.iload_n 3, 1) := by decide +kernel
theorem dX9_isWordAt_74 : decode cX9_isWordAt 74 = .ok (.if_icmp .ne 28, 3) := by decide +kernel
theorem dX9_isWordAt_77 : decode cX9_isWordAt 77 = .ok (.iload 4, 2) := by decide +kernel
theorem dX9_isWordAt_79 : decode cX9_isWordAt 79 = .ok (.ifCond .eq 19, 3) := by decide +kernel
theorem dX9_isWordAt_82 : decode cX9_isWordAt 82 = .ok (.aload_n 0, 1) := by decide +kernel
theorem dX9_isWordAt_83 : decode cX9_isWordAt 83 = .ok (.getfield 46, 3) := by decide +kernel
theorem dX9_isWordAt_86 : decode cX9_isWordAt 86 = .ok (.aload_n 0, 1) := by decide +kernel
theorem dX9_isWordAt_87 : decode cX9_isWordAt 87 = .ok (.getfield 226, 3) := by decide +kernel
theorem dX9_isWordAt_90 : decode cX9_isWordAt 90 = .ok (.iconst 3, 1) := by decide +kernel
theorem dX9_isWordAt_91 : decode cX9_isWordAt 91 = .ok (.iadd, 1) := by decide +kernel
theorem dX9_isWordAt_92 : decode cX9_isWordAt 92 = .ok (.iaload, 1) := by decide +kernel
theorem dX9_isWordAt_93 : decode cX9_isWordAt 93 = .ok (.iload 4, 2) := by decide +kernel
theorem dX9_isWordAt_95 : decode cX9_isWordAt 95 = .ok (.if_icmp .ne 7, 3) := by decide +kernel
theorem dX9_isWordAt_98 : decode cX9_isWordAt 98 = .ok (.iconst 1, 1) := by decide +kernel
theorem dX9_isWordAt_99 : decode cX9_isWordAt 99 = .ok (.goto 4, 3) := by decide +kernel
theorem dX9_isWordAt_102 : decode cX9_isWordAt 102 = .ok (.iconst 0, 1) := by decide +kernel
theorem dX9_isWordAt_103 : decode cX9_isWordAt 103 = .ok (.ireturn, 1) := by decide +kernel
theorem dX9_isLong_0 : decode cX9_isLong 0 = .ok (.iload 6, 2) := by decide +kernel
theorem dX9_isLong_2 : decode cX9_isLong 2 = .ok (.ifCond .ne 7, 3) := by decide +kernel
theorem dX9_isLong_5 : decode cX9_isLong 5 = .ok (.iconst 5, 1) := by decide +kernel
theorem dX9_isLong_6 : decode cX9_isLong 6 = .ok (.goto 5, 3) := by decide +kernel
theorem dX9_isLong_9 : decode cX9_isLong 9 = .ok (.bipush 6, 2) := by decide +kernel
theorem dX9_isLong_11 : decode cX9_isLong 11 = .ok (.istore 7, 2) := by decide +kernel
theorem dX9_isLong_13 : decode cX9_isLong 13 = .ok (.aload_n 0, 1) := by decide +kernel
theorem dX9_isLong_14 : decode cX9_isLong 14 = .ok (.getfield 223, 3) := by decide +kernel
theorem dX9_isLong_17 : decode cX9_isLong 17 = .ok (.iconst 1, 1) := by decide +kernel
theorem dX9_isLong_18 : decode cX9_isLong 18 = .ok (.if_icmp .ne 117, 3) := by decide +kernel
theorem dX9_isLong_21 : decode cX9_isLong 21 = .ok (.aload_n 0, 1) := by decide +kernel
theorem dX9_isLong_22 : decode cX9_isLong 22 = .ok (.getfield 220, 3) := by decide +kernel
theorem dX9_isLong_25 : decode cX9_isLong 25 = .ok (.aload_n 0, 1) := by decide +kernel
theorem dX9_isLong_26 : decode cX9_isLong 26 = .ok (.getfield 226, 3) := by decide +kernel
theorem dX9_isLong_29 : decode cX9_isLong 29 = .ok (.isub, 1) := by decide +kernel
theorem dX9_isLong_30 : decode cX9_isLong 30 = .ok (.iload 7, 2) := by decide +kernel
theorem dX9_isLong_32 : decode cX9_isLong 32 = .ok (.if_icmp .ne 103, 3) := by decide +kernel
theorem dX9_isLong_35 : decode cX9_isLong 35 = .ok (.aload_n 0, 1) := by decide +kernel
theorem dX9_isLong_36 : decode cX9_isLong 36 = .ok (.getfield 46, 3) := by decide +kernel
theorem dX9_isLong_39 : decode cX9_isLong 39 = .ok (.aload_n 0, 1) := by decide +kernel
theorem dX9_isLong_40 : decode cX9_isLong 40 = .ok (.getfield 226, 3) := by decide +kernel
theorem dX9_isLong_43 : decode cX9_isLong 43 = .ok (.iaload, 1) := by decide +kernel
theorem dX9_isLong_44 : decode cX9_isLong 44 = .ok (.iload_n 1, 1) := by decide +kernel
theorem dX9_isLong_45 : decode cX9_isLong 45 = .ok (.if_icmp .ne 90, 3) := by decide +kernel
theorem dX9_isLong_48 : decode cX9_isLong 48 = .ok (.aload_n 0, 1) := by decide +kernel
theorem dX9_isLong_49 : decode cX9_isLong 49 = .ok (.getfield 46, 3) := by decide +kernel
theorem dX9_isLong_52 : decode cX9_isLong 52 = .ok (.aload_n 0, 1) := by decide +kernel
theorem dX9_isLong_53 : decode cX9_isLong 53 = .ok (.getfield 226, 3) := by decide +kernel
theorem dX9_isLong_56 : decode cX9_isLong 56 = .ok (.iconst 1, 1) := by decide +kernel
theorem dX9_isLong_57 : decode cX9_isLong 57 = .ok (.iadd, 1) := by decide +kernel
theorem dX9_isLong_58 : decode cX9_isLong 58 = .ok (.iaload, 1) := by decide +kernel
theorem dX9_isLong_59 : decode cX9_isLong 59 = .ok (.iload_n 2, 1) := by decide +kernel
theorem dX9_isLong_60 : decode cX9_isLong 60 = .ok (.if_icmp .ne 75, 3) := by decide +kernel
theorem dX9_isLong_63 : decode cX9_isLong 63 = .ok (.aload_n 0, 1) := by decide +kernel
theorem dX9_isLong_64 : decode cX9_isLong 64 = .ok (.getfield 46, 3) := by decide +kernel
theorem dX9_isLong_67 : decode cX9_isLong 67 = .ok (.aload_n 0, 1) := by decide +kernel
theorem dX9_isLong_68 : decode cX9_isLong 68 = .ok (.getfield 226, 3) := by decide +kernel
theorem dX9_isLong_71 : decode cX9_isLong 71 = .ok (.iconst 2, 1) := by decide +kernel
theorem dX9_isLong_72 : decode cX9_isLong 72 = .ok (.iadd, 1) := by decide +kernel
theorem dX9_isLong_73 : decode cX9_isLong 73 = .ok (.iaload, 1) := by decide +kernel
theorem dX9_isLong_74 : decode cX9_isLong 74 = .ok (.iload_n 3, 1) := by decide +kernel
theorem dX9_isLong_75 : decode cX9_isLong 75 = .ok (.if_icmp .ne 60, 3) := by decide +kernel
theorem dX9_isLong_78 : decode cX9_isLong 78 = .ok (.aload_n 0, 1) := by decide +kernel
theorem dX9_isLong_79 : decode cX9_isLong 79 = .ok (.getfield 46, 3) := by decide +kernel
theorem dX9_isLong_82 : decode cX9_isLong 82 = .ok (.aload_n 0, 1) := by decide +kernel
theorem dX9_isLong_83 : decode cX9_isLong 83 = .ok (.getfield 226, 3) := by decide +kernel
theorem dX9_isLong_86 : decode cX9_isLong 86 = .ok (.iconst 3, 1) := by decide +kernel
theorem dX9_isLong_87 : decode cX9_isLong 87 = .ok (.iadd, 1) := by decide +kernel
theorem dX9_isLong_88 : decode cX9_isLong 88 = .ok (.iaload, 1) := by decide +kernel
theorem dX9_isLong_89 : decode cX9_isLong 89 = .ok (.iload 4, 2) := by decide +kernel
theorem dX9_isLong_91 : decode cX9_isLong 91 = .ok (.if_icmp .ne 44, 3) := by decide +kernel
theorem dX9_isLong_94 : decode cX9_isLong 94 = .ok (.aload_n 0, 1) := by decide +kernel
theorem dX9_isLong_95 : decode cX9_isLong 95 = .ok (.getfield 46, 3) := by decide +kernel
theorem dX9_isLong_98 : decode cX9_isLong 98 = .ok (.aload_n 0, 1) := by decide +kernel
theorem dX9_isLong_99 : decode cX9_isLong 99 = .ok (.getfield 226, 3) := by decide +kernel
theorem dX9_isLong_102 : decode cX9_isLong 102 = .ok (.iconst 4, 1) := by decide +kernel
theorem dX9_isLong_103 : decode cX9_isLong 103 = .ok (.iadd, 1) := by decide +kernel
theorem dX9_isLong_104 : decode cX9_isLong 104 = .ok (.iaload, 1) := by decide +kernel
theorem dX9_isLong_105 : decode cX9_isLong 105 = .ok (.iload 5, 2) := by decide +kernel
theorem dX9_isLong_107 : decode cX9_isLong 107 = .ok (.if_icmp .ne 28, 3) := by decide +kernel
theorem dX9_isLong_110 : decode cX9_isLong 110 = .ok (.iload 6, 2) := by decide +kernel
theorem dX9_isLong_112 : decode cX9_isLong 112 = .ok (.ifCond .eq 19, 3) := by decide +kernel
theorem dX9_isLong_115 : decode cX9_isLong 115 = .ok (.aload_n 0, 1) := by decide +kernel
theorem dX9_isLong_116 : decode cX9_isLong 116 = .ok (.getfield 46, 3) := by decide +kernel
theorem dX9_isLong_119 : decode cX9_isLong 119 = .ok (.aload_n 0, 1) := by decide +kernel
theorem dX9_isLong_120 : decode cX9_isLong 120 = .ok (.getfield 226, 3) := by decide +kernel
theorem dX9_isLong_123 : decode cX9_isLong 123 = .ok (.iconst 5, 1) := by decide +kernel
theorem dX9_isLong_124 : decode cX9_isLong 124 = .ok (.iadd, 1) := by decide +kernel
theorem dX9_isLong_125 : decode cX9_isLong 125 = .ok (.iaload, 1) := by decide +kernel
theorem dX9_isLong_126 : decode cX9_isLong 126 = .ok (.iload 6, 2) := by decide +kernel
theorem dX9_isLong_128 : decode cX9_isLong 128 = .ok (.if_icmp .ne 7, 3) := by decide +kernel
theorem dX9_isLong_131 : decode cX9_isLong 131 = .ok (.iconst 1, 1) := by decide +kernel
theorem dX9_isLong_132 : decode cX9_isLong 132 = .ok (.goto 4, 3) := by decide +kernel
theorem dX9_isLong_135 : decode cX9_isLong 135 = .ok (.iconst 0, 1) := by decide +kernel
theorem dX9_isLong_136 : decode cX9_isLong 136 = .ok (.ireturn, 1) := by decide +kernel
theorem dX9_key_0 : decode cX9_key 0 = .ok (.aload_n 0, 1) := by decide +kernel
theorem dX9_key_1 : decode cX9_key 1 = .ok (.bipush 108, 2) := by decide +kernel
theorem dX9_key_3 : decode cX9_key 3 = .ok (.bipush 105, 2) := by decide +kernel
theorem dX9_key_5 : decode cX9_key 5 = .ok (.bipush 103, 2) := by decide +kernel
theorem dX9_key_7 : decode cX9_key 7 = .ok (.bipush 104, 2) := by decide +kernel
theorem dX9_key_9 : decode cX9_key 9 = .ok (.bipush 116, 2) := by decide +kernel
theorem dX9_key_11 : decode cX9_key 11 = .ok (.iconst 0, 1) := by decide +kernel
theorem dX9_key_12 : decode cX9_key 12 = .ok (.invokevirtual 241, 3) := by decide +kernel
theorem dX9_key_15 : decode cX9_key 15 = .ok (.ifCond .eq 5, 3) := by decide +kernel
theorem dX9_key_18 : decode cX9_key 18 = .ok (.iconst 0, 1) := by decide +kernel
theorem dX9_key_19 : decode cX9_key 19 = .ok (.ireturn, 1) := by decide +kernel
theorem dX9_key_20 : decode cX9_key 20 = .ok (.aload_n 0, 1) := by decide +kernel
theorem dX9_key_21 : decode cX9_key 21 = .ok (.bipush 102, 2) := by decide +kernel
theorem dX9_key_23 : decode cX9_key 23 = .ok (.bipush 101, 2) := by decide +kernel
theorem dX9_key_25 : decode cX9_key 25 = .ok (.bipush 97, 2) := by decide +kernel
theorem dX9_key_27 : decode cX9_key 27 = .ok (.bipush 114, 2) := by decide +kernel
theorem dX9_key_29 : decode cX9_key 29 = .ok (.invokevirtual 245, 3) := by decide +kernel
theorem dX9_key_32 : decode cX9_key 32 = .ok (.ifCond .eq 5, 3) := by decide +kernel
theorem dX9_key_35 : decode cX9_key 35 = .ok (.iconst 1, 1) := by decide +kernel
theorem dX9_key_36 : decode cX9_key 36 = .ok (.ireturn, 1) := by decide +kernel
theorem dX9_key_37 : decode cX9_key 37 = .ok (.aload_n 0, 1) := by decide +kernel
theorem dX9_key_38 : decode cX9_key 38 = .ok (.bipush 116, 2) := by decide +kernel
theorem dX9_key_40 : decode cX9_key 40 = .ok (.bipush 105, 2) := by decide +kernel
theorem dX9_key_42 : decode cX9_key 42 = .ok (.bipush 114, 2) := by decide +kernel
theorem dX9_key_44 : decode cX9_key 44 = .ok (.bipush 101, 2) := by decide +kernel
theorem dX9_key_46 : decode cX9_key 46 = .ok (.invokevirtual 245, 3) := by decide +kernel
theorem dX9_key_49 : decode cX9_key 49 = .ok (.ifCond .eq 7, 3) := by decide +kernel
theorem dX9_key_52 : decode cX9_key 52 = .ok (.iconst 2, 1) := by decide +kernel
theorem dX9_key_53 : decode cX9_key 53 = .ok (.goto 4, 3) := by decide +kernel
theorem dX9_key_56 : decode cX9_key 56 = .ok (.iconst (-1), 1) := by decide +kernel
theorem dX9_key_57 : decode cX9_key 57 = .ok (.ireturn, 1) := by decide +kernel
theorem dX9_isName_0 : decode cX9_isName 0 = .ok (.iload_n 0, 1) := by decide +kernel
theorem dX9_isName_1 : decode cX9_isName 1 = .ok (.lookupswitch 75 #[(0, 27), (1, 51)], 27) := by decide +kernel
theorem dX9_isName_28 : decode cX9_isName 28 = .ok (.iload_n 1, 1) := by decide +kernel
theorem dX9_isName_29 : decode cX9_isName 29 = .ok (.bipush 102, 2) := by decide +kernel
theorem dX9_isName_31 : decode cX9_isName 31 = .ok (.if_icmp .eq 15, 3) := by decide +kernel
theorem dX9_isName_34 : decode cX9_isName 34 = .ok (.iload_n 1, 1) := by decide +kernel
theorem dX9_isName_35 : decode cX9_isName 35 = .ok (.bipush 110, 2) := by decide +kernel
theorem dX9_isName_37 : decode cX9_isName 37 = .ok (.if_icmp .eq 9, 3) := by decide +kernel
theorem dX9_isName_40 : decode cX9_isName 40 = .ok (.iload_n 1, 1) := by decide +kernel
theorem dX9_isName_41 : decode cX9_isName 41 = .ok (.bipush 119, 2) := by decide +kernel
theorem dX9_isName_43 : decode cX9_isName 43 = .ok (.if_icmp .ne 7, 3) := by decide +kernel
theorem dX9_isName_46 : decode cX9_isName 46 = .ok (.iconst 1, 1) := by decide +kernel
theorem dX9_isName_47 : decode cX9_isName 47 = .ok (.goto 4, 3) := by decide +kernel
theorem dX9_isName_50 : decode cX9_isName 50 = .ok (.iconst 0, 1) := by decide +kernel
theorem dX9_isName_51 : decode cX9_isName 51 = .ok (.ireturn, 1) := by decide +kernel
theorem dX9_isName_52 : decode cX9_isName 52 = .ok (.iload_n 1, 1) := by decide +kernel
theorem dX9_isName_53 : decode cX9_isName 53 = .ok (.bipush 103, 2) := by decide +kernel
theorem dX9_isName_55 : decode cX9_isName 55 = .ok (.if_icmp .eq 15, 3) := by decide +kernel
theorem dX9_isName_58 : decode cX9_isName 58 = .ok (.iload_n 1, 1) := by decide +kernel
theorem dX9_isName_59 : decode cX9_isName 59 = .ok (.bipush 116, 2) := by decide +kernel
theorem dX9_isName_61 : decode cX9_isName 61 = .ok (.if_icmp .eq 9, 3) := by decide +kernel
theorem dX9_isName_64 : decode cX9_isName 64 = .ok (.iload_n 1, 1) := by decide +kernel
theorem dX9_isName_65 : decode cX9_isName 65 = .ok (.bipush 104, 2) := by decide +kernel
theorem dX9_isName_67 : decode cX9_isName 67 = .ok (.if_icmp .ne 7, 3) := by decide +kernel
theorem dX9_isName_70 : decode cX9_isName 70 = .ok (.iconst 1, 1) := by decide +kernel
theorem dX9_isName_71 : decode cX9_isName 71 = .ok (.goto 4, 3) := by decide +kernel
theorem dX9_isName_74 : decode cX9_isName 74 = .ok (.iconst 0, 1) := by decide +kernel
theorem dX9_isName_75 : decode cX9_isName 75 = .ok (.ireturn, 1) := by decide +kernel
theorem dX9_isName_76 : decode cX9_isName 76 = .ok (.iload_n 1, 1) := by decide +kernel
theorem dX9_isName_77 : decode cX9_isName 77 = .ok (.bipush 116, 2) := by decide +kernel
theorem dX9_isName_79 : decode cX9_isName 79 = .ok (.if_icmp .eq 9, 3) := by decide +kernel
theorem dX9_isName_82 : decode cX9_isName 82 = .ok (.iload_n 1, 1) := by decide +kernel
theorem dX9_isName_83 : decode cX9_isName 83 = .ok (.bipush 101, 2) := by decide +kernel
theorem dX9_isName_85 : decode cX9_isName 85 = .ok (.if_icmp .ne 7, 3) := by decide +kernel
theorem dX9_isName_88 : decode cX9_isName 88 = .ok (.iconst 1, 1) := by decide +kernel
theorem dX9_isName_89 : decode cX9_isName 89 = .ok (.goto 4, 3) := by decide +kernel
theorem dX9_isName_92 : decode cX9_isName 92 = .ok (.iconst 0, 1) := by decide +kernel
theorem dX9_isName_93 : decode cX9_isName 93 = .ok (.ireturn, 1) := by decide +kernel
theorem dX9_step_0 : decode cX9_step 0 = .ok (.aload_n 0, 1) := by decide +kernel
theorem dX9_step_1 : decode cX9_step 1 = .ok (.getfield 7, 3) := by decide +kernel
theorem dX9_step_4 : decode cX9_step 4 = .ok (.aload_n 0, 1) := by decide +kernel
theorem dX9_step_5 : decode cX9_step 5 = .ok (.getfield 249, 3) := by decide +kernel
theorem dX9_step_8 : decode cX9_step 8 = .ok (.iconst 2, 1) := by decide +kernel
theorem dX9_step_9 : decode cX9_step 9 = .ok (.aload_n 0, 1) := by decide +kernel
theorem dX9_step_10 : decode cX9_step 10 = .ok (.getfield 252, 3) := by decide +kernel
theorem dX9_step_13 : decode cX9_step 13 = .ok (.imul, 1) := by decide +kernel
theorem dX9_step_14 : decode cX9_step 14 = .ok (.iadd, 1) := by decide +kernel
theorem dX9_step_15 : decode cX9_step 15 = .ok (.iload_n 1, 1) := by decide +kernel
theorem dX9_step_16 : decode cX9_step 16 = .ok (.iastore, 1) := by decide +kernel
theorem dX9_step_17 : decode cX9_step 17 = .ok (.aload_n 0, 1) := by decide +kernel
theorem dX9_step_18 : decode cX9_step 18 = .ok (.getfield 7, 3) := by decide +kernel
theorem dX9_step_21 : decode cX9_step 21 = .ok (.aload_n 0, 1) := by decide +kernel
theorem dX9_step_22 : decode cX9_step 22 = .ok (.getfield 249, 3) := by decide +kernel
theorem dX9_step_25 : decode cX9_step 25 = .ok (.iconst 2, 1) := by decide +kernel
theorem dX9_step_26 : decode cX9_step 26 = .ok (.aload_n 0, 1) := by decide +kernel
theorem dX9_step_27 : decode cX9_step 27 = .ok (.getfield 252, 3) := by decide +kernel
theorem dX9_step_30 : decode cX9_step 30 = .ok (.imul, 1) := by decide +kernel
theorem dX9_step_31 : decode cX9_step 31 = .ok (.iadd, 1) := by decide +kernel
theorem dX9_step_32 : decode cX9_step 32 = .ok (.iconst 1, 1) := by decide +kernel
theorem dX9_step_33 : decode cX9_step 33 = .ok (.iadd, 1) := by decide +kernel
theorem dX9_step_34 : decode cX9_step 34 = .ok (.iload_n 2, 1) := by decide +kernel
theorem dX9_step_35 : decode cX9_step 35 = .ok (.iastore, 1) := by decide +kernel
theorem dX9_step_36 : decode cX9_step 36 = .ok (.aload_n 0, 1) := by decide +kernel
theorem dX9_step_37 : decode cX9_step 37 = .ok (.dup, 1) := by decide +kernel
theorem dX9_step_38 : decode cX9_step 38 = .ok (.getfield 252, 3) := by decide +kernel
theorem dX9_step_41 : decode cX9_step 41 = .ok (.iconst 1, 1) := by decide +kernel
theorem dX9_step_42 : decode cX9_step 42 = .ok (.iadd, 1) := by decide +kernel
theorem dX9_step_43 : decode cX9_step 43 = .ok (.putfield 252, 3) := by decide +kernel
theorem dX9_step_46 : decode cX9_step 46 = .ok (.return_, 1) := by decide +kernel
theorem dX9_either_0 : decode cX9_either 0 = .ok (.aload_n 0, 1) := by decide +kernel
theorem dX9_either_1 : decode cX9_either 1 = .ok (.iload_n 1, 1) := by decide +kernel
theorem dX9_either_2 : decode cX9_either 2 = .ok (.invokevirtual 255, 3) := by decide +kernel
theorem dX9_either_5 : decode cX9_either 5 = .ok (.ifCond .ne 5, 3) := by decide +kernel
theorem dX9_either_8 : decode cX9_either 8 = .ok (.iconst 0, 1) := by decide +kernel
theorem dX9_either_9 : decode cX9_either 9 = .ok (.ireturn, 1) := by decide +kernel
theorem dX9_either_10 : decode cX9_either 10 = .ok (.aload_n 0, 1) := by decide +kernel
theorem dX9_either_11 : decode cX9_either 11 = .ok (.bipush 124, 2) := by decide +kernel
theorem dX9_either_13 : decode cX9_either 13 = .ok (.invokevirtual 258, 3) := by decide +kernel
theorem dX9_either_16 : decode cX9_either 16 = .ok (.ifCond .eq 27, 3) := by decide +kernel
theorem dX9_either_19 : decode cX9_either 19 = .ok (.aload_n 0, 1) := by decide +kernel
theorem dX9_either_20 : decode cX9_either 20 = .ok (.invokevirtual 261, 3) := by decide +kernel
theorem dX9_either_23 : decode cX9_either 23 = .ok (.aload_n 0, 1) := by decide +kernel
theorem dX9_either_24 : decode cX9_either 24 = .ok (.iload_n 1, 1) := by decide +kernel
theorem dX9_either_25 : decode cX9_either 25 = .ok (.invokevirtual 255, 3) := by decide +kernel
theorem dX9_either_28 : decode cX9_either 28 = .ok (.ifCond .ne 5, 3) := by decide +kernel
theorem dX9_either_31 : decode cX9_either 31 = .ok (.iconst 0, 1) := by decide +kernel
theorem dX9_either_32 : decode cX9_either 32 = .ok (.ireturn, 1) := by decide +kernel
theorem dX9_either_33 : decode cX9_either 33 = .ok (.aload_n 0, 1) := by decide +kernel
theorem dX9_either_34 : decode cX9_either 34 = .ok (.iconst 2, 1) := by decide +kernel
theorem dX9_either_35 : decode cX9_either 35 = .ok (.bipush 124, 2) := by decide +kernel
theorem dX9_either_37 : decode cX9_either 37 = .ok (.invokevirtual 264, 3) := by decide +kernel
theorem dX9_either_40 : decode cX9_either 40 = .ok (.goto (-30), 3) := by decide +kernel
theorem dX9_either_43 : decode cX9_either 43 = .ok (.iconst 1, 1) := by decide +kernel
theorem dX9_either_44 : decode cX9_either 44 = .ok (.ireturn, 1) := by decide +kernel
theorem dX9_both_0 : decode cX9_both 0 = .ok (.aload_n 0, 1) := by decide +kernel
theorem dX9_both_1 : decode cX9_both 1 = .ok (.iload_n 1, 1) := by decide +kernel
theorem dX9_both_2 : decode cX9_both 2 = .ok (.invokevirtual 268, 3) := by decide +kernel
theorem dX9_both_5 : decode cX9_both 5 = .ok (.ifCond .ne 5, 3) := by decide +kernel
theorem dX9_both_8 : decode cX9_both 8 = .ok (.iconst 0, 1) := by decide +kernel
theorem dX9_both_9 : decode cX9_both 9 = .ok (.ireturn, 1) := by decide +kernel
theorem dX9_both_10 : decode cX9_both 10 = .ok (.aload_n 0, 1) := by decide +kernel
theorem dX9_both_11 : decode cX9_both 11 = .ok (.bipush 38, 2) := by decide +kernel
theorem dX9_both_13 : decode cX9_both 13 = .ok (.invokevirtual 258, 3) := by decide +kernel
theorem dX9_both_16 : decode cX9_both 16 = .ok (.ifCond .eq 27, 3) := by decide +kernel
theorem dX9_both_19 : decode cX9_both 19 = .ok (.aload_n 0, 1) := by decide +kernel
theorem dX9_both_20 : decode cX9_both 20 = .ok (.invokevirtual 261, 3) := by decide +kernel
theorem dX9_both_23 : decode cX9_both 23 = .ok (.aload_n 0, 1) := by decide +kernel
theorem dX9_both_24 : decode cX9_both 24 = .ok (.iload_n 1, 1) := by decide +kernel
theorem dX9_both_25 : decode cX9_both 25 = .ok (.invokevirtual 268, 3) := by decide +kernel
theorem dX9_both_28 : decode cX9_both 28 = .ok (.ifCond .ne 5, 3) := by decide +kernel
theorem dX9_both_31 : decode cX9_both 31 = .ok (.iconst 0, 1) := by decide +kernel
theorem dX9_both_32 : decode cX9_both 32 = .ok (.ireturn, 1) := by decide +kernel
theorem dX9_both_33 : decode cX9_both 33 = .ok (.aload_n 0, 1) := by decide +kernel
theorem dX9_both_34 : decode cX9_both 34 = .ok (.iconst 2, 1) := by decide +kernel
theorem dX9_both_35 : decode cX9_both 35 = .ok (.bipush 38, 2) := by decide +kernel
theorem dX9_both_37 : decode cX9_both 37 = .ok (.invokevirtual 264, 3) := by decide +kernel
theorem dX9_both_40 : decode cX9_both 40 = .ok (.goto (-30), 3) := by decide +kernel
theorem dX9_both_43 : decode cX9_both 43 = .ok (.iconst 1, 1) := by decide +kernel
theorem dX9_both_44 : decode cX9_both 44 = .ok (.ireturn, 1) := by decide +kernel
theorem dX9_test_0 : decode cX9_test 0 = .ok (.aload_n 0, 1) := by decide +kernel
theorem dX9_test_1 : decode cX9_test 1 = .ok (.iload_n 1, 1) := by decide +kernel
theorem dX9_test_2 : decode cX9_test 2 = .ok (.invokevirtual 271, 3) := by decide +kernel
theorem dX9_test_5 : decode cX9_test 5 = .ok (.ifCond .ne 5, 3) := by decide +kernel
theorem dX9_test_8 : decode cX9_test 8 = .ok (.iconst 0, 1) := by decide +kernel
theorem dX9_test_9 : decode cX9_test 9 = .ok (.ireturn, 1) := by decide +kernel
theorem dX9_test_10 : decode cX9_test 10 = .ok (.aload_n 0, 1) := by decide +kernel
theorem dX9_test_11 : decode cX9_test 11 = .ok (.bipush 60, 2) := by decide +kernel
theorem dX9_test_13 : decode cX9_test 13 = .ok (.invokevirtual 258, 3) := by decide +kernel
theorem dX9_test_16 : decode cX9_test 16 = .ok (.ifCond .ne 21, 3) := by decide +kernel
theorem dX9_test_19 : decode cX9_test 19 = .ok (.aload_n 0, 1) := by decide +kernel
theorem dX9_test_20 : decode cX9_test 20 = .ok (.bipush 61, 2) := by decide +kernel
theorem dX9_test_22 : decode cX9_test 22 = .ok (.invokevirtual 258, 3) := by decide +kernel
theorem dX9_test_25 : decode cX9_test 25 = .ok (.ifCond .ne 12, 3) := by decide +kernel
theorem dX9_test_28 : decode cX9_test 28 = .ok (.aload_n 0, 1) := by decide +kernel
theorem dX9_test_29 : decode cX9_test 29 = .ok (.bipush 62, 2) := by decide +kernel
theorem dX9_test_31 : decode cX9_test 31 = .ok (.invokevirtual 258, 3) := by decide +kernel
theorem dX9_test_34 : decode cX9_test 34 = .ok (.ifCond .eq 28, 3) := by decide +kernel
theorem dX9_test_37 : decode cX9_test 37 = .ok (.aload_n 0, 1) := by decide +kernel
theorem dX9_test_38 : decode cX9_test 38 = .ok (.getfield 232, 3) := by decide +kernel
theorem dX9_test_41 : decode cX9_test 41 = .ok (.istore_n 2, 1) := by decide +kernel
theorem dX9_test_42 : decode cX9_test 42 = .ok (.aload_n 0, 1) := by decide +kernel
theorem dX9_test_43 : decode cX9_test 43 = .ok (.invokevirtual 261, 3) := by decide +kernel
theorem dX9_test_46 : decode cX9_test 46 = .ok (.aload_n 0, 1) := by decide +kernel
theorem dX9_test_47 : decode cX9_test 47 = .ok (.iload_n 1, 1) := by decide +kernel
theorem dX9_test_48 : decode cX9_test 48 = .ok (.invokevirtual 271, 3) := by decide +kernel
theorem dX9_test_51 : decode cX9_test 51 = .ok (.ifCond .ne 5, 3) := by decide +kernel
theorem dX9_test_54 : decode cX9_test 54 = .ok (.iconst 0, 1) := by decide +kernel
theorem dX9_test_55 : decode cX9_test 55 = .ok (.ireturn, 1) := by decide +kernel
theorem dX9_test_56 : decode cX9_test 56 = .ok (.aload_n 0, 1) := by decide +kernel
theorem dX9_test_57 : decode cX9_test 57 = .ok (.iconst 2, 1) := by decide +kernel
theorem dX9_test_58 : decode cX9_test 58 = .ok (.iload_n 2, 1) := by decide +kernel
theorem dX9_test_59 : decode cX9_test 59 = .ok (.invokevirtual 264, 3) := by decide +kernel
theorem dX9_test_62 : decode cX9_test 62 = .ok (.iconst 1, 1) := by decide +kernel
theorem dX9_test_63 : decode cX9_test 63 = .ok (.ireturn, 1) := by decide +kernel
theorem dX9_sum_0 : decode cX9_sum 0 = .ok (.aload_n 0, 1) := by decide +kernel
theorem dX9_sum_1 : decode cX9_sum 1 = .ok (.iload_n 1, 1) := by decide +kernel
theorem dX9_sum_2 : decode cX9_sum 2 = .ok (.invokevirtual 274, 3) := by decide +kernel
theorem dX9_sum_5 : decode cX9_sum 5 = .ok (.ifCond .ne 5, 3) := by decide +kernel
theorem dX9_sum_8 : decode cX9_sum 8 = .ok (.iconst 0, 1) := by decide +kernel
theorem dX9_sum_9 : decode cX9_sum 9 = .ok (.ireturn, 1) := by decide +kernel
theorem dX9_sum_10 : decode cX9_sum 10 = .ok (.aload_n 0, 1) := by decide +kernel
theorem dX9_sum_11 : decode cX9_sum 11 = .ok (.bipush 43, 2) := by decide +kernel
theorem dX9_sum_13 : decode cX9_sum 13 = .ok (.invokevirtual 258, 3) := by decide +kernel
theorem dX9_sum_16 : decode cX9_sum 16 = .ok (.ifCond .ne 12, 3) := by decide +kernel
theorem dX9_sum_19 : decode cX9_sum 19 = .ok (.aload_n 0, 1) := by decide +kernel
theorem dX9_sum_20 : decode cX9_sum 20 = .ok (.bipush 45, 2) := by decide +kernel
theorem dX9_sum_22 : decode cX9_sum 22 = .ok (.invokevirtual 258, 3) := by decide +kernel
theorem dX9_sum_25 : decode cX9_sum 25 = .ok (.ifCond .eq 31, 3) := by decide +kernel
theorem dX9_sum_28 : decode cX9_sum 28 = .ok (.aload_n 0, 1) := by decide +kernel
theorem dX9_sum_29 : decode cX9_sum 29 = .ok (.getfield 232, 3) := by decide +kernel
theorem dX9_sum_32 : decode cX9_sum 32 = .ok (.istore_n 2, 1) := by decide +kernel
theorem dX9_sum_33 : decode cX9_sum 33 = .ok (.aload_n 0, 1) := by decide +kernel
theorem dX9_sum_34 : decode cX9_sum 34 = .ok (.invokevirtual 261, 3) := by decide +kernel
theorem dX9_sum_37 : decode cX9_sum 37 = .ok (.aload_n 0, 1) := by decide +kernel
theorem dX9_sum_38 : decode cX9_sum 38 = .ok (.iload_n 1, 1) := by decide +kernel
theorem dX9_sum_39 : decode cX9_sum 39 = .ok (.invokevirtual 274, 3) := by decide +kernel
theorem dX9_sum_42 : decode cX9_sum 42 = .ok (.ifCond .ne 5, 3) := by decide +kernel
theorem dX9_sum_45 : decode cX9_sum 45 = .ok (.iconst 0, 1) := by decide +kernel
theorem dX9_sum_46 : decode cX9_sum 46 = .ok (.ireturn, 1) := by decide +kernel
theorem dX9_sum_47 : decode cX9_sum 47 = .ok (.aload_n 0, 1) := by decide +kernel
theorem dX9_sum_48 : decode cX9_sum 48 = .ok (.iconst 2, 1) := by decide +kernel
theorem dX9_sum_49 : decode cX9_sum 49 = .ok (.iload_n 2, 1) := by decide +kernel
theorem dX9_sum_50 : decode cX9_sum 50 = .ok (.invokevirtual 264, 3) := by decide +kernel
theorem dX9_sum_53 : decode cX9_sum 53 = .ok (.goto (-43), 3) := by decide +kernel
theorem dX9_sum_56 : decode cX9_sum 56 = .ok (.iconst 1, 1) := by decide +kernel
theorem dX9_sum_57 : decode cX9_sum 57 = .ok (.ireturn, 1) := by decide +kernel
theorem dX9_term_0 : decode cX9_term 0 = .ok (.aload_n 0, 1) := by decide +kernel
theorem dX9_term_1 : decode cX9_term 1 = .ok (.iload_n 1, 1) := by decide +kernel
theorem dX9_term_2 : decode cX9_term 2 = .ok (.invokevirtual 277, 3) := by decide +kernel
theorem dX9_term_5 : decode cX9_term 5 = .ok (.ifCond .ne 5, 3) := by decide +kernel
theorem dX9_term_8 : decode cX9_term 8 = .ok (.iconst 0, 1) := by decide +kernel
theorem dX9_term_9 : decode cX9_term 9 = .ok (.ireturn, 1) := by decide +kernel
theorem dX9_term_10 : decode cX9_term 10 = .ok (.aload_n 0, 1) := by decide +kernel
theorem dX9_term_11 : decode cX9_term 11 = .ok (.bipush 42, 2) := by decide +kernel
theorem dX9_term_13 : decode cX9_term 13 = .ok (.invokevirtual 258, 3) := by decide +kernel
theorem dX9_term_16 : decode cX9_term 16 = .ok (.ifCond .ne 12, 3) := by decide +kernel
theorem dX9_term_19 : decode cX9_term 19 = .ok (.aload_n 0, 1) := by decide +kernel
theorem dX9_term_20 : decode cX9_term 20 = .ok (.bipush 47, 2) := by decide +kernel
theorem dX9_term_22 : decode cX9_term 22 = .ok (.invokevirtual 258, 3) := by decide +kernel
theorem dX9_term_25 : decode cX9_term 25 = .ok (.ifCond .eq 31, 3) := by decide +kernel
theorem dX9_term_28 : decode cX9_term 28 = .ok (.aload_n 0, 1) := by decide +kernel
theorem dX9_term_29 : decode cX9_term 29 = .ok (.getfield 232, 3) := by decide +kernel
theorem dX9_term_32 : decode cX9_term 32 = .ok (.istore_n 2, 1) := by decide +kernel
theorem dX9_term_33 : decode cX9_term 33 = .ok (.aload_n 0, 1) := by decide +kernel
theorem dX9_term_34 : decode cX9_term 34 = .ok (.invokevirtual 261, 3) := by decide +kernel
theorem dX9_term_37 : decode cX9_term 37 = .ok (.aload_n 0, 1) := by decide +kernel
theorem dX9_term_38 : decode cX9_term 38 = .ok (.iload_n 1, 1) := by decide +kernel
theorem dX9_term_39 : decode cX9_term 39 = .ok (.invokevirtual 277, 3) := by decide +kernel
theorem dX9_term_42 : decode cX9_term 42 = .ok (.ifCond .ne 5, 3) := by decide +kernel
theorem dX9_term_45 : decode cX9_term 45 = .ok (.iconst 0, 1) := by decide +kernel
theorem dX9_term_46 : decode cX9_term 46 = .ok (.ireturn, 1) := by decide +kernel
theorem dX9_term_47 : decode cX9_term 47 = .ok (.aload_n 0, 1) := by decide +kernel
theorem dX9_term_48 : decode cX9_term 48 = .ok (.iconst 2, 1) := by decide +kernel
theorem dX9_term_49 : decode cX9_term 49 = .ok (.iload_n 2, 1) := by decide +kernel
theorem dX9_term_50 : decode cX9_term 50 = .ok (.invokevirtual 264, 3) := by decide +kernel
theorem dX9_term_53 : decode cX9_term 53 = .ok (.goto (-43), 3) := by decide +kernel
theorem dX9_term_56 : decode cX9_term 56 = .ok (.iconst 1, 1) := by decide +kernel
theorem dX9_term_57 : decode cX9_term 57 = .ok (.ireturn, 1) := by decide +kernel
theorem dX9_part0_0 : decode cX9_part0 0 = .ok (.aload_n 0, 1) := by decide +kernel
theorem dX9_part0_1 : decode cX9_part0 1 = .ok (.getfield 223, 3) := by decide +kernel
theorem dX9_part0_4 : decode cX9_part0 4 = .ok (.iconst 2, 1) := by decide +kernel
theorem dX9_part0_5 : decode cX9_part0 5 = .ok (.if_icmp .ne 28, 3) := by decide +kernel
theorem dX9_part0_8 : decode cX9_part0 8 = .ok (.aload_n 0, 1) := by decide +kernel
theorem dX9_part0_9 : decode cX9_part0 9 = .ok (.iconst 0, 1) := by decide +kernel
theorem dX9_part0_10 : decode cX9_part0 10 = .ok (.aload_n 0, 1) := by decide +kernel
theorem dX9_part0_11 : decode cX9_part0 11 = .ok (.getfield 238, 3) := by decide +kernel
theorem dX9_part0_14 : decode cX9_part0 14 = .ok (.invokevirtual 264, 3) := by decide +kernel
theorem dX9_part0_17 : decode cX9_part0 17 = .ok (.aload_n 0, 1) := by decide +kernel
theorem dX9_part0_18 : decode cX9_part0 18 = .ok (.dup, 1) := by decide +kernel
theorem dX9_part0_19 : decode cX9_part0 19 = .ok (.getfield 280, 3) := by decide +kernel
theorem dX9_part0_22 : decode cX9_part0 22 = .ok (.iconst 1, 1) := by decide +kernel
theorem dX9_part0_23 : decode cX9_part0 23 = .ok (.iadd, 1) := by decide +kernel
theorem dX9_part0_24 : decode cX9_part0 24 = .ok (.putfield 280, 3) := by decide +kernel
theorem dX9_part0_27 : decode cX9_part0 27 = .ok (.aload_n 0, 1) := by decide +kernel
theorem dX9_part0_28 : decode cX9_part0 28 = .ok (.invokevirtual 261, 3) := by decide +kernel
theorem dX9_part0_31 : decode cX9_part0 31 = .ok (.iconst 1, 1) := by decide +kernel
theorem dX9_part0_32 : decode cX9_part0 32 = .ok (.ireturn, 1) := by decide +kernel
theorem dX9_part0_33 : decode cX9_part0 33 = .ok (.aload_n 0, 1) := by decide +kernel
theorem dX9_part0_34 : decode cX9_part0 34 = .ok (.getfield 223, 3) := by decide +kernel
theorem dX9_part0_37 : decode cX9_part0 37 = .ok (.iconst 1, 1) := by decide +kernel
theorem dX9_part0_38 : decode cX9_part0 38 = .ok (.if_icmp .ne 46, 3) := by decide +kernel
theorem dX9_part0_41 : decode cX9_part0 41 = .ok (.aload_n 0, 1) := by decide +kernel
theorem dX9_part0_42 : decode cX9_part0 42 = .ok (.getfield 232, 3) := by decide +kernel
theorem dX9_part0_45 : decode cX9_part0 45 = .ok (.ifCond .eq 39, 3) := by decide +kernel
theorem dX9_part0_48 : decode cX9_part0 48 = .ok (.iload_n 1, 1) := by decide +kernel
theorem dX9_part0_49 : decode cX9_part0 49 = .ok (.aload_n 0, 1) := by decide +kernel
theorem dX9_part0_50 : decode cX9_part0 50 = .ok (.getfield 232, 3) := by decide +kernel
theorem dX9_part0_53 : decode cX9_part0 53 = .ok (.invokestatic 283, 3) := by decide +kernel
theorem dX9_part0_56 : decode cX9_part0 56 = .ok (.ifCond .eq 28, 3) := by decide +kernel
theorem dX9_part0_59 : decode cX9_part0 59 = .ok (.aload_n 0, 1) := by decide +kernel
theorem dX9_part0_60 : decode cX9_part0 60 = .ok (.iconst 1, 1) := by decide +kernel
theorem dX9_part0_61 : decode cX9_part0 61 = .ok (.aload_n 0, 1) := by decide +kernel
theorem dX9_part0_62 : decode cX9_part0 62 = .ok (.getfield 232, 3) := by decide +kernel
theorem dX9_part0_65 : decode cX9_part0 65 = .ok (.invokevirtual 264, 3) := by decide +kernel
theorem dX9_part0_68 : decode cX9_part0 68 = .ok (.aload_n 0, 1) := by decide +kernel
theorem dX9_part0_69 : decode cX9_part0 69 = .ok (.dup, 1) := by decide +kernel
theorem dX9_part0_70 : decode cX9_part0 70 = .ok (.getfield 280, 3) := by decide +kernel
theorem dX9_part0_73 : decode cX9_part0 73 = .ok (.iconst 1, 1) := by decide +kernel
theorem dX9_part0_74 : decode cX9_part0 74 = .ok (.iadd, 1) := by decide +kernel
theorem dX9_part0_75 : decode cX9_part0 75 = .ok (.putfield 280, 3) := by decide +kernel
theorem dX9_part0_78 : decode cX9_part0 78 = .ok (.aload_n 0, 1) := by decide +kernel
theorem dX9_part0_79 : decode cX9_part0 79 = .ok (.invokevirtual 261, 3) := by decide +kernel
theorem dX9_part0_82 : decode cX9_part0 82 = .ok (.iconst 1, 1) := by decide +kernel
theorem dX9_part0_83 : decode cX9_part0 83 = .ok (.ireturn, 1) := by decide +kernel
theorem dX9_part0_84 : decode cX9_part0 84 = .ok (.aload_n 0, 1) := by decide +kernel
theorem dX9_part0_85 : decode cX9_part0 85 = .ok (.bipush 33, 2) := by decide +kernel
theorem dX9_part0_87 : decode cX9_part0 87 = .ok (.invokevirtual 258, 3) := by decide +kernel
theorem dX9_part0_90 : decode cX9_part0 90 = .ok (.ifCond .eq 55, 3) := by decide +kernel
theorem dX9_part0_93 : decode cX9_part0 93 = .ok (.aload_n 0, 1) := by decide +kernel
theorem dX9_part0_94 : decode cX9_part0 94 = .ok (.getfield 286, 3) := by decide +kernel
theorem dX9_part0_97 : decode cX9_part0 97 = .ok (.bipush 8, 2) := by decide +kernel
theorem dX9_part0_99 : decode cX9_part0 99 = .ok (.if_icmp .ge 46, 3) := by decide +kernel
theorem dX9_part0_102 : decode cX9_part0 102 = .ok (.aload_n 0, 1) := by decide +kernel
theorem dX9_part0_103 : decode cX9_part0 103 = .ok (.dup, 1) := by decide +kernel
theorem dX9_part0_104 : decode cX9_part0 104 = .ok (.getfield 286, 3) := by decide +kernel
theorem dX9_part0_107 : decode cX9_part0 107 = .ok (.iconst 1, 1) := by decide +kernel
theorem dX9_part0_108 : decode cX9_part0 108 = .ok (.iadd, 1) := by decide +kernel
theorem dX9_part0_109 : decode cX9_part0 109 = .ok (.putfield 286, 3) := by decide +kernel
theorem dX9_part0_112 : decode cX9_part0 112 = .ok (.aload_n 0, 1) := by decide +kernel
theorem dX9_part0_113 : decode cX9_part0 113 = .ok (.invokevirtual 261, 3) := by decide +kernel
theorem dX9_part0_116 : decode cX9_part0 116 = .ok (.aload_n 0, 1) := by decide +kernel
theorem dX9_part0_117 : decode cX9_part0 117 = .ok (.iload_n 1, 1) := by decide +kernel
theorem dX9_part0_118 : decode cX9_part0 118 = .ok (.invokevirtual 277, 3) := by decide +kernel
theorem dX9_part0_121 : decode cX9_part0 121 = .ok (.ifCond .ne 5, 3) := by decide +kernel
theorem dX9_part0_124 : decode cX9_part0 124 = .ok (.iconst 0, 1) := by decide +kernel
theorem dX9_part0_125 : decode cX9_part0 125 = .ok (.ireturn, 1) := by decide +kernel
theorem dX9_part0_126 : decode cX9_part0 126 = .ok (.aload_n 0, 1) := by decide +kernel
theorem dX9_part0_127 : decode cX9_part0 127 = .ok (.dup, 1) := by decide +kernel
theorem dX9_part0_128 : decode cX9_part0 128 = .ok (.getfield 286, 3) := by decide +kernel
theorem dX9_part0_131 : decode cX9_part0 131 = .ok (.iconst 1, 1) := by decide +kernel
theorem dX9_part0_132 : decode cX9_part0 132 = .ok (.isub, 1) := by decide +kernel
theorem dX9_part0_133 : decode cX9_part0 133 = .ok (.putfield 286, 3) := by decide +kernel
theorem dX9_part0_136 : decode cX9_part0 136 = .ok (.aload_n 0, 1) := by decide +kernel
theorem dX9_part0_137 : decode cX9_part0 137 = .ok (.iconst 2, 1) := by decide +kernel
theorem dX9_part0_138 : decode cX9_part0 138 = .ok (.bipush 33, 2) := by decide +kernel
theorem dX9_part0_140 : decode cX9_part0 140 = .ok (.invokevirtual 264, 3) := by decide +kernel
theorem dX9_part0_143 : decode cX9_part0 143 = .ok (.iconst 1, 1) := by decide +kernel
theorem dX9_part0_144 : decode cX9_part0 144 = .ok (.ireturn, 1) := by decide +kernel
theorem dX9_part0_145 : decode cX9_part0 145 = .ok (.aload_n 0, 1) := by decide +kernel
theorem dX9_part0_146 : decode cX9_part0 146 = .ok (.bipush 40, 2) := by decide +kernel
theorem dX9_part0_148 : decode cX9_part0 148 = .ok (.invokevirtual 258, 3) := by decide +kernel
theorem dX9_part0_151 : decode cX9_part0 151 = .ok (.ifCond .eq 12, 3) := by decide +kernel
theorem dX9_part0_154 : decode cX9_part0 154 = .ok (.aload_n 0, 1) := by decide +kernel
theorem dX9_part0_155 : decode cX9_part0 155 = .ok (.getfield 289, 3) := by decide +kernel
theorem dX9_part0_158 : decode cX9_part0 158 = .ok (.bipush 8, 2) := by decide +kernel
theorem dX9_part0_160 : decode cX9_part0 160 = .ok (.if_icmp .ne 5, 3) := by decide +kernel
theorem dX9_part0_163 : decode cX9_part0 163 = .ok (.iconst 0, 1) := by decide +kernel
theorem dX9_part0_164 : decode cX9_part0 164 = .ok (.ireturn, 1) := by decide +kernel
theorem dX9_part0_165 : decode cX9_part0 165 = .ok (.aload_n 0, 1) := by decide +kernel
theorem dX9_part0_166 : decode cX9_part0 166 = .ok (.dup, 1) := by decide +kernel
theorem dX9_part0_167 : decode cX9_part0 167 = .ok (.getfield 289, 3) := by decide +kernel
theorem dX9_part0_170 : decode cX9_part0 170 = .ok (.iconst 1, 1) := by decide +kernel
theorem dX9_part0_171 : decode cX9_part0 171 = .ok (.iadd, 1) := by decide +kernel
theorem dX9_part0_172 : decode cX9_part0 172 = .ok (.putfield 289, 3) := by decide +kernel
theorem dX9_part0_175 : decode cX9_part0 175 = .ok (.aload_n 0, 1) := by decide +kernel
theorem dX9_part0_176 : decode cX9_part0 176 = .ok (.invokevirtual 261, 3) := by decide +kernel
theorem dX9_part0_179 : decode cX9_part0 179 = .ok (.aload_n 0, 1) := by decide +kernel
theorem dX9_part0_180 : decode cX9_part0 180 = .ok (.iload_n 1, 1) := by decide +kernel
theorem dX9_part0_181 : decode cX9_part0 181 = .ok (.invokevirtual 292, 3) := by decide +kernel
theorem dX9_part0_184 : decode cX9_part0 184 = .ok (.ifCond .eq 12, 3) := by decide +kernel
theorem dX9_part0_187 : decode cX9_part0 187 = .ok (.aload_n 0, 1) := by decide +kernel
theorem dX9_part0_188 : decode cX9_part0 188 = .ok (.bipush 41, 2) := by decide +kernel
theorem dX9_part0_190 : decode cX9_part0 190 = .ok (.invokevirtual 258, 3) := by decide +kernel
theorem dX9_part0_193 : decode cX9_part0 193 = .ok (.ifCond .ne 5, 3) := by decide +kernel
theorem dX9_part0_196 : decode cX9_part0 196 = .ok (.iconst 0, 1) := by decide +kernel
theorem dX9_part0_197 : decode cX9_part0 197 = .ok (.ireturn, 1) := by decide +kernel
theorem dX9_part0_198 : decode cX9_part0 198 = .ok (.aload_n 0, 1) := by decide +kernel
theorem dX9_part0_199 : decode cX9_part0 199 = .ok (.dup, 1) := by decide +kernel
theorem dX9_part0_200 : decode cX9_part0 200 = .ok (.getfield 289, 3) := by decide +kernel
theorem dX9_part0_203 : decode cX9_part0 203 = .ok (.iconst 1, 1) := by decide +kernel
theorem dX9_part0_204 : decode cX9_part0 204 = .ok (.isub, 1) := by decide +kernel
theorem dX9_part0_205 : decode cX9_part0 205 = .ok (.putfield 289, 3) := by decide +kernel
theorem dX9_part0_208 : decode cX9_part0 208 = .ok (.aload_n 0, 1) := by decide +kernel
theorem dX9_part0_209 : decode cX9_part0 209 = .ok (.invokevirtual 261, 3) := by decide +kernel
theorem dX9_part0_212 : decode cX9_part0 212 = .ok (.iconst 1, 1) := by decide +kernel
theorem dX9_part0_213 : decode cX9_part0 213 = .ok (.ireturn, 1) := by decide +kernel
theorem dX9_parse_0 : decode cX9_parse 0 = .ok (.aload_n 0, 1) := by decide +kernel
theorem dX9_parse_1 : decode cX9_parse 1 = .ok (.iconst 0, 1) := by decide +kernel
theorem dX9_parse_2 : decode cX9_parse 2 = .ok (.putfield 220, 3) := by decide +kernel
theorem dX9_parse_5 : decode cX9_parse 5 = .ok (.aload_n 0, 1) := by decide +kernel
theorem dX9_parse_6 : decode cX9_parse 6 = .ok (.iconst 3, 1) := by decide +kernel
theorem dX9_parse_7 : decode cX9_parse 7 = .ok (.putfield 223, 3) := by decide +kernel
theorem dX9_parse_10 : decode cX9_parse 10 = .ok (.aload_n 0, 1) := by decide +kernel
theorem dX9_parse_11 : decode cX9_parse 11 = .ok (.iconst 0, 1) := by decide +kernel
theorem dX9_parse_12 : decode cX9_parse 12 = .ok (.putfield 289, 3) := by decide +kernel
theorem dX9_parse_15 : decode cX9_parse 15 = .ok (.aload_n 0, 1) := by decide +kernel
theorem dX9_parse_16 : decode cX9_parse 16 = .ok (.iconst 0, 1) := by decide +kernel
theorem dX9_parse_17 : decode cX9_parse 17 = .ok (.putfield 286, 3) := by decide +kernel
theorem dX9_parse_20 : decode cX9_parse 20 = .ok (.aload_n 0, 1) := by decide +kernel
theorem dX9_parse_21 : decode cX9_parse 21 = .ok (.iconst 0, 1) := by decide +kernel
theorem dX9_parse_22 : decode cX9_parse 22 = .ok (.putfield 252, 3) := by decide +kernel
theorem dX9_parse_25 : decode cX9_parse 25 = .ok (.aload_n 0, 1) := by decide +kernel
theorem dX9_parse_26 : decode cX9_parse 26 = .ok (.iconst 0, 1) := by decide +kernel
theorem dX9_parse_27 : decode cX9_parse 27 = .ok (.putfield 280, 3) := by decide +kernel
theorem dX9_parse_30 : decode cX9_parse 30 = .ok (.aload_n 0, 1) := by decide +kernel
theorem dX9_parse_31 : decode cX9_parse 31 = .ok (.aload_n 0, 1) := by decide +kernel
theorem dX9_parse_32 : decode cX9_parse 32 = .ok (.getfield 7, 3) := by decide +kernel
theorem dX9_parse_35 : decode cX9_parse 35 = .ok (.iconst 2, 1) := by decide +kernel
theorem dX9_parse_36 : decode cX9_parse 36 = .ok (.iaload, 1) := by decide +kernel
theorem dX9_parse_37 : decode cX9_parse 37 = .ok (.bipush 14, 2) := by decide +kernel
theorem dX9_parse_39 : decode cX9_parse 39 = .ok (.if_icmp .ge 18, 3) := by decide +kernel
theorem dX9_parse_42 : decode cX9_parse 42 = .ok (.aload_n 0, 1) := by decide +kernel
theorem dX9_parse_43 : decode cX9_parse 43 = .ok (.aload_n 0, 1) := by decide +kernel
theorem dX9_parse_44 : decode cX9_parse 44 = .ok (.getfield 7, 3) := by decide +kernel
theorem dX9_parse_47 : decode cX9_parse 47 = .ok (.iconst 2, 1) := by decide +kernel
theorem dX9_parse_48 : decode cX9_parse 48 = .ok (.iaload, 1) := by decide +kernel
theorem dX9_parse_49 : decode cX9_parse 49 = .ok (.invokevirtual 295, 3) := by decide +kernel
theorem dX9_parse_52 : decode cX9_parse 52 = .ok (.iconst 4, 1) := by decide +kernel
theorem dX9_parse_53 : decode cX9_parse 53 = .ok (.iadd, 1) := by decide +kernel
theorem dX9_parse_54 : decode cX9_parse 54 = .ok (.goto 6, 3) := by decide +kernel
theorem dX9_parse_57 : decode cX9_parse 57 = .ok (.sipush 2888, 3) := by decide +kernel
theorem dX9_parse_60 : decode cX9_parse 60 = .ok (.putfield 249, 3) := by decide +kernel
theorem dX9_parse_63 : decode cX9_parse 63 = .ok (.aload_n 0, 1) := by decide +kernel
theorem dX9_parse_64 : decode cX9_parse 64 = .ok (.invokevirtual 261, 3) := by decide +kernel
theorem dX9_parse_67 : decode cX9_parse 67 = .ok (.aload_n 0, 1) := by decide +kernel
theorem dX9_parse_68 : decode cX9_parse 68 = .ok (.invokevirtual 298, 3) := by decide +kernel
theorem dX9_parse_71 : decode cX9_parse 71 = .ok (.istore_n 1, 1) := by decide +kernel
theorem dX9_parse_72 : decode cX9_parse 72 = .ok (.iload_n 1, 1) := by decide +kernel
theorem dX9_parse_73 : decode cX9_parse 73 = .ok (.ifCond .lt 7, 3) := by decide +kernel
theorem dX9_parse_76 : decode cX9_parse 76 = .ok (.iconst 1, 1) := by decide +kernel
theorem dX9_parse_77 : decode cX9_parse 77 = .ok (.goto 4, 3) := by decide +kernel
theorem dX9_parse_80 : decode cX9_parse 80 = .ok (.iconst 0, 1) := by decide +kernel
theorem dX9_parse_81 : decode cX9_parse 81 = .ok (.istore_n 2, 1) := by decide +kernel
theorem dX9_parse_82 : decode cX9_parse 82 = .ok (.iload_n 2, 1) := by decide +kernel
theorem dX9_parse_83 : decode cX9_parse 83 = .ok (.ifCond .eq 28, 3) := by decide +kernel
theorem dX9_parse_86 : decode cX9_parse 86 = .ok (.aload_n 0, 1) := by decide +kernel
theorem dX9_parse_87 : decode cX9_parse 87 = .ok (.invokevirtual 261, 3) := by decide +kernel
theorem dX9_parse_90 : decode cX9_parse 90 = .ok (.aload_n 0, 1) := by decide +kernel
theorem dX9_parse_91 : decode cX9_parse 91 = .ok (.iload_n 1, 1) := by decide +kernel
theorem dX9_parse_92 : decode cX9_parse 92 = .ok (.invokevirtual 292, 3) := by decide +kernel
theorem dX9_parse_95 : decode cX9_parse 95 = .ok (.ifCond .eq 14, 3) := by decide +kernel
theorem dX9_parse_98 : decode cX9_parse 98 = .ok (.aload_n 0, 1) := by decide +kernel
theorem dX9_parse_99 : decode cX9_parse 99 = .ok (.getfield 223, 3) := by decide +kernel
theorem dX9_parse_102 : decode cX9_parse 102 = .ok (.ifCond .ne 7, 3) := by decide +kernel
theorem dX9_parse_105 : decode cX9_parse 105 = .ok (.iconst 1, 1) := by decide +kernel
theorem dX9_parse_106 : decode cX9_parse 106 = .ok (.goto 4, 3) := by decide +kernel
theorem dX9_parse_109 : decode cX9_parse 109 = .ok (.iconst 0, 1) := by decide +kernel
theorem dX9_parse_110 : decode cX9_parse 110 = .ok (.istore_n 2, 1) := by decide +kernel
theorem dX9_parse_111 : decode cX9_parse 111 = .ok (.aload_n 0, 1) := by decide +kernel
theorem dX9_parse_112 : decode cX9_parse 112 = .ok (.iconst 0, 1) := by decide +kernel
theorem dX9_parse_113 : decode cX9_parse 113 = .ok (.putfield 209, 3) := by decide +kernel
theorem dX9_parse_116 : decode cX9_parse 116 = .ok (.iload_n 2, 1) := by decide +kernel
theorem dX9_parse_117 : decode cX9_parse 117 = .ok (.ifCond .eq 7, 3) := by decide +kernel
theorem dX9_parse_120 : decode cX9_parse 120 = .ok (.iload_n 1, 1) := by decide +kernel
theorem dX9_parse_121 : decode cX9_parse 121 = .ok (.goto 4, 3) := by decide +kernel
theorem dX9_parse_124 : decode cX9_parse 124 = .ok (.iconst (-1), 1) := by decide +kernel
theorem dX9_parse_125 : decode cX9_parse 125 = .ok (.ireturn, 1) := by decide +kernel
theorem dX9_text_0 : decode cX9_text 0 = .ok (.aload_n 0, 1) := by decide +kernel
theorem dX9_text_1 : decode cX9_text 1 = .ok (.invokevirtual 301, 3) := by decide +kernel
theorem dX9_text_4 : decode cX9_text 4 = .ok (.istore_n 1, 1) := by decide +kernel
theorem dX9_text_5 : decode cX9_text 5 = .ok (.iload_n 1, 1) := by decide +kernel
theorem dX9_text_6 : decode cX9_text 6 = .ok (.ifCond .ge 11, 3) := by decide +kernel
theorem dX9_text_9 : decode cX9_text 9 = .ok (.bipush (-100), 2) := by decide +kernel
theorem dX9_text_11 : decode cX9_text 11 = .ok (.aload_n 0, 1) := by decide +kernel
theorem dX9_text_12 : decode cX9_text 12 = .ok (.getfield 226, 3) := by decide +kernel
theorem dX9_text_15 : decode cX9_text 15 = .ok (.isub, 1) := by decide +kernel
theorem dX9_text_16 : decode cX9_text 16 = .ok (.ireturn, 1) := by decide +kernel
theorem dX9_text_17 : decode cX9_text 17 = .ok (.aload_n 0, 1) := by decide +kernel
theorem dX9_text_18 : decode cX9_text 18 = .ok (.getfield 7, 3) := by decide +kernel
theorem dX9_text_21 : decode cX9_text 21 = .ok (.iconst 2, 1) := by decide +kernel
theorem dX9_text_22 : decode cX9_text 22 = .ok (.iaload, 1) := by decide +kernel
theorem dX9_text_23 : decode cX9_text 23 = .ok (.bipush 14, 2) := by decide +kernel
theorem dX9_text_25 : decode cX9_text 25 = .ok (.if_icmp .ne 6, 3) := by decide +kernel
theorem dX9_text_28 : decode cX9_text 28 = .ok (.ldc 73, 2) := by decide +kernel
theorem dX9_text_30 : decode cX9_text 30 = .ok (.ireturn, 1) := by decide +kernel
theorem dX9_text_31 : decode cX9_text 31 = .ok (.aload_n 0, 1) := by decide +kernel
theorem dX9_text_32 : decode cX9_text 32 = .ok (.aload_n 0, 1) := by decide +kernel
theorem dX9_text_33 : decode cX9_text 33 = .ok (.getfield 7, 3) := by decide +kernel
theorem dX9_text_36 : decode cX9_text 36 = .ok (.iconst 2, 1) := by decide +kernel
theorem dX9_text_37 : decode cX9_text 37 = .ok (.iaload, 1) := by decide +kernel
theorem dX9_text_38 : decode cX9_text 38 = .ok (.invokevirtual 295, 3) := by decide +kernel
theorem dX9_text_41 : decode cX9_text 41 = .ok (.istore_n 2, 1) := by decide +kernel
theorem dX9_text_42 : decode cX9_text 42 = .ok (.aload_n 0, 1) := by decide +kernel
theorem dX9_text_43 : decode cX9_text 43 = .ok (.getfield 7, 3) := by decide +kernel
theorem dX9_text_46 : decode cX9_text 46 = .ok (.iload_n 2, 1) := by decide +kernel
theorem dX9_text_47 : decode cX9_text 47 = .ok (.iconst 0, 1) := by decide +kernel
theorem dX9_text_48 : decode cX9_text 48 = .ok (.iadd, 1) := by decide +kernel
theorem dX9_text_49 : decode cX9_text 49 = .ok (.iload_n 1, 1) := by decide +kernel
theorem dX9_text_50 : decode cX9_text 50 = .ok (.iastore, 1) := by decide +kernel
theorem dX9_text_51 : decode cX9_text 51 = .ok (.aload_n 0, 1) := by decide +kernel
theorem dX9_text_52 : decode cX9_text 52 = .ok (.getfield 7, 3) := by decide +kernel
theorem dX9_text_55 : decode cX9_text 55 = .ok (.iload_n 2, 1) := by decide +kernel
theorem dX9_text_56 : decode cX9_text 56 = .ok (.iconst 1, 1) := by decide +kernel
theorem dX9_text_57 : decode cX9_text 57 = .ok (.iadd, 1) := by decide +kernel
theorem dX9_text_58 : decode cX9_text 58 = .ok (.aload_n 0, 1) := by decide +kernel
theorem dX9_text_59 : decode cX9_text 59 = .ok (.getfield 280, 3) := by decide +kernel
theorem dX9_text_62 : decode cX9_text 62 = .ok (.iastore, 1) := by decide +kernel
theorem dX9_text_63 : decode cX9_text 63 = .ok (.aload_n 0, 1) := by decide +kernel
theorem dX9_text_64 : decode cX9_text 64 = .ok (.getfield 7, 3) := by decide +kernel
theorem dX9_text_67 : decode cX9_text 67 = .ok (.iload_n 2, 1) := by decide +kernel
theorem dX9_text_68 : decode cX9_text 68 = .ok (.iconst 2, 1) := by decide +kernel
theorem dX9_text_69 : decode cX9_text 69 = .ok (.iadd, 1) := by decide +kernel
theorem dX9_text_70 : decode cX9_text 70 = .ok (.aload_n 0, 1) := by decide +kernel
theorem dX9_text_71 : decode cX9_text 71 = .ok (.getfield 252, 3) := by decide +kernel
theorem dX9_text_74 : decode cX9_text 74 = .ok (.iastore, 1) := by decide +kernel
theorem dX9_text_75 : decode cX9_text 75 = .ok (.aload_n 0, 1) := by decide +kernel
theorem dX9_text_76 : decode cX9_text 76 = .ok (.getfield 7, 3) := by decide +kernel
theorem dX9_text_79 : decode cX9_text 79 = .ok (.iconst 2, 1) := by decide +kernel
theorem dX9_text_80 : decode cX9_text 80 = .ok (.dup2, 1) := by decide +kernel
theorem dX9_text_81 : decode cX9_text 81 = .ok (.iaload, 1) := by decide +kernel
theorem dX9_text_82 : decode cX9_text 82 = .ok (.iconst 1, 1) := by decide +kernel
theorem dX9_text_83 : decode cX9_text 83 = .ok (.iadd, 1) := by decide +kernel
theorem dX9_text_84 : decode cX9_text 84 = .ok (.iastore, 1) := by decide +kernel
theorem dX9_text_85 : decode cX9_text 85 = .ok (.aload_n 0, 1) := by decide +kernel
theorem dX9_text_86 : decode cX9_text 86 = .ok (.getfield 7, 3) := by decide +kernel
theorem dX9_text_89 : decode cX9_text 89 = .ok (.iconst 2, 1) := by decide +kernel
theorem dX9_text_90 : decode cX9_text 90 = .ok (.iaload, 1) := by decide +kernel
theorem dX9_text_91 : decode cX9_text 91 = .ok (.iconst 1, 1) := by decide +kernel
theorem dX9_text_92 : decode cX9_text 92 = .ok (.isub, 1) := by decide +kernel
theorem dX9_text_93 : decode cX9_text 93 = .ok (.ireturn, 1) := by decide +kernel
theorem dX9_textTold_0 : decode cX9_textTold 0 = .ok (.aload_n 0, 1) := by decide +kernel
theorem dX9_textTold_1 : decode cX9_textTold 1 = .ok (.iload_n 1, 1) := by decide +kernel
theorem dX9_textTold_2 : decode cX9_textTold 2 = .ok (.invokevirtual 304, 3) := by decide +kernel
theorem dX9_textTold_5 : decode cX9_textTold 5 = .ok (.ifCond .eq 13, 3) := by decide +kernel
theorem dX9_textTold_8 : decode cX9_textTold 8 = .ok (.iload_n 2, 1) := by decide +kernel
theorem dX9_textTold_9 : decode cX9_textTold 9 = .ok (.i2l, 1) := by decide +kernel
theorem dX9_textTold_10 : decode cX9_textTold 10 = .ok (.lconst 0, 1) := by decide +kernel
theorem dX9_textTold_11 : decode cX9_textTold 11 = .ok (.lconst 1, 1) := by decide +kernel
theorem dX9_textTold_12 : decode cX9_textTold 12 = .ok (.invokestatic 65, 3) := by decide +kernel
theorem dX9_textTold_15 : decode cX9_textTold 15 = .ok (.ifCond .ne 6, 3) := by decide +kernel
theorem dX9_textTold_18 : decode cX9_textTold 18 = .ok (.ldc 72, 2) := by decide +kernel
theorem dX9_textTold_20 : decode cX9_textTold 20 = .ok (.ireturn, 1) := by decide +kernel
theorem dX9_textTold_21 : decode cX9_textTold 21 = .ok (.aload_n 0, 1) := by decide +kernel
theorem dX9_textTold_22 : decode cX9_textTold 22 = .ok (.getfield 7, 3) := by decide +kernel
theorem dX9_textTold_25 : decode cX9_textTold 25 = .ok (.aload_n 0, 1) := by decide +kernel
theorem dX9_textTold_26 : decode cX9_textTold 26 = .ok (.iload_n 1, 1) := by decide +kernel
theorem dX9_textTold_27 : decode cX9_textTold 27 = .ok (.invokevirtual 295, 3) := by decide +kernel
theorem dX9_textTold_30 : decode cX9_textTold 30 = .ok (.iload_n 2, 1) := by decide +kernel
theorem dX9_textTold_31 : decode cX9_textTold 31 = .ok (.iadd, 1) := by decide +kernel
theorem dX9_textTold_32 : decode cX9_textTold 32 = .ok (.iaload, 1) := by decide +kernel
theorem dX9_textTold_33 : decode cX9_textTold 33 = .ok (.ireturn, 1) := by decide +kernel
theorem dX9_counts_0 : decode cX9_counts 0 = .ok (.iconst (-1), 1) := by decide +kernel
theorem dX9_counts_1 : decode cX9_counts 1 = .ok (.istore_n 2, 1) := by decide +kernel
theorem dX9_counts_2 : decode cX9_counts 2 = .ok (.iconst 0, 1) := by decide +kernel
theorem dX9_counts_3 : decode cX9_counts 3 = .ok (.istore_n 3, 1) := by decide +kernel
theorem dX9_counts_4 : decode cX9_counts 4 = .ok (.iload_n 3, 1) := by decide +kernel
theorem dX9_counts_5 : decode cX9_counts 5 = .ok (.aload_n 0, 1) := by decide +kernel
theorem dX9_counts_6 : decode cX9_counts 6 = .ok (.getfield 7, 3) := by decide +kernel
theorem dX9_counts_9 : decode cX9_counts 9 = .ok (.iconst 2, 1) := by decide +kernel
theorem dX9_counts_10 : decode cX9_counts 10 = .ok (.iaload, 1) := by decide +kernel
theorem dX9_counts_11 : decode cX9_counts 11 = .ok (.if_icmp .ge 29, 3) := by decide +kernel
theorem dX9_counts_14 : decode cX9_counts 14 = .ok (.aload_n 0, 1) := by decide +kernel
theorem dX9_counts_15 : decode cX9_counts 15 = .ok (.getfield 7, 3) := by decide +kernel
theorem dX9_counts_18 : decode cX9_counts 18 = .ok (.aload_n 0, 1) := by decide +kernel
theorem dX9_counts_19 : decode cX9_counts 19 = .ok (.iload_n 3, 1) := by decide +kernel
theorem dX9_counts_20 : decode cX9_counts 20 = .ok (.invokevirtual 295, 3) := by decide +kernel
theorem dX9_counts_23 : decode cX9_counts 23 = .ok (.iaload, 1) := by decide +kernel
theorem dX9_counts_24 : decode cX9_counts 24 = .ok (.iload_n 1, 1) := by decide +kernel
theorem dX9_counts_25 : decode cX9_counts 25 = .ok (.if_icmp .ne 7, 3) := by decide +kernel
theorem dX9_counts_28 : decode cX9_counts 28 = .ok (.iload_n 3, 1) := by decide +kernel
theorem dX9_counts_29 : decode cX9_counts 29 = .ok (.goto 4, 3) := by decide +kernel
theorem dX9_counts_32 : decode cX9_counts 32 = .ok (.iload_n 2, 1) := by decide +kernel
theorem dX9_counts_33 : decode cX9_counts 33 = .ok (.istore_n 2, 1) := by decide +kernel
theorem dX9_counts_34 : decode cX9_counts 34 = .ok (.iinc 3 1, 3) := by decide +kernel
theorem dX9_counts_37 : decode cX9_counts 37 = .ok (.goto (-33), 3) := by decide +kernel
theorem dX9_counts_40 : decode cX9_counts 40 = .ok (.iload_n 2, 1) := by decide +kernel
theorem dX9_counts_41 : decode cX9_counts 41 = .ok (.ireturn, 1) := by decide +kernel
theorem dX9_why_0 : decode cX9_why 0 = .ok (.iload_n 1, 1) := by decide +kernel
theorem dX9_why_1 : decode cX9_why 1 = .ok (.i2l, 1) := by decide +kernel
theorem dX9_why_2 : decode cX9_why 2 = .ok (.lconst 0, 1) := by decide +kernel
theorem dX9_why_3 : decode cX9_why 3 = .ok (.ldc2_w 110, 3) := by decide +kernel
theorem dX9_why_6 : decode cX9_why 6 = .ok (.invokestatic 65, 3) := by decide +kernel
theorem dX9_why_9 : decode cX9_why 9 = .ok (.ifCond .eq 14, 3) := by decide +kernel
theorem dX9_why_12 : decode cX9_why 12 = .ok (.aload_n 0, 1) := by decide +kernel
theorem dX9_why_13 : decode cX9_why 13 = .ok (.iload_n 1, 1) := by decide +kernel
theorem dX9_why_14 : decode cX9_why 14 = .ok (.invokevirtual 82, 3) := by decide +kernel
theorem dX9_why_17 : decode cX9_why 17 = .ok (.invokestatic 179, 3) := by decide +kernel
theorem dX9_why_20 : decode cX9_why 20 = .ok (.goto 5, 3) := by decide +kernel
theorem dX9_why_23 : decode cX9_why 23 = .ok (.ldc 72, 2) := by decide +kernel
theorem dX9_why_25 : decode cX9_why 25 = .ok (.ireturn, 1) := by decide +kernel
theorem dX9_joined_0 : decode cX9_joined 0 = .ok (.iload_n 0, 1) := by decide +kernel
theorem dX9_joined_1 : decode cX9_joined 1 = .ok (.tableswitch 196 38 62 #[182, 196, 196, 196, 123, 115, 196, 119, 196, 127, 196, 196, 196, 196, 196, 196, 196, 196, 196, 196, 196, 196, 149, 171, 160], 115) := by decide +kernel
theorem dX9_joined_116 : decode cX9_joined 116 = .ok (.iload_n 1, 1) := by decide +kernel
theorem dX9_joined_117 : decode cX9_joined 117 = .ok (.iload_n 2, 1) := by decide +kernel
theorem dX9_joined_118 : decode cX9_joined 118 = .ok (.iadd, 1) := by decide +kernel
theorem dX9_joined_119 : decode cX9_joined 119 = .ok (.ireturn, 1) := by decide +kernel
theorem dX9_joined_120 : decode cX9_joined 120 = .ok (.iload_n 1, 1) := by decide +kernel
theorem dX9_joined_121 : decode cX9_joined 121 = .ok (.iload_n 2, 1) := by decide +kernel
theorem dX9_joined_122 : decode cX9_joined 122 = .ok (.isub, 1) := by decide +kernel
theorem dX9_joined_123 : decode cX9_joined 123 = .ok (.ireturn, 1) := by decide +kernel
theorem dX9_joined_124 : decode cX9_joined 124 = .ok (.iload_n 1, 1) := by decide +kernel
theorem dX9_joined_125 : decode cX9_joined 125 = .ok (.iload_n 2, 1) := by decide +kernel
theorem dX9_joined_126 : decode cX9_joined 126 = .ok (.imul, 1) := by decide +kernel
theorem dX9_joined_127 : decode cX9_joined 127 = .ok (.ireturn, 1) := by decide +kernel
theorem dX9_joined_128 : decode cX9_joined 128 = .ok (.iload_n 2, 1) := by decide +kernel
theorem dX9_joined_129 : decode cX9_joined 129 = .ok (.ifCond .ne 7, 3) := by decide +kernel
theorem dX9_joined_132 : decode cX9_joined 132 = .ok (.iconst 0, 1) := by decide +kernel
theorem dX9_joined_133 : decode cX9_joined 133 = .ok (.goto 16, 3) := by decide +kernel
theorem dX9_joined_136 : decode cX9_joined 136 = .ok (.iload_n 2, 1) := by decide +kernel
theorem dX9_joined_137 : decode cX9_joined 137 = .ok (.iconst (-1), 1) := by decide +kernel
theorem dX9_joined_138 : decode cX9_joined 138 = .ok (.if_icmp .ne 8, 3) := by decide +kernel
theorem dX9_joined_141 : decode cX9_joined 141 = .ok (.iload_n 1, 1) := by decide +kernel
theorem dX9_joined_142 : decode cX9_joined 142 = .ok (.ineg, 1) := by decide +kernel
theorem dX9_joined_143 : decode cX9_joined 143 = .ok (.goto 6, 3) := by decide +kernel
theorem dX9_joined_146 : decode cX9_joined 146 = .ok (.iload_n 1, 1) := by decide +kernel
theorem dX9_joined_147 : decode cX9_joined 147 = .ok (.iload_n 2, 1) := by decide +kernel
theorem dX9_joined_148 : decode cX9_joined 148 = .ok (.idiv, 1) := by decide +kernel
theorem dX9_joined_149 : decode cX9_joined 149 = .ok (.ireturn, 1) := by decide +kernel
theorem dX9_joined_150 : decode cX9_joined 150 = .ok (.iload_n 1, 1) := by decide +kernel
theorem dX9_joined_151 : decode cX9_joined 151 = .ok (.iload_n 2, 1) := by decide +kernel
theorem dX9_joined_152 : decode cX9_joined 152 = .ok (.if_icmp .ge 7, 3) := by decide +kernel
theorem dX9_joined_155 : decode cX9_joined 155 = .ok (.iconst 1, 1) := by decide +kernel
theorem dX9_joined_156 : decode cX9_joined 156 = .ok (.goto 4, 3) := by decide +kernel
theorem dX9_joined_159 : decode cX9_joined 159 = .ok (.iconst 0, 1) := by decide +kernel
theorem dX9_joined_160 : decode cX9_joined 160 = .ok (.ireturn, 1) := by decide +kernel
theorem dX9_joined_161 : decode cX9_joined 161 = .ok (.iload_n 1, 1) := by decide +kernel
theorem dX9_joined_162 : decode cX9_joined 162 = .ok (.iload_n 2, 1) := by decide +kernel
theorem dX9_joined_163 : decode cX9_joined 163 = .ok (.if_icmp .le 7, 3) := by decide +kernel
theorem dX9_joined_166 : decode cX9_joined 166 = .ok (.iconst 1, 1) := by decide +kernel
theorem dX9_joined_167 : decode cX9_joined 167 = .ok (.goto 4, 3) := by decide +kernel
theorem dX9_joined_170 : decode cX9_joined 170 = .ok (.iconst 0, 1) := by decide +kernel
theorem dX9_joined_171 : decode cX9_joined 171 = .ok (.ireturn, 1) := by decide +kernel
theorem dX9_joined_172 : decode cX9_joined 172 = .ok (.iload_n 1, 1) := by decide +kernel
theorem dX9_joined_173 : decode cX9_joined 173 = .ok (.iload_n 2, 1) := by decide +kernel
theorem dX9_joined_174 : decode cX9_joined 174 = .ok (.if_icmp .ne 7, 3) := by decide +kernel
theorem dX9_joined_177 : decode cX9_joined 177 = .ok (.iconst 1, 1) := by decide +kernel
theorem dX9_joined_178 : decode cX9_joined 178 = .ok (.goto 4, 3) := by decide +kernel
theorem dX9_joined_181 : decode cX9_joined 181 = .ok (.iconst 0, 1) := by decide +kernel
theorem dX9_joined_182 : decode cX9_joined 182 = .ok (.ireturn, 1) := by decide +kernel
theorem dX9_joined_183 : decode cX9_joined 183 = .ok (.iload_n 1, 1) := by decide +kernel
theorem dX9_joined_184 : decode cX9_joined 184 = .ok (.ifCond .eq 11, 3) := by decide +kernel
theorem dX9_joined_187 : decode cX9_joined 187 = .ok (.iload_n 2, 1) := by decide +kernel
theorem dX9_joined_188 : decode cX9_joined 188 = .ok (.ifCond .eq 7, 3) := by decide +kernel
theorem dX9_joined_191 : decode cX9_joined 191 = .ok (.iconst 1, 1) := by decide +kernel
theorem dX9_joined_192 : decode cX9_joined 192 = .ok (.goto 4, 3) := by decide +kernel
theorem dX9_joined_195 : decode cX9_joined 195 = .ok (.iconst 0, 1) := by decide +kernel
theorem dX9_joined_196 : decode cX9_joined 196 = .ok (.ireturn, 1) := by decide +kernel
theorem dX9_joined_197 : decode cX9_joined 197 = .ok (.iload_n 1, 1) := by decide +kernel
theorem dX9_joined_198 : decode cX9_joined 198 = .ok (.ifCond .ne 7, 3) := by decide +kernel
theorem dX9_joined_201 : decode cX9_joined 201 = .ok (.iload_n 2, 1) := by decide +kernel
theorem dX9_joined_202 : decode cX9_joined 202 = .ok (.ifCond .eq 7, 3) := by decide +kernel
theorem dX9_joined_205 : decode cX9_joined 205 = .ok (.iconst 1, 1) := by decide +kernel
theorem dX9_joined_206 : decode cX9_joined 206 = .ok (.goto 4, 3) := by decide +kernel
theorem dX9_joined_209 : decode cX9_joined 209 = .ok (.iconst 0, 1) := by decide +kernel
theorem dX9_joined_210 : decode cX9_joined 210 = .ok (.ireturn, 1) := by decide +kernel
theorem dX9_worked_0 : decode cX9_worked 0 = .ok (.iconst 0, 1) := by decide +kernel
theorem dX9_worked_1 : decode cX9_worked 1 = .ok (.istore_n 2, 1) := by decide +kernel
theorem dX9_worked_2 : decode cX9_worked 2 = .ok (.iconst 0, 1) := by decide +kernel
theorem dX9_worked_3 : decode cX9_worked 3 = .ok (.istore_n 3, 1) := by decide +kernel
theorem dX9_worked_4 : decode cX9_worked 4 = .ok (.iload_n 3, 1) := by decide +kernel
theorem dX9_worked_5 : decode cX9_worked 5 = .ok (.aload_n 0, 1) := by decide +kernel
theorem dX9_worked_6 : decode cX9_worked 6 = .ok (.getfield 7, 3) := by decide +kernel
theorem dX9_worked_9 : decode cX9_worked 9 = .ok (.aload_n 0, 1) := by decide +kernel
theorem dX9_worked_10 : decode cX9_worked 10 = .ok (.iload_n 1, 1) := by decide +kernel
theorem dX9_worked_11 : decode cX9_worked 11 = .ok (.invokevirtual 295, 3) := by decide +kernel
theorem dX9_worked_14 : decode cX9_worked 14 = .ok (.iconst 2, 1) := by decide +kernel
theorem dX9_worked_15 : decode cX9_worked 15 = .ok (.iadd, 1) := by decide +kernel
theorem dX9_worked_16 : decode cX9_worked 16 = .ok (.iaload, 1) := by decide +kernel
theorem dX9_worked_17 : decode cX9_worked 17 = .ok (.if_icmp .ge 146, 3) := by decide +kernel
theorem dX9_worked_20 : decode cX9_worked 20 = .ok (.aload_n 0, 1) := by decide +kernel
theorem dX9_worked_21 : decode cX9_worked 21 = .ok (.getfield 7, 3) := by decide +kernel
theorem dX9_worked_24 : decode cX9_worked 24 = .ok (.aload_n 0, 1) := by decide +kernel
theorem dX9_worked_25 : decode cX9_worked 25 = .ok (.iload_n 1, 1) := by decide +kernel
theorem dX9_worked_26 : decode cX9_worked 26 = .ok (.invokevirtual 295, 3) := by decide +kernel
theorem dX9_worked_29 : decode cX9_worked 29 = .ok (.iconst 4, 1) := by decide +kernel
theorem dX9_worked_30 : decode cX9_worked 30 = .ok (.iadd, 1) := by decide +kernel
theorem dX9_worked_31 : decode cX9_worked 31 = .ok (.iconst 2, 1) := by decide +kernel
theorem dX9_worked_32 : decode cX9_worked 32 = .ok (.iload_n 3, 1) := by decide +kernel
theorem dX9_worked_33 : decode cX9_worked 33 = .ok (.imul, 1) := by decide +kernel
theorem dX9_worked_34 : decode cX9_worked 34 = .ok (.iadd, 1) := by decide +kernel
theorem dX9_worked_35 : decode cX9_worked 35 = .ok (.iaload, 1) := by decide +kernel
theorem dX9_worked_36 : decode cX9_worked 36 = .ok (.istore 4, 2) := by decide +kernel
theorem dX9_worked_38 : decode cX9_worked 38 = .ok (.aload_n 0, 1) := by decide +kernel
theorem dX9_worked_39 : decode cX9_worked 39 = .ok (.getfield 7, 3) := by decide +kernel
theorem dX9_worked_42 : decode cX9_worked 42 = .ok (.aload_n 0, 1) := by decide +kernel
theorem dX9_worked_43 : decode cX9_worked 43 = .ok (.iload_n 1, 1) := by decide +kernel
theorem dX9_worked_44 : decode cX9_worked 44 = .ok (.invokevirtual 295, 3) := by decide +kernel
theorem dX9_worked_47 : decode cX9_worked 47 = .ok (.iconst 4, 1) := by decide +kernel
theorem dX9_worked_48 : decode cX9_worked 48 = .ok (.iadd, 1) := by decide +kernel
theorem dX9_worked_49 : decode cX9_worked 49 = .ok (.iconst 2, 1) := by decide +kernel
theorem dX9_worked_50 : decode cX9_worked 50 = .ok (.iload_n 3, 1) := by decide +kernel
theorem dX9_worked_51 : decode cX9_worked 51 = .ok (.imul, 1) := by decide +kernel
theorem dX9_worked_52 : decode cX9_worked 52 = .ok (.iadd, 1) := by decide +kernel
theorem dX9_worked_53 : decode cX9_worked 53 = .ok (.iconst 1, 1) := by decide +kernel
theorem dX9_worked_54 : decode cX9_worked 54 = .ok (.iadd, 1) := by decide +kernel
theorem dX9_worked_55 : decode cX9_worked 55 = .ok (.iaload, 1) := by decide +kernel
theorem dX9_worked_56 : decode cX9_worked 56 = .ok (.istore 5, 2) := by decide +kernel
theorem dX9_worked_58 : decode cX9_worked 58 = .ok (.iload 4, 2) := by decide +kernel
theorem dX9_worked_60 : decode cX9_worked 60 = .ok (.iconst 2, 1) := by decide +kernel
theorem dX9_worked_61 : decode cX9_worked 61 = .ok (.if_icmp .eq 32, 3) := by decide +kernel
theorem dX9_worked_64 : decode cX9_worked 64 = .ok (.aload_n 0, 1) := by decide +kernel
theorem dX9_worked_65 : decode cX9_worked 65 = .ok (.getfield 52, 3) := by decide +kernel
theorem dX9_worked_68 : decode cX9_worked 68 = .ok (.iload_n 2, 1) := by decide +kernel
theorem dX9_worked_69 : decode cX9_worked 69 = .ok (.iload 4, 2) := by decide +kernel
theorem dX9_worked_71 : decode cX9_worked 71 = .ok (.ifCond .ne 8, 3) := by decide +kernel
theorem dX9_worked_74 : decode cX9_worked 74 = .ok (.iload 5, 2) := by decide +kernel
theorem dX9_worked_76 : decode cX9_worked 76 = .ok (.goto 10, 3) := by decide +kernel
theorem dX9_worked_79 : decode cX9_worked 79 = .ok (.aload_n 0, 1) := by decide +kernel
theorem dX9_worked_80 : decode cX9_worked 80 = .ok (.getfield 49, 3) := by decide +kernel
theorem dX9_worked_83 : decode cX9_worked 83 = .ok (.iload 5, 2) := by decide +kernel
theorem dX9_worked_85 : decode cX9_worked 85 = .ok (.iaload, 1) := by decide +kernel
theorem dX9_worked_86 : decode cX9_worked 86 = .ok (.iastore, 1) := by decide +kernel
theorem dX9_worked_87 : decode cX9_worked 87 = .ok (.iinc 2 1, 3) := by decide +kernel
theorem dX9_worked_90 : decode cX9_worked 90 = .ok (.goto 67, 3) := by decide +kernel
theorem dX9_worked_93 : decode cX9_worked 93 = .ok (.iload 5, 2) := by decide +kernel
theorem dX9_worked_95 : decode cX9_worked 95 = .ok (.bipush 33, 2) := by decide +kernel
theorem dX9_worked_97 : decode cX9_worked 97 = .ok (.if_icmp .ne 30, 3) := by decide +kernel
theorem dX9_worked_100 : decode cX9_worked 100 = .ok (.aload_n 0, 1) := by decide +kernel
theorem dX9_worked_101 : decode cX9_worked 101 = .ok (.getfield 52, 3) := by decide +kernel
theorem dX9_worked_104 : decode cX9_worked 104 = .ok (.iload_n 2, 1) := by decide +kernel
theorem dX9_worked_105 : decode cX9_worked 105 = .ok (.iconst 1, 1) := by decide +kernel
theorem dX9_worked_106 : decode cX9_worked 106 = .ok (.isub, 1) := by decide +kernel
theorem dX9_worked_107 : decode cX9_worked 107 = .ok (.aload_n 0, 1) := by decide +kernel
theorem dX9_worked_108 : decode cX9_worked 108 = .ok (.getfield 52, 3) := by decide +kernel
theorem dX9_worked_111 : decode cX9_worked 111 = .ok (.iload_n 2, 1) := by decide +kernel
theorem dX9_worked_112 : decode cX9_worked 112 = .ok (.iconst 1, 1) := by decide +kernel
theorem dX9_worked_113 : decode cX9_worked 113 = .ok (.isub, 1) := by decide +kernel
theorem dX9_worked_114 : decode cX9_worked 114 = .ok (.iaload, 1) := by decide +kernel
theorem dX9_worked_115 : decode cX9_worked 115 = .ok (.ifCond .ne 7, 3) := by decide +kernel
theorem dX9_worked_118 : decode cX9_worked 118 = .ok (.iconst 1, 1) := by decide +kernel
theorem dX9_worked_119 : decode cX9_worked 119 = .ok (.goto 4, 3) := by decide +kernel
theorem dX9_worked_122 : decode cX9_worked 122 = .ok (.iconst 0, 1) := by decide +kernel
theorem dX9_worked_123 : decode cX9_worked 123 = .ok (.iastore, 1) := by decide +kernel
theorem dX9_worked_124 : decode cX9_worked 124 = .ok (.goto 33, 3) := by decide +kernel
theorem dX9_worked_127 : decode cX9_worked 127 = .ok (.iinc 2 (-1), 3) := by decide +kernel
theorem dX9_worked_130 : decode cX9_worked 130 = .ok (.aload_n 0, 1) := by decide +kernel
theorem dX9_worked_131 : decode cX9_worked 131 = .ok (.getfield 52, 3) := by decide +kernel
theorem dX9_worked_134 : decode cX9_worked 134 = .ok (.iload_n 2, 1) := by decide +kernel
theorem dX9_worked_135 : decode cX9_worked 135 = .ok (.iconst 1, 1) := by decide +kernel
theorem dX9_worked_136 : decode cX9_worked 136 = .ok (.isub, 1) := by decide +kernel
theorem dX9_worked_137 : decode cX9_worked 137 = .ok (.iload 5, 2) := by decide +kernel
theorem dX9_worked_139 : decode cX9_worked 139 = .ok (.aload_n 0, 1) := by decide +kernel
theorem dX9_worked_140 : decode cX9_worked 140 = .ok (.getfield 52, 3) := by decide +kernel
theorem dX9_worked_143 : decode cX9_worked 143 = .ok (.iload_n 2, 1) := by decide +kernel
theorem dX9_worked_144 : decode cX9_worked 144 = .ok (.iconst 1, 1) := by decide +kernel
theorem dX9_worked_145 : decode cX9_worked 145 = .ok (.isub, 1) := by decide +kernel
theorem dX9_worked_146 : decode cX9_worked 146 = .ok (.iaload, 1) := by decide +kernel
theorem dX9_worked_147 : decode cX9_worked 147 = .ok (.aload_n 0, 1) := by decide +kernel
theorem dX9_worked_148 : decode cX9_worked 148 = .ok (.getfield 52, 3) := by decide +kernel
theorem dX9_worked_151 : decode cX9_worked 151 = .ok (.iload_n 2, 1) := by decide +kernel
theorem dX9_worked_152 : decode cX9_worked 152 = .ok (.iaload, 1) := by decide +kernel
theorem dX9_worked_153 : decode cX9_worked 153 = .ok (.invokestatic 307, 3) := by decide +kernel
theorem dX9_worked_156 : decode cX9_worked 156 = .ok (.iastore, 1) := by decide +kernel
theorem dX9_worked_157 : decode cX9_worked 157 = .ok (.iinc 3 1, 3) := by decide +kernel
theorem dX9_worked_160 : decode cX9_worked 160 = .ok (.goto (-156), 3) := by decide +kernel
theorem dX9_worked_163 : decode cX9_worked 163 = .ok (.aload_n 0, 1) := by decide +kernel
theorem dX9_worked_164 : decode cX9_worked 164 = .ok (.getfield 52, 3) := by decide +kernel
theorem dX9_worked_167 : decode cX9_worked 167 = .ok (.iconst 0, 1) := by decide +kernel
theorem dX9_worked_168 : decode cX9_worked 168 = .ok (.iaload, 1) := by decide +kernel
theorem dX9_worked_169 : decode cX9_worked 169 = .ok (.ireturn, 1) := by decide +kernel
theorem dX9_isSheet_0 : decode cX9_isSheet 0 = .ok (.iload_n 0, 1) := by decide +kernel
theorem dX9_isSheet_1 : decode cX9_isSheet 1 = .ok (.i2l, 1) := by decide +kernel
theorem dX9_isSheet_2 : decode cX9_isSheet 2 = .ok (.lconst 0, 1) := by decide +kernel
theorem dX9_isSheet_3 : decode cX9_isSheet 3 = .ok (.ldc2_w 182, 3) := by decide +kernel
theorem dX9_isSheet_6 : decode cX9_isSheet 6 = .ok (.invokestatic 65, 3) := by decide +kernel
theorem dX9_isSheet_9 : decode cX9_isSheet 9 = .ok (.ireturn, 1) := by decide +kernel
theorem dX9_sheet_0 : decode cX9_sheet 0 = .ok (.iload_n 1, 1) := by decide +kernel
theorem dX9_sheet_1 : decode cX9_sheet 1 = .ok (.invokestatic 311, 3) := by decide +kernel
theorem dX9_sheet_4 : decode cX9_sheet 4 = .ok (.ifCond .eq 25, 3) := by decide +kernel
theorem dX9_sheet_7 : decode cX9_sheet 7 = .ok (.iload_n 2, 1) := by decide +kernel
theorem dX9_sheet_8 : decode cX9_sheet 8 = .ok (.i2l, 1) := by decide +kernel
theorem dX9_sheet_9 : decode cX9_sheet 9 = .ok (.ldc2_w 314, 3) := by decide +kernel
theorem dX9_sheet_12 : decode cX9_sheet 12 = .ok (.lconst 1, 1) := by decide +kernel
theorem dX9_sheet_13 : decode cX9_sheet 13 = .ok (.invokestatic 65, 3) := by decide +kernel
theorem dX9_sheet_16 : decode cX9_sheet 16 = .ok (.ifCond .eq 13, 3) := by decide +kernel
theorem dX9_sheet_19 : decode cX9_sheet 19 = .ok (.iload_n 2, 1) := by decide +kernel
theorem dX9_sheet_20 : decode cX9_sheet 20 = .ok (.ifCond .lt 12, 3) := by decide +kernel
theorem dX9_sheet_23 : decode cX9_sheet 23 = .ok (.iload_n 3, 1) := by decide +kernel
theorem dX9_sheet_24 : decode cX9_sheet 24 = .ok (.bipush 24, 2) := by decide +kernel
theorem dX9_sheet_26 : decode cX9_sheet 26 = .ok (.if_icmp .le 6, 3) := by decide +kernel
theorem dX9_sheet_29 : decode cX9_sheet 29 = .ok (.ldc 72, 2) := by decide +kernel
theorem dX9_sheet_31 : decode cX9_sheet 31 = .ok (.ireturn, 1) := by decide +kernel
theorem dX9_sheet_32 : decode cX9_sheet 32 = .ok (.iload_n 2, 1) := by decide +kernel
theorem dX9_sheet_33 : decode cX9_sheet 33 = .ok (.ifCond .lt 11, 3) := by decide +kernel
theorem dX9_sheet_36 : decode cX9_sheet 36 = .ok (.iload_n 3, 1) := by decide +kernel
theorem dX9_sheet_37 : decode cX9_sheet 37 = .ok (.ifCond .ge 7, 3) := by decide +kernel
theorem dX9_sheet_40 : decode cX9_sheet 40 = .ok (.ldc_w 316, 3) := by decide +kernel
theorem dX9_sheet_43 : decode cX9_sheet 43 = .ok (.ireturn, 1) := by decide +kernel
theorem dX9_sheet_44 : decode cX9_sheet 44 = .ok (.aload_n 0, 1) := by decide +kernel
theorem dX9_sheet_45 : decode cX9_sheet 45 = .ok (.getfield 19, 3) := by decide +kernel
theorem dX9_sheet_48 : decode cX9_sheet 48 = .ok (.iload_n 1, 1) := by decide +kernel
theorem dX9_sheet_49 : decode cX9_sheet 49 = .ok (.iload_n 2, 1) := by decide +kernel
theorem dX9_sheet_50 : decode cX9_sheet 50 = .ok (.iastore, 1) := by decide +kernel
theorem dX9_sheet_51 : decode cX9_sheet 51 = .ok (.aload_n 0, 1) := by decide +kernel
theorem dX9_sheet_52 : decode cX9_sheet 52 = .ok (.getfield 22, 3) := by decide +kernel
theorem dX9_sheet_55 : decode cX9_sheet 55 = .ok (.iload_n 1, 1) := by decide +kernel
theorem dX9_sheet_56 : decode cX9_sheet 56 = .ok (.iload_n 2, 1) := by decide +kernel
theorem dX9_sheet_57 : decode cX9_sheet 57 = .ok (.ifCond .ge 7, 3) := by decide +kernel
theorem dX9_sheet_60 : decode cX9_sheet 60 = .ok (.iconst 0, 1) := by decide +kernel
theorem dX9_sheet_61 : decode cX9_sheet 61 = .ok (.goto 4, 3) := by decide +kernel
theorem dX9_sheet_64 : decode cX9_sheet 64 = .ok (.iload_n 3, 1) := by decide +kernel
theorem dX9_sheet_65 : decode cX9_sheet 65 = .ok (.iastore, 1) := by decide +kernel
theorem dX9_sheet_66 : decode cX9_sheet 66 = .ok (.iconst 0, 1) := by decide +kernel
theorem dX9_sheet_67 : decode cX9_sheet 67 = .ok (.istore 4, 2) := by decide +kernel
theorem dX9_sheet_69 : decode cX9_sheet 69 = .ok (.iload 4, 2) := by decide +kernel
theorem dX9_sheet_71 : decode cX9_sheet 71 = .ok (.bipush 24, 2) := by decide +kernel
theorem dX9_sheet_73 : decode cX9_sheet 73 = .ok (.if_icmp .ge 22, 3) := by decide +kernel
theorem dX9_sheet_76 : decode cX9_sheet 76 = .ok (.aload_n 0, 1) := by decide +kernel
theorem dX9_sheet_77 : decode cX9_sheet 77 = .ok (.getfield 25, 3) := by decide +kernel
theorem dX9_sheet_80 : decode cX9_sheet 80 = .ok (.bipush 24, 2) := by decide +kernel
theorem dX9_sheet_82 : decode cX9_sheet 82 = .ok (.iload_n 1, 1) := by decide +kernel
theorem dX9_sheet_83 : decode cX9_sheet 83 = .ok (.imul, 1) := by decide +kernel
theorem dX9_sheet_84 : decode cX9_sheet 84 = .ok (.iload 4, 2) := by decide +kernel
theorem dX9_sheet_86 : decode cX9_sheet 86 = .ok (.iadd, 1) := by decide +kernel
theorem dX9_sheet_87 : decode cX9_sheet 87 = .ok (.iconst 0, 1) := by decide +kernel
theorem dX9_sheet_88 : decode cX9_sheet 88 = .ok (.iastore, 1) := by decide +kernel
theorem dX9_sheet_89 : decode cX9_sheet 89 = .ok (.iinc 4 1, 3) := by decide +kernel
theorem dX9_sheet_92 : decode cX9_sheet 92 = .ok (.goto (-23), 3) := by decide +kernel
theorem dX9_sheet_95 : decode cX9_sheet 95 = .ok (.aload_n 0, 1) := by decide +kernel
theorem dX9_sheet_96 : decode cX9_sheet 96 = .ok (.getfield 22, 3) := by decide +kernel
theorem dX9_sheet_99 : decode cX9_sheet 99 = .ok (.iload_n 1, 1) := by decide +kernel
theorem dX9_sheet_100 : decode cX9_sheet 100 = .ok (.iaload, 1) := by decide +kernel
theorem dX9_sheet_101 : decode cX9_sheet 101 = .ok (.ireturn, 1) := by decide +kernel
theorem dX9_mark_0 : decode cX9_mark 0 = .ok (.iload_n 1, 1) := by decide +kernel
theorem dX9_mark_1 : decode cX9_mark 1 = .ok (.invokestatic 311, 3) := by decide +kernel
theorem dX9_mark_4 : decode cX9_mark 4 = .ok (.ifCond .ne 6, 3) := by decide +kernel
theorem dX9_mark_7 : decode cX9_mark 7 = .ok (.ldc 72, 2) := by decide +kernel
theorem dX9_mark_9 : decode cX9_mark 9 = .ok (.ireturn, 1) := by decide +kernel
theorem dX9_mark_10 : decode cX9_mark 10 = .ok (.aload_n 0, 1) := by decide +kernel
theorem dX9_mark_11 : decode cX9_mark 11 = .ok (.getfield 19, 3) := by decide +kernel
theorem dX9_mark_14 : decode cX9_mark 14 = .ok (.iload_n 1, 1) := by decide +kernel
theorem dX9_mark_15 : decode cX9_mark 15 = .ok (.iaload, 1) := by decide +kernel
theorem dX9_mark_16 : decode cX9_mark 16 = .ok (.ifCond .ge 7, 3) := by decide +kernel
theorem dX9_mark_19 : decode cX9_mark 19 = .ok (.ldc_w 317, 3) := by decide +kernel
theorem dX9_mark_22 : decode cX9_mark 22 = .ok (.ireturn, 1) := by decide +kernel
theorem dX9_mark_23 : decode cX9_mark 23 = .ok (.iload_n 2, 1) := by decide +kernel
theorem dX9_mark_24 : decode cX9_mark 24 = .ok (.i2l, 1) := by decide +kernel
theorem dX9_mark_25 : decode cX9_mark 25 = .ok (.lconst 0, 1) := by decide +kernel
theorem dX9_mark_26 : decode cX9_mark 26 = .ok (.aload_n 0, 1) := by decide +kernel
theorem dX9_mark_27 : decode cX9_mark 27 = .ok (.getfield 22, 3) := by decide +kernel
theorem dX9_mark_30 : decode cX9_mark 30 = .ok (.iload_n 1, 1) := by decide +kernel
theorem dX9_mark_31 : decode cX9_mark 31 = .ok (.iaload, 1) := by decide +kernel
theorem dX9_mark_32 : decode cX9_mark 32 = .ok (.iconst 1, 1) := by decide +kernel
theorem dX9_mark_33 : decode cX9_mark 33 = .ok (.isub, 1) := by decide +kernel
theorem dX9_mark_34 : decode cX9_mark 34 = .ok (.i2l, 1) := by decide +kernel
theorem dX9_mark_35 : decode cX9_mark 35 = .ok (.invokestatic 65, 3) := by decide +kernel
theorem dX9_mark_38 : decode cX9_mark 38 = .ok (.ifCond .ne 7, 3) := by decide +kernel
theorem dX9_mark_41 : decode cX9_mark 41 = .ok (.ldc_w 318, 3) := by decide +kernel
theorem dX9_mark_44 : decode cX9_mark 44 = .ok (.ireturn, 1) := by decide +kernel
theorem dX9_mark_45 : decode cX9_mark 45 = .ok (.aload_n 0, 1) := by decide +kernel
theorem dX9_mark_46 : decode cX9_mark 46 = .ok (.getfield 19, 3) := by decide +kernel
theorem dX9_mark_49 : decode cX9_mark 49 = .ok (.iload_n 1, 1) := by decide +kernel
theorem dX9_mark_50 : decode cX9_mark 50 = .ok (.iaload, 1) := by decide +kernel
theorem dX9_mark_51 : decode cX9_mark 51 = .ok (.ifCond .ne 12, 3) := by decide +kernel
theorem dX9_mark_54 : decode cX9_mark 54 = .ok (.iload_n 3, 1) := by decide +kernel
theorem dX9_mark_55 : decode cX9_mark 55 = .ok (.ldc 64, 2) := by decide +kernel
theorem dX9_mark_57 : decode cX9_mark 57 = .ok (.if_icmp .ne 6, 3) := by decide +kernel
theorem dX9_mark_60 : decode cX9_mark 60 = .ok (.ldc 142, 2) := by decide +kernel
theorem dX9_mark_62 : decode cX9_mark 62 = .ok (.ireturn, 1) := by decide +kernel
theorem dX9_mark_63 : decode cX9_mark 63 = .ok (.aload_n 0, 1) := by decide +kernel
theorem dX9_mark_64 : decode cX9_mark 64 = .ok (.getfield 19, 3) := by decide +kernel
theorem dX9_mark_67 : decode cX9_mark 67 = .ok (.iload_n 1, 1) := by decide +kernel
theorem dX9_mark_68 : decode cX9_mark 68 = .ok (.iaload, 1) := by decide +kernel
theorem dX9_mark_69 : decode cX9_mark 69 = .ok (.iconst 1, 1) := by decide +kernel
theorem dX9_mark_70 : decode cX9_mark 70 = .ok (.if_icmp .ne 26, 3) := by decide +kernel
theorem dX9_mark_73 : decode cX9_mark 73 = .ok (.iload_n 3, 1) := by decide +kernel
theorem dX9_mark_74 : decode cX9_mark 74 = .ok (.ldc 64, 2) := by decide +kernel
theorem dX9_mark_76 : decode cX9_mark 76 = .ok (.if_icmp .eq 20, 3) := by decide +kernel
theorem dX9_mark_79 : decode cX9_mark 79 = .ok (.iload_n 3, 1) := by decide +kernel
theorem dX9_mark_80 : decode cX9_mark 80 = .ok (.i2l, 1) := by decide +kernel
theorem dX9_mark_81 : decode cX9_mark 81 = .ok (.ldc2_w 319, 3) := by decide +kernel
theorem dX9_mark_84 : decode cX9_mark 84 = .ok (.ldc2_w 321, 3) := by decide +kernel
theorem dX9_mark_87 : decode cX9_mark 87 = .ok (.invokestatic 65, 3) := by decide +kernel
theorem dX9_mark_90 : decode cX9_mark 90 = .ok (.ifCond .ne 6, 3) := by decide +kernel
theorem dX9_mark_93 : decode cX9_mark 93 = .ok (.ldc 72, 2) := by decide +kernel
theorem dX9_mark_95 : decode cX9_mark 95 = .ok (.ireturn, 1) := by decide +kernel
theorem dX9_mark_96 : decode cX9_mark 96 = .ok (.aload_n 0, 1) := by decide +kernel
theorem dX9_mark_97 : decode cX9_mark 97 = .ok (.getfield 25, 3) := by decide +kernel
theorem dX9_mark_100 : decode cX9_mark 100 = .ok (.bipush 24, 2) := by decide +kernel
theorem dX9_mark_102 : decode cX9_mark 102 = .ok (.iload_n 1, 1) := by decide +kernel
theorem dX9_mark_103 : decode cX9_mark 103 = .ok (.imul, 1) := by decide +kernel
theorem dX9_mark_104 : decode cX9_mark 104 = .ok (.iload_n 2, 1) := by decide +kernel
theorem dX9_mark_105 : decode cX9_mark 105 = .ok (.iadd, 1) := by decide +kernel
theorem dX9_mark_106 : decode cX9_mark 106 = .ok (.aload_n 0, 1) := by decide +kernel
theorem dX9_mark_107 : decode cX9_mark 107 = .ok (.getfield 19, 3) := by decide +kernel
theorem dX9_mark_110 : decode cX9_mark 110 = .ok (.iload_n 1, 1) := by decide +kernel
theorem dX9_mark_111 : decode cX9_mark 111 = .ok (.iaload, 1) := by decide +kernel
theorem dX9_mark_112 : decode cX9_mark 112 = .ok (.ifCond .ne 13, 3) := by decide +kernel
theorem dX9_mark_115 : decode cX9_mark 115 = .ok (.iload_n 3, 1) := by decide +kernel
theorem dX9_mark_116 : decode cX9_mark 116 = .ok (.bipush 16, 2) := by decide +kernel
theorem dX9_mark_118 : decode cX9_mark 118 = .ok (.ishl, 1) := by decide +kernel
theorem dX9_mark_119 : decode cX9_mark 119 = .ok (.bipush 16, 2) := by decide +kernel
theorem dX9_mark_121 : decode cX9_mark 121 = .ok (.ishr, 1) := by decide +kernel
theorem dX9_mark_122 : decode cX9_mark 122 = .ok (.goto 4, 3) := by decide +kernel
theorem dX9_mark_125 : decode cX9_mark 125 = .ok (.iload_n 3, 1) := by decide +kernel
theorem dX9_mark_126 : decode cX9_mark 126 = .ok (.iastore, 1) := by decide +kernel
theorem dX9_mark_127 : decode cX9_mark 127 = .ok (.iconst 1, 1) := by decide +kernel
theorem dX9_mark_128 : decode cX9_mark 128 = .ok (.ireturn, 1) := by decide +kernel
theorem dX9_pour_0 : decode cX9_pour 0 = .ok (.iload_n 1, 1) := by decide +kernel
theorem dX9_pour_1 : decode cX9_pour 1 = .ok (.invokestatic 311, 3) := by decide +kernel
theorem dX9_pour_4 : decode cX9_pour 4 = .ok (.ifCond .ne 6, 3) := by decide +kernel
theorem dX9_pour_7 : decode cX9_pour 7 = .ok (.ldc 72, 2) := by decide +kernel
theorem dX9_pour_9 : decode cX9_pour 9 = .ok (.ireturn, 1) := by decide +kernel
theorem dX9_pour_10 : decode cX9_pour 10 = .ok (.aload_n 0, 1) := by decide +kernel
theorem dX9_pour_11 : decode cX9_pour 11 = .ok (.getfield 19, 3) := by decide +kernel
theorem dX9_pour_14 : decode cX9_pour 14 = .ok (.iload_n 1, 1) := by decide +kernel
theorem dX9_pour_15 : decode cX9_pour 15 = .ok (.iaload, 1) := by decide +kernel
theorem dX9_pour_16 : decode cX9_pour 16 = .ok (.ifCond .ge 7, 3) := by decide +kernel
theorem dX9_pour_19 : decode cX9_pour 19 = .ok (.ldc_w 317, 3) := by decide +kernel
theorem dX9_pour_22 : decode cX9_pour 22 = .ok (.ireturn, 1) := by decide +kernel
theorem dX9_pour_23 : decode cX9_pour 23 = .ok (.iconst 0, 1) := by decide +kernel
theorem dX9_pour_24 : decode cX9_pour 24 = .ok (.istore_n 2, 1) := by decide +kernel
theorem dX9_pour_25 : decode cX9_pour 25 = .ok (.iconst 0, 1) := by decide +kernel
theorem dX9_pour_26 : decode cX9_pour 26 = .ok (.istore_n 3, 1) := by decide +kernel
theorem dX9_pour_27 : decode cX9_pour 27 = .ok (.iload_n 3, 1) := by decide +kernel
theorem dX9_pour_28 : decode cX9_pour 28 = .ok (.aload_n 0, 1) := by decide +kernel
theorem dX9_pour_29 : decode cX9_pour 29 = .ok (.getfield 22, 3) := by decide +kernel
theorem dX9_pour_32 : decode cX9_pour 32 = .ok (.iload_n 1, 1) := by decide +kernel
theorem dX9_pour_33 : decode cX9_pour 33 = .ok (.iaload, 1) := by decide +kernel
theorem dX9_pour_34 : decode cX9_pour 34 = .ok (.if_icmp .ge 82, 3) := by decide +kernel
theorem dX9_pour_37 : decode cX9_pour 37 = .ok (.iload_n 3, 1) := by decide +kernel
theorem dX9_pour_38 : decode cX9_pour 38 = .ok (.aload_n 0, 1) := by decide +kernel
theorem dX9_pour_39 : decode cX9_pour 39 = .ok (.getfield 7, 3) := by decide +kernel
theorem dX9_pour_42 : decode cX9_pour 42 = .ok (.iconst 0, 1) := by decide +kernel
theorem dX9_pour_43 : decode cX9_pour 43 = .ok (.iaload, 1) := by decide +kernel
theorem dX9_pour_44 : decode cX9_pour 44 = .ok (.if_icmp .ge 72, 3) := by decide +kernel
theorem dX9_pour_47 : decode cX9_pour 47 = .ok (.aload_n 0, 1) := by decide +kernel
theorem dX9_pour_48 : decode cX9_pour 48 = .ok (.getfield 25, 3) := by decide +kernel
theorem dX9_pour_51 : decode cX9_pour 51 = .ok (.bipush 24, 2) := by decide +kernel
theorem dX9_pour_53 : decode cX9_pour 53 = .ok (.iload_n 1, 1) := by decide +kernel
theorem dX9_pour_54 : decode cX9_pour 54 = .ok (.imul, 1) := by decide +kernel
theorem dX9_pour_55 : decode cX9_pour 55 = .ok (.iload_n 3, 1) := by decide +kernel
theorem dX9_pour_56 : decode cX9_pour 56 = .ok (.iadd, 1) := by decide +kernel
theorem dX9_pour_57 : decode cX9_pour 57 = .ok (.iaload, 1) := by decide +kernel
theorem dX9_pour_58 : decode cX9_pour 58 = .ok (.istore 4, 2) := by decide +kernel
theorem dX9_pour_60 : decode cX9_pour 60 = .ok (.iload 4, 2) := by decide +kernel
theorem dX9_pour_62 : decode cX9_pour 62 = .ok (.ldc 64, 2) := by decide +kernel
theorem dX9_pour_64 : decode cX9_pour 64 = .ok (.if_icmp .ne 12, 3) := by decide +kernel
theorem dX9_pour_67 : decode cX9_pour 67 = .ok (.aload_n 0, 1) := by decide +kernel
theorem dX9_pour_68 : decode cX9_pour 68 = .ok (.iload_n 3, 1) := by decide +kernel
theorem dX9_pour_69 : decode cX9_pour 69 = .ok (.iconst 0, 1) := by decide +kernel
theorem dX9_pour_70 : decode cX9_pour 70 = .ok (.invokevirtual 74, 3) := by decide +kernel
theorem dX9_pour_73 : decode cX9_pour 73 = .ok (.goto 10, 3) := by decide +kernel
theorem dX9_pour_76 : decode cX9_pour 76 = .ok (.iload 4, 2) := by decide +kernel
theorem dX9_pour_78 : decode cX9_pour 78 = .ok (.bipush 99, 2) := by decide +kernel
theorem dX9_pour_80 : decode cX9_pour 80 = .ok (.invokestatic 88, 3) := by decide +kernel
theorem dX9_pour_83 : decode cX9_pour 83 = .ok (.istore 5, 2) := by decide +kernel
theorem dX9_pour_85 : decode cX9_pour 85 = .ok (.iload_n 2, 1) := by decide +kernel
theorem dX9_pour_86 : decode cX9_pour 86 = .ok (.iload 5, 2) := by decide +kernel
theorem dX9_pour_88 : decode cX9_pour 88 = .ok (.aload_n 0, 1) := by decide +kernel
theorem dX9_pour_89 : decode cX9_pour 89 = .ok (.bipush 12, 2) := by decide +kernel
theorem dX9_pour_91 : decode cX9_pour 91 = .ok (.iconst 3, 1) := by decide +kernel
theorem dX9_pour_92 : decode cX9_pour 92 = .ok (.iload_n 3, 1) := by decide +kernel
theorem dX9_pour_93 : decode cX9_pour 93 = .ok (.imul, 1) := by decide +kernel
theorem dX9_pour_94 : decode cX9_pour 94 = .ok (.iadd, 1) := by decide +kernel
theorem dX9_pour_95 : decode cX9_pour 95 = .ok (.iload 5, 2) := by decide +kernel
theorem dX9_pour_97 : decode cX9_pour 97 = .ok (.invokevirtual 114, 3) := by decide +kernel
theorem dX9_pour_100 : decode cX9_pour 100 = .ok (.if_icmp .ne 7, 3) := by decide +kernel
theorem dX9_pour_103 : decode cX9_pour 103 = .ok (.iconst 0, 1) := by decide +kernel
theorem dX9_pour_104 : decode cX9_pour 104 = .ok (.goto 4, 3) := by decide +kernel
theorem dX9_pour_107 : decode cX9_pour 107 = .ok (.iconst 1, 1) := by decide +kernel
theorem dX9_pour_108 : decode cX9_pour 108 = .ok (.iadd, 1) := by decide +kernel
theorem dX9_pour_109 : decode cX9_pour 109 = .ok (.istore_n 2, 1) := by decide +kernel
theorem dX9_pour_110 : decode cX9_pour 110 = .ok (.iinc 3 1, 3) := by decide +kernel
theorem dX9_pour_113 : decode cX9_pour 113 = .ok (.goto (-86), 3) := by decide +kernel
theorem dX9_pour_116 : decode cX9_pour 116 = .ok (.iload_n 2, 1) := by decide +kernel
theorem dX9_pour_117 : decode cX9_pour 117 = .ok (.ireturn, 1) := by decide +kernel
theorem dX9_reads_0 : decode cX9_reads 0 = .ok (.iload_n 1, 1) := by decide +kernel
theorem dX9_reads_1 : decode cX9_reads 1 = .ok (.invokestatic 311, 3) := by decide +kernel
theorem dX9_reads_4 : decode cX9_reads 4 = .ok (.ifCond .ne 6, 3) := by decide +kernel
theorem dX9_reads_7 : decode cX9_reads 7 = .ok (.ldc 72, 2) := by decide +kernel
theorem dX9_reads_9 : decode cX9_reads 9 = .ok (.ireturn, 1) := by decide +kernel
theorem dX9_reads_10 : decode cX9_reads 10 = .ok (.aload_n 0, 1) := by decide +kernel
theorem dX9_reads_11 : decode cX9_reads 11 = .ok (.getfield 19, 3) := by decide +kernel
theorem dX9_reads_14 : decode cX9_reads 14 = .ok (.iload_n 1, 1) := by decide +kernel
theorem dX9_reads_15 : decode cX9_reads 15 = .ok (.iaload, 1) := by decide +kernel
theorem dX9_reads_16 : decode cX9_reads 16 = .ok (.ifCond .ge 7, 3) := by decide +kernel
theorem dX9_reads_19 : decode cX9_reads 19 = .ok (.ldc_w 317, 3) := by decide +kernel
theorem dX9_reads_22 : decode cX9_reads 22 = .ok (.ireturn, 1) := by decide +kernel
theorem dX9_reads_23 : decode cX9_reads 23 = .ok (.iconst 0, 1) := by decide +kernel
theorem dX9_reads_24 : decode cX9_reads 24 = .ok (.istore_n 2, 1) := by decide +kernel
theorem dX9_reads_25 : decode cX9_reads 25 = .ok (.iload_n 2, 1) := by decide +kernel
theorem dX9_reads_26 : decode cX9_reads 26 = .ok (.aload_n 0, 1) := by decide +kernel
theorem dX9_reads_27 : decode cX9_reads 27 = .ok (.getfield 22, 3) := by decide +kernel
theorem dX9_reads_30 : decode cX9_reads 30 = .ok (.iload_n 1, 1) := by decide +kernel
theorem dX9_reads_31 : decode cX9_reads 31 = .ok (.iaload, 1) := by decide +kernel
theorem dX9_reads_32 : decode cX9_reads 32 = .ok (.if_icmp .ge 48, 3) := by decide +kernel
theorem dX9_reads_35 : decode cX9_reads 35 = .ok (.aload_n 0, 1) := by decide +kernel
theorem dX9_reads_36 : decode cX9_reads 36 = .ok (.getfield 25, 3) := by decide +kernel
theorem dX9_reads_39 : decode cX9_reads 39 = .ok (.bipush 24, 2) := by decide +kernel
theorem dX9_reads_41 : decode cX9_reads 41 = .ok (.iload_n 1, 1) := by decide +kernel
theorem dX9_reads_42 : decode cX9_reads 42 = .ok (.imul, 1) := by decide +kernel
theorem dX9_reads_43 : decode cX9_reads 43 = .ok (.iload_n 2, 1) := by decide +kernel
theorem dX9_reads_44 : decode cX9_reads 44 = .ok (.iadd, 1) := by decide +kernel
theorem dX9_reads_45 : decode cX9_reads 45 = .ok (.iaload, 1) := by decide +kernel
theorem dX9_reads_46 : decode cX9_reads 46 = .ok (.istore_n 3, 1) := by decide +kernel
theorem dX9_reads_47 : decode cX9_reads 47 = .ok (.iload_n 3, 1) := by decide +kernel
theorem dX9_reads_48 : decode cX9_reads 48 = .ok (.ldc 64, 2) := by decide +kernel
theorem dX9_reads_50 : decode cX9_reads 50 = .ok (.if_icmp .eq 24, 3) := by decide +kernel
theorem dX9_reads_53 : decode cX9_reads 53 = .ok (.iload_n 2, 1) := by decide +kernel
theorem dX9_reads_54 : decode cX9_reads 54 = .ok (.aload_n 0, 1) := by decide +kernel
theorem dX9_reads_55 : decode cX9_reads 55 = .ok (.getfield 7, 3) := by decide +kernel
theorem dX9_reads_58 : decode cX9_reads 58 = .ok (.iconst 0, 1) := by decide +kernel
theorem dX9_reads_59 : decode cX9_reads 59 = .ok (.iaload, 1) := by decide +kernel
theorem dX9_reads_60 : decode cX9_reads 60 = .ok (.if_icmp .ge 12, 3) := by decide +kernel
theorem dX9_reads_63 : decode cX9_reads 63 = .ok (.iload_n 3, 1) := by decide +kernel
theorem dX9_reads_64 : decode cX9_reads 64 = .ok (.aload_n 0, 1) := by decide +kernel
theorem dX9_reads_65 : decode cX9_reads 65 = .ok (.iload_n 2, 1) := by decide +kernel
theorem dX9_reads_66 : decode cX9_reads 66 = .ok (.invokevirtual 98, 3) := by decide +kernel
theorem dX9_reads_69 : decode cX9_reads 69 = .ok (.if_icmp .eq 5, 3) := by decide +kernel
theorem dX9_reads_72 : decode cX9_reads 72 = .ok (.iload_n 2, 1) := by decide +kernel
theorem dX9_reads_73 : decode cX9_reads 73 = .ok (.ireturn, 1) := by decide +kernel
theorem dX9_reads_74 : decode cX9_reads 74 = .ok (.iinc 2 1, 3) := by decide +kernel
theorem dX9_reads_77 : decode cX9_reads 77 = .ok (.goto (-52), 3) := by decide +kernel
theorem dX9_reads_80 : decode cX9_reads 80 = .ok (.ldc 64, 2) := by decide +kernel
theorem dX9_reads_82 : decode cX9_reads 82 = .ok (.ireturn, 1) := by decide +kernel
theorem dX9_signs_0 : decode cX9_signs 0 = .ok (.iload_n 1, 1) := by decide +kernel
theorem dX9_signs_1 : decode cX9_signs 1 = .ok (.invokestatic 311, 3) := by decide +kernel
theorem dX9_signs_4 : decode cX9_signs 4 = .ok (.ifCond .eq 25, 3) := by decide +kernel
theorem dX9_signs_7 : decode cX9_signs 7 = .ok (.iload_n 2, 1) := by decide +kernel
theorem dX9_signs_8 : decode cX9_signs 8 = .ok (.i2l, 1) := by decide +kernel
theorem dX9_signs_9 : decode cX9_signs 9 = .ok (.lconst 0, 1) := by decide +kernel
theorem dX9_signs_10 : decode cX9_signs 10 = .ok (.ldc2_w 207, 3) := by decide +kernel
theorem dX9_signs_13 : decode cX9_signs 13 = .ok (.invokestatic 65, 3) := by decide +kernel
theorem dX9_signs_16 : decode cX9_signs 16 = .ok (.ifCond .eq 13, 3) := by decide +kernel
theorem dX9_signs_19 : decode cX9_signs 19 = .ok (.iload_n 3, 1) := by decide +kernel
theorem dX9_signs_20 : decode cX9_signs 20 = .ok (.i2l, 1) := by decide +kernel
theorem dX9_signs_21 : decode cX9_signs 21 = .ok (.lconst 0, 1) := by decide +kernel
theorem dX9_signs_22 : decode cX9_signs 22 = .ok (.lconst 1, 1) := by decide +kernel
theorem dX9_signs_23 : decode cX9_signs 23 = .ok (.invokestatic 65, 3) := by decide +kernel
theorem dX9_signs_26 : decode cX9_signs 26 = .ok (.ifCond .ne 6, 3) := by decide +kernel
theorem dX9_signs_29 : decode cX9_signs 29 = .ok (.ldc 72, 2) := by decide +kernel
theorem dX9_signs_31 : decode cX9_signs 31 = .ok (.ireturn, 1) := by decide +kernel
theorem dX9_signs_32 : decode cX9_signs 32 = .ok (.aload_n 0, 1) := by decide +kernel
theorem dX9_signs_33 : decode cX9_signs 33 = .ok (.getfield 19, 3) := by decide +kernel
theorem dX9_signs_36 : decode cX9_signs 36 = .ok (.iload_n 1, 1) := by decide +kernel
theorem dX9_signs_37 : decode cX9_signs 37 = .ok (.iaload, 1) := by decide +kernel
theorem dX9_signs_38 : decode cX9_signs 38 = .ok (.ifCond .ge 7, 3) := by decide +kernel
theorem dX9_signs_41 : decode cX9_signs 41 = .ok (.ldc_w 317, 3) := by decide +kernel
theorem dX9_signs_44 : decode cX9_signs 44 = .ok (.ireturn, 1) := by decide +kernel
theorem dX9_signs_45 : decode cX9_signs 45 = .ok (.aload_n 0, 1) := by decide +kernel
theorem dX9_signs_46 : decode cX9_signs 46 = .ok (.invokevirtual 184, 3) := by decide +kernel
theorem dX9_signs_49 : decode cX9_signs 49 = .ok (.iconst (-1), 1) := by decide +kernel
theorem dX9_signs_50 : decode cX9_signs 50 = .ok (.istore 4, 2) := by decide +kernel
theorem dX9_signs_52 : decode cX9_signs 52 = .ok (.iconst 0, 1) := by decide +kernel
theorem dX9_signs_53 : decode cX9_signs 53 = .ok (.istore 5, 2) := by decide +kernel
theorem dX9_signs_55 : decode cX9_signs 55 = .ok (.iconst 0, 1) := by decide +kernel
theorem dX9_signs_56 : decode cX9_signs 56 = .ok (.istore 6, 2) := by decide +kernel
theorem dX9_signs_58 : decode cX9_signs 58 = .ok (.iload 6, 2) := by decide +kernel
theorem dX9_signs_60 : decode cX9_signs 60 = .ok (.bipush 40, 2) := by decide +kernel
theorem dX9_signs_62 : decode cX9_signs 62 = .ok (.if_icmp .gt 126, 3) := by decide +kernel
theorem dX9_signs_65 : decode cX9_signs 65 = .ok (.aload_n 0, 1) := by decide +kernel
theorem dX9_signs_66 : decode cX9_signs 66 = .ok (.getfield 7, 3) := by decide +kernel
theorem dX9_signs_69 : decode cX9_signs 69 = .ok (.iconst 4, 1) := by decide +kernel
theorem dX9_signs_70 : decode cX9_signs 70 = .ok (.iload 6, 2) := by decide +kernel
theorem dX9_signs_72 : decode cX9_signs 72 = .ok (.iastore, 1) := by decide +kernel
theorem dX9_signs_73 : decode cX9_signs 73 = .ok (.aload_n 0, 1) := by decide +kernel
theorem dX9_signs_74 : decode cX9_signs 74 = .ok (.iload_n 2, 1) := by decide +kernel
theorem dX9_signs_75 : decode cX9_signs 75 = .ok (.invokevirtual 187, 3) := by decide +kernel
theorem dX9_signs_78 : decode cX9_signs 78 = .ok (.iconst 0, 1) := by decide +kernel
theorem dX9_signs_79 : decode cX9_signs 79 = .ok (.istore 7, 2) := by decide +kernel
theorem dX9_signs_81 : decode cX9_signs 81 = .ok (.iconst 0, 1) := by decide +kernel
theorem dX9_signs_82 : decode cX9_signs 82 = .ok (.istore 8, 2) := by decide +kernel
theorem dX9_signs_84 : decode cX9_signs 84 = .ok (.iload 8, 2) := by decide +kernel
theorem dX9_signs_86 : decode cX9_signs 86 = .ok (.aload_n 0, 1) := by decide +kernel
theorem dX9_signs_87 : decode cX9_signs 87 = .ok (.getfield 22, 3) := by decide +kernel
theorem dX9_signs_90 : decode cX9_signs 90 = .ok (.iload_n 1, 1) := by decide +kernel
theorem dX9_signs_91 : decode cX9_signs 91 = .ok (.iaload, 1) := by decide +kernel
theorem dX9_signs_92 : decode cX9_signs 92 = .ok (.if_icmp .ge 66, 3) := by decide +kernel
theorem dX9_signs_95 : decode cX9_signs 95 = .ok (.aload_n 0, 1) := by decide +kernel
theorem dX9_signs_96 : decode cX9_signs 96 = .ok (.getfield 25, 3) := by decide +kernel
theorem dX9_signs_99 : decode cX9_signs 99 = .ok (.bipush 24, 2) := by decide +kernel
theorem dX9_signs_101 : decode cX9_signs 101 = .ok (.iload_n 1, 1) := by decide +kernel
theorem dX9_signs_102 : decode cX9_signs 102 = .ok (.imul, 1) := by decide +kernel
theorem dX9_signs_103 : decode cX9_signs 103 = .ok (.iload 8, 2) := by decide +kernel
theorem dX9_signs_105 : decode cX9_signs 105 = .ok (.iadd, 1) := by decide +kernel
theorem dX9_signs_106 : decode cX9_signs 106 = .ok (.iaload, 1) := by decide +kernel
theorem dX9_signs_107 : decode cX9_signs 107 = .ok (.istore 9, 2) := by decide +kernel
theorem dX9_signs_109 : decode cX9_signs 109 = .ok (.iload 7, 2) := by decide +kernel
theorem dX9_signs_111 : decode cX9_signs 111 = .ok (.iload 9, 2) := by decide +kernel
theorem dX9_signs_113 : decode cX9_signs 113 = .ok (.ldc 64, 2) := by decide +kernel
theorem dX9_signs_115 : decode cX9_signs 115 = .ok (.if_icmp .ne 7, 3) := by decide +kernel
theorem dX9_signs_118 : decode cX9_signs 118 = .ok (.iconst 0, 1) := by decide +kernel
theorem dX9_signs_119 : decode cX9_signs 119 = .ok (.goto 30, 3) := by decide +kernel
theorem dX9_signs_122 : decode cX9_signs 122 = .ok (.iload 9, 2) := by decide +kernel
theorem dX9_signs_124 : decode cX9_signs 124 = .ok (.iload 8, 2) := by decide +kernel
theorem dX9_signs_126 : decode cX9_signs 126 = .ok (.aload_n 0, 1) := by decide +kernel
theorem dX9_signs_127 : decode cX9_signs 127 = .ok (.getfield 7, 3) := by decide +kernel
theorem dX9_signs_130 : decode cX9_signs 130 = .ok (.iconst 0, 1) := by decide +kernel
theorem dX9_signs_131 : decode cX9_signs 131 = .ok (.iaload, 1) := by decide +kernel
theorem dX9_signs_132 : decode cX9_signs 132 = .ok (.if_icmp .ge 13, 3) := by decide +kernel
theorem dX9_signs_135 : decode cX9_signs 135 = .ok (.aload_n 0, 1) := by decide +kernel
theorem dX9_signs_136 : decode cX9_signs 136 = .ok (.iload 8, 2) := by decide +kernel
theorem dX9_signs_138 : decode cX9_signs 138 = .ok (.iconst 0, 1) := by decide +kernel
theorem dX9_signs_139 : decode cX9_signs 139 = .ok (.invokevirtual 74, 3) := by decide +kernel
theorem dX9_signs_142 : decode cX9_signs 142 = .ok (.goto 4, 3) := by decide +kernel
theorem dX9_signs_145 : decode cX9_signs 145 = .ok (.iconst 0, 1) := by decide +kernel
theorem dX9_signs_146 : decode cX9_signs 146 = .ok (.invokestatic 117, 3) := by decide +kernel
theorem dX9_signs_149 : decode cX9_signs 149 = .ok (.iadd, 1) := by decide +kernel
theorem dX9_signs_150 : decode cX9_signs 150 = .ok (.istore 7, 2) := by decide +kernel
theorem dX9_signs_152 : decode cX9_signs 152 = .ok (.iinc 8 1, 3) := by decide +kernel
theorem dX9_signs_155 : decode cX9_signs 155 = .ok (.goto (-71), 3) := by decide +kernel
theorem dX9_signs_158 : decode cX9_signs 158 = .ok (.aload_n 0, 1) := by decide +kernel
theorem dX9_signs_159 : decode cX9_signs 159 = .ok (.invokevirtual 194, 3) := by decide +kernel
theorem dX9_signs_162 : decode cX9_signs 162 = .ok (.iload 4, 2) := by decide +kernel
theorem dX9_signs_164 : decode cX9_signs 164 = .ok (.ifCond .lt 10, 3) := by decide +kernel
theorem dX9_signs_167 : decode cX9_signs 167 = .ok (.iload 7, 2) := by decide +kernel
theorem dX9_signs_169 : decode cX9_signs 169 = .ok (.iload 5, 2) := by decide +kernel
theorem dX9_signs_171 : decode cX9_signs 171 = .ok (.if_icmp .ge 11, 3) := by decide +kernel
theorem dX9_signs_174 : decode cX9_signs 174 = .ok (.iload 6, 2) := by decide +kernel
theorem dX9_signs_176 : decode cX9_signs 176 = .ok (.istore 4, 2) := by decide +kernel
theorem dX9_signs_178 : decode cX9_signs 178 = .ok (.iload 7, 2) := by decide +kernel
theorem dX9_signs_180 : decode cX9_signs 180 = .ok (.istore 5, 2) := by decide +kernel
theorem dX9_signs_182 : decode cX9_signs 182 = .ok (.iinc 6 1, 3) := by decide +kernel
theorem dX9_signs_185 : decode cX9_signs 185 = .ok (.goto (-127), 3) := by decide +kernel
theorem dX9_signs_188 : decode cX9_signs 188 = .ok (.iload_n 3, 1) := by decide +kernel
theorem dX9_signs_189 : decode cX9_signs 189 = .ok (.ifCond .ne 8, 3) := by decide +kernel
theorem dX9_signs_192 : decode cX9_signs 192 = .ok (.iload 4, 2) := by decide +kernel
theorem dX9_signs_194 : decode cX9_signs 194 = .ok (.goto 5, 3) := by decide +kernel
theorem dX9_signs_197 : decode cX9_signs 197 = .ok (.iload 5, 2) := by decide +kernel
theorem dX9_signs_199 : decode cX9_signs 199 = .ok (.ireturn, 1) := by decide +kernel
theorem dX9_copy_0 : decode cX9_copy 0 = .ok (.iload_n 1, 1) := by decide +kernel
theorem dX9_copy_1 : decode cX9_copy 1 = .ok (.invokestatic 311, 3) := by decide +kernel
theorem dX9_copy_4 : decode cX9_copy 4 = .ok (.ifCond .eq 10, 3) := by decide +kernel
theorem dX9_copy_7 : decode cX9_copy 7 = .ok (.iload_n 3, 1) := by decide +kernel
theorem dX9_copy_8 : decode cX9_copy 8 = .ok (.invokestatic 311, 3) := by decide +kernel
theorem dX9_copy_11 : decode cX9_copy 11 = .ok (.ifCond .ne 6, 3) := by decide +kernel
theorem dX9_copy_14 : decode cX9_copy 14 = .ok (.ldc 72, 2) := by decide +kernel
theorem dX9_copy_16 : decode cX9_copy 16 = .ok (.ireturn, 1) := by decide +kernel
theorem dX9_copy_17 : decode cX9_copy 17 = .ok (.aload_n 0, 1) := by decide +kernel
theorem dX9_copy_18 : decode cX9_copy 18 = .ok (.getfield 19, 3) := by decide +kernel
theorem dX9_copy_21 : decode cX9_copy 21 = .ok (.iload_n 1, 1) := by decide +kernel
theorem dX9_copy_22 : decode cX9_copy 22 = .ok (.iaload, 1) := by decide +kernel
theorem dX9_copy_23 : decode cX9_copy 23 = .ok (.ifCond .lt 12, 3) := by decide +kernel
theorem dX9_copy_26 : decode cX9_copy 26 = .ok (.aload_n 0, 1) := by decide +kernel
theorem dX9_copy_27 : decode cX9_copy 27 = .ok (.getfield 19, 3) := by decide +kernel
theorem dX9_copy_30 : decode cX9_copy 30 = .ok (.iload_n 3, 1) := by decide +kernel
theorem dX9_copy_31 : decode cX9_copy 31 = .ok (.iaload, 1) := by decide +kernel
theorem dX9_copy_32 : decode cX9_copy 32 = .ok (.ifCond .ge 7, 3) := by decide +kernel
theorem dX9_copy_35 : decode cX9_copy 35 = .ok (.ldc_w 317, 3) := by decide +kernel
theorem dX9_copy_38 : decode cX9_copy 38 = .ok (.ireturn, 1) := by decide +kernel
theorem dX9_copy_39 : decode cX9_copy 39 = .ok (.aload_n 0, 1) := by decide +kernel
theorem dX9_copy_40 : decode cX9_copy 40 = .ok (.getfield 19, 3) := by decide +kernel
theorem dX9_copy_43 : decode cX9_copy 43 = .ok (.iload_n 1, 1) := by decide +kernel
theorem dX9_copy_44 : decode cX9_copy 44 = .ok (.iaload, 1) := by decide +kernel
theorem dX9_copy_45 : decode cX9_copy 45 = .ok (.aload_n 0, 1) := by decide +kernel
theorem dX9_copy_46 : decode cX9_copy 46 = .ok (.getfield 19, 3) := by decide +kernel
theorem dX9_copy_49 : decode cX9_copy 49 = .ok (.iload_n 3, 1) := by decide +kernel
theorem dX9_copy_50 : decode cX9_copy 50 = .ok (.iaload, 1) := by decide +kernel
theorem dX9_copy_51 : decode cX9_copy 51 = .ok (.if_icmp .eq 6, 3) := by decide +kernel
theorem dX9_copy_54 : decode cX9_copy 54 = .ok (.ldc 142, 2) := by decide +kernel
theorem dX9_copy_56 : decode cX9_copy 56 = .ok (.ireturn, 1) := by decide +kernel
theorem dX9_copy_57 : decode cX9_copy 57 = .ok (.iload_n 2, 1) := by decide +kernel
theorem dX9_copy_58 : decode cX9_copy 58 = .ok (.ifCond .lt 48, 3) := by decide +kernel
theorem dX9_copy_61 : decode cX9_copy 61 = .ok (.iload 4, 2) := by decide +kernel
theorem dX9_copy_63 : decode cX9_copy 63 = .ok (.ifCond .lt 43, 3) := by decide +kernel
theorem dX9_copy_66 : decode cX9_copy 66 = .ok (.iload 5, 2) := by decide +kernel
theorem dX9_copy_68 : decode cX9_copy 68 = .ok (.ifCond .lt 38, 3) := by decide +kernel
theorem dX9_copy_71 : decode cX9_copy 71 = .ok (.iload_n 2, 1) := by decide +kernel
theorem dX9_copy_72 : decode cX9_copy 72 = .ok (.i2l, 1) := by decide +kernel
theorem dX9_copy_73 : decode cX9_copy 73 = .ok (.iload 5, 2) := by decide +kernel
theorem dX9_copy_75 : decode cX9_copy 75 = .ok (.i2l, 1) := by decide +kernel
theorem dX9_copy_76 : decode cX9_copy 76 = .ok (.ladd, 1) := by decide +kernel
theorem dX9_copy_77 : decode cX9_copy 77 = .ok (.aload_n 0, 1) := by decide +kernel
theorem dX9_copy_78 : decode cX9_copy 78 = .ok (.getfield 22, 3) := by decide +kernel
theorem dX9_copy_81 : decode cX9_copy 81 = .ok (.iload_n 1, 1) := by decide +kernel
theorem dX9_copy_82 : decode cX9_copy 82 = .ok (.iaload, 1) := by decide +kernel
theorem dX9_copy_83 : decode cX9_copy 83 = .ok (.i2l, 1) := by decide +kernel
theorem dX9_copy_84 : decode cX9_copy 84 = .ok (.lcmp, 1) := by decide +kernel
theorem dX9_copy_85 : decode cX9_copy 85 = .ok (.ifCond .gt 21, 3) := by decide +kernel
theorem dX9_copy_88 : decode cX9_copy 88 = .ok (.iload 4, 2) := by decide +kernel
theorem dX9_copy_90 : decode cX9_copy 90 = .ok (.i2l, 1) := by decide +kernel
theorem dX9_copy_91 : decode cX9_copy 91 = .ok (.iload 5, 2) := by decide +kernel
theorem dX9_copy_93 : decode cX9_copy 93 = .ok (.i2l, 1) := by decide +kernel
theorem dX9_copy_94 : decode cX9_copy 94 = .ok (.ladd, 1) := by decide +kernel
theorem dX9_copy_95 : decode cX9_copy 95 = .ok (.aload_n 0, 1) := by decide +kernel
theorem dX9_copy_96 : decode cX9_copy 96 = .ok (.getfield 22, 3) := by decide +kernel
theorem dX9_copy_99 : decode cX9_copy 99 = .ok (.iload_n 3, 1) := by decide +kernel
theorem dX9_copy_100 : decode cX9_copy 100 = .ok (.iaload, 1) := by decide +kernel
theorem dX9_copy_101 : decode cX9_copy 101 = .ok (.i2l, 1) := by decide +kernel
theorem dX9_copy_102 : decode cX9_copy 102 = .ok (.lcmp, 1) := by decide +kernel
theorem dX9_copy_103 : decode cX9_copy 103 = .ok (.ifCond .le 7, 3) := by decide +kernel
theorem dX9_copy_106 : decode cX9_copy 106 = .ok (.ldc_w 318, 3) := by decide +kernel
theorem dX9_copy_109 : decode cX9_copy 109 = .ok (.ireturn, 1) := by decide +kernel
theorem dX9_copy_110 : decode cX9_copy 110 = .ok (.iconst 0, 1) := by decide +kernel
theorem dX9_copy_111 : decode cX9_copy 111 = .ok (.istore 6, 2) := by decide +kernel
theorem dX9_copy_113 : decode cX9_copy 113 = .ok (.iload 6, 2) := by decide +kernel
theorem dX9_copy_115 : decode cX9_copy 115 = .ok (.iload 5, 2) := by decide +kernel
theorem dX9_copy_117 : decode cX9_copy 117 = .ok (.if_icmp .ge 30, 3) := by decide +kernel
theorem dX9_copy_120 : decode cX9_copy 120 = .ok (.aload_n 0, 1) := by decide +kernel
theorem dX9_copy_121 : decode cX9_copy 121 = .ok (.getfield 55, 3) := by decide +kernel
theorem dX9_copy_124 : decode cX9_copy 124 = .ok (.iload 6, 2) := by decide +kernel
theorem dX9_copy_126 : decode cX9_copy 126 = .ok (.aload_n 0, 1) := by decide +kernel
theorem dX9_copy_127 : decode cX9_copy 127 = .ok (.getfield 25, 3) := by decide +kernel
theorem dX9_copy_130 : decode cX9_copy 130 = .ok (.bipush 24, 2) := by decide +kernel
theorem dX9_copy_132 : decode cX9_copy 132 = .ok (.iload_n 1, 1) := by decide +kernel
theorem dX9_copy_133 : decode cX9_copy 133 = .ok (.imul, 1) := by decide +kernel
theorem dX9_copy_134 : decode cX9_copy 134 = .ok (.iload_n 2, 1) := by decide +kernel
theorem dX9_copy_135 : decode cX9_copy 135 = .ok (.iadd, 1) := by decide +kernel
theorem dX9_copy_136 : decode cX9_copy 136 = .ok (.iload 6, 2) := by decide +kernel
theorem dX9_copy_138 : decode cX9_copy 138 = .ok (.iadd, 1) := by decide +kernel
theorem dX9_copy_139 : decode cX9_copy 139 = .ok (.iaload, 1) := by decide +kernel
theorem dX9_copy_140 : decode cX9_copy 140 = .ok (.iastore, 1) := by decide +kernel
theorem dX9_copy_141 : decode cX9_copy 141 = .ok (.iinc 6 1, 3) := by decide +kernel
theorem dX9_copy_144 : decode cX9_copy 144 = .ok (.goto (-31), 3) := by decide +kernel
theorem dX9_copy_147 : decode cX9_copy 147 = .ok (.iconst 0, 1) := by decide +kernel
theorem dX9_copy_148 : decode cX9_copy 148 = .ok (.istore 6, 2) := by decide +kernel
theorem dX9_copy_150 : decode cX9_copy 150 = .ok (.iload 6, 2) := by decide +kernel
theorem dX9_copy_152 : decode cX9_copy 152 = .ok (.iload 5, 2) := by decide +kernel
theorem dX9_copy_154 : decode cX9_copy 154 = .ok (.if_icmp .ge 31, 3) := by decide +kernel
theorem dX9_copy_157 : decode cX9_copy 157 = .ok (.aload_n 0, 1) := by decide +kernel
theorem dX9_copy_158 : decode cX9_copy 158 = .ok (.getfield 25, 3) := by decide +kernel
theorem dX9_copy_161 : decode cX9_copy 161 = .ok (.bipush 24, 2) := by decide +kernel
theorem dX9_copy_163 : decode cX9_copy 163 = .ok (.iload_n 3, 1) := by decide +kernel
theorem dX9_copy_164 : decode cX9_copy 164 = .ok (.imul, 1) := by decide +kernel
theorem dX9_copy_165 : decode cX9_copy 165 = .ok (.iload 4, 2) := by decide +kernel
theorem dX9_copy_167 : decode cX9_copy 167 = .ok (.iadd, 1) := by decide +kernel
theorem dX9_copy_168 : decode cX9_copy 168 = .ok (.iload 6, 2) := by decide +kernel
theorem dX9_copy_170 : decode cX9_copy 170 = .ok (.iadd, 1) := by decide +kernel
theorem dX9_copy_171 : decode cX9_copy 171 = .ok (.aload_n 0, 1) := by decide +kernel
theorem dX9_copy_172 : decode cX9_copy 172 = .ok (.getfield 55, 3) := by decide +kernel
theorem dX9_copy_175 : decode cX9_copy 175 = .ok (.iload 6, 2) := by decide +kernel
theorem dX9_copy_177 : decode cX9_copy 177 = .ok (.iaload, 1) := by decide +kernel
theorem dX9_copy_178 : decode cX9_copy 178 = .ok (.iastore, 1) := by decide +kernel
theorem dX9_copy_179 : decode cX9_copy 179 = .ok (.iinc 6 1, 3) := by decide +kernel
theorem dX9_copy_182 : decode cX9_copy 182 = .ok (.goto (-32), 3) := by decide +kernel
theorem dX9_copy_185 : decode cX9_copy 185 = .ok (.iload 5, 2) := by decide +kernel
theorem dX9_copy_187 : decode cX9_copy 187 = .ok (.ireturn, 1) := by decide +kernel
theorem dX9_isSlot_0 : decode cX9_isSlot 0 = .ok (.iload_n 0, 1) := by decide +kernel
theorem dX9_isSlot_1 : decode cX9_isSlot 1 = .ok (.i2l, 1) := by decide +kernel
theorem dX9_isSlot_2 : decode cX9_isSlot 2 = .ok (.lconst 0, 1) := by decide +kernel
theorem dX9_isSlot_3 : decode cX9_isSlot 3 = .ok (.ldc2_w 323, 3) := by decide +kernel
theorem dX9_isSlot_6 : decode cX9_isSlot 6 = .ok (.invokestatic 65, 3) := by decide +kernel
theorem dX9_isSlot_9 : decode cX9_isSlot 9 = .ok (.ireturn, 1) := by decide +kernel
theorem dX9_lay_0 : decode cX9_lay 0 = .ok (.iload_n 2, 1) := by decide +kernel
theorem dX9_lay_1 : decode cX9_lay 1 = .ok (.ifCond .eq 33, 3) := by decide +kernel
theorem dX9_lay_4 : decode cX9_lay 4 = .ok (.iload_n 2, 1) := by decide +kernel
theorem dX9_lay_5 : decode cX9_lay 5 = .ok (.iconst 3, 1) := by decide +kernel
theorem dX9_lay_6 : decode cX9_lay 6 = .ok (.if_icmp .eq 28, 3) := by decide +kernel
theorem dX9_lay_9 : decode cX9_lay 9 = .ok (.iload_n 2, 1) := by decide +kernel
theorem dX9_lay_10 : decode cX9_lay 10 = .ok (.iconst 1, 1) := by decide +kernel
theorem dX9_lay_11 : decode cX9_lay 11 = .ok (.if_icmp .ne 11, 3) := by decide +kernel
theorem dX9_lay_14 : decode cX9_lay 14 = .ok (.aload_n 0, 1) := by decide +kernel
theorem dX9_lay_15 : decode cX9_lay 15 = .ok (.iload_n 3, 1) := by decide +kernel
theorem dX9_lay_16 : decode cX9_lay 16 = .ok (.invokevirtual 130, 3) := by decide +kernel
theorem dX9_lay_19 : decode cX9_lay 19 = .ok (.ifCond .ne 15, 3) := by decide +kernel
theorem dX9_lay_22 : decode cX9_lay 22 = .ok (.iload_n 2, 1) := by decide +kernel
theorem dX9_lay_23 : decode cX9_lay 23 = .ok (.iconst 2, 1) := by decide +kernel
theorem dX9_lay_24 : decode cX9_lay 24 = .ok (.if_icmp .ne 14, 3) := by decide +kernel
theorem dX9_lay_27 : decode cX9_lay 27 = .ok (.iload_n 3, 1) := by decide +kernel
theorem dX9_lay_28 : decode cX9_lay 28 = .ok (.invokestatic 311, 3) := by decide +kernel
theorem dX9_lay_31 : decode cX9_lay 31 = .ok (.ifCond .eq 7, 3) := by decide +kernel
theorem dX9_lay_34 : decode cX9_lay 34 = .ok (.iconst 1, 1) := by decide +kernel
theorem dX9_lay_35 : decode cX9_lay 35 = .ok (.goto 4, 3) := by decide +kernel
theorem dX9_lay_38 : decode cX9_lay 38 = .ok (.iconst 0, 1) := by decide +kernel
theorem dX9_lay_39 : decode cX9_lay 39 = .ok (.istore 4, 2) := by decide +kernel
theorem dX9_lay_41 : decode cX9_lay 41 = .ok (.iload_n 1, 1) := by decide +kernel
theorem dX9_lay_42 : decode cX9_lay 42 = .ok (.invokestatic 325, 3) := by decide +kernel
theorem dX9_lay_45 : decode cX9_lay 45 = .ok (.ifCond .eq 8, 3) := by decide +kernel
theorem dX9_lay_48 : decode cX9_lay 48 = .ok (.iload 4, 2) := by decide +kernel
theorem dX9_lay_50 : decode cX9_lay 50 = .ok (.ifCond .ne 6, 3) := by decide +kernel
theorem dX9_lay_53 : decode cX9_lay 53 = .ok (.ldc 72, 2) := by decide +kernel
theorem dX9_lay_55 : decode cX9_lay 55 = .ok (.ireturn, 1) := by decide +kernel
theorem dX9_lay_56 : decode cX9_lay 56 = .ok (.iload_n 2, 1) := by decide +kernel
theorem dX9_lay_57 : decode cX9_lay 57 = .ok (.iconst 2, 1) := by decide +kernel
theorem dX9_lay_58 : decode cX9_lay 58 = .ok (.if_icmp .ne 16, 3) := by decide +kernel
theorem dX9_lay_61 : decode cX9_lay 61 = .ok (.aload_n 0, 1) := by decide +kernel
theorem dX9_lay_62 : decode cX9_lay 62 = .ok (.getfield 19, 3) := by decide +kernel
theorem dX9_lay_65 : decode cX9_lay 65 = .ok (.iload_n 3, 1) := by decide +kernel
theorem dX9_lay_66 : decode cX9_lay 66 = .ok (.iaload, 1) := by decide +kernel
theorem dX9_lay_67 : decode cX9_lay 67 = .ok (.ifCond .ge 7, 3) := by decide +kernel
theorem dX9_lay_70 : decode cX9_lay 70 = .ok (.ldc_w 317, 3) := by decide +kernel
theorem dX9_lay_73 : decode cX9_lay 73 = .ok (.ireturn, 1) := by decide +kernel
theorem dX9_lay_74 : decode cX9_lay 74 = .ok (.aload_n 0, 1) := by decide +kernel
theorem dX9_lay_75 : decode cX9_lay 75 = .ok (.getfield 28, 3) := by decide +kernel
theorem dX9_lay_78 : decode cX9_lay 78 = .ok (.iload_n 1, 1) := by decide +kernel
theorem dX9_lay_79 : decode cX9_lay 79 = .ok (.iaload, 1) := by decide +kernel
theorem dX9_lay_80 : decode cX9_lay 80 = .ok (.istore 5, 2) := by decide +kernel
theorem dX9_lay_82 : decode cX9_lay 82 = .ok (.aload_n 0, 1) := by decide +kernel
theorem dX9_lay_83 : decode cX9_lay 83 = .ok (.getfield 28, 3) := by decide +kernel
theorem dX9_lay_86 : decode cX9_lay 86 = .ok (.iload_n 1, 1) := by decide +kernel
theorem dX9_lay_87 : decode cX9_lay 87 = .ok (.iload_n 2, 1) := by decide +kernel
theorem dX9_lay_88 : decode cX9_lay 88 = .ok (.iastore, 1) := by decide +kernel
theorem dX9_lay_89 : decode cX9_lay 89 = .ok (.aload_n 0, 1) := by decide +kernel
theorem dX9_lay_90 : decode cX9_lay 90 = .ok (.getfield 31, 3) := by decide +kernel
theorem dX9_lay_93 : decode cX9_lay 93 = .ok (.iload_n 1, 1) := by decide +kernel
theorem dX9_lay_94 : decode cX9_lay 94 = .ok (.iload_n 2, 1) := by decide +kernel
theorem dX9_lay_95 : decode cX9_lay 95 = .ok (.iconst 1, 1) := by decide +kernel
theorem dX9_lay_96 : decode cX9_lay 96 = .ok (.if_icmp .ne 12, 3) := by decide +kernel
theorem dX9_lay_99 : decode cX9_lay 99 = .ok (.aload_n 0, 1) := by decide +kernel
theorem dX9_lay_100 : decode cX9_lay 100 = .ok (.iload_n 3, 1) := by decide +kernel
theorem dX9_lay_101 : decode cX9_lay 101 = .ok (.iconst 0, 1) := by decide +kernel
theorem dX9_lay_102 : decode cX9_lay 102 = .ok (.invokevirtual 91, 3) := by decide +kernel
theorem dX9_lay_105 : decode cX9_lay 105 = .ok (.goto 4, 3) := by decide +kernel
theorem dX9_lay_108 : decode cX9_lay 108 = .ok (.iload_n 3, 1) := by decide +kernel
theorem dX9_lay_109 : decode cX9_lay 109 = .ok (.iastore, 1) := by decide +kernel
theorem dX9_lay_110 : decode cX9_lay 110 = .ok (.aload_n 0, 1) := by decide +kernel
theorem dX9_lay_111 : decode cX9_lay 111 = .ok (.getfield 34, 3) := by decide +kernel
theorem dX9_lay_114 : decode cX9_lay 114 = .ok (.iload_n 1, 1) := by decide +kernel
theorem dX9_lay_115 : decode cX9_lay 115 = .ok (.iload_n 2, 1) := by decide +kernel
theorem dX9_lay_116 : decode cX9_lay 116 = .ok (.iconst 1, 1) := by decide +kernel
theorem dX9_lay_117 : decode cX9_lay 117 = .ok (.if_icmp .ne 11, 3) := by decide +kernel
theorem dX9_lay_120 : decode cX9_lay 120 = .ok (.aload_n 0, 1) := by decide +kernel
theorem dX9_lay_121 : decode cX9_lay 121 = .ok (.iload_n 3, 1) := by decide +kernel
theorem dX9_lay_122 : decode cX9_lay 122 = .ok (.invokevirtual 135, 3) := by decide +kernel
theorem dX9_lay_125 : decode cX9_lay 125 = .ok (.goto 4, 3) := by decide +kernel
theorem dX9_lay_128 : decode cX9_lay 128 = .ok (.iconst 0, 1) := by decide +kernel
theorem dX9_lay_129 : decode cX9_lay 129 = .ok (.iastore, 1) := by decide +kernel
theorem dX9_lay_130 : decode cX9_lay 130 = .ok (.iload_n 2, 1) := by decide +kernel
theorem dX9_lay_131 : decode cX9_lay 131 = .ok (.iconst 2, 1) := by decide +kernel
theorem dX9_lay_132 : decode cX9_lay 132 = .ok (.if_icmp .ne 55, 3) := by decide +kernel
theorem dX9_lay_135 : decode cX9_lay 135 = .ok (.aload_n 0, 1) := by decide +kernel
theorem dX9_lay_136 : decode cX9_lay 136 = .ok (.getfield 37, 3) := by decide +kernel
theorem dX9_lay_139 : decode cX9_lay 139 = .ok (.iload_n 1, 1) := by decide +kernel
theorem dX9_lay_140 : decode cX9_lay 140 = .ok (.aload_n 0, 1) := by decide +kernel
theorem dX9_lay_141 : decode cX9_lay 141 = .ok (.getfield 22, 3) := by decide +kernel
theorem dX9_lay_144 : decode cX9_lay 144 = .ok (.iload_n 3, 1) := by decide +kernel
theorem dX9_lay_145 : decode cX9_lay 145 = .ok (.iaload, 1) := by decide +kernel
theorem dX9_lay_146 : decode cX9_lay 146 = .ok (.iastore, 1) := by decide +kernel
theorem dX9_lay_147 : decode cX9_lay 147 = .ok (.iconst 0, 1) := by decide +kernel
theorem dX9_lay_148 : decode cX9_lay 148 = .ok (.istore 6, 2) := by decide +kernel
theorem dX9_lay_150 : decode cX9_lay 150 = .ok (.iload 6, 2) := by decide +kernel
theorem dX9_lay_152 : decode cX9_lay 152 = .ok (.bipush 24, 2) := by decide +kernel
theorem dX9_lay_154 : decode cX9_lay 154 = .ok (.if_icmp .ge 33, 3) := by decide +kernel
theorem dX9_lay_157 : decode cX9_lay 157 = .ok (.aload_n 0, 1) := by decide +kernel
theorem dX9_lay_158 : decode cX9_lay 158 = .ok (.getfield 40, 3) := by decide +kernel
theorem dX9_lay_161 : decode cX9_lay 161 = .ok (.bipush 24, 2) := by decide +kernel
theorem dX9_lay_163 : decode cX9_lay 163 = .ok (.iload_n 1, 1) := by decide +kernel
theorem dX9_lay_164 : decode cX9_lay 164 = .ok (.imul, 1) := by decide +kernel
theorem dX9_lay_165 : decode cX9_lay 165 = .ok (.iload 6, 2) := by decide +kernel
theorem dX9_lay_167 : decode cX9_lay 167 = .ok (.iadd, 1) := by decide +kernel
theorem dX9_lay_168 : decode cX9_lay 168 = .ok (.aload_n 0, 1) := by decide +kernel
theorem dX9_lay_169 : decode cX9_lay 169 = .ok (.getfield 25, 3) := by decide +kernel
theorem dX9_lay_172 : decode cX9_lay 172 = .ok (.bipush 24, 2) := by decide +kernel
theorem dX9_lay_174 : decode cX9_lay 174 = .ok (.iload_n 3, 1) := by decide +kernel
theorem dX9_lay_175 : decode cX9_lay 175 = .ok (.imul, 1) := by decide +kernel
theorem dX9_lay_176 : decode cX9_lay 176 = .ok (.iload 6, 2) := by decide +kernel
theorem dX9_lay_178 : decode cX9_lay 178 = .ok (.iadd, 1) := by decide +kernel
theorem dX9_lay_179 : decode cX9_lay 179 = .ok (.iaload, 1) := by decide +kernel
theorem dX9_lay_180 : decode cX9_lay 180 = .ok (.iastore, 1) := by decide +kernel
theorem dX9_lay_181 : decode cX9_lay 181 = .ok (.iinc 6 1, 3) := by decide +kernel
theorem dX9_lay_184 : decode cX9_lay 184 = .ok (.goto (-34), 3) := by decide +kernel
theorem dX9_lay_187 : decode cX9_lay 187 = .ok (.iload 5, 2) := by decide +kernel
theorem dX9_lay_189 : decode cX9_lay 189 = .ok (.ireturn, 1) := by decide +kernel
theorem dX9_ask_0 : decode cX9_ask 0 = .ok (.iload_n 1, 1) := by decide +kernel
theorem dX9_ask_1 : decode cX9_ask 1 = .ok (.invokestatic 325, 3) := by decide +kernel
theorem dX9_ask_4 : decode cX9_ask 4 = .ok (.ifCond .eq 15, 3) := by decide +kernel
theorem dX9_ask_7 : decode cX9_ask 7 = .ok (.iload_n 2, 1) := by decide +kernel
theorem dX9_ask_8 : decode cX9_ask 8 = .ok (.i2l, 1) := by decide +kernel
theorem dX9_ask_9 : decode cX9_ask 9 = .ok (.lconst 0, 1) := by decide +kernel
theorem dX9_ask_10 : decode cX9_ask 10 = .ok (.ldc2_w 122, 3) := by decide +kernel
theorem dX9_ask_13 : decode cX9_ask 13 = .ok (.invokestatic 65, 3) := by decide +kernel
theorem dX9_ask_16 : decode cX9_ask 16 = .ok (.ifCond .ne 6, 3) := by decide +kernel
theorem dX9_ask_19 : decode cX9_ask 19 = .ok (.ldc 72, 2) := by decide +kernel
theorem dX9_ask_21 : decode cX9_ask 21 = .ok (.ireturn, 1) := by decide +kernel
theorem dX9_ask_22 : decode cX9_ask 22 = .ok (.aload_n 0, 1) := by decide +kernel
theorem dX9_ask_23 : decode cX9_ask 23 = .ok (.getfield 28, 3) := by decide +kernel
theorem dX9_ask_26 : decode cX9_ask 26 = .ok (.iload_n 1, 1) := by decide +kernel
theorem dX9_ask_27 : decode cX9_ask 27 = .ok (.iaload, 1) := by decide +kernel
theorem dX9_ask_28 : decode cX9_ask 28 = .ok (.ifCond .ne 7, 3) := by decide +kernel
theorem dX9_ask_31 : decode cX9_ask 31 = .ok (.ldc_w 317, 3) := by decide +kernel
theorem dX9_ask_34 : decode cX9_ask 34 = .ok (.ireturn, 1) := by decide +kernel
theorem dX9_ask_35 : decode cX9_ask 35 = .ok (.aload_n 0, 1) := by decide +kernel
theorem dX9_ask_36 : decode cX9_ask 36 = .ok (.getfield 28, 3) := by decide +kernel
theorem dX9_ask_39 : decode cX9_ask 39 = .ok (.iload_n 1, 1) := by decide +kernel
theorem dX9_ask_40 : decode cX9_ask 40 = .ok (.iaload, 1) := by decide +kernel
theorem dX9_ask_41 : decode cX9_ask 41 = .ok (.iconst 1, 1) := by decide +kernel
theorem dX9_ask_42 : decode cX9_ask 42 = .ok (.if_icmp .ne 25, 3) := by decide +kernel
theorem dX9_ask_45 : decode cX9_ask 45 = .ok (.aload_n 0, 1) := by decide +kernel
theorem dX9_ask_46 : decode cX9_ask 46 = .ok (.getfield 31, 3) := by decide +kernel
theorem dX9_ask_49 : decode cX9_ask 49 = .ok (.iload_n 1, 1) := by decide +kernel
theorem dX9_ask_50 : decode cX9_ask 50 = .ok (.iaload, 1) := by decide +kernel
theorem dX9_ask_51 : decode cX9_ask 51 = .ok (.iload_n 2, 1) := by decide +kernel
theorem dX9_ask_52 : decode cX9_ask 52 = .ok (.invokestatic 138, 3) := by decide +kernel
theorem dX9_ask_55 : decode cX9_ask 55 = .ok (.ifCond .eq 12, 3) := by decide +kernel
theorem dX9_ask_58 : decode cX9_ask 58 = .ok (.aload_n 0, 1) := by decide +kernel
theorem dX9_ask_59 : decode cX9_ask 59 = .ok (.getfield 34, 3) := by decide +kernel
theorem dX9_ask_62 : decode cX9_ask 62 = .ok (.iload_n 1, 1) := by decide +kernel
theorem dX9_ask_63 : decode cX9_ask 63 = .ok (.iaload, 1) := by decide +kernel
theorem dX9_ask_64 : decode cX9_ask 64 = .ok (.goto 5, 3) := by decide +kernel
theorem dX9_ask_67 : decode cX9_ask 67 = .ok (.ldc 142, 2) := by decide +kernel
theorem dX9_ask_69 : decode cX9_ask 69 = .ok (.ireturn, 1) := by decide +kernel
theorem dX9_item_0 : decode cX9_item 0 = .ok (.iload_n 1, 1) := by decide +kernel
theorem dX9_item_1 : decode cX9_item 1 = .ok (.invokestatic 325, 3) := by decide +kernel
theorem dX9_item_4 : decode cX9_item 4 = .ok (.ifCond .ne 6, 3) := by decide +kernel
theorem dX9_item_7 : decode cX9_item 7 = .ok (.ldc 72, 2) := by decide +kernel
theorem dX9_item_9 : decode cX9_item 9 = .ok (.ireturn, 1) := by decide +kernel
theorem dX9_item_10 : decode cX9_item 10 = .ok (.aload_n 0, 1) := by decide +kernel
theorem dX9_item_11 : decode cX9_item 11 = .ok (.getfield 28, 3) := by decide +kernel
theorem dX9_item_14 : decode cX9_item 14 = .ok (.iload_n 1, 1) := by decide +kernel
theorem dX9_item_15 : decode cX9_item 15 = .ok (.iaload, 1) := by decide +kernel
theorem dX9_item_16 : decode cX9_item 16 = .ok (.iconst 2, 1) := by decide +kernel
theorem dX9_item_17 : decode cX9_item 17 = .ok (.if_icmp .eq 21, 3) := by decide +kernel
theorem dX9_item_20 : decode cX9_item 20 = .ok (.aload_n 0, 1) := by decide +kernel
theorem dX9_item_21 : decode cX9_item 21 = .ok (.getfield 28, 3) := by decide +kernel
theorem dX9_item_24 : decode cX9_item 24 = .ok (.iload_n 1, 1) := by decide +kernel
theorem dX9_item_25 : decode cX9_item 25 = .ok (.iaload, 1) := by decide +kernel
theorem dX9_item_26 : decode cX9_item 26 = .ok (.ifCond .ne 9, 3) := by decide +kernel
theorem dX9_item_29 : decode cX9_item 29 = .ok (.ldc_w 317, 3) := by decide +kernel
theorem dX9_item_32 : decode cX9_item 32 = .ok (.goto 5, 3) := by decide +kernel
theorem dX9_item_35 : decode cX9_item 35 = .ok (.ldc 142, 2) := by decide +kernel
theorem dX9_item_37 : decode cX9_item 37 = .ok (.ireturn, 1) := by decide +kernel
theorem dX9_item_38 : decode cX9_item 38 = .ok (.iload_n 2, 1) := by decide +kernel
theorem dX9_item_39 : decode cX9_item 39 = .ok (.i2l, 1) := by decide +kernel
theorem dX9_item_40 : decode cX9_item 40 = .ok (.lconst 0, 1) := by decide +kernel
theorem dX9_item_41 : decode cX9_item 41 = .ok (.aload_n 0, 1) := by decide +kernel
theorem dX9_item_42 : decode cX9_item 42 = .ok (.getfield 37, 3) := by decide +kernel
theorem dX9_item_45 : decode cX9_item 45 = .ok (.iload_n 1, 1) := by decide +kernel
theorem dX9_item_46 : decode cX9_item 46 = .ok (.iaload, 1) := by decide +kernel
theorem dX9_item_47 : decode cX9_item 47 = .ok (.iconst 1, 1) := by decide +kernel
theorem dX9_item_48 : decode cX9_item 48 = .ok (.isub, 1) := by decide +kernel
theorem dX9_item_49 : decode cX9_item 49 = .ok (.i2l, 1) := by decide +kernel
theorem dX9_item_50 : decode cX9_item 50 = .ok (.invokestatic 65, 3) := by decide +kernel
theorem dX9_item_53 : decode cX9_item 53 = .ok (.ifCond .ne 7, 3) := by decide +kernel
theorem dX9_item_56 : decode cX9_item 56 = .ok (.ldc_w 318, 3) := by decide +kernel
theorem dX9_item_59 : decode cX9_item 59 = .ok (.ireturn, 1) := by decide +kernel
theorem dX9_item_60 : decode cX9_item 60 = .ok (.aload_n 0, 1) := by decide +kernel
theorem dX9_item_61 : decode cX9_item 61 = .ok (.getfield 40, 3) := by decide +kernel
theorem dX9_item_64 : decode cX9_item 64 = .ok (.bipush 24, 2) := by decide +kernel
theorem dX9_item_66 : decode cX9_item 66 = .ok (.iload_n 1, 1) := by decide +kernel
theorem dX9_item_67 : decode cX9_item 67 = .ok (.imul, 1) := by decide +kernel
theorem dX9_item_68 : decode cX9_item 68 = .ok (.iload_n 2, 1) := by decide +kernel
theorem dX9_item_69 : decode cX9_item 69 = .ok (.iadd, 1) := by decide +kernel
theorem dX9_item_70 : decode cX9_item 70 = .ok (.iaload, 1) := by decide +kernel
theorem dX9_item_71 : decode cX9_item 71 = .ok (.istore_n 3, 1) := by decide +kernel
theorem dX9_item_72 : decode cX9_item 72 = .ok (.iload_n 3, 1) := by decide +kernel
theorem dX9_item_73 : decode cX9_item 73 = .ok (.ldc 64, 2) := by decide +kernel
theorem dX9_item_75 : decode cX9_item 75 = .ok (.if_icmp .ne 8, 3) := by decide +kernel
theorem dX9_item_78 : decode cX9_item 78 = .ok (.ldc 142, 2) := by decide +kernel
theorem dX9_item_80 : decode cX9_item 80 = .ok (.goto 4, 3) := by decide +kernel
theorem dX9_item_83 : decode cX9_item 83 = .ok (.iload_n 3, 1) := by decide +kernel
theorem dX9_item_84 : decode cX9_item 84 = .ok (.ireturn, 1) := by decide +kernel
theorem dX9_rest_0 : decode cX9_rest 0 = .ok (.iload_n 1, 1) := by decide +kernel
theorem dX9_rest_1 : decode cX9_rest 1 = .ok (.invokestatic 325, 3) := by decide +kernel
theorem dX9_rest_4 : decode cX9_rest 4 = .ok (.ifCond .ne 6, 3) := by decide +kernel
theorem dX9_rest_7 : decode cX9_rest 7 = .ok (.ldc 72, 2) := by decide +kernel
theorem dX9_rest_9 : decode cX9_rest 9 = .ok (.ireturn, 1) := by decide +kernel
theorem dX9_rest_10 : decode cX9_rest 10 = .ok (.aload_n 0, 1) := by decide +kernel
theorem dX9_rest_11 : decode cX9_rest 11 = .ok (.getfield 28, 3) := by decide +kernel
theorem dX9_rest_14 : decode cX9_rest 14 = .ok (.iload_n 1, 1) := by decide +kernel
theorem dX9_rest_15 : decode cX9_rest 15 = .ok (.iaload, 1) := by decide +kernel
theorem dX9_rest_16 : decode cX9_rest 16 = .ok (.iconst 3, 1) := by decide +kernel
theorem dX9_rest_17 : decode cX9_rest 17 = .ok (.if_icmp .eq 21, 3) := by decide +kernel
theorem dX9_rest_20 : decode cX9_rest 20 = .ok (.aload_n 0, 1) := by decide +kernel
theorem dX9_rest_21 : decode cX9_rest 21 = .ok (.getfield 28, 3) := by decide +kernel
theorem dX9_rest_24 : decode cX9_rest 24 = .ok (.iload_n 1, 1) := by decide +kernel
theorem dX9_rest_25 : decode cX9_rest 25 = .ok (.iaload, 1) := by decide +kernel
theorem dX9_rest_26 : decode cX9_rest 26 = .ok (.ifCond .ne 9, 3) := by decide +kernel
theorem dX9_rest_29 : decode cX9_rest 29 = .ok (.ldc_w 317, 3) := by decide +kernel
theorem dX9_rest_32 : decode cX9_rest 32 = .ok (.goto 5, 3) := by decide +kernel
theorem dX9_rest_35 : decode cX9_rest 35 = .ok (.ldc 142, 2) := by decide +kernel
theorem dX9_rest_37 : decode cX9_rest 37 = .ok (.ireturn, 1) := by decide +kernel
theorem dX9_rest_38 : decode cX9_rest 38 = .ok (.iload_n 2, 1) := by decide +kernel
theorem dX9_rest_39 : decode cX9_rest 39 = .ok (.ifCond .ne 9, 3) := by decide +kernel
theorem dX9_rest_42 : decode cX9_rest 42 = .ok (.ldc_w 328, 3) := by decide +kernel
theorem dX9_rest_45 : decode cX9_rest 45 = .ok (.goto 11, 3) := by decide +kernel
theorem dX9_rest_48 : decode cX9_rest 48 = .ok (.aload_n 0, 1) := by decide +kernel
theorem dX9_rest_49 : decode cX9_rest 49 = .ok (.getfield 31, 3) := by decide +kernel
theorem dX9_rest_52 : decode cX9_rest 52 = .ok (.iload_n 1, 1) := by decide +kernel
theorem dX9_rest_53 : decode cX9_rest 53 = .ok (.iaload, 1) := by decide +kernel
theorem dX9_rest_54 : decode cX9_rest 54 = .ok (.iload_n 2, 1) := by decide +kernel
theorem dX9_rest_55 : decode cX9_rest 55 = .ok (.irem, 1) := by decide +kernel
theorem dX9_rest_56 : decode cX9_rest 56 = .ok (.ireturn, 1) := by decide +kernel
theorem dX9_tell_0 : decode cX9_tell 0 = .ok (.aload_n 0, 1) := by decide +kernel
theorem dX9_tell_1 : decode cX9_tell 1 = .ok (.getfield 329, 3) := by decide +kernel
theorem dX9_tell_4 : decode cX9_tell 4 = .ok (.bipush 60, 2) := by decide +kernel
theorem dX9_tell_6 : decode cX9_tell 6 = .ok (.if_icmp .ne 6, 3) := by decide +kernel
theorem dX9_tell_9 : decode cX9_tell 9 = .ok (.ldc 73, 2) := by decide +kernel
theorem dX9_tell_11 : decode cX9_tell 11 = .ok (.ireturn, 1) := by decide +kernel
theorem dX9_tell_12 : decode cX9_tell 12 = .ok (.aload_n 0, 1) := by decide +kernel
theorem dX9_tell_13 : decode cX9_tell 13 = .ok (.getfield 58, 3) := by decide +kernel
theorem dX9_tell_16 : decode cX9_tell 16 = .ok (.aload_n 0, 1) := by decide +kernel
theorem dX9_tell_17 : decode cX9_tell 17 = .ok (.getfield 329, 3) := by decide +kernel
theorem dX9_tell_20 : decode cX9_tell 20 = .ok (.iload_n 1, 1) := by decide +kernel
theorem dX9_tell_21 : decode cX9_tell 21 = .ok (.iastore, 1) := by decide +kernel
theorem dX9_tell_22 : decode cX9_tell 22 = .ok (.aload_n 0, 1) := by decide +kernel
theorem dX9_tell_23 : decode cX9_tell 23 = .ok (.dup, 1) := by decide +kernel
theorem dX9_tell_24 : decode cX9_tell 24 = .ok (.getfield 329, 3) := by decide +kernel
theorem dX9_tell_27 : decode cX9_tell 27 = .ok (.iconst 1, 1) := by decide +kernel
theorem dX9_tell_28 : decode cX9_tell 28 = .ok (.iadd, 1) := by decide +kernel
theorem dX9_tell_29 : decode cX9_tell 29 = .ok (.putfield 329, 3) := by decide +kernel
theorem dX9_tell_32 : decode cX9_tell 32 = .ok (.aload_n 0, 1) := by decide +kernel
theorem dX9_tell_33 : decode cX9_tell 33 = .ok (.getfield 329, 3) := by decide +kernel
theorem dX9_tell_36 : decode cX9_tell 36 = .ok (.ireturn, 1) := by decide +kernel
theorem dX9_setAside_0 : decode cX9_setAside 0 = .ok (.iconst 0, 1) := by decide +kernel
theorem dX9_setAside_1 : decode cX9_setAside 1 = .ok (.istore_n 3, 1) := by decide +kernel
theorem dX9_setAside_2 : decode cX9_setAside 2 = .ok (.iload_n 3, 1) := by decide +kernel
theorem dX9_setAside_3 : decode cX9_setAside 3 = .ok (.sipush 2888, 3) := by decide +kernel
theorem dX9_setAside_6 : decode cX9_setAside 6 = .ok (.if_icmp .ge 15, 3) := by decide +kernel
theorem dX9_setAside_9 : decode cX9_setAside 9 = .ok (.aload_n 2, 1) := by decide +kernel
theorem dX9_setAside_10 : decode cX9_setAside 10 = .ok (.iload_n 3, 1) := by decide +kernel
theorem dX9_setAside_11 : decode cX9_setAside 11 = .ok (.aload_n 1, 1) := by decide +kernel
theorem dX9_setAside_12 : decode cX9_setAside 12 = .ok (.iload_n 3, 1) := by decide +kernel
theorem dX9_setAside_13 : decode cX9_setAside 13 = .ok (.iaload, 1) := by decide +kernel
theorem dX9_setAside_14 : decode cX9_setAside 14 = .ok (.iastore, 1) := by decide +kernel
theorem dX9_setAside_15 : decode cX9_setAside 15 = .ok (.iinc 3 1, 3) := by decide +kernel
theorem dX9_setAside_18 : decode cX9_setAside 18 = .ok (.goto (-16), 3) := by decide +kernel
theorem dX9_setAside_21 : decode cX9_setAside 21 = .ok (.return_, 1) := by decide +kernel
theorem dX9_check_0 : decode cX9_check 0 = .ok (.aload_n 0, 1) := by decide +kernel
theorem dX9_check_1 : decode cX9_check 1 = .ok (.getfield 329, 3) := by decide +kernel
theorem dX9_check_4 : decode cX9_check 4 = .ok (.istore_n 2, 1) := by decide +kernel
theorem dX9_check_5 : decode cX9_check 5 = .ok (.aload_n 0, 1) := by decide +kernel
theorem dX9_check_6 : decode cX9_check 6 = .ok (.iconst 0, 1) := by decide +kernel
theorem dX9_check_7 : decode cX9_check 7 = .ok (.putfield 329, 3) := by decide +kernel
theorem dX9_check_10 : decode cX9_check 10 = .ok (.iload_n 1, 1) := by decide +kernel
theorem dX9_check_11 : decode cX9_check 11 = .ok (.i2l, 1) := by decide +kernel
theorem dX9_check_12 : decode cX9_check 12 = .ok (.lconst 1, 1) := by decide +kernel
theorem dX9_check_13 : decode cX9_check 13 = .ok (.ldc2_w 332, 3) := by decide +kernel
theorem dX9_check_16 : decode cX9_check 16 = .ok (.invokestatic 65, 3) := by decide +kernel
theorem dX9_check_19 : decode cX9_check 19 = .ok (.ifCond .ne 6, 3) := by decide +kernel
theorem dX9_check_22 : decode cX9_check 22 = .ok (.ldc 72, 2) := by decide +kernel
theorem dX9_check_24 : decode cX9_check 24 = .ok (.ireturn, 1) := by decide +kernel
theorem dX9_check_25 : decode cX9_check 25 = .ok (.aload_n 0, 1) := by decide +kernel
theorem dX9_check_26 : decode cX9_check 26 = .ok (.getfield 334, 3) := by decide +kernel
theorem dX9_check_29 : decode cX9_check 29 = .ok (.ifCond .ne 7, 3) := by decide +kernel
theorem dX9_check_32 : decode cX9_check 32 = .ok (.ldc_w 328, 3) := by decide +kernel
theorem dX9_check_35 : decode cX9_check 35 = .ok (.ireturn, 1) := by decide +kernel
theorem dX9_check_36 : decode cX9_check 36 = .ok (.aload_n 0, 1) := by decide +kernel
theorem dX9_check_37 : decode cX9_check 37 = .ok (.aload_n 0, 1) := by decide +kernel
theorem dX9_check_38 : decode cX9_check 38 = .ok (.getfield 7, 3) := by decide +kernel
theorem dX9_check_41 : decode cX9_check 41 = .ok (.aload_n 0, 1) := by decide +kernel
theorem dX9_check_42 : decode cX9_check 42 = .ok (.getfield 16, 3) := by decide +kernel
theorem dX9_check_45 : decode cX9_check 45 = .ok (.invokevirtual 337, 3) := by decide +kernel
theorem dX9_check_48 : decode cX9_check 48 = .ok (.aload_n 0, 1) := by decide +kernel
theorem dX9_check_49 : decode cX9_check 49 = .ok (.aload_n 0, 1) := by decide +kernel
theorem dX9_check_50 : decode cX9_check 50 = .ok (.getfield 13, 3) := by decide +kernel
theorem dX9_check_53 : decode cX9_check 53 = .ok (.aload_n 0, 1) := by decide +kernel
theorem dX9_check_54 : decode cX9_check 54 = .ok (.getfield 7, 3) := by decide +kernel
theorem dX9_check_57 : decode cX9_check 57 = .ok (.invokevirtual 337, 3) := by decide +kernel
theorem dX9_check_60 : decode cX9_check 60 = .ok (.iconst 0, 1) := by decide +kernel
theorem dX9_check_61 : decode cX9_check 61 = .ok (.istore_n 3, 1) := by decide +kernel
theorem dX9_check_62 : decode cX9_check 62 = .ok (.iconst 0, 1) := by decide +kernel
theorem dX9_check_63 : decode cX9_check 63 = .ok (.istore 4, 2) := by decide +kernel
theorem dX9_check_65 : decode cX9_check 65 = .ok (.iload 4, 2) := by decide +kernel
theorem dX9_check_67 : decode cX9_check 67 = .ok (.iload_n 1, 1) := by decide +kernel
theorem dX9_check_68 : decode cX9_check 68 = .ok (.if_icmp .ge 76, 3) := by decide +kernel
theorem dX9_check_71 : decode cX9_check 71 = .ok (.aload_n 0, 1) := by decide +kernel
theorem dX9_check_72 : decode cX9_check 72 = .ok (.getfield 7, 3) := by decide +kernel
theorem dX9_check_75 : decode cX9_check 75 = .ok (.bipush 6, 2) := by decide +kernel
theorem dX9_check_77 : decode cX9_check 77 = .ok (.iaload, 1) := by decide +kernel
theorem dX9_check_78 : decode cX9_check 78 = .ok (.sipush 9999, 3) := by decide +kernel
theorem dX9_check_81 : decode cX9_check 81 = .ok (.if_icmp .ge 63, 3) := by decide +kernel
theorem dX9_check_84 : decode cX9_check 84 = .ok (.aload_n 0, 1) := by decide +kernel
theorem dX9_check_85 : decode cX9_check 85 = .ok (.invokevirtual 176, 3) := by decide +kernel
theorem dX9_check_88 : decode cX9_check 88 = .ok (.aload_n 0, 1) := by decide +kernel
theorem dX9_check_89 : decode cX9_check 89 = .ok (.getfield 61, 3) := by decide +kernel
theorem dX9_check_92 : decode cX9_check 92 = .ok (.iload_n 3, 1) := by decide +kernel
theorem dX9_check_93 : decode cX9_check 93 = .ok (.aload_n 0, 1) := by decide +kernel
theorem dX9_check_94 : decode cX9_check 94 = .ok (.getfield 161, 3) := by decide +kernel
theorem dX9_check_97 : decode cX9_check 97 = .ok (.ifCond .ge 8, 3) := by decide +kernel
theorem dX9_check_100 : decode cX9_check 100 = .ok (.bipush 99, 2) := by decide +kernel
theorem dX9_check_102 : decode cX9_check 102 = .ok (.goto 7, 3) := by decide +kernel
theorem dX9_check_105 : decode cX9_check 105 = .ok (.aload_n 0, 1) := by decide +kernel
theorem dX9_check_106 : decode cX9_check 106 = .ok (.getfield 161, 3) := by decide +kernel
theorem dX9_check_109 : decode cX9_check 109 = .ok (.iastore, 1) := by decide +kernel
theorem dX9_check_110 : decode cX9_check 110 = .ok (.aload_n 0, 1) := by decide +kernel
theorem dX9_check_111 : decode cX9_check 111 = .ok (.getfield 61, 3) := by decide +kernel
theorem dX9_check_114 : decode cX9_check 114 = .ok (.iload_n 3, 1) := by decide +kernel
theorem dX9_check_115 : decode cX9_check 115 = .ok (.iconst 1, 1) := by decide +kernel
theorem dX9_check_116 : decode cX9_check 116 = .ok (.iadd, 1) := by decide +kernel
theorem dX9_check_117 : decode cX9_check 117 = .ok (.aload_n 0, 1) := by decide +kernel
theorem dX9_check_118 : decode cX9_check 118 = .ok (.getfield 7, 3) := by decide +kernel
theorem dX9_check_121 : decode cX9_check 121 = .ok (.bipush 8, 2) := by decide +kernel
theorem dX9_check_123 : decode cX9_check 123 = .ok (.iaload, 1) := by decide +kernel
theorem dX9_check_124 : decode cX9_check 124 = .ok (.bipush 100, 2) := by decide +kernel
theorem dX9_check_126 : decode cX9_check 126 = .ok (.aload_n 0, 1) := by decide +kernel
theorem dX9_check_127 : decode cX9_check 127 = .ok (.getfield 7, 3) := by decide +kernel
theorem dX9_check_130 : decode cX9_check 130 = .ok (.iconst 3, 1) := by decide +kernel
theorem dX9_check_131 : decode cX9_check 131 = .ok (.iaload, 1) := by decide +kernel
theorem dX9_check_132 : decode cX9_check 132 = .ok (.imul, 1) := by decide +kernel
theorem dX9_check_133 : decode cX9_check 133 = .ok (.iadd, 1) := by decide +kernel
theorem dX9_check_134 : decode cX9_check 134 = .ok (.iastore, 1) := by decide +kernel
theorem dX9_check_135 : decode cX9_check 135 = .ok (.iinc 3 2, 3) := by decide +kernel
theorem dX9_check_138 : decode cX9_check 138 = .ok (.iinc 4 1, 3) := by decide +kernel
theorem dX9_check_141 : decode cX9_check 141 = .ok (.goto (-76), 3) := by decide +kernel
theorem dX9_check_144 : decode cX9_check 144 = .ok (.aload_n 0, 1) := by decide +kernel
theorem dX9_check_145 : decode cX9_check 145 = .ok (.aload_n 0, 1) := by decide +kernel
theorem dX9_check_146 : decode cX9_check 146 = .ok (.getfield 16, 3) := by decide +kernel
theorem dX9_check_149 : decode cX9_check 149 = .ok (.aload_n 0, 1) := by decide +kernel
theorem dX9_check_150 : decode cX9_check 150 = .ok (.getfield 7, 3) := by decide +kernel
theorem dX9_check_153 : decode cX9_check 153 = .ok (.invokevirtual 337, 3) := by decide +kernel
theorem dX9_check_156 : decode cX9_check 156 = .ok (.iconst 0, 1) := by decide +kernel
theorem dX9_check_157 : decode cX9_check 157 = .ok (.istore 4, 2) := by decide +kernel
theorem dX9_check_159 : decode cX9_check 159 = .ok (.iload 4, 2) := by decide +kernel
theorem dX9_check_161 : decode cX9_check 161 = .ok (.iload_n 2, 1) := by decide +kernel
theorem dX9_check_162 : decode cX9_check 162 = .ok (.if_icmp .ge 32, 3) := by decide +kernel
theorem dX9_check_165 : decode cX9_check 165 = .ok (.iload 4, 2) := by decide +kernel
theorem dX9_check_167 : decode cX9_check 167 = .ok (.iload_n 3, 1) := by decide +kernel
theorem dX9_check_168 : decode cX9_check 168 = .ok (.if_icmp .ge 26, 3) := by decide +kernel
theorem dX9_check_171 : decode cX9_check 171 = .ok (.aload_n 0, 1) := by decide +kernel
theorem dX9_check_172 : decode cX9_check 172 = .ok (.getfield 58, 3) := by decide +kernel
theorem dX9_check_175 : decode cX9_check 175 = .ok (.iload 4, 2) := by decide +kernel
theorem dX9_check_177 : decode cX9_check 177 = .ok (.iaload, 1) := by decide +kernel
theorem dX9_check_178 : decode cX9_check 178 = .ok (.aload_n 0, 1) := by decide +kernel
theorem dX9_check_179 : decode cX9_check 179 = .ok (.getfield 61, 3) := by decide +kernel
theorem dX9_check_182 : decode cX9_check 182 = .ok (.iload 4, 2) := by decide +kernel
theorem dX9_check_184 : decode cX9_check 184 = .ok (.iaload, 1) := by decide +kernel
theorem dX9_check_185 : decode cX9_check 185 = .ok (.if_icmp .ne 9, 3) := by decide +kernel
theorem dX9_check_188 : decode cX9_check 188 = .ok (.iinc 4 1, 3) := by decide +kernel
theorem dX9_check_191 : decode cX9_check 191 = .ok (.goto (-32), 3) := by decide +kernel
theorem dX9_check_194 : decode cX9_check 194 = .ok (.iload 4, 2) := by decide +kernel
theorem dX9_check_196 : decode cX9_check 196 = .ok (.iload_n 2, 1) := by decide +kernel
theorem dX9_check_197 : decode cX9_check 197 = .ok (.if_icmp .ne 13, 3) := by decide +kernel
theorem dX9_check_200 : decode cX9_check 200 = .ok (.iload 4, 2) := by decide +kernel
theorem dX9_check_202 : decode cX9_check 202 = .ok (.iload_n 3, 1) := by decide +kernel
theorem dX9_check_203 : decode cX9_check 203 = .ok (.if_icmp .ne 7, 3) := by decide +kernel
theorem dX9_check_206 : decode cX9_check 206 = .ok (.iconst 0, 1) := by decide +kernel
theorem dX9_check_207 : decode cX9_check 207 = .ok (.goto 7, 3) := by decide +kernel
theorem dX9_check_210 : decode cX9_check 210 = .ok (.iconst 1, 1) := by decide +kernel
theorem dX9_check_211 : decode cX9_check 211 = .ok (.iload 4, 2) := by decide +kernel
theorem dX9_check_213 : decode cX9_check 213 = .ok (.iadd, 1) := by decide +kernel
theorem dX9_check_214 : decode cX9_check 214 = .ok (.ireturn, 1) := by decide +kernel
theorem dX9_keep_0 : decode cX9_keep 0 = .ok (.aload_n 0, 1) := by decide +kernel
theorem dX9_keep_1 : decode cX9_keep 1 = .ok (.iconst 1, 1) := by decide +kernel
theorem dX9_keep_2 : decode cX9_keep 2 = .ok (.putfield 334, 3) := by decide +kernel
theorem dX9_keep_5 : decode cX9_keep 5 = .ok (.aload_n 0, 1) := by decide +kernel
theorem dX9_keep_6 : decode cX9_keep 6 = .ok (.aload_n 0, 1) := by decide +kernel
theorem dX9_keep_7 : decode cX9_keep 7 = .ok (.getfield 7, 3) := by decide +kernel
theorem dX9_keep_10 : decode cX9_keep 10 = .ok (.aload_n 0, 1) := by decide +kernel
theorem dX9_keep_11 : decode cX9_keep 11 = .ok (.getfield 13, 3) := by decide +kernel
theorem dX9_keep_14 : decode cX9_keep 14 = .ok (.invokevirtual 337, 3) := by decide +kernel
theorem dX9_keep_17 : decode cX9_keep 17 = .ok (.aload_n 0, 1) := by decide +kernel
theorem dX9_keep_18 : decode cX9_keep 18 = .ok (.getfield 7, 3) := by decide +kernel
theorem dX9_keep_21 : decode cX9_keep 21 = .ok (.iconst 0, 1) := by decide +kernel
theorem dX9_keep_22 : decode cX9_keep 22 = .ok (.iaload, 1) := by decide +kernel
theorem dX9_keep_23 : decode cX9_keep 23 = .ok (.ireturn, 1) := by decide +kernel
theorem dX9_back_0 : decode cX9_back 0 = .ok (.aload_n 0, 1) := by decide +kernel
theorem dX9_back_1 : decode cX9_back 1 = .ok (.getfield 334, 3) := by decide +kernel
theorem dX9_back_4 : decode cX9_back 4 = .ok (.ifCond .ne 7, 3) := by decide +kernel
theorem dX9_back_7 : decode cX9_back 7 = .ok (.ldc_w 328, 3) := by decide +kernel
theorem dX9_back_10 : decode cX9_back 10 = .ok (.ireturn, 1) := by decide +kernel
theorem dX9_back_11 : decode cX9_back 11 = .ok (.aload_n 0, 1) := by decide +kernel
theorem dX9_back_12 : decode cX9_back 12 = .ok (.aload_n 0, 1) := by decide +kernel
theorem dX9_back_13 : decode cX9_back 13 = .ok (.getfield 13, 3) := by decide +kernel
theorem dX9_back_16 : decode cX9_back 16 = .ok (.aload_n 0, 1) := by decide +kernel
theorem dX9_back_17 : decode cX9_back 17 = .ok (.getfield 7, 3) := by decide +kernel
theorem dX9_back_20 : decode cX9_back 20 = .ok (.invokevirtual 337, 3) := by decide +kernel
theorem dX9_back_23 : decode cX9_back 23 = .ok (.aload_n 0, 1) := by decide +kernel
theorem dX9_back_24 : decode cX9_back 24 = .ok (.getfield 7, 3) := by decide +kernel
theorem dX9_back_27 : decode cX9_back 27 = .ok (.iconst 0, 1) := by decide +kernel
theorem dX9_back_28 : decode cX9_back 28 = .ok (.iaload, 1) := by decide +kernel
theorem dX9_back_29 : decode cX9_back 29 = .ok (.ireturn, 1) := by decide +kernel
theorem dX9_awake_0 : decode cX9_awake 0 = .ok (.iconst 0, 1) := by decide +kernel
theorem dX9_awake_1 : decode cX9_awake 1 = .ok (.istore_n 1, 1) := by decide +kernel
theorem dX9_awake_2 : decode cX9_awake 2 = .ok (.iconst 0, 1) := by decide +kernel
theorem dX9_awake_3 : decode cX9_awake 3 = .ok (.istore_n 2, 1) := by decide +kernel
theorem dX9_awake_4 : decode cX9_awake 4 = .ok (.iload_n 2, 1) := by decide +kernel
theorem dX9_awake_5 : decode cX9_awake 5 = .ok (.aload_n 0, 1) := by decide +kernel
theorem dX9_awake_6 : decode cX9_awake 6 = .ok (.getfield 7, 3) := by decide +kernel
theorem dX9_awake_9 : decode cX9_awake 9 = .ok (.iconst 1, 1) := by decide +kernel
theorem dX9_awake_10 : decode cX9_awake 10 = .ok (.iaload, 1) := by decide +kernel
theorem dX9_awake_11 : decode cX9_awake 11 = .ok (.if_icmp .ge 18, 3) := by decide +kernel
theorem dX9_awake_14 : decode cX9_awake 14 = .ok (.iload_n 1, 1) := by decide +kernel
theorem dX9_awake_15 : decode cX9_awake 15 = .ok (.aload_n 0, 1) := by decide +kernel
theorem dX9_awake_16 : decode cX9_awake 16 = .ok (.iload_n 2, 1) := by decide +kernel
theorem dX9_awake_17 : decode cX9_awake 17 = .ok (.iconst 4, 1) := by decide +kernel
theorem dX9_awake_18 : decode cX9_awake 18 = .ok (.invokevirtual 91, 3) := by decide +kernel
theorem dX9_awake_21 : decode cX9_awake 21 = .ok (.iadd, 1) := by decide +kernel
theorem dX9_awake_22 : decode cX9_awake 22 = .ok (.istore_n 1, 1) := by decide +kernel
theorem dX9_awake_23 : decode cX9_awake 23 = .ok (.iinc 2 1, 3) := by decide +kernel
theorem dX9_awake_26 : decode cX9_awake 26 = .ok (.goto (-22), 3) := by decide +kernel
theorem dX9_awake_29 : decode cX9_awake 29 = .ok (.iload_n 1, 1) := by decide +kernel
theorem dX9_awake_30 : decode cX9_awake 30 = .ok (.ireturn, 1) := by decide +kernel
theorem dX9_count_0 : decode cX9_count 0 = .ok (.iload_n 1, 1) := by decide +kernel
theorem dX9_count_1 : decode cX9_count 1 = .ok (.tableswitch 141 0 11 #[63, 70, 77, 82, 89, 96, 103, 111, 116, 123, 128, 133], 63) := by decide +kernel
theorem dX9_count_64 : decode cX9_count 64 = .ok (.aload_n 0, 1) := by decide +kernel
theorem dX9_count_65 : decode cX9_count 65 = .ok (.getfield 7, 3) := by decide +kernel
theorem dX9_count_68 : decode cX9_count 68 = .ok (.iconst 0, 1) := by decide +kernel
theorem dX9_count_69 : decode cX9_count 69 = .ok (.iaload, 1) := by decide +kernel
theorem dX9_count_70 : decode cX9_count 70 = .ok (.ireturn, 1) := by decide +kernel
theorem dX9_count_71 : decode cX9_count 71 = .ok (.aload_n 0, 1) := by decide +kernel
theorem dX9_count_72 : decode cX9_count 72 = .ok (.getfield 7, 3) := by decide +kernel
theorem dX9_count_75 : decode cX9_count 75 = .ok (.iconst 1, 1) := by decide +kernel
theorem dX9_count_76 : decode cX9_count 76 = .ok (.iaload, 1) := by decide +kernel
theorem dX9_count_77 : decode cX9_count 77 = .ok (.ireturn, 1) := by decide +kernel
theorem dX9_count_78 : decode cX9_count 78 = .ok (.aload_n 0, 1) := by decide +kernel
theorem dX9_count_79 : decode cX9_count 79 = .ok (.invokevirtual 341, 3) := by decide +kernel
theorem dX9_count_82 : decode cX9_count 82 = .ok (.ireturn, 1) := by decide +kernel
theorem dX9_count_83 : decode cX9_count 83 = .ok (.aload_n 0, 1) := by decide +kernel
theorem dX9_count_84 : decode cX9_count 84 = .ok (.getfield 7, 3) := by decide +kernel
theorem dX9_count_87 : decode cX9_count 87 = .ok (.iconst 3, 1) := by decide +kernel
theorem dX9_count_88 : decode cX9_count 88 = .ok (.iaload, 1) := by decide +kernel
theorem dX9_count_89 : decode cX9_count 89 = .ok (.ireturn, 1) := by decide +kernel
theorem dX9_count_90 : decode cX9_count 90 = .ok (.aload_n 0, 1) := by decide +kernel
theorem dX9_count_91 : decode cX9_count 91 = .ok (.getfield 7, 3) := by decide +kernel
theorem dX9_count_94 : decode cX9_count 94 = .ok (.iconst 4, 1) := by decide +kernel
theorem dX9_count_95 : decode cX9_count 95 = .ok (.iaload, 1) := by decide +kernel
theorem dX9_count_96 : decode cX9_count 96 = .ok (.ireturn, 1) := by decide +kernel
theorem dX9_count_97 : decode cX9_count 97 = .ok (.aload_n 0, 1) := by decide +kernel
theorem dX9_count_98 : decode cX9_count 98 = .ok (.getfield 7, 3) := by decide +kernel
theorem dX9_count_101 : decode cX9_count 101 = .ok (.iconst 5, 1) := by decide +kernel
theorem dX9_count_102 : decode cX9_count 102 = .ok (.iaload, 1) := by decide +kernel
theorem dX9_count_103 : decode cX9_count 103 = .ok (.ireturn, 1) := by decide +kernel
theorem dX9_count_104 : decode cX9_count 104 = .ok (.aload_n 0, 1) := by decide +kernel
theorem dX9_count_105 : decode cX9_count 105 = .ok (.getfield 7, 3) := by decide +kernel
theorem dX9_count_108 : decode cX9_count 108 = .ok (.bipush 6, 2) := by decide +kernel
theorem dX9_count_110 : decode cX9_count 110 = .ok (.iaload, 1) := by decide +kernel
theorem dX9_count_111 : decode cX9_count 111 = .ok (.ireturn, 1) := by decide +kernel
theorem dX9_count_112 : decode cX9_count 112 = .ok (.aload_n 0, 1) := by decide +kernel
theorem dX9_count_113 : decode cX9_count 113 = .ok (.invokevirtual 191, 3) := by decide +kernel
theorem dX9_count_116 : decode cX9_count 116 = .ok (.ireturn, 1) := by decide +kernel
theorem dX9_count_117 : decode cX9_count 117 = .ok (.aload_n 0, 1) := by decide +kernel
theorem dX9_count_118 : decode cX9_count 118 = .ok (.getfield 7, 3) := by decide +kernel
theorem dX9_count_121 : decode cX9_count 121 = .ok (.iconst 2, 1) := by decide +kernel
theorem dX9_count_122 : decode cX9_count 122 = .ok (.iaload, 1) := by decide +kernel
theorem dX9_count_123 : decode cX9_count 123 = .ok (.ireturn, 1) := by decide +kernel
theorem dX9_count_124 : decode cX9_count 124 = .ok (.aload_n 0, 1) := by decide +kernel
theorem dX9_count_125 : decode cX9_count 125 = .ok (.getfield 329, 3) := by decide +kernel
theorem dX9_count_128 : decode cX9_count 128 = .ok (.ireturn, 1) := by decide +kernel
theorem dX9_count_129 : decode cX9_count 129 = .ok (.aload_n 0, 1) := by decide +kernel
theorem dX9_count_130 : decode cX9_count 130 = .ok (.getfield 209, 3) := by decide +kernel
theorem dX9_count_133 : decode cX9_count 133 = .ok (.ireturn, 1) := by decide +kernel
theorem dX9_count_134 : decode cX9_count 134 = .ok (.aload_n 0, 1) := by decide +kernel
theorem dX9_count_135 : decode cX9_count 135 = .ok (.getfield 7, 3) := by decide +kernel
theorem dX9_count_138 : decode cX9_count 138 = .ok (.bipush 10, 2) := by decide +kernel
theorem dX9_count_140 : decode cX9_count 140 = .ok (.iaload, 1) := by decide +kernel
theorem dX9_count_141 : decode cX9_count 141 = .ok (.ireturn, 1) := by decide +kernel
theorem dX9_count_142 : decode cX9_count 142 = .ok (.ldc 72, 2) := by decide +kernel
theorem dX9_count_144 : decode cX9_count 144 = .ok (.ireturn, 1) := by decide +kernel
end
section
theorem dL_law_0 : decode cL_law 0 = .ok (.new 7, 3) := by decide +kernel
theorem dL_law_3 : decode cL_law 3 = .ok (.dup, 1) := by decide +kernel
theorem dL_law_4 : decode cL_law 4 = .ok (.invokespecial 9, 3) := by decide +kernel
theorem dL_law_7 : decode cL_law 7 = .ok (.astore_n 1, 1) := by decide +kernel
theorem dL_law_8 : decode cL_law 8 = .ok (.new 10, 3) := by decide +kernel
theorem dL_law_11 : decode cL_law 11 = .ok (.dup, 1) := by decide +kernel
theorem dL_law_12 : decode cL_law 12 = .ok (.invokespecial 12, 3) := by decide +kernel
theorem dL_law_15 : decode cL_law 15 = .ok (.astore_n 2, 1) := by decide +kernel
theorem dL_law_16 : decode cL_law 16 = .ok (.iconst 0, 1) := by decide +kernel
theorem dL_law_17 : decode cL_law 17 = .ok (.istore_n 3, 1) := by decide +kernel
theorem dL_law_18 : decode cL_law 18 = .ok (.iload_n 3, 1) := by decide +kernel
theorem dL_law_19 : decode cL_law 19 = .ok (.aload_n 0, 1) := by decide +kernel
theorem dL_law_20 : decode cL_law 20 = .ok (.arraylength, 1) := by decide +kernel
theorem dL_law_21 : decode cL_law 21 = .ok (.bipush 6, 2) := by decide +kernel
theorem dL_law_23 : decode cL_law 23 = .ok (.isub, 1) := by decide +kernel
theorem dL_law_24 : decode cL_law 24 = .ok (.if_icmp .gt 1427, 3) := by decide +kernel
theorem dL_law_27 : decode cL_law 27 = .ok (.aload_n 0, 1) := by decide +kernel
theorem dL_law_28 : decode cL_law 28 = .ok (.iload_n 3, 1) := by decide +kernel
theorem dL_law_29 : decode cL_law 29 = .ok (.iaload, 1) := by decide +kernel
theorem dL_law_30 : decode cL_law 30 = .ok (.bipush 63, 2) := by decide +kernel
theorem dL_law_32 : decode cL_law 32 = .ok (.iand, 1) := by decide +kernel
theorem dL_law_33 : decode cL_law 33 = .ok (.tableswitch 1412 0 40 #[179, 202, 235, 278, 311, 344, 387, 420, 453, 486, 529, 552, 575, 598, 621, 654, 667, 680, 703, 736, 769, 802, 845, 888, 911, 924, 957, 980, 1023, 1066, 1089, 1112, 1175, 1218, 1251, 1284, 1317, 1340, 1363, 1376, 1389], 179) := by decide +kernel
theorem dL_law_212 : decode cL_law 212 = .ok (.aload_n 1, 1) := by decide +kernel
theorem dL_law_213 : decode cL_law 213 = .ok (.aload_n 0, 1) := by decide +kernel
theorem dL_law_214 : decode cL_law 214 = .ok (.iload_n 3, 1) := by decide +kernel
theorem dL_law_215 : decode cL_law 215 = .ok (.iconst 1, 1) := by decide +kernel
theorem dL_law_216 : decode cL_law 216 = .ok (.iadd, 1) := by decide +kernel
theorem dL_law_217 : decode cL_law 217 = .ok (.iaload, 1) := by decide +kernel
theorem dL_law_218 : decode cL_law 218 = .ok (.invokevirtual 13, 3) := by decide +kernel
theorem dL_law_221 : decode cL_law 221 = .ok (.aload_n 2, 1) := by decide +kernel
theorem dL_law_222 : decode cL_law 222 = .ok (.aload_n 0, 1) := by decide +kernel
theorem dL_law_223 : decode cL_law 223 = .ok (.iload_n 3, 1) := by decide +kernel
theorem dL_law_224 : decode cL_law 224 = .ok (.iconst 1, 1) := by decide +kernel
theorem dL_law_225 : decode cL_law 225 = .ok (.iadd, 1) := by decide +kernel
theorem dL_law_226 : decode cL_law 226 = .ok (.iaload, 1) := by decide +kernel
theorem dL_law_227 : decode cL_law 227 = .ok (.invokevirtual 17, 3) := by decide +kernel
theorem dL_law_230 : decode cL_law 230 = .ok (.if_icmp .eq 1215, 3) := by decide +kernel
theorem dL_law_233 : decode cL_law 233 = .ok (.iconst 0, 1) := by decide +kernel
theorem dL_law_234 : decode cL_law 234 = .ok (.ireturn, 1) := by decide +kernel
theorem dL_law_235 : decode cL_law 235 = .ok (.aload_n 1, 1) := by decide +kernel
theorem dL_law_236 : decode cL_law 236 = .ok (.aload_n 0, 1) := by decide +kernel
theorem dL_law_237 : decode cL_law 237 = .ok (.iload_n 3, 1) := by decide +kernel
theorem dL_law_238 : decode cL_law 238 = .ok (.iconst 1, 1) := by decide +kernel
theorem dL_law_239 : decode cL_law 239 = .ok (.iadd, 1) := by decide +kernel
theorem dL_law_240 : decode cL_law 240 = .ok (.iaload, 1) := by decide +kernel
theorem dL_law_241 : decode cL_law 241 = .ok (.aload_n 0, 1) := by decide +kernel
theorem dL_law_242 : decode cL_law 242 = .ok (.iload_n 3, 1) := by decide +kernel
theorem dL_law_243 : decode cL_law 243 = .ok (.iconst 2, 1) := by decide +kernel
theorem dL_law_244 : decode cL_law 244 = .ok (.iadd, 1) := by decide +kernel
theorem dL_law_245 : decode cL_law 245 = .ok (.iaload, 1) := by decide +kernel
theorem dL_law_246 : decode cL_law 246 = .ok (.invokevirtual 18, 3) := by decide +kernel
theorem dL_law_249 : decode cL_law 249 = .ok (.aload_n 2, 1) := by decide +kernel
theorem dL_law_250 : decode cL_law 250 = .ok (.aload_n 0, 1) := by decide +kernel
theorem dL_law_251 : decode cL_law 251 = .ok (.iload_n 3, 1) := by decide +kernel
theorem dL_law_252 : decode cL_law 252 = .ok (.iconst 1, 1) := by decide +kernel
theorem dL_law_253 : decode cL_law 253 = .ok (.iadd, 1) := by decide +kernel
theorem dL_law_254 : decode cL_law 254 = .ok (.iaload, 1) := by decide +kernel
theorem dL_law_255 : decode cL_law 255 = .ok (.aload_n 0, 1) := by decide +kernel
theorem dL_law_256 : decode cL_law 256 = .ok (.iload_n 3, 1) := by decide +kernel
theorem dL_law_257 : decode cL_law 257 = .ok (.iconst 2, 1) := by decide +kernel
theorem dL_law_258 : decode cL_law 258 = .ok (.iadd, 1) := by decide +kernel
theorem dL_law_259 : decode cL_law 259 = .ok (.iaload, 1) := by decide +kernel
theorem dL_law_260 : decode cL_law 260 = .ok (.invokevirtual 22, 3) := by decide +kernel
theorem dL_law_263 : decode cL_law 263 = .ok (.if_icmp .eq 1182, 3) := by decide +kernel
theorem dL_law_266 : decode cL_law 266 = .ok (.iconst 0, 1) := by decide +kernel
theorem dL_law_267 : decode cL_law 267 = .ok (.ireturn, 1) := by decide +kernel
theorem dL_law_268 : decode cL_law 268 = .ok (.aload_n 1, 1) := by decide +kernel
theorem dL_law_269 : decode cL_law 269 = .ok (.aload_n 0, 1) := by decide +kernel
theorem dL_law_270 : decode cL_law 270 = .ok (.iload_n 3, 1) := by decide +kernel
theorem dL_law_271 : decode cL_law 271 = .ok (.iconst 1, 1) := by decide +kernel
theorem dL_law_272 : decode cL_law 272 = .ok (.iadd, 1) := by decide +kernel
theorem dL_law_273 : decode cL_law 273 = .ok (.iaload, 1) := by decide +kernel
theorem dL_law_274 : decode cL_law 274 = .ok (.aload_n 0, 1) := by decide +kernel
theorem dL_law_275 : decode cL_law 275 = .ok (.iload_n 3, 1) := by decide +kernel
theorem dL_law_276 : decode cL_law 276 = .ok (.iconst 2, 1) := by decide +kernel
theorem dL_law_277 : decode cL_law 277 = .ok (.iadd, 1) := by decide +kernel
theorem dL_law_278 : decode cL_law 278 = .ok (.iaload, 1) := by decide +kernel
theorem dL_law_279 : decode cL_law 279 = .ok (.aload_n 0, 1) := by decide +kernel
theorem dL_law_280 : decode cL_law 280 = .ok (.iload_n 3, 1) := by decide +kernel
theorem dL_law_281 : decode cL_law 281 = .ok (.iconst 3, 1) := by decide +kernel
theorem dL_law_282 : decode cL_law 282 = .ok (.iadd, 1) := by decide +kernel
theorem dL_law_283 : decode cL_law 283 = .ok (.iaload, 1) := by decide +kernel
theorem dL_law_284 : decode cL_law 284 = .ok (.invokevirtual 23, 3) := by decide +kernel
theorem dL_law_287 : decode cL_law 287 = .ok (.aload_n 2, 1) := by decide +kernel
theorem dL_law_288 : decode cL_law 288 = .ok (.aload_n 0, 1) := by decide +kernel
theorem dL_law_289 : decode cL_law 289 = .ok (.iload_n 3, 1) := by decide +kernel
theorem dL_law_290 : decode cL_law 290 = .ok (.iconst 1, 1) := by decide +kernel
theorem dL_law_291 : decode cL_law 291 = .ok (.iadd, 1) := by decide +kernel
theorem dL_law_292 : decode cL_law 292 = .ok (.iaload, 1) := by decide +kernel
theorem dL_law_293 : decode cL_law 293 = .ok (.aload_n 0, 1) := by decide +kernel
theorem dL_law_294 : decode cL_law 294 = .ok (.iload_n 3, 1) := by decide +kernel
theorem dL_law_295 : decode cL_law 295 = .ok (.iconst 2, 1) := by decide +kernel
theorem dL_law_296 : decode cL_law 296 = .ok (.iadd, 1) := by decide +kernel
theorem dL_law_297 : decode cL_law 297 = .ok (.iaload, 1) := by decide +kernel
theorem dL_law_298 : decode cL_law 298 = .ok (.aload_n 0, 1) := by decide +kernel
theorem dL_law_299 : decode cL_law 299 = .ok (.iload_n 3, 1) := by decide +kernel
theorem dL_law_300 : decode cL_law 300 = .ok (.iconst 3, 1) := by decide +kernel
theorem dL_law_301 : decode cL_law 301 = .ok (.iadd, 1) := by decide +kernel
theorem dL_law_302 : decode cL_law 302 = .ok (.iaload, 1) := by decide +kernel
theorem dL_law_303 : decode cL_law 303 = .ok (.invokevirtual 27, 3) := by decide +kernel
theorem dL_law_306 : decode cL_law 306 = .ok (.if_icmp .eq 1139, 3) := by decide +kernel
theorem dL_law_309 : decode cL_law 309 = .ok (.iconst 0, 1) := by decide +kernel
theorem dL_law_310 : decode cL_law 310 = .ok (.ireturn, 1) := by decide +kernel
theorem dL_law_311 : decode cL_law 311 = .ok (.aload_n 1, 1) := by decide +kernel
theorem dL_law_312 : decode cL_law 312 = .ok (.aload_n 0, 1) := by decide +kernel
theorem dL_law_313 : decode cL_law 313 = .ok (.iload_n 3, 1) := by decide +kernel
theorem dL_law_314 : decode cL_law 314 = .ok (.iconst 1, 1) := by decide +kernel
theorem dL_law_315 : decode cL_law 315 = .ok (.iadd, 1) := by decide +kernel
theorem dL_law_316 : decode cL_law 316 = .ok (.iaload, 1) := by decide +kernel
theorem dL_law_317 : decode cL_law 317 = .ok (.aload_n 0, 1) := by decide +kernel
theorem dL_law_318 : decode cL_law 318 = .ok (.iload_n 3, 1) := by decide +kernel
theorem dL_law_319 : decode cL_law 319 = .ok (.iconst 2, 1) := by decide +kernel
theorem dL_law_320 : decode cL_law 320 = .ok (.iadd, 1) := by decide +kernel
theorem dL_law_321 : decode cL_law 321 = .ok (.iaload, 1) := by decide +kernel
theorem dL_law_322 : decode cL_law 322 = .ok (.invokevirtual 28, 3) := by decide +kernel
theorem dL_law_325 : decode cL_law 325 = .ok (.aload_n 2, 1) := by decide +kernel
theorem dL_law_326 : decode cL_law 326 = .ok (.aload_n 0, 1) := by decide +kernel
theorem dL_law_327 : decode cL_law 327 = .ok (.iload_n 3, 1) := by decide +kernel
theorem dL_law_328 : decode cL_law 328 = .ok (.iconst 1, 1) := by decide +kernel
theorem dL_law_329 : decode cL_law 329 = .ok (.iadd, 1) := by decide +kernel
theorem dL_law_330 : decode cL_law 330 = .ok (.iaload, 1) := by decide +kernel
theorem dL_law_331 : decode cL_law 331 = .ok (.aload_n 0, 1) := by decide +kernel
theorem dL_law_332 : decode cL_law 332 = .ok (.iload_n 3, 1) := by decide +kernel
theorem dL_law_333 : decode cL_law 333 = .ok (.iconst 2, 1) := by decide +kernel
theorem dL_law_334 : decode cL_law 334 = .ok (.iadd, 1) := by decide +kernel
theorem dL_law_335 : decode cL_law 335 = .ok (.iaload, 1) := by decide +kernel
theorem dL_law_336 : decode cL_law 336 = .ok (.invokevirtual 31, 3) := by decide +kernel
theorem dL_law_339 : decode cL_law 339 = .ok (.if_icmp .eq 1106, 3) := by decide +kernel
theorem dL_law_342 : decode cL_law 342 = .ok (.iconst 0, 1) := by decide +kernel
theorem dL_law_343 : decode cL_law 343 = .ok (.ireturn, 1) := by decide +kernel
theorem dL_law_344 : decode cL_law 344 = .ok (.aload_n 1, 1) := by decide +kernel
theorem dL_law_345 : decode cL_law 345 = .ok (.aload_n 0, 1) := by decide +kernel
theorem dL_law_346 : decode cL_law 346 = .ok (.iload_n 3, 1) := by decide +kernel
theorem dL_law_347 : decode cL_law 347 = .ok (.iconst 1, 1) := by decide +kernel
theorem dL_law_348 : decode cL_law 348 = .ok (.iadd, 1) := by decide +kernel
theorem dL_law_349 : decode cL_law 349 = .ok (.iaload, 1) := by decide +kernel
theorem dL_law_350 : decode cL_law 350 = .ok (.aload_n 0, 1) := by decide +kernel
theorem dL_law_351 : decode cL_law 351 = .ok (.iload_n 3, 1) := by decide +kernel
theorem dL_law_352 : decode cL_law 352 = .ok (.iconst 2, 1) := by decide +kernel
theorem dL_law_353 : decode cL_law 353 = .ok (.iadd, 1) := by decide +kernel
theorem dL_law_354 : decode cL_law 354 = .ok (.iaload, 1) := by decide +kernel
theorem dL_law_355 : decode cL_law 355 = .ok (.invokevirtual 32, 3) := by decide +kernel
theorem dL_law_358 : decode cL_law 358 = .ok (.aload_n 2, 1) := by decide +kernel
theorem dL_law_359 : decode cL_law 359 = .ok (.aload_n 0, 1) := by decide +kernel
theorem dL_law_360 : decode cL_law 360 = .ok (.iload_n 3, 1) := by decide +kernel
theorem dL_law_361 : decode cL_law 361 = .ok (.iconst 1, 1) := by decide +kernel
theorem dL_law_362 : decode cL_law 362 = .ok (.iadd, 1) := by decide +kernel
theorem dL_law_363 : decode cL_law 363 = .ok (.iaload, 1) := by decide +kernel
theorem dL_law_364 : decode cL_law 364 = .ok (.aload_n 0, 1) := by decide +kernel
theorem dL_law_365 : decode cL_law 365 = .ok (.iload_n 3, 1) := by decide +kernel
theorem dL_law_366 : decode cL_law 366 = .ok (.iconst 2, 1) := by decide +kernel
theorem dL_law_367 : decode cL_law 367 = .ok (.iadd, 1) := by decide +kernel
theorem dL_law_368 : decode cL_law 368 = .ok (.iaload, 1) := by decide +kernel
theorem dL_law_369 : decode cL_law 369 = .ok (.invokevirtual 35, 3) := by decide +kernel
theorem dL_law_372 : decode cL_law 372 = .ok (.if_icmp .eq 1073, 3) := by decide +kernel
theorem dL_law_375 : decode cL_law 375 = .ok (.iconst 0, 1) := by decide +kernel
theorem dL_law_376 : decode cL_law 376 = .ok (.ireturn, 1) := by decide +kernel
theorem dL_law_377 : decode cL_law 377 = .ok (.aload_n 1, 1) := by decide +kernel
theorem dL_law_378 : decode cL_law 378 = .ok (.aload_n 0, 1) := by decide +kernel
theorem dL_law_379 : decode cL_law 379 = .ok (.iload_n 3, 1) := by decide +kernel
theorem dL_law_380 : decode cL_law 380 = .ok (.iconst 1, 1) := by decide +kernel
theorem dL_law_381 : decode cL_law 381 = .ok (.iadd, 1) := by decide +kernel
theorem dL_law_382 : decode cL_law 382 = .ok (.iaload, 1) := by decide +kernel
theorem dL_law_383 : decode cL_law 383 = .ok (.aload_n 0, 1) := by decide +kernel
theorem dL_law_384 : decode cL_law 384 = .ok (.iload_n 3, 1) := by decide +kernel
theorem dL_law_385 : decode cL_law 385 = .ok (.iconst 2, 1) := by decide +kernel
theorem dL_law_386 : decode cL_law 386 = .ok (.iadd, 1) := by decide +kernel
theorem dL_law_387 : decode cL_law 387 = .ok (.iaload, 1) := by decide +kernel
theorem dL_law_388 : decode cL_law 388 = .ok (.aload_n 0, 1) := by decide +kernel
theorem dL_law_389 : decode cL_law 389 = .ok (.iload_n 3, 1) := by decide +kernel
theorem dL_law_390 : decode cL_law 390 = .ok (.iconst 3, 1) := by decide +kernel
theorem dL_law_391 : decode cL_law 391 = .ok (.iadd, 1) := by decide +kernel
theorem dL_law_392 : decode cL_law 392 = .ok (.iaload, 1) := by decide +kernel
theorem dL_law_393 : decode cL_law 393 = .ok (.invokevirtual 36, 3) := by decide +kernel
theorem dL_law_396 : decode cL_law 396 = .ok (.aload_n 2, 1) := by decide +kernel
theorem dL_law_397 : decode cL_law 397 = .ok (.aload_n 0, 1) := by decide +kernel
theorem dL_law_398 : decode cL_law 398 = .ok (.iload_n 3, 1) := by decide +kernel
theorem dL_law_399 : decode cL_law 399 = .ok (.iconst 1, 1) := by decide +kernel
theorem dL_law_400 : decode cL_law 400 = .ok (.iadd, 1) := by decide +kernel
theorem dL_law_401 : decode cL_law 401 = .ok (.iaload, 1) := by decide +kernel
theorem dL_law_402 : decode cL_law 402 = .ok (.aload_n 0, 1) := by decide +kernel
theorem dL_law_403 : decode cL_law 403 = .ok (.iload_n 3, 1) := by decide +kernel
theorem dL_law_404 : decode cL_law 404 = .ok (.iconst 2, 1) := by decide +kernel
theorem dL_law_405 : decode cL_law 405 = .ok (.iadd, 1) := by decide +kernel
theorem dL_law_406 : decode cL_law 406 = .ok (.iaload, 1) := by decide +kernel
theorem dL_law_407 : decode cL_law 407 = .ok (.aload_n 0, 1) := by decide +kernel
theorem dL_law_408 : decode cL_law 408 = .ok (.iload_n 3, 1) := by decide +kernel
theorem dL_law_409 : decode cL_law 409 = .ok (.iconst 3, 1) := by decide +kernel
theorem dL_law_410 : decode cL_law 410 = .ok (.iadd, 1) := by decide +kernel
theorem dL_law_411 : decode cL_law 411 = .ok (.iaload, 1) := by decide +kernel
theorem dL_law_412 : decode cL_law 412 = .ok (.invokevirtual 39, 3) := by decide +kernel
theorem dL_law_415 : decode cL_law 415 = .ok (.if_icmp .eq 1030, 3) := by decide +kernel
theorem dL_law_418 : decode cL_law 418 = .ok (.iconst 0, 1) := by decide +kernel
theorem dL_law_419 : decode cL_law 419 = .ok (.ireturn, 1) := by decide +kernel
theorem dL_law_420 : decode cL_law 420 = .ok (.aload_n 1, 1) := by decide +kernel
theorem dL_law_421 : decode cL_law 421 = .ok (.aload_n 0, 1) := by decide +kernel
theorem dL_law_422 : decode cL_law 422 = .ok (.iload_n 3, 1) := by decide +kernel
theorem dL_law_423 : decode cL_law 423 = .ok (.iconst 1, 1) := by decide +kernel
theorem dL_law_424 : decode cL_law 424 = .ok (.iadd, 1) := by decide +kernel
theorem dL_law_425 : decode cL_law 425 = .ok (.iaload, 1) := by decide +kernel
theorem dL_law_426 : decode cL_law 426 = .ok (.aload_n 0, 1) := by decide +kernel
theorem dL_law_427 : decode cL_law 427 = .ok (.iload_n 3, 1) := by decide +kernel
theorem dL_law_428 : decode cL_law 428 = .ok (.iconst 2, 1) := by decide +kernel
theorem dL_law_429 : decode cL_law 429 = .ok (.iadd, 1) := by decide +kernel
theorem dL_law_430 : decode cL_law 430 = .ok (.iaload, 1) := by decide +kernel
theorem dL_law_431 : decode cL_law 431 = .ok (.invokevirtual 40, 3) := by decide +kernel
theorem dL_law_434 : decode cL_law 434 = .ok (.aload_n 2, 1) := by decide +kernel
theorem dL_law_435 : decode cL_law 435 = .ok (.aload_n 0, 1) := by decide +kernel
theorem dL_law_436 : decode cL_law 436 = .ok (.iload_n 3, 1) := by decide +kernel
theorem dL_law_437 : decode cL_law 437 = .ok (.iconst 1, 1) := by decide +kernel
theorem dL_law_438 : decode cL_law 438 = .ok (.iadd, 1) := by decide +kernel
theorem dL_law_439 : decode cL_law 439 = .ok (.iaload, 1) := by decide +kernel
theorem dL_law_440 : decode cL_law 440 = .ok (.aload_n 0, 1) := by decide +kernel
theorem dL_law_441 : decode cL_law 441 = .ok (.iload_n 3, 1) := by decide +kernel
theorem dL_law_442 : decode cL_law 442 = .ok (.iconst 2, 1) := by decide +kernel
theorem dL_law_443 : decode cL_law 443 = .ok (.iadd, 1) := by decide +kernel
theorem dL_law_444 : decode cL_law 444 = .ok (.iaload, 1) := by decide +kernel
theorem dL_law_445 : decode cL_law 445 = .ok (.invokevirtual 43, 3) := by decide +kernel
theorem dL_law_448 : decode cL_law 448 = .ok (.if_icmp .eq 997, 3) := by decide +kernel
theorem dL_law_451 : decode cL_law 451 = .ok (.iconst 0, 1) := by decide +kernel
theorem dL_law_452 : decode cL_law 452 = .ok (.ireturn, 1) := by decide +kernel
theorem dL_law_453 : decode cL_law 453 = .ok (.aload_n 1, 1) := by decide +kernel
theorem dL_law_454 : decode cL_law 454 = .ok (.aload_n 0, 1) := by decide +kernel
theorem dL_law_455 : decode cL_law 455 = .ok (.iload_n 3, 1) := by decide +kernel
theorem dL_law_456 : decode cL_law 456 = .ok (.iconst 1, 1) := by decide +kernel
theorem dL_law_457 : decode cL_law 457 = .ok (.iadd, 1) := by decide +kernel
theorem dL_law_458 : decode cL_law 458 = .ok (.iaload, 1) := by decide +kernel
theorem dL_law_459 : decode cL_law 459 = .ok (.aload_n 0, 1) := by decide +kernel
theorem dL_law_460 : decode cL_law 460 = .ok (.iload_n 3, 1) := by decide +kernel
theorem dL_law_461 : decode cL_law 461 = .ok (.iconst 2, 1) := by decide +kernel
theorem dL_law_462 : decode cL_law 462 = .ok (.iadd, 1) := by decide +kernel
theorem dL_law_463 : decode cL_law 463 = .ok (.iaload, 1) := by decide +kernel
theorem dL_law_464 : decode cL_law 464 = .ok (.invokevirtual 44, 3) := by decide +kernel
theorem dL_law_467 : decode cL_law 467 = .ok (.aload_n 2, 1) := by decide +kernel
theorem dL_law_468 : decode cL_law 468 = .ok (.aload_n 0, 1) := by decide +kernel
theorem dL_law_469 : decode cL_law 469 = .ok (.iload_n 3, 1) := by decide +kernel
theorem dL_law_470 : decode cL_law 470 = .ok (.iconst 1, 1) := by decide +kernel
theorem dL_law_471 : decode cL_law 471 = .ok (.iadd, 1) := by decide +kernel
theorem dL_law_472 : decode cL_law 472 = .ok (.iaload, 1) := by decide +kernel
theorem dL_law_473 : decode cL_law 473 = .ok (.aload_n 0, 1) := by decide +kernel
theorem dL_law_474 : decode cL_law 474 = .ok (.iload_n 3, 1) := by decide +kernel
theorem dL_law_475 : decode cL_law 475 = .ok (.iconst 2, 1) := by decide +kernel
theorem dL_law_476 : decode cL_law 476 = .ok (.iadd, 1) := by decide +kernel
theorem dL_law_477 : decode cL_law 477 = .ok (.iaload, 1) := by decide +kernel
theorem dL_law_478 : decode cL_law 478 = .ok (.invokevirtual 47, 3) := by decide +kernel
theorem dL_law_481 : decode cL_law 481 = .ok (.if_icmp .eq 964, 3) := by decide +kernel
theorem dL_law_484 : decode cL_law 484 = .ok (.iconst 0, 1) := by decide +kernel
theorem dL_law_485 : decode cL_law 485 = .ok (.ireturn, 1) := by decide +kernel
theorem dL_law_486 : decode cL_law 486 = .ok (.aload_n 1, 1) := by decide +kernel
theorem dL_law_487 : decode cL_law 487 = .ok (.aload_n 0, 1) := by decide +kernel
theorem dL_law_488 : decode cL_law 488 = .ok (.iload_n 3, 1) := by decide +kernel
theorem dL_law_489 : decode cL_law 489 = .ok (.iconst 1, 1) := by decide +kernel
theorem dL_law_490 : decode cL_law 490 = .ok (.iadd, 1) := by decide +kernel
theorem dL_law_491 : decode cL_law 491 = .ok (.iaload, 1) := by decide +kernel
theorem dL_law_492 : decode cL_law 492 = .ok (.aload_n 0, 1) := by decide +kernel
theorem dL_law_493 : decode cL_law 493 = .ok (.iload_n 3, 1) := by decide +kernel
theorem dL_law_494 : decode cL_law 494 = .ok (.iconst 2, 1) := by decide +kernel
theorem dL_law_495 : decode cL_law 495 = .ok (.iadd, 1) := by decide +kernel
theorem dL_law_496 : decode cL_law 496 = .ok (.iaload, 1) := by decide +kernel
theorem dL_law_497 : decode cL_law 497 = .ok (.invokevirtual 48, 3) := by decide +kernel
theorem dL_law_500 : decode cL_law 500 = .ok (.aload_n 2, 1) := by decide +kernel
theorem dL_law_501 : decode cL_law 501 = .ok (.aload_n 0, 1) := by decide +kernel
theorem dL_law_502 : decode cL_law 502 = .ok (.iload_n 3, 1) := by decide +kernel
theorem dL_law_503 : decode cL_law 503 = .ok (.iconst 1, 1) := by decide +kernel
theorem dL_law_504 : decode cL_law 504 = .ok (.iadd, 1) := by decide +kernel
theorem dL_law_505 : decode cL_law 505 = .ok (.iaload, 1) := by decide +kernel
theorem dL_law_506 : decode cL_law 506 = .ok (.aload_n 0, 1) := by decide +kernel
theorem dL_law_507 : decode cL_law 507 = .ok (.iload_n 3, 1) := by decide +kernel
theorem dL_law_508 : decode cL_law 508 = .ok (.iconst 2, 1) := by decide +kernel
theorem dL_law_509 : decode cL_law 509 = .ok (.iadd, 1) := by decide +kernel
theorem dL_law_510 : decode cL_law 510 = .ok (.iaload, 1) := by decide +kernel
theorem dL_law_511 : decode cL_law 511 = .ok (.invokevirtual 51, 3) := by decide +kernel
theorem dL_law_514 : decode cL_law 514 = .ok (.if_icmp .eq 931, 3) := by decide +kernel
theorem dL_law_517 : decode cL_law 517 = .ok (.iconst 0, 1) := by decide +kernel
theorem dL_law_518 : decode cL_law 518 = .ok (.ireturn, 1) := by decide +kernel
theorem dL_law_519 : decode cL_law 519 = .ok (.aload_n 1, 1) := by decide +kernel
theorem dL_law_520 : decode cL_law 520 = .ok (.aload_n 0, 1) := by decide +kernel
theorem dL_law_521 : decode cL_law 521 = .ok (.iload_n 3, 1) := by decide +kernel
theorem dL_law_522 : decode cL_law 522 = .ok (.iconst 1, 1) := by decide +kernel
theorem dL_law_523 : decode cL_law 523 = .ok (.iadd, 1) := by decide +kernel
theorem dL_law_524 : decode cL_law 524 = .ok (.iaload, 1) := by decide +kernel
theorem dL_law_525 : decode cL_law 525 = .ok (.aload_n 0, 1) := by decide +kernel
theorem dL_law_526 : decode cL_law 526 = .ok (.iload_n 3, 1) := by decide +kernel
theorem dL_law_527 : decode cL_law 527 = .ok (.iconst 2, 1) := by decide +kernel
theorem dL_law_528 : decode cL_law 528 = .ok (.iadd, 1) := by decide +kernel
theorem dL_law_529 : decode cL_law 529 = .ok (.iaload, 1) := by decide +kernel
theorem dL_law_530 : decode cL_law 530 = .ok (.aload_n 0, 1) := by decide +kernel
theorem dL_law_531 : decode cL_law 531 = .ok (.iload_n 3, 1) := by decide +kernel
theorem dL_law_532 : decode cL_law 532 = .ok (.iconst 3, 1) := by decide +kernel
theorem dL_law_533 : decode cL_law 533 = .ok (.iadd, 1) := by decide +kernel
theorem dL_law_534 : decode cL_law 534 = .ok (.iaload, 1) := by decide +kernel
theorem dL_law_535 : decode cL_law 535 = .ok (.invokevirtual 52, 3) := by decide +kernel
theorem dL_law_538 : decode cL_law 538 = .ok (.aload_n 2, 1) := by decide +kernel
theorem dL_law_539 : decode cL_law 539 = .ok (.aload_n 0, 1) := by decide +kernel
theorem dL_law_540 : decode cL_law 540 = .ok (.iload_n 3, 1) := by decide +kernel
theorem dL_law_541 : decode cL_law 541 = .ok (.iconst 1, 1) := by decide +kernel
theorem dL_law_542 : decode cL_law 542 = .ok (.iadd, 1) := by decide +kernel
theorem dL_law_543 : decode cL_law 543 = .ok (.iaload, 1) := by decide +kernel
theorem dL_law_544 : decode cL_law 544 = .ok (.aload_n 0, 1) := by decide +kernel
theorem dL_law_545 : decode cL_law 545 = .ok (.iload_n 3, 1) := by decide +kernel
theorem dL_law_546 : decode cL_law 546 = .ok (.iconst 2, 1) := by decide +kernel
theorem dL_law_547 : decode cL_law 547 = .ok (.iadd, 1) := by decide +kernel
theorem dL_law_548 : decode cL_law 548 = .ok (.iaload, 1) := by decide +kernel
theorem dL_law_549 : decode cL_law 549 = .ok (.aload_n 0, 1) := by decide +kernel
theorem dL_law_550 : decode cL_law 550 = .ok (.iload_n 3, 1) := by decide +kernel
theorem dL_law_551 : decode cL_law 551 = .ok (.iconst 3, 1) := by decide +kernel
theorem dL_law_552 : decode cL_law 552 = .ok (.iadd, 1) := by decide +kernel
theorem dL_law_553 : decode cL_law 553 = .ok (.iaload, 1) := by decide +kernel
theorem dL_law_554 : decode cL_law 554 = .ok (.invokevirtual 55, 3) := by decide +kernel
theorem dL_law_557 : decode cL_law 557 = .ok (.if_icmp .eq 888, 3) := by decide +kernel
theorem dL_law_560 : decode cL_law 560 = .ok (.iconst 0, 1) := by decide +kernel
theorem dL_law_561 : decode cL_law 561 = .ok (.ireturn, 1) := by decide +kernel
theorem dL_law_562 : decode cL_law 562 = .ok (.aload_n 1, 1) := by decide +kernel
theorem dL_law_563 : decode cL_law 563 = .ok (.aload_n 0, 1) := by decide +kernel
theorem dL_law_564 : decode cL_law 564 = .ok (.iload_n 3, 1) := by decide +kernel
theorem dL_law_565 : decode cL_law 565 = .ok (.iconst 1, 1) := by decide +kernel
theorem dL_law_566 : decode cL_law 566 = .ok (.iadd, 1) := by decide +kernel
theorem dL_law_567 : decode cL_law 567 = .ok (.iaload, 1) := by decide +kernel
theorem dL_law_568 : decode cL_law 568 = .ok (.invokevirtual 56, 3) := by decide +kernel
theorem dL_law_571 : decode cL_law 571 = .ok (.aload_n 2, 1) := by decide +kernel
theorem dL_law_572 : decode cL_law 572 = .ok (.aload_n 0, 1) := by decide +kernel
theorem dL_law_573 : decode cL_law 573 = .ok (.iload_n 3, 1) := by decide +kernel
theorem dL_law_574 : decode cL_law 574 = .ok (.iconst 1, 1) := by decide +kernel
theorem dL_law_575 : decode cL_law 575 = .ok (.iadd, 1) := by decide +kernel
theorem dL_law_576 : decode cL_law 576 = .ok (.iaload, 1) := by decide +kernel
theorem dL_law_577 : decode cL_law 577 = .ok (.invokevirtual 59, 3) := by decide +kernel
theorem dL_law_580 : decode cL_law 580 = .ok (.if_icmp .eq 865, 3) := by decide +kernel
theorem dL_law_583 : decode cL_law 583 = .ok (.iconst 0, 1) := by decide +kernel
theorem dL_law_584 : decode cL_law 584 = .ok (.ireturn, 1) := by decide +kernel
theorem dL_law_585 : decode cL_law 585 = .ok (.aload_n 1, 1) := by decide +kernel
theorem dL_law_586 : decode cL_law 586 = .ok (.aload_n 0, 1) := by decide +kernel
theorem dL_law_587 : decode cL_law 587 = .ok (.iload_n 3, 1) := by decide +kernel
theorem dL_law_588 : decode cL_law 588 = .ok (.iconst 1, 1) := by decide +kernel
theorem dL_law_589 : decode cL_law 589 = .ok (.iadd, 1) := by decide +kernel
theorem dL_law_590 : decode cL_law 590 = .ok (.iaload, 1) := by decide +kernel
theorem dL_law_591 : decode cL_law 591 = .ok (.invokevirtual 60, 3) := by decide +kernel
theorem dL_law_594 : decode cL_law 594 = .ok (.aload_n 2, 1) := by decide +kernel
theorem dL_law_595 : decode cL_law 595 = .ok (.aload_n 0, 1) := by decide +kernel
theorem dL_law_596 : decode cL_law 596 = .ok (.iload_n 3, 1) := by decide +kernel
theorem dL_law_597 : decode cL_law 597 = .ok (.iconst 1, 1) := by decide +kernel
theorem dL_law_598 : decode cL_law 598 = .ok (.iadd, 1) := by decide +kernel
theorem dL_law_599 : decode cL_law 599 = .ok (.iaload, 1) := by decide +kernel
theorem dL_law_600 : decode cL_law 600 = .ok (.invokevirtual 63, 3) := by decide +kernel
theorem dL_law_603 : decode cL_law 603 = .ok (.if_icmp .eq 842, 3) := by decide +kernel
theorem dL_law_606 : decode cL_law 606 = .ok (.iconst 0, 1) := by decide +kernel
theorem dL_law_607 : decode cL_law 607 = .ok (.ireturn, 1) := by decide +kernel
theorem dL_law_608 : decode cL_law 608 = .ok (.aload_n 1, 1) := by decide +kernel
theorem dL_law_609 : decode cL_law 609 = .ok (.aload_n 0, 1) := by decide +kernel
theorem dL_law_610 : decode cL_law 610 = .ok (.iload_n 3, 1) := by decide +kernel
theorem dL_law_611 : decode cL_law 611 = .ok (.iconst 1, 1) := by decide +kernel
theorem dL_law_612 : decode cL_law 612 = .ok (.iadd, 1) := by decide +kernel
theorem dL_law_613 : decode cL_law 613 = .ok (.iaload, 1) := by decide +kernel
theorem dL_law_614 : decode cL_law 614 = .ok (.invokevirtual 64, 3) := by decide +kernel
theorem dL_law_617 : decode cL_law 617 = .ok (.aload_n 2, 1) := by decide +kernel
theorem dL_law_618 : decode cL_law 618 = .ok (.aload_n 0, 1) := by decide +kernel
theorem dL_law_619 : decode cL_law 619 = .ok (.iload_n 3, 1) := by decide +kernel
theorem dL_law_620 : decode cL_law 620 = .ok (.iconst 1, 1) := by decide +kernel
theorem dL_law_621 : decode cL_law 621 = .ok (.iadd, 1) := by decide +kernel
theorem dL_law_622 : decode cL_law 622 = .ok (.iaload, 1) := by decide +kernel
theorem dL_law_623 : decode cL_law 623 = .ok (.invokevirtual 67, 3) := by decide +kernel
theorem dL_law_626 : decode cL_law 626 = .ok (.if_icmp .eq 819, 3) := by decide +kernel
theorem dL_law_629 : decode cL_law 629 = .ok (.iconst 0, 1) := by decide +kernel
theorem dL_law_630 : decode cL_law 630 = .ok (.ireturn, 1) := by decide +kernel
theorem dL_law_631 : decode cL_law 631 = .ok (.aload_n 1, 1) := by decide +kernel
theorem dL_law_632 : decode cL_law 632 = .ok (.aload_n 0, 1) := by decide +kernel
theorem dL_law_633 : decode cL_law 633 = .ok (.iload_n 3, 1) := by decide +kernel
theorem dL_law_634 : decode cL_law 634 = .ok (.iconst 1, 1) := by decide +kernel
theorem dL_law_635 : decode cL_law 635 = .ok (.iadd, 1) := by decide +kernel
theorem dL_law_636 : decode cL_law 636 = .ok (.iaload, 1) := by decide +kernel
theorem dL_law_637 : decode cL_law 637 = .ok (.invokevirtual 68, 3) := by decide +kernel
theorem dL_law_640 : decode cL_law 640 = .ok (.aload_n 2, 1) := by decide +kernel
theorem dL_law_641 : decode cL_law 641 = .ok (.aload_n 0, 1) := by decide +kernel
theorem dL_law_642 : decode cL_law 642 = .ok (.iload_n 3, 1) := by decide +kernel
theorem dL_law_643 : decode cL_law 643 = .ok (.iconst 1, 1) := by decide +kernel
theorem dL_law_644 : decode cL_law 644 = .ok (.iadd, 1) := by decide +kernel
theorem dL_law_645 : decode cL_law 645 = .ok (.iaload, 1) := by decide +kernel
theorem dL_law_646 : decode cL_law 646 = .ok (.invokevirtual 71, 3) := by decide +kernel
theorem dL_law_649 : decode cL_law 649 = .ok (.if_icmp .eq 796, 3) := by decide +kernel
theorem dL_law_652 : decode cL_law 652 = .ok (.iconst 0, 1) := by decide +kernel
theorem dL_law_653 : decode cL_law 653 = .ok (.ireturn, 1) := by decide +kernel
theorem dL_law_654 : decode cL_law 654 = .ok (.aload_n 1, 1) := by decide +kernel
theorem dL_law_655 : decode cL_law 655 = .ok (.aload_n 0, 1) := by decide +kernel
theorem dL_law_656 : decode cL_law 656 = .ok (.iload_n 3, 1) := by decide +kernel
theorem dL_law_657 : decode cL_law 657 = .ok (.iconst 1, 1) := by decide +kernel
theorem dL_law_658 : decode cL_law 658 = .ok (.iadd, 1) := by decide +kernel
theorem dL_law_659 : decode cL_law 659 = .ok (.iaload, 1) := by decide +kernel
theorem dL_law_660 : decode cL_law 660 = .ok (.aload_n 0, 1) := by decide +kernel
theorem dL_law_661 : decode cL_law 661 = .ok (.iload_n 3, 1) := by decide +kernel
theorem dL_law_662 : decode cL_law 662 = .ok (.iconst 2, 1) := by decide +kernel
theorem dL_law_663 : decode cL_law 663 = .ok (.iadd, 1) := by decide +kernel
theorem dL_law_664 : decode cL_law 664 = .ok (.iaload, 1) := by decide +kernel
theorem dL_law_665 : decode cL_law 665 = .ok (.invokevirtual 72, 3) := by decide +kernel
theorem dL_law_668 : decode cL_law 668 = .ok (.aload_n 2, 1) := by decide +kernel
theorem dL_law_669 : decode cL_law 669 = .ok (.aload_n 0, 1) := by decide +kernel
theorem dL_law_670 : decode cL_law 670 = .ok (.iload_n 3, 1) := by decide +kernel
theorem dL_law_671 : decode cL_law 671 = .ok (.iconst 1, 1) := by decide +kernel
theorem dL_law_672 : decode cL_law 672 = .ok (.iadd, 1) := by decide +kernel
theorem dL_law_673 : decode cL_law 673 = .ok (.iaload, 1) := by decide +kernel
theorem dL_law_674 : decode cL_law 674 = .ok (.aload_n 0, 1) := by decide +kernel
theorem dL_law_675 : decode cL_law 675 = .ok (.iload_n 3, 1) := by decide +kernel
theorem dL_law_676 : decode cL_law 676 = .ok (.iconst 2, 1) := by decide +kernel
theorem dL_law_677 : decode cL_law 677 = .ok (.iadd, 1) := by decide +kernel
theorem dL_law_678 : decode cL_law 678 = .ok (.iaload, 1) := by decide +kernel
theorem dL_law_679 : decode cL_law 679 = .ok (.invokevirtual 75, 3) := by decide +kernel
theorem dL_law_682 : decode cL_law 682 = .ok (.if_icmp .eq 763, 3) := by decide +kernel
theorem dL_law_685 : decode cL_law 685 = .ok (.iconst 0, 1) := by decide +kernel
theorem dL_law_686 : decode cL_law 686 = .ok (.ireturn, 1) := by decide +kernel
theorem dL_law_687 : decode cL_law 687 = .ok (.aload_n 1, 1) := by decide +kernel
theorem dL_law_688 : decode cL_law 688 = .ok (.invokevirtual 76, 3) := by decide +kernel
theorem dL_law_691 : decode cL_law 691 = .ok (.aload_n 2, 1) := by decide +kernel
theorem dL_law_692 : decode cL_law 692 = .ok (.invokevirtual 80, 3) := by decide +kernel
theorem dL_law_695 : decode cL_law 695 = .ok (.if_icmp .eq 750, 3) := by decide +kernel
theorem dL_law_698 : decode cL_law 698 = .ok (.iconst 0, 1) := by decide +kernel
theorem dL_law_699 : decode cL_law 699 = .ok (.ireturn, 1) := by decide +kernel
theorem dL_law_700 : decode cL_law 700 = .ok (.aload_n 1, 1) := by decide +kernel
theorem dL_law_701 : decode cL_law 701 = .ok (.invokevirtual 81, 3) := by decide +kernel
theorem dL_law_704 : decode cL_law 704 = .ok (.aload_n 2, 1) := by decide +kernel
theorem dL_law_705 : decode cL_law 705 = .ok (.invokevirtual 84, 3) := by decide +kernel
theorem dL_law_708 : decode cL_law 708 = .ok (.if_icmp .eq 737, 3) := by decide +kernel
theorem dL_law_711 : decode cL_law 711 = .ok (.iconst 0, 1) := by decide +kernel
theorem dL_law_712 : decode cL_law 712 = .ok (.ireturn, 1) := by decide +kernel
theorem dL_law_713 : decode cL_law 713 = .ok (.aload_n 1, 1) := by decide +kernel
theorem dL_law_714 : decode cL_law 714 = .ok (.aload_n 0, 1) := by decide +kernel
theorem dL_law_715 : decode cL_law 715 = .ok (.iload_n 3, 1) := by decide +kernel
theorem dL_law_716 : decode cL_law 716 = .ok (.iconst 1, 1) := by decide +kernel
theorem dL_law_717 : decode cL_law 717 = .ok (.iadd, 1) := by decide +kernel
theorem dL_law_718 : decode cL_law 718 = .ok (.iaload, 1) := by decide +kernel
theorem dL_law_719 : decode cL_law 719 = .ok (.invokevirtual 85, 3) := by decide +kernel
theorem dL_law_722 : decode cL_law 722 = .ok (.aload_n 2, 1) := by decide +kernel
theorem dL_law_723 : decode cL_law 723 = .ok (.aload_n 0, 1) := by decide +kernel
theorem dL_law_724 : decode cL_law 724 = .ok (.iload_n 3, 1) := by decide +kernel
theorem dL_law_725 : decode cL_law 725 = .ok (.iconst 1, 1) := by decide +kernel
theorem dL_law_726 : decode cL_law 726 = .ok (.iadd, 1) := by decide +kernel
theorem dL_law_727 : decode cL_law 727 = .ok (.iaload, 1) := by decide +kernel
theorem dL_law_728 : decode cL_law 728 = .ok (.invokevirtual 88, 3) := by decide +kernel
theorem dL_law_731 : decode cL_law 731 = .ok (.if_icmp .eq 714, 3) := by decide +kernel
theorem dL_law_734 : decode cL_law 734 = .ok (.iconst 0, 1) := by decide +kernel
theorem dL_law_735 : decode cL_law 735 = .ok (.ireturn, 1) := by decide +kernel
theorem dL_law_736 : decode cL_law 736 = .ok (.aload_n 1, 1) := by decide +kernel
theorem dL_law_737 : decode cL_law 737 = .ok (.aload_n 0, 1) := by decide +kernel
theorem dL_law_738 : decode cL_law 738 = .ok (.iload_n 3, 1) := by decide +kernel
theorem dL_law_739 : decode cL_law 739 = .ok (.iconst 1, 1) := by decide +kernel
theorem dL_law_740 : decode cL_law 740 = .ok (.iadd, 1) := by decide +kernel
theorem dL_law_741 : decode cL_law 741 = .ok (.iaload, 1) := by decide +kernel
theorem dL_law_742 : decode cL_law 742 = .ok (.aload_n 0, 1) := by decide +kernel
theorem dL_law_743 : decode cL_law 743 = .ok (.iload_n 3, 1) := by decide +kernel
theorem dL_law_744 : decode cL_law 744 = .ok (.iconst 2, 1) := by decide +kernel
theorem dL_law_745 : decode cL_law 745 = .ok (.iadd, 1) := by decide +kernel
theorem dL_law_746 : decode cL_law 746 = .ok (.iaload, 1) := by decide +kernel
theorem dL_law_747 : decode cL_law 747 = .ok (.invokevirtual 89, 3) := by decide +kernel
theorem dL_law_750 : decode cL_law 750 = .ok (.aload_n 2, 1) := by decide +kernel
theorem dL_law_751 : decode cL_law 751 = .ok (.aload_n 0, 1) := by decide +kernel
theorem dL_law_752 : decode cL_law 752 = .ok (.iload_n 3, 1) := by decide +kernel
theorem dL_law_753 : decode cL_law 753 = .ok (.iconst 1, 1) := by decide +kernel
theorem dL_law_754 : decode cL_law 754 = .ok (.iadd, 1) := by decide +kernel
theorem dL_law_755 : decode cL_law 755 = .ok (.iaload, 1) := by decide +kernel
theorem dL_law_756 : decode cL_law 756 = .ok (.aload_n 0, 1) := by decide +kernel
theorem dL_law_757 : decode cL_law 757 = .ok (.iload_n 3, 1) := by decide +kernel
theorem dL_law_758 : decode cL_law 758 = .ok (.iconst 2, 1) := by decide +kernel
theorem dL_law_759 : decode cL_law 759 = .ok (.iadd, 1) := by decide +kernel
theorem dL_law_760 : decode cL_law 760 = .ok (.iaload, 1) := by decide +kernel
theorem dL_law_761 : decode cL_law 761 = .ok (.invokevirtual 92, 3) := by decide +kernel
theorem dL_law_764 : decode cL_law 764 = .ok (.if_icmp .eq 681, 3) := by decide +kernel
theorem dL_law_767 : decode cL_law 767 = .ok (.iconst 0, 1) := by decide +kernel
theorem dL_law_768 : decode cL_law 768 = .ok (.ireturn, 1) := by decide +kernel
theorem dL_law_769 : decode cL_law 769 = .ok (.aload_n 1, 1) := by decide +kernel
theorem dL_law_770 : decode cL_law 770 = .ok (.aload_n 0, 1) := by decide +kernel
theorem dL_law_771 : decode cL_law 771 = .ok (.iload_n 3, 1) := by decide +kernel
theorem dL_law_772 : decode cL_law 772 = .ok (.iconst 1, 1) := by decide +kernel
theorem dL_law_773 : decode cL_law 773 = .ok (.iadd, 1) := by decide +kernel
theorem dL_law_774 : decode cL_law 774 = .ok (.iaload, 1) := by decide +kernel
theorem dL_law_775 : decode cL_law 775 = .ok (.aload_n 0, 1) := by decide +kernel
theorem dL_law_776 : decode cL_law 776 = .ok (.iload_n 3, 1) := by decide +kernel
theorem dL_law_777 : decode cL_law 777 = .ok (.iconst 2, 1) := by decide +kernel
theorem dL_law_778 : decode cL_law 778 = .ok (.iadd, 1) := by decide +kernel
theorem dL_law_779 : decode cL_law 779 = .ok (.iaload, 1) := by decide +kernel
theorem dL_law_780 : decode cL_law 780 = .ok (.invokevirtual 93, 3) := by decide +kernel
theorem dL_law_783 : decode cL_law 783 = .ok (.aload_n 2, 1) := by decide +kernel
theorem dL_law_784 : decode cL_law 784 = .ok (.aload_n 0, 1) := by decide +kernel
theorem dL_law_785 : decode cL_law 785 = .ok (.iload_n 3, 1) := by decide +kernel
theorem dL_law_786 : decode cL_law 786 = .ok (.iconst 1, 1) := by decide +kernel
theorem dL_law_787 : decode cL_law 787 = .ok (.iadd, 1) := by decide +kernel
theorem dL_law_788 : decode cL_law 788 = .ok (.iaload, 1) := by decide +kernel
theorem dL_law_789 : decode cL_law 789 = .ok (.aload_n 0, 1) := by decide +kernel
theorem dL_law_790 : decode cL_law 790 = .ok (.iload_n 3, 1) := by decide +kernel
theorem dL_law_791 : decode cL_law 791 = .ok (.iconst 2, 1) := by decide +kernel
theorem dL_law_792 : decode cL_law 792 = .ok (.iadd, 1) := by decide +kernel
theorem dL_law_793 : decode cL_law 793 = .ok (.iaload, 1) := by decide +kernel
theorem dL_law_794 : decode cL_law 794 = .ok (.invokevirtual 96, 3) := by decide +kernel
theorem dL_law_797 : decode cL_law 797 = .ok (.if_icmp .eq 648, 3) := by decide +kernel
theorem dL_law_800 : decode cL_law 800 = .ok (.iconst 0, 1) := by decide +kernel
theorem dL_law_801 : decode cL_law 801 = .ok (.ireturn, 1) := by decide +kernel
theorem dL_law_802 : decode cL_law 802 = .ok (.aload_n 1, 1) := by decide +kernel
theorem dL_law_803 : decode cL_law 803 = .ok (.aload_n 0, 1) := by decide +kernel
theorem dL_law_804 : decode cL_law 804 = .ok (.iload_n 3, 1) := by decide +kernel
theorem dL_law_805 : decode cL_law 805 = .ok (.iconst 1, 1) := by decide +kernel
theorem dL_law_806 : decode cL_law 806 = .ok (.iadd, 1) := by decide +kernel
theorem dL_law_807 : decode cL_law 807 = .ok (.iaload, 1) := by decide +kernel
theorem dL_law_808 : decode cL_law 808 = .ok (.aload_n 0, 1) := by decide +kernel
theorem dL_law_809 : decode cL_law 809 = .ok (.iload_n 3, 1) := by decide +kernel
theorem dL_law_810 : decode cL_law 810 = .ok (.iconst 2, 1) := by decide +kernel
theorem dL_law_811 : decode cL_law 811 = .ok (.iadd, 1) := by decide +kernel
theorem dL_law_812 : decode cL_law 812 = .ok (.iaload, 1) := by decide +kernel
theorem dL_law_813 : decode cL_law 813 = .ok (.invokevirtual 97, 3) := by decide +kernel
theorem dL_law_816 : decode cL_law 816 = .ok (.aload_n 2, 1) := by decide +kernel
theorem dL_law_817 : decode cL_law 817 = .ok (.aload_n 0, 1) := by decide +kernel
theorem dL_law_818 : decode cL_law 818 = .ok (.iload_n 3, 1) := by decide +kernel
theorem dL_law_819 : decode cL_law 819 = .ok (.iconst 1, 1) := by decide +kernel
theorem dL_law_820 : decode cL_law 820 = .ok (.iadd, 1) := by decide +kernel
theorem dL_law_821 : decode cL_law 821 = .ok (.iaload, 1) := by decide +kernel
theorem dL_law_822 : decode cL_law 822 = .ok (.aload_n 0, 1) := by decide +kernel
theorem dL_law_823 : decode cL_law 823 = .ok (.iload_n 3, 1) := by decide +kernel
theorem dL_law_824 : decode cL_law 824 = .ok (.iconst 2, 1) := by decide +kernel
theorem dL_law_825 : decode cL_law 825 = .ok (.iadd, 1) := by decide +kernel
theorem dL_law_826 : decode cL_law 826 = .ok (.iaload, 1) := by decide +kernel
theorem dL_law_827 : decode cL_law 827 = .ok (.invokevirtual 100, 3) := by decide +kernel
theorem dL_law_830 : decode cL_law 830 = .ok (.if_icmp .eq 615, 3) := by decide +kernel
theorem dL_law_833 : decode cL_law 833 = .ok (.iconst 0, 1) := by decide +kernel
theorem dL_law_834 : decode cL_law 834 = .ok (.ireturn, 1) := by decide +kernel
theorem dL_law_835 : decode cL_law 835 = .ok (.aload_n 1, 1) := by decide +kernel
theorem dL_law_836 : decode cL_law 836 = .ok (.aload_n 0, 1) := by decide +kernel
theorem dL_law_837 : decode cL_law 837 = .ok (.iload_n 3, 1) := by decide +kernel
theorem dL_law_838 : decode cL_law 838 = .ok (.iconst 1, 1) := by decide +kernel
theorem dL_law_839 : decode cL_law 839 = .ok (.iadd, 1) := by decide +kernel
theorem dL_law_840 : decode cL_law 840 = .ok (.iaload, 1) := by decide +kernel
theorem dL_law_841 : decode cL_law 841 = .ok (.aload_n 0, 1) := by decide +kernel
theorem dL_law_842 : decode cL_law 842 = .ok (.iload_n 3, 1) := by decide +kernel
theorem dL_law_843 : decode cL_law 843 = .ok (.iconst 2, 1) := by decide +kernel
theorem dL_law_844 : decode cL_law 844 = .ok (.iadd, 1) := by decide +kernel
theorem dL_law_845 : decode cL_law 845 = .ok (.iaload, 1) := by decide +kernel
theorem dL_law_846 : decode cL_law 846 = .ok (.aload_n 0, 1) := by decide +kernel
theorem dL_law_847 : decode cL_law 847 = .ok (.iload_n 3, 1) := by decide +kernel
theorem dL_law_848 : decode cL_law 848 = .ok (.iconst 3, 1) := by decide +kernel
theorem dL_law_849 : decode cL_law 849 = .ok (.iadd, 1) := by decide +kernel
theorem dL_law_850 : decode cL_law 850 = .ok (.iaload, 1) := by decide +kernel
theorem dL_law_851 : decode cL_law 851 = .ok (.invokevirtual 101, 3) := by decide +kernel
theorem dL_law_854 : decode cL_law 854 = .ok (.aload_n 2, 1) := by decide +kernel
theorem dL_law_855 : decode cL_law 855 = .ok (.aload_n 0, 1) := by decide +kernel
theorem dL_law_856 : decode cL_law 856 = .ok (.iload_n 3, 1) := by decide +kernel
theorem dL_law_857 : decode cL_law 857 = .ok (.iconst 1, 1) := by decide +kernel
theorem dL_law_858 : decode cL_law 858 = .ok (.iadd, 1) := by decide +kernel
theorem dL_law_859 : decode cL_law 859 = .ok (.iaload, 1) := by decide +kernel
theorem dL_law_860 : decode cL_law 860 = .ok (.aload_n 0, 1) := by decide +kernel
theorem dL_law_861 : decode cL_law 861 = .ok (.iload_n 3, 1) := by decide +kernel
theorem dL_law_862 : decode cL_law 862 = .ok (.iconst 2, 1) := by decide +kernel
theorem dL_law_863 : decode cL_law 863 = .ok (.iadd, 1) := by decide +kernel
theorem dL_law_864 : decode cL_law 864 = .ok (.iaload, 1) := by decide +kernel
theorem dL_law_865 : decode cL_law 865 = .ok (.aload_n 0, 1) := by decide +kernel
theorem dL_law_866 : decode cL_law 866 = .ok (.iload_n 3, 1) := by decide +kernel
theorem dL_law_867 : decode cL_law 867 = .ok (.iconst 3, 1) := by decide +kernel
theorem dL_law_868 : decode cL_law 868 = .ok (.iadd, 1) := by decide +kernel
theorem dL_law_869 : decode cL_law 869 = .ok (.iaload, 1) := by decide +kernel
theorem dL_law_870 : decode cL_law 870 = .ok (.invokevirtual 104, 3) := by decide +kernel
theorem dL_law_873 : decode cL_law 873 = .ok (.if_icmp .eq 572, 3) := by decide +kernel
theorem dL_law_876 : decode cL_law 876 = .ok (.iconst 0, 1) := by decide +kernel
theorem dL_law_877 : decode cL_law 877 = .ok (.ireturn, 1) := by decide +kernel
theorem dL_law_878 : decode cL_law 878 = .ok (.aload_n 1, 1) := by decide +kernel
theorem dL_law_879 : decode cL_law 879 = .ok (.aload_n 0, 1) := by decide +kernel
theorem dL_law_880 : decode cL_law 880 = .ok (.iload_n 3, 1) := by decide +kernel
theorem dL_law_881 : decode cL_law 881 = .ok (.iconst 1, 1) := by decide +kernel
theorem dL_law_882 : decode cL_law 882 = .ok (.iadd, 1) := by decide +kernel
theorem dL_law_883 : decode cL_law 883 = .ok (.iaload, 1) := by decide +kernel
theorem dL_law_884 : decode cL_law 884 = .ok (.aload_n 0, 1) := by decide +kernel
theorem dL_law_885 : decode cL_law 885 = .ok (.iload_n 3, 1) := by decide +kernel
theorem dL_law_886 : decode cL_law 886 = .ok (.iconst 2, 1) := by decide +kernel
theorem dL_law_887 : decode cL_law 887 = .ok (.iadd, 1) := by decide +kernel
theorem dL_law_888 : decode cL_law 888 = .ok (.iaload, 1) := by decide +kernel
theorem dL_law_889 : decode cL_law 889 = .ok (.aload_n 0, 1) := by decide +kernel
theorem dL_law_890 : decode cL_law 890 = .ok (.iload_n 3, 1) := by decide +kernel
theorem dL_law_891 : decode cL_law 891 = .ok (.iconst 3, 1) := by decide +kernel
theorem dL_law_892 : decode cL_law 892 = .ok (.iadd, 1) := by decide +kernel
theorem dL_law_893 : decode cL_law 893 = .ok (.iaload, 1) := by decide +kernel
theorem dL_law_894 : decode cL_law 894 = .ok (.invokevirtual 105, 3) := by decide +kernel
theorem dL_law_897 : decode cL_law 897 = .ok (.aload_n 2, 1) := by decide +kernel
theorem dL_law_898 : decode cL_law 898 = .ok (.aload_n 0, 1) := by decide +kernel
theorem dL_law_899 : decode cL_law 899 = .ok (.iload_n 3, 1) := by decide +kernel
theorem dL_law_900 : decode cL_law 900 = .ok (.iconst 1, 1) := by decide +kernel
theorem dL_law_901 : decode cL_law 901 = .ok (.iadd, 1) := by decide +kernel
theorem dL_law_902 : decode cL_law 902 = .ok (.iaload, 1) := by decide +kernel
theorem dL_law_903 : decode cL_law 903 = .ok (.aload_n 0, 1) := by decide +kernel
theorem dL_law_904 : decode cL_law 904 = .ok (.iload_n 3, 1) := by decide +kernel
theorem dL_law_905 : decode cL_law 905 = .ok (.iconst 2, 1) := by decide +kernel
theorem dL_law_906 : decode cL_law 906 = .ok (.iadd, 1) := by decide +kernel
theorem dL_law_907 : decode cL_law 907 = .ok (.iaload, 1) := by decide +kernel
theorem dL_law_908 : decode cL_law 908 = .ok (.aload_n 0, 1) := by decide +kernel
theorem dL_law_909 : decode cL_law 909 = .ok (.iload_n 3, 1) := by decide +kernel
theorem dL_law_910 : decode cL_law 910 = .ok (.iconst 3, 1) := by decide +kernel
theorem dL_law_911 : decode cL_law 911 = .ok (.iadd, 1) := by decide +kernel
theorem dL_law_912 : decode cL_law 912 = .ok (.iaload, 1) := by decide +kernel
theorem dL_law_913 : decode cL_law 913 = .ok (.invokevirtual 108, 3) := by decide +kernel
theorem dL_law_916 : decode cL_law 916 = .ok (.if_icmp .eq 529, 3) := by decide +kernel
theorem dL_law_919 : decode cL_law 919 = .ok (.iconst 0, 1) := by decide +kernel
theorem dL_law_920 : decode cL_law 920 = .ok (.ireturn, 1) := by decide +kernel
theorem dL_law_921 : decode cL_law 921 = .ok (.aload_n 1, 1) := by decide +kernel
theorem dL_law_922 : decode cL_law 922 = .ok (.aload_n 0, 1) := by decide +kernel
theorem dL_law_923 : decode cL_law 923 = .ok (.iload_n 3, 1) := by decide +kernel
theorem dL_law_924 : decode cL_law 924 = .ok (.iconst 1, 1) := by decide +kernel
theorem dL_law_925 : decode cL_law 925 = .ok (.iadd, 1) := by decide +kernel
theorem dL_law_926 : decode cL_law 926 = .ok (.iaload, 1) := by decide +kernel
theorem dL_law_927 : decode cL_law 927 = .ok (.invokevirtual 109, 3) := by decide +kernel
theorem dL_law_930 : decode cL_law 930 = .ok (.aload_n 2, 1) := by decide +kernel
theorem dL_law_931 : decode cL_law 931 = .ok (.aload_n 0, 1) := by decide +kernel
theorem dL_law_932 : decode cL_law 932 = .ok (.iload_n 3, 1) := by decide +kernel
theorem dL_law_933 : decode cL_law 933 = .ok (.iconst 1, 1) := by decide +kernel
theorem dL_law_934 : decode cL_law 934 = .ok (.iadd, 1) := by decide +kernel
theorem dL_law_935 : decode cL_law 935 = .ok (.iaload, 1) := by decide +kernel
theorem dL_law_936 : decode cL_law 936 = .ok (.invokevirtual 112, 3) := by decide +kernel
theorem dL_law_939 : decode cL_law 939 = .ok (.if_icmp .eq 506, 3) := by decide +kernel
theorem dL_law_942 : decode cL_law 942 = .ok (.iconst 0, 1) := by decide +kernel
theorem dL_law_943 : decode cL_law 943 = .ok (.ireturn, 1) := by decide +kernel
theorem dL_law_944 : decode cL_law 944 = .ok (.aload_n 1, 1) := by decide +kernel
theorem dL_law_945 : decode cL_law 945 = .ok (.invokevirtual 113, 3) := by decide +kernel
theorem dL_law_948 : decode cL_law 948 = .ok (.aload_n 2, 1) := by decide +kernel
theorem dL_law_949 : decode cL_law 949 = .ok (.invokevirtual 116, 3) := by decide +kernel
theorem dL_law_952 : decode cL_law 952 = .ok (.if_icmp .eq 493, 3) := by decide +kernel
theorem dL_law_955 : decode cL_law 955 = .ok (.iconst 0, 1) := by decide +kernel
theorem dL_law_956 : decode cL_law 956 = .ok (.ireturn, 1) := by decide +kernel
theorem dL_law_957 : decode cL_law 957 = .ok (.aload_n 1, 1) := by decide +kernel
theorem dL_law_958 : decode cL_law 958 = .ok (.aload_n 0, 1) := by decide +kernel
theorem dL_law_959 : decode cL_law 959 = .ok (.iload_n 3, 1) := by decide +kernel
theorem dL_law_960 : decode cL_law 960 = .ok (.iconst 1, 1) := by decide +kernel
theorem dL_law_961 : decode cL_law 961 = .ok (.iadd, 1) := by decide +kernel
theorem dL_law_962 : decode cL_law 962 = .ok (.iaload, 1) := by decide +kernel
theorem dL_law_963 : decode cL_law 963 = .ok (.aload_n 0, 1) := by decide +kernel
theorem dL_law_964 : decode cL_law 964 = .ok (.iload_n 3, 1) := by decide +kernel
theorem dL_law_965 : decode cL_law 965 = .ok (.iconst 2, 1) := by decide +kernel
theorem dL_law_966 : decode cL_law 966 = .ok (.iadd, 1) := by decide +kernel
theorem dL_law_967 : decode cL_law 967 = .ok (.iaload, 1) := by decide +kernel
theorem dL_law_968 : decode cL_law 968 = .ok (.invokevirtual 117, 3) := by decide +kernel
theorem dL_law_971 : decode cL_law 971 = .ok (.aload_n 2, 1) := by decide +kernel
theorem dL_law_972 : decode cL_law 972 = .ok (.aload_n 0, 1) := by decide +kernel
theorem dL_law_973 : decode cL_law 973 = .ok (.iload_n 3, 1) := by decide +kernel
theorem dL_law_974 : decode cL_law 974 = .ok (.iconst 1, 1) := by decide +kernel
theorem dL_law_975 : decode cL_law 975 = .ok (.iadd, 1) := by decide +kernel
theorem dL_law_976 : decode cL_law 976 = .ok (.iaload, 1) := by decide +kernel
theorem dL_law_977 : decode cL_law 977 = .ok (.aload_n 0, 1) := by decide +kernel
theorem dL_law_978 : decode cL_law 978 = .ok (.iload_n 3, 1) := by decide +kernel
theorem dL_law_979 : decode cL_law 979 = .ok (.iconst 2, 1) := by decide +kernel
theorem dL_law_980 : decode cL_law 980 = .ok (.iadd, 1) := by decide +kernel
theorem dL_law_981 : decode cL_law 981 = .ok (.iaload, 1) := by decide +kernel
theorem dL_law_982 : decode cL_law 982 = .ok (.invokevirtual 120, 3) := by decide +kernel
theorem dL_law_985 : decode cL_law 985 = .ok (.if_icmp .eq 460, 3) := by decide +kernel
theorem dL_law_988 : decode cL_law 988 = .ok (.iconst 0, 1) := by decide +kernel
theorem dL_law_989 : decode cL_law 989 = .ok (.ireturn, 1) := by decide +kernel
theorem dL_law_990 : decode cL_law 990 = .ok (.aload_n 1, 1) := by decide +kernel
theorem dL_law_991 : decode cL_law 991 = .ok (.aload_n 0, 1) := by decide +kernel
theorem dL_law_992 : decode cL_law 992 = .ok (.iload_n 3, 1) := by decide +kernel
theorem dL_law_993 : decode cL_law 993 = .ok (.iconst 1, 1) := by decide +kernel
theorem dL_law_994 : decode cL_law 994 = .ok (.iadd, 1) := by decide +kernel
theorem dL_law_995 : decode cL_law 995 = .ok (.iaload, 1) := by decide +kernel
theorem dL_law_996 : decode cL_law 996 = .ok (.invokevirtual 121, 3) := by decide +kernel
theorem dL_law_999 : decode cL_law 999 = .ok (.aload_n 2, 1) := by decide +kernel
theorem dL_law_1000 : decode cL_law 1000 = .ok (.aload_n 0, 1) := by decide +kernel
theorem dL_law_1001 : decode cL_law 1001 = .ok (.iload_n 3, 1) := by decide +kernel
theorem dL_law_1002 : decode cL_law 1002 = .ok (.iconst 1, 1) := by decide +kernel
theorem dL_law_1003 : decode cL_law 1003 = .ok (.iadd, 1) := by decide +kernel
theorem dL_law_1004 : decode cL_law 1004 = .ok (.iaload, 1) := by decide +kernel
theorem dL_law_1005 : decode cL_law 1005 = .ok (.invokevirtual 124, 3) := by decide +kernel
theorem dL_law_1008 : decode cL_law 1008 = .ok (.if_icmp .eq 437, 3) := by decide +kernel
theorem dL_law_1011 : decode cL_law 1011 = .ok (.iconst 0, 1) := by decide +kernel
theorem dL_law_1012 : decode cL_law 1012 = .ok (.ireturn, 1) := by decide +kernel
theorem dL_law_1013 : decode cL_law 1013 = .ok (.aload_n 1, 1) := by decide +kernel
theorem dL_law_1014 : decode cL_law 1014 = .ok (.aload_n 0, 1) := by decide +kernel
theorem dL_law_1015 : decode cL_law 1015 = .ok (.iload_n 3, 1) := by decide +kernel
theorem dL_law_1016 : decode cL_law 1016 = .ok (.iconst 1, 1) := by decide +kernel
theorem dL_law_1017 : decode cL_law 1017 = .ok (.iadd, 1) := by decide +kernel
theorem dL_law_1018 : decode cL_law 1018 = .ok (.iaload, 1) := by decide +kernel
theorem dL_law_1019 : decode cL_law 1019 = .ok (.aload_n 0, 1) := by decide +kernel
theorem dL_law_1020 : decode cL_law 1020 = .ok (.iload_n 3, 1) := by decide +kernel
theorem dL_law_1021 : decode cL_law 1021 = .ok (.iconst 2, 1) := by decide +kernel
theorem dL_law_1022 : decode cL_law 1022 = .ok (.iadd, 1) := by decide +kernel
theorem dL_law_1023 : decode cL_law 1023 = .ok (.iaload, 1) := by decide +kernel
theorem dL_law_1024 : decode cL_law 1024 = .ok (.aload_n 0, 1) := by decide +kernel
theorem dL_law_1025 : decode cL_law 1025 = .ok (.iload_n 3, 1) := by decide +kernel
theorem dL_law_1026 : decode cL_law 1026 = .ok (.iconst 3, 1) := by decide +kernel
theorem dL_law_1027 : decode cL_law 1027 = .ok (.iadd, 1) := by decide +kernel
theorem dL_law_1028 : decode cL_law 1028 = .ok (.iaload, 1) := by decide +kernel
theorem dL_law_1029 : decode cL_law 1029 = .ok (.invokevirtual 125, 3) := by decide +kernel
theorem dL_law_1032 : decode cL_law 1032 = .ok (.aload_n 2, 1) := by decide +kernel
theorem dL_law_1033 : decode cL_law 1033 = .ok (.aload_n 0, 1) := by decide +kernel
theorem dL_law_1034 : decode cL_law 1034 = .ok (.iload_n 3, 1) := by decide +kernel
theorem dL_law_1035 : decode cL_law 1035 = .ok (.iconst 1, 1) := by decide +kernel
theorem dL_law_1036 : decode cL_law 1036 = .ok (.iadd, 1) := by decide +kernel
theorem dL_law_1037 : decode cL_law 1037 = .ok (.iaload, 1) := by decide +kernel
theorem dL_law_1038 : decode cL_law 1038 = .ok (.aload_n 0, 1) := by decide +kernel
theorem dL_law_1039 : decode cL_law 1039 = .ok (.iload_n 3, 1) := by decide +kernel
theorem dL_law_1040 : decode cL_law 1040 = .ok (.iconst 2, 1) := by decide +kernel
theorem dL_law_1041 : decode cL_law 1041 = .ok (.iadd, 1) := by decide +kernel
theorem dL_law_1042 : decode cL_law 1042 = .ok (.iaload, 1) := by decide +kernel
theorem dL_law_1043 : decode cL_law 1043 = .ok (.aload_n 0, 1) := by decide +kernel
theorem dL_law_1044 : decode cL_law 1044 = .ok (.iload_n 3, 1) := by decide +kernel
theorem dL_law_1045 : decode cL_law 1045 = .ok (.iconst 3, 1) := by decide +kernel
theorem dL_law_1046 : decode cL_law 1046 = .ok (.iadd, 1) := by decide +kernel
theorem dL_law_1047 : decode cL_law 1047 = .ok (.iaload, 1) := by decide +kernel
theorem dL_law_1048 : decode cL_law 1048 = .ok (.invokevirtual 128, 3) := by decide +kernel
theorem dL_law_1051 : decode cL_law 1051 = .ok (.if_icmp .eq 394, 3) := by decide +kernel
theorem dL_law_1054 : decode cL_law 1054 = .ok (.iconst 0, 1) := by decide +kernel
theorem dL_law_1055 : decode cL_law 1055 = .ok (.ireturn, 1) := by decide +kernel
theorem dL_law_1056 : decode cL_law 1056 = .ok (.aload_n 1, 1) := by decide +kernel
theorem dL_law_1057 : decode cL_law 1057 = .ok (.aload_n 0, 1) := by decide +kernel
theorem dL_law_1058 : decode cL_law 1058 = .ok (.iload_n 3, 1) := by decide +kernel
theorem dL_law_1059 : decode cL_law 1059 = .ok (.iconst 1, 1) := by decide +kernel
theorem dL_law_1060 : decode cL_law 1060 = .ok (.iadd, 1) := by decide +kernel
theorem dL_law_1061 : decode cL_law 1061 = .ok (.iaload, 1) := by decide +kernel
theorem dL_law_1062 : decode cL_law 1062 = .ok (.aload_n 0, 1) := by decide +kernel
theorem dL_law_1063 : decode cL_law 1063 = .ok (.iload_n 3, 1) := by decide +kernel
theorem dL_law_1064 : decode cL_law 1064 = .ok (.iconst 2, 1) := by decide +kernel
theorem dL_law_1065 : decode cL_law 1065 = .ok (.iadd, 1) := by decide +kernel
theorem dL_law_1066 : decode cL_law 1066 = .ok (.iaload, 1) := by decide +kernel
theorem dL_law_1067 : decode cL_law 1067 = .ok (.aload_n 0, 1) := by decide +kernel
theorem dL_law_1068 : decode cL_law 1068 = .ok (.iload_n 3, 1) := by decide +kernel
theorem dL_law_1069 : decode cL_law 1069 = .ok (.iconst 3, 1) := by decide +kernel
theorem dL_law_1070 : decode cL_law 1070 = .ok (.iadd, 1) := by decide +kernel
theorem dL_law_1071 : decode cL_law 1071 = .ok (.iaload, 1) := by decide +kernel
theorem dL_law_1072 : decode cL_law 1072 = .ok (.invokevirtual 129, 3) := by decide +kernel
theorem dL_law_1075 : decode cL_law 1075 = .ok (.aload_n 2, 1) := by decide +kernel
theorem dL_law_1076 : decode cL_law 1076 = .ok (.aload_n 0, 1) := by decide +kernel
theorem dL_law_1077 : decode cL_law 1077 = .ok (.iload_n 3, 1) := by decide +kernel
theorem dL_law_1078 : decode cL_law 1078 = .ok (.iconst 1, 1) := by decide +kernel
theorem dL_law_1079 : decode cL_law 1079 = .ok (.iadd, 1) := by decide +kernel
theorem dL_law_1080 : decode cL_law 1080 = .ok (.iaload, 1) := by decide +kernel
theorem dL_law_1081 : decode cL_law 1081 = .ok (.aload_n 0, 1) := by decide +kernel
theorem dL_law_1082 : decode cL_law 1082 = .ok (.iload_n 3, 1) := by decide +kernel
theorem dL_law_1083 : decode cL_law 1083 = .ok (.iconst 2, 1) := by decide +kernel
theorem dL_law_1084 : decode cL_law 1084 = .ok (.iadd, 1) := by decide +kernel
theorem dL_law_1085 : decode cL_law 1085 = .ok (.iaload, 1) := by decide +kernel
theorem dL_law_1086 : decode cL_law 1086 = .ok (.aload_n 0, 1) := by decide +kernel
theorem dL_law_1087 : decode cL_law 1087 = .ok (.iload_n 3, 1) := by decide +kernel
theorem dL_law_1088 : decode cL_law 1088 = .ok (.iconst 3, 1) := by decide +kernel
theorem dL_law_1089 : decode cL_law 1089 = .ok (.iadd, 1) := by decide +kernel
theorem dL_law_1090 : decode cL_law 1090 = .ok (.iaload, 1) := by decide +kernel
theorem dL_law_1091 : decode cL_law 1091 = .ok (.invokevirtual 132, 3) := by decide +kernel
theorem dL_law_1094 : decode cL_law 1094 = .ok (.if_icmp .eq 351, 3) := by decide +kernel
theorem dL_law_1097 : decode cL_law 1097 = .ok (.iconst 0, 1) := by decide +kernel
theorem dL_law_1098 : decode cL_law 1098 = .ok (.ireturn, 1) := by decide +kernel
theorem dL_law_1099 : decode cL_law 1099 = .ok (.aload_n 1, 1) := by decide +kernel
theorem dL_law_1100 : decode cL_law 1100 = .ok (.aload_n 0, 1) := by decide +kernel
theorem dL_law_1101 : decode cL_law 1101 = .ok (.iload_n 3, 1) := by decide +kernel
theorem dL_law_1102 : decode cL_law 1102 = .ok (.iconst 1, 1) := by decide +kernel
theorem dL_law_1103 : decode cL_law 1103 = .ok (.iadd, 1) := by decide +kernel
theorem dL_law_1104 : decode cL_law 1104 = .ok (.iaload, 1) := by decide +kernel
theorem dL_law_1105 : decode cL_law 1105 = .ok (.invokevirtual 133, 3) := by decide +kernel
theorem dL_law_1108 : decode cL_law 1108 = .ok (.aload_n 2, 1) := by decide +kernel
theorem dL_law_1109 : decode cL_law 1109 = .ok (.aload_n 0, 1) := by decide +kernel
theorem dL_law_1110 : decode cL_law 1110 = .ok (.iload_n 3, 1) := by decide +kernel
theorem dL_law_1111 : decode cL_law 1111 = .ok (.iconst 1, 1) := by decide +kernel
theorem dL_law_1112 : decode cL_law 1112 = .ok (.iadd, 1) := by decide +kernel
theorem dL_law_1113 : decode cL_law 1113 = .ok (.iaload, 1) := by decide +kernel
theorem dL_law_1114 : decode cL_law 1114 = .ok (.invokevirtual 136, 3) := by decide +kernel
theorem dL_law_1117 : decode cL_law 1117 = .ok (.if_icmp .eq 328, 3) := by decide +kernel
theorem dL_law_1120 : decode cL_law 1120 = .ok (.iconst 0, 1) := by decide +kernel
theorem dL_law_1121 : decode cL_law 1121 = .ok (.ireturn, 1) := by decide +kernel
theorem dL_law_1122 : decode cL_law 1122 = .ok (.aload_n 1, 1) := by decide +kernel
theorem dL_law_1123 : decode cL_law 1123 = .ok (.aload_n 0, 1) := by decide +kernel
theorem dL_law_1124 : decode cL_law 1124 = .ok (.iload_n 3, 1) := by decide +kernel
theorem dL_law_1125 : decode cL_law 1125 = .ok (.iconst 1, 1) := by decide +kernel
theorem dL_law_1126 : decode cL_law 1126 = .ok (.iadd, 1) := by decide +kernel
theorem dL_law_1127 : decode cL_law 1127 = .ok (.iaload, 1) := by decide +kernel
theorem dL_law_1128 : decode cL_law 1128 = .ok (.invokevirtual 137, 3) := by decide +kernel
theorem dL_law_1131 : decode cL_law 1131 = .ok (.aload_n 2, 1) := by decide +kernel
theorem dL_law_1132 : decode cL_law 1132 = .ok (.aload_n 0, 1) := by decide +kernel
theorem dL_law_1133 : decode cL_law 1133 = .ok (.iload_n 3, 1) := by decide +kernel
theorem dL_law_1134 : decode cL_law 1134 = .ok (.iconst 1, 1) := by decide +kernel
theorem dL_law_1135 : decode cL_law 1135 = .ok (.iadd, 1) := by decide +kernel
theorem dL_law_1136 : decode cL_law 1136 = .ok (.iaload, 1) := by decide +kernel
theorem dL_law_1137 : decode cL_law 1137 = .ok (.invokevirtual 140, 3) := by decide +kernel
theorem dL_law_1140 : decode cL_law 1140 = .ok (.if_icmp .eq 305, 3) := by decide +kernel
theorem dL_law_1143 : decode cL_law 1143 = .ok (.iconst 0, 1) := by decide +kernel
theorem dL_law_1144 : decode cL_law 1144 = .ok (.ireturn, 1) := by decide +kernel
theorem dL_law_1145 : decode cL_law 1145 = .ok (.aload_n 1, 1) := by decide +kernel
theorem dL_law_1146 : decode cL_law 1146 = .ok (.aload_n 0, 1) := by decide +kernel
theorem dL_law_1147 : decode cL_law 1147 = .ok (.iload_n 3, 1) := by decide +kernel
theorem dL_law_1148 : decode cL_law 1148 = .ok (.iconst 1, 1) := by decide +kernel
theorem dL_law_1149 : decode cL_law 1149 = .ok (.iadd, 1) := by decide +kernel
theorem dL_law_1150 : decode cL_law 1150 = .ok (.iaload, 1) := by decide +kernel
theorem dL_law_1151 : decode cL_law 1151 = .ok (.aload_n 0, 1) := by decide +kernel
theorem dL_law_1152 : decode cL_law 1152 = .ok (.iload_n 3, 1) := by decide +kernel
theorem dL_law_1153 : decode cL_law 1153 = .ok (.iconst 2, 1) := by decide +kernel
theorem dL_law_1154 : decode cL_law 1154 = .ok (.iadd, 1) := by decide +kernel
theorem dL_law_1155 : decode cL_law 1155 = .ok (.iaload, 1) := by decide +kernel
theorem dL_law_1156 : decode cL_law 1156 = .ok (.aload_n 0, 1) := by decide +kernel
theorem dL_law_1157 : decode cL_law 1157 = .ok (.iload_n 3, 1) := by decide +kernel
theorem dL_law_1158 : decode cL_law 1158 = .ok (.iconst 3, 1) := by decide +kernel
theorem dL_law_1159 : decode cL_law 1159 = .ok (.iadd, 1) := by decide +kernel
theorem dL_law_1160 : decode cL_law 1160 = .ok (.iaload, 1) := by decide +kernel
theorem dL_law_1161 : decode cL_law 1161 = .ok (.aload_n 0, 1) := by decide +kernel
theorem dL_law_1162 : decode cL_law 1162 = .ok (.iload_n 3, 1) := by decide +kernel
theorem dL_law_1163 : decode cL_law 1163 = .ok (.iconst 4, 1) := by decide +kernel
theorem dL_law_1164 : decode cL_law 1164 = .ok (.iadd, 1) := by decide +kernel
theorem dL_law_1165 : decode cL_law 1165 = .ok (.iaload, 1) := by decide +kernel
theorem dL_law_1166 : decode cL_law 1166 = .ok (.aload_n 0, 1) := by decide +kernel
theorem dL_law_1167 : decode cL_law 1167 = .ok (.iload_n 3, 1) := by decide +kernel
theorem dL_law_1168 : decode cL_law 1168 = .ok (.iconst 5, 1) := by decide +kernel
theorem dL_law_1169 : decode cL_law 1169 = .ok (.iadd, 1) := by decide +kernel
theorem dL_law_1170 : decode cL_law 1170 = .ok (.iaload, 1) := by decide +kernel
theorem dL_law_1171 : decode cL_law 1171 = .ok (.invokevirtual 141, 3) := by decide +kernel
theorem dL_law_1174 : decode cL_law 1174 = .ok (.aload_n 2, 1) := by decide +kernel
theorem dL_law_1175 : decode cL_law 1175 = .ok (.aload_n 0, 1) := by decide +kernel
theorem dL_law_1176 : decode cL_law 1176 = .ok (.iload_n 3, 1) := by decide +kernel
theorem dL_law_1177 : decode cL_law 1177 = .ok (.iconst 1, 1) := by decide +kernel
theorem dL_law_1178 : decode cL_law 1178 = .ok (.iadd, 1) := by decide +kernel
theorem dL_law_1179 : decode cL_law 1179 = .ok (.iaload, 1) := by decide +kernel
theorem dL_law_1180 : decode cL_law 1180 = .ok (.aload_n 0, 1) := by decide +kernel
theorem dL_law_1181 : decode cL_law 1181 = .ok (.iload_n 3, 1) := by decide +kernel
theorem dL_law_1182 : decode cL_law 1182 = .ok (.iconst 2, 1) := by decide +kernel
theorem dL_law_1183 : decode cL_law 1183 = .ok (.iadd, 1) := by decide +kernel
theorem dL_law_1184 : decode cL_law 1184 = .ok (.iaload, 1) := by decide +kernel
theorem dL_law_1185 : decode cL_law 1185 = .ok (.aload_n 0, 1) := by decide +kernel
theorem dL_law_1186 : decode cL_law 1186 = .ok (.iload_n 3, 1) := by decide +kernel
theorem dL_law_1187 : decode cL_law 1187 = .ok (.iconst 3, 1) := by decide +kernel
theorem dL_law_1188 : decode cL_law 1188 = .ok (.iadd, 1) := by decide +kernel
theorem dL_law_1189 : decode cL_law 1189 = .ok (.iaload, 1) := by decide +kernel
theorem dL_law_1190 : decode cL_law 1190 = .ok (.aload_n 0, 1) := by decide +kernel
theorem dL_law_1191 : decode cL_law 1191 = .ok (.iload_n 3, 1) := by decide +kernel
theorem dL_law_1192 : decode cL_law 1192 = .ok (.iconst 4, 1) := by decide +kernel
theorem dL_law_1193 : decode cL_law 1193 = .ok (.iadd, 1) := by decide +kernel
theorem dL_law_1194 : decode cL_law 1194 = .ok (.iaload, 1) := by decide +kernel
theorem dL_law_1195 : decode cL_law 1195 = .ok (.aload_n 0, 1) := by decide +kernel
theorem dL_law_1196 : decode cL_law 1196 = .ok (.iload_n 3, 1) := by decide +kernel
theorem dL_law_1197 : decode cL_law 1197 = .ok (.iconst 5, 1) := by decide +kernel
theorem dL_law_1198 : decode cL_law 1198 = .ok (.iadd, 1) := by decide +kernel
theorem dL_law_1199 : decode cL_law 1199 = .ok (.iaload, 1) := by decide +kernel
theorem dL_law_1200 : decode cL_law 1200 = .ok (.invokevirtual 145, 3) := by decide +kernel
theorem dL_law_1203 : decode cL_law 1203 = .ok (.if_icmp .eq 242, 3) := by decide +kernel
theorem dL_law_1206 : decode cL_law 1206 = .ok (.iconst 0, 1) := by decide +kernel
theorem dL_law_1207 : decode cL_law 1207 = .ok (.ireturn, 1) := by decide +kernel
theorem dL_law_1208 : decode cL_law 1208 = .ok (.aload_n 1, 1) := by decide +kernel
theorem dL_law_1209 : decode cL_law 1209 = .ok (.aload_n 0, 1) := by decide +kernel
theorem dL_law_1210 : decode cL_law 1210 = .ok (.iload_n 3, 1) := by decide +kernel
theorem dL_law_1211 : decode cL_law 1211 = .ok (.iconst 1, 1) := by decide +kernel
theorem dL_law_1212 : decode cL_law 1212 = .ok (.iadd, 1) := by decide +kernel
theorem dL_law_1213 : decode cL_law 1213 = .ok (.iaload, 1) := by decide +kernel
theorem dL_law_1214 : decode cL_law 1214 = .ok (.aload_n 0, 1) := by decide +kernel
theorem dL_law_1215 : decode cL_law 1215 = .ok (.iload_n 3, 1) := by decide +kernel
theorem dL_law_1216 : decode cL_law 1216 = .ok (.iconst 2, 1) := by decide +kernel
theorem dL_law_1217 : decode cL_law 1217 = .ok (.iadd, 1) := by decide +kernel
theorem dL_law_1218 : decode cL_law 1218 = .ok (.iaload, 1) := by decide +kernel
theorem dL_law_1219 : decode cL_law 1219 = .ok (.aload_n 0, 1) := by decide +kernel
theorem dL_law_1220 : decode cL_law 1220 = .ok (.iload_n 3, 1) := by decide +kernel
theorem dL_law_1221 : decode cL_law 1221 = .ok (.iconst 3, 1) := by decide +kernel
theorem dL_law_1222 : decode cL_law 1222 = .ok (.iadd, 1) := by decide +kernel
theorem dL_law_1223 : decode cL_law 1223 = .ok (.iaload, 1) := by decide +kernel
theorem dL_law_1224 : decode cL_law 1224 = .ok (.invokevirtual 146, 3) := by decide +kernel
theorem dL_law_1227 : decode cL_law 1227 = .ok (.aload_n 2, 1) := by decide +kernel
theorem dL_law_1228 : decode cL_law 1228 = .ok (.aload_n 0, 1) := by decide +kernel
theorem dL_law_1229 : decode cL_law 1229 = .ok (.iload_n 3, 1) := by decide +kernel
theorem dL_law_1230 : decode cL_law 1230 = .ok (.iconst 1, 1) := by decide +kernel
theorem dL_law_1231 : decode cL_law 1231 = .ok (.iadd, 1) := by decide +kernel
theorem dL_law_1232 : decode cL_law 1232 = .ok (.iaload, 1) := by decide +kernel
theorem dL_law_1233 : decode cL_law 1233 = .ok (.aload_n 0, 1) := by decide +kernel
theorem dL_law_1234 : decode cL_law 1234 = .ok (.iload_n 3, 1) := by decide +kernel
theorem dL_law_1235 : decode cL_law 1235 = .ok (.iconst 2, 1) := by decide +kernel
theorem dL_law_1236 : decode cL_law 1236 = .ok (.iadd, 1) := by decide +kernel
theorem dL_law_1237 : decode cL_law 1237 = .ok (.iaload, 1) := by decide +kernel
theorem dL_law_1238 : decode cL_law 1238 = .ok (.aload_n 0, 1) := by decide +kernel
theorem dL_law_1239 : decode cL_law 1239 = .ok (.iload_n 3, 1) := by decide +kernel
theorem dL_law_1240 : decode cL_law 1240 = .ok (.iconst 3, 1) := by decide +kernel
theorem dL_law_1241 : decode cL_law 1241 = .ok (.iadd, 1) := by decide +kernel
theorem dL_law_1242 : decode cL_law 1242 = .ok (.iaload, 1) := by decide +kernel
theorem dL_law_1243 : decode cL_law 1243 = .ok (.invokevirtual 149, 3) := by decide +kernel
theorem dL_law_1246 : decode cL_law 1246 = .ok (.if_icmp .eq 199, 3) := by decide +kernel
theorem dL_law_1249 : decode cL_law 1249 = .ok (.iconst 0, 1) := by decide +kernel
theorem dL_law_1250 : decode cL_law 1250 = .ok (.ireturn, 1) := by decide +kernel
theorem dL_law_1251 : decode cL_law 1251 = .ok (.aload_n 1, 1) := by decide +kernel
theorem dL_law_1252 : decode cL_law 1252 = .ok (.aload_n 0, 1) := by decide +kernel
theorem dL_law_1253 : decode cL_law 1253 = .ok (.iload_n 3, 1) := by decide +kernel
theorem dL_law_1254 : decode cL_law 1254 = .ok (.iconst 1, 1) := by decide +kernel
theorem dL_law_1255 : decode cL_law 1255 = .ok (.iadd, 1) := by decide +kernel
theorem dL_law_1256 : decode cL_law 1256 = .ok (.iaload, 1) := by decide +kernel
theorem dL_law_1257 : decode cL_law 1257 = .ok (.aload_n 0, 1) := by decide +kernel
theorem dL_law_1258 : decode cL_law 1258 = .ok (.iload_n 3, 1) := by decide +kernel
theorem dL_law_1259 : decode cL_law 1259 = .ok (.iconst 2, 1) := by decide +kernel
theorem dL_law_1260 : decode cL_law 1260 = .ok (.iadd, 1) := by decide +kernel
theorem dL_law_1261 : decode cL_law 1261 = .ok (.iaload, 1) := by decide +kernel
theorem dL_law_1262 : decode cL_law 1262 = .ok (.invokevirtual 150, 3) := by decide +kernel
theorem dL_law_1265 : decode cL_law 1265 = .ok (.aload_n 2, 1) := by decide +kernel
theorem dL_law_1266 : decode cL_law 1266 = .ok (.aload_n 0, 1) := by decide +kernel
theorem dL_law_1267 : decode cL_law 1267 = .ok (.iload_n 3, 1) := by decide +kernel
theorem dL_law_1268 : decode cL_law 1268 = .ok (.iconst 1, 1) := by decide +kernel
theorem dL_law_1269 : decode cL_law 1269 = .ok (.iadd, 1) := by decide +kernel
theorem dL_law_1270 : decode cL_law 1270 = .ok (.iaload, 1) := by decide +kernel
theorem dL_law_1271 : decode cL_law 1271 = .ok (.aload_n 0, 1) := by decide +kernel
theorem dL_law_1272 : decode cL_law 1272 = .ok (.iload_n 3, 1) := by decide +kernel
theorem dL_law_1273 : decode cL_law 1273 = .ok (.iconst 2, 1) := by decide +kernel
theorem dL_law_1274 : decode cL_law 1274 = .ok (.iadd, 1) := by decide +kernel
theorem dL_law_1275 : decode cL_law 1275 = .ok (.iaload, 1) := by decide +kernel
theorem dL_law_1276 : decode cL_law 1276 = .ok (.invokevirtual 153, 3) := by decide +kernel
theorem dL_law_1279 : decode cL_law 1279 = .ok (.if_icmp .eq 166, 3) := by decide +kernel
theorem dL_law_1282 : decode cL_law 1282 = .ok (.iconst 0, 1) := by decide +kernel
theorem dL_law_1283 : decode cL_law 1283 = .ok (.ireturn, 1) := by decide +kernel
theorem dL_law_1284 : decode cL_law 1284 = .ok (.aload_n 1, 1) := by decide +kernel
theorem dL_law_1285 : decode cL_law 1285 = .ok (.aload_n 0, 1) := by decide +kernel
theorem dL_law_1286 : decode cL_law 1286 = .ok (.iload_n 3, 1) := by decide +kernel
theorem dL_law_1287 : decode cL_law 1287 = .ok (.iconst 1, 1) := by decide +kernel
theorem dL_law_1288 : decode cL_law 1288 = .ok (.iadd, 1) := by decide +kernel
theorem dL_law_1289 : decode cL_law 1289 = .ok (.iaload, 1) := by decide +kernel
theorem dL_law_1290 : decode cL_law 1290 = .ok (.aload_n 0, 1) := by decide +kernel
theorem dL_law_1291 : decode cL_law 1291 = .ok (.iload_n 3, 1) := by decide +kernel
theorem dL_law_1292 : decode cL_law 1292 = .ok (.iconst 2, 1) := by decide +kernel
theorem dL_law_1293 : decode cL_law 1293 = .ok (.iadd, 1) := by decide +kernel
theorem dL_law_1294 : decode cL_law 1294 = .ok (.iaload, 1) := by decide +kernel
theorem dL_law_1295 : decode cL_law 1295 = .ok (.invokevirtual 154, 3) := by decide +kernel
theorem dL_law_1298 : decode cL_law 1298 = .ok (.aload_n 2, 1) := by decide +kernel
theorem dL_law_1299 : decode cL_law 1299 = .ok (.aload_n 0, 1) := by decide +kernel
theorem dL_law_1300 : decode cL_law 1300 = .ok (.iload_n 3, 1) := by decide +kernel
theorem dL_law_1301 : decode cL_law 1301 = .ok (.iconst 1, 1) := by decide +kernel
theorem dL_law_1302 : decode cL_law 1302 = .ok (.iadd, 1) := by decide +kernel
theorem dL_law_1303 : decode cL_law 1303 = .ok (.iaload, 1) := by decide +kernel
theorem dL_law_1304 : decode cL_law 1304 = .ok (.aload_n 0, 1) := by decide +kernel
theorem dL_law_1305 : decode cL_law 1305 = .ok (.iload_n 3, 1) := by decide +kernel
theorem dL_law_1306 : decode cL_law 1306 = .ok (.iconst 2, 1) := by decide +kernel
theorem dL_law_1307 : decode cL_law 1307 = .ok (.iadd, 1) := by decide +kernel
theorem dL_law_1308 : decode cL_law 1308 = .ok (.iaload, 1) := by decide +kernel
theorem dL_law_1309 : decode cL_law 1309 = .ok (.invokevirtual 157, 3) := by decide +kernel
theorem dL_law_1312 : decode cL_law 1312 = .ok (.if_icmp .eq 133, 3) := by decide +kernel
theorem dL_law_1315 : decode cL_law 1315 = .ok (.iconst 0, 1) := by decide +kernel
theorem dL_law_1316 : decode cL_law 1316 = .ok (.ireturn, 1) := by decide +kernel
theorem dL_law_1317 : decode cL_law 1317 = .ok (.aload_n 1, 1) := by decide +kernel
theorem dL_law_1318 : decode cL_law 1318 = .ok (.aload_n 0, 1) := by decide +kernel
theorem dL_law_1319 : decode cL_law 1319 = .ok (.iload_n 3, 1) := by decide +kernel
theorem dL_law_1320 : decode cL_law 1320 = .ok (.iconst 1, 1) := by decide +kernel
theorem dL_law_1321 : decode cL_law 1321 = .ok (.iadd, 1) := by decide +kernel
theorem dL_law_1322 : decode cL_law 1322 = .ok (.iaload, 1) := by decide +kernel
theorem dL_law_1323 : decode cL_law 1323 = .ok (.aload_n 0, 1) := by decide +kernel
theorem dL_law_1324 : decode cL_law 1324 = .ok (.iload_n 3, 1) := by decide +kernel
theorem dL_law_1325 : decode cL_law 1325 = .ok (.iconst 2, 1) := by decide +kernel
theorem dL_law_1326 : decode cL_law 1326 = .ok (.iadd, 1) := by decide +kernel
theorem dL_law_1327 : decode cL_law 1327 = .ok (.iaload, 1) := by decide +kernel
theorem dL_law_1328 : decode cL_law 1328 = .ok (.invokevirtual 158, 3) := by decide +kernel
theorem dL_law_1331 : decode cL_law 1331 = .ok (.aload_n 2, 1) := by decide +kernel
theorem dL_law_1332 : decode cL_law 1332 = .ok (.aload_n 0, 1) := by decide +kernel
theorem dL_law_1333 : decode cL_law 1333 = .ok (.iload_n 3, 1) := by decide +kernel
theorem dL_law_1334 : decode cL_law 1334 = .ok (.iconst 1, 1) := by decide +kernel
theorem dL_law_1335 : decode cL_law 1335 = .ok (.iadd, 1) := by decide +kernel
theorem dL_law_1336 : decode cL_law 1336 = .ok (.iaload, 1) := by decide +kernel
theorem dL_law_1337 : decode cL_law 1337 = .ok (.aload_n 0, 1) := by decide +kernel
theorem dL_law_1338 : decode cL_law 1338 = .ok (.iload_n 3, 1) := by decide +kernel
theorem dL_law_1339 : decode cL_law 1339 = .ok (.iconst 2, 1) := by decide +kernel
theorem dL_law_1340 : decode cL_law 1340 = .ok (.iadd, 1) := by decide +kernel
theorem dL_law_1341 : decode cL_law 1341 = .ok (.iaload, 1) := by decide +kernel
theorem dL_law_1342 : decode cL_law 1342 = .ok (.invokevirtual 161, 3) := by decide +kernel
theorem dL_law_1345 : decode cL_law 1345 = .ok (.if_icmp .eq 100, 3) := by decide +kernel
theorem dL_law_1348 : decode cL_law 1348 = .ok (.iconst 0, 1) := by decide +kernel
theorem dL_law_1349 : decode cL_law 1349 = .ok (.ireturn, 1) := by decide +kernel
theorem dL_law_1350 : decode cL_law 1350 = .ok (.aload_n 1, 1) := by decide +kernel
theorem dL_law_1351 : decode cL_law 1351 = .ok (.aload_n 0, 1) := by decide +kernel
theorem dL_law_1352 : decode cL_law 1352 = .ok (.iload_n 3, 1) := by decide +kernel
theorem dL_law_1353 : decode cL_law 1353 = .ok (.iconst 1, 1) := by decide +kernel
theorem dL_law_1354 : decode cL_law 1354 = .ok (.iadd, 1) := by decide +kernel
theorem dL_law_1355 : decode cL_law 1355 = .ok (.iaload, 1) := by decide +kernel
theorem dL_law_1356 : decode cL_law 1356 = .ok (.invokevirtual 162, 3) := by decide +kernel
theorem dL_law_1359 : decode cL_law 1359 = .ok (.aload_n 2, 1) := by decide +kernel
theorem dL_law_1360 : decode cL_law 1360 = .ok (.aload_n 0, 1) := by decide +kernel
theorem dL_law_1361 : decode cL_law 1361 = .ok (.iload_n 3, 1) := by decide +kernel
theorem dL_law_1362 : decode cL_law 1362 = .ok (.iconst 1, 1) := by decide +kernel
theorem dL_law_1363 : decode cL_law 1363 = .ok (.iadd, 1) := by decide +kernel
theorem dL_law_1364 : decode cL_law 1364 = .ok (.iaload, 1) := by decide +kernel
theorem dL_law_1365 : decode cL_law 1365 = .ok (.invokevirtual 165, 3) := by decide +kernel
theorem dL_law_1368 : decode cL_law 1368 = .ok (.if_icmp .eq 77, 3) := by decide +kernel
theorem dL_law_1371 : decode cL_law 1371 = .ok (.iconst 0, 1) := by decide +kernel
theorem dL_law_1372 : decode cL_law 1372 = .ok (.ireturn, 1) := by decide +kernel
theorem dL_law_1373 : decode cL_law 1373 = .ok (.aload_n 1, 1) := by decide +kernel
theorem dL_law_1374 : decode cL_law 1374 = .ok (.aload_n 0, 1) := by decide +kernel
theorem dL_law_1375 : decode cL_law 1375 = .ok (.iload_n 3, 1) := by decide +kernel
theorem dL_law_1376 : decode cL_law 1376 = .ok (.iconst 1, 1) := by decide +kernel
theorem dL_law_1377 : decode cL_law 1377 = .ok (.iadd, 1) := by decide +kernel
theorem dL_law_1378 : decode cL_law 1378 = .ok (.iaload, 1) := by decide +kernel
theorem dL_law_1379 : decode cL_law 1379 = .ok (.invokevirtual 166, 3) := by decide +kernel
theorem dL_law_1382 : decode cL_law 1382 = .ok (.aload_n 2, 1) := by decide +kernel
theorem dL_law_1383 : decode cL_law 1383 = .ok (.aload_n 0, 1) := by decide +kernel
theorem dL_law_1384 : decode cL_law 1384 = .ok (.iload_n 3, 1) := by decide +kernel
theorem dL_law_1385 : decode cL_law 1385 = .ok (.iconst 1, 1) := by decide +kernel
theorem dL_law_1386 : decode cL_law 1386 = .ok (.iadd, 1) := by decide +kernel
theorem dL_law_1387 : decode cL_law 1387 = .ok (.iaload, 1) := by decide +kernel
theorem dL_law_1388 : decode cL_law 1388 = .ok (.invokevirtual 169, 3) := by decide +kernel
theorem dL_law_1391 : decode cL_law 1391 = .ok (.if_icmp .eq 54, 3) := by decide +kernel
theorem dL_law_1394 : decode cL_law 1394 = .ok (.iconst 0, 1) := by decide +kernel
theorem dL_law_1395 : decode cL_law 1395 = .ok (.ireturn, 1) := by decide +kernel
theorem dL_law_1396 : decode cL_law 1396 = .ok (.aload_n 1, 1) := by decide +kernel
theorem dL_law_1397 : decode cL_law 1397 = .ok (.invokevirtual 170, 3) := by decide +kernel
theorem dL_law_1400 : decode cL_law 1400 = .ok (.aload_n 2, 1) := by decide +kernel
theorem dL_law_1401 : decode cL_law 1401 = .ok (.invokevirtual 173, 3) := by decide +kernel
theorem dL_law_1404 : decode cL_law 1404 = .ok (.if_icmp .eq 41, 3) := by decide +kernel
theorem dL_law_1407 : decode cL_law 1407 = .ok (.iconst 0, 1) := by decide +kernel
theorem dL_law_1408 : decode cL_law 1408 = .ok (.ireturn, 1) := by decide +kernel
theorem dL_law_1409 : decode cL_law 1409 = .ok (.aload_n 1, 1) := by decide +kernel
theorem dL_law_1410 : decode cL_law 1410 = .ok (.invokevirtual 174, 3) := by decide +kernel
theorem dL_law_1413 : decode cL_law 1413 = .ok (.aload_n 2, 1) := by decide +kernel
theorem dL_law_1414 : decode cL_law 1414 = .ok (.invokevirtual 177, 3) := by decide +kernel
theorem dL_law_1417 : decode cL_law 1417 = .ok (.if_icmp .eq 28, 3) := by decide +kernel
theorem dL_law_1420 : decode cL_law 1420 = .ok (.iconst 0, 1) := by decide +kernel
theorem dL_law_1421 : decode cL_law 1421 = .ok (.ireturn, 1) := by decide +kernel
theorem dL_law_1422 : decode cL_law 1422 = .ok (.aload_n 1, 1) := by decide +kernel
theorem dL_law_1423 : decode cL_law 1423 = .ok (.aload_n 0, 1) := by decide +kernel
theorem dL_law_1424 : decode cL_law 1424 = .ok (.iload_n 3, 1) := by decide +kernel
theorem dL_law_1425 : decode cL_law 1425 = .ok (.iconst 1, 1) := by decide +kernel
theorem dL_law_1426 : decode cL_law 1426 = .ok (.iadd, 1) := by decide +kernel
theorem dL_law_1427 : decode cL_law 1427 = .ok (.iaload, 1) := by decide +kernel
theorem dL_law_1428 : decode cL_law 1428 = .ok (.invokevirtual 178, 3) := by decide +kernel
theorem dL_law_1431 : decode cL_law 1431 = .ok (.aload_n 2, 1) := by decide +kernel
theorem dL_law_1432 : decode cL_law 1432 = .ok (.aload_n 0, 1) := by decide +kernel
theorem dL_law_1433 : decode cL_law 1433 = .ok (.iload_n 3, 1) := by decide +kernel
theorem dL_law_1434 : decode cL_law 1434 = .ok (.iconst 1, 1) := by decide +kernel
theorem dL_law_1435 : decode cL_law 1435 = .ok (.iadd, 1) := by decide +kernel
theorem dL_law_1436 : decode cL_law 1436 = .ok (.iaload, 1) := by decide +kernel
theorem dL_law_1437 : decode cL_law 1437 = .ok (.invokevirtual 181, 3) := by decide +kernel
theorem dL_law_1440 : decode cL_law 1440 = .ok (.if_icmp .eq 5, 3) := by decide +kernel
theorem dL_law_1443 : decode cL_law 1443 = .ok (.iconst 0, 1) := by decide +kernel
theorem dL_law_1444 : decode cL_law 1444 = .ok (.ireturn, 1) := by decide +kernel
theorem dL_law_1445 : decode cL_law 1445 = .ok (.iinc 3 6, 3) := by decide +kernel
theorem dL_law_1448 : decode cL_law 1448 = .ok (.goto (-1430), 3) := by decide +kernel
theorem dL_law_1451 : decode cL_law 1451 = .ok (.iconst 1, 1) := by decide +kernel
theorem dL_law_1452 : decode cL_law 1452 = .ok (.ireturn, 1) := by decide +kernel
end
section
/-! THE WORLD: 139 cells at fixed relative addresses; ints in a memory, references by the layout -/
def gw_tbl : List Cond := lw_tbl.filter goodWord
theorem gw_in {w : Cond} (h : w ∈ lw_tbl) (hg : goodWord w = true) : w ∈ gw_tbl := List.mem_filter.mpr ⟨h, hg⟩
theorem gw_lw {w : Cond} (h : w ∈ gw_tbl) : w ∈ lw_tbl := (List.mem_filter.mp h).1
theorem gw_good {big : List Cond} (hb : ∀ w ∈ gw_tbl, w ∈ big) : GoodIn big gw_tbl := fun w h => ⟨hb w h, good_of_word (List.mem_filter.mp h).2⟩
abbrev wf_Mem : Type := Nat → Nat → Int32
def wf_ms (m : wf_Mem) (a k : Nat) (v : Int32) : wf_Mem := fun b j => if b = a ∧ j = k then v else m b j
theorem wf_ms_same (m : wf_Mem) (a k : Nat) (v : Int32) : wf_ms m a k v a = upd (m a) k v := by
  funext j
  simp [wf_ms, upd]
theorem wf_ms_other (m : wf_Mem) (a k : Nat) (v : Int32) {b : Nat} (h : b ≠ a) : wf_ms m a k v b = m b := by
  funext j
  simp [wf_ms, h]
/-- kinds: 0 .. 9 objects of that class (vwCl); 20 a row of ints; 21 .. 24 rows of Law, Watcher, Sheet, Slot -/
def wf_shC : List (Nat × Nat) := [(0, 0), (3, 0), (20, 12), (20, 12), (20, 12), (22, 8), (20, 3), (20, 12), (20, 12), (7, 0), (7, 0), (7, 0), (7, 0), (7, 0), (7, 0), (7, 0), (7, 0)]
def wf_shL : List (Nat × Nat) :=
  [(8, 0), (1, 0), (20, 28), (6, 0), (20, 96), (20, 96), (23, 4), (24, 5), (20, 60), (20, 96), (21, 15),
   (2, 0), (20, 96), (2, 0), (20, 96), (2, 0), (20, 96), (2, 0), (20, 96), (2, 0), (20, 96), (2, 0), (20, 96), (2, 0), (20, 96), (2, 0), (20, 96), (2, 0), (20, 96), (2, 0), (20, 96), (2, 0), (20, 96), (2, 0), (20, 96), (2, 0), (20, 96), (2, 0), (20, 96), (2, 0), (20, 96)]
  ++ (wf_shC ++ (wf_shC ++ (wf_shC ++
  [(4, 0), (20, 24), (4, 0), (20, 24), (4, 0), (20, 24), (4, 0), (20, 24),
   (5, 0), (7, 0), (4, 0), (20, 24), (5, 0), (7, 0), (4, 0), (20, 24), (5, 0), (7, 0), (4, 0), (20, 24), (5, 0), (7, 0), (4, 0), (20, 24), (5, 0), (7, 0), (4, 0), (20, 24),
   (9, 0), (20, 3088), (20, 3088), (20, 3088), (20, 4), (20, 4), (20, 96), (20, 5), (20, 5), (20, 5), (20, 5), (20, 120), (20, 88), (20, 96), (20, 128), (20, 100), (20, 24), (20, 60), (20, 60)])))
theorem wf_shL_len : wf_shL.length = 139 := by decide +kernel
def wf_sh (a : Nat) : Nat × Nat := wf_shL.getD a (99, 0)
theorem wf_sh_lt {a : Nat} {q : Nat × Nat} (h : wf_sh a = q) (hq : q.1 ≠ 99) : a < 139 := by
  rcases Nat.lt_or_ge a 139 with h1 | h1
  · exact h1
  · exfalso
    apply hq
    rw [← h, wf_sh, List.getD_eq_getElem?_getD, List.getElem?_eq_none (by rw [wf_shL_len]; exact h1)]
    rfl
def wf_N (ci : Nat) : Nat := match ci with
  | 0 => 17
  | 1 => 4
  | 2 => 5
  | 3 => 4
  | 4 => 3
  | 5 => 4
  | 6 => 9
  | 7 => 5
  | 8 => 11
  | _ => 33
/-- what a slot of an object holds: its references by the layout, its ints by the memory -/
def wf_rfl (ci a k : Nat) : Option Nat := match ci, k with
  | 0, 0 => some (a + 1)
  | 0, 1 => some (a + 5)
  | 0, 11 => some 10
  | 0, 13 => some (a + 6)
  | 0, 14 => some (a + 7)
  | 0, 15 => some (a + 8)
  | 1, 0 => some (a + 1)
  | 2, 2 => some (a + 1)
  | 2, 4 => some 9
  | 3, 1 => some (a + 1)
  | 3, 2 => some (a + 2)
  | 3, 3 => some (a + 3)
  | 4, 2 => some (a + 1)
  | 5, 2 => some (a + 1)
  | 5, 3 => some (a + 2)
  | 6, 0 => some (a + 1)
  | 6, 4 => some (a + 2)
  | 8, 0 => some 10
  | 8, 1 => some 41
  | 8, 2 => some 58
  | 8, 3 => some 75
  | 8, 4 => some 1
  | 8, 5 => some 3
  | 8, 6 => some 6
  | 8, 7 => some 7
  | 8, 8 => some 8
  | 9, 0 => some 121
  | 9, 1 => some 122
  | 9, 2 => some 123
  | 9, 4 => some 124
  | 9, 5 => some 125
  | 9, 6 => some 126
  | 9, 7 => some 127
  | 9, 8 => some 128
  | 9, 9 => some 129
  | 9, 10 => some 130
  | 9, 11 => some 131
  | 9, 14 => some 132
  | 9, 15 => some 133
  | 9, 27 => some 134
  | 9, 28 => some 135
  | 9, 29 => some 136
  | 9, 30 => some 137
  | 9, 32 => some 138
  | _, _ => none
def wf_vl (f : Nat → Int32) (ci a k : Nat) : Value := match wf_rfl ci a k with
  | some b => .ref b
  | none => .int (f k)
theorem wf_vl_upd {f : Nat → Int32} {ci a k j : Nat} {x : Int32} (h : j ≠ k) : wf_vl (upd f k x) ci a j = wf_vl f ci a j := by
  unfold wf_vl
  split
  · rfl
  · simp [upd, h]
theorem wf_vl_int {f : Nat → Int32} {ci a k : Nat} (h : wf_rfl ci a k = none) : wf_vl f ci a k = .int (f k) := by
  unfold wf_vl
  rw [h]
def wf_tr (ad : Nat → Nat) : Value → Value
  | .ref a => .ref (ad a)
  | v => v
theorem wf_tr_cat (ad : Nat → Nat) (v : Value) : (wf_tr ad v).category = v.category := by cases v <;> rfl
/-- the places of a row of references -/
def wf_el (kd a i : Nat) : Nat := match kd with
  | 21 => a + 1 + 2 * i
  | 22 => a + 4 + i
  | 23 => 92 + 2 * i
  | _ => 100 + 4 * i
/-- dC, dI; the classes of rows, by kind; the addresses -/
abbrev wf_G : Type := va_G × (Nat → ClassId) × (Nat → Nat)
def wf_E (G : wf_G) (f : Nat → Int32) (a : Nat) : va_E :=
  if (wf_sh a).1 < 10 then .inr ((wf_sh a).1, (List.range (wf_N (wf_sh a).1)).map (fun k => wf_tr G.2.2 (wf_vl f (wf_sh a).1 a k)))
  else if (wf_sh a).1 = 20 then .inl (G.2.1 20, (wf_sh a).2, .inl f)
  else .inl (G.2.1 (wf_sh a).1, (wf_sh a).2, .inr (.inr (.inr (.inr (fun i => some (G.2.2 (wf_el (wf_sh a).1 a i)))))))
def wf_ws (G : wf_G) (m : wf_Mem) : va_W := (List.range 139).map (fun a => (G.2.2 a, wf_E G (m a) a))
theorem wf_ws_at {G : wf_G} {m : wf_Mem} {a : Nat} (ha : a < 139) : (wf_ws G m)[a]? = some (G.2.2 a, wf_E G (m a) a) := by
  simp [wf_ws, ha]
theorem wf_ws_len (G : wf_G) (m : wf_Mem) : (wf_ws G m).length = 139 := by simp [wf_ws]
theorem wf_ws_set {G : wf_G} {m : wf_Mem} {a k : Nat} {x : Int32} {e : va_E} (ha : a < 139) (he : e = wf_E G (upd (m a) k x) a) : (wf_ws G m).set a (G.2.2 a, e) = wf_ws G (wf_ms m a k x) := by
  subst he
  apply List.ext_getElem?
  intro j
  rcases Nat.lt_or_ge j 139 with hj | hj
  · rw [wf_ws_at hj]
    by_cases h : j = a
    · subst h
      rw [List.getElem?_set_self (by rw [wf_ws_len]; exact hj), wf_ms_same]
    · rw [List.getElem?_set_ne (Ne.symm h), wf_ws_at hj, wf_ms_other _ _ _ _ h]
  · rw [List.getElem?_eq_none (by rw [List.length_set, wf_ws_len]; exact hj), List.getElem?_eq_none (by rw [wf_ws_len]; exact hj)]
def wf_tys (G : wf_G) : List (ClassId × FieldType) := [(G.2.1 20, .int), (G.2.1 21, .object RX2), (G.2.1 22, .object RX7), (G.2.1 23, .object RX4), (G.2.1 24, .object RX5)]
def wf_A (G : wf_G) : Nat → Prop := fun q => ∃ a, a < 139 ∧ q = G.2.2 a
theorem wf_D {G : wf_G} (hi : ∀ a b, a < 139 → b < 139 → G.2.2 a = G.2.2 b → a = b) (m : wf_Mem) : va_D (wf_A G) (wf_ws G m) := by
  have lt : ∀ {i : Nat} {q : Nat × va_E}, (wf_ws G m)[i]? = some q → i < 139 := fun {i} {q} h => by
    have := (List.getElem?_eq_some_iff.mp h).1
    rw [wf_ws_len] at this
    exact this
  refine ⟨fun i j x y h1 h2 e => ?_, fun k q h => ?_⟩
  · have a1 := lt h1
    have a2 := lt h2
    rw [wf_ws_at a1] at h1
    rw [wf_ws_at a2] at h2
    cases h1
    cases h2
    exact hi i j a1 a2 e
  · have a1 := lt h
    rw [wf_ws_at a1] at h
    cases h
    exact ⟨k, a1, rfl⟩
/-- the string constants of Tape: light fear tire fnw gth te; String i lies at 100000 + 2 i, its bytes at the next -/
def wf_sLen : List Nat := [5, 4, 4, 3, 3, 2]
def wf_sByt : List (List Int32) := [[108, 105, 103, 104, 116], [102, 101, 97, 114], [116, 105, 114, 101], [102, 110, 119], [103, 116, 104], [116, 101]]
def wf_abv : Nat → Int32 := fun j => [(-1 : Int32), 0, 0, 1, 2, 0].getD j 0
def wf_nest : List Cond := [.methodLinkNest RX3 25 yX8_within RX8, .methodLinkNest RX0 87 yX8_within RX8, .methodLinkNest RX0 118 yX8_held RX8, .fieldLinkNest RX7 31 RX8 "ABOVE" "[I" RX8, .methodLinkNest RX7 35 yX8_isKind RX8, .methodLinkNest RX7 27 yX8_within RX8, .methodLinkNest RX4 22 yX8_within RX8]
/-- what nobody writes: statics, string constants, links among nest mates -/
def wf_St (G : wf_G) (U : State) : Prop :=
  va_Z RX8 "ABOVE" "[I" (.ref (G.2.2 90000)) (wf_A G) U U.heap ∧ va_T .int (G.2.2 90000) 6 (fun j => .int (wf_abv j)) (wf_A G) U U.heap ∧
  va_Z RJ0 "COMPACT_STRINGS" "Z" (.int 1) (wf_A G) U U.heap ∧
  vk_S 6 wf_sLen wf_sByt (fun i => G.2.2 (100000 + 2 * i)) (fun i => G.2.2 (100001 + 2 * i)) (wf_A G) U U.heap ∧
  (vk_R RX6 78 "light" (G.2.2 100000) U ∧ vk_R RX6 84 "fear" (G.2.2 100002) U ∧ vk_R RX6 86 "tire" (G.2.2 100004) U ∧ vk_R RX6 124 "fnw" (G.2.2 100006) U ∧ vk_R RX6 126 "gth" (G.2.2 100008) U ∧ vk_R RX6 128 "te" (G.2.2 100010) U) ∧
  ∀ w ∈ wf_nest, va_Nw w U
def wf_Wd (G : wf_G) (mem : wf_Mem) (s : State) (H : Heap) : Prop :=
  va_K G.1 vwCl (wf_tys G) s ∧ va_P G.1 vwCl (wf_ws G mem) H ∧ (∀ a b, a < 139 → b < 139 → G.2.2 a = G.2.2 b → a = b)
theorem wf_nest_warm {s U : State} (hW : s.WarmedH U.vm) (h : ∀ w ∈ wf_nest, va_Nw w s) : ∀ w ∈ wf_nest, va_Nw w U := by
  intro w hw
  have h1 := h w hw
  simp only [wf_nest, List.mem_cons, List.not_mem_nil, or_false] at hw
  rcases hw with rfl | rfl | rfl | rfl | rfl | rfl | rfl
  · exact va_Nw.warmM hW h1
  · exact va_Nw.warmM hW h1
  · exact va_Nw.warmM hW h1
  · exact va_Nw.warmF hW h1
  · exact va_Nw.warmM hW h1
  · exact va_Nw.warmM hW h1
  · exact va_Nw.warmM hW h1
/-- the statics at another state: warmer tables, a heap that is the same off the world -/
theorem wf_St.go {G : wf_G} {s U : State} {H : Heap} {locs : List Loc} (h : wf_St G s) (hW : s.WarmedH U.vm) (hU : U.heap = H) (hS : va_S (wf_A G) s.heap H locs) : wf_St G U := by
  obtain ⟨h1, h2, h3, h4, ⟨r1, r2, r3, r4, r5, r6⟩, h6⟩ := h
  have hq : ∀ a : Nat, a < s.heap.size → ¬ wf_A G a → U.heap[a]? = s.heap[a]? := fun a g1 g2 => by rw [hU]; exact hS.2.1 a g1 g2
  exact ⟨(h1.kept hq).moved hW.alike, (h2.kept hq).moved hW.alike, (h3.kept hq).moved hW.alike, (h4.kept hq).moved hW.alike, ⟨r1.warm hW, r2.warm hW, r3.warm hW, r4.warm hW, r5.warm hW, r6.warm hW⟩, wf_nest_warm hW h6⟩
end
section
/-! THE JUDGEMENT: at pc, with these locals and this stack (relative references), over this memory, the method comes to its end N -/
abbrev wf_M : Type := MethodName × ByteArray × Nat × Option FieldType
abbrev wf_Nd : Type := Room × Nat × Nat × (wf_G → State → Array Value → Prop) × (wf_G → List Frame → Array Value → State → State → Prop)
def wf_cx (M : wf_M) (p : Program) (s : State) (m : MethodId) (args : Array Value) (meth : Method) (c : Code) : Prop :=
  p.tables.exec = Jvm.exec ∧ c.code = M.2.1 ∧ meth.sig.returnType = M.2.2.2 ∧ c.maxLocals = M.2.2.1 ∧ s.vm.findClass M.1.cls = some m.cls ∧ meth.locks = false ∧ ∀ w ∈ gw_tbl, w.before args s = true
def wf_lv (G : wf_G) (lv : List (Nat × Value)) : List (Nat × Value) := lv.map (fun q => (q.1, wf_tr G.2.2 q.2))
def Vw (N : wf_Nd) (M : wf_M) (pc : Nat) (lv : List (Nat × Value)) (st : List Value) (mem : wf_Mem) : Prop :=
  ∀ (G : wf_G) (p : Program) (l : Launch) (e : Env) (s : State) (m : MethodId) (args : Array Value) (below : List Frame) (meth : Method) (c : Code) (H : Heap) (locs : List Loc) (ls : Array Slot),
    wf_cx M p s m args meth c → wf_Wd G mem s H → wf_St G s → va_S (wf_A G) s.heap H locs → lv_has ls M.2.2.1 (wf_lv G lv) → N.2.2.2.1 G s args →
    W p l e N.1 s m args below meth c H locs N.2.1 N.2.2.1 (N.2.2.2.2 G below args s) (F0 m pc ls (st.map (wf_tr G.2.2)))
section WFR
variable {N : wf_Nd} {M : wf_M} {pc : Nat} {lv : List (Nat × Value)} {st : List Value} {mem : wf_Mem}
/-- a step of the stack alone -/
theorem wf_stp {pc' : Nat} {st' : List Value} (h : ∀ (ad : Nat → Nat) (p : Program) (l : Launch) (e : Env) (R : Room) (s : State) (m : MethodId) (args : Array Value) (below : List Frame) (meth : Method) (c : Code) (H : Heap) (locs : List Loc) (cells slots : Nat) (Q : State → Prop) (ls : Array Slot), p.tables.exec = Jvm.exec → c.code = M.2.1 → W p l e R s m args below meth c H locs cells slots Q (F0 m pc' ls (st'.map (wf_tr ad))) → W p l e R s m args below meth c H locs cells slots Q (F0 m pc ls (st.map (wf_tr ad))))
    (k : Vw N M pc' lv st' mem) : Vw N M pc lv st mem := by
  intro G p l e s m args below meth c H locs ls C D Z S L X
  exact h _ p l e _ s m args below meth c H locs _ _ _ ls C.1 C.2.1 (k G p l e s m args below meth c H locs ls C D Z S L X)
theorem V_iconst {n : Int} {v : Int32} (hd : decode M.2.1 pc = .ok (.iconst n, 1)) (hv : Int32.ofInt n = v) (k : Vw N M (pc + 1) lv (.int v :: st) mem) : Vw N M pc lv st mem := wf_stp (fun _ _ _ _ _ _ _ _ _ _ _ _ _ _ _ _ _ hx hb k => lv_iconst hx hb hd hv k) k
theorem V_bipush {n : Int} {v : Int32} (hd : decode M.2.1 pc = .ok (.bipush n, 2)) (hv : (Int8.ofInt n).toInt32 = v) (k : Vw N M (pc + 2) lv (.int v :: st) mem) : Vw N M pc lv st mem := wf_stp (fun _ _ _ _ _ _ _ _ _ _ _ _ _ _ _ _ _ hx hb k => lv_bipush hx hb hd hv k) k
theorem V_sipush {n : Int} {v : Int32} (hd : decode M.2.1 pc = .ok (.sipush n, 3)) (hv : (Int16.ofInt n).toInt32 = v) (k : Vw N M (pc + 3) lv (.int v :: st) mem) : Vw N M pc lv st mem := wf_stp (fun _ _ _ _ _ _ _ _ _ _ _ _ _ _ _ _ _ hx hb k => lv_sipush hx hb hd hv k) k
theorem V_lconst {n : Fin 2} {v : Int64} (hd : decode M.2.1 pc = .ok (.lconst n, 1)) (hv : Int64.ofNat (n : Nat) = v) (k : Vw N M (pc + 1) lv (.long v :: st) mem) : Vw N M pc lv st mem := wf_stp (fun _ _ _ _ _ _ _ _ _ _ _ _ _ _ _ _ _ hx hb k => lv_lconst hx hb hd hv k) k
theorem V_iadd {x y : Int32} (hd : decode M.2.1 pc = .ok (.iadd, 1)) (k : Vw N M (pc + 1) lv (.int (x + y) :: st) mem) : Vw N M pc lv (.int y :: .int x :: st) mem := wf_stp (fun _ _ _ _ _ _ _ _ _ _ _ _ _ _ _ _ _ hx hb k => lv_iadd hx hb hd k) k
theorem V_isub {x y : Int32} (hd : decode M.2.1 pc = .ok (.isub, 1)) (k : Vw N M (pc + 1) lv (.int (x - y) :: st) mem) : Vw N M pc lv (.int y :: .int x :: st) mem := wf_stp (fun _ _ _ _ _ _ _ _ _ _ _ _ _ _ _ _ _ hx hb k => lv_isub hx hb hd k) k
theorem V_imul {x y : Int32} (hd : decode M.2.1 pc = .ok (.imul, 1)) (k : Vw N M (pc + 1) lv (.int (x * y) :: st) mem) : Vw N M pc lv (.int y :: .int x :: st) mem := wf_stp (fun _ _ _ _ _ _ _ _ _ _ _ _ _ _ _ _ _ hx hb k => lv_imul hx hb hd k) k
theorem V_iand {x y : Int32} (hd : decode M.2.1 pc = .ok (.iand, 1)) (k : Vw N M (pc + 1) lv (.int (x &&& y) :: st) mem) : Vw N M pc lv (.int y :: .int x :: st) mem := wf_stp (fun _ _ _ _ _ _ _ _ _ _ _ _ _ _ _ _ _ hx hb k => lv_iand hx hb hd k) k
theorem V_ior {x y : Int32} (hd : decode M.2.1 pc = .ok (.ior, 1)) (k : Vw N M (pc + 1) lv (.int (x ||| y) :: st) mem) : Vw N M pc lv (.int y :: .int x :: st) mem := wf_stp (fun _ _ _ _ _ _ _ _ _ _ _ _ _ _ _ _ _ hx hb k => lv_ior hx hb hd k) k
theorem V_idiv {x y : Int32} (hd : decode M.2.1 pc = .ok (.idiv, 1)) (h : (¬ y = 0) ∧ Vw N M (pc + 1) lv (.int (x / y) :: st) mem) : Vw N M pc lv (.int y :: .int x :: st) mem := wf_stp (fun _ _ _ _ _ _ _ _ _ _ _ _ _ _ _ _ _ hx hb k => lv_idiv hx hb hd h.1 k) h.2
theorem V_irem {x y : Int32} (hd : decode M.2.1 pc = .ok (.irem, 1)) (h : (¬ y = 0) ∧ Vw N M (pc + 1) lv (.int (x - x / y * y) :: st) mem) : Vw N M pc lv (.int y :: .int x :: st) mem := wf_stp (fun _ _ _ _ _ _ _ _ _ _ _ _ _ _ _ _ _ hx hb k => lv_irem hx hb hd h.1 k) h.2
theorem V_ineg {x : Int32} (hd : decode M.2.1 pc = .ok (.ineg, 1)) (k : Vw N M (pc + 1) lv (.int (0 - x) :: st) mem) : Vw N M pc lv (.int x :: st) mem := wf_stp (fun _ _ _ _ _ _ _ _ _ _ _ _ _ _ _ _ _ hx hb k => lv_ineg hx hb hd k) k
theorem V_ladd {x y : Int64} (hd : decode M.2.1 pc = .ok (.ladd, 1)) (k : Vw N M (pc + 1) lv (.long (x + y) :: st) mem) : Vw N M pc lv (.long y :: .long x :: st) mem := wf_stp (fun _ _ _ _ _ _ _ _ _ _ _ _ _ _ _ _ _ hx hb k => lv_ladd hx hb hd k) k
theorem V_ishl {x y : Int32} (hd : decode M.2.1 pc = .ok (.ishl, 1)) (k : Vw N M (pc + 1) lv (.int (x <<< (y &&& 31)) :: st) mem) : Vw N M pc lv (.int y :: .int x :: st) mem := wf_stp (fun _ _ _ _ _ _ _ _ _ _ _ _ _ _ _ _ _ hx hb k => lv_ishl hx hb hd k) k
theorem V_ishr {x y : Int32} (hd : decode M.2.1 pc = .ok (.ishr, 1)) (k : Vw N M (pc + 1) lv (.int (x >>> (y &&& 31)) :: st) mem) : Vw N M pc lv (.int y :: .int x :: st) mem := wf_stp (fun _ _ _ _ _ _ _ _ _ _ _ _ _ _ _ _ _ hx hb k => lv_ishr hx hb hd k) k
theorem V_iushr {x y : Int32} (hd : decode M.2.1 pc = .ok (.iushr, 1)) (k : Vw N M (pc + 1) lv (.int (x.toUInt32 >>> (y.toUInt32 &&& Int32.toUInt32 31)).toInt32 :: st) mem) : Vw N M pc lv (.int y :: .int x :: st) mem := wf_stp (fun _ _ _ _ _ _ _ _ _ _ _ _ _ _ _ _ _ hx hb k => lv_iushr hx hb hd rfl k) k
theorem V_i2l {x : Int32} (hd : decode M.2.1 pc = .ok (.i2l, 1)) (k : Vw N M (pc + 1) lv (.long x.toInt64 :: st) mem) : Vw N M pc lv (.int x :: st) mem := wf_stp (fun _ _ _ _ _ _ _ _ _ _ _ _ _ _ _ _ _ hx hb k => lv_i2l hx hb hd rfl k) k
theorem V_i2s {x : Int32} (hd : decode M.2.1 pc = .ok (.i2s, 1)) (k : Vw N M (pc + 1) lv (.int x.toInt16.toInt32 :: st) mem) : Vw N M pc lv (.int x :: st) mem := wf_stp (fun _ _ _ _ _ _ _ _ _ _ _ _ _ _ _ _ _ hx hb k => lv_i2s hx hb hd rfl k) k
theorem V_i2b {x : Int32} (hd : decode M.2.1 pc = .ok (.i2b, 1)) (k : Vw N M (pc + 1) lv (.int x.toInt8.toInt32 :: st) mem) : Vw N M pc lv (.int x :: st) mem := wf_stp (fun _ _ _ _ _ _ _ _ _ _ _ _ _ _ _ _ _ hx hb k => lv_i2b hx hb hd rfl k) k
theorem V_i2c {x : Int32} (hd : decode M.2.1 pc = .ok (.i2c, 1)) (k : Vw N M (pc + 1) lv (.int (x.toUInt32 % 65536).toInt32 :: st) mem) : Vw N M pc lv (.int x :: st) mem := wf_stp (fun _ _ _ _ _ _ _ _ _ _ _ _ _ _ _ _ _ hx hb k => lv_i2c hx hb hd rfl k) k
theorem V_lcmp {x y : Int64} (hd : decode M.2.1 pc = .ok (.lcmp, 1)) (k : Vw N M (pc + 1) lv (.int (lg_cmp x y) :: st) mem) : Vw N M pc lv (.long y :: .long x :: st) mem := wf_stp (fun _ _ _ _ _ _ _ _ _ _ _ _ _ _ _ _ _ hx hb k => W.lcmp hx hb hd k) k
theorem V_dup {v : Value} (hd : decode M.2.1 pc = .ok (.dup, 1)) (hv : v.category = 1) (k : Vw N M (pc + 1) lv (v :: v :: st) mem) : Vw N M pc lv (v :: st) mem := wf_stp (fun _ _ _ _ _ _ _ _ _ _ _ _ _ _ _ _ _ hx hb k => lv_dup hx hb hd (by rw [wf_tr_cat]; exact hv) k) k
theorem V_pop {v : Value} (hd : decode M.2.1 pc = .ok (.pop, 1)) (hv : v.category = 1) (k : Vw N M (pc + 1) lv st mem) : Vw N M pc lv (v :: st) mem := wf_stp (fun _ _ _ _ _ _ _ _ _ _ _ _ _ _ _ _ _ hx hb k => lv_pop hx hb hd (by rw [wf_tr_cat]; exact hv) k) k
theorem V_dup_x1 {v w : Value} (hd : decode M.2.1 pc = .ok (.dup_x1, 1)) (hv : v.category = 1) (hw : w.category = 1) (k : Vw N M (pc + 1) lv (v :: w :: v :: st) mem) : Vw N M pc lv (v :: w :: st) mem := wf_stp (fun _ _ _ _ _ _ _ _ _ _ _ _ _ _ _ _ _ hx hb k => lv_dup_x1 hx hb hd (by rw [wf_tr_cat]; exact hv) (by rw [wf_tr_cat]; exact hw) k) k
theorem V_dup2 {v w : Value} (hd : decode M.2.1 pc = .ok (.dup2, 1)) (hv : v.category = 1) (hw : w.category = 1) (k : Vw N M (pc + 1) lv (v :: w :: v :: w :: st) mem) : Vw N M pc lv (v :: w :: st) mem := wf_stp (fun _ _ _ _ _ _ _ _ _ _ _ _ _ _ _ _ _ hx hb k => lv_dup2_11 hx hb hd (by rw [wf_tr_cat]; exact hv) (by rw [wf_tr_cat]; exact hw) k) k
theorem V_goto {off : Int} {tgt : Nat} (hd : decode M.2.1 pc = .ok (.goto off, 3)) (ht : (pc : Int) + off = (tgt : Int)) (k : Vw N M tgt lv st mem) : Vw N M pc lv st mem := wf_stp (fun _ _ _ _ _ _ _ _ _ _ _ _ _ _ _ _ _ hx hb k => lv_goto hx hb hd ht k) k
/-- a step that forks -/
theorem wf_frk {cA cB : Prop} {p1 p2 : Nat} {st' : List Value} (h : ∀ (ad : Nat → Nat) (p : Program) (l : Launch) (e : Env) (R : Room) (s : State) (m : MethodId) (args : Array Value) (below : List Frame) (meth : Method) (c : Code) (H : Heap) (locs : List Loc) (cells slots : Nat) (Q : State → Prop) (ls : Array Slot), p.tables.exec = Jvm.exec → c.code = M.2.1 → (cA → W p l e R s m args below meth c H locs cells slots Q (F0 m p1 ls (st.map (wf_tr ad)))) → (cB → W p l e R s m args below meth c H locs cells slots Q (F0 m p2 ls (st.map (wf_tr ad)))) → W p l e R s m args below meth c H locs cells slots Q (F0 m pc ls (st'.map (wf_tr ad))))
    (k : (cA → Vw N M p1 lv st mem) ∧ (cB → Vw N M p2 lv st mem)) : Vw N M pc lv st' mem := by
  intro G p l e s m args below meth c H locs ls C D Z S L X
  exact h _ p l e _ s m args below meth c H locs _ _ _ ls C.1 C.2.1 (fun a => k.1 a G p l e s m args below meth c H locs ls C D Z S L X) (fun a => k.2 a G p l e s m args below meth c H locs ls C D Z S L X)
theorem V_if_eq {x : Int32} {off : Int} {tgt : Nat} (hd : decode M.2.1 pc = .ok (.ifCond .eq off, 3)) (ht : (pc : Int) + off = (tgt : Int)) (k : (x = 0 → Vw N M tgt lv st mem) ∧ (¬ x = 0 → Vw N M (pc + 3) lv st mem)) : Vw N M pc lv (.int x :: st) mem := wf_frk (fun _ _ _ _ _ _ _ _ _ _ _ _ _ _ _ _ _ hx hb a b => lv_if_eq hx hb hd ht a b) k
theorem V_if_ne {x : Int32} {off : Int} {tgt : Nat} (hd : decode M.2.1 pc = .ok (.ifCond .ne off, 3)) (ht : (pc : Int) + off = (tgt : Int)) (k : (¬ x = 0 → Vw N M tgt lv st mem) ∧ (x = 0 → Vw N M (pc + 3) lv st mem)) : Vw N M pc lv (.int x :: st) mem := wf_frk (fun _ _ _ _ _ _ _ _ _ _ _ _ _ _ _ _ _ hx hb a b => lv_if_ne hx hb hd ht a b) k
theorem V_if_lt {x : Int32} {off : Int} {tgt : Nat} (hd : decode M.2.1 pc = .ok (.ifCond .lt off, 3)) (ht : (pc : Int) + off = (tgt : Int)) (k : (x < 0 → Vw N M tgt lv st mem) ∧ (¬ x < 0 → Vw N M (pc + 3) lv st mem)) : Vw N M pc lv (.int x :: st) mem := wf_frk (fun _ _ _ _ _ _ _ _ _ _ _ _ _ _ _ _ _ hx hb a b => lv_if_lt hx hb hd ht a b) k
theorem V_if_ge {x : Int32} {off : Int} {tgt : Nat} (hd : decode M.2.1 pc = .ok (.ifCond .ge off, 3)) (ht : (pc : Int) + off = (tgt : Int)) (k : (0 ≤ x → Vw N M tgt lv st mem) ∧ (¬ 0 ≤ x → Vw N M (pc + 3) lv st mem)) : Vw N M pc lv (.int x :: st) mem := wf_frk (fun _ _ _ _ _ _ _ _ _ _ _ _ _ _ _ _ _ hx hb a b => lv_if_ge hx hb hd ht a b) k
theorem V_if_gt {x : Int32} {off : Int} {tgt : Nat} (hd : decode M.2.1 pc = .ok (.ifCond .gt off, 3)) (ht : (pc : Int) + off = (tgt : Int)) (k : (0 < x → Vw N M tgt lv st mem) ∧ (¬ 0 < x → Vw N M (pc + 3) lv st mem)) : Vw N M pc lv (.int x :: st) mem := wf_frk (fun _ _ _ _ _ _ _ _ _ _ _ _ _ _ _ _ _ hx hb a b => lv_if_gt hx hb hd ht a b) k
theorem V_if_le {x : Int32} {off : Int} {tgt : Nat} (hd : decode M.2.1 pc = .ok (.ifCond .le off, 3)) (ht : (pc : Int) + off = (tgt : Int)) (k : (x ≤ 0 → Vw N M tgt lv st mem) ∧ (¬ x ≤ 0 → Vw N M (pc + 3) lv st mem)) : Vw N M pc lv (.int x :: st) mem := wf_frk (fun _ _ _ _ _ _ _ _ _ _ _ _ _ _ _ _ _ hx hb a b => lv_if_le hx hb hd ht a b) k
theorem V_icmp_eq {x y : Int32} {off : Int} {tgt : Nat} (hd : decode M.2.1 pc = .ok (.if_icmp .eq off, 3)) (ht : (pc : Int) + off = (tgt : Int)) (k : (x = y → Vw N M tgt lv st mem) ∧ (¬ x = y → Vw N M (pc + 3) lv st mem)) : Vw N M pc lv (.int y :: .int x :: st) mem := wf_frk (fun _ _ _ _ _ _ _ _ _ _ _ _ _ _ _ _ _ hx hb a b => lv_icmp_eq hx hb hd ht a b) k
theorem V_icmp_ne {x y : Int32} {off : Int} {tgt : Nat} (hd : decode M.2.1 pc = .ok (.if_icmp .ne off, 3)) (ht : (pc : Int) + off = (tgt : Int)) (k : (¬ x = y → Vw N M tgt lv st mem) ∧ (x = y → Vw N M (pc + 3) lv st mem)) : Vw N M pc lv (.int y :: .int x :: st) mem := wf_frk (fun _ _ _ _ _ _ _ _ _ _ _ _ _ _ _ _ _ hx hb a b => lv_icmp_ne hx hb hd ht a b) k
theorem V_icmp_lt {x y : Int32} {off : Int} {tgt : Nat} (hd : decode M.2.1 pc = .ok (.if_icmp .lt off, 3)) (ht : (pc : Int) + off = (tgt : Int)) (k : (x < y → Vw N M tgt lv st mem) ∧ (¬ x < y → Vw N M (pc + 3) lv st mem)) : Vw N M pc lv (.int y :: .int x :: st) mem := wf_frk (fun _ _ _ _ _ _ _ _ _ _ _ _ _ _ _ _ _ hx hb a b => lv_icmp_lt hx hb hd ht a b) k
theorem V_icmp_ge {x y : Int32} {off : Int} {tgt : Nat} (hd : decode M.2.1 pc = .ok (.if_icmp .ge off, 3)) (ht : (pc : Int) + off = (tgt : Int)) (k : (y ≤ x → Vw N M tgt lv st mem) ∧ (¬ y ≤ x → Vw N M (pc + 3) lv st mem)) : Vw N M pc lv (.int y :: .int x :: st) mem := wf_frk (fun _ _ _ _ _ _ _ _ _ _ _ _ _ _ _ _ _ hx hb a b => lv_icmp_ge hx hb hd ht a b) k
theorem V_icmp_gt {x y : Int32} {off : Int} {tgt : Nat} (hd : decode M.2.1 pc = .ok (.if_icmp .gt off, 3)) (ht : (pc : Int) + off = (tgt : Int)) (k : (y < x → Vw N M tgt lv st mem) ∧ (¬ y < x → Vw N M (pc + 3) lv st mem)) : Vw N M pc lv (.int y :: .int x :: st) mem := wf_frk (fun _ _ _ _ _ _ _ _ _ _ _ _ _ _ _ _ _ hx hb a b => lv_icmp_gt hx hb hd ht a b) k
theorem V_icmp_le {x y : Int32} {off : Int} {tgt : Nat} (hd : decode M.2.1 pc = .ok (.if_icmp .le off, 3)) (ht : (pc : Int) + off = (tgt : Int)) (k : (x ≤ y → Vw N M tgt lv st mem) ∧ (¬ x ≤ y → Vw N M (pc + 3) lv st mem)) : Vw N M pc lv (.int y :: .int x :: st) mem := wf_frk (fun _ _ _ _ _ _ _ _ _ _ _ _ _ _ _ _ _ hx hb a b => lv_icmp_le hx hb hd ht a b) k
end WFR
end
section
/-! locals -/
def wf_ins (i : Nat) (v : Value) : List (Nat × Value) → List (Nat × Value)
  | [] => [(i, v)]
  | q :: l => if i < q.1 then (i, v) :: q :: l else q :: wf_ins i v l
def wf_put (lv : List (Nat × Value)) (i : Nat) (v : Value) : List (Nat × Value) := wf_ins i v (lv.filter (fun q => !(q.1 == i)))
theorem wf_ins_mem {i : Nat} {v : Value} : ∀ {l : List (Nat × Value)} {q : Nat × Value}, q ∈ wf_ins i v l → q = (i, v) ∨ q ∈ l
  | [], q, h => by
    rw [wf_ins, List.mem_singleton] at h
    exact Or.inl h
  | r :: l, q, h => by
    rw [wf_ins] at h
    split at h
    · rcases List.mem_cons.mp h with h | h
      · exact Or.inl h
      · exact Or.inr h
    · rcases List.mem_cons.mp h with h | h
      · exact Or.inr (by rw [h]; exact List.mem_cons_self)
      · rcases wf_ins_mem h with h | h
        · exact Or.inl h
        · exact Or.inr (List.mem_cons_of_mem _ h)
/-- only values of one slot among the locals -/
def wf_one (lv : List (Nat × Value)) : Bool := lv.all (fun q => q.2.category == 1)
theorem wf_put_has {G : wf_G} {ls : Array Slot} {nL i : Nat} {v : Value} {lv lv' : List (Nat × Value)} (h1 : wf_one lv = true) (hl : wf_put lv i v = lv')
    (h : lv_has ls nL ((i, wf_tr G.2.2 v) :: (wf_lv G lv).filter (fun q => !(q.1 == i) && !(q.1 + 1 == i && q.2.category == 2)))) : lv_has ls nL (wf_lv G lv') := by
  refine ⟨h.1, h.2.1, fun q hq => h.2.2 q ?_⟩
  rw [← hl] at hq
  obtain ⟨r, hr, rfl⟩ := List.mem_map.mp hq
  rcases wf_ins_mem hr with rfl | hr
  · exact List.mem_cons_self
  · obtain ⟨hr1, hr2⟩ := List.mem_filter.mp hr
    refine List.mem_cons_of_mem _ (List.mem_filter.mpr ⟨List.mem_map.mpr ⟨r, hr1, rfl⟩, ?_⟩)
    have h2 := List.all_eq_true.mp h1 r hr1
    simp only [beq_iff_eq] at h2
    simp only [wf_tr_cat, h2]
    simpa using hr2
section WFL
variable {N : wf_Nd} {M : wf_M} {pc : Nat} {lv lv' : List (Nat × Value)} {st : List Value} {mem : wf_Mem}
theorem wf_lv_at {G : wf_G} {ls : Array Slot} {nL j i : Nat} {v : Value} (L : lv_has ls nL (wf_lv G lv)) (hl : lv[j]? = some (i, v)) : ls[i]? = some (.val (wf_tr G.2.2 v)) :=
  lv_at L j (by rw [wf_lv, List.getElem?_map, hl]; rfl)
theorem V_iload_n {k : Fin 4} (j : Nat) {x : Int32} (hd : decode M.2.1 pc = .ok (.iload_n k, 1)) (hl : lv[j]? = some ((k : Nat), .int x)) (kk : Vw N M (pc + 1) lv (.int x :: st) mem) : Vw N M pc lv st mem := by
  intro G p l e s m args below meth c H locs ls C D Z S L X
  exact lv_iload_n C.1 C.2.1 hd rfl (wf_lv_at L hl) (kk G p l e s m args below meth c H locs ls C D Z S L X)
theorem V_iload {i : Nat} (j : Nat) {x : Int32} (hd : decode M.2.1 pc = .ok (.iload i, 2)) (hl : lv[j]? = some (i, .int x)) (kk : Vw N M (pc + 2) lv (.int x :: st) mem) : Vw N M pc lv st mem := by
  intro G p l e s m args below meth c H locs ls C D Z S L X
  exact lv_iload C.1 C.2.1 hd (wf_lv_at L hl) (kk G p l e s m args below meth c H locs ls C D Z S L X)
theorem V_lload_n {k : Fin 4} (j : Nat) {x : Int64} (hd : decode M.2.1 pc = .ok (.lload_n k, 1)) (hl : lv[j]? = some ((k : Nat), .long x)) (kk : Vw N M (pc + 1) lv (.long x :: st) mem) : Vw N M pc lv st mem := by
  intro G p l e s m args below meth c H locs ls C D Z S L X
  exact lv_lload_n C.1 C.2.1 hd rfl (wf_lv_at L hl) (kk G p l e s m args below meth c H locs ls C D Z S L X)
theorem V_lload {i : Nat} (j : Nat) {x : Int64} (hd : decode M.2.1 pc = .ok (.lload i, 2)) (hl : lv[j]? = some (i, .long x)) (kk : Vw N M (pc + 2) lv (.long x :: st) mem) : Vw N M pc lv st mem := by
  intro G p l e s m args below meth c H locs ls C D Z S L X
  exact lv_lload C.1 C.2.1 hd (wf_lv_at L hl) (kk G p l e s m args below meth c H locs ls C D Z S L X)
theorem V_aload_n {k : Fin 4} (j : Nat) {a : Nat} (hd : decode M.2.1 pc = .ok (.aload_n k, 1)) (hl : lv[j]? = some ((k : Nat), .ref a)) (kk : Vw N M (pc + 1) lv (.ref a :: st) mem) : Vw N M pc lv st mem := by
  intro G p l e s m args below meth c H locs ls C D Z S L X
  exact lv_aload_n C.1 C.2.1 hd rfl (wf_lv_at L hl) (kk G p l e s m args below meth c H locs ls C D Z S L X)
theorem V_aload {i : Nat} (j : Nat) {a : Nat} (hd : decode M.2.1 pc = .ok (.aload i, 2)) (hl : lv[j]? = some (i, .ref a)) (kk : Vw N M (pc + 2) lv (.ref a :: st) mem) : Vw N M pc lv st mem := by
  intro G p l e s m args below meth c H locs ls C D Z S L X
  exact lv_aload C.1 C.2.1 hd (wf_lv_at L hl) (kk G p l e s m args below meth c H locs ls C D Z S L X)
theorem V_istore_n {k : Fin 4} {x : Int32} (hd : decode M.2.1 pc = .ok (.istore_n k, 1)) (hn : (k : Nat) < M.2.2.1) (h1 : wf_one lv = true) (hl : wf_put lv (k : Nat) (.int x) = lv') (kk : Vw N M (pc + 1) lv' st mem) : Vw N M pc lv (.int x :: st) mem := by
  intro G p l e s m args below meth c H locs ls C D Z S L X
  exact lv_istore_n C.1 C.2.1 hd rfl L hn rfl (fun ls L => kk G p l e s m args below meth c H locs ls C D Z S (wf_put_has h1 hl L) X)
theorem V_istore {i : Nat} {x : Int32} (hd : decode M.2.1 pc = .ok (.istore i, 2)) (hn : i < M.2.2.1) (h1 : wf_one lv = true) (hl : wf_put lv i (.int x) = lv') (kk : Vw N M (pc + 2) lv' st mem) : Vw N M pc lv (.int x :: st) mem := by
  intro G p l e s m args below meth c H locs ls C D Z S L X
  exact lv_istore C.1 C.2.1 hd L hn rfl (fun ls L => kk G p l e s m args below meth c H locs ls C D Z S (wf_put_has h1 hl L) X)
theorem V_astore_n {k : Fin 4} {x : Nat} (hd : decode M.2.1 pc = .ok (.astore_n k, 1)) (hn : (k : Nat) < M.2.2.1) (h1 : wf_one lv = true) (hl : wf_put lv (k : Nat) (.ref x) = lv') (kk : Vw N M (pc + 1) lv' st mem) : Vw N M pc lv (.ref x :: st) mem := by
  intro G p l e s m args below meth c H locs ls C D Z S L X
  exact lv_astore_n C.1 C.2.1 hd rfl L hn rfl (fun ls L => kk G p l e s m args below meth c H locs ls C D Z S (wf_put_has (v := .ref x) h1 hl L) X)
theorem V_astore {i : Nat} {x : Nat} (hd : decode M.2.1 pc = .ok (.astore i, 2)) (hn : i < M.2.2.1) (h1 : wf_one lv = true) (hl : wf_put lv i (.ref x) = lv') (kk : Vw N M (pc + 2) lv' st mem) : Vw N M pc lv (.ref x :: st) mem := by
  intro G p l e s m args below meth c H locs ls C D Z S L X
  exact lv_astore C.1 C.2.1 hd L hn rfl (fun ls L => kk G p l e s m args below meth c H locs ls C D Z S (wf_put_has (v := .ref x) h1 hl L) X)
theorem V_iinc {i : Nat} (j : Nat) {n : Int} {x v : Int32} (hd : decode M.2.1 pc = .ok (.iinc i n, 3)) (hj : lv[j]? = some (i, .int x)) (hv : x + Int32.ofInt n = v) (hn : i < M.2.2.1) (h1 : wf_one lv = true) (hl : wf_put lv i (.int v) = lv') (kk : Vw N M (pc + 3) lv' st mem) : Vw N M pc lv st mem := by
  intro G p l e s m args below meth c H locs ls C D Z S L X
  exact lv_iinc C.1 C.2.1 hd L (k := j) (by rw [wf_lv, List.getElem?_map, hj]; rfl) hv hn rfl (fun ls L => kk G p l e s m args below meth c H locs ls C D Z S (wf_put_has (v := .int v) h1 hl L) X)
/-- fewer locals -/
theorem V_sub (ks : List Nat) (hl : lv_pick lv ks = lv') (kk : Vw N M pc lv' st mem) : Vw N M pc lv st mem := by
  intro G p l e s m args below meth c H locs ls C D Z S L X
  refine kk G p l e s m args below meth c H locs ls C D Z S ?_ X
  refine ⟨L.1, L.2.1, fun q hq => L.2.2 q ?_⟩
  rw [← hl] at hq
  obtain ⟨r, hr, rfl⟩ := List.mem_map.mp hq
  obtain ⟨i, -, hi⟩ := List.mem_filterMap.mp hr
  exact List.mem_map.mpr ⟨r, List.mem_of_getElem? hi, rfl⟩
theorem V_topi {x : Int32} (kk : ∀ y : Int32, y = x → Vw N M pc lv (.int y :: st) mem) : Vw N M pc lv (.int x :: st) mem := kk x rfl
/-- constants of the pool -/
theorem V_ldc {idx : Nat} {v : Int32} (hw : Cond.constant M.1.cls idx v ∈ gw_tbl) (hd : decode M.2.1 pc = .ok (.ldc idx, 2)) (kk : Vw N M (pc + 2) lv (.int v :: st) mem) : Vw N M pc lv st mem := by
  intro G p l e s m args below meth c H locs ls C D Z S L X
  exact lv_ldc C.1 C.2.1 C.2.2.2.2.1 (C.2.2.2.2.2.2 _ hw) hd (kk G p l e s m args below meth c H locs ls C D Z S L X)
theorem V_ldcw {idx : Nat} {v : Int32} (hw : Cond.constant M.1.cls idx v ∈ gw_tbl) (hd : decode M.2.1 pc = .ok (.ldc_w idx, 3)) (kk : Vw N M (pc + 3) lv (.int v :: st) mem) : Vw N M pc lv st mem := by
  intro G p l e s m args below meth c H locs ls C D Z S L X
  exact lv_ldcw C.1 C.2.1 C.2.2.2.2.1 (C.2.2.2.2.2.2 _ hw) hd (kk G p l e s m args below meth c H locs ls C D Z S L X)
theorem V_ldc2 {idx : Nat} {v : Int64} (hw : Cond.constantLong M.1.cls idx v ∈ gw_tbl) (hd : decode M.2.1 pc = .ok (.ldc2_w idx, 3)) (kk : Vw N M (pc + 3) lv (.long v :: st) mem) : Vw N M pc lv st mem := by
  intro G p l e s m args below meth c H locs ls C D Z S L X
  exact lv_ldc2 C.1 C.2.1 C.2.2.2.2.1 (C.2.2.2.2.2.2 _ hw) hd (kk G p l e s m args below meth c H locs ls C D Z S L X)
/-- switches: by the number of the case -/
def wf_tsw (dflt lo : Int) (offs : Array Int) (x : Int) : Int := if x < lo then dflt else offs.getD (x - lo).toNat dflt
theorem V_tsw {dflt lo hi : Int} {offs : Array Int} {len : Nat} {x : Int32} (hd : decode M.2.1 pc = .ok (.tableswitch dflt lo hi offs, len)) (hs : (offs.size : Int) = hi - lo + 1)
    (kk : ∀ tgt : Nat, (pc : Int) + wf_tsw dflt lo offs x.toInt = (tgt : Int) → Vw N M tgt lv st mem) (ht : ∃ tgt : Nat, (pc : Int) + wf_tsw dflt lo offs x.toInt = (tgt : Int)) : Vw N M pc lv (.int x :: st) mem := by
  obtain ⟨tgt, ht⟩ := ht
  have k2 := kk tgt ht
  intro G p l e s m args below meth c H locs ls C D Z S L X
  by_cases h1 : x.toInt < lo
  · exact lv_tableOut C.1 C.2.1 hd (Or.inl h1) (by rw [wf_tsw, if_pos h1] at ht; exact ht) (k2 G p l e s m args below meth c H locs ls C D Z S L X)
  · rw [wf_tsw, if_neg h1] at ht
    by_cases h2 : hi < x.toInt
    · refine lv_tableOut C.1 C.2.1 hd (Or.inr h2) ?_ (k2 G p l e s m args below meth c H locs ls C D Z S L X)
      rw [Array.getD_eq_getD_getElem?, Array.getElem?_eq_none (by omega)] at ht
      exact ht
    · have hlt : (x.toInt - lo).toNat < offs.size := by omega
      refine lv_tableIn C.1 C.2.1 hd h1 h2 (off := offs.getD (x.toInt - lo).toNat dflt) ?_ ht (k2 G p l e s m args below meth c H locs ls C D Z S L X)
      rw [Array.getD_eq_getD_getElem?, Array.getElem?_eq_getElem hlt]
      rfl
theorem V_lsw {dflt : Int} {ps : Array (Int × Int)} {len : Nat} {x : Int32} (hd : decode M.2.1 pc = .ok (.lookupswitch dflt ps, len)) (hp : (ps.toList.zip (ps.toList.drop 1)).all (fun (a, next) => a.1 < next.1) = true)
    (kk : ∀ tgt : Nat, (pc : Int) + Op.lookupswitch.offset ps.toList dflt x.toInt = (tgt : Int) → Vw N M tgt lv st mem) (ht : ∃ tgt : Nat, (pc : Int) + Op.lookupswitch.offset ps.toList dflt x.toInt = (tgt : Int)) : Vw N M pc lv (.int x :: st) mem := by
  obtain ⟨tgt, ht⟩ := ht
  have k2 := kk tgt ht
  intro G p l e s m args below meth c H locs ls C D Z S L X
  exact lv_lookup C.1 C.2.1 hd hp rfl ht (k2 G p l e s m args below meth c H locs ls C D Z S L X)
end WFL
end
section
/-! switches as chains of cases -/
def wf_swP (x : Int32) (P : Nat → Prop) (dt : Nat) : List (Int32 × Nat) → Prop
  | [] => P dt
  | q :: l => (x = q.1 → P q.2) ∧ (¬ x = q.1 → wf_swP x P dt l)
theorem wf_swP_hit {x : Int32} {P : Nat → Prop} {dt : Nat} : ∀ {l : List (Int32 × Nat)}, wf_swP x P dt l → (∃ q ∈ l, x = q.1 ∧ P q.2) ∨ ((∀ q ∈ l, ¬ x = q.1) ∧ P dt)
  | [], h => Or.inr ⟨fun _ g => absurd g List.not_mem_nil, h⟩
  | q :: l, h => by
    by_cases hx : x = q.1
    · exact Or.inl ⟨q, List.mem_cons_self, hx, h.1 hx⟩
    · rcases wf_swP_hit (h.2 hx) with ⟨r, h1, h2⟩ | ⟨h1, h2⟩
      · exact Or.inl ⟨r, List.mem_cons_of_mem _ h1, h2⟩
      · exact Or.inr ⟨fun r hr => (List.mem_cons.mp hr).elim (fun e => by rw [e]; exact hx) (h1 r), h2⟩
/-- the table of a switch, as cases: place i of the table is the case lo + i -/
def wf_tok (pc : Nat) (dflt lo hi : Int) (offs : Array Int) (tg : List (Int32 × Nat)) (dt : Nat) : Bool :=
  decide ((pc : Int) + dflt = (dt : Int)) && decide ((offs.size : Int) = hi - lo + 1) && tg.all (fun q => decide (lo ≤ q.1.toInt) && decide ((pc : Int) + offs.getD (q.1.toInt - lo).toNat dflt = (q.2 : Int))) &&
  (List.range offs.size).all (fun i => tg.any (fun q => decide (q.1.toInt = lo + i)) || decide (offs.getD i dflt = dflt))
def wf_lok (pc : Nat) (dflt : Int) (ps : List (Int × Int)) (tg : List (Int32 × Nat)) (dt : Nat) : Bool :=
  decide ((pc : Int) + dflt = (dt : Int)) && decide (tg.map (fun q => (q.1.toInt, (q.2 : Int))) = ps.map (fun q => (q.1, (pc : Int) + q.2)))
theorem wf_lok_off {pc : Nat} {dflt : Int} {x : Int32} : ∀ {ps : List (Int × Int)} {tg : List (Int32 × Nat)}, tg.map (fun q => (q.1.toInt, (q.2 : Int))) = ps.map (fun q => (q.1, (pc : Int) + q.2)) → ∀ {P : Nat → Prop} {dt : Nat}, (pc : Int) + dflt = (dt : Int) → wf_swP x P dt tg → ∃ t : Nat, (pc : Int) + Op.lookupswitch.offset ps dflt x.toInt = (t : Int) ∧ P t
  | [], [], _, P, dt, hd, h => ⟨dt, by rw [← hd]; rfl, h⟩
  | [], _ :: _, e, _, _, _, _ => by simp at e
  | _ :: _, [], e, _, _, _, _ => by simp at e
  | r :: ps, q :: tg, e, P, dt, hd, h => by
    simp only [List.map_cons, List.cons.injEq, Prod.mk.injEq] at e
    obtain ⟨⟨e1, e2⟩, e3⟩ := e
    obtain ⟨r1, r2⟩ := r
    by_cases hx : x = q.1
    · refine ⟨q.2, ?_, h.1 hx⟩
      rw [Op.lookupswitch.offset_cons, if_pos (by rw [hx]; exact e1.symm), e2]
    · obtain ⟨t, h1, h2⟩ := wf_lok_off e3 hd (h.2 hx)
      refine ⟨t, ?_, h2⟩
      rw [Op.lookupswitch.offset_cons, if_neg (fun z => hx (Int32.toInt_inj.mp (by rw [e1]; exact z.symm)))]
      exact h1
section WFS
variable {N : wf_Nd} {M : wf_M} {pc : Nat} {lv lv' : List (Nat × Value)} {st : List Value} {mem : wf_Mem}
theorem V_tswc {dflt lo hi : Int} {offs : Array Int} {len : Nat} {x : Int32} (tg : List (Int32 × Nat)) (dt : Nat) (hd : decode M.2.1 pc = .ok (.tableswitch dflt lo hi offs, len)) (ho : wf_tok pc dflt lo hi offs tg dt = true)
    (h : wf_swP x (fun t => Vw N M t lv st mem) dt tg) : Vw N M pc lv (.int x :: st) mem := by
  simp only [wf_tok, Bool.and_eq_true, decide_eq_true_eq, List.all_eq_true, Bool.or_eq_true, List.any_eq_true, List.mem_range] at ho
  obtain ⟨⟨⟨h1, h2⟩, h3⟩, h4⟩ := ho
  rcases wf_swP_hit h with ⟨q, hq, hx, hV⟩ | ⟨hn, hV⟩
  · obtain ⟨g1, g2⟩ := h3 q hq
    have e : (pc : Int) + wf_tsw dflt lo offs x.toInt = (q.2 : Int) := by
      rw [wf_tsw, hx, if_neg (by omega)]
      exact g2
    exact V_tsw hd h2 (fun t ht => by have : t = q.2 := by omega
                                      subst this
                                      exact hV) ⟨_, e⟩
  · have e : (pc : Int) + wf_tsw dflt lo offs x.toInt = (dt : Int) := by
      rw [wf_tsw]
      split
      · exact h1
      · rename_i hlo
        by_cases hb : (x.toInt - lo).toNat < offs.size
        · rcases h4 _ hb with ⟨q, hq, hqe⟩ | hde
          · exact absurd (Int32.toInt_inj.mp (by rw [hqe]; omega)) (hn q hq)
          · rw [hde]
            exact h1
        · rw [Array.getD_eq_getD_getElem?, Array.getElem?_eq_none (by omega)]
          exact h1
    exact V_tsw hd h2 (fun t ht => by have : t = dt := by omega
                                      subst this
                                      exact hV) ⟨_, e⟩
theorem V_lswc {dflt : Int} {ps : Array (Int × Int)} {len : Nat} {x : Int32} (tg : List (Int32 × Nat)) (dt : Nat) (hd : decode M.2.1 pc = .ok (.lookupswitch dflt ps, len)) (hp : (ps.toList.zip (ps.toList.drop 1)).all (fun (a, next) => a.1 < next.1) = true) (ho : wf_lok pc dflt ps.toList tg dt = true)
    (h : wf_swP x (fun t => Vw N M t lv st mem) dt tg) : Vw N M pc lv (.int x :: st) mem := by
  simp only [wf_lok, Bool.and_eq_true, decide_eq_true_eq] at ho
  obtain ⟨t, h1, h2⟩ := wf_lok_off ho.2 ho.1 h
  exact V_lsw hd hp (fun t' ht => by have : t' = t := by omega
                                     subst this
                                     exact h2) ⟨t, h1⟩
end WFS
/-! fields: a place where a field is named (own class, pool number) is slot k of class ci -/
def wf_FL (own : String) (idx ci k : Nat) : Prop := ∃ (C : String) (T : u_T) (n : Nat), vwCl[ci]? = some (C, T, n) ∧ (∀ w ∈ u_ws C T n, w ∈ gw_tbl) ∧ k < n ∧ n = wf_N ci ∧ ci < 10 ∧ Cond.fieldLink own idx (T k).1 (T k).2.1 (T k).2.2.1 ∈ gw_tbl
def wf_PL (own : String) (idx ci k : Nat) (ty : FieldType) : Prop := ∃ (C : String) (T : u_T) (n : Nat) (ty0 : Nat → FieldType), vwCl[ci]? = some (C, T, n) ∧ (∀ w ∈ u_ws C T n, w ∈ gw_tbl) ∧ k < n ∧ n = wf_N ci ∧ ci < 10 ∧ Cond.fieldLink own idx (T k).1 (T k).2.1 (T k).2.2.1 ∈ gw_tbl ∧
  (∀ j, j < n → parseFieldDescriptor (T j).2.2.1 = some (ty0 j)) ∧ (∀ a, a < n → ∀ b, b < n → a ≠ b → (T a).2.1 ≠ (T b).2.1) ∧ (T k).2.2.2 = false ∧ parseFieldDescriptor (T k).2.2.1 = some ty ∧ ∀ a, wf_rfl ci a k = none
theorem wf_E_obj {G : wf_G} {f : Nat → Int32} {a ci n : Nat} (hs : wf_sh a = (ci, n)) (hc : ci < 10) : wf_E G f a = .inr (ci, (List.range (wf_N ci)).map (fun k => wf_tr G.2.2 (wf_vl f ci a k))) := by
  unfold wf_E
  simp [hs, hc]
theorem wf_E_int {G : wf_G} {f : Nat → Int32} {a n : Nat} (hs : wf_sh a = (20, n)) : wf_E G f a = .inl (G.2.1 20, n, .inl f) := by
  unfold wf_E
  simp [hs]
theorem wf_E_row {G : wf_G} {f : Nat → Int32} {a kd n : Nat} (hs : wf_sh a = (kd, n)) (h : 20 < kd) : wf_E G f a = .inl (G.2.1 kd, n, .inr (.inr (.inr (.inr (fun i => some (G.2.2 (wf_el kd a i))))))) := by
  unfold wf_E
  have h1 : ¬ kd < 10 := by omega
  have h2 : ¬ kd = 20 := by omega
  simp [hs, h1, h2]
theorem wf_set_obj {G : wf_G} {f : Nat → Int32} {a ci k n : Nat} {x : Int32} (hs : wf_sh a = (ci, n)) (hc : ci < 10) (hi : wf_rfl ci a k = none) :
    (Sum.inr (ci, ((List.range (wf_N ci)).map (fun k => wf_tr G.2.2 (wf_vl f ci a k))).set k (.int x)) : va_E) = wf_E G (upd f k x) a := by
  rw [wf_E_obj hs hc]
  congr 2
  apply List.ext_getElem?
  intro j
  by_cases hj : j = k
  · subst hj
    rw [List.getElem?_set]
    simp only [List.length_map, List.length_range, if_true, List.getElem?_map]
    by_cases hl : j < wf_N ci
    · rw [if_pos hl, List.getElem?_range hl]
      simp only [Option.map_some, wf_vl_int hi]
      simp [wf_tr, upd]
    · rw [if_neg hl, List.getElem?_eq_none (by simp; omega)]
      rfl
  · rw [List.getElem?_set_ne (Ne.symm hj), List.getElem?_map, List.getElem?_map]
    by_cases hl : j < wf_N ci
    · rw [List.getElem?_range hl]
      simp only [Option.map_some, wf_vl_upd hj]
    · rw [List.getElem?_eq_none (by simp; omega)]
      rfl
section WFF
variable {N : wf_Nd} {M : wf_M} {pc : Nat} {lv lv' : List (Nat × Value)} {st : List Value} {mem : wf_Mem}
theorem V_getf {idx ci k a n : Nat} {v : Value} (hf : wf_FL M.1.cls idx ci k) (hd : decode M.2.1 pc = .ok (.getfield idx, 3)) (hs : wf_sh a = (ci, n)) (hv : wf_vl (mem a) ci a k = v)
    (kk : Vw N M (pc + 3) lv (v :: st) mem) : Vw N M pc lv (.ref a :: st) mem := by
  obtain ⟨C', T, n', h1, h2, h3, h4, h5, h6⟩ := hf
  have ha : a < 139 := wf_sh_lt hs (by show ci ≠ 99; omega)
  intro G p l e s m args below meth c H locs ls C D Z S L X
  refine va_get C.1 C.2.1 C.2.2.2.2.2.2 h2 C.2.2.2.2.1 D.1 D.2.1 a (by rw [wf_ws_at ha, wf_E_obj hs h5]) h1 k h3 (C.2.2.2.2.2.2 _ h6) (fun _ h => h) (v := wf_tr G.2.2 v) ?_ hd (kk G p l e s m args below meth c H locs ls C D Z S L X)
  rw [List.getElem?_map, List.getElem?_range (by omega), ← hv]
  rfl
theorem V_putf {idx ci k a n : Nat} {x : Int32} {ty : FieldType} (hf : wf_PL M.1.cls idx ci k ty) (hd : decode M.2.1 pc = .ok (.putfield idx, 3)) (hs : wf_sh a = (ci, n)) (hn : narrow ty (.int x) = .int x) (hfit : fits ty (.int x) = true)
    (kk : Vw N M (pc + 3) lv st (wf_ms mem a k x)) : Vw N M pc lv (.int x :: .ref a :: st) mem := by
  obtain ⟨C', T, n', ty0, h1, h2, h3, h4, h5, h6, h7, h8, h9, h10, h11⟩ := hf
  have ha : a < 139 := wf_sh_lt hs (by show ci ≠ 99; omega)
  intro G p l e s m args below meth c H locs ls C D Z S L X
  refine va_put C.1 C.2.1 C.2.2.2.2.2.2 h2 ty0 h7 h8 C.2.2.2.2.1 D.1 D.2.1 (wf_D D.2.2 mem) S a (by rw [wf_ws_at ha, wf_E_obj hs h5]) h1 k h3 (C.2.2.2.2.2.2 _ h6) (fun _ h => h) h9 h10 hn hfit (by simp; omega) hd (fun H1 locs1 hP1 _ hS1 => ?_)
  rw [show wf_tr G.2.2 (.int x) = .int x from rfl, wf_ws_set ha (wf_set_obj hs h5 (h11 a))] at hP1
  exact kk G p l e s m args below meth c H1 locs1 ls C ⟨D.1, hP1, D.2.2⟩ Z hS1 L X
theorem V_iald {a n : Nat} {i : Int32} (hd : decode M.2.1 pc = .ok (.iaload, 1)) (hs : wf_sh a = (20, n)) (h : vp_in i n ∧ Vw N M (pc + 1) lv (.int (mem a i.toNatClampNeg) :: st) mem) : Vw N M pc lv (.int i :: .ref a :: st) mem := by
  have ha : a < 139 := wf_sh_lt hs (show (20 : Nat) ≠ 99 by decide)
  intro G p l e s m args below meth c H locs ls C D Z S L X
  exact va_iald C.1 C.2.1 D.1 D.2.1 a 0 (by rw [wf_ws_at ha, wf_E_int hs]) rfl h.1 hd (h.2 G p l e s m args below meth c H locs ls C D Z S L X)
theorem V_iast {a n : Nat} {i x : Int32} (hd : decode M.2.1 pc = .ok (.iastore, 1)) (hs : wf_sh a = (20, n)) (h : vp_in i n ∧ Vw N M (pc + 1) lv st (wf_ms mem a i.toNatClampNeg x)) : Vw N M pc lv (.int x :: .int i :: .ref a :: st) mem := by
  have ha : a < 139 := wf_sh_lt hs (show (20 : Nat) ≠ 99 by decide)
  intro G p l e s m args below meth c H locs ls C D Z S L X
  refine va_iast C.1 C.2.1 D.1 D.2.1 (wf_D D.2.2 mem) S a 0 (by rw [wf_ws_at ha, wf_E_int hs]) rfl h.1 hd (fun H1 locs1 hP1 _ hS1 => ?_)
  rw [wf_ws_set ha (wf_E_int hs).symm] at hP1
  exact h.2 G p l e s m args below meth c H1 locs1 ls C ⟨D.1, hP1, D.2.2⟩ Z hS1 L X
theorem V_alen {a n : Nat} {v : Int32} (hd : decode M.2.1 pc = .ok (.arraylength, 1)) (hs : wf_sh a = (20, n)) (hv : Int32.ofNat n = v) (kk : Vw N M (pc + 1) lv (.int v :: st) mem) : Vw N M pc lv (.ref a :: st) mem := by
  have ha : a < 139 := wf_sh_lt hs (show (20 : Nat) ≠ 99 by decide)
  intro G p l e s m args below meth c H locs ls C D Z S L X
  exact va_alen C.1 C.2.1 D.1 D.2.1 a 0 (by rw [wf_ws_at ha, wf_E_int hs]) rfl hv hd (kk G p l e s m args below meth c H locs ls C D Z S L X)
/-- the type of a row of references -/
def wf_ty (kd : Nat) : String := match kd with
  | 21 => RX2
  | 22 => RX7
  | 23 => RX4
  | _ => RX5
theorem wf_tys_at {G : wf_G} {kd : Nat} (h1 : 20 < kd) (h2 : kd < 25) : (wf_tys G)[kd - 20]? = some (G.2.1 kd, .object (wf_ty kd)) := by
  rcases (show kd = 21 ∨ kd = 22 ∨ kd = 23 ∨ kd = 24 by omega) with rfl | rfl | rfl | rfl <;> rfl
theorem V_aald {a kd n : Nat} {i : Int32} (hd : decode M.2.1 pc = .ok (.aaload, 1)) (hs : wf_sh a = (kd, n)) (h1 : 20 < kd) (h2 : kd < 25) (h : vp_in i n ∧ Vw N M (pc + 1) lv (.ref (wf_el kd a i.toNatClampNeg) :: st) mem) : Vw N M pc lv (.int i :: .ref a :: st) mem := by
  have ha : a < 139 := wf_sh_lt hs (by show kd ≠ 99; omega)
  intro G p l e s m args below meth c H locs ls C D Z S L X
  exact va_aldq C.1 C.2.1 D.1 D.2.1 a (kd - 20) (f := fun i => some (G.2.2 (wf_el kd a i))) (by rw [wf_ws_at ha, wf_E_row hs h1]) (wf_tys_at h1 h2) h.1 hd (h.2 G p l e s m args below meth c H locs ls C D Z S L X)
theorem V_alenr {a kd n : Nat} {v : Int32} (hd : decode M.2.1 pc = .ok (.arraylength, 1)) (hs : wf_sh a = (kd, n)) (h1 : 20 < kd) (h2 : kd < 25) (hv : Int32.ofNat n = v) (kk : Vw N M (pc + 1) lv (.int v :: st) mem) : Vw N M pc lv (.ref a :: st) mem := by
  have ha : a < 139 := wf_sh_lt hs (by show kd ≠ 99; omega)
  intro G p l e s m args below meth c H locs ls C D Z S L X
  exact va_alen C.1 C.2.1 D.1 D.2.1 a (kd - 20) (by rw [wf_ws_at ha, wf_E_row hs h1]) (wf_tys_at h1 h2) hv hd (kk G p l e s m args below meth c H locs ls C D Z S L X)
/-- ABOVE: a static row that nobody writes; it lies at 90000 -/
theorem V_getAbv {idx : Nat} (hw : Cond.fieldLink M.1.cls idx RX8 "ABOVE" "[I" ∈ gw_tbl) (hd : decode M.2.1 pc = .ok (.getstatic idx, 3)) (kk : Vw N M (pc + 3) lv (.ref 90000 :: st) mem) : Vw N M pc lv st mem := by
  intro G p l e s m args below meth c H locs ls C D Z S L X
  exact va_gets C.1 C.2.1 Z.1 S C.2.2.2.2.1 (C.2.2.2.2.2.2 _ hw) (fun _ h => h) hd (kk G p l e s m args below meth c H locs ls C D Z S L X)
theorem V_getAbvN {idx : Nat} (hw : Cond.fieldLinkNest M.1.cls idx RX8 "ABOVE" "[I" RX8 ∈ wf_nest) (hd : decode M.2.1 pc = .ok (.getstatic idx, 3)) (kk : Vw N M (pc + 3) lv (.ref 90000 :: st) mem) : Vw N M pc lv st mem := by
  intro G p l e s m args below meth c H locs ls C D Z S L X
  exact va_getsN C.1 C.2.1 Z.1 S C.2.2.2.2.1 (va_Nw.use rfl (Z.2.2.2.2.2 _ hw)) (fun _ h => h) hd (kk G p l e s m args below meth c H locs ls C D Z S L X)
theorem V_abvLd {i : Int32} (hd : decode M.2.1 pc = .ok (.iaload, 1)) (h : vp_in i 6 ∧ Vw N M (pc + 1) lv (.int (wf_abv i.toNatClampNeg) :: st) mem) : Vw N M pc lv (.int i :: .ref 90000 :: st) mem := by
  intro G p l e s m args below meth c H locs ls C D Z S L X
  exact va_ti C.1 C.2.1 Z.2.1 S h.1 rfl hd (h.2 G p l e s m args below meth c H locs ls C D Z S L X)
theorem V_abvLen (hd : decode M.2.1 pc = .ok (.arraylength, 1)) (kk : Vw N M (pc + 1) lv (.int 6 :: st) mem) : Vw N M pc lv (.ref 90000 :: st) mem := by
  intro G p l e s m args below meth c H locs ls C D Z S L X
  exact va_tlen C.1 C.2.1 Z.2.1 S rfl hd (kk G p l e s m args below meth c H locs ls C D Z S L X)
end WFF
end
section
/-! calls: a method's contract over the memory, its end, its entry -/
def wf_rm (d : Nat) : Room := { frames := d, cells := 0, slots := 0, locals := 40 * d }
def wf_Qc (G : wf_G) (Q : Option Value → wf_Mem → Prop) : Array Value → State → Outcome → State → Prop := fun _ st oc t =>
  (∃ (v : Option Value) (mem : wf_Mem), oc = .returned (v.map (wf_tr G.2.2)) ∧ Q v mem ∧ wf_Wd G mem t t.heap) ∧ va_F (wf_A G) st t
def wf_Nm (d : Nat) (Q : Option Value → wf_Mem → Prop) : wf_Nd := (wf_rm d, 0, 0, fun _ _ _ => True, fun G below args s => MQ below (wf_Qc G Q) args s 0 0 (wf_A G))
def wf_wsM (M : wf_M) : List Cond := Cond.code M.1 M.2.1 M.2.2.1 M.2.2.2 :: gw_tbl
def Cw (M : wf_M) (d : Nat) (As : List Value) (mem : wf_Mem) (Q : Option Value → wf_Mem → Prop) : Prop :=
  ∀ (G : wf_G) (l : Launch), Met l M.1 (wf_wsM M) (wf_rm d) (va_Pc (As.map (wf_tr G.2.2)) (fun U => wf_Wd G mem U U.heap ∧ wf_St G U)) (wf_Qc G Q) 0 0 (wf_A G)
def wf_Qi (P : Int32 → wf_Mem → Prop) : Option Value → wf_Mem → Prop := fun v m => ∃ r : Int32, v = some (.int r) ∧ P r m
def wf_Qv (P : wf_Mem → Prop) : Option Value → wf_Mem → Prop := fun v m => v = none ∧ P m
def wf_Qa (P : Nat → wf_Mem → Prop) : Option Value → wf_Mem → Prop := fun v m => ∃ a : Nat, v = some (.ref a) ∧ P a m
abbrev Ci (M : wf_M) (d : Nat) (As : List Value) (mem : wf_Mem) (P : Int32 → wf_Mem → Prop) : Prop := Cw M d As mem (wf_Qi P)
abbrev Cv (M : wf_M) (d : Nat) (As : List Value) (mem : wf_Mem) (P : wf_Mem → Prop) : Prop := Cw M d As mem (wf_Qv P)
abbrev Ca (M : wf_M) (d : Nat) (As : List Value) (mem : wf_Mem) (P : Nat → wf_Mem → Prop) : Prop := Cw M d As mem (wf_Qa P)
abbrev Ni (d : Nat) (P : Int32 → wf_Mem → Prop) : wf_Nd := wf_Nm d (wf_Qi P)
abbrev Nv (d : Nat) (P : wf_Mem → Prop) : wf_Nd := wf_Nm d (wf_Qv P)
abbrev Na (d : Nat) (P : Nat → wf_Mem → Prop) : wf_Nd := wf_Nm d (wf_Qa P)
theorem Cw.mono {M : wf_M} {d : Nat} {As : List Value} {mem : wf_Mem} {Q Q' : Option Value → wf_Mem → Prop} (h : Cw M d As mem Q) (hq : ∀ v m, Q v m → Q' v m) : Cw M d As mem Q' := by
  intro G l
  refine MetFree.mono (h G l) (fun _ _ h => h) (fun _ _ _ _ _ h => h) (fun a s o t _ h => ?_)
  obtain ⟨⟨⟨v, mem', h1, h2, h3⟩, h4⟩, h5⟩ := h
  exact ⟨⟨⟨v, mem', h1, hq _ _ h2, h3⟩, h4⟩, h5⟩
theorem Ci.mono {M : wf_M} {d : Nat} {As : List Value} {mem : wf_Mem} {P P' : Int32 → wf_Mem → Prop} (h : Ci M d As mem P) (hq : ∀ r m, P r m → P' r m) : Ci M d As mem P' := Cw.mono h (fun _ _ ⟨r, h1, h2⟩ => ⟨r, h1, hq _ _ h2⟩)
theorem Cv.mono {M : wf_M} {d : Nat} {As : List Value} {mem : wf_Mem} {P P' : wf_Mem → Prop} (h : Cv M d As mem P) (hq : ∀ m, P m → P' m) : Cv M d As mem P' := Cw.mono h (fun _ _ ⟨h1, h2⟩ => ⟨h1, hq _ h2⟩)
theorem Ca.mono {M : wf_M} {d : Nat} {As : List Value} {mem : wf_Mem} {P P' : Nat → wf_Mem → Prop} (h : Ca M d As mem P) (hq : ∀ r m, P r m → P' r m) : Ca M d As mem P' := Cw.mono h (fun _ _ ⟨r, h1, h2⟩ => ⟨r, h1, hq _ _ h2⟩)
theorem wf_args_lv (G : wf_G) : ∀ (As : List Value) (i : Nat), lv_args i (As.map (wf_tr G.2.2)) = wf_lv G (lv_args i As)
  | [], _ => rfl
  | v :: As, i => by
    show (i, wf_tr G.2.2 v) :: lv_args (if (wf_tr G.2.2 v).category = 2 then i + 2 else i + 1) (As.map (wf_tr G.2.2)) = _
    rw [wf_tr_cat, wf_args_lv G As]
    rfl
theorem wf_args_sl (G : wf_G) (As : List Value) : (lg_sl (As.map (wf_tr G.2.2))).length = (lg_sl As).length := by
  induction As with
  | nil => rfl
  | cons v As ih =>
    simp only [lg_sl, List.map_cons, List.flatMap_cons, List.length_append, wf_tr_cat] at ih ⊢
    rw [ih]
    congr 1
    split <;> rfl
/-- entering a method -/
theorem Cw_of {M : wf_M} {d : Nat} {As : List Value} {mem : wf_Mem} {Q : Option Value → wf_Mem → Prop} (hy : plainName M.1.cls = true) (hlen : (lg_sl As).length ≤ M.2.2.1) {lv : List (Nat × Value)} (hl : lv_args 0 As = lv) (h : Vw (wf_Nm d Q) M 0 lv [] mem) : Cw M d As mem Q := by
  intro G l
  refine Met.ofW (cc := M.2.1) (maxL := M.2.2.1) (ret := M.2.2.2) hy rfl ?_
  intro p e s m args below meth c s₁ B hml hv
  obtain ⟨rfl, hWd, hSt⟩ := hv
  have hts := atoms_spec (ws := wf_wsM M) B.pre
  rw [lg_entry_eq]
  have hl2 := lv_entry (As.map (wf_tr G.2.2)) (n := M.2.2.1) (by rw [wf_args_sl]; exact hlen)
  rw [wf_args_lv, hl] at hl2
  exact h G p l e s m _ below meth c s.heap [] _ ⟨B.exec, B.bytes, B.returns, hml, findClass_of_methodNamed B.named, B.notSynchronized, fun w hw => hts w (List.mem_cons_of_mem _ hw)⟩ hWd hSt va_S.rf hl2 trivial
theorem wf_Wd_end {G : wf_G} {mem : wf_Mem} {s t : State} {H : Heap} (D : wf_Wd G mem s H) (ht : t.heap = H) (hW : s.WarmedH t.vm) : wf_Wd G mem t t.heap := ⟨va_K.moved hW.alike D.1, by rw [ht]; exact D.2.1, D.2.2⟩
section WFC
variable {N : wf_Nd} {M M' : wf_M} {pc d n idx : Nat} {lv : List (Nat × Value)} {st : List Value} {mem : wf_Mem}
/-- returns -/
theorem V_iret {P : Int32 → wf_Mem → Prop} {v : Int32} (hd : decode M.2.1 pc = .ok (.ireturn, 1)) (hr : M.2.2.2 = some .int) (h : P v mem) : Vw (Ni d P) M pc lv [.int v] mem := by
  intro G p l e s m args below meth c H locs ls C D Z S L X
  have hlocks := C.2.2.2.2.2.1
  exact W.iret C.1 C.2.1 (C.2.2.1.trans hr) (fun t ht hW => ⟨⟨some (.int v), mem, rfl, ⟨v, rfl, h⟩, wf_Wd_end D ht hW⟩, S.F ht⟩) S.2.2 hd hlocks
theorem V_zret {P : Int32 → wf_Mem → Prop} {v : Int32} {ty : FieldType} (hd : decode M.2.1 pc = .ok (.ireturn, 1)) (hr : M.2.2.2 = some ty) (hn : narrow ty (.int v) = .int v) (h : P v mem) : Vw (Ni d P) M pc lv [.int v] mem := by
  intro G p l e s m args below meth c H locs ls C D Z S L X
  have hlocks := C.2.2.2.2.2.1
  exact W.zret C.1 C.2.1 (C.2.2.1.trans hr) hn (fun t ht hW => ⟨⟨some (.int v), mem, rfl, ⟨v, rfl, h⟩, wf_Wd_end D ht hW⟩, S.F ht⟩) S.2.2 hd hlocks
theorem V_vret {P : wf_Mem → Prop} (hd : decode M.2.1 pc = .ok (.return_, 1)) (hr : M.2.2.2 = none) (h : P mem) : Vw (Nv d P) M pc lv [] mem := by
  intro G p l e s m args below meth c H locs ls C D Z S L X
  have hlocks := C.2.2.2.2.2.1
  exact W.vret C.1 C.2.1 (C.2.2.1.trans hr) (fun t ht hW => ⟨⟨none, mem, rfl, ⟨rfl, h⟩, wf_Wd_end D ht hW⟩, S.F ht⟩) S.2.2 hd hlocks
theorem V_aret {P : Nat → wf_Mem → Prop} {a : Nat} {ty : FieldType} (hd : decode M.2.1 pc = .ok (.areturn, 1)) (hr : M.2.2.2 = some ty) (ht : (∃ n, ty = .object n) ∨ ∃ t, ty = .array t) (h : P a mem) : Vw (Na d P) M pc lv [.ref a] mem := by
  intro G p l e s m args below meth c H locs ls C D Z S L X
  have hlocks := C.2.2.2.2.2.1
  exact W.aret C.1 C.2.1 (C.2.2.1.trans hr) ht (Or.inr ⟨_, rfl⟩) (fun t ht hW => ⟨⟨some (.ref a), mem, rfl, ⟨a, rfl, h⟩, wf_Wd_end D ht hW⟩, S.F ht⟩) S.2.2 hd hlocks
/-- the caller has room for a callee of depth d -/
def wf_rok (N : wf_Nd) (d : Nat) : Prop := d + 1 ≤ N.1.frames ∧ 40 * d + 40 ≤ N.1.locals ∧ N.2.1 ≤ N.1.cells ∧ N.2.2.1 ≤ N.1.slots
theorem wf_rok_m {d : Nat} {Q : Option Value → wf_Mem → Prop} : wf_rok (wf_Nm (d + 1) Q) d := ⟨Nat.le_refl _, Nat.le_refl (40 * d + 40), Nat.le_refl _, Nat.le_refl _⟩
theorem wf_back {p : Program} {l : Launch} {e : Env} {R : Room} {s : State} {m : MethodId} {args : Array Value} {below : List Frame} {meth : Method} {c : Code} {H : Heap} {locs : List Loc} {cells slots : Nat} {Qf : State → Prop} {G : wf_G} {ls : Array Slot} {st0 rest : List Value} {a : Array Value} {Q : Option Value → wf_Mem → Prop}
    (hr : va_Run p l e R s m args below meth c H locs cells slots 0 0 (F0 m pc ls st0) rest (wf_Qc G Q a) (wf_A G)) (D : wf_Wd G mem s H) (S : va_S (wf_A G) s.heap H locs)
    (kk : ∀ (v : Option Value) (mem' : wf_Mem) (H1 : Heap) (locs1 : List Loc), Q v mem' → wf_Wd G mem' s H1 → va_S (wf_A G) s.heap H1 locs1 → W p l e R s m args below meth c H1 locs1 cells slots Qf (F0 m (pc + 3) ls ((v.map (wf_tr G.2.2)).toList ++ rest))) :
    W p l e R s m args below meth c H locs cells slots Qf (F0 m pc ls st0) := by
  intro T hT X
  obtain ⟨v, st₀, t, T', L, h0, X', hL, e1, e2, ⟨⟨v2, mem', hv, hq, hw⟩, hz, hk⟩, go⟩ := hr T hT X
  cases hv
  rw [h0] at hz hk
  obtain ⟨t2, a1, b1⟩ := kk v2 mem' T'.heap (locs ++ L) hq ⟨D.1, by rw [e1]; exact hw.2.1, D.2.2⟩
    ⟨Nat.le_trans S.1 (by rw [e1]; exact hz), fun q h1 h2 => by rw [e1, hk q (Nat.lt_of_lt_of_le h1 S.1) h2]; exact S.2.1 q h1 h2, fun q hq => by
      rcases List.mem_append.mp hq with h | h
      · exact S.2.2 q h
      · exact hL q h⟩ T' rfl X'
  exact ⟨t2, go t2 a1, b1⟩
/-- what the tables say of a method -/
def wf_MD (M' : wf_M) (n : Nat) : Prop := Cond.code M'.1 M'.2.1 M'.2.2.1 M'.2.2.2 ∈ gw_tbl ∧ Cond.initialized M'.1.cls ∈ gw_tbl ∧ (M'.1.cls ≠ "java/lang/invoke/MethodHandle" ∧ M'.1.cls ≠ "java/lang/invoke/VarHandle" ∧ (parseMethodDescriptor M'.1.desc).map (fun d => d.parameters.length) = some n) ∧ M'.2.2.1 ≤ 21
def wf_MV (M' : wf_M) (n : Nat) : Prop := wf_MD M' n ∧ Cond.instanceMethod M'.1 ∈ gw_tbl ∧ Cond.selects M'.1.cls M'.1 M'.1 ∈ gw_tbl
def wf_MS (M' : wf_M) (n : Nat) : Prop := wf_MD M' n ∧ Cond.static M'.1 ∈ gw_tbl
theorem wf_MD.good {n : Nat} (h : wf_MD M' n) : GoodIn gw_tbl (wf_wsM M') := by
  intro w hw
  have hg : GoodIn gw_tbl gw_tbl := gw_good (fun _ h => h)
  rcases List.mem_cons.mp hw with rfl | h1
  · exact hg _ h.1
  · exact hg _ h1
theorem wf_pre {G : wf_G} {s : State} {H : Heap} {locs : List Loc} {As : List Value} (D : wf_Wd G mem s H) (Z : wf_St G s) (S : va_S (wf_A G) s.heap H locs) : ∀ U : State, U.heap = H → s.WarmedH U.vm → va_Pc (As.map (wf_tr G.2.2)) (fun U => wf_Wd G mem U U.heap ∧ wf_St G U) (As.map (wf_tr G.2.2)).toArray U :=
  fun U hU hW => ⟨rfl, wf_Wd_end D hU hW, Z.go hW hU S⟩
theorem wf_blind {G : wf_G} {As : List Value} : FrameBlind (va_Pc As (fun U => wf_Wd G mem U U.heap ∧ wf_St G U)) := by
  intro a U g mk h
  obtain ⟨h1, ⟨h2, h3, h4⟩, h5⟩ := h
  exact ⟨h1, ⟨va_K.moved (u := U) (U := U.calling g mk a) (Vm.Alike.refl U.vm) h2, h3, h4⟩, wf_St.go (locs := []) h5 (U := U.calling g mk a) (State.WarmedH.refl U) rfl va_S.rf⟩
theorem wf_cat (G : wf_G) (st : List Value) : ((st.map (wf_tr G.2.2)).map fun v => v.category).sum = (st.map fun v => v.category).sum := by
  congr 1
  rw [List.map_map]
  exact List.map_congr_left (fun v _ => wf_tr_cat _ v)
theorem wf_toList (G : wf_G) (v : Option Value) (st : List Value) : (v.map (wf_tr G.2.2)).toList ++ st.map (wf_tr G.2.2) = (v.toList ++ st).map (wf_tr G.2.2) := by cases v <;> rfl
theorem V_callV {st0 : List Value} {ci n' b : Nat} {T : u_T} {k' : Nat} (As : List Value) (hm : wf_MV M' n) (hl : Cond.methodLink M.1.cls idx M'.1 ∈ gw_tbl) (hd : decode M.2.1 pc = .ok (.invokevirtual idx, 3)) (hR : wf_rok N d)
    (hs : wf_sh b = (ci, n')) (hcl : vwCl[ci]? = some (M'.1.cls, T, k')) (hci : ci < 10) (hn : As.length = n) (hst : As.reverse ++ .ref b :: st = st0) (hw : (st.map fun v => v.category).sum ≤ 8)
    {Q : Option Value → wf_Mem → Prop} (hC : Cw M' d (.ref b :: As) mem Q) (kk : ∀ v mem', Q v mem' → Vw N M (pc + 3) lv (v.toList ++ st) mem') : Vw N M pc lv st0 mem := by
  subst hst
  have hb : b < 139 := wf_sh_lt hs (show ci ≠ 99 by omega)
  intro G p l e s m args below meth c H locs ls C D Z S L X
  have hrun := va_runV (p := p) (e := e) (m := m) (below := below) (meth := meth) (H := H) (locs := locs) (cells := N.2.1) (slots := N.2.2.1) (C := M'.1.cls) (b := G.2.2 b) (As := As.map (wf_tr G.2.2)) (rest := st.map (wf_tr G.2.2)) (g := F0 m pc ls ((As.reverse ++ .ref b :: st).map (wf_tr G.2.2)))
    (Ts := gw_tbl) (own := M.1.cls) (nL := M.2.2.1) (index := idx) (n := n) ⟨C.1, C.2.1, C.2.2.2.1, C.2.2.2.2.1, C.2.2.2.2.2.2⟩ (hC G l) (bytes := M'.2.1) (maxL := M'.2.2.1) (ret := M'.2.2.2) (R := N.1)
    ⟨callB_of n C.2.2.2.2.2.2 hm.1.good rfl rfl rfl (C.2.2.2.2.2.2 _ hm.1.2.1) (C.2.2.2.2.2.2 _ hl) hm.1.2.2.1 ⟨hR.1, by have := hm.1.2.2.2; have := hR.2.1; show 8 + (M'.2.2.1 + 11) + 40 * d ≤ N.1.locals; omega⟩, C.2.2.2.2.2.2 _ hm.2.1, C.2.2.2.2.2.2 _ hm.2.2⟩
    ⟨wf_blind, va_recv D.1 D.2.1 (ci := ci) (q0 := b) hcl (by rw [wf_ws_at hb, wf_E_obj hs hci]), wf_pre (As := .ref b :: As) D Z S⟩
    rfl (by rw [List.length_map]; exact hn) L.1 (by show (As.reverse ++ .ref b :: st).map (wf_tr G.2.2) = _; rw [List.map_append, List.map_reverse]; rfl) (lv_room (by rw [wf_cat]; exact hw)) hd ⟨hR.2.2.1, hR.2.2.2⟩
  exact wf_back (Q := Q) hrun D S (fun v mem' H1 locs1 hq D1 S1 => by rw [wf_toList]; exact kk v mem' hq G p l e s m args below meth c H1 locs1 ls C D1 Z S1 L X)
theorem V_callS {st0 : List Value} (As : List Value) (hm : wf_MS M' n) (hl : Cond.methodLink M.1.cls idx M'.1 ∈ gw_tbl) (hd : decode M.2.1 pc = .ok (.invokestatic idx, 3)) (hR : wf_rok N d)
    (hn : As.length = n) (hst : As.reverse ++ st = st0) (hw : (st.map fun v => v.category).sum ≤ 8)
    {Q : Option Value → wf_Mem → Prop} (hC : Cw M' d As mem Q) (kk : ∀ v mem', Q v mem' → Vw N M (pc + 3) lv (v.toList ++ st) mem') : Vw N M pc lv st0 mem := by
  subst hst
  intro G p l e s m args below meth c H locs ls C D Z S L X
  have hrun := va_runS (p := p) (e := e) (m := m) (below := below) (meth := meth) (H := H) (locs := locs) (cells := N.2.1) (slots := N.2.2.1) (As := As.map (wf_tr G.2.2)) (rest := st.map (wf_tr G.2.2)) (g := F0 m pc ls ((As.reverse ++ st).map (wf_tr G.2.2)))
    (Ts := gw_tbl) (own := M.1.cls) (nL := M.2.2.1) (index := idx) (n := n) ⟨C.1, C.2.1, C.2.2.2.1, C.2.2.2.2.1, C.2.2.2.2.2.2⟩ (hC G l) (bytes := M'.2.1) (maxL := M'.2.2.1) (ret := M'.2.2.2) (R := N.1)
    ⟨callB_of n C.2.2.2.2.2.2 hm.1.good rfl rfl rfl (C.2.2.2.2.2.2 _ hm.1.2.1) (C.2.2.2.2.2.2 _ hl) hm.1.2.2.1 ⟨hR.1, by have := hm.1.2.2.2; have := hR.2.1; show 8 + (M'.2.2.1 + 11) + 40 * d ≤ N.1.locals; omega⟩, C.2.2.2.2.2.2 _ hm.2⟩
    ⟨wf_blind, wf_pre D Z S⟩
    rfl (by rw [List.length_map]; exact hn) L.1 (by show (As.reverse ++ st).map (wf_tr G.2.2) = _; rw [List.map_append, List.map_reverse]) (lv_room (by rw [wf_cat]; exact hw)) hd ⟨hR.2.2.1, hR.2.2.2⟩
  exact wf_back (Q := Q) hrun D S (fun v mem' H1 locs1 hq D1 S1 => by rw [wf_toList]; exact kk v mem' hq G p l e s m args below meth c H1 locs1 ls C D1 Z S1 L X)
theorem V_callSN {st0 : List Value} {host : String} (As : List Value) (hm : wf_MS M' n) (hl : Cond.methodLinkNest M.1.cls idx M'.1 host ∈ wf_nest) (hd : decode M.2.1 pc = .ok (.invokestatic idx, 3)) (hR : wf_rok N d)
    (hn : As.length = n) (hst : As.reverse ++ st = st0) (hw : (st.map fun v => v.category).sum ≤ 8)
    {Q : Option Value → wf_Mem → Prop} (hC : Cw M' d As mem Q) (kk : ∀ v mem', Q v mem' → Vw N M (pc + 3) lv (v.toList ++ st) mem') : Vw N M pc lv st0 mem := by
  subst hst
  intro G p l e s m args below meth c H locs ls C D Z S L X
  have hrun := va_runSN (p := p) (e := e) (m := m) (below := below) (meth := meth) (H := H) (locs := locs) (cells := N.2.1) (slots := N.2.2.1) (As := As.map (wf_tr G.2.2)) (rest := st.map (wf_tr G.2.2)) (g := F0 m pc ls ((As.reverse ++ st).map (wf_tr G.2.2)))
    (Ts := gw_tbl) (own := M.1.cls) (nL := M.2.2.1) (index := idx) (n := n) ⟨C.1, C.2.1, C.2.2.2.1, C.2.2.2.2.1, C.2.2.2.2.2.2⟩ (hC G l) (bytes := M'.2.1) (maxL := M'.2.2.1) (ret := M'.2.2.2) (R := N.1) (host := host)
    ⟨va_cnB n C.2.2.2.2.2.2 hm.1.good rfl rfl rfl (Z.2.2.2.2.2 _ hl) (C.2.2.2.2.2.2 _ hm.1.2.1) hm.1.2.2.1 ⟨hR.1, by have := hm.1.2.2.2; have := hR.2.1; show 8 + (M'.2.2.1 + 11) + 40 * d ≤ N.1.locals; omega⟩, C.2.2.2.2.2.2 _ hm.2, trivial⟩
    ⟨wf_blind, wf_pre D Z S⟩
    rfl (by rw [List.length_map]; exact hn) L.1 (by show (As.reverse ++ st).map (wf_tr G.2.2) = _; rw [List.map_append, List.map_reverse]) (lv_room (by rw [wf_cat]; exact hw)) hd ⟨hR.2.2.1, hR.2.2.2⟩
  exact wf_back (Q := Q) hrun D S (fun v mem' H1 locs1 hq D1 S1 => by rw [wf_toList]; exact kk v mem' hq G p l e s m args below meth c H1 locs1 ls C D1 Z S1 L X)
end WFC
end
section
/-! Math, arraycopy, String constants -/
def wf_mc (m : wf_Mem) (a0 sp a dp n : Nat) : wf_Mem := fun b j => if b = a ∧ dp ≤ j ∧ j < dp + n then m a0 (sp + (j - dp)) else m b j
theorem wf_mc_same (m : wf_Mem) (a0 sp a dp n : Nat) : wf_mc m a0 sp a dp n a = va_cpy (m a0) (m a) sp dp n := by
  funext j
  simp [wf_mc, va_cpy]
theorem wf_mc_other (m : wf_Mem) (a0 sp a dp n : Nat) {b : Nat} (h : b ≠ a) : wf_mc m a0 sp a dp n b = m b := by
  funext j
  simp [wf_mc, h]
theorem wf_ws_setF {G : wf_G} {m m' : wf_Mem} {a : Nat} {e : va_E} (ha : a < 139) (he : e = wf_E G (m' a) a) (ho : ∀ b, b ≠ a → m' b = m b) : (wf_ws G m).set a (G.2.2 a, e) = wf_ws G m' := by
  subst he
  apply List.ext_getElem?
  intro j
  rcases Nat.lt_or_ge j 139 with hj | hj
  · rw [wf_ws_at hj]
    by_cases h : j = a
    · subst h
      rw [List.getElem?_set_self (by rw [wf_ws_len]; exact hj)]
    · rw [List.getElem?_set_ne (Ne.symm h), wf_ws_at hj, ho j h]
  · rw [List.getElem?_eq_none (by rw [List.length_set, wf_ws_len]; exact hj), List.getElem?_eq_none (by rw [wf_ws_len]; exact hj)]
section WFJ
variable {N : wf_Nd} {M M' : wf_M} {pc d n idx : Nat} {lv : List (Nat × Value)} {st : List Value} {mem : wf_Mem}
theorem V_mmax {x y : Int32} (hl : Cond.methodLink M.1.cls idx Lib.Math.max.name ∈ gw_tbl) (hw : Cond.static Lib.Math.max.name ∈ gw_tbl ∧ Cond.initialized "java/lang/Math" ∈ gw_tbl ∧ Cond.code Lib.Math.max.name Lib.Math.max.code 2 (some .int) ∈ gw_tbl) (hd : decode M.2.1 pc = .ok (.invokestatic idx, 3)) (hR : wf_rok N d) (hc : (st.map fun v => v.category).sum ≤ 8)
    (kk : Vw N M (pc + 3) lv (.int (if x < y then y else x) :: st) mem) : Vw N M pc lv (.int y :: .int x :: st) mem := by
  intro G p l e s m args below meth c H locs ls C D Z S L X
  have hk := C.2.2.2.2.2.2
  exact va_mmax C.1 C.2.1 (C.2.2.2.1.trans L.1.symm) C.2.2.2.2.1 (hk _ hl) (hk _ hw.1) (hk _ hw.2.1) (hk _ hw.2.2) (by have := hR.1; omega) (by have := hR.2.1; rw [wf_cat]; omega) hR.2.2.1 hR.2.2.2 hd (kk G p l e s m args below meth c H locs ls C D Z S L X)
theorem V_mmin {x y : Int32} (hl : Cond.methodLink M.1.cls idx Lib.Math.min.name ∈ gw_tbl) (hw : Cond.static Lib.Math.min.name ∈ gw_tbl ∧ Cond.initialized "java/lang/Math" ∈ gw_tbl ∧ Cond.code Lib.Math.min.name Lib.Math.min.code 2 (some .int) ∈ gw_tbl) (hd : decode M.2.1 pc = .ok (.invokestatic idx, 3)) (hR : wf_rok N d) (hc : (st.map fun v => v.category).sum ≤ 8)
    (kk : Vw N M (pc + 3) lv (.int (if y < x then y else x) :: st) mem) : Vw N M pc lv (.int y :: .int x :: st) mem := by
  intro G p l e s m args below meth c H locs ls C D Z S L X
  have hk := C.2.2.2.2.2.2
  exact va_mmin C.1 C.2.1 (C.2.2.2.1.trans L.1.symm) C.2.2.2.2.1 (hk _ hl) (hk _ hw.1) (hk _ hw.2.1) (hk _ hw.2.2) (by have := hR.1; omega) (by have := hR.2.1; rw [wf_cat]; omega) hR.2.2.1 hR.2.2.2 hd (kk G p l e s m args below meth c H locs ls C D Z S L X)
theorem V_mabs {x : Int32} (hl : Cond.methodLink M.1.cls idx Lib.Math.abs.name ∈ gw_tbl) (hw : Cond.static Lib.Math.abs.name ∈ gw_tbl ∧ Cond.initialized "java/lang/Math" ∈ gw_tbl ∧ Cond.code Lib.Math.abs.name Lib.Math.abs.code 1 (some .int) ∈ gw_tbl) (hd : decode M.2.1 pc = .ok (.invokestatic idx, 3)) (hR : wf_rok N d) (hc : (st.map fun v => v.category).sum ≤ 8)
    (kk : Vw N M (pc + 3) lv (.int (if 0 ≤ x then x else 0 - x) :: st) mem) : Vw N M pc lv (.int x :: st) mem := by
  intro G p l e s m args below meth c H locs ls C D Z S L X
  have hk := C.2.2.2.2.2.2
  exact va_mabs C.1 C.2.1 (C.2.2.2.1.trans L.1.symm) C.2.2.2.2.1 (hk _ hl) (hk _ hw.1) (hk _ hw.2.1) (hk _ hw.2.2) (by have := hR.1; omega) (by have := hR.2.1; rw [wf_cat]; omega) hR.2.2.1 hR.2.2.2 hd (kk G p l e s m args below meth c H locs ls C D Z S L X)
theorem V_copy {a0 a n0 n1 : Nat} {sp dp k : Int32} (hl : Cond.methodLink M.1.cls idx arraycopyName ∈ gw_tbl) (hw : Cond.native arraycopyName ∈ gw_tbl ∧ Cond.static arraycopyName ∈ gw_tbl ∧ Cond.initialized "java/lang/System" ∈ gw_tbl) (hd : decode M.2.1 pc = .ok (.invokestatic idx, 3)) (hR : wf_rok N d) (hc : (st.map fun v => v.category).sum ≤ 8) (h0 : wf_sh a0 = (20, n0)) (h1 : wf_sh a = (20, n1))
    (h : (¬ sp < 0 ∧ ¬ dp < 0 ∧ ¬ k < 0 ∧ sp.toNatClampNeg + k.toNatClampNeg ≤ n0 ∧ dp.toNatClampNeg + k.toNatClampNeg ≤ n1) ∧ Vw N M (pc + 3) lv st (wf_mc mem a0 sp.toNatClampNeg a dp.toNatClampNeg k.toNatClampNeg)) : Vw N M pc lv (.int k :: .int dp :: .ref a :: .int sp :: .ref a0 :: st) mem := by
  have ha0 : a0 < 139 := wf_sh_lt h0 (show (20 : Nat) ≠ 99 by decide)
  have ha : a < 139 := wf_sh_lt h1 (show (20 : Nat) ≠ 99 by decide)
  obtain ⟨⟨g1, g2, g3, g4, g5⟩, kk⟩ := h
  intro G p l e s m args below meth c H locs ls C D Z S L X
  have hk := C.2.2.2.2.2.2
  refine va_copyi C.1 C.2.1 (C.2.2.2.1.trans L.1.symm) C.2.2.2.2.1 (hk _ hl) (hk _ hw.1) (hk _ hw.2.1) (hk _ hw.2.2) D.1 D.2.1 (wf_D D.2.2 mem) S a0 a 0 0 (by rw [wf_ws_at ha0, wf_E_int h0]) (by rw [wf_ws_at ha, wf_E_int h1]) rfl rfl rfl g1 g2 g3 g4 g5 (fun _ _ => rfl) (by have := hR.1; omega) (by have := hR.2.1; rw [wf_cat]; show _ + (7 + 11) ≤ _; omega) hd (fun H1 locs1 hP1 _ hS1 => ?_)
  rw [wf_ws_setF ha (m' := wf_mc mem a0 sp.toNatClampNeg a dp.toNatClampNeg k.toNatClampNeg) (by rw [wf_mc_same, wf_E_int h1]) (fun b hb => wf_mc_other _ _ _ _ _ _ hb)] at hP1
  exact kk G p l e s m args below meth c H1 locs1 ls C ⟨D.1, hP1, D.2.2⟩ Z hS1 L X
/-- String constants: String i lies at 100000 + 2 i, its bytes at 100001 + 2 i -/
theorem V_sref {tx : String} {a : Nat} (hz : ∀ (G : wf_G) (U : State), wf_St G U → vk_R M.1.cls idx tx (G.2.2 a) U) (hd : decode M.2.1 pc = .ok (.ldc idx, 2)) (kk : Vw N M (pc + 2) lv (.ref a :: st) mem) : Vw N M pc lv st mem := by
  intro G p l e s m args below meth c H locs ls C D Z S L X
  exact va_ldcS C.1 C.2.1 C.2.2.2.2.1 (hz G s Z) hd (kk G p l e s m args below meth c H locs ls C D Z S L X)
theorem V_sval {i : Nat} (hi : i < 6) (hw : Cond.fieldLink M.1.cls idx RJ0 "value" "[B" ∈ gw_tbl) (hd : decode M.2.1 pc = .ok (.getfield idx, 3)) (kk : Vw N M (pc + 3) lv (.ref (100001 + 2 * i) :: st) mem) : Vw N M pc lv (.ref (100000 + 2 * i) :: st) mem := by
  intro G p l e s m args below meth c H locs ls C D Z S L X
  exact vk_getf C.1 C.2.1 (Z.2.2.2.1.1 i hi).2.2.1 S C.2.2.2.2.1 (C.2.2.2.2.2.2 _ hw) (fun _ h => h) hd (kk G p l e s m args below meth c H locs ls C D Z S L X)
theorem V_scod {i : Nat} (hi : i < 6) (hw : Cond.fieldLink M.1.cls idx RJ0 "coder" "B" ∈ gw_tbl) (hd : decode M.2.1 pc = .ok (.getfield idx, 3)) (kk : Vw N M (pc + 3) lv (.int 0 :: st) mem) : Vw N M pc lv (.ref (100000 + 2 * i) :: st) mem := by
  intro G p l e s m args below meth c H locs ls C D Z S L X
  exact vk_getf C.1 C.2.1 (Z.2.2.2.1.1 i hi).2.1 S C.2.2.2.2.1 (C.2.2.2.2.2.2 _ hw) (fun _ h => h) hd (kk G p l e s m args below meth c H locs ls C D Z S L X)
theorem V_cmps (hw : Cond.fieldLink M.1.cls idx RJ0 "COMPACT_STRINGS" "Z" ∈ gw_tbl) (hd : decode M.2.1 pc = .ok (.getstatic idx, 3)) (kk : Vw N M (pc + 3) lv (.int 1 :: st) mem) : Vw N M pc lv st mem := by
  intro G p l e s m args below meth c H locs ls C D Z S L X
  exact va_gets C.1 C.2.1 Z.2.2.1 S C.2.2.2.2.1 (C.2.2.2.2.2.2 _ hw) (fun _ h => h) hd (kk G p l e s m args below meth c H locs ls C D Z S L X)
theorem V_sbyt {i : Nat} {j : Int32} (hi : i < 6) (hd : decode M.2.1 pc = .ok (.baload, 1)) (h : vp_in j (wf_sLen.getD i 0) ∧ Vw N M (pc + 1) lv (.int ((wf_sByt.getD i []).getD j.toNatClampNeg 0) :: st) mem) : Vw N M pc lv (.int j :: .ref (100001 + 2 * i) :: st) mem := by
  intro G p l e s m args below meth c H locs ls C D Z S L X
  exact va_tb C.1 C.2.1 (Z.2.2.2.1.1 i hi).2.2.2 S h.1 rfl hd (h.2 G p l e s m args below meth c H locs ls C D Z S L X)
theorem V_slen {i : Nat} {v : Int32} (hi : i < 6) (hd : decode M.2.1 pc = .ok (.arraylength, 1)) (hv : Int32.ofNat (wf_sLen.getD i 0) = v) (kk : Vw N M (pc + 1) lv (.int v :: st) mem) : Vw N M pc lv (.ref (100001 + 2 * i) :: st) mem := by
  intro G p l e s m args below meth c H locs ls C D Z S L X
  exact va_tlen C.1 C.2.1 (Z.2.2.2.1.1 i hi).2.2.2 S hv hd (kk G p l e s m args below meth c H locs ls C D Z S L X)
/-- a call on a String constant -/
theorem V_callX {st0 : List Value} {i : Nat} (As : List Value) (hi : i < 6) (hy : M'.1.cls = RJ0) (hm : wf_MV M' n) (hl : Cond.methodLink M.1.cls idx M'.1 ∈ gw_tbl) (hd : decode M.2.1 pc = .ok (.invokevirtual idx, 3)) (hR : wf_rok N d)
    (hn : As.length = n) (hst : As.reverse ++ .ref (100000 + 2 * i) :: st = st0) (hw : (st.map fun v => v.category).sum ≤ 8)
    {Q : Option Value → wf_Mem → Prop} (hC : Cw M' d (.ref (100000 + 2 * i) :: As) mem Q) (kk : ∀ v mem', Q v mem' → Vw N M (pc + 3) lv (v.toList ++ st) mem') : Vw N M pc lv st0 mem := by
  subst hst
  intro G p l e s m args below meth c H locs ls C D Z S L X
  have hrun := va_runV (p := p) (e := e) (m := m) (below := below) (meth := meth) (H := H) (locs := locs) (cells := N.2.1) (slots := N.2.2.1) (C := M'.1.cls) (b := G.2.2 (100000 + 2 * i)) (As := As.map (wf_tr G.2.2)) (rest := st.map (wf_tr G.2.2)) (g := F0 m pc ls ((As.reverse ++ .ref (100000 + 2 * i) :: st).map (wf_tr G.2.2)))
    (Ts := gw_tbl) (own := M.1.cls) (nL := M.2.2.1) (index := idx) (n := n) ⟨C.1, C.2.1, C.2.2.2.1, C.2.2.2.2.1, C.2.2.2.2.2.2⟩ (hC G l) (bytes := M'.2.1) (maxL := M'.2.2.1) (ret := M'.2.2.2) (R := N.1)
    ⟨callB_of n C.2.2.2.2.2.2 hm.1.good rfl rfl rfl (C.2.2.2.2.2.2 _ hm.1.2.1) (C.2.2.2.2.2.2 _ hl) hm.1.2.2.1 ⟨hR.1, by have := hm.1.2.2.2; have := hR.2.1; show 8 + (M'.2.2.1 + 11) + 40 * d ≤ N.1.locals; omega⟩, C.2.2.2.2.2.2 _ hm.2.1, C.2.2.2.2.2.2 _ hm.2.2⟩
    ⟨wf_blind, by rw [hy]; exact vk_recv (adK := fun i => G.2.2 (100000 + 2 * i)) Z.2.2.2.1 hi S, wf_pre (As := .ref (100000 + 2 * i) :: As) D Z S⟩
    rfl (by rw [List.length_map]; exact hn) L.1 (by show (As.reverse ++ .ref (100000 + 2 * i) :: st).map (wf_tr G.2.2) = _; rw [List.map_append, List.map_reverse]; rfl) (lv_room (by rw [wf_cat]; exact hw)) hd ⟨hR.2.2.1, hR.2.2.2⟩
  exact wf_back (Q := Q) hrun D S (fun v mem' H1 locs1 hq D1 S1 => by rw [wf_toList]; exact kk v mem' hq G p l e s m args below meth c H1 locs1 ls C D1 Z S1 L X)
end WFJ
end
section
theorem zz_last : True := trivial
end
