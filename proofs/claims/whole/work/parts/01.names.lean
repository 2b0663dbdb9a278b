-- ===== PART A: goes FIRST, ahead of the names: the tables' words, and 'selects' of the private methods out of them =====
/-- a private method of a class that the tables say can be made, by its rows of tables_1 -/
def lw_okq (q : MethodName × Nat) : Prop := (q.1.cls ≠ "java/lang/invoke/MethodHandle" ∧ q.1.cls ≠ "java/lang/invoke/VarHandle") ∧ Cond.instantiable q.1.cls q.2 ∈ tables_1 ∧ Cond.privateMethod q.1 ∈ tables_1 ∧ Cond.instanceMethod q.1 ∈ tables_1
theorem lw_p0 : lw_okq (⟨"EveryPew", "refuse", "(I)I"⟩, 11) := ⟨⟨by decide +kernel, by decide +kernel⟩, List.mem_of_getElem? (i := 23) (by decide +kernel), List.mem_of_getElem? (i := 312) (by decide +kernel), List.mem_of_getElem? (i := 313) (by decide +kernel)⟩
theorem lw_p1 : lw_okq (⟨"EveryPew$TextOfChurch", "advance", "()V"⟩, 6) := ⟨⟨by decide +kernel, by decide +kernel⟩, List.mem_of_getElem? (i := 115) (by decide +kernel), List.mem_of_getElem? (i := 366) (by decide +kernel), List.mem_of_getElem? (i := 367) (by decide +kernel)⟩
theorem lw_p2 : lw_okq (⟨"EveryPew$TextOfChurch", "figures", "()I"⟩, 6) := ⟨⟨by decide +kernel, by decide +kernel⟩, List.mem_of_getElem? (i := 115) (by decide +kernel), List.mem_of_getElem? (i := 373) (by decide +kernel), List.mem_of_getElem? (i := 374) (by decide +kernel)⟩
theorem lw_p3 : lw_okq (⟨"EveryPew$TextOfChurch", "says", "(Ljava/lang/String;)Z"⟩, 6) := ⟨⟨by decide +kernel, by decide +kernel⟩, List.mem_of_getElem? (i := 115) (by decide +kernel), List.mem_of_getElem? (i := 378) (by decide +kernel), List.mem_of_getElem? (i := 379) (by decide +kernel)⟩
theorem lw_p4 : lw_okq (⟨"EveryPew$TextOfChurch", "takesNumber", "(II)Z"⟩, 6) := ⟨⟨by decide +kernel, by decide +kernel⟩, List.mem_of_getElem? (i := 115) (by decide +kernel), List.mem_of_getElem? (i := 430) (by decide +kernel), List.mem_of_getElem? (i := 431) (by decide +kernel)⟩
theorem lw_p5 : lw_okq (⟨"EveryPew$TextOfChurch", "isNumber", "(II)Z"⟩, 6) := ⟨⟨by decide +kernel, by decide +kernel⟩, List.mem_of_getElem? (i := 115) (by decide +kernel), List.mem_of_getElem? (i := 434) (by decide +kernel), List.mem_of_getElem? (i := 435) (by decide +kernel)⟩
theorem lw_p6 : lw_okq (⟨"EveryPew$TextOfChurch", "takesStop", "()Z"⟩, 6) := ⟨⟨by decide +kernel, by decide +kernel⟩, List.mem_of_getElem? (i := 115) (by decide +kernel), List.mem_of_getElem? (i := 440) (by decide +kernel), List.mem_of_getElem? (i := 441) (by decide +kernel)⟩
theorem lw_p7 : lw_okq (⟨"EveryPew$TextOfChurch", "takesItem", "(LEveryPew$Church;)Z"⟩, 6) := ⟨⟨by decide +kernel, by decide +kernel⟩, List.mem_of_getElem? (i := 115) (by decide +kernel), List.mem_of_getElem? (i := 444) (by decide +kernel), List.mem_of_getElem? (i := 445) (by decide +kernel)⟩
theorem lw_p8 : lw_okq (⟨"EveryPew$TextOfChurch", "takesBook", "(LEveryPew$Church;)Z"⟩, 6) := ⟨⟨by decide +kernel, by decide +kernel⟩, List.mem_of_getElem? (i := 115) (by decide +kernel), List.mem_of_getElem? (i := 449) (by decide +kernel), List.mem_of_getElem? (i := 450) (by decide +kernel)⟩
theorem lw_p9 : lw_okq (⟨"EveryPew$TextOfChurch", "takesFamily", "(LEveryPew$Church;)Z"⟩, 6) := ⟨⟨by decide +kernel, by decide +kernel⟩, List.mem_of_getElem? (i := 115) (by decide +kernel), List.mem_of_getElem? (i := 454) (by decide +kernel), List.mem_of_getElem? (i := 455) (by decide +kernel)⟩
theorem lw_p10 : lw_okq (⟨"EveryPew$TextOfChurch", "takesCold", "(LEveryPew$Church;)Z"⟩, 6) := ⟨⟨by decide +kernel, by decide +kernel⟩, List.mem_of_getElem? (i := 115) (by decide +kernel), List.mem_of_getElem? (i := 462) (by decide +kernel), List.mem_of_getElem? (i := 463) (by decide +kernel)⟩
theorem lw_p11 : lw_okq (⟨"EveryPew$Service", "isPeacefulInCase", "(II)Z"⟩, 10) := ⟨⟨by decide +kernel, by decide +kernel⟩, List.mem_of_getElem? (i := 142) (by decide +kernel), List.mem_of_getElem? (i := 640) (by decide +kernel), List.mem_of_getElem? (i := 641) (by decide +kernel)⟩
theorem lw_p12 : lw_okq (⟨"EveryPew$Seating", "findTallest", "(LEveryPew$Service;I)V"⟩, 3) := ⟨⟨by decide +kernel, by decide +kernel⟩, List.mem_of_getElem? (i := 227) (by decide +kernel), List.mem_of_getElem? (i := 659) (by decide +kernel), List.mem_of_getElem? (i := 660) (by decide +kernel)⟩
theorem lw_p13 : lw_okq (⟨"EveryPew$Seating", "fillPew", "(LEveryPew$Service;II)V"⟩, 3) := ⟨⟨by decide +kernel, by decide +kernel⟩, List.mem_of_getElem? (i := 227) (by decide +kernel), List.mem_of_getElem? (i := 669) (by decide +kernel), List.mem_of_getElem? (i := 670) (by decide +kernel)⟩
theorem lw_p14 : lw_okq (⟨"EveryPew$Seating", "worth", "(LEveryPew$Service;III)I"⟩, 3) := ⟨⟨by decide +kernel, by decide +kernel⟩, List.mem_of_getElem? (i := 227) (by decide +kernel), List.mem_of_getElem? (i := 673) (by decide +kernel), List.mem_of_getElem? (i := 674) (by decide +kernel)⟩
theorem lw_p15 : lw_okq (⟨"EveryPew$Coughs", "mostAlike", "(LEveryPew$Service;I)I"⟩, 6) := ⟨⟨by decide +kernel, by decide +kernel⟩, List.mem_of_getElem? (i := 243) (by decide +kernel), List.mem_of_getElem? (i := 746) (by decide +kernel), List.mem_of_getElem? (i := 747) (by decide +kernel)⟩
def lw_privs_1 : List (MethodName × Nat) := [(⟨"EveryPew", "refuse", "(I)I"⟩, 11), (⟨"EveryPew$TextOfChurch", "advance", "()V"⟩, 6), (⟨"EveryPew$TextOfChurch", "figures", "()I"⟩, 6), (⟨"EveryPew$TextOfChurch", "says", "(Ljava/lang/String;)Z"⟩, 6), (⟨"EveryPew$TextOfChurch", "takesNumber", "(II)Z"⟩, 6), (⟨"EveryPew$TextOfChurch", "isNumber", "(II)Z"⟩, 6), (⟨"EveryPew$TextOfChurch", "takesStop", "()Z"⟩, 6), (⟨"EveryPew$TextOfChurch", "takesItem", "(LEveryPew$Church;)Z"⟩, 6), (⟨"EveryPew$TextOfChurch", "takesBook", "(LEveryPew$Church;)Z"⟩, 6), (⟨"EveryPew$TextOfChurch", "takesFamily", "(LEveryPew$Church;)Z"⟩, 6), (⟨"EveryPew$TextOfChurch", "takesCold", "(LEveryPew$Church;)Z"⟩, 6), (⟨"EveryPew$Service", "isPeacefulInCase", "(II)Z"⟩, 10), (⟨"EveryPew$Seating", "findTallest", "(LEveryPew$Service;I)V"⟩, 3), (⟨"EveryPew$Seating", "fillPew", "(LEveryPew$Service;II)V"⟩, 3), (⟨"EveryPew$Seating", "worth", "(LEveryPew$Service;III)I"⟩, 3), (⟨"EveryPew$Coughs", "mostAlike", "(LEveryPew$Service;I)I"⟩, 6)]
theorem lw_r1 : ∀ q ∈ lw_privs_1, lw_okq q := List.forall_mem_cons.mpr ⟨lw_p0, List.forall_mem_cons.mpr ⟨lw_p1, List.forall_mem_cons.mpr ⟨lw_p2, List.forall_mem_cons.mpr ⟨lw_p3, List.forall_mem_cons.mpr ⟨lw_p4, List.forall_mem_cons.mpr ⟨lw_p5, List.forall_mem_cons.mpr ⟨lw_p6, List.forall_mem_cons.mpr ⟨lw_p7, List.forall_mem_cons.mpr ⟨lw_p8, List.forall_mem_cons.mpr ⟨lw_p9, List.forall_mem_cons.mpr ⟨lw_p10, List.forall_mem_cons.mpr ⟨lw_p11, List.forall_mem_cons.mpr ⟨lw_p12, List.forall_mem_cons.mpr ⟨lw_p13, List.forall_mem_cons.mpr ⟨lw_p14, List.forall_mem_cons.mpr ⟨lw_p15, fun _ h => absurd h List.not_mem_nil⟩⟩⟩⟩⟩⟩⟩⟩⟩⟩⟩⟩⟩⟩⟩⟩
theorem lw_p16 : lw_okq (⟨"EveryPew", "leadOfBook0", "(II)I"⟩, 11) := ⟨⟨by decide +kernel, by decide +kernel⟩, List.mem_of_getElem? (i := 23) (by decide +kernel), List.mem_of_getElem? (i := 762) (by decide +kernel), List.mem_of_getElem? (i := 763) (by decide +kernel)⟩
theorem lw_p17 : lw_okq (⟨"EveryPew", "chancesOf", "(II)J"⟩, 11) := ⟨⟨by decide +kernel, by decide +kernel⟩, List.mem_of_getElem? (i := 23) (by decide +kernel), List.mem_of_getElem? (i := 779) (by decide +kernel), List.mem_of_getElem? (i := 780) (by decide +kernel)⟩
theorem lw_p18 : lw_okq (⟨"EveryPew", "keepFraction", "(JJ)V"⟩, 11) := ⟨⟨by decide +kernel, by decide +kernel⟩, List.mem_of_getElem? (i := 23) (by decide +kernel), List.mem_of_getElem? (i := 786) (by decide +kernel), List.mem_of_getElem? (i := 787) (by decide +kernel)⟩
theorem lw_p19 : lw_okq (⟨"EveryPew", "howMany", "(I)I"⟩, 11) := ⟨⟨by decide +kernel, by decide +kernel⟩, List.mem_of_getElem? (i := 23) (by decide +kernel), List.mem_of_getElem? (i := 823) (by decide +kernel), List.mem_of_getElem? (i := 824) (by decide +kernel)⟩
theorem lw_p20 : lw_okq (⟨"EveryPewModel", "bad", "(I)I"⟩, 25) := ⟨⟨by decide +kernel, by decide +kernel⟩, List.mem_of_getElem? (i := 833) (by decide +kernel), List.mem_of_getElem? (i := 926) (by decide +kernel), List.mem_of_getElem? (i := 927) (by decide +kernel)⟩
theorem lw_p21 : lw_okq (⟨"EveryPewModel", "many", "()I"⟩, 25) := ⟨⟨by decide +kernel, by decide +kernel⟩, List.mem_of_getElem? (i := 833) (by decide +kernel), List.mem_of_getElem? (i := 930) (by decide +kernel), List.mem_of_getElem? (i := 931) (by decide +kernel)⟩
theorem lw_p22 : lw_okq (⟨"EveryPewModel", "no", "()I"⟩, 25) := ⟨⟨by decide +kernel, by decide +kernel⟩, List.mem_of_getElem? (i := 833) (by decide +kernel), List.mem_of_getElem? (i := 955) (by decide +kernel), List.mem_of_getElem? (i := 956) (by decide +kernel)⟩
theorem lw_p23 : lw_okq (⟨"EveryPewModel", "full", "()I"⟩, 25) := ⟨⟨by decide +kernel, by decide +kernel⟩, List.mem_of_getElem? (i := 833) (by decide +kernel), List.mem_of_getElem? (i := 959) (by decide +kernel), List.mem_of_getElem? (i := 960) (by decide +kernel)⟩
theorem lw_p24 : lw_okq (⟨"EveryPewModel", "isFamily", "(I)Z"⟩, 25) := ⟨⟨by decide +kernel, by decide +kernel⟩, List.mem_of_getElem? (i := 833) (by decide +kernel), List.mem_of_getElem? (i := 970) (by decide +kernel), List.mem_of_getElem? (i := 971) (by decide +kernel)⟩
theorem lw_p25 : lw_okq (⟨"EveryPewModel", "get", "(II)I"⟩, 25) := ⟨⟨by decide +kernel, by decide +kernel⟩, List.mem_of_getElem? (i := 833) (by decide +kernel), List.mem_of_getElem? (i := 974) (by decide +kernel), List.mem_of_getElem? (i := 975) (by decide +kernel)⟩
theorem lw_p26 : lw_okq (⟨"EveryPewModel", "keep", "()V"⟩, 25) := ⟨⟨by decide +kernel, by decide +kernel⟩, List.mem_of_getElem? (i := 833) (by decide +kernel), List.mem_of_getElem? (i := 978) (by decide +kernel), List.mem_of_getElem? (i := 979) (by decide +kernel)⟩
theorem lw_p27 : lw_okq (⟨"EveryPewModel", "manyColds", "()I"⟩, 25) := ⟨⟨by decide +kernel, by decide +kernel⟩, List.mem_of_getElem? (i := 833) (by decide +kernel), List.mem_of_getElem? (i := 990) (by decide +kernel), List.mem_of_getElem? (i := 991) (by decide +kernel)⟩
theorem lw_p28 : lw_okq (⟨"EveryPewModel", "layHand", "()V"⟩, 25) := ⟨⟨by decide +kernel, by decide +kernel⟩, List.mem_of_getElem? (i := 833) (by decide +kernel), List.mem_of_getElem? (i := 1007) (by decide +kernel), List.mem_of_getElem? (i := 1008) (by decide +kernel)⟩
theorem lw_p29 : lw_okq (⟨"EveryPewModel", "kneels", "(II)Z"⟩, 25) := ⟨⟨by decide +kernel, by decide +kernel⟩, List.mem_of_getElem? (i := 833) (by decide +kernel), List.mem_of_getElem? (i := 1011) (by decide +kernel), List.mem_of_getElem? (i := 1012) (by decide +kernel)⟩
theorem lw_p30 : lw_okq (⟨"EveryPewModel", "high", "(II)I"⟩, 25) := ⟨⟨by decide +kernel, by decide +kernel⟩, List.mem_of_getElem? (i := 833) (by decide +kernel), List.mem_of_getElem? (i := 1018) (by decide +kernel), List.mem_of_getElem? (i := 1019) (by decide +kernel)⟩
theorem lw_p31 : lw_okq (⟨"EveryPewModel", "voices", "(II)I"⟩, 25) := ⟨⟨by decide +kernel, by decide +kernel⟩, List.mem_of_getElem? (i := 833) (by decide +kernel), List.mem_of_getElem? (i := 1022) (by decide +kernel), List.mem_of_getElem? (i := 1023) (by decide +kernel)⟩
def lw_privs_2 : List (MethodName × Nat) := [(⟨"EveryPew", "leadOfBook0", "(II)I"⟩, 11), (⟨"EveryPew", "chancesOf", "(II)J"⟩, 11), (⟨"EveryPew", "keepFraction", "(JJ)V"⟩, 11), (⟨"EveryPew", "howMany", "(I)I"⟩, 11), (⟨"EveryPewModel", "bad", "(I)I"⟩, 25), (⟨"EveryPewModel", "many", "()I"⟩, 25), (⟨"EveryPewModel", "no", "()I"⟩, 25), (⟨"EveryPewModel", "full", "()I"⟩, 25), (⟨"EveryPewModel", "isFamily", "(I)Z"⟩, 25), (⟨"EveryPewModel", "get", "(II)I"⟩, 25), (⟨"EveryPewModel", "keep", "()V"⟩, 25), (⟨"EveryPewModel", "manyColds", "()I"⟩, 25), (⟨"EveryPewModel", "layHand", "()V"⟩, 25), (⟨"EveryPewModel", "kneels", "(II)Z"⟩, 25), (⟨"EveryPewModel", "high", "(II)I"⟩, 25), (⟨"EveryPewModel", "voices", "(II)I"⟩, 25)]
theorem lw_r2 : ∀ q ∈ lw_privs_2, lw_okq q := List.forall_mem_cons.mpr ⟨lw_p16, List.forall_mem_cons.mpr ⟨lw_p17, List.forall_mem_cons.mpr ⟨lw_p18, List.forall_mem_cons.mpr ⟨lw_p19, List.forall_mem_cons.mpr ⟨lw_p20, List.forall_mem_cons.mpr ⟨lw_p21, List.forall_mem_cons.mpr ⟨lw_p22, List.forall_mem_cons.mpr ⟨lw_p23, List.forall_mem_cons.mpr ⟨lw_p24, List.forall_mem_cons.mpr ⟨lw_p25, List.forall_mem_cons.mpr ⟨lw_p26, List.forall_mem_cons.mpr ⟨lw_p27, List.forall_mem_cons.mpr ⟨lw_p28, List.forall_mem_cons.mpr ⟨lw_p29, List.forall_mem_cons.mpr ⟨lw_p30, List.forall_mem_cons.mpr ⟨lw_p31, fun _ h => absurd h List.not_mem_nil⟩⟩⟩⟩⟩⟩⟩⟩⟩⟩⟩⟩⟩⟩⟩⟩
theorem lw_p32 : lw_okq (⟨"EveryPewModel", "sees", "(II)Z"⟩, 25) := ⟨⟨by decide +kernel, by decide +kernel⟩, List.mem_of_getElem? (i := 833) (by decide +kernel), List.mem_of_getElem? (i := 1026) (by decide +kernel), List.mem_of_getElem? (i := 1027) (by decide +kernel)⟩
theorem lw_p33 : lw_okq (⟨"EveryPewModel", "loudOf", "(II)I"⟩, 25) := ⟨⟨by decide +kernel, by decide +kernel⟩, List.mem_of_getElem? (i := 833) (by decide +kernel), List.mem_of_getElem? (i := 1042) (by decide +kernel), List.mem_of_getElem? (i := 1043) (by decide +kernel)⟩
theorem lw_p34 : lw_okq (⟨"EveryPewModel", "isPeace", "(I)Z"⟩, 25) := ⟨⟨by decide +kernel, by decide +kernel⟩, List.mem_of_getElem? (i := 833) (by decide +kernel), List.mem_of_getElem? (i := 1050) (by decide +kernel), List.mem_of_getElem? (i := 1051) (by decide +kernel)⟩
theorem lw_p35 : lw_okq (⟨"EveryPewModel", "laySeating", "()V"⟩, 25) := ⟨⟨by decide +kernel, by decide +kernel⟩, List.mem_of_getElem? (i := 833) (by decide +kernel), List.mem_of_getElem? (i := 1063) (by decide +kernel), List.mem_of_getElem? (i := 1064) (by decide +kernel)⟩
theorem lw_p36 : lw_okq (⟨"EveryPewModel", "laySeats", "(I)Z"⟩, 25) := ⟨⟨by decide +kernel, by decide +kernel⟩, List.mem_of_getElem? (i := 833) (by decide +kernel), List.mem_of_getElem? (i := 1067) (by decide +kernel), List.mem_of_getElem? (i := 1068) (by decide +kernel)⟩
theorem lw_p37 : lw_okq (⟨"EveryPewModel", "seeing", "()I"⟩, 25) := ⟨⟨by decide +kernel, by decide +kernel⟩, List.mem_of_getElem? (i := 833) (by decide +kernel), List.mem_of_getElem? (i := 1071) (by decide +kernel), List.mem_of_getElem? (i := 1072) (by decide +kernel)⟩
theorem lw_p38 : lw_okq (⟨"EveryPewModel", "peaces", "()I"⟩, 25) := ⟨⟨by decide +kernel, by decide +kernel⟩, List.mem_of_getElem? (i := 833) (by decide +kernel), List.mem_of_getElem? (i := 1079) (by decide +kernel), List.mem_of_getElem? (i := 1080) (by decide +kernel)⟩
theorem lw_p39 : lw_okq (⟨"EveryPewModel", "layMay", "()V"⟩, 25) := ⟨⟨by decide +kernel, by decide +kernel⟩, List.mem_of_getElem? (i := 833) (by decide +kernel), List.mem_of_getElem? (i := 1104) (by decide +kernel), List.mem_of_getElem? (i := 1105) (by decide +kernel)⟩
theorem lw_p40 : lw_okq (⟨"EveryPewModel", "isHeardSo", "()Z"⟩, 25) := ⟨⟨by decide +kernel, by decide +kernel⟩, List.mem_of_getElem? (i := 833) (by decide +kernel), List.mem_of_getElem? (i := 1108) (by decide +kernel), List.mem_of_getElem? (i := 1109) (by decide +kernel)⟩
theorem lw_p41 : lw_okq (⟨"EveryPewModel", "deaconOf", "(I)I"⟩, 25) := ⟨⟨by decide +kernel, by decide +kernel⟩, List.mem_of_getElem? (i := 833) (by decide +kernel), List.mem_of_getElem? (i := 1125) (by decide +kernel), List.mem_of_getElem? (i := 1126) (by decide +kernel)⟩
theorem lw_p42 : lw_okq (⟨"EveryPewModel", "fraction", "(JJ)V"⟩, 25) := ⟨⟨by decide +kernel, by decide +kernel⟩, List.mem_of_getElem? (i := 833) (by decide +kernel), List.mem_of_getElem? (i := 1140) (by decide +kernel), List.mem_of_getElem? (i := 1141) (by decide +kernel)⟩
theorem lw_p43 : lw_okq (⟨"EveryPewModel", "lookAt", "(I)V"⟩, 25) := ⟨⟨by decide +kernel, by decide +kernel⟩, List.mem_of_getElem? (i := 833) (by decide +kernel), List.mem_of_getElem? (i := 1168) (by decide +kernel), List.mem_of_getElem? (i := 1169) (by decide +kernel)⟩
theorem lw_p44 : lw_okq (⟨"EveryPewModel", "takesChurch", "()Z"⟩, 25) := ⟨⟨by decide +kernel, by decide +kernel⟩, List.mem_of_getElem? (i := 833) (by decide +kernel), List.mem_of_getElem? (i := 1182) (by decide +kernel), List.mem_of_getElem? (i := 1183) (by decide +kernel)⟩
theorem lw_p45 : lw_okq (⟨"EveryPewModel", "spells", "(IIIIIII)Z"⟩, 25) := ⟨⟨by decide +kernel, by decide +kernel⟩, List.mem_of_getElem? (i := 833) (by decide +kernel), List.mem_of_getElem? (i := 1186) (by decide +kernel), List.mem_of_getElem? (i := 1187) (by decide +kernel)⟩
theorem lw_p46 : lw_okq (⟨"EveryPewModel", "goBehind", "()V"⟩, 25) := ⟨⟨by decide +kernel, by decide +kernel⟩, List.mem_of_getElem? (i := 833) (by decide +kernel), List.mem_of_getElem? (i := 1190) (by decide +kernel), List.mem_of_getElem? (i := 1191) (by decide +kernel)⟩
theorem lw_p47 : lw_okq (⟨"EveryPewModel", "takes", "(III)Z"⟩, 25) := ⟨⟨by decide +kernel, by decide +kernel⟩, List.mem_of_getElem? (i := 833) (by decide +kernel), List.mem_of_getElem? (i := 1194) (by decide +kernel), List.mem_of_getElem? (i := 1195) (by decide +kernel)⟩
def lw_privs_3 : List (MethodName × Nat) := [(⟨"EveryPewModel", "sees", "(II)Z"⟩, 25), (⟨"EveryPewModel", "loudOf", "(II)I"⟩, 25), (⟨"EveryPewModel", "isPeace", "(I)Z"⟩, 25), (⟨"EveryPewModel", "laySeating", "()V"⟩, 25), (⟨"EveryPewModel", "laySeats", "(I)Z"⟩, 25), (⟨"EveryPewModel", "seeing", "()I"⟩, 25), (⟨"EveryPewModel", "peaces", "()I"⟩, 25), (⟨"EveryPewModel", "layMay", "()V"⟩, 25), (⟨"EveryPewModel", "isHeardSo", "()Z"⟩, 25), (⟨"EveryPewModel", "deaconOf", "(I)I"⟩, 25), (⟨"EveryPewModel", "fraction", "(JJ)V"⟩, 25), (⟨"EveryPewModel", "lookAt", "(I)V"⟩, 25), (⟨"EveryPewModel", "takesChurch", "()Z"⟩, 25), (⟨"EveryPewModel", "spells", "(IIIIIII)Z"⟩, 25), (⟨"EveryPewModel", "goBehind", "()V"⟩, 25), (⟨"EveryPewModel", "takes", "(III)Z"⟩, 25)]
theorem lw_r3 : ∀ q ∈ lw_privs_3, lw_okq q := List.forall_mem_cons.mpr ⟨lw_p32, List.forall_mem_cons.mpr ⟨lw_p33, List.forall_mem_cons.mpr ⟨lw_p34, List.forall_mem_cons.mpr ⟨lw_p35, List.forall_mem_cons.mpr ⟨lw_p36, List.forall_mem_cons.mpr ⟨lw_p37, List.forall_mem_cons.mpr ⟨lw_p38, List.forall_mem_cons.mpr ⟨lw_p39, List.forall_mem_cons.mpr ⟨lw_p40, List.forall_mem_cons.mpr ⟨lw_p41, List.forall_mem_cons.mpr ⟨lw_p42, List.forall_mem_cons.mpr ⟨lw_p43, List.forall_mem_cons.mpr ⟨lw_p44, List.forall_mem_cons.mpr ⟨lw_p45, List.forall_mem_cons.mpr ⟨lw_p46, List.forall_mem_cons.mpr ⟨lw_p47, fun _ h => absurd h List.not_mem_nil⟩⟩⟩⟩⟩⟩⟩⟩⟩⟩⟩⟩⟩⟩⟩⟩
theorem lw_p48 : lw_okq (⟨"EveryPewModel", "takesItem", "()Z"⟩, 25) := ⟨⟨by decide +kernel, by decide +kernel⟩, List.mem_of_getElem? (i := 833) (by decide +kernel), List.mem_of_getElem? (i := 1198) (by decide +kernel), List.mem_of_getElem? (i := 1199) (by decide +kernel)⟩
theorem lw_p49 : lw_okq (⟨"EveryPewModel", "takesBook", "()Z"⟩, 25) := ⟨⟨by decide +kernel, by decide +kernel⟩, List.mem_of_getElem? (i := 833) (by decide +kernel), List.mem_of_getElem? (i := 1202) (by decide +kernel), List.mem_of_getElem? (i := 1203) (by decide +kernel)⟩
theorem lw_p50 : lw_okq (⟨"EveryPewModel", "takesFamily", "()Z"⟩, 25) := ⟨⟨by decide +kernel, by decide +kernel⟩, List.mem_of_getElem? (i := 833) (by decide +kernel), List.mem_of_getElem? (i := 1206) (by decide +kernel), List.mem_of_getElem? (i := 1207) (by decide +kernel)⟩
theorem lw_p51 : lw_okq (⟨"EveryPewModel", "takesCold", "()Z"⟩, 25) := ⟨⟨by decide +kernel, by decide +kernel⟩, List.mem_of_getElem? (i := 833) (by decide +kernel), List.mem_of_getElem? (i := 1210) (by decide +kernel), List.mem_of_getElem? (i := 1211) (by decide +kernel)⟩
theorem lw_p52 : lw_okq (⟨"EveryPewModel", "counted", "(I)I"⟩, 25) := ⟨⟨by decide +kernel, by decide +kernel⟩, List.mem_of_getElem? (i := 833) (by decide +kernel), List.mem_of_getElem? (i := 1235) (by decide +kernel), List.mem_of_getElem? (i := 1236) (by decide +kernel)⟩
theorem lw_p53 : lw_okq (⟨"EveryPewModel", "sums", "(JII)J"⟩, 25) := ⟨⟨by decide +kernel, by decide +kernel⟩, List.mem_of_getElem? (i := 833) (by decide +kernel), List.mem_of_getElem? (i := 1245) (by decide +kernel), List.mem_of_getElem? (i := 1246) (by decide +kernel)⟩
def lw_privs_4 : List (MethodName × Nat) := [(⟨"EveryPewModel", "takesItem", "()Z"⟩, 25), (⟨"EveryPewModel", "takesBook", "()Z"⟩, 25), (⟨"EveryPewModel", "takesFamily", "()Z"⟩, 25), (⟨"EveryPewModel", "takesCold", "()Z"⟩, 25), (⟨"EveryPewModel", "counted", "(I)I"⟩, 25), (⟨"EveryPewModel", "sums", "(JII)J"⟩, 25)]
theorem lw_r4 : ∀ q ∈ lw_privs_4, lw_okq q := List.forall_mem_cons.mpr ⟨lw_p48, List.forall_mem_cons.mpr ⟨lw_p49, List.forall_mem_cons.mpr ⟨lw_p50, List.forall_mem_cons.mpr ⟨lw_p51, List.forall_mem_cons.mpr ⟨lw_p52, List.forall_mem_cons.mpr ⟨lw_p53, fun _ h => absurd h List.not_mem_nil⟩⟩⟩⟩⟩⟩
def lw_privs : List (MethodName × Nat) := lw_privs_1 ++ (lw_privs_2 ++ (lw_privs_3 ++ (lw_privs_4)))
def lw_tbl : List Cond := k2_sels lw_privs ++ tables_1
theorem lw_privs_ok : ∀ q ∈ lw_privs, lw_okq q := by
  show ∀ q ∈ lw_privs_1 ++ (lw_privs_2 ++ (lw_privs_3 ++ (lw_privs_4))), lw_okq q
  exact List.forall_mem_append.mpr ⟨lw_r1, List.forall_mem_append.mpr ⟨lw_r2, List.forall_mem_append.mpr ⟨lw_r3, lw_r4⟩⟩⟩
-- ===== names =====
def zNmAt (o : Option Cond) : String := match o with | some (.code m _ _ _) => m.name | _ => ""
def RX0 : String := "EveryPew$Children"
def TX0 : u_T := fun k => match k with
  | _ => ("", "", "", false)
def tyX0 : Nat → FieldType := fun k => match k with
  | _ => .int
abbrev wsX00 : List Cond := u_ws RX0 TX0 0
theorem nmX0 : ∀ a, a < 0 → ∀ b, b < 0 → a ≠ b → (TX0 a).2.1 ≠ (TX0 b).2.1 := by decide +kernel
theorem tyX0_ok : ∀ k, k < 0 → parseFieldDescriptor (TX0 k).2.2.1 = some (tyX0 k) := by decide +kernel
abbrev cX0_init : ByteArray := prog_2_method_1_code
def yX0_init : MethodName := ⟨RX0, "<init>", "()V"⟩
abbrev cX0_height : ByteArray := prog_2_method_2_code
def yX0_height : MethodName := ⟨RX0, "height", "(IZ)I"⟩
def RX1 : String := "EveryPew$Church"
def TX1 : u_T := fun k => match k with
  | 0 => ("EveryPew$Church", "limit", "I", false)
  | 1 => ("EveryPew$Church", "books", "[I", true)
  | 2 => ("EveryPew$Church", "families", "I", false)
  | 3 => ("EveryPew$Church", "kind", "[I", true)
  | 4 => ("EveryPew$Church", "book", "[I", true)
  | 5 => ("EveryPew$Church", "tall", "[I", true)
  | 6 => ("EveryPew$Church", "voices", "[I", true)
  | 7 => ("EveryPew$Church", "pew", "[I", true)
  | 8 => ("EveryPew$Church", "colds", "I", false)
  | 9 => ("EveryPew$Church", "heards", "I", false)
  | 10 => ("EveryPew$Church", "heardWord", "[I", true)
  | 11 => ("EveryPew$Church", "heardBook", "[I", true)
  | 12 => ("EveryPew$Church", "heardLoud", "[I", true)
  | 13 => ("EveryPew$Church", "steps", "I", false)
  | 14 => ("EveryPew$Church", "oldPews", "[I", true)
  | _ => ("EveryPew$Church", "oldColds", "[I", true)
def tyX1 : Nat → FieldType := fun k => match k with
  | 0 => .int
  | 1 => .array .int
  | 2 => .int
  | 3 => .array .int
  | 4 => .array .int
  | 5 => .array .int
  | 6 => .array .int
  | 7 => .array .int
  | 8 => .int
  | 9 => .int
  | 10 => .array .int
  | 11 => .array .int
  | 12 => .array .int
  | 13 => .int
  | 14 => .array .int
  | _ => .array .int
abbrev wsX10 : List Cond := u_ws RX1 TX1 16
theorem nmX1 : ∀ a, a < 16 → ∀ b, b < 16 → a ≠ b → (TX1 a).2.1 ≠ (TX1 b).2.1 := by decide +kernel
theorem tyX1_ok : ∀ k, k < 16 → parseFieldDescriptor (TX1 k).2.2.1 = some (tyX1 k) := by decide +kernel
abbrev cX1_init : ByteArray := prog_3_method_1_code
def yX1_init : MethodName := ⟨RX1, "<init>", "()V"⟩
abbrev cX1_begin : ByteArray := prog_3_method_2_code
def yX1_begin : MethodName := ⟨RX1, "begin", "(I)V"⟩
abbrev cX1_becomeLike : ByteArray := prog_3_method_3_code
def yX1_becomeLike : MethodName := ⟨RX1, "becomeLike", "(LEveryPew$Church;)V"⟩
abbrev cX1_copy : ByteArray := prog_3_method_4_code
def yX1_copy : MethodName := ⟨RX1, "copy", "([I[I)V"⟩
abbrev cX1_hasFamily : ByteArray := prog_3_method_5_code
def yX1_hasFamily : MethodName := ⟨RX1, "hasFamily", "(I)Z"⟩
abbrev cX1_sets : ByteArray := prog_3_method_6_code
def yX1_sets : MethodName := ⟨RX1, "sets", "()I"⟩
abbrev cX1_isTaken : ByteArray := prog_3_method_7_code
def yX1_isTaken : MethodName := ⟨RX1, "isTaken", "(I)Z"⟩
abbrev cX1_admit : ByteArray := prog_3_method_8_code
def yX1_admit : MethodName := ⟨RX1, zNmAt tables_1[344]?, "(IIIII)I"⟩
abbrev cX1_trait : ByteArray := prog_3_method_9_code
def yX1_trait : MethodName := ⟨RX1, "trait", "(II)I"⟩
abbrev cX1_hear : ByteArray := prog_3_method_10_code
def yX1_hear : MethodName := ⟨RX1, "hear", "(III)I"⟩
abbrev cX1_remember : ByteArray := prog_3_method_11_code
def yX1_remember : MethodName := ⟨RX1, "remember", "()V"⟩
abbrev cX1_goBack : ByteArray := prog_3_method_12_code
def yX1_goBack : MethodName := ⟨RX1, "goBack", "()V"⟩
abbrev cX1_mostVoiced : ByteArray := prog_3_method_13_code
def yX1_mostVoiced : MethodName := ⟨RX1, "mostVoiced", "(I)I"⟩
def RX2 : String := "EveryPew$Convert"
def TX2 : u_T := fun k => match k with
  | _ => ("", "", "", false)
def tyX2 : Nat → FieldType := fun k => match k with
  | _ => .int
abbrev wsX20 : List Cond := u_ws RX2 TX2 0
theorem nmX2 : ∀ a, a < 0 → ∀ b, b < 0 → a ≠ b → (TX2 a).2.1 ≠ (TX2 b).2.1 := by decide +kernel
theorem tyX2_ok : ∀ k, k < 0 → parseFieldDescriptor (TX2 k).2.2.1 = some (tyX2 k) := by decide +kernel
abbrev cX2_init : ByteArray := prog_4_method_1_code
def yX2_init : MethodName := ⟨RX2, "<init>", "()V"⟩
abbrev cX2_kneelsAt : ByteArray := prog_4_method_2_code
def yX2_kneelsAt : MethodName := ⟨RX2, "kneelsAt", "(ZZ)Z"⟩
def RX3 : String := "EveryPew$Coughs"
def TX3 : u_T := fun k => match k with
  | 0 => ("EveryPew$Coughs", "fits", "[Z", true)
  | 1 => ("EveryPew$Coughs", "alike", "[I", true)
  | 2 => ("EveryPew$Coughs", "sets", "I", false)
  | 3 => ("EveryPew$Coughs", "fitting", "I", false)
  | 4 => ("EveryPew$Coughs", "inAll", "I", false)
  | _ => ("EveryPew$Coughs", "inSome", "I", false)
def tyX3 : Nat → FieldType := fun k => match k with
  | 0 => .array .boolean
  | 1 => .array .int
  | 2 => .int
  | 3 => .int
  | 4 => .int
  | _ => .int
abbrev wsX30 : List Cond := u_ws RX3 TX3 6
theorem nmX3 : ∀ a, a < 6 → ∀ b, b < 6 → a ≠ b → (TX3 a).2.1 ≠ (TX3 b).2.1 := by decide +kernel
theorem tyX3_ok : ∀ k, k < 6 → parseFieldDescriptor (TX3 k).2.2.1 = some (tyX3 k) := by decide +kernel
abbrev cX3_init : ByteArray := prog_5_method_1_code
def yX3_init : MethodName := ⟨RX3, "<init>", "()V"⟩
abbrev cX3_find : ByteArray := prog_5_method_2_code
def yX3_find : MethodName := ⟨RX3, "find", "(LEveryPew$Church;LEveryPew$Service;)V"⟩
abbrev cX3_bestWord : ByteArray := prog_5_method_3_code
def yX3_bestWord : MethodName := ⟨RX3, "bestWord", "(LEveryPew$Service;)I"⟩
abbrev cX3_firstWordOf : ByteArray := prog_5_method_4_code
def yX3_firstWordOf : MethodName := ⟨RX3, "firstWordOf", "(LEveryPew$Service;I)I"⟩
abbrev cX3_mostAlike : ByteArray := prog_5_method_5_code
def yX3_mostAlike : MethodName := ⟨RX3, "mostAlike", "(LEveryPew$Service;I)I"⟩
def RX4 : String := "EveryPew$Deacon"
def TX4 : u_T := fun k => match k with
  | _ => ("", "", "", false)
def tyX4 : Nat → FieldType := fun k => match k with
  | _ => .int
abbrev wsX40 : List Cond := u_ws RX4 TX4 0
theorem nmX4 : ∀ a, a < 0 → ∀ b, b < 0 → a ≠ b → (TX4 a).2.1 ≠ (TX4 b).2.1 := by decide +kernel
theorem tyX4_ok : ∀ k, k < 0 → parseFieldDescriptor (TX4 k).2.2.1 = some (tyX4 k) := by decide +kernel
abbrev cX4_init : ByteArray := prog_6_method_1_code
def yX4_init : MethodName := ⟨RX4, "<init>", "()V"⟩
abbrev cX4_kneelsAt : ByteArray := prog_6_method_2_code
def yX4_kneelsAt : MethodName := ⟨RX4, "kneelsAt", "(ZZ)Z"⟩
abbrev cX4_height : ByteArray := prog_6_method_3_code
def yX4_height : MethodName := ⟨RX4, "height", "(IZ)I"⟩
def RX5 : String := "EveryPew$Hoarse"
def TX5 : u_T := fun k => match k with
  | _ => ("", "", "", false)
def tyX5 : Nat → FieldType := fun k => match k with
  | _ => .int
abbrev wsX50 : List Cond := u_ws RX5 TX5 0
theorem nmX5 : ∀ a, a < 0 → ∀ b, b < 0 → a ≠ b → (TX5 a).2.1 ≠ (TX5 b).2.1 := by decide +kernel
theorem tyX5_ok : ∀ k, k < 0 → parseFieldDescriptor (TX5 k).2.2.1 = some (tyX5 k) := by decide +kernel
abbrev cX5_init : ByteArray := prog_7_method_1_code
def yX5_init : MethodName := ⟨RX5, "<init>", "()V"⟩
abbrev cX5_sound : ByteArray := prog_7_method_2_code
def yX5_sound : MethodName := ⟨RX5, "sound", "(IZ)I"⟩
def RX6 : String := "EveryPew$Plain"
def TX6 : u_T := fun k => match k with
  | _ => ("", "", "", false)
def tyX6 : Nat → FieldType := fun k => match k with
  | _ => .int
abbrev wsX60 : List Cond := u_ws RX6 TX6 0
theorem nmX6 : ∀ a, a < 0 → ∀ b, b < 0 → a ≠ b → (TX6 a).2.1 ≠ (TX6 b).2.1 := by decide +kernel
theorem tyX6_ok : ∀ k, k < 0 → parseFieldDescriptor (TX6 k).2.2.1 = some (tyX6 k) := by decide +kernel
abbrev cX6_init : ByteArray := prog_8_method_1_code
def yX6_init : MethodName := ⟨RX6, "<init>", "()V"⟩
abbrev cX6_kneelsAt : ByteArray := prog_8_method_2_code
def yX6_kneelsAt : MethodName := ⟨RX6, "kneelsAt", "(ZZ)Z"⟩
abbrev cX6_height : ByteArray := prog_8_method_3_code
def yX6_height : MethodName := ⟨RX6, "height", "(IZ)I"⟩
abbrev cX6_sound : ByteArray := prog_8_method_4_code
def yX6_sound : MethodName := ⟨RX6, "sound", "(IZ)I"⟩
def RX7 : String := "EveryPew$Seating"
def TX7 : u_T := fun k => match k with
  | 0 => ("EveryPew$Seating", "best", "[I", true)
  | 1 => ("EveryPew$Seating", "tallest", "[I", true)
  | _ => ("EveryPew$Seating", "score", "I", false)
def tyX7 : Nat → FieldType := fun k => match k with
  | 0 => .array .int
  | 1 => .array .int
  | _ => .int
abbrev wsX70 : List Cond := u_ws RX7 TX7 3
theorem nmX7 : ∀ a, a < 3 → ∀ b, b < 3 → a ≠ b → (TX7 a).2.1 ≠ (TX7 b).2.1 := by decide +kernel
theorem tyX7_ok : ∀ k, k < 3 → parseFieldDescriptor (TX7 k).2.2.1 = some (tyX7 k) := by decide +kernel
abbrev cX7_init : ByteArray := prog_9_method_1_code
def yX7_init : MethodName := ⟨RX7, "<init>", "()V"⟩
abbrev cX7_find : ByteArray := prog_9_method_2_code
def yX7_find : MethodName := ⟨RX7, "find", "(LEveryPew$Service;)V"⟩
abbrev cX7_seen : ByteArray := prog_9_method_3_code
def yX7_seen : MethodName := ⟨RX7, "seen", "()I"⟩
abbrev cX7_pewOf : ByteArray := prog_9_method_4_code
def yX7_pewOf : MethodName := ⟨RX7, "pewOf", "(I)I"⟩
abbrev cX7_findTallest : ByteArray := prog_9_method_5_code
def yX7_findTallest : MethodName := ⟨RX7, "findTallest", "(LEveryPew$Service;I)V"⟩
abbrev cX7_firstOf : ByteArray := prog_9_method_6_code
def yX7_firstOf : MethodName := ⟨RX7, "firstOf", "(I)I"⟩
abbrev cX7_fillPew : ByteArray := prog_9_method_7_code
def yX7_fillPew : MethodName := ⟨RX7, "fillPew", "(LEveryPew$Service;II)V"⟩
abbrev cX7_worth : ByteArray := prog_9_method_8_code
def yX7_worth : MethodName := ⟨RX7, "worth", "(LEveryPew$Service;III)I"⟩
def RX8 : String := "EveryPew$Service"
def TX8 : u_T := fun k => match k with
  | 0 => ("EveryPew$Service", "kinds", "[LEveryPew$Plain;", true)
  | 1 => ("EveryPew$Service", "families", "I", false)
  | 2 => ("EveryPew$Service", "limit", "I", false)
  | 3 => ("EveryPew$Service", "book", "[I", true)
  | 4 => ("EveryPew$Service", "pew", "[I", true)
  | 5 => ("EveryPew$Service", "kneeling", "[Z", true)
  | 6 => ("EveryPew$Service", "height", "[I", true)
  | 7 => ("EveryPew$Service", "sound", "[I", true)
  | 8 => ("EveryPew$Service", "caseAt", "[I", true)
  | _ => ("EveryPew$Service", "wordsOfCase", "[I", true)
def tyX8 : Nat → FieldType := fun k => match k with
  | 0 => .array (.object "EveryPew$Plain")
  | 1 => .int
  | 2 => .int
  | 3 => .array .int
  | 4 => .array .int
  | 5 => .array .boolean
  | 6 => .array .int
  | 7 => .array .int
  | 8 => .array .int
  | _ => .array .int
abbrev wsX80 : List Cond := u_ws RX8 TX8 10
theorem nmX8 : ∀ a, a < 10 → ∀ b, b < 10 → a ≠ b → (TX8 a).2.1 ≠ (TX8 b).2.1 := by decide +kernel
theorem tyX8_ok : ∀ k, k < 10 → parseFieldDescriptor (TX8 k).2.2.1 = some (tyX8 k) := by decide +kernel
abbrev cX8_init : ByteArray := prog_10_method_1_code
def yX8_init : MethodName := ⟨RX8, "<init>", "()V"⟩
abbrev cX8_hold : ByteArray := prog_10_method_2_code
def yX8_hold : MethodName := ⟨RX8, "hold", "(LEveryPew$Church;)V"⟩
abbrev cX8_suppose : ByteArray := prog_10_method_3_code
def yX8_suppose : MethodName := ⟨RX8, "suppose", "(LEveryPew$Church;III)V"⟩
abbrev cX8_kneels : ByteArray := prog_10_method_4_code
def yX8_kneels : MethodName := ⟨RX8, "kneels", "(II)Z"⟩
abbrev cX8_high : ByteArray := prog_10_method_5_code
def yX8_high : MethodName := ⟨RX8, "high", "(II)I"⟩
abbrev cX8_voices : ByteArray := prog_10_method_6_code
def yX8_voices : MethodName := ⟨RX8, "voices", "(III)I"⟩
abbrev cX8_sees : ByteArray := prog_10_method_7_code
def yX8_sees : MethodName := ⟨RX8, "sees", "(II)Z"⟩
abbrev cX8_loudness : ByteArray := prog_10_method_8_code
def yX8_loudness : MethodName := ⟨RX8, "loudness", "(III)I"⟩
abbrev cX8_loudnessInCase : ByteArray := prog_10_method_9_code
def yX8_loudnessInCase : MethodName := ⟨RX8, "loudnessInCase", "(III)I"⟩
abbrev cX8_isPeaceful : ByteArray := prog_10_method_10_code
def yX8_isPeaceful : MethodName := ⟨RX8, "isPeaceful", "(II)Z"⟩
abbrev cX8_isPeacefulInCase : ByteArray := prog_10_method_11_code
def yX8_isPeacefulInCase : MethodName := ⟨RX8, "isPeacefulInCase", "(II)Z"⟩
abbrev cX8_peacefulWords : ByteArray := prog_10_method_12_code
def yX8_peacefulWords : MethodName := ⟨RX8, "peacefulWords", "(I)I"⟩
abbrev cX8_isPeacefulThroughout : ByteArray := prog_10_method_13_code
def yX8_isPeacefulThroughout : MethodName := ⟨RX8, "isPeacefulThroughout", "(I)Z"⟩
abbrev cX8_agreesWith : ByteArray := prog_10_method_14_code
def yX8_agreesWith : MethodName := ⟨RX8, "agreesWith", "(LEveryPew$Church;I)Z"⟩
def RX9 : String := "EveryPew$TextOfChurch"
def TX9 : u_T := fun k => match k with
  | 0 => ("EveryPew$TextOfChurch", "bytes", "[I", true)
  | 1 => ("EveryPew$TextOfChurch", "length", "I", false)
  | 2 => ("EveryPew$TextOfChurch", "token", "I", false)
  | 3 => ("EveryPew$TextOfChurch", "start", "I", false)
  | 4 => ("EveryPew$TextOfChurch", "behind", "I", false)
  | _ => ("EveryPew$TextOfChurch", "value", "I", false)
def tyX9 : Nat → FieldType := fun k => match k with
  | 0 => .array .int
  | 1 => .int
  | 2 => .int
  | 3 => .int
  | 4 => .int
  | _ => .int
abbrev wsX90 : List Cond := u_ws RX9 TX9 6
theorem nmX9 : ∀ a, a < 6 → ∀ b, b < 6 → a ≠ b → (TX9 a).2.1 ≠ (TX9 b).2.1 := by decide +kernel
theorem tyX9_ok : ∀ k, k < 6 → parseFieldDescriptor (TX9 k).2.2.1 = some (tyX9 k) := by decide +kernel
abbrev cX9_init : ByteArray := prog_11_method_1_code
def yX9_init : MethodName := ⟨RX9, "<init>", "()V"⟩
abbrev cX9_append : ByteArray := prog_11_method_2_code
def yX9_append : MethodName := ⟨RX9, "append", "(I)I"⟩
abbrev cX9_tell : ByteArray := prog_11_method_3_code
def yX9_tell : MethodName := ⟨RX9, "tell", "(LEveryPew$Church;)I"⟩
abbrev cX9_takesItem : ByteArray := prog_11_method_4_code
def yX9_takesItem : MethodName := ⟨RX9, "takesItem", "(LEveryPew$Church;)Z"⟩
abbrev cX9_takesBook : ByteArray := prog_11_method_5_code
def yX9_takesBook : MethodName := ⟨RX9, "takesBook", "(LEveryPew$Church;)Z"⟩
abbrev cX9_takesFamily : ByteArray := prog_11_method_6_code
def yX9_takesFamily : MethodName := ⟨RX9, "takesFamily", "(LEveryPew$Church;)Z"⟩
abbrev cX9_takesCold : ByteArray := prog_11_method_7_code
def yX9_takesCold : MethodName := ⟨RX9, "takesCold", "(LEveryPew$Church;)Z"⟩
abbrev cX9_takesNumber : ByteArray := prog_11_method_8_code
def yX9_takesNumber : MethodName := ⟨RX9, "takesNumber", "(II)Z"⟩
abbrev cX9_takesStop : ByteArray := prog_11_method_9_code
def yX9_takesStop : MethodName := ⟨RX9, "takesStop", "()Z"⟩
abbrev cX9_isNumber : ByteArray := prog_11_method_10_code
def yX9_isNumber : MethodName := ⟨RX9, "isNumber", "(II)Z"⟩
abbrev cX9_says : ByteArray := prog_11_method_11_code
def yX9_says : MethodName := ⟨RX9, "says", "(Ljava/lang/String;)Z"⟩
abbrev cX9_advance : ByteArray := prog_11_method_12_code
def yX9_advance : MethodName := ⟨RX9, "advance", "()V"⟩
abbrev cX9_figures : ByteArray := prog_11_method_13_code
def yX9_figures : MethodName := ⟨RX9, "figures", "()I"⟩
abbrev cX9_sortOf : ByteArray := prog_11_method_14_code
def yX9_sortOf : MethodName := ⟨RX9, "sortOf", "(I)I"⟩
def RX10 : String := "EveryPew$Waverers"
def TX10 : u_T := fun k => match k with
  | _ => ("", "", "", false)
def tyX10 : Nat → FieldType := fun k => match k with
  | _ => .int
abbrev wsX100 : List Cond := u_ws RX10 TX10 0
theorem nmX10 : ∀ a, a < 0 → ∀ b, b < 0 → a ≠ b → (TX10 a).2.1 ≠ (TX10 b).2.1 := by decide +kernel
theorem tyX10_ok : ∀ k, k < 0 → parseFieldDescriptor (TX10 k).2.2.1 = some (tyX10 k) := by decide +kernel
abbrev cX10_init : ByteArray := prog_12_method_1_code
def yX10_init : MethodName := ⟨RX10, "<init>", "()V"⟩
abbrev cX10_kneelsAt : ByteArray := prog_12_method_2_code
def yX10_kneelsAt : MethodName := ⟨RX10, "kneelsAt", "(ZZ)Z"⟩
abbrev cX10_sound : ByteArray := prog_12_method_3_code
def yX10_sound : MethodName := ⟨RX10, "sound", "(IZ)I"⟩
def RX11 : String := "EveryPew"
def TX11 : u_T := fun k => match k with
  | 0 => ("EveryPew", "now", "LEveryPew$Church;", true)
  | 1 => ("EveryPew", "draft", "LEveryPew$Church;", true)
  | 2 => ("EveryPew", "images", "[LEveryPew$Church;", true)
  | 3 => ("EveryPew", "kept", "[Z", true)
  | 4 => ("EveryPew", "text", "LEveryPew$TextOfChurch;", true)
  | 5 => ("EveryPew", "service", "LEveryPew$Service;", true)
  | 6 => ("EveryPew", "seating", "LEveryPew$Seating;", true)
  | 7 => ("EveryPew", "coughs", "LEveryPew$Coughs;", true)
  | 8 => ("EveryPew", "refused", "[I", true)
  | 9 => ("EveryPew", "above", "J", false)
  | _ => ("EveryPew", "below", "J", false)
def tyX11 : Nat → FieldType := fun k => match k with
  | 0 => .object "EveryPew$Church"
  | 1 => .object "EveryPew$Church"
  | 2 => .array (.object "EveryPew$Church")
  | 3 => .array .boolean
  | 4 => .object "EveryPew$TextOfChurch"
  | 5 => .object "EveryPew$Service"
  | 6 => .object "EveryPew$Seating"
  | 7 => .object "EveryPew$Coughs"
  | 8 => .array .int
  | 9 => .long
  | _ => .long
abbrev wsX110 : List Cond := u_ws RX11 TX11 11
theorem nmX11 : ∀ a, a < 11 → ∀ b, b < 11 → a ≠ b → (TX11 a).2.1 ≠ (TX11 b).2.1 := by decide +kernel
theorem tyX11_ok : ∀ k, k < 11 → parseFieldDescriptor (TX11 k).2.2.1 = some (tyX11 k) := by decide +kernel
abbrev cX11_init : ByteArray := prog_1_method_1_code
def yX11_init : MethodName := ⟨RX11, "<init>", "()V"⟩
abbrev cX11_church : ByteArray := prog_1_method_2_code
def yX11_church : MethodName := ⟨RX11, "church", "(I)I"⟩
abbrev cX11_book : ByteArray := prog_1_method_3_code
def yX11_book : MethodName := ⟨RX11, "book", "(II)I"⟩
abbrev cX11_family : ByteArray := prog_1_method_4_code
def yX11_family : MethodName := ⟨RX11, "family", "(IIIII)I"⟩
abbrev cX11_type : ByteArray := prog_1_method_5_code
def yX11_type : MethodName := ⟨RX11, "type", "(I)I"⟩
abbrev cX11_clear : ByteArray := prog_1_method_6_code
def yX11_clear : MethodName := ⟨RX11, "clear", "()I"⟩
abbrev cX11_read : ByteArray := prog_1_method_7_code
def yX11_read : MethodName := ⟨RX11, "read", "()I"⟩
abbrev cX11_move : ByteArray := prog_1_method_8_code
def yX11_move : MethodName := ⟨RX11, "move", "(II)I"⟩
abbrev cX11_cold : ByteArray := prog_1_method_9_code
def yX11_cold : MethodName := ⟨RX11, "cold", "(II)I"⟩
abbrev cX11_undo : ByteArray := prog_1_method_10_code
def yX11_undo : MethodName := ⟨RX11, "undo", "()I"⟩
abbrev cX11_of : ByteArray := prog_1_method_11_code
def yX11_of : MethodName := ⟨RX11, "of", "(II)I"⟩
abbrev cX11_at : ByteArray := prog_1_method_12_code
def yX11_at : MethodName := ⟨RX11, "at", "(III)I"⟩
abbrev cX11_up : ByteArray := prog_1_method_13_code
def yX11_up : MethodName := ⟨RX11, "up", "(I)I"⟩
abbrev cX11_seers : ByteArray := prog_1_method_14_code
def yX11_seers : MethodName := ⟨RX11, "seers", "(I)I"⟩
abbrev cX11_loud : ByteArray := prog_1_method_15_code
def yX11_loud : MethodName := ⟨RX11, "loud", "(II)I"⟩
abbrev cX11_breach : ByteArray := prog_1_method_16_code
def yX11_breach : MethodName := ⟨RX11, "breach", "(I)I"⟩
abbrev cX11_canNot : ByteArray := prog_1_method_17_code
def yX11_canNot : MethodName := ⟨RX11, "canNot", "()I"⟩
abbrev cX11_seats : ByteArray := prog_1_method_18_code
def yX11_seats : MethodName := ⟨RX11, "seats", "(I)I"⟩
abbrev cX11_change : ByteArray := prog_1_method_19_code
def yX11_change : MethodName := ⟨RX11, "change", "(I)I"⟩
abbrev cX11_still : ByteArray := prog_1_method_20_code
def yX11_still : MethodName := ⟨RX11, "still", "()I"⟩
abbrev cX11_heard : ByteArray := prog_1_method_21_code
def yX11_heard : MethodName := ⟨RX11, "heard", "(III)I"⟩
abbrev cX11_forget : ByteArray := prog_1_method_22_code
def yX11_forget : MethodName := ⟨RX11, "forget", "()I"⟩
abbrev cX11_coughed : ByteArray := prog_1_method_23_code
def yX11_coughed : MethodName := ⟨RX11, "coughed", "(I)I"⟩
abbrev cX11_next : ByteArray := prog_1_method_24_code
def yX11_next : MethodName := ⟨RX11, "next", "()I"⟩
abbrev cX11_is : ByteArray := prog_1_method_25_code
def yX11_is : MethodName := ⟨RX11, "is", "(I)I"⟩
abbrev cX11_deacons : ByteArray := prog_1_method_26_code
def yX11_deacons : MethodName := ⟨RX11, "deacons", "(I)I"⟩
abbrev cX11_feasts : ByteArray := prog_1_method_27_code
def yX11_feasts : MethodName := ⟨RX11, "feasts", "(IIII)I"⟩
abbrev cX11_colds : ByteArray := prog_1_method_28_code
def yX11_colds : MethodName := ⟨RX11, "colds", "(II)I"⟩
abbrev cX11_sundays : ByteArray := prog_1_method_29_code
def yX11_sundays : MethodName := ⟨RX11, "sundays", "(II)I"⟩
abbrev cX11_part : ByteArray := prog_1_method_30_code
def yX11_part : MethodName := ⟨RX11, "part", "(I)J"⟩
abbrev cX11_image : ByteArray := prog_1_method_31_code
def yX11_image : MethodName := ⟨RX11, "image", "(I)I"⟩
abbrev cX11_from : ByteArray := prog_1_method_32_code
def yX11_from : MethodName := ⟨RX11, "from", "(I)I"⟩
abbrev cX11_status : ByteArray := prog_1_method_33_code
def yX11_status : MethodName := ⟨RX11, "status", "(I)I"⟩
abbrev cX11_count : ByteArray := prog_1_method_34_code
def yX11_count : MethodName := ⟨RX11, "count", "(I)I"⟩
abbrev cX11_digest : ByteArray := prog_1_method_35_code
def yX11_digest : MethodName := ⟨RX11, "digest", "()J"⟩
abbrev cX11_within : ByteArray := prog_1_method_36_code
def yX11_within : MethodName := ⟨RX11, "within", "(III)Z"⟩
abbrev cX11_isWord : ByteArray := prog_1_method_37_code
def yX11_isWord : MethodName := ⟨RX11, "isWord", "(I)Z"⟩
abbrev cX11_isBook : ByteArray := prog_1_method_38_code
def yX11_isBook : MethodName := ⟨RX11, "isBook", "(I)Z"⟩
abbrev cX11_isPewOf : ByteArray := prog_1_method_39_code
def yX11_isPewOf : MethodName := ⟨RX11, "isPewOf", "(II)Z"⟩
abbrev cX11_bit : ByteArray := prog_1_method_40_code
def yX11_bit : MethodName := ⟨RX11, "bit", "(II)I"⟩
abbrev cX11_refuse : ByteArray := prog_1_method_41_code
def yX11_refuse : MethodName := ⟨RX11, "refuse", "(I)I"⟩
abbrev cX11_howMany : ByteArray := prog_1_method_42_code
def yX11_howMany : MethodName := ⟨RX11, "howMany", "(I)I"⟩
abbrev cX11_leadOfBook0 : ByteArray := prog_1_method_43_code
def yX11_leadOfBook0 : MethodName := ⟨RX11, "leadOfBook0", "(II)I"⟩
abbrev cX11_chancesOf : ByteArray := prog_1_method_44_code
def yX11_chancesOf : MethodName := ⟨RX11, "chancesOf", "(II)J"⟩
abbrev cX11_power : ByteArray := prog_1_method_45_code
def yX11_power : MethodName := ⟨RX11, "power", "(II)J"⟩
abbrev cX11_keepFraction : ByteArray := prog_1_method_46_code
def yX11_keepFraction : MethodName := ⟨RX11, "keepFraction", "(JJ)V"⟩
abbrev cX11_commonDivisor : ByteArray := prog_1_method_47_code
def yX11_commonDivisor : MethodName := ⟨RX11, "commonDivisor", "(JJ)J"⟩
def RX12 : String := "EveryPewModel"
def TX12 : u_T := fun k => match k with
  | 0 => ("EveryPewModel", "now", "[I", true)
  | 1 => ("EveryPewModel", "kept", "[I", true)
  | 2 => ("EveryPewModel", "isKept", "[Z", true)
  | 3 => ("EveryPewModel", "refused", "[I", true)
  | 4 => ("EveryPewModel", "above", "J", false)
  | 5 => ("EveryPewModel", "below", "J", false)
  | 6 => ("EveryPewModel", "kinds", "[I", true)
  | 7 => ("EveryPewModel", "theirs", "[I", true)
  | 8 => ("EveryPewModel", "sits", "[I", true)
  | 9 => ("EveryPewModel", "coughing", "I", false)
  | 10 => ("EveryPewModel", "highs", "[I", true)
  | 11 => ("EveryPewModel", "bestSits", "[I", true)
  | 12 => ("EveryPewModel", "mostSee", "I", false)
  | 13 => ("EveryPewModel", "may", "[Z", true)
  | 14 => ("EveryPewModel", "manyMay", "I", false)
  | 15 => ("EveryPewModel", "manyBy", "[I", true)
  | 16 => ("EveryPewModel", "louder", "[I", true)
  | 17 => ("EveryPewModel", "bytes", "[I", true)
  | 18 => ("EveryPewModel", "bytesLong", "I", false)
  | 19 => ("EveryPewModel", "tokenAt", "I", false)
  | 20 => ("EveryPewModel", "tokenLong", "I", false)
  | 21 => ("EveryPewModel", "token", "I", false)
  | 22 => ("EveryPewModel", "value", "I", false)
  | 23 => ("EveryPewModel", "anew", "[I", true)
  | _ => ("EveryPewModel", "values", "[I", true)
def tyX12 : Nat → FieldType := fun k => match k with
  | 0 => .array .int
  | 1 => .array .int
  | 2 => .array .boolean
  | 3 => .array .int
  | 4 => .long
  | 5 => .long
  | 6 => .array .int
  | 7 => .array .int
  | 8 => .array .int
  | 9 => .int
  | 10 => .array .int
  | 11 => .array .int
  | 12 => .int
  | 13 => .array .boolean
  | 14 => .int
  | 15 => .array .int
  | 16 => .array .int
  | 17 => .array .int
  | 18 => .int
  | 19 => .int
  | 20 => .int
  | 21 => .int
  | 22 => .int
  | 23 => .array .int
  | _ => .array .int
abbrev wsX120 : List Cond := u_ws RX12 TX12 25
theorem nmX12 : ∀ a, a < 25 → ∀ b, b < 25 → a ≠ b → (TX12 a).2.1 ≠ (TX12 b).2.1 := by decide +kernel
theorem tyX12_ok : ∀ k, k < 25 → parseFieldDescriptor (TX12 k).2.2.1 = some (tyX12 k) := by decide +kernel
abbrev cX12_init : ByteArray := prog_14_method_1_code
def yX12_init : MethodName := ⟨RX12, "<init>", "()V"⟩
abbrev cX12_in : ByteArray := prog_14_method_3_code
def yX12_in : MethodName := ⟨RX12, "in", "(JJJ)Z"⟩
abbrev cX12_bad : ByteArray := prog_14_method_4_code
def yX12_bad : MethodName := ⟨RX12, "bad", "(I)I"⟩
abbrev cX12_no : ByteArray := prog_14_method_5_code
def yX12_no : MethodName := ⟨RX12, "no", "()I"⟩
abbrev cX12_full : ByteArray := prog_14_method_6_code
def yX12_full : MethodName := ⟨RX12, "full", "()I"⟩
abbrev cX12_bits : ByteArray := prog_14_method_7_code
def yX12_bits : MethodName := ⟨RX12, "bits", "(I)I"⟩
abbrev cX12_has : ByteArray := prog_14_method_8_code
def yX12_has : MethodName := ⟨RX12, "has", "(II)Z"⟩
abbrev cX12_begin : ByteArray := prog_14_method_9_code
def yX12_begin : MethodName := ⟨RX12, "begin", "([II)V"⟩
abbrev cX12_many : ByteArray := prog_14_method_10_code
def yX12_many : MethodName := ⟨RX12, "many", "()I"⟩
abbrev cX12_isFamily : ByteArray := prog_14_method_11_code
def yX12_isFamily : MethodName := ⟨RX12, "isFamily", "(I)Z"⟩
abbrev cX12_isWord : ByteArray := prog_14_method_12_code
def yX12_isWord : MethodName := ⟨RX12, "isWord", "(I)Z"⟩
abbrev cX12_isBook : ByteArray := prog_14_method_13_code
def yX12_isBook : MethodName := ⟨RX12, "isBook", "(I)Z"⟩
abbrev cX12_isPewOf : ByteArray := prog_14_method_14_code
def yX12_isPewOf : MethodName := ⟨RX12, "isPewOf", "(II)Z"⟩
abbrev cX12_get : ByteArray := prog_14_method_15_code
def yX12_get : MethodName := ⟨RX12, "get", "(II)I"⟩
abbrev cX12_isTaken : ByteArray := prog_14_method_16_code
def yX12_isTaken : MethodName := ⟨RX12, "isTaken", "([II)Z"⟩
abbrev cX12_church : ByteArray := prog_14_method_17_code
def yX12_church : MethodName := ⟨RX12, "church", "(I)I"⟩
abbrev cX12_book : ByteArray := prog_14_method_18_code
def yX12_book : MethodName := ⟨RX12, "book", "(II)I"⟩
abbrev cX12_layFamily : ByteArray := prog_14_method_19_code
def yX12_layFamily : MethodName := ⟨RX12, "layFamily", "([IIIIII)V"⟩
abbrev cX12_family : ByteArray := prog_14_method_20_code
def yX12_family : MethodName := ⟨RX12, "family", "(IIIII)I"⟩
abbrev cX12_layHand : ByteArray := prog_14_method_21_code
def yX12_layHand : MethodName := ⟨RX12, "layHand", "()V"⟩
abbrev cX12_kneels : ByteArray := prog_14_method_22_code
def yX12_kneels : MethodName := ⟨RX12, "kneels", "(II)Z"⟩
abbrev cX12_high : ByteArray := prog_14_method_23_code
def yX12_high : MethodName := ⟨RX12, "high", "(II)I"⟩
abbrev cX12_voices : ByteArray := prog_14_method_24_code
def yX12_voices : MethodName := ⟨RX12, "voices", "(II)I"⟩
abbrev cX12_sees : ByteArray := prog_14_method_25_code
def yX12_sees : MethodName := ⟨RX12, "sees", "(II)Z"⟩
abbrev cX12_loudOf : ByteArray := prog_14_method_26_code
def yX12_loudOf : MethodName := ⟨RX12, "loudOf", "(II)I"⟩
abbrev cX12_isPeace : ByteArray := prog_14_method_27_code
def yX12_isPeace : MethodName := ⟨RX12, "isPeace", "(I)Z"⟩
abbrev cX12_peaces : ByteArray := prog_14_method_28_code
def yX12_peaces : MethodName := ⟨RX12, "peaces", "()I"⟩
abbrev cX12_keep : ByteArray := prog_14_method_29_code
def yX12_keep : MethodName := ⟨RX12, "keep", "()V"⟩
abbrev cX12_move : ByteArray := prog_14_method_30_code
def yX12_move : MethodName := ⟨RX12, "move", "(II)I"⟩
abbrev cX12_cold : ByteArray := prog_14_method_31_code
def yX12_cold : MethodName := ⟨RX12, "cold", "(II)I"⟩
abbrev cX12_manyColds : ByteArray := prog_14_method_32_code
def yX12_manyColds : MethodName := ⟨RX12, "manyColds", "()I"⟩
abbrev cX12_undo : ByteArray := prog_14_method_33_code
def yX12_undo : MethodName := ⟨RX12, "undo", "()I"⟩
abbrev cX12_of : ByteArray := prog_14_method_34_code
def yX12_of : MethodName := ⟨RX12, "of", "(II)I"⟩
abbrev cX12_at : ByteArray := prog_14_method_35_code
def yX12_at : MethodName := ⟨RX12, "at", "(III)I"⟩
abbrev cX12_up : ByteArray := prog_14_method_36_code
def yX12_up : MethodName := ⟨RX12, "up", "(I)I"⟩
abbrev cX12_seers : ByteArray := prog_14_method_37_code
def yX12_seers : MethodName := ⟨RX12, "seers", "(I)I"⟩
abbrev cX12_loud : ByteArray := prog_14_method_38_code
def yX12_loud : MethodName := ⟨RX12, "loud", "(II)I"⟩
abbrev cX12_breach : ByteArray := prog_14_method_39_code
def yX12_breach : MethodName := ⟨RX12, "breach", "(I)I"⟩
abbrev cX12_canNot : ByteArray := prog_14_method_40_code
def yX12_canNot : MethodName := ⟨RX12, "canNot", "()I"⟩
abbrev cX12_laySeats : ByteArray := prog_14_method_41_code
def yX12_laySeats : MethodName := ⟨RX12, "laySeats", "(I)Z"⟩
abbrev cX12_seeing : ByteArray := prog_14_method_42_code
def yX12_seeing : MethodName := ⟨RX12, "seeing", "()I"⟩
abbrev cX12_laySeating : ByteArray := prog_14_method_43_code
def yX12_laySeating : MethodName := ⟨RX12, "laySeating", "()V"⟩
abbrev cX12_seats : ByteArray := prog_14_method_44_code
def yX12_seats : MethodName := ⟨RX12, "seats", "(I)I"⟩
abbrev cX12_change : ByteArray := prog_14_method_45_code
def yX12_change : MethodName := ⟨RX12, "change", "(I)I"⟩
abbrev cX12_still : ByteArray := prog_14_method_46_code
def yX12_still : MethodName := ⟨RX12, "still", "()I"⟩
abbrev cX12_heard : ByteArray := prog_14_method_47_code
def yX12_heard : MethodName := ⟨RX12, "heard", "(III)I"⟩
abbrev cX12_forget : ByteArray := prog_14_method_48_code
def yX12_forget : MethodName := ⟨RX12, "forget", "()I"⟩
abbrev cX12_isHeardSo : ByteArray := prog_14_method_49_code
def yX12_isHeardSo : MethodName := ⟨RX12, "isHeardSo", "()Z"⟩
abbrev cX12_layMay : ByteArray := prog_14_method_50_code
def yX12_layMay : MethodName := ⟨RX12, "layMay", "()V"⟩
abbrev cX12_coughed : ByteArray := prog_14_method_51_code
def yX12_coughed : MethodName := ⟨RX12, "coughed", "(I)I"⟩
abbrev cX12_next : ByteArray := prog_14_method_52_code
def yX12_next : MethodName := ⟨RX12, "next", "()I"⟩
abbrev cX12_is : ByteArray := prog_14_method_53_code
def yX12_is : MethodName := ⟨RX12, "is", "(I)I"⟩
abbrev cX12_deaconOf : ByteArray := prog_14_method_54_code
def yX12_deaconOf : MethodName := ⟨RX12, "deaconOf", "(I)I"⟩
abbrev cX12_deacons : ByteArray := prog_14_method_55_code
def yX12_deacons : MethodName := ⟨RX12, "deacons", "(I)I"⟩
abbrev cX12_feasts : ByteArray := prog_14_method_56_code
def yX12_feasts : MethodName := ⟨RX12, "feasts", "(IIII)I"⟩
abbrev cX12_fraction : ByteArray := prog_14_method_57_code
def yX12_fraction : MethodName := ⟨RX12, "fraction", "(JJ)V"⟩
abbrev cX12_colds : ByteArray := prog_14_method_58_code
def yX12_colds : MethodName := ⟨RX12, "colds", "(II)I"⟩
abbrev cX12_sundays : ByteArray := prog_14_method_59_code
def yX12_sundays : MethodName := ⟨RX12, "sundays", "(II)I"⟩
abbrev cX12_type : ByteArray := prog_14_method_60_code
def yX12_type : MethodName := ⟨RX12, "type", "(I)I"⟩
abbrev cX12_clear : ByteArray := prog_14_method_61_code
def yX12_clear : MethodName := ⟨RX12, "clear", "()I"⟩
abbrev cX12_isSmall : ByteArray := prog_14_method_62_code
def yX12_isSmall : MethodName := ⟨RX12, "isSmall", "(I)Z"⟩
abbrev cX12_isFigure : ByteArray := prog_14_method_63_code
def yX12_isFigure : MethodName := ⟨RX12, "isFigure", "(I)Z"⟩
abbrev cX12_lookAt : ByteArray := prog_14_method_64_code
def yX12_lookAt : MethodName := ⟨RX12, "lookAt", "(I)V"⟩
abbrev cX12_goBehind : ByteArray := prog_14_method_65_code
def yX12_goBehind : MethodName := ⟨RX12, "goBehind", "()V"⟩
abbrev cX12_spells : ByteArray := prog_14_method_66_code
def yX12_spells : MethodName := ⟨RX12, "spells", "(IIIIIII)Z"⟩
abbrev cX12_takes : ByteArray := prog_14_method_67_code
def yX12_takes : MethodName := ⟨RX12, "takes", "(III)Z"⟩
abbrev cX12_takesChurch : ByteArray := prog_14_method_68_code
def yX12_takesChurch : MethodName := ⟨RX12, "takesChurch", "()Z"⟩
abbrev cX12_takesBook : ByteArray := prog_14_method_69_code
def yX12_takesBook : MethodName := ⟨RX12, "takesBook", "()Z"⟩
abbrev cX12_takesFamily : ByteArray := prog_14_method_70_code
def yX12_takesFamily : MethodName := ⟨RX12, "takesFamily", "()Z"⟩
abbrev cX12_takesCold : ByteArray := prog_14_method_71_code
def yX12_takesCold : MethodName := ⟨RX12, "takesCold", "()Z"⟩
abbrev cX12_takesItem : ByteArray := prog_14_method_72_code
def yX12_takesItem : MethodName := ⟨RX12, "takesItem", "()Z"⟩
abbrev cX12_read : ByteArray := prog_14_method_73_code
def yX12_read : MethodName := ⟨RX12, "read", "()I"⟩
abbrev cX12_part : ByteArray := prog_14_method_74_code
def yX12_part : MethodName := ⟨RX12, "part", "(I)J"⟩
abbrev cX12_image : ByteArray := prog_14_method_75_code
def yX12_image : MethodName := ⟨RX12, "image", "(I)I"⟩
abbrev cX12_from : ByteArray := prog_14_method_76_code
def yX12_from : MethodName := ⟨RX12, "from", "(I)I"⟩
abbrev cX12_status : ByteArray := prog_14_method_77_code
def yX12_status : MethodName := ⟨RX12, "status", "(I)I"⟩
abbrev cX12_counted : ByteArray := prog_14_method_78_code
def yX12_counted : MethodName := ⟨RX12, "counted", "(I)I"⟩
abbrev cX12_count : ByteArray := prog_14_method_79_code
def yX12_count : MethodName := ⟨RX12, "count", "(I)I"⟩
abbrev cX12_sums : ByteArray := prog_14_method_80_code
def yX12_sums : MethodName := ⟨RX12, "sums", "(JII)J"⟩
abbrev cX12_digest : ByteArray := prog_14_method_81_code
def yX12_digest : MethodName := ⟨RX12, "digest", "()J"⟩
def RJx145de : String := "java/io/Serializable"
def RJx9f9b0 : String := "java/lang/CharSequence"
def RJxb160c : String := "java/lang/Comparable"
def RJ6 : String := "java/lang/Integer"
abbrev cJ6_bitCount_0f7a4 : ByteArray := prog_15_method_49_code
def yJ6_bitCount_0f7a4 : MethodName := ⟨RJ6, "bitCount", "(I)I"⟩
def RJ9 : String := "java/lang/Math"
abbrev cJ9_abs_0f7a4 : ByteArray := prog_16_method_59_code
def yJ9_abs_0f7a4 : MethodName := ⟨RJ9, "abs", "(I)I"⟩
abbrev cJ9_max_7cf53 : ByteArray := prog_16_method_65_code
def yJ9_max_7cf53 : MethodName := ⟨RJ9, "max", "(II)I"⟩
abbrev cJ9_min_7cf53 : ByteArray := prog_16_method_69_code
def yJ9_min_7cf53 : MethodName := ⟨RJ9, "min", "(II)I"⟩
def RJ0 : String := "java/lang/String"
abbrev cJ0_length_8abf5 : ByteArray := prog_17_method_54_code
def yJ0_length_8abf5 : MethodName := ⟨RJ0, "length", "()I"⟩
abbrev cJ0_charAt_5068e : ByteArray := prog_17_method_56_code
def yJ0_charAt_5068e : MethodName := ⟨RJ0, "charAt", "(I)C"⟩
abbrev cJ0_coder_7d493 : ByteArray := prog_17_method_152_code
def yJ0_coder_7d493 : MethodName := ⟨RJ0, "coder", "()B"⟩
abbrev cJ0_isLatin1_aae02 : ByteArray := prog_17_method_154_code
def yJ0_isLatin1_aae02 : MethodName := ⟨RJ0, "isLatin1", "()Z"⟩
abbrev cJ0_checkIndex_df160 : ByteArray := prog_17_method_155_code
def yJ0_checkIndex_df160 : MethodName := ⟨RJ0, "checkIndex", "(II)V"⟩
def RJ1 : String := "java/lang/StringLatin1"
abbrev cJ1_charAt_3b067 : ByteArray := prog_18_method_2_code
def yJ1_charAt_3b067 : MethodName := ⟨RJ1, "charAt", "([BI)C"⟩
def RJ2 : String := "java/lang/StringUTF16"
abbrev cJ2_getChar_3b067 : ByteArray := prog_19_method_5_code
def yJ2_getChar_3b067 : MethodName := ⟨RJ2, "getChar", "([BI)C"⟩
abbrev cJ2_length_9d52b : ByteArray := prog_19_method_6_code
def yJ2_length_9d52b : MethodName := ⟨RJ2, "length", "([B)I"⟩
abbrev cJ2_charAt_3b067 : ByteArray := prog_19_method_83_code
def yJ2_charAt_3b067 : MethodName := ⟨RJ2, "charAt", "([BI)C"⟩
abbrev cJ2_checkIndex_2214a : ByteArray := prog_19_method_91_code
def yJ2_checkIndex_2214a : MethodName := ⟨RJ2, "checkIndex", "(I[B)V"⟩
def RJ10 : String := "java/lang/System"
def RJxfd54e : String := "java/lang/constant/Constable"
def RJx3cf43 : String := "java/lang/constant/ConstantDesc"
def RJ7 : String := "java/util/Arrays"
abbrev cJ7_fill_53178 : ByteArray := prog_21_method_103_code
def yJ7_fill_53178 : MethodName := ⟨RJ7, "fill", "([II)V"⟩
def RJ3 : String := "jdk/internal/util/Preconditions"
abbrev cJ3_checkIndex_8e157 : ByteArray := prog_22_method_11_code
def yJ3_checkIndex_8e157 : MethodName := ⟨RJ3, "checkIndex", "(IILjava/util/function/BiFunction;)I"⟩
def RL : String := "EveryPewLaw"
abbrev cL_law : ByteArray := code
