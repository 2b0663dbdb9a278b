section
-- ===== PART A: goes FIRST, ahead of the names: the tables' words, and 'selects' of the private methods out of them =====
/-- a private method of a class that the tables say can be made, by its rows of tables_1 -/
def lw_okq (q : MethodName × Nat) : Prop := (q.1.cls ≠ "java/lang/invoke/MethodHandle" ∧ q.1.cls ≠ "java/lang/invoke/VarHandle") ∧ Cond.instantiable q.1.cls q.2 ∈ tables_1 ∧ Cond.privateMethod q.1 ∈ tables_1 ∧ Cond.instanceMethod q.1 ∈ tables_1
theorem lw_p0 : lw_okq (⟨"EveryPew", "refuse", "(I)I"⟩, 11) := ⟨⟨by decide +kernel, by decide +kernel⟩, List.mem_of_getElem? (i := 23) (by decide +kernel), List.mem_of_getElem? (i := 312) (by decide +kernel), List.mem_of_getElem? (i := 313) (by decide +kernel)⟩
theorem lw_p1 : lw_okq (⟨"EveryPew$TextOfChurch", "advance", "()V"⟩, 6) := ⟨⟨by decide +kernel, by decide +kernel⟩, List.mem_of_getElem? (i := 115) (by decide +kernel), List.mem_of_getElem? (i := 366) (by decide +kernel), List.mem_of_getElem? (i := 367) (by decide +kernel)⟩
theorem lw_p2 : lw_okq (⟨"EveryPew$TextOfChurch", "figures", "()I"⟩, 6) := ⟨⟨by decide +kernel, by decide +kernel⟩, List.mem_of_getElem? (i := 115) (by decide +kernel), List.mem_of_getElem? (i := 373) (by decide +kernel), List.mem_of_getElem? (i := 374) (by decide +kernel)⟩
theorem lw_p3 : lw_okq (⟨"EveryPew$TextOfChurch", "says", "(Ljava/lang/String;)Z"⟩, 6) := ⟨⟨by decide +kernel, by decide +kernel⟩, List.mem_of_getElem? (i := 115) (by decide +kernel), List.mem_of_getElem? (i := 378) (by decide +kernel), List.mem_of_getElem? (i := 379) (by decide +kernel)⟩
theorem lw_p4 : lw_okq (⟨"EveryPew$TextOfChurch", "takesNumber", "(II)Z"⟩, 6) := ⟨⟨by decide +kernel, by decide +kernel⟩, List.mem_of_getElem? (i := 115) (by decide +kernel), List.mem_of_getElem? (i := 430) (by decide +kernel), List.mem_of_getElem? (i := 431) (by decide +kernel)⟩
theorem lw_p5 : lw_okq (⟨"EveryPew$TextOfChurch", "isNumber", "(II)Z"⟩, 6) := ⟨⟨by decide +kernel, by decide +kernel⟩, List.mem_of_getElem? (i := 115) (by decide +kernel), List.mem_of_getElem? (i := 434) (by decide +kernel), List.mem_of_getElem? (i := 435) (by decide +kernel)⟩
theorem lw_p6 : lw_okq (⟨"EveryPew$TextOfChurch", "takesStop", "()Z"⟩, 6) := ⟨⟨by decide +kernel, by decide +kernel⟩, List.mem_of_getElem? (i := 115) (by decide +kernel), List.mem_of_getElem? (i := 440) (by decide +kernel), List.mem_of_getElem? (i := 441) (by decide +kernel)⟩
theorem lw_p7 : lw_okq (⟨"EveryPew$TextOfChurch", "takesItem", "(LEveryPew$Church;)Z"⟩, 6) := ⟨⟨by decide +kernel, by decide +kernel⟩, List.mem_of_getElem? (i := 115) (by decide +kernel), List.mem_of_getElem? (i := 444) (by decide +kernel), List.mem_of_getElem? (i := 445) (by decide +kernel)⟩
theorem lw_p8 : lw_okq (⟨"EveryPew$TextOfChurch", "takesBook", "(LEveryPew$Church;)Z"⟩, 6) := ⟨⟨by decide +kernel, by decide +kernel⟩, List.mem_of_getElem? (i := 115) (by decide +kernel), List.mem_of_getElem? (i := 449) (by decide +kernel), List.mem_of_getElem? (i := 450) (by decide +kernel)⟩
theorem lw_p9 : lw_okq (⟨"EveryPew$TextOfChurch", "takesFamily", "(LEveryPew$Church;)Z"⟩, 6) := ⟨⟨by decide +kernel, by decide +kernel⟩, List.mem_of_getElem? (i := 115) (by decide +kernel), List.mem_of_getElem? (i := 454) (by decide +kernel), List.mem_of_getElem? (i := 455) (by decide +kernel)⟩
theorem lw_p10 : lw_okq (⟨"EveryPew$TextOfChurch", "takesCold", "(LEveryPew$Church;)Z"⟩, 6) := ⟨⟨by decide +kernel, by decide +kernel⟩, List.mem_of_getElem? (i := 115) (by decide +kernel), List.mem_of_getElem? (i := 462) (by decide +kernel), List.mem_of_getElem? (i := 463) (by decide +kernel)⟩
theorem lw_p11 : lw_okq (⟨"EveryPew$Service", "isPeacefulInCase", "(II)Z"⟩, 10) := ⟨⟨by decide +kernel, by decide +kernel⟩, List.mem_of_getElem? (i := 142) (by decide +kernel), List.mem_of_getElem? (i := 640) (by decide +kernel), List.mem_of_getElem? (i := 641) (by decide +kernel)⟩
theorem lw_p12 : lw_okq (⟨"EveryPew$Seating", "findTallest", "(LEveryPew$Service;I)V"⟩, 3) := ⟨⟨by decide +kernel, by decide +kernel⟩, List.mem_of_getElem? (i := 227) (by decide +kernel), List.mem_of_getElem? (i := 659) (by decide +kernel), List.mem_of_getElem? (i := 660) (by decide +kernel)⟩
theorem lw_p13 : lw_okq (⟨"EveryPew$Seating", "fillPew", "(LEveryPew$Service;II)V"⟩, 3) := ⟨⟨by decide +kernel, by decide +kernel⟩, List.mem_of_getElem? (i := 227) (by decide +kernel), List.mem_of_getElem? (i := 669) (by decide +kernel), List.mem_of_getElem? (i := 670) (by decide +kernel)⟩
theorem lw_p14 : lw_okq (⟨"EveryPew$Seating", "worth", "(LEveryPew$Service;III)I"⟩, 3) := ⟨⟨by decide +kernel, by decide +kernel⟩, List.mem_of_getElem? (i := 227) (by decide +kernel), List.mem_of_getElem? (i := 673) (by decide +kernel), List.mem_of_getElem? (i := 674) (by decide +kernel)⟩
theorem lw_p15 : lw_okq (⟨"EveryPew$Coughs", "mostAlike", "(LEveryPew$Service;I)I"⟩, 6) := ⟨⟨by decide +kernel, by decide +kernel⟩, List.mem_of_getElem? (i := 243) (by decide +kernel), List.mem_of_getElem? (i := 746) (by decide +kernel), List.mem_of_getElem? (i := 747) (by decide +kernel)⟩
def lw_privs_1 : List (MethodName × Nat) := [(⟨"EveryPew", "refuse", "(I)I"⟩, 11), (⟨"EveryPew$TextOfChurch", "advance", "()V"⟩, 6), (⟨"EveryPew$TextOfChurch", "figures", "()I"⟩, 6), (⟨"EveryPew$TextOfChurch", "says", "(Ljava/lang/String;)Z"⟩, 6), (⟨"EveryPew$TextOfChurch", "takesNumber", "(II)Z"⟩, 6), (⟨"EveryPew$TextOfChurch", "isNumber", "(II)Z"⟩, 6), (⟨"EveryPew$TextOfChurch", "takesStop", "()Z"⟩, 6), (⟨"EveryPew$TextOfChurch", "takesItem", "(LEveryPew$Church;)Z"⟩, 6), (⟨"EveryPew$TextOfChurch", "takesBook", "(LEveryPew$Church;)Z"⟩, 6), (⟨"EveryPew$TextOfChurch", "takesFamily", "(LEveryPew$Church;)Z"⟩, 6), (⟨"EveryPew$TextOfChurch", "takesCold", "(LEveryPew$Church;)Z"⟩, 6), (⟨"EveryPew$Service", "isPeacefulInCase", "(II)Z"⟩, 10), (⟨"EveryPew$Seating", "findTallest", "(LEveryPew$Service;I)V"⟩, 3), (⟨"EveryPew$Seating", "fillPew", "(LEveryPew$Service;II)V"⟩, 3), (⟨"EveryPew$Seating", "worth", "(LEveryPew$Service;III)I"⟩, 3), (⟨"EveryPew$Coughs", "mostAlike", "(LEveryPew$Service;I)I"⟩, 6)]
theorem lw_r1 : ∀ q ∈ lw_privs_1, lw_okq q := List.forall_mem_cons.mpr ⟨lw_p0, List.forall_mem_cons.mpr ⟨lw_p1, List.forall_mem_cons.mpr ⟨lw_p2, List.forall_mem_cons.mpr ⟨lw_p3, List.forall_mem_cons.mpr ⟨lw_p4, List.forall_mem_cons.mpr ⟨lw_p5, List.forall_mem_cons.mpr ⟨lw_p6, List.forall_mem_cons.mpr ⟨lw_p7, List.forall_mem_cons.mpr ⟨lw_p8, List.forall_mem_cons.mpr ⟨lw_p9, List.forall_mem_cons.mpr ⟨lw_p10, List.forall_mem_cons.mpr ⟨lw_p11, List.forall_mem_cons.mpr ⟨lw_p12, List.forall_mem_cons.mpr ⟨lw_p13, List.forall_mem_cons.mpr ⟨lw_p14, List.forall_mem_cons.mpr ⟨lw_p15, fun _ h => absurd h List.not_mem_nil⟩⟩⟩⟩⟩⟩⟩⟩⟩⟩⟩⟩⟩⟩⟩⟩
theorem lw_p16 : lw_okq (⟨"EveryPew", "leadOfBook0", "(II)I"⟩, 11) := ⟨⟨by decide +kernel, by decide +kernel⟩, List.mem_of_getElem? (i := 23) (by decide +kernel), List.mem_of_getElem? (i := 762) (by decide +kernel), List.mem_of_getElem? (i := 763) (by decide +kernel)⟩
theorem lw_p17 : lw_okq (⟨"EveryPew", "chancesOf", "(II)J"⟩, 11) := ⟨⟨by decide +kernel, by decide +kernel⟩, List.mem_of_getElem? (i := 23) (by decide +kernel), List.mem_of_getElem? (i := 779) (by decide +kernel), List.mem_of_getElem? (i := 780) (by decide +kernel)⟩
theorem lw_p18 : lw_okq (⟨"EveryPew", "keepFraction", "(JJ)V"⟩, 11) := ⟨⟨by decide +kernel, by decide +kernel⟩, List.mem_of_getElem? (i := 23) (by decide +kernel), List.mem_of_getElem? (i := 786) (by decide +kernel), List.mem_of_getElem? (i := 787) (by decide +kernel)⟩
theorem lw_p19 : lw_okq (⟨"EveryPew", "howMany", "(I)I"⟩, 11) := ⟨⟨by decide +kernel, by decide +kernel⟩, List.mem_of_getElem? (i := 23) (by decide +kernel), List.mem_of_getElem? (i := 823) (by decide +kernel), List.mem_of_getElem? (i := 824) (by decide +kernel)⟩
theorem lw_p20 : lw_okq (⟨"EveryPewModel", "bad", "(I)I"⟩, 25) := ⟨⟨by decide +kernel, by decide +kernel⟩, List.mem_of_getElem? (i := 833) (by decide +kernel), List.mem_of_getElem? (i := 926) (by decide +kernel), List.mem_of_getElem? (i := 927) (by decide +kernel)⟩
theorem lw_p21 : lw_okq (⟨"EveryPewModel", "many", "()I"⟩, 25) := ⟨⟨by decide +kernel, by decide +kernel⟩, List.mem_of_getElem? (i := 833) (by decide +kernel), List.mem_of_getElem? (i := 930) (by decide +kernel), List.mem_of_getElem? (i := 931) (by decide +kernel)⟩
theorem lw_p22 : lw_okq (⟨"EveryPewModel", "no", "()I"⟩, 25) := ⟨⟨by decide +kernel, by decide +kernel⟩, List.mem_of_getElem? (i := 833) (by decide +kernel), List.mem_of_getElem? (i := 955) (by decide +kernel), List.mem_of_getElem? (i := 956) (by decide +kernel)⟩
theorem lw_p23 : lw_okq (⟨"EveryPewModel", "full", "()I"⟩, 25) := ⟨⟨by decide +kernel, by decide +kernel⟩, List.mem_of_getElem? (i := 833) (by decide +kernel), List.mem_of_getElem? (i := 959) (by decide +kernel), List.mem_of_getElem? (i := 960) (by decide +kernel)⟩
theorem lw_p24 : lw_okq (⟨"EveryPewModel", "isFamily", "(I)Z"⟩, 25) := ⟨⟨by decide +kernel, by decide +kernel⟩, List.mem_of_getElem? (i := 833) (by decide +kernel), List.mem_of_getElem? (i := 970) (by decide +kernel), List.mem_of_getElem? (i := 971) (by decide +kernel)⟩
theorem lw_p25 : lw_okq (⟨"EveryPewModel", "get", "(II)I"⟩, 25) := ⟨⟨by decide +kernel, by decide +kernel⟩, List.mem_of_getElem? (i := 833) (by decide +kernel), List.mem_of_getElem? (i := 974) (by decide +kernel), List.mem_of_getElem? (i := 975) (by decide +kernel)⟩
theorem lw_p26 : lw_okq (⟨"EveryPewModel", "keep", "()V"⟩, 25) := ⟨⟨by decide +kernel, by decide +kernel⟩, List.mem_of_getElem? (i := 833) (by decide +kernel), List.mem_of_getElem? (i := 978) (by decide +kernel), List.mem_of_getElem? (i := 979) (by decide +kernel)⟩
theorem lw_p27 : lw_okq (⟨"EveryPewModel", "manyColds", "()I"⟩, 25) := ⟨⟨by decide +kernel, by decide +kernel⟩, List.mem_of_getElem? (i := 833) (by decide +kernel), List.mem_of_getElem? (i := 990) (by decide +kernel), List.mem_of_getElem? (i := 991) (by decide +kernel)⟩
theorem lw_p28 : lw_okq (⟨"EveryPewModel", "layHand", "()V"⟩, 25) := ⟨⟨by decide +kernel, by decide +kernel⟩, List.mem_of_getElem? (i := 833) (by decide +kernel), List.mem_of_getElem? (i := 1007) (by decide +kernel), List.mem_of_getElem? (i := 1008) (by decide +kernel)⟩
theorem lw_p29 : lw_okq (⟨"EveryPewModel", "kneels", "(II)Z"⟩, 25) := ⟨⟨by decide +kernel, by decide +kernel⟩, List.mem_of_getElem? (i := 833) (by decide +kernel), List.mem_of_getElem? (i := 1011) (by decide +kernel), List.mem_of_getElem? (i := 1012) (by decide +kernel)⟩
theorem lw_p30 : lw_okq (⟨"EveryPewModel", "high", "(II)I"⟩, 25) := ⟨⟨by decide +kernel, by decide +kernel⟩, List.mem_of_getElem? (i := 833) (by decide +kernel), List.mem_of_getElem? (i := 1018) (by decide +kernel), List.mem_of_getElem? (i := 1019) (by decide +kernel)⟩
theorem lw_p31 : lw_okq (⟨"EveryPewModel", "voices", "(II)I"⟩, 25) := ⟨⟨by decide +kernel, by decide +kernel⟩, List.mem_of_getElem? (i := 833) (by decide +kernel), List.mem_of_getElem? (i := 1022) (by decide +kernel), List.mem_of_getElem? (i := 1023) (by decide +kernel)⟩
def lw_privs_2 : List (MethodName × Nat) := [(⟨"EveryPew", "leadOfBook0", "(II)I"⟩, 11), (⟨"EveryPew", "chancesOf", "(II)J"⟩, 11), (⟨"EveryPew", "keepFraction", "(JJ)V"⟩, 11), (⟨"EveryPew", "howMany", "(I)I"⟩, 11), (⟨"EveryPewModel", "bad", "(I)I"⟩, 25), (⟨"EveryPewModel", "many", "()I"⟩, 25), (⟨"EveryPewModel", "no", "()I"⟩, 25), (⟨"EveryPewModel", "full", "()I"⟩, 25), (⟨"EveryPewModel", "isFamily", "(I)Z"⟩, 25), (⟨"EveryPewModel", "get", "(II)I"⟩, 25), (⟨"EveryPewModel", "keep", "()V"⟩, 25), (⟨"EveryPewModel", "manyColds", "()I"⟩, 25), (⟨"EveryPewModel", "layHand", "()V"⟩, 25), (⟨"EveryPewModel", "kneels", "(II)Z"⟩, 25), (⟨"EveryPewModel", "high", "(II)I"⟩, 25), (⟨"EveryPewModel", "voices", "(II)I"⟩, 25)]
theorem lw_r2 : ∀ q ∈ lw_privs_2, lw_okq q := List.forall_mem_cons.mpr ⟨lw_p16, List.forall_mem_cons.mpr ⟨lw_p17, List.forall_mem_cons.mpr ⟨lw_p18, List.forall_mem_cons.mpr ⟨lw_p19, List.forall_mem_cons.mpr ⟨lw_p20, List.forall_mem_cons.mpr ⟨lw_p21, List.forall_mem_cons.mpr ⟨lw_p22, List.forall_mem_cons.mpr ⟨lw_p23, List.forall_mem_cons.mpr ⟨lw_p24, List.forall_mem_cons.mpr ⟨lw_p25, List.forall_mem_cons.mpr ⟨lw_p26, List.forall_mem_cons.mpr ⟨lw_p27, List.forall_mem_cons.mpr ⟨lw_p28, List.forall_mem_cons.mpr ⟨lw_p29, List.forall_mem_cons.mpr ⟨lw_p30, List.forall_mem_cons.mpr ⟨lw_p31, fun _ h => absurd h List.not_mem_nil⟩⟩⟩⟩⟩⟩⟩⟩⟩⟩⟩⟩⟩⟩⟩⟩
theorem lw_p32 : lw_okq (⟨"EveryPewModel", "sees", "(II)Z"⟩, 25) := ⟨⟨by decide +kernel, by decide +kernel⟩, List.mem_of_getElem? (i := 833) (by decide +kernel), List.mem_of_getElem? (i := 1026) (by decide +kernel), List.mem_of_getElem? (i := 1027) (by decide +kernel)⟩
theorem lw_p33 : lw_okq (⟨"EveryPewModel", "loudOf", "(II)I"⟩, 25) := ⟨⟨by decide +kernel, by decide +kernel⟩, List.mem_of_getElem? (i := 833) (by decide +kernel), List.mem_of_getElem? (i := 1042) (by decide +kernel), List.mem_of_getElem? (i := 1043) (by decide +kernel)⟩
theorem lw_p34 : lw_okq (⟨"EveryPewModel", "isPeace", "(I)Z"⟩, 25) := ⟨⟨by decide +kernel, by decide +kernel⟩, List.mem_of_getElem? (i := 833) (by decide +kernel), List.mem_of_getElem? (i := 1050) (by decide +kernel), List.mem_of_getElem? (i := 1051) (by decide +kernel)⟩
theorem lw_p35 : lw_okq (⟨"EveryPewModel", "laySeating", "()V"⟩, 25) := ⟨⟨by decide +kernel, by decide +kernel⟩, List.mem_of_getElem? (i := 833) (by decide +kernel), List.mem_of_getElem? (i := 1063) (by decide +kernel), List.mem_of_getElem? (i := 1064) (by decide +kernel)⟩
theorem lw_p36 : lw_okq (⟨"EveryPewModel", "laySeats", "(I)Z"⟩, 25) := ⟨⟨by decide +kernel, by decide +kernel⟩, List.mem_of_getElem? (i := 833) (by decide +kernel), List.mem_of_getElem? (i := 1067) (by decide +kernel), List.mem_of_getElem? (i := 1068) (by decide +kernel)⟩
theorem lw_p37 : lw_okq (⟨"EveryPewModel", "seeing", "()I"⟩, 25) := ⟨⟨by decide +kernel, by decide +kernel⟩, List.mem_of_getElem? (i := 833) (by decide +kernel), List.mem_of_getElem? (i := 1071) (by decide +kernel), List.mem_of_getElem? (i := 1072) (by decide +kernel)⟩
theorem lw_p38 : lw_okq (⟨"EveryPewModel", "peaces", "()I"⟩, 25) := ⟨⟨by decide +kernel, by decide +kernel⟩, List.mem_of_getElem? (i := 833) (by decide +kernel), List.mem_of_getElem? (i := 1079) (by decide +kernel), List.mem_of_getElem? (i := 1080) (by decide +kernel)⟩
theorem lw_p39 : lw_okq (⟨"EveryPewModel", "layMay", "()V"⟩, 25) := ⟨⟨by decide +kernel, by decide +kernel⟩, List.mem_of_getElem? (i := 833) (by decide +kernel), List.mem_of_getElem? (i := 1104) (by decide +kernel), List.mem_of_getElem? (i := 1105) (by decide +kernel)⟩
theorem lw_p40 : lw_okq (⟨"EveryPewModel", "isHeardSo", "()Z"⟩, 25) := ⟨⟨by decide +kernel, by decide +kernel⟩, List.mem_of_getElem? (i := 833) (by decide +kernel), List.mem_of_getElem? (i := 1108) (by decide +kernel), List.mem_of_getElem? (i := 1109) (by decide +kernel)⟩
theorem lw_p41 : lw_okq (⟨"EveryPewModel", "deaconOf", "(I)I"⟩, 25) := ⟨⟨by decide +kernel, by decide +kernel⟩, List.mem_of_getElem? (i := 833) (by decide +kernel), List.mem_of_getElem? (i := 1125) (by decide +kernel), List.mem_of_getElem? (i := 1126) (by decide +kernel)⟩
theorem lw_p42 : lw_okq (⟨"EveryPewModel", "fraction", "(JJ)V"⟩, 25) := ⟨⟨by decide +kernel, by decide +kernel⟩, List.mem_of_getElem? (i := 833) (by decide +kernel), List.mem_of_getElem? (i := 1140) (by decide +kernel), List.mem_of_getElem? (i := 1141) (by decide +kernel)⟩
theorem lw_p43 : lw_okq (⟨"EveryPewModel", "lookAt", "(I)V"⟩, 25) := ⟨⟨by decide +kernel, by decide +kernel⟩, List.mem_of_getElem? (i := 833) (by decide +kernel), List.mem_of_getElem? (i := 1168) (by decide +kernel), List.mem_of_getElem? (i := 1169) (by decide +kernel)⟩
theorem lw_p44 : lw_okq (⟨"EveryPewModel", "takesChurch", "()Z"⟩, 25) := ⟨⟨by decide +kernel, by decide +kernel⟩, List.mem_of_getElem? (i := 833) (by decide +kernel), List.mem_of_getElem? (i := 1182) (by decide +kernel), List.mem_of_getElem? (i := 1183) (by decide +kernel)⟩
theorem lw_p45 : lw_okq (⟨"EveryPewModel", "spells", "(IIIIIII)Z"⟩, 25) := ⟨⟨by decide +kernel, by decide +kernel⟩, List.mem_of_getElem? (i := 833) (by decide +kernel), List.mem_of_getElem? (i := 1186) (by decide +kernel), List.mem_of_getElem? (i := 1187) (by decide +kernel)⟩
theorem lw_p46 : lw_okq (⟨"EveryPewModel", "goBehind", "()V"⟩, 25) := ⟨⟨by decide +kernel, by decide +kernel⟩, List.mem_of_getElem? (i := 833) (by decide +kernel), List.mem_of_getElem? (i := 1190) (by decide +kernel), List.mem_of_getElem? (i := 1191) (by decide +kernel)⟩
theorem lw_p47 : lw_okq (⟨"EveryPewModel", "takes", "(III)Z"⟩, 25) := ⟨⟨by decide +kernel, by decide +kernel⟩, List.mem_of_getElem? (i := 833) (by decide +kernel), List.mem_of_getElem? (i := 1194) (by decide +kernel), List.mem_of_getElem? (i := 1195) (by decide +kernel)⟩
def lw_privs_3 : List (MethodName × Nat) := [(⟨"EveryPewModel", "sees", "(II)Z"⟩, 25), (⟨"EveryPewModel", "loudOf", "(II)I"⟩, 25), (⟨"EveryPewModel", "isPeace", "(I)Z"⟩, 25), (⟨"EveryPewModel", "laySeating", "()V"⟩, 25), (⟨"EveryPewModel", "laySeats", "(I)Z"⟩, 25), (⟨"EveryPewModel", "seeing", "()I"⟩, 25), (⟨"EveryPewModel", "peaces", "()I"⟩, 25), (⟨"EveryPewModel", "layMay", "()V"⟩, 25), (⟨"EveryPewModel", "isHeardSo", "()Z"⟩, 25), (⟨"EveryPewModel", "deaconOf", "(I)I"⟩, 25), (⟨"EveryPewModel", "fraction", "(JJ)V"⟩, 25), (⟨"EveryPewModel", "lookAt", "(I)V"⟩, 25), (⟨"EveryPewModel", "takesChurch", "()Z"⟩, 25), (⟨"EveryPewModel", "spells", "(IIIIIII)Z"⟩, 25), (⟨"EveryPewModel", "goBehind", "()V"⟩, 25), (⟨"EveryPewModel", "takes", "(III)Z"⟩, 25)]
theorem lw_r3 : ∀ q ∈ lw_privs_3, lw_okq q := List.forall_mem_cons.mpr ⟨lw_p32, List.forall_mem_cons.mpr ⟨lw_p33, List.forall_mem_cons.mpr ⟨lw_p34, List.forall_mem_cons.mpr ⟨lw_p35, List.forall_mem_cons.mpr ⟨lw_p36, List.forall_mem_cons.mpr ⟨lw_p37, List.forall_mem_cons.mpr ⟨lw_p38, List.forall_mem_cons.mpr ⟨lw_p39, List.forall_mem_cons.mpr ⟨lw_p40, List.forall_mem_cons.mpr ⟨lw_p41, List.forall_mem_cons.mpr ⟨lw_p42, List.forall_mem_cons.mpr ⟨lw_p43, List.forall_mem_cons.mpr ⟨lw_p44, List.forall_mem_cons.mpr ⟨lw_p45, List.forall_mem_cons.mpr ⟨lw_p46, List.forall_mem_cons.mpr ⟨lw_p47, fun _ h => absurd h List.not_mem_nil⟩⟩⟩⟩⟩⟩⟩⟩⟩⟩⟩⟩⟩⟩⟩⟩
theorem lw_p48 : lw_okq (⟨"EveryPewModel", "takesItem", "()Z"⟩, 25) := ⟨⟨by decide +kernel, by decide +kernel⟩, List.mem_of_getElem? (i := 833) (by decide +kernel), List.mem_of_getElem? (i := 1198) (by decide +kernel), List.mem_of_getElem? (i := 1199) (by decide +kernel)⟩
theorem lw_p49 : lw_okq (⟨"EveryPewModel", "takesBook", "()Z"⟩, 25) := ⟨⟨by decide +kernel, by decide +kernel⟩, List.mem_of_getElem? (i := 833) (by decide +kernel), List.mem_of_getElem? (i := 1202) (by decide +kernel), List.mem_of_getElem? (i := 1203) (by decide +kernel)⟩
theorem lw_p50 : lw_okq (⟨"EveryPewModel", "takesFamily", "()Z"⟩, 25) := ⟨⟨by decide +kernel, by decide +kernel⟩, List.mem_of_getElem? (i := 833) (by decide +kernel), List.mem_of_getElem? (i := 1206) (by decide +kernel), List.mem_of_getElem? (i := 1207) (by decide +kernel)⟩
theorem lw_p51 : lw_okq (⟨"EveryPewModel", "takesCold", "()Z"⟩, 25) := ⟨⟨by decide +kernel, by decide +kernel⟩, List.mem_of_getElem? (i := 833) (by decide +kernel), List.mem_of_getElem? (i := 1210) (by decide +kernel), List.mem_of_getElem? (i := 1211) (by decide +kernel)⟩
theorem lw_p52 : lw_okq (⟨"EveryPewModel", "counted", "(I)I"⟩, 25) := ⟨⟨by decide +kernel, by decide +kernel⟩, List.mem_of_getElem? (i := 833) (by decide +kernel), List.mem_of_getElem? (i := 1235) (by decide +kernel), List.mem_of_getElem? (i := 1236) (by decide +kernel)⟩
theorem lw_p53 : lw_okq (⟨"EveryPewModel", "sums", "(JII)J"⟩, 25) := ⟨⟨by decide +kernel, by decide +kernel⟩, List.mem_of_getElem? (i := 833) (by decide +kernel), List.mem_of_getElem? (i := 1245) (by decide +kernel), List.mem_of_getElem? (i := 1246) (by decide +kernel)⟩
def lw_privs_4 : List (MethodName × Nat) := [(⟨"EveryPewModel", "takesItem", "()Z"⟩, 25), (⟨"EveryPewModel", "takesBook", "()Z"⟩, 25), (⟨"EveryPewModel", "takesFamily", "()Z"⟩, 25), (⟨"EveryPewModel", "takesCold", "()Z"⟩, 25), (⟨"EveryPewModel", "counted", "(I)I"⟩, 25), (⟨"EveryPewModel", "sums", "(JII)J"⟩, 25)]
theorem lw_r4 : ∀ q ∈ lw_privs_4, lw_okq q := List.forall_mem_cons.mpr ⟨lw_p48, List.forall_mem_cons.mpr ⟨lw_p49, List.forall_mem_cons.mpr ⟨lw_p50, List.forall_mem_cons.mpr ⟨lw_p51, List.forall_mem_cons.mpr ⟨lw_p52, List.forall_mem_cons.mpr ⟨lw_p53, fun _ h => absurd h List.not_mem_nil⟩⟩⟩⟩⟩⟩
def lw_privs : List (MethodName × Nat) := lw_privs_1 ++ (lw_privs_2 ++ (lw_privs_3 ++ (lw_privs_4)))
def lw_tbl : List Cond := k2_sels lw_privs ++ tables_1
theorem lw_privs_ok : ∀ q ∈ lw_privs, lw_okq q := by
  show ∀ q ∈ lw_privs_1 ++ (lw_privs_2 ++ (lw_privs_3 ++ (lw_privs_4))), lw_okq q
  exact List.forall_mem_append.mpr ⟨lw_r1, List.forall_mem_append.mpr ⟨lw_r2, List.forall_mem_append.mpr ⟨lw_r3, lw_r4⟩⟩⟩
-- ===== names =====
def RX0 : String := "EveryPew$Children"
def TX0 : u_T := fun k => match k with
  | _ => ("", "", "", false)
def tyX0 : Nat → FieldType := fun k => match k with
  | _ => .int
abbrev wsX00 : List Cond := u_ws RX0 TX0 0
theorem nmX0 : ∀ a, a < 0 → ∀ b, b < 0 → a ≠ b → (TX0 a).2.1 ≠ (TX0 b).2.1 := by decide +kernel
theorem tyX0_ok : ∀ k, k < 0 → parseFieldDescriptor (TX0 k).2.2.1 = some (tyX0 k) := by decide +kernel
abbrev cX0_init : ByteArray := prog_2_method_1_code
def yX0_init : MethodName := ⟨RX0, "<init>", "()V"⟩
abbrev cX0_height : ByteArray := prog_2_method_2_code
def yX0_height : MethodName := ⟨RX0, "height", "(IZ)I"⟩
def RX1 : String := "EveryPew$Church"
def TX1 : u_T := fun k => match k with
  | 0 => ("EveryPew$Church", "limit", "I", false)
  | 1 => ("EveryPew$Church", "books", "[I", true)
  | 2 => ("EveryPew$Church", "families", "I", false)
  | 3 => ("EveryPew$Church", "kind", "[I", true)
  | 4 => ("EveryPew$Church", "book", "[I", true)
  | 5 => ("EveryPew$Church", "tall", "[I", true)
  | 6 => ("EveryPew$Church", "voices", "[I", true)
  | 7 => ("EveryPew$Church", "pew", "[I", true)
  | 8 => ("EveryPew$Church", "colds", "I", false)
  | 9 => ("EveryPew$Church", "heards", "I", false)
  | 10 => ("EveryPew$Church", "heardWord", "[I", true)
  | 11 => ("EveryPew$Church", "heardBook", "[I", true)
  | 12 => ("EveryPew$Church", "heardLoud", "[I", true)
  | 13 => ("EveryPew$Church", "steps", "I", false)
  | 14 => ("EveryPew$Church", "oldPews", "[I", true)
  | _ => ("EveryPew$Church", "oldColds", "[I", true)
def tyX1 : Nat → FieldType := fun k => match k with
  | 0 => .int
  | 1 => .array .int
  | 2 => .int
  | 3 => .array .int
  | 4 => .array .int
  | 5 => .array .int
  | 6 => .array .int
  | 7 => .array .int
  | 8 => .int
  | 9 => .int
  | 10 => .array .int
  | 11 => .array .int
  | 12 => .array .int
  | 13 => .int
  | 14 => .array .int
  | _ => .array .int
abbrev wsX10 : List Cond := u_ws RX1 TX1 16
theorem nmX1 : ∀ a, a < 16 → ∀ b, b < 16 → a ≠ b → (TX1 a).2.1 ≠ (TX1 b).2.1 := by decide +kernel
theorem tyX1_ok : ∀ k, k < 16 → parseFieldDescriptor (TX1 k).2.2.1 = some (tyX1 k) := by decide +kernel
abbrev cX1_init : ByteArray := prog_3_method_1_code
def yX1_init : MethodName := ⟨RX1, "<init>", "()V"⟩
abbrev cX1_begin : ByteArray := prog_3_method_2_code
def yX1_begin : MethodName := ⟨RX1, "begin", "(I)V"⟩
abbrev cX1_becomeLike : ByteArray := prog_3_method_3_code
def yX1_becomeLike : MethodName := ⟨RX1, "becomeLike", "(LEveryPew$Church;)V"⟩
abbrev cX1_copy : ByteArray := prog_3_method_4_code
def yX1_copy : MethodName := ⟨RX1, "copy", "([I[I)V"⟩
abbrev cX1_hasFamily : ByteArray := prog_3_method_5_code
def yX1_hasFamily : MethodName := ⟨RX1, "hasFamily", "(I)Z"⟩
abbrev cX1_sets : ByteArray := prog_3_method_6_code
def yX1_sets : MethodName := ⟨RX1, "sets", "()I"⟩
abbrev cX1_isTaken : ByteArray := prog_3_method_7_code
def yX1_isTaken : MethodName := ⟨RX1, "isTaken", "(I)Z"⟩
abbrev cX1_admit : ByteArray := prog_3_method_8_code
def yX1_admit : MethodName := ⟨RX1, "admit", "(IIIII)I"⟩
abbrev cX1_trait : ByteArray := prog_3_method_9_code
def yX1_trait : MethodName := ⟨RX1, "trait", "(II)I"⟩
abbrev cX1_hear : ByteArray := prog_3_method_10_code
def yX1_hear : MethodName := ⟨RX1, "hear", "(III)I"⟩
abbrev cX1_remember : ByteArray := prog_3_method_11_code
def yX1_remember : MethodName := ⟨RX1, "remember", "()V"⟩
abbrev cX1_goBack : ByteArray := prog_3_method_12_code
def yX1_goBack : MethodName := ⟨RX1, "goBack", "()V"⟩
abbrev cX1_mostVoiced : ByteArray := prog_3_method_13_code
def yX1_mostVoiced : MethodName := ⟨RX1, "mostVoiced", "(I)I"⟩
def RX2 : String := "EveryPew$Convert"
def TX2 : u_T := fun k => match k with
  | _ => ("", "", "", false)
def tyX2 : Nat → FieldType := fun k => match k with
  | _ => .int
abbrev wsX20 : List Cond := u_ws RX2 TX2 0
theorem nmX2 : ∀ a, a < 0 → ∀ b, b < 0 → a ≠ b → (TX2 a).2.1 ≠ (TX2 b).2.1 := by decide +kernel
theorem tyX2_ok : ∀ k, k < 0 → parseFieldDescriptor (TX2 k).2.2.1 = some (tyX2 k) := by decide +kernel
abbrev cX2_init : ByteArray := prog_4_method_1_code
def yX2_init : MethodName := ⟨RX2, "<init>", "()V"⟩
abbrev cX2_kneelsAt : ByteArray := prog_4_method_2_code
def yX2_kneelsAt : MethodName := ⟨RX2, "kneelsAt", "(ZZ)Z"⟩
def RX3 : String := "EveryPew$Coughs"
def TX3 : u_T := fun k => match k with
  | 0 => ("EveryPew$Coughs", "fits", "[Z", true)
  | 1 => ("EveryPew$Coughs", "alike", "[I", true)
  | 2 => ("EveryPew$Coughs", "sets", "I", false)
  | 3 => ("EveryPew$Coughs", "fitting", "I", false)
  | 4 => ("EveryPew$Coughs", "inAll", "I", false)
  | _ => ("EveryPew$Coughs", "inSome", "I", false)
def tyX3 : Nat → FieldType := fun k => match k with
  | 0 => .array .boolean
  | 1 => .array .int
  | 2 => .int
  | 3 => .int
  | 4 => .int
  | _ => .int
abbrev wsX30 : List Cond := u_ws RX3 TX3 6
theorem nmX3 : ∀ a, a < 6 → ∀ b, b < 6 → a ≠ b → (TX3 a).2.1 ≠ (TX3 b).2.1 := by decide +kernel
theorem tyX3_ok : ∀ k, k < 6 → parseFieldDescriptor (TX3 k).2.2.1 = some (tyX3 k) := by decide +kernel
abbrev cX3_init : ByteArray := prog_5_method_1_code
def yX3_init : MethodName := ⟨RX3, "<init>", "()V"⟩
abbrev cX3_find : ByteArray := prog_5_method_2_code
def yX3_find : MethodName := ⟨RX3, "find", "(LEveryPew$Church;LEveryPew$Service;)V"⟩
abbrev cX3_bestWord : ByteArray := prog_5_method_3_code
def yX3_bestWord : MethodName := ⟨RX3, "bestWord", "(LEveryPew$Service;)I"⟩
abbrev cX3_firstWordOf : ByteArray := prog_5_method_4_code
def yX3_firstWordOf : MethodName := ⟨RX3, "firstWordOf", "(LEveryPew$Service;I)I"⟩
abbrev cX3_mostAlike : ByteArray := prog_5_method_5_code
def yX3_mostAlike : MethodName := ⟨RX3, "mostAlike", "(LEveryPew$Service;I)I"⟩
def RX4 : String := "EveryPew$Deacon"
def TX4 : u_T := fun k => match k with
  | _ => ("", "", "", false)
def tyX4 : Nat → FieldType := fun k => match k with
  | _ => .int
abbrev wsX40 : List Cond := u_ws RX4 TX4 0
theorem nmX4 : ∀ a, a < 0 → ∀ b, b < 0 → a ≠ b → (TX4 a).2.1 ≠ (TX4 b).2.1 := by decide +kernel
theorem tyX4_ok : ∀ k, k < 0 → parseFieldDescriptor (TX4 k).2.2.1 = some (tyX4 k) := by decide +kernel
abbrev cX4_init : ByteArray := prog_6_method_1_code
def yX4_init : MethodName := ⟨RX4, "<init>", "()V"⟩
abbrev cX4_kneelsAt : ByteArray := prog_6_method_2_code
def yX4_kneelsAt : MethodName := ⟨RX4, "kneelsAt", "(ZZ)Z"⟩
abbrev cX4_height : ByteArray := prog_6_method_3_code
def yX4_height : MethodName := ⟨RX4, "height", "(IZ)I"⟩
def RX5 : String := "EveryPew$Hoarse"
def TX5 : u_T := fun k => match k with
  | _ => ("", "", "", false)
def tyX5 : Nat → FieldType := fun k => match k with
  | _ => .int
abbrev wsX50 : List Cond := u_ws RX5 TX5 0
theorem nmX5 : ∀ a, a < 0 → ∀ b, b < 0 → a ≠ b → (TX5 a).2.1 ≠ (TX5 b).2.1 := by decide +kernel
theorem tyX5_ok : ∀ k, k < 0 → parseFieldDescriptor (TX5 k).2.2.1 = some (tyX5 k) := by decide +kernel
abbrev cX5_init : ByteArray := prog_7_method_1_code
def yX5_init : MethodName := ⟨RX5, "<init>", "()V"⟩
abbrev cX5_sound : ByteArray := prog_7_method_2_code
def yX5_sound : MethodName := ⟨RX5, "sound", "(IZ)I"⟩
def RX6 : String := "EveryPew$Plain"
def TX6 : u_T := fun k => match k with
  | _ => ("", "", "", false)
def tyX6 : Nat → FieldType := fun k => match k with
  | _ => .int
abbrev wsX60 : List Cond := u_ws RX6 TX6 0
theorem nmX6 : ∀ a, a < 0 → ∀ b, b < 0 → a ≠ b → (TX6 a).2.1 ≠ (TX6 b).2.1 := by decide +kernel
theorem tyX6_ok : ∀ k, k < 0 → parseFieldDescriptor (TX6 k).2.2.1 = some (tyX6 k) := by decide +kernel
abbrev cX6_init : ByteArray := prog_8_method_1_code
def yX6_init : MethodName := ⟨RX6, "<init>", "()V"⟩
abbrev cX6_kneelsAt : ByteArray := prog_8_method_2_code
def yX6_kneelsAt : MethodName := ⟨RX6, "kneelsAt", "(ZZ)Z"⟩
abbrev cX6_height : ByteArray := prog_8_method_3_code
def yX6_height : MethodName := ⟨RX6, "height", "(IZ)I"⟩
abbrev cX6_sound : ByteArray := prog_8_method_4_code
def yX6_sound : MethodName := ⟨RX6, "sound", "(IZ)I"⟩
def RX7 : String := "EveryPew$Seating"
def TX7 : u_T := fun k => match k with
  | 0 => ("EveryPew$Seating", "best", "[I", true)
  | 1 => ("EveryPew$Seating", "tallest", "[I", true)
  | _ => ("EveryPew$Seating", "score", "I", false)
def tyX7 : Nat → FieldType := fun k => match k with
  | 0 => .array .int
  | 1 => .array .int
  | _ => .int
abbrev wsX70 : List Cond := u_ws RX7 TX7 3
theorem nmX7 : ∀ a, a < 3 → ∀ b, b < 3 → a ≠ b → (TX7 a).2.1 ≠ (TX7 b).2.1 := by decide +kernel
theorem tyX7_ok : ∀ k, k < 3 → parseFieldDescriptor (TX7 k).2.2.1 = some (tyX7 k) := by decide +kernel
abbrev cX7_init : ByteArray := prog_9_method_1_code
def yX7_init : MethodName := ⟨RX7, "<init>", "()V"⟩
abbrev cX7_find : ByteArray := prog_9_method_2_code
def yX7_find : MethodName := ⟨RX7, "find", "(LEveryPew$Service;)V"⟩
abbrev cX7_seen : ByteArray := prog_9_method_3_code
def yX7_seen : MethodName := ⟨RX7, "seen", "()I"⟩
abbrev cX7_pewOf : ByteArray := prog_9_method_4_code
def yX7_pewOf : MethodName := ⟨RX7, "pewOf", "(I)I"⟩
abbrev cX7_findTallest : ByteArray := prog_9_method_5_code
def yX7_findTallest : MethodName := ⟨RX7, "findTallest", "(LEveryPew$Service;I)V"⟩
abbrev cX7_firstOf : ByteArray := prog_9_method_6_code
def yX7_firstOf : MethodName := ⟨RX7, "firstOf", "(I)I"⟩
abbrev cX7_fillPew : ByteArray := prog_9_method_7_code
def yX7_fillPew : MethodName := ⟨RX7, "fillPew", "(LEveryPew$Service;II)V"⟩
abbrev cX7_worth : ByteArray := prog_9_method_8_code
def yX7_worth : MethodName := ⟨RX7, "worth", "(LEveryPew$Service;III)I"⟩
def RX8 : String := "EveryPew$Service"
def TX8 : u_T := fun k => match k with
  | 0 => ("EveryPew$Service", "kinds", "[LEveryPew$Plain;", true)
  | 1 => ("EveryPew$Service", "families", "I", false)
  | 2 => ("EveryPew$Service", "limit", "I", false)
  | 3 => ("EveryPew$Service", "book", "[I", true)
  | 4 => ("EveryPew$Service", "pew", "[I", true)
  | 5 => ("EveryPew$Service", "kneeling", "[Z", true)
  | 6 => ("EveryPew$Service", "height", "[I", true)
  | 7 => ("EveryPew$Service", "sound", "[I", true)
  | 8 => ("EveryPew$Service", "caseAt", "[I", true)
  | _ => ("EveryPew$Service", "wordsOfCase", "[I", true)
def tyX8 : Nat → FieldType := fun k => match k with
  | 0 => .array (.object "EveryPew$Plain")
  | 1 => .int
  | 2 => .int
  | 3 => .array .int
  | 4 => .array .int
  | 5 => .array .boolean
  | 6 => .array .int
  | 7 => .array .int
  | 8 => .array .int
  | _ => .array .int
abbrev wsX80 : List Cond := u_ws RX8 TX8 10
theorem nmX8 : ∀ a, a < 10 → ∀ b, b < 10 → a ≠ b → (TX8 a).2.1 ≠ (TX8 b).2.1 := by decide +kernel
theorem tyX8_ok : ∀ k, k < 10 → parseFieldDescriptor (TX8 k).2.2.1 = some (tyX8 k) := by decide +kernel
abbrev cX8_init : ByteArray := prog_10_method_1_code
def yX8_init : MethodName := ⟨RX8, "<init>", "()V"⟩
abbrev cX8_hold : ByteArray := prog_10_method_2_code
def yX8_hold : MethodName := ⟨RX8, "hold", "(LEveryPew$Church;)V"⟩
abbrev cX8_suppose : ByteArray := prog_10_method_3_code
def yX8_suppose : MethodName := ⟨RX8, "suppose", "(LEveryPew$Church;III)V"⟩
abbrev cX8_kneels : ByteArray := prog_10_method_4_code
def yX8_kneels : MethodName := ⟨RX8, "kneels", "(II)Z"⟩
abbrev cX8_high : ByteArray := prog_10_method_5_code
def yX8_high : MethodName := ⟨RX8, "high", "(II)I"⟩
abbrev cX8_voices : ByteArray := prog_10_method_6_code
def yX8_voices : MethodName := ⟨RX8, "voices", "(III)I"⟩
abbrev cX8_sees : ByteArray := prog_10_method_7_code
def yX8_sees : MethodName := ⟨RX8, "sees", "(II)Z"⟩
abbrev cX8_loudness : ByteArray := prog_10_method_8_code
def yX8_loudness : MethodName := ⟨RX8, "loudness", "(III)I"⟩
abbrev cX8_loudnessInCase : ByteArray := prog_10_method_9_code
def yX8_loudnessInCase : MethodName := ⟨RX8, "loudnessInCase", "(III)I"⟩
abbrev cX8_isPeaceful : ByteArray := prog_10_method_10_code
def yX8_isPeaceful : MethodName := ⟨RX8, "isPeaceful", "(II)Z"⟩
abbrev cX8_isPeacefulInCase : ByteArray := prog_10_method_11_code
def yX8_isPeacefulInCase : MethodName := ⟨RX8, "isPeacefulInCase", "(II)Z"⟩
abbrev cX8_peacefulWords : ByteArray := prog_10_method_12_code
def yX8_peacefulWords : MethodName := ⟨RX8, "peacefulWords", "(I)I"⟩
abbrev cX8_isPeacefulThroughout : ByteArray := prog_10_method_13_code
def yX8_isPeacefulThroughout : MethodName := ⟨RX8, "isPeacefulThroughout", "(I)Z"⟩
abbrev cX8_agreesWith : ByteArray := prog_10_method_14_code
def yX8_agreesWith : MethodName := ⟨RX8, "agreesWith", "(LEveryPew$Church;I)Z"⟩
def RX9 : String := "EveryPew$TextOfChurch"
def TX9 : u_T := fun k => match k with
  | 0 => ("EveryPew$TextOfChurch", "bytes", "[I", true)
  | 1 => ("EveryPew$TextOfChurch", "length", "I", false)
  | 2 => ("EveryPew$TextOfChurch", "token", "I", false)
  | 3 => ("EveryPew$TextOfChurch", "start", "I", false)
  | 4 => ("EveryPew$TextOfChurch", "behind", "I", false)
  | _ => ("EveryPew$TextOfChurch", "value", "I", false)
def tyX9 : Nat → FieldType := fun k => match k with
  | 0 => .array .int
  | 1 => .int
  | 2 => .int
  | 3 => .int
  | 4 => .int
  | _ => .int
abbrev wsX90 : List Cond := u_ws RX9 TX9 6
theorem nmX9 : ∀ a, a < 6 → ∀ b, b < 6 → a ≠ b → (TX9 a).2.1 ≠ (TX9 b).2.1 := by decide +kernel
theorem tyX9_ok : ∀ k, k < 6 → parseFieldDescriptor (TX9 k).2.2.1 = some (tyX9 k) := by decide +kernel
abbrev cX9_init : ByteArray := prog_11_method_1_code
def yX9_init : MethodName := ⟨RX9, "<init>", "()V"⟩
abbrev cX9_append : ByteArray := prog_11_method_2_code
def yX9_append : MethodName := ⟨RX9, "append", "(I)I"⟩
abbrev cX9_tell : ByteArray := prog_11_method_3_code
def yX9_tell : MethodName := ⟨RX9, "tell", "(LEveryPew$Church;)I"⟩
abbrev cX9_takesItem : ByteArray := prog_11_method_4_code
def yX9_takesItem : MethodName := ⟨RX9, "takesItem", "(LEveryPew$Church;)Z"⟩
abbrev cX9_takesBook : ByteArray := prog_11_method_5_code
def yX9_takesBook : MethodName := ⟨RX9, "takesBook", "(LEveryPew$Church;)Z"⟩
abbrev cX9_takesFamily : ByteArray := prog_11_method_6_code
def yX9_takesFamily : MethodName := ⟨RX9, "takesFamily", "(LEveryPew$Church;)Z"⟩
abbrev cX9_takesCold : ByteArray := prog_11_method_7_code
def yX9_takesCold : MethodName := ⟨RX9, "takesCold", "(LEveryPew$Church;)Z"⟩
abbrev cX9_takesNumber : ByteArray := prog_11_method_8_code
def yX9_takesNumber : MethodName := ⟨RX9, "takesNumber", "(II)Z"⟩
abbrev cX9_takesStop : ByteArray := prog_11_method_9_code
def yX9_takesStop : MethodName := ⟨RX9, "takesStop", "()Z"⟩
abbrev cX9_isNumber : ByteArray := prog_11_method_10_code
def yX9_isNumber : MethodName := ⟨RX9, "isNumber", "(II)Z"⟩
abbrev cX9_says : ByteArray := prog_11_method_11_code
def yX9_says : MethodName := ⟨RX9, "says", "(Ljava/lang/String;)Z"⟩
abbrev cX9_advance : ByteArray := prog_11_method_12_code
def yX9_advance : MethodName := ⟨RX9, "advance", "()V"⟩
abbrev cX9_figures : ByteArray := prog_11_method_13_code
def yX9_figures : MethodName := ⟨RX9, "figures", "()I"⟩
abbrev cX9_sortOf : ByteArray := prog_11_method_14_code
def yX9_sortOf : MethodName := ⟨RX9, "sortOf", "(I)I"⟩
def RX10 : String := "EveryPew$Waverers"
def TX10 : u_T := fun k => match k with
  | _ => ("", "", "", false)
def tyX10 : Nat → FieldType := fun k => match k with
  | _ => .int
abbrev wsX100 : List Cond := u_ws RX10 TX10 0
theorem nmX10 : ∀ a, a < 0 → ∀ b, b < 0 → a ≠ b → (TX10 a).2.1 ≠ (TX10 b).2.1 := by decide +kernel
theorem tyX10_ok : ∀ k, k < 0 → parseFieldDescriptor (TX10 k).2.2.1 = some (tyX10 k) := by decide +kernel
abbrev cX10_init : ByteArray := prog_12_method_1_code
def yX10_init : MethodName := ⟨RX10, "<init>", "()V"⟩
abbrev cX10_kneelsAt : ByteArray := prog_12_method_2_code
def yX10_kneelsAt : MethodName := ⟨RX10, "kneelsAt", "(ZZ)Z"⟩
abbrev cX10_sound : ByteArray := prog_12_method_3_code
def yX10_sound : MethodName := ⟨RX10, "sound", "(IZ)I"⟩
def RX11 : String := "EveryPew"
def TX11 : u_T := fun k => match k with
  | 0 => ("EveryPew", "now", "LEveryPew$Church;", true)
  | 1 => ("EveryPew", "draft", "LEveryPew$Church;", true)
  | 2 => ("EveryPew", "images", "[LEveryPew$Church;", true)
  | 3 => ("EveryPew", "kept", "[Z", true)
  | 4 => ("EveryPew", "text", "LEveryPew$TextOfChurch;", true)
  | 5 => ("EveryPew", "service", "LEveryPew$Service;", true)
  | 6 => ("EveryPew", "seating", "LEveryPew$Seating;", true)
  | 7 => ("EveryPew", "coughs", "LEveryPew$Coughs;", true)
  | 8 => ("EveryPew", "refused", "[I", true)
  | 9 => ("EveryPew", "above", "J", false)
  | _ => ("EveryPew", "below", "J", false)
def tyX11 : Nat → FieldType := fun k => match k with
  | 0 => .object "EveryPew$Church"
  | 1 => .object "EveryPew$Church"
  | 2 => .array (.object "EveryPew$Church")
  | 3 => .array .boolean
  | 4 => .object "EveryPew$TextOfChurch"
  | 5 => .object "EveryPew$Service"
  | 6 => .object "EveryPew$Seating"
  | 7 => .object "EveryPew$Coughs"
  | 8 => .array .int
  | 9 => .long
  | _ => .long
abbrev wsX110 : List Cond := u_ws RX11 TX11 11
theorem nmX11 : ∀ a, a < 11 → ∀ b, b < 11 → a ≠ b → (TX11 a).2.1 ≠ (TX11 b).2.1 := by decide +kernel
theorem tyX11_ok : ∀ k, k < 11 → parseFieldDescriptor (TX11 k).2.2.1 = some (tyX11 k) := by decide +kernel
abbrev cX11_init : ByteArray := prog_1_method_1_code
def yX11_init : MethodName := ⟨RX11, "<init>", "()V"⟩
abbrev cX11_church : ByteArray := prog_1_method_2_code
def yX11_church : MethodName := ⟨RX11, "church", "(I)I"⟩
abbrev cX11_book : ByteArray := prog_1_method_3_code
def yX11_book : MethodName := ⟨RX11, "book", "(II)I"⟩
abbrev cX11_family : ByteArray := prog_1_method_4_code
def yX11_family : MethodName := ⟨RX11, "family", "(IIIII)I"⟩
abbrev cX11_type : ByteArray := prog_1_method_5_code
def yX11_type : MethodName := ⟨RX11, "type", "(I)I"⟩
abbrev cX11_clear : ByteArray := prog_1_method_6_code
def yX11_clear : MethodName := ⟨RX11, "clear", "()I"⟩
abbrev cX11_read : ByteArray := prog_1_method_7_code
def yX11_read : MethodName := ⟨RX11, "read", "()I"⟩
abbrev cX11_move : ByteArray := prog_1_method_8_code
def yX11_move : MethodName := ⟨RX11, "move", "(II)I"⟩
abbrev cX11_cold : ByteArray := prog_1_method_9_code
def yX11_cold : MethodName := ⟨RX11, "cold", "(II)I"⟩
abbrev cX11_undo : ByteArray := prog_1_method_10_code
def yX11_undo : MethodName := ⟨RX11, "undo", "()I"⟩
abbrev cX11_of : ByteArray := prog_1_method_11_code
def yX11_of : MethodName := ⟨RX11, "of", "(II)I"⟩
abbrev cX11_at : ByteArray := prog_1_method_12_code
def yX11_at : MethodName := ⟨RX11, "at", "(III)I"⟩
abbrev cX11_up : ByteArray := prog_1_method_13_code
def yX11_up : MethodName := ⟨RX11, "up", "(I)I"⟩
abbrev cX11_seers : ByteArray := prog_1_method_14_code
def yX11_seers : MethodName := ⟨RX11, "seers", "(I)I"⟩
abbrev cX11_loud : ByteArray := prog_1_method_15_code
def yX11_loud : MethodName := ⟨RX11, "loud", "(II)I"⟩
abbrev cX11_breach : ByteArray := prog_1_method_16_code
def yX11_breach : MethodName := ⟨RX11, "breach", "(I)I"⟩
abbrev cX11_canNot : ByteArray := prog_1_method_17_code
def yX11_canNot : MethodName := ⟨RX11, "canNot", "()I"⟩
abbrev cX11_seats : ByteArray := prog_1_method_18_code
def yX11_seats : MethodName := ⟨RX11, "seats", "(I)I"⟩
abbrev cX11_change : ByteArray := prog_1_method_19_code
def yX11_change : MethodName := ⟨RX11, "change", "(I)I"⟩
abbrev cX11_still : ByteArray := prog_1_method_20_code
def yX11_still : MethodName := ⟨RX11, "still", "()I"⟩
abbrev cX11_heard : ByteArray := prog_1_method_21_code
def yX11_heard : MethodName := ⟨RX11, "heard", "(III)I"⟩
abbrev cX11_forget : ByteArray := prog_1_method_22_code
def yX11_forget : MethodName := ⟨RX11, "forget", "()I"⟩
abbrev cX11_coughed : ByteArray := prog_1_method_23_code
def yX11_coughed : MethodName := ⟨RX11, "coughed", "(I)I"⟩
abbrev cX11_next : ByteArray := prog_1_method_24_code
def yX11_next : MethodName := ⟨RX11, "next", "()I"⟩
abbrev cX11_is : ByteArray := prog_1_method_25_code
def yX11_is : MethodName := ⟨RX11, "is", "(I)I"⟩
abbrev cX11_deacons : ByteArray := prog_1_method_26_code
def yX11_deacons : MethodName := ⟨RX11, "deacons", "(I)I"⟩
abbrev cX11_feasts : ByteArray := prog_1_method_27_code
def yX11_feasts : MethodName := ⟨RX11, "feasts", "(IIII)I"⟩
abbrev cX11_colds : ByteArray := prog_1_method_28_code
def yX11_colds : MethodName := ⟨RX11, "colds", "(II)I"⟩
abbrev cX11_sundays : ByteArray := prog_1_method_29_code
def yX11_sundays : MethodName := ⟨RX11, "sundays", "(II)I"⟩
abbrev cX11_part : ByteArray := prog_1_method_30_code
def yX11_part : MethodName := ⟨RX11, "part", "(I)J"⟩
abbrev cX11_image : ByteArray := prog_1_method_31_code
def yX11_image : MethodName := ⟨RX11, "image", "(I)I"⟩
abbrev cX11_from : ByteArray := prog_1_method_32_code
def yX11_from : MethodName := ⟨RX11, "from", "(I)I"⟩
abbrev cX11_status : ByteArray := prog_1_method_33_code
def yX11_status : MethodName := ⟨RX11, "status", "(I)I"⟩
abbrev cX11_count : ByteArray := prog_1_method_34_code
def yX11_count : MethodName := ⟨RX11, "count", "(I)I"⟩
abbrev cX11_digest : ByteArray := prog_1_method_35_code
def yX11_digest : MethodName := ⟨RX11, "digest", "()J"⟩
abbrev cX11_within : ByteArray := prog_1_method_36_code
def yX11_within : MethodName := ⟨RX11, "within", "(III)Z"⟩
abbrev cX11_isWord : ByteArray := prog_1_method_37_code
def yX11_isWord : MethodName := ⟨RX11, "isWord", "(I)Z"⟩
abbrev cX11_isBook : ByteArray := prog_1_method_38_code
def yX11_isBook : MethodName := ⟨RX11, "isBook", "(I)Z"⟩
abbrev cX11_isPewOf : ByteArray := prog_1_method_39_code
def yX11_isPewOf : MethodName := ⟨RX11, "isPewOf", "(II)Z"⟩
abbrev cX11_bit : ByteArray := prog_1_method_40_code
def yX11_bit : MethodName := ⟨RX11, "bit", "(II)I"⟩
abbrev cX11_refuse : ByteArray := prog_1_method_41_code
def yX11_refuse : MethodName := ⟨RX11, "refuse", "(I)I"⟩
abbrev cX11_howMany : ByteArray := prog_1_method_42_code
def yX11_howMany : MethodName := ⟨RX11, "howMany", "(I)I"⟩
abbrev cX11_leadOfBook0 : ByteArray := prog_1_method_43_code
def yX11_leadOfBook0 : MethodName := ⟨RX11, "leadOfBook0", "(II)I"⟩
abbrev cX11_chancesOf : ByteArray := prog_1_method_44_code
def yX11_chancesOf : MethodName := ⟨RX11, "chancesOf", "(II)J"⟩
abbrev cX11_power : ByteArray := prog_1_method_45_code
def yX11_power : MethodName := ⟨RX11, "power", "(II)J"⟩
abbrev cX11_keepFraction : ByteArray := prog_1_method_46_code
def yX11_keepFraction : MethodName := ⟨RX11, "keepFraction", "(JJ)V"⟩
abbrev cX11_commonDivisor : ByteArray := prog_1_method_47_code
def yX11_commonDivisor : MethodName := ⟨RX11, "commonDivisor", "(JJ)J"⟩
def RX12 : String := "EveryPewModel"
def TX12 : u_T := fun k => match k with
  | 0 => ("EveryPewModel", "now", "[I", true)
  | 1 => ("EveryPewModel", "kept", "[I", true)
  | 2 => ("EveryPewModel", "isKept", "[Z", true)
  | 3 => ("EveryPewModel", "refused", "[I", true)
  | 4 => ("EveryPewModel", "above", "J", false)
  | 5 => ("EveryPewModel", "below", "J", false)
  | 6 => ("EveryPewModel", "kinds", "[I", true)
  | 7 => ("EveryPewModel", "theirs", "[I", true)
  | 8 => ("EveryPewModel", "sits", "[I", true)
  | 9 => ("EveryPewModel", "coughing", "I", false)
  | 10 => ("EveryPewModel", "highs", "[I", true)
  | 11 => ("EveryPewModel", "bestSits", "[I", true)
  | 12 => ("EveryPewModel", "mostSee", "I", false)
  | 13 => ("EveryPewModel", "may", "[Z", true)
  | 14 => ("EveryPewModel", "manyMay", "I", false)
  | 15 => ("EveryPewModel", "manyBy", "[I", true)
  | 16 => ("EveryPewModel", "louder", "[I", true)
  | 17 => ("EveryPewModel", "bytes", "[I", true)
  | 18 => ("EveryPewModel", "bytesLong", "I", false)
  | 19 => ("EveryPewModel", "tokenAt", "I", false)
  | 20 => ("EveryPewModel", "tokenLong", "I", false)
  | 21 => ("EveryPewModel", "token", "I", false)
  | 22 => ("EveryPewModel", "value", "I", false)
  | 23 => ("EveryPewModel", "anew", "[I", true)
  | _ => ("EveryPewModel", "values", "[I", true)
def tyX12 : Nat → FieldType := fun k => match k with
  | 0 => .array .int
  | 1 => .array .int
  | 2 => .array .boolean
  | 3 => .array .int
  | 4 => .long
  | 5 => .long
  | 6 => .array .int
  | 7 => .array .int
  | 8 => .array .int
  | 9 => .int
  | 10 => .array .int
  | 11 => .array .int
  | 12 => .int
  | 13 => .array .boolean
  | 14 => .int
  | 15 => .array .int
  | 16 => .array .int
  | 17 => .array .int
  | 18 => .int
  | 19 => .int
  | 20 => .int
  | 21 => .int
  | 22 => .int
  | 23 => .array .int
  | _ => .array .int
abbrev wsX120 : List Cond := u_ws RX12 TX12 25
theorem nmX12 : ∀ a, a < 25 → ∀ b, b < 25 → a ≠ b → (TX12 a).2.1 ≠ (TX12 b).2.1 := by decide +kernel
theorem tyX12_ok : ∀ k, k < 25 → parseFieldDescriptor (TX12 k).2.2.1 = some (tyX12 k) := by decide +kernel
abbrev cX12_init : ByteArray := prog_14_method_1_code
def yX12_init : MethodName := ⟨RX12, "<init>", "()V"⟩
abbrev cX12_in : ByteArray := prog_14_method_3_code
def yX12_in : MethodName := ⟨RX12, "in", "(JJJ)Z"⟩
abbrev cX12_bad : ByteArray := prog_14_method_4_code
def yX12_bad : MethodName := ⟨RX12, "bad", "(I)I"⟩
abbrev cX12_no : ByteArray := prog_14_method_5_code
def yX12_no : MethodName := ⟨RX12, "no", "()I"⟩
abbrev cX12_full : ByteArray := prog_14_method_6_code
def yX12_full : MethodName := ⟨RX12, "full", "()I"⟩
abbrev cX12_bits : ByteArray := prog_14_method_7_code
def yX12_bits : MethodName := ⟨RX12, "bits", "(I)I"⟩
abbrev cX12_has : ByteArray := prog_14_method_8_code
def yX12_has : MethodName := ⟨RX12, "has", "(II)Z"⟩
abbrev cX12_begin : ByteArray := prog_14_method_9_code
def yX12_begin : MethodName := ⟨RX12, "begin", "([II)V"⟩
abbrev cX12_many : ByteArray := prog_14_method_10_code
def yX12_many : MethodName := ⟨RX12, "many", "()I"⟩
abbrev cX12_isFamily : ByteArray := prog_14_method_11_code
def yX12_isFamily : MethodName := ⟨RX12, "isFamily", "(I)Z"⟩
abbrev cX12_isWord : ByteArray := prog_14_method_12_code
def yX12_isWord : MethodName := ⟨RX12, "isWord", "(I)Z"⟩
abbrev cX12_isBook : ByteArray := prog_14_method_13_code
def yX12_isBook : MethodName := ⟨RX12, "isBook", "(I)Z"⟩
abbrev cX12_isPewOf : ByteArray := prog_14_method_14_code
def yX12_isPewOf : MethodName := ⟨RX12, "isPewOf", "(II)Z"⟩
abbrev cX12_get : ByteArray := prog_14_method_15_code
def yX12_get : MethodName := ⟨RX12, "get", "(II)I"⟩
abbrev cX12_isTaken : ByteArray := prog_14_method_16_code
def yX12_isTaken : MethodName := ⟨RX12, "isTaken", "([II)Z"⟩
abbrev cX12_church : ByteArray := prog_14_method_17_code
def yX12_church : MethodName := ⟨RX12, "church", "(I)I"⟩
abbrev cX12_book : ByteArray := prog_14_method_18_code
def yX12_book : MethodName := ⟨RX12, "book", "(II)I"⟩
abbrev cX12_layFamily : ByteArray := prog_14_method_19_code
def yX12_layFamily : MethodName := ⟨RX12, "layFamily", "([IIIIII)V"⟩
abbrev cX12_family : ByteArray := prog_14_method_20_code
def yX12_family : MethodName := ⟨RX12, "family", "(IIIII)I"⟩
abbrev cX12_layHand : ByteArray := prog_14_method_21_code
def yX12_layHand : MethodName := ⟨RX12, "layHand", "()V"⟩
abbrev cX12_kneels : ByteArray := prog_14_method_22_code
def yX12_kneels : MethodName := ⟨RX12, "kneels", "(II)Z"⟩
abbrev cX12_high : ByteArray := prog_14_method_23_code
def yX12_high : MethodName := ⟨RX12, "high", "(II)I"⟩
abbrev cX12_voices : ByteArray := prog_14_method_24_code
def yX12_voices : MethodName := ⟨RX12, "voices", "(II)I"⟩
abbrev cX12_sees : ByteArray := prog_14_method_25_code
def yX12_sees : MethodName := ⟨RX12, "sees", "(II)Z"⟩
abbrev cX12_loudOf : ByteArray := prog_14_method_26_code
def yX12_loudOf : MethodName := ⟨RX12, "loudOf", "(II)I"⟩
abbrev cX12_isPeace : ByteArray := prog_14_method_27_code
def yX12_isPeace : MethodName := ⟨RX12, "isPeace", "(I)Z"⟩
abbrev cX12_peaces : ByteArray := prog_14_method_28_code
def yX12_peaces : MethodName := ⟨RX12, "peaces", "()I"⟩
abbrev cX12_keep : ByteArray := prog_14_method_29_code
def yX12_keep : MethodName := ⟨RX12, "keep", "()V"⟩
abbrev cX12_move : ByteArray := prog_14_method_30_code
def yX12_move : MethodName := ⟨RX12, "move", "(II)I"⟩
abbrev cX12_cold : ByteArray := prog_14_method_31_code
def yX12_cold : MethodName := ⟨RX12, "cold", "(II)I"⟩
abbrev cX12_manyColds : ByteArray := prog_14_method_32_code
def yX12_manyColds : MethodName := ⟨RX12, "manyColds", "()I"⟩
abbrev cX12_undo : ByteArray := prog_14_method_33_code
def yX12_undo : MethodName := ⟨RX12, "undo", "()I"⟩
abbrev cX12_of : ByteArray := prog_14_method_34_code
def yX12_of : MethodName := ⟨RX12, "of", "(II)I"⟩
abbrev cX12_at : ByteArray := prog_14_method_35_code
def yX12_at : MethodName := ⟨RX12, "at", "(III)I"⟩
abbrev cX12_up : ByteArray := prog_14_method_36_code
def yX12_up : MethodName := ⟨RX12, "up", "(I)I"⟩
abbrev cX12_seers : ByteArray := prog_14_method_37_code
def yX12_seers : MethodName := ⟨RX12, "seers", "(I)I"⟩
abbrev cX12_loud : ByteArray := prog_14_method_38_code
def yX12_loud : MethodName := ⟨RX12, "loud", "(II)I"⟩
abbrev cX12_breach : ByteArray := prog_14_method_39_code
def yX12_breach : MethodName := ⟨RX12, "breach", "(I)I"⟩
abbrev cX12_canNot : ByteArray := prog_14_method_40_code
def yX12_canNot : MethodName := ⟨RX12, "canNot", "()I"⟩
abbrev cX12_laySeats : ByteArray := prog_14_method_41_code
def yX12_laySeats : MethodName := ⟨RX12, "laySeats", "(I)Z"⟩
abbrev cX12_seeing : ByteArray := prog_14_method_42_code
def yX12_seeing : MethodName := ⟨RX12, "seeing", "()I"⟩
abbrev cX12_laySeating : ByteArray := prog_14_method_43_code
def yX12_laySeating : MethodName := ⟨RX12, "laySeating", "()V"⟩
abbrev cX12_seats : ByteArray := prog_14_method_44_code
def yX12_seats : MethodName := ⟨RX12, "seats", "(I)I"⟩
abbrev cX12_change : ByteArray := prog_14_method_45_code
def yX12_change : MethodName := ⟨RX12, "change", "(I)I"⟩
abbrev cX12_still : ByteArray := prog_14_method_46_code
def yX12_still : MethodName := ⟨RX12, "still", "()I"⟩
abbrev cX12_heard : ByteArray := prog_14_method_47_code
def yX12_heard : MethodName := ⟨RX12, "heard", "(III)I"⟩
abbrev cX12_forget : ByteArray := prog_14_method_48_code
def yX12_forget : MethodName := ⟨RX12, "forget", "()I"⟩
abbrev cX12_isHeardSo : ByteArray := prog_14_method_49_code
def yX12_isHeardSo : MethodName := ⟨RX12, "isHeardSo", "()Z"⟩
abbrev cX12_layMay : ByteArray := prog_14_method_50_code
def yX12_layMay : MethodName := ⟨RX12, "layMay", "()V"⟩
abbrev cX12_coughed : ByteArray := prog_14_method_51_code
def yX12_coughed : MethodName := ⟨RX12, "coughed", "(I)I"⟩
abbrev cX12_next : ByteArray := prog_14_method_52_code
def yX12_next : MethodName := ⟨RX12, "next", "()I"⟩
abbrev cX12_is : ByteArray := prog_14_method_53_code
def yX12_is : MethodName := ⟨RX12, "is", "(I)I"⟩
abbrev cX12_deaconOf : ByteArray := prog_14_method_54_code
def yX12_deaconOf : MethodName := ⟨RX12, "deaconOf", "(I)I"⟩
abbrev cX12_deacons : ByteArray := prog_14_method_55_code
def yX12_deacons : MethodName := ⟨RX12, "deacons", "(I)I"⟩
abbrev cX12_feasts : ByteArray := prog_14_method_56_code
def yX12_feasts : MethodName := ⟨RX12, "feasts", "(IIII)I"⟩
abbrev cX12_fraction : ByteArray := prog_14_method_57_code
def yX12_fraction : MethodName := ⟨RX12, "fraction", "(JJ)V"⟩
abbrev cX12_colds : ByteArray := prog_14_method_58_code
def yX12_colds : MethodName := ⟨RX12, "colds", "(II)I"⟩
abbrev cX12_sundays : ByteArray := prog_14_method_59_code
def yX12_sundays : MethodName := ⟨RX12, "sundays", "(II)I"⟩
abbrev cX12_type : ByteArray := prog_14_method_60_code
def yX12_type : MethodName := ⟨RX12, "type", "(I)I"⟩
abbrev cX12_clear : ByteArray := prog_14_method_61_code
def yX12_clear : MethodName := ⟨RX12, "clear", "()I"⟩
abbrev cX12_isSmall : ByteArray := prog_14_method_62_code
def yX12_isSmall : MethodName := ⟨RX12, "isSmall", "(I)Z"⟩
abbrev cX12_isFigure : ByteArray := prog_14_method_63_code
def yX12_isFigure : MethodName := ⟨RX12, "isFigure", "(I)Z"⟩
abbrev cX12_lookAt : ByteArray := prog_14_method_64_code
def yX12_lookAt : MethodName := ⟨RX12, "lookAt", "(I)V"⟩
abbrev cX12_goBehind : ByteArray := prog_14_method_65_code
def yX12_goBehind : MethodName := ⟨RX12, "goBehind", "()V"⟩
abbrev cX12_spells : ByteArray := prog_14_method_66_code
def yX12_spells : MethodName := ⟨RX12, "spells", "(IIIIIII)Z"⟩
abbrev cX12_takes : ByteArray := prog_14_method_67_code
def yX12_takes : MethodName := ⟨RX12, "takes", "(III)Z"⟩
abbrev cX12_takesChurch : ByteArray := prog_14_method_68_code
def yX12_takesChurch : MethodName := ⟨RX12, "takesChurch", "()Z"⟩
abbrev cX12_takesBook : ByteArray := prog_14_method_69_code
def yX12_takesBook : MethodName := ⟨RX12, "takesBook", "()Z"⟩
abbrev cX12_takesFamily : ByteArray := prog_14_method_70_code
def yX12_takesFamily : MethodName := ⟨RX12, "takesFamily", "()Z"⟩
abbrev cX12_takesCold : ByteArray := prog_14_method_71_code
def yX12_takesCold : MethodName := ⟨RX12, "takesCold", "()Z"⟩
abbrev cX12_takesItem : ByteArray := prog_14_method_72_code
def yX12_takesItem : MethodName := ⟨RX12, "takesItem", "()Z"⟩
abbrev cX12_read : ByteArray := prog_14_method_73_code
def yX12_read : MethodName := ⟨RX12, "read", "()I"⟩
abbrev cX12_part : ByteArray := prog_14_method_74_code
def yX12_part : MethodName := ⟨RX12, "part", "(I)J"⟩
abbrev cX12_image : ByteArray := prog_14_method_75_code
def yX12_image : MethodName := ⟨RX12, "image", "(I)I"⟩
abbrev cX12_from : ByteArray := prog_14_method_76_code
def yX12_from : MethodName := ⟨RX12, "from", "(I)I"⟩
abbrev cX12_status : ByteArray := prog_14_method_77_code
def yX12_status : MethodName := ⟨RX12, "status", "(I)I"⟩
abbrev cX12_counted : ByteArray := prog_14_method_78_code
def yX12_counted : MethodName := ⟨RX12, "counted", "(I)I"⟩
abbrev cX12_count : ByteArray := prog_14_method_79_code
def yX12_count : MethodName := ⟨RX12, "count", "(I)I"⟩
abbrev cX12_sums : ByteArray := prog_14_method_80_code
def yX12_sums : MethodName := ⟨RX12, "sums", "(JII)J"⟩
abbrev cX12_digest : ByteArray := prog_14_method_81_code
def yX12_digest : MethodName := ⟨RX12, "digest", "()J"⟩
def RJx145de : String := "java/io/Serializable"
def RJx9f9b0 : String := "java/lang/CharSequence"
def RJxb160c : String := "java/lang/Comparable"
def RJ6 : String := "java/lang/Integer"
abbrev cJ6_bitCount_0f7a4 : ByteArray := prog_15_method_49_code
def yJ6_bitCount_0f7a4 : MethodName := ⟨RJ6, "bitCount", "(I)I"⟩
def RJ9 : String := "java/lang/Math"
abbrev cJ9_abs_0f7a4 : ByteArray := prog_16_method_59_code
def yJ9_abs_0f7a4 : MethodName := ⟨RJ9, "abs", "(I)I"⟩
abbrev cJ9_max_7cf53 : ByteArray := prog_16_method_65_code
def yJ9_max_7cf53 : MethodName := ⟨RJ9, "max", "(II)I"⟩
abbrev cJ9_min_7cf53 : ByteArray := prog_16_method_69_code
def yJ9_min_7cf53 : MethodName := ⟨RJ9, "min", "(II)I"⟩
def RJ0 : String := "java/lang/String"
abbrev cJ0_length_8abf5 : ByteArray := prog_17_method_54_code
def yJ0_length_8abf5 : MethodName := ⟨RJ0, "length", "()I"⟩
abbrev cJ0_charAt_5068e : ByteArray := prog_17_method_56_code
def yJ0_charAt_5068e : MethodName := ⟨RJ0, "charAt", "(I)C"⟩
abbrev cJ0_coder_7d493 : ByteArray := prog_17_method_152_code
def yJ0_coder_7d493 : MethodName := ⟨RJ0, "coder", "()B"⟩
abbrev cJ0_isLatin1_aae02 : ByteArray := prog_17_method_154_code
def yJ0_isLatin1_aae02 : MethodName := ⟨RJ0, "isLatin1", "()Z"⟩
abbrev cJ0_checkIndex_df160 : ByteArray := prog_17_method_155_code
def yJ0_checkIndex_df160 : MethodName := ⟨RJ0, "checkIndex", "(II)V"⟩
def RJ1 : String := "java/lang/StringLatin1"
abbrev cJ1_charAt_3b067 : ByteArray := prog_18_method_2_code
def yJ1_charAt_3b067 : MethodName := ⟨RJ1, "charAt", "([BI)C"⟩
def RJ2 : String := "java/lang/StringUTF16"
abbrev cJ2_getChar_3b067 : ByteArray := prog_19_method_5_code
def yJ2_getChar_3b067 : MethodName := ⟨RJ2, "getChar", "([BI)C"⟩
abbrev cJ2_length_9d52b : ByteArray := prog_19_method_6_code
def yJ2_length_9d52b : MethodName := ⟨RJ2, "length", "([B)I"⟩
abbrev cJ2_charAt_3b067 : ByteArray := prog_19_method_83_code
def yJ2_charAt_3b067 : MethodName := ⟨RJ2, "charAt", "([BI)C"⟩
abbrev cJ2_checkIndex_2214a : ByteArray := prog_19_method_91_code
def yJ2_checkIndex_2214a : MethodName := ⟨RJ2, "checkIndex", "(I[B)V"⟩
def RJ10 : String := "java/lang/System"
def RJxfd54e : String := "java/lang/constant/Constable"
def RJx3cf43 : String := "java/lang/constant/ConstantDesc"
def RJ7 : String := "java/util/Arrays"
abbrev cJ7_fill_53178 : ByteArray := prog_21_method_103_code
def yJ7_fill_53178 : MethodName := ⟨RJ7, "fill", "([II)V"⟩
def RJ3 : String := "jdk/internal/util/Preconditions"
abbrev cJ3_checkIndex_8e157 : ByteArray := prog_22_method_11_code
def yJ3_checkIndex_8e157 : MethodName := ⟨RJ3, "checkIndex", "(IILjava/util/function/BiFunction;)I"⟩
def RL : String := "EveryPewLaw"
abbrev cL_law : ByteArray := code
end
section
/-! THE SMALL MACHINE. After the constructors have run no cell is made any more: the objects' references never change, only ints, booleans and longs do.
So the state is a memory (cell, place) → number, and a method's bytecode is a term of the rows i_.. below: 'what must hold so that the code from here on ends well'. -/
abbrev zM : Type := (Nat → Nat → Int32) × (Nat → Nat → Int64)
abbrev zQ : Type := Option Value → zM → Prop
abbrev zK : Type := List Value → List Value → zM → Prop
abbrev zTy : Type := List Value → zM → zQ → Prop
def zLay : List (Nat × Nat × List Nat) := [(2, 11, [3, 15, 51, 52, 53, 55, 70, 73, 76, 1, 1]), (2, 1, [0, 4, 0, 5, 6, 7, 8, 9, 0, 0, 10, 11, 12, 0, 13, 14]), (0, 2, []), (0, 7, []), (0, 7, []), (0, 7, []), (0, 7, []), (0, 7, []), (0, 6, []), (0, 6, []), (0, 6, []), (0, 56, []), (0, 8, []), (2, 1, [0, 16, 0, 17, 18, 19, 20, 21, 0, 0, 22, 23, 24, 0, 25, 26]), (0, 2, []), (0, 7, []), (0, 7, []), (0, 7, []), (0, 7, []), (0, 7, []), (0, 6, []), (0, 6, []), (0, 6, []), (0, 56, []), (0, 8, []), (2, 1, [0, 28, 0, 29, 30, 31, 32, 33, 0, 0, 34, 35, 36, 0, 37, 38]), (0, 2, []), (0, 7, []), (0, 7, []), (0, 7, []), (0, 7, []), (0, 7, []), (0, 6, []), (0, 6, []), (0, 6, []), (0, 56, []), (0, 8, []), (2, 1, [0, 40, 0, 41, 42, 43, 44, 45, 0, 0, 46, 47, 48, 0, 49, 50]), (0, 2, []), (0, 7, []), (0, 7, []), (0, 7, []), (0, 7, []), (0, 7, []), (0, 6, []), (0, 6, []), (0, 6, []), (0, 56, []), (0, 8, []), (3, 2, [25, 37]), (1, 2, []), (2, 9, [54, 0, 0, 0, 0, 0]), (0, 150, []), (2, 8, [56, 0, 0, 63, 64, 65, 66, 67, 68, 69]), (4, 6, [55, 56, 57, 58, 59, 60]), (2, 6, []), (2, 5, []), (2, 2, []), (2, 4, []), (2, 0, []), (2, 10, []), (0, 7, []), (0, 7, []), (1, 28, []), (0, 28, []), (0, 28, []), (0, 16, []), (0, 4, []), (2, 7, [71, 72, 0]), (0, 128, []), (0, 512, []), (2, 3, [74, 75, 0, 0, 0, 0]), (1, 128, []), (0, 141, []), (0, 3, []), (2, 12, [78, 79, 80, 81, 1, 1, 82, 83, 84, 0, 85, 86, 0, 87, 0, 88, 89, 90, 0, 0, 0, 0, 0, 91, 92]), (0, 178, []), (0, 356, []), (1, 2, []), (0, 3, []), (0, 7, []), (0, 7, []), (0, 7, []), (0, 112, []), (0, 7, []), (1, 128, []), (0, 141, []), (0, 4, []), (0, 150, []), (0, 66, []), (0, 5, []), (7, 7, []), (5, 0, []), (5, 1, []), (5, 2, []), (5, 3, []), (6, 0, []), (6, 1, []), (6, 2, []), (6, 3, [])]
def zN : Nat := 91
def zlay (k : Nat) : Nat × Nat × List Nat := zLay.getD k (9, 0, [])
def zil (k : Nat) : Nat := match zlay k with | (0, n, _) => n | _ => 0
def zbl (k : Nat) : Nat := match zlay k with | (1, n, _) => n | _ => 0
def zoc (k : Nat) : Nat := match zlay k with | (2, n, _) => n | _ => 99
def zft (k j : Nat) : Nat := match zlay k with | (2, _, l) => l.getD j 0 | _ => 0
def zrl (k : Nat) : Nat := match zlay k with | (3, _, l) => l.length | (4, _, l) => l.length | _ => 0
def zrt (k j : Nat) : Nat := match zlay k with | (3, _, l) => l.getD j 0 | (4, _, l) => l.getD j 0 | _ => 0
def zsi (k : Nat) : Nat := match zlay k with | (5, i, _) => i + 1 | _ => 0
def zvi (k : Nat) : Nat := match zlay k with | (6, i, _) => i + 1 | _ => 0
theorem zoc_0 : zoc 0 = 11 := rfl
theorem zft_0_0 : zft 0 0 = 3 := rfl
theorem zft_0_1 : zft 0 1 = 15 := rfl
theorem zft_0_2 : zft 0 2 = 51 := rfl
theorem zft_0_3 : zft 0 3 = 52 := rfl
theorem zft_0_4 : zft 0 4 = 53 := rfl
theorem zft_0_5 : zft 0 5 = 55 := rfl
theorem zft_0_6 : zft 0 6 = 70 := rfl
theorem zft_0_7 : zft 0 7 = 73 := rfl
theorem zft_0_8 : zft 0 8 = 76 := rfl
theorem zft_0_9 : zft 0 9 = 1 := rfl
theorem zft_0_10 : zft 0 10 = 1 := rfl
theorem zoc_1 : zoc 1 = 1 := rfl
theorem zft_1_0 : zft 1 0 = 0 := rfl
theorem zft_1_1 : zft 1 1 = 4 := rfl
theorem zft_1_2 : zft 1 2 = 0 := rfl
theorem zft_1_3 : zft 1 3 = 5 := rfl
theorem zft_1_4 : zft 1 4 = 6 := rfl
theorem zft_1_5 : zft 1 5 = 7 := rfl
theorem zft_1_6 : zft 1 6 = 8 := rfl
theorem zft_1_7 : zft 1 7 = 9 := rfl
theorem zft_1_8 : zft 1 8 = 0 := rfl
theorem zft_1_9 : zft 1 9 = 0 := rfl
theorem zft_1_10 : zft 1 10 = 10 := rfl
theorem zft_1_11 : zft 1 11 = 11 := rfl
theorem zft_1_12 : zft 1 12 = 12 := rfl
theorem zft_1_13 : zft 1 13 = 0 := rfl
theorem zft_1_14 : zft 1 14 = 13 := rfl
theorem zft_1_15 : zft 1 15 = 14 := rfl
theorem zil_2 : zil 2 = 2 := rfl
theorem zil_3 : zil 3 = 7 := rfl
theorem zil_4 : zil 4 = 7 := rfl
theorem zil_5 : zil 5 = 7 := rfl
theorem zil_6 : zil 6 = 7 := rfl
theorem zil_7 : zil 7 = 7 := rfl
theorem zil_8 : zil 8 = 6 := rfl
theorem zil_9 : zil 9 = 6 := rfl
theorem zil_10 : zil 10 = 6 := rfl
theorem zil_11 : zil 11 = 56 := rfl
theorem zil_12 : zil 12 = 8 := rfl
theorem zoc_13 : zoc 13 = 1 := rfl
theorem zft_13_0 : zft 13 0 = 0 := rfl
theorem zft_13_1 : zft 13 1 = 16 := rfl
theorem zft_13_2 : zft 13 2 = 0 := rfl
theorem zft_13_3 : zft 13 3 = 17 := rfl
theorem zft_13_4 : zft 13 4 = 18 := rfl
theorem zft_13_5 : zft 13 5 = 19 := rfl
theorem zft_13_6 : zft 13 6 = 20 := rfl
theorem zft_13_7 : zft 13 7 = 21 := rfl
theorem zft_13_8 : zft 13 8 = 0 := rfl
theorem zft_13_9 : zft 13 9 = 0 := rfl
theorem zft_13_10 : zft 13 10 = 22 := rfl
theorem zft_13_11 : zft 13 11 = 23 := rfl
theorem zft_13_12 : zft 13 12 = 24 := rfl
theorem zft_13_13 : zft 13 13 = 0 := rfl
theorem zft_13_14 : zft 13 14 = 25 := rfl
theorem zft_13_15 : zft 13 15 = 26 := rfl
theorem zil_14 : zil 14 = 2 := rfl
theorem zil_15 : zil 15 = 7 := rfl
theorem zil_16 : zil 16 = 7 := rfl
theorem zil_17 : zil 17 = 7 := rfl
theorem zil_18 : zil 18 = 7 := rfl
theorem zil_19 : zil 19 = 7 := rfl
theorem zil_20 : zil 20 = 6 := rfl
theorem zil_21 : zil 21 = 6 := rfl
theorem zil_22 : zil 22 = 6 := rfl
theorem zil_23 : zil 23 = 56 := rfl
theorem zil_24 : zil 24 = 8 := rfl
theorem zoc_25 : zoc 25 = 1 := rfl
theorem zft_25_0 : zft 25 0 = 0 := rfl
theorem zft_25_1 : zft 25 1 = 28 := rfl
theorem zft_25_2 : zft 25 2 = 0 := rfl
theorem zft_25_3 : zft 25 3 = 29 := rfl
theorem zft_25_4 : zft 25 4 = 30 := rfl
theorem zft_25_5 : zft 25 5 = 31 := rfl
theorem zft_25_6 : zft 25 6 = 32 := rfl
theorem zft_25_7 : zft 25 7 = 33 := rfl
theorem zft_25_8 : zft 25 8 = 0 := rfl
theorem zft_25_9 : zft 25 9 = 0 := rfl
theorem zft_25_10 : zft 25 10 = 34 := rfl
theorem zft_25_11 : zft 25 11 = 35 := rfl
theorem zft_25_12 : zft 25 12 = 36 := rfl
theorem zft_25_13 : zft 25 13 = 0 := rfl
theorem zft_25_14 : zft 25 14 = 37 := rfl
theorem zft_25_15 : zft 25 15 = 38 := rfl
theorem zil_26 : zil 26 = 2 := rfl
theorem zil_27 : zil 27 = 7 := rfl
theorem zil_28 : zil 28 = 7 := rfl
theorem zil_29 : zil 29 = 7 := rfl
theorem zil_30 : zil 30 = 7 := rfl
theorem zil_31 : zil 31 = 7 := rfl
theorem zil_32 : zil 32 = 6 := rfl
theorem zil_33 : zil 33 = 6 := rfl
theorem zil_34 : zil 34 = 6 := rfl
theorem zil_35 : zil 35 = 56 := rfl
theorem zil_36 : zil 36 = 8 := rfl
theorem zoc_37 : zoc 37 = 1 := rfl
theorem zft_37_0 : zft 37 0 = 0 := rfl
theorem zft_37_1 : zft 37 1 = 40 := rfl
theorem zft_37_2 : zft 37 2 = 0 := rfl
theorem zft_37_3 : zft 37 3 = 41 := rfl
theorem zft_37_4 : zft 37 4 = 42 := rfl
theorem zft_37_5 : zft 37 5 = 43 := rfl
theorem zft_37_6 : zft 37 6 = 44 := rfl
theorem zft_37_7 : zft 37 7 = 45 := rfl
theorem zft_37_8 : zft 37 8 = 0 := rfl
theorem zft_37_9 : zft 37 9 = 0 := rfl
theorem zft_37_10 : zft 37 10 = 46 := rfl
theorem zft_37_11 : zft 37 11 = 47 := rfl
theorem zft_37_12 : zft 37 12 = 48 := rfl
theorem zft_37_13 : zft 37 13 = 0 := rfl
theorem zft_37_14 : zft 37 14 = 49 := rfl
theorem zft_37_15 : zft 37 15 = 50 := rfl
theorem zil_38 : zil 38 = 2 := rfl
theorem zil_39 : zil 39 = 7 := rfl
theorem zil_40 : zil 40 = 7 := rfl
theorem zil_41 : zil 41 = 7 := rfl
theorem zil_42 : zil 42 = 7 := rfl
theorem zil_43 : zil 43 = 7 := rfl
theorem zil_44 : zil 44 = 6 := rfl
theorem zil_45 : zil 45 = 6 := rfl
theorem zil_46 : zil 46 = 6 := rfl
theorem zil_47 : zil 47 = 56 := rfl
theorem zil_48 : zil 48 = 8 := rfl
theorem zrl_49 : zrl 49 = 2 := rfl
theorem zbl_50 : zbl 50 = 2 := rfl
theorem zoc_51 : zoc 51 = 9 := rfl
theorem zft_51_0 : zft 51 0 = 54 := rfl
theorem zft_51_1 : zft 51 1 = 0 := rfl
theorem zft_51_2 : zft 51 2 = 0 := rfl
theorem zft_51_3 : zft 51 3 = 0 := rfl
theorem zft_51_4 : zft 51 4 = 0 := rfl
theorem zft_51_5 : zft 51 5 = 0 := rfl
theorem zil_52 : zil 52 = 150 := rfl
theorem zoc_53 : zoc 53 = 8 := rfl
theorem zft_53_0 : zft 53 0 = 56 := rfl
theorem zft_53_1 : zft 53 1 = 0 := rfl
theorem zft_53_2 : zft 53 2 = 0 := rfl
theorem zft_53_3 : zft 53 3 = 63 := rfl
theorem zft_53_4 : zft 53 4 = 64 := rfl
theorem zft_53_5 : zft 53 5 = 65 := rfl
theorem zft_53_6 : zft 53 6 = 66 := rfl
theorem zft_53_7 : zft 53 7 = 67 := rfl
theorem zft_53_8 : zft 53 8 = 68 := rfl
theorem zft_53_9 : zft 53 9 = 69 := rfl
theorem zrl_54 : zrl 54 = 6 := rfl
theorem zoc_55 : zoc 55 = 6 := rfl
theorem zoc_56 : zoc 56 = 5 := rfl
theorem zoc_57 : zoc 57 = 2 := rfl
theorem zoc_58 : zoc 58 = 4 := rfl
theorem zoc_59 : zoc 59 = 0 := rfl
theorem zoc_60 : zoc 60 = 10 := rfl
theorem zil_61 : zil 61 = 7 := rfl
theorem zil_62 : zil 62 = 7 := rfl
theorem zbl_63 : zbl 63 = 28 := rfl
theorem zil_64 : zil 64 = 28 := rfl
theorem zil_65 : zil 65 = 28 := rfl
theorem zil_66 : zil 66 = 16 := rfl
theorem zil_67 : zil 67 = 4 := rfl
theorem zoc_68 : zoc 68 = 7 := rfl
theorem zft_68_0 : zft 68 0 = 71 := rfl
theorem zft_68_1 : zft 68 1 = 72 := rfl
theorem zft_68_2 : zft 68 2 = 0 := rfl
theorem zil_69 : zil 69 = 128 := rfl
theorem zil_70 : zil 70 = 512 := rfl
theorem zoc_71 : zoc 71 = 3 := rfl
theorem zft_71_0 : zft 71 0 = 74 := rfl
theorem zft_71_1 : zft 71 1 = 75 := rfl
theorem zft_71_2 : zft 71 2 = 0 := rfl
theorem zft_71_3 : zft 71 3 = 0 := rfl
theorem zft_71_4 : zft 71 4 = 0 := rfl
theorem zft_71_5 : zft 71 5 = 0 := rfl
theorem zbl_72 : zbl 72 = 128 := rfl
theorem zil_73 : zil 73 = 141 := rfl
theorem zil_74 : zil 74 = 3 := rfl
theorem zoc_75 : zoc 75 = 12 := rfl
theorem zft_75_0 : zft 75 0 = 78 := rfl
theorem zft_75_1 : zft 75 1 = 79 := rfl
theorem zft_75_2 : zft 75 2 = 80 := rfl
theorem zft_75_3 : zft 75 3 = 81 := rfl
theorem zft_75_4 : zft 75 4 = 1 := rfl
theorem zft_75_5 : zft 75 5 = 1 := rfl
theorem zft_75_6 : zft 75 6 = 82 := rfl
theorem zft_75_7 : zft 75 7 = 83 := rfl
theorem zft_75_8 : zft 75 8 = 84 := rfl
theorem zft_75_9 : zft 75 9 = 0 := rfl
theorem zft_75_10 : zft 75 10 = 85 := rfl
theorem zft_75_11 : zft 75 11 = 86 := rfl
theorem zft_75_12 : zft 75 12 = 0 := rfl
theorem zft_75_13 : zft 75 13 = 87 := rfl
theorem zft_75_14 : zft 75 14 = 0 := rfl
theorem zft_75_15 : zft 75 15 = 88 := rfl
theorem zft_75_16 : zft 75 16 = 89 := rfl
theorem zft_75_17 : zft 75 17 = 90 := rfl
theorem zft_75_18 : zft 75 18 = 0 := rfl
theorem zft_75_19 : zft 75 19 = 0 := rfl
theorem zft_75_20 : zft 75 20 = 0 := rfl
theorem zft_75_21 : zft 75 21 = 0 := rfl
theorem zft_75_22 : zft 75 22 = 0 := rfl
theorem zft_75_23 : zft 75 23 = 91 := rfl
theorem zft_75_24 : zft 75 24 = 92 := rfl
theorem zil_76 : zil 76 = 178 := rfl
theorem zil_77 : zil 77 = 356 := rfl
theorem zbl_78 : zbl 78 = 2 := rfl
theorem zil_79 : zil 79 = 3 := rfl
theorem zil_80 : zil 80 = 7 := rfl
theorem zil_81 : zil 81 = 7 := rfl
theorem zil_82 : zil 82 = 7 := rfl
theorem zil_83 : zil 83 = 112 := rfl
theorem zil_84 : zil 84 = 7 := rfl
theorem zbl_85 : zbl 85 = 128 := rfl
theorem zil_86 : zil 86 = 141 := rfl
theorem zil_87 : zil 87 = 4 := rfl
theorem zil_88 : zil 88 = 150 := rfl
theorem zil_89 : zil 89 = 66 := rfl
theorem zil_90 : zil 90 = 5 := rfl
theorem zsi_92 : zsi 92 = 1 := rfl
theorem zsi_93 : zsi 93 = 2 := rfl
theorem zsi_94 : zsi 94 = 3 := rfl
theorem zsi_95 : zsi 95 = 4 := rfl
theorem zvi_96 : zvi 96 = 1 := rfl
theorem zvi_97 : zvi 97 = 2 := rfl
theorem zvi_98 : zvi 98 = 3 := rfl
theorem zvi_99 : zvi 99 = 4 := rfl
-- the memory's writes
def zput (σ : zM) (k j : Nat) (v : Int32) : zM := (fun a b => if a = k then (if b = j then v else σ.1 a b) else σ.1 a b, σ.2)
def zputl (σ : zM) (k j : Nat) (v : Int64) : zM := (σ.1, fun a b => if a = k then (if b = j then v else σ.2 a b) else σ.2 a b)
def zcpy (σ : zM) (o d sp dp n : Nat) : zM := (fun a => if a = d then va_cpy (σ.1 o) (σ.1 d) sp dp n else σ.1 a, σ.2)
-- locals: place by place; null means 'nothing known'
def zget : List Value → Nat → Value
  | [], _ => .null
  | v :: _, 0 => v
  | _ :: l, n + 1 => zget l n
def zcl : Nat → Value → Value
  | 0, .long _ => .null
  | 0, .double _ => .null
  | _, v => v
def zst : List Value → Nat → Value → List Value
  | [], 0, v => [v]
  | [], n + 1, v => .null :: zst [] n v
  | _ :: l, 0, v => v :: l
  | x :: l, n + 1, v => zcl n x :: zst l n v
def zstl : List Value → Nat → Value → List Value
  | [], 0, v => [v, .null]
  | [], n + 1, v => .null :: zstl [] n v
  | [_], 0, v => [v, .null]
  | _ :: _ :: l, 0, v => v :: .null :: l
  | x :: l, n + 1, v => zcl n x :: zstl l n v
def zkp : List Bool → List Value → List Value
  | [], _ => []
  | _ :: m, [] => .null :: zkp m []
  | true :: m, v :: l => v :: zkp m l
  | false :: m, _ :: l => .null :: zkp m l
def zlc : List Value → List Value
  | [] => []
  | .long x :: l => .long x :: .null :: zlc l
  | .double x :: l => .double x :: .null :: zlc l
  | v :: l => v :: zlc l
def zsp : Nat → List Value → List Value → Option (List Value × List Value)
  | 0, acc, st => some (acc, st)
  | n + 1, acc, v :: st => zsp n (v :: acc) st
  | _ + 1, _, [] => none
def zsm : List Value → Bool
  | [] => true
  | [_] => true
  | [_, _] => true
  | [_, _, _] => true
  | [_, _, _, _] => true
  | _ => false
def zvl : Option Value → List Value → List Value
  | none, r => r
  | some v, r => v :: r
-- instructions
def i_ic (v : Int32) (k : zK) : zK := fun ls st σ => k ls (.int v :: st) σ
def i_lc (v : Int64) (k : zK) : zK := fun ls st σ => k ls (.long v :: st) σ
def i_il (n : Nat) (k : zK) : zK := fun ls st σ => match zget ls n with | .int x => k ls (.int x :: st) σ | _ => False
def i_ll (n : Nat) (k : zK) : zK := fun ls st σ => match zget ls n with | .long x => k ls (.long x :: st) σ | _ => False
def i_al (n : Nat) (k : zK) : zK := fun ls st σ => match zget ls n with | .ref x => k ls (.ref x :: st) σ | _ => False
def i_is (n : Nat) (k : zK) : zK := fun ls st σ => match st with | .int x :: r => k (zst ls n (.int x)) r σ | _ => False
def i_lst (n : Nat) (k : zK) : zK := fun ls st σ => match st with | .long x :: r => k (zstl ls n (.long x)) r σ | _ => False
def i_as (n : Nat) (k : zK) : zK := fun ls st σ => match st with | .ref x :: r => k (zst ls n (.ref x)) r σ | _ => False
def i_inc (n : Nat) (d : Int32) (k : zK) : zK := fun ls st σ => match zget ls n with | .int x => k (zst ls n (.int (x + d))) st σ | _ => False
def i_ib (f : Int32 → Int32 → Int32) (k : zK) : zK := fun ls st σ => match st with | .int y :: .int x :: r => k ls (.int (f x y) :: r) σ | _ => False
def i_iu (f : Int32 → Int32) (k : zK) : zK := fun ls st σ => match st with | .int x :: r => k ls (.int (f x) :: r) σ | _ => False
def i_idiv (k : zK) : zK := fun ls st σ => match st with | .int y :: .int x :: r => ¬ y = 0 ∧ k ls (.int (x / y) :: r) σ | _ => False
def i_irem (k : zK) : zK := fun ls st σ => match st with | .int y :: .int x :: r => ¬ y = 0 ∧ k ls (.int (x - x / y * y) :: r) σ | _ => False
def i_lb (f : Int64 → Int64 → Int64) (k : zK) : zK := fun ls st σ => match st with | .long y :: .long x :: r => k ls (.long (f x y) :: r) σ | _ => False
def i_ldiv (k : zK) : zK := fun ls st σ => match st with | .long y :: .long x :: r => ¬ y = 0 ∧ k ls (.long (x / y) :: r) σ | _ => False
def i_lrem (k : zK) : zK := fun ls st σ => match st with | .long y :: .long x :: r => ¬ y = 0 ∧ k ls (.long (x - x / y * y) :: r) σ | _ => False
def i_lcmp (k : zK) : zK := fun ls st σ => match st with | .long y :: .long x :: r => k ls (.int (lg_cmp x y) :: r) σ | _ => False
def i_i2l (k : zK) : zK := fun ls st σ => match st with | .int x :: r => k ls (.long x.toInt64 :: r) σ | _ => False
def i_dup (k : zK) : zK := fun ls st σ => match st with | .int x :: r => k ls (.int x :: .int x :: r) σ | .ref x :: r => k ls (.ref x :: .ref x :: r) σ | _ => False
def i_dup2 (k : zK) : zK := fun ls st σ => match st with | .int i :: .ref a :: r => k ls (.int i :: .ref a :: .int i :: .ref a :: r) σ | _ => False
def i_pop (k : zK) : zK := fun ls st σ => match st with | .int _ :: r => k ls r σ | _ => False
def i_if (c d : Int32 → Prop) (kt kf : zK) : zK := fun ls st σ => match st with | .int x :: r => (c x → kt ls r σ) ∧ (d x → kf ls r σ) | _ => False
def i_cmp (c d : Int32 → Int32 → Prop) (kt kf : zK) : zK := fun ls st σ => match st with | .int y :: .int x :: r => (c x y → kt ls r σ) ∧ (d x y → kf ls r σ) | _ => False
def i_jmp (X : Nat → zK) (b : Nat) (mk : List Bool) : zK := fun ls st σ => X b (zkp mk ls) st σ
def zsw (x : Int32) (ls r : List Value) (σ : zM) : List (Int32 × zK) → Prop
  | [] => True
  | (k, t) :: l => (x = k → t ls r σ) ∧ zsw x ls r σ l
def zne (x : Int32) : List (Int32 × zK) → Prop
  | [] => True
  | (k, _) :: l => ¬ x = k ∧ zne x l
def i_sw (ps : List (Int32 × zK)) (df : zK) : zK := fun ls st σ => match st with | .int x :: r => zsw x ls r σ ps ∧ (zne x ps → df ls r σ) | _ => False
def zfld (σ : zM) (o j : Nat) : Nat → Value
  | 0 => .int (σ.1 o j)
  | 1 => .long (σ.2 o j)
  | t + 2 => .ref t
def i_gf (ci j : Nat) (k : zK) : zK := fun ls st σ => match st with | .ref o :: r => cond (Nat.beq (zoc o) ci) (k ls (zfld σ o j (zft o j) :: r) σ) False | _ => False
def i_pf (ci j : Nat) (k : zK) : zK := fun ls st σ => match st with | .int x :: .ref o :: r => cond (Nat.beq (zoc o) ci && Nat.beq (zft o j) 0) (k ls r (zput σ o j x)) False | _ => False
def i_pfl (ci j : Nat) (k : zK) : zK := fun ls st σ => match st with | .long x :: .ref o :: r => cond (Nat.beq (zoc o) ci && Nat.beq (zft o j) 1) (k ls r (zputl σ o j x)) False | _ => False
def i_ia (k : zK) : zK := fun ls st σ => match st with | .int i :: .ref o :: r => vp_in i (zil o) ∧ k ls (.int (σ.1 o i.toNatClampNeg) :: r) σ | _ => False
def i_ba (k : zK) : zK := fun ls st σ => match st with | .int i :: .ref o :: r => vp_in i (zbl o) ∧ k ls (.int (σ.1 o i.toNatClampNeg) :: r) σ | _ => False
def i_aa (k : zK) : zK := fun ls st σ => match st with | .int i :: .ref o :: r => vp_in i (zrl o) ∧ k ls (.ref (zrt o i.toNatClampNeg) :: r) σ | _ => False
def i_iast (k : zK) : zK := fun ls st σ => match st with | .int x :: .int i :: .ref o :: r => vp_in i (zil o) ∧ k ls r (zput σ o i.toNatClampNeg x) | _ => False
def i_bast (k : zK) : zK := fun ls st σ => match st with | .int x :: .int i :: .ref o :: r => vp_in i (zbl o) ∧ (x = 0 ∨ x = 1) ∧ k ls r (zput σ o i.toNatClampNeg x) | _ => False
def i_len (k : zK) : zK := fun ls st σ => match st with | .ref o :: r => cond (!(Nat.beq (zil o) 0)) (k ls (.int (nI (zil o)) :: r) σ) False | _ => False
def i_cp (k : zK) : zK := fun ls st σ => match st with
  | .int n :: .int dp :: .ref d :: .int sp :: .ref o :: r => cond (zsm r && (!(Nat.beq (zil o) 0) && !(Nat.beq (zil d) 0))) ((¬ sp < 0 ∧ ¬ dp < 0 ∧ ¬ n < 0) ∧ (sp.toNatClampNeg + n.toNatClampNeg ≤ zil o ∧ dp.toNatClampNeg + n.toNatClampNeg ≤ zil d) ∧ k ls r (zcpy σ o d sp.toNatClampNeg dp.toNatClampNeg n.toNatClampNeg)) False
  | _ => False
-- the static table FIGURE_OF, String constants
def zfigs : List Int32 := [1000000, 100000, 10000, 1000, 100, 10, 1]
def ztxt : List (List Int32) := [[99, 104, 117, 114, 99, 104], [98, 111, 111, 107], [102, 97, 109, 105, 108, 121], [99, 111, 108, 100]]
def i_gfig (k : zK) : zK := fun ls st σ => k ls (.ref 91 :: st) σ
def i_fig (k : zK) : zK := fun ls st σ => match st with | .int i :: .ref o :: r => cond (Nat.beq o 91) (vp_in i 7 ∧ k ls (.int (zfigs.getD i.toNatClampNeg 0) :: r) σ) False | _ => False
def i_str (i : Nat) (k : zK) : zK := fun ls st σ => k ls (.ref (92 + i) :: st) σ
def i_gval (k : zK) : zK := fun ls st σ => match st with | .ref o :: r => cond (!(Nat.beq (zsi o) 0)) (k ls (.ref (95 + zsi o) :: r) σ) False | _ => False
def i_gcod (k : zK) : zK := fun ls st σ => match st with | .ref o :: r => cond (!(Nat.beq (zsi o) 0)) (k ls (.int 0 :: r) σ) False | _ => False
def i_by (k : zK) : zK := fun ls st σ => match st with | .int i :: .ref o :: r => cond (!(Nat.beq (zvi o) 0)) (vp_in i (ztxt.getD (zvi o - 1) []).length ∧ k ls (.int ((ztxt.getD (zvi o - 1) []).getD i.toNatClampNeg 0) :: r) σ) False | _ => False
def i_blen (k : zK) : zK := fun ls st σ => match st with | .ref o :: r => cond (!(Nat.beq (zvi o) 0)) (k ls (.int (nI (ztxt.getD (zvi o - 1) []).length) :: r) σ) False | _ => False
def i_mmax (k : zK) : zK := fun ls st σ => match st with | .int y :: .int x :: r => cond (zsm r) (k ls (.int (if x < y then y else x) :: r) σ) False | _ => False
def i_mmin (k : zK) : zK := fun ls st σ => match st with | .int y :: .int x :: r => cond (zsm r) (k ls (.int (if y < x then y else x) :: r) σ) False | _ => False
def i_mabs (k : zK) : zK := fun ls st σ => match st with | .int x :: r => cond (zsm r) (k ls (.int (if 0 ≤ x then x else 0 - x) :: r) σ) False | _ => False
-- calls
def i_call (n : Nat) (T : zTy) (k : zK) : zK := fun ls st σ => match zsp n [] st with | some (vs, r) => cond (zsm r) (T vs σ (fun v τ => k ls (zvl v r) τ)) False | none => False
def i_cv (ci n : Nat) (T : zTy) (k : zK) : zK := fun ls st σ => match zsp n [] st with | some (.ref o :: vs, r) => cond (Nat.beq (zoc o) ci && zsm r) (T (.ref o :: vs) σ (fun v τ => k ls (zvl v r) τ)) False | _ => False
def i_cd (n : Nat) (T : Nat → zTy) (k : zK) : zK := fun ls st σ => match zsp n [] st with | some (.ref o :: vs, r) => cond (zsm r) (T (zoc o) (.ref o :: vs) σ (fun v τ => k ls (zvl v r) τ)) False | _ => False
def i_cs (n : Nat) (T : zTy) (k : zK) : zK := fun ls st σ => match zsp n [] st with | some (.ref o :: vs, r) => cond (!(Nat.beq (zsi o) 0) && zsm r) (T (.ref o :: vs) σ (fun v τ => k ls (zvl v r) τ)) False | _ => False
def i_cu (n : Nat) (T : zTy) (k : zK) : zK := fun ls st σ => match zsp n [] st with | some (.ref o :: vs, r) => cond (!(Nat.beq (zoc o) 99) && zsm r) (T (.ref o :: vs) σ (fun v τ => k ls (zvl v r) τ)) False | _ => False
-- returns
def i_ir (Q : zQ) : zK := fun _ st σ => match st with | [.int v] => Q (some (.int v)) σ | _ => False
def i_zr (Q : zQ) : zK := fun _ st σ => match st with | [.int v] => (v = 0 ∨ v = 1) ∧ Q (some (.int v)) σ | _ => False
def i_nr (ty : FieldType) (Q : zQ) : zK := fun _ st σ => match st with | [.int v] => narrow ty (.int v) = .int v ∧ Q (some (.int v)) σ | _ => False
def i_lr (Q : zQ) : zK := fun _ st σ => match st with | [.long v] => Q (some (.long v)) σ | _ => False
def i_vr (Q : zQ) : zK := fun _ st σ => match st with | [] => Q none σ | _ => False
-- a method out of its blocks: the least solution
def zFix (F : (Nat → zK) → Nat → zK) : Nat → zK := fun b ls st σ => ∀ X : Nat → zK, (∀ Y : Nat → zK, (∀ b ls st σ, Y b ls st σ → X b ls st σ) → ∀ b ls st σ, F Y b ls st σ → X b ls st σ) → X b ls st σ
theorem zFix_in {F : (Nat → zK) → Nat → zK} {b : Nat} {ls st : List Value} {σ : zM} (h : F (zFix F) b ls st σ) : zFix F b ls st σ := fun X hX => hX (zFix F) (fun _ _ _ _ h => h X hX) b ls st σ h
theorem zcd {c : Bool} {P : Prop} (h : cond c P False) : c = true ∧ P := by
  cases c with
  | false => exact h.elim
  | true => exact ⟨rfl, h⟩
theorem zcd2 {c d : Bool} {P : Prop} (h : cond (c && d) P False) : c = true ∧ d = true ∧ P := by
  obtain ⟨h1, h2⟩ := zcd h
  have h3 := Bool.and_eq_true_iff.mp h1
  exact ⟨h3.1, h3.2, h2⟩
theorem zbe {a b : Nat} (h : Nat.beq a b = true) : a = b := Nat.eq_of_beq_eq_true h
theorem znb {a b : Nat} (h : (!(Nat.beq a b)) = true) : ¬ a = b := by
  intro e
  subst e
  rw [show Nat.beq a a = true from Nat.beq_refl a] at h
  cases h
theorem zci {c : Bool} {P : Prop} (hc : c = true) (h : P) : cond c P False := by subst hc; exact h
theorem zbr (a : Nat) : Nat.beq a a = true := Nat.beq_refl a
theorem zbb {a b : Nat} (h : a = b) : Nat.beq a b = true := by subst h; exact Nat.beq_refl a
theorem zbn {a b : Nat} (h : ¬ a = b) : (!(Nat.beq a b)) = true := by
  cases hb : Nat.beq a b with
  | false => rfl
  | true => exact absurd (Nat.eq_of_beq_eq_true hb) h
end
section
/-! The small machine's memory as cells of the heap, its locals as the frame's; the words that all methods share. -/
def zAll : List Cond := lw_tbl.filter goodWord
theorem zin {w : Cond} (h : w ∈ lw_tbl) (g : goodWord w = true) : w ∈ zAll := List.mem_filter.mpr ⟨h, g⟩
theorem zti {w : Cond} (i : Nat) (h : tables_1[i]? = some w) (g : goodWord w = true) : w ∈ zAll := zin (List.mem_append_right _ (List.mem_of_getElem? h)) g
theorem zgood {l : List Cond} (h : ∀ w ∈ l, w ∈ zAll) : GoodIn zAll l := fun w hw => ⟨h w hw, good_of_word (List.mem_filter.mp (h w hw)).2⟩
abbrev zCl : List vw_C := [(RX0, TX0, 0), (RX1, TX1, 16), (RX2, TX2, 0), (RX3, TX3, 6), (RX4, TX4, 0), (RX5, TX5, 0), (RX6, TX6, 0), (RX7, TX7, 3), (RX8, TX8, 10), (RX9, TX9, 6), (RX10, TX10, 0), (RX11, TX11, 11), (RX12, TX12, 25)]
abbrev zIds : Type := ClassId × ClassId × ClassId × ClassId
abbrev zTys (ids : zIds) : List (ClassId × FieldType) := [(ids.1, .int), (ids.2.1, .boolean), (ids.2.2.1, .object "EveryPew$Church"), (ids.2.2.2, .object "EveryPew$Plain")]
def zreal (ad : Nat → Nat) : Value → Value
  | .ref k => .ref (ad k)
  | v => v
def zFs (ad : Nat → Nat) (σ : zM) (k : Nat) : Nat → List Nat → List Value
  | _, [] => []
  | j, f :: l => zreal ad (zfld σ k j f) :: zFs ad σ k (j + 1) l
def zEnt (ad : Nat → Nat) (ids : zIds) (σ : zM) (k : Nat) : va_E := match zlay k with
  | (0, n, _) => .inl (ids.1, n, .inl (σ.1 k))
  | (1, n, _) => .inl (ids.2.1, n, .inl (σ.1 k))
  | (2, ci, l) => .inr (ci, zFs ad σ k 0 l)
  | (3, _, l) => .inl (ids.2.2.1, l.length, .inr (.inr (.inr (.inr (fun j => (l[j]?).map ad)))))
  | (4, _, l) => .inl (ids.2.2.2, l.length, .inr (.inr (.inr (.inr (fun j => (l[j]?).map ad)))))
  | _ => .inr (99, [])
def zWo (ad : Nat → Nat) (ids : zIds) (σ : zM) : va_W := (List.range zN).map (fun k => (ad k, zEnt ad ids σ k))
theorem zWo_get {ad : Nat → Nat} {ids : zIds} {σ : zM} {k : Nat} (h : k < zN) : (zWo ad ids σ)[k]? = some (ad k, zEnt ad ids σ k) := by
  simp [zWo, h]
theorem zWo_len {ad : Nat → Nat} {ids : zIds} {σ : zM} : (zWo ad ids σ).length = zN := by simp [zWo]
theorem zWo_set {ad : Nat → Nat} {ids : zIds} {σ τ : zM} {k : Nat} {e : va_E} (h : zEnt ad ids τ k = e) (ho : ∀ a, a ≠ k → zEnt ad ids τ a = zEnt ad ids σ a) : (zWo ad ids σ).set k (ad k, e) = zWo ad ids τ := by
  apply List.ext_getElem?
  intro i
  by_cases hi : i < zN
  · rw [zWo_get hi]
    by_cases hk : k = i
    · subst hk
      rw [List.getElem?_set_self (by rw [zWo_len]; exact hi), h]
    · rw [List.getElem?_set_ne hk, zWo_get hi, ho i (fun q => hk q.symm)]
  · rw [List.getElem?_eq_none (by rw [List.length_set, zWo_len]; omega), List.getElem?_eq_none (by rw [zWo_len]; omega)]
theorem zFs_congr {ad : Nat → Nat} {σ τ : zM} {k : Nat} (h1 : τ.1 k = σ.1 k) (h2 : τ.2 k = σ.2 k) : ∀ (l : List Nat) (j : Nat), zFs ad τ k j l = zFs ad σ k j l := by
  intro l
  induction l with
  | nil => intro j; rfl
  | cons f l ih =>
    intro j
    have e : zfld τ k j f = zfld σ k j f := by
      match f with
      | 0 => simp [zfld, h1]
      | 1 => simp [zfld, h2]
      | f + 2 => rfl
    simp only [zFs, e, ih]
theorem zEnt_congr {ad : Nat → Nat} {ids : zIds} {σ τ : zM} {k : Nat} (h1 : τ.1 k = σ.1 k) (h2 : τ.2 k = σ.2 k) : zEnt ad ids τ k = zEnt ad ids σ k := by
  unfold zEnt
  split <;> first | rfl | (rw [h1]) | (rw [zFs_congr h1 h2])
theorem zFs_get {ad : Nat → Nat} {σ : zM} {k : Nat} : ∀ (l : List Nat) (j i : Nat), (zFs ad σ k j l)[i]? = (l[i]?).map (fun f => zreal ad (zfld σ k (j + i) f)) := by
  intro l
  induction l with
  | nil => intro j i; simp [zFs]
  | cons f l ih =>
    intro j i
    cases i with
    | zero => simp [zFs]
    | succ i => simp only [zFs, List.getElem?_cons_succ]; rw [ih]; simp [Nat.add_assoc, Nat.add_comm 1 i]
theorem zFs_len {ad : Nat → Nat} {σ : zM} {k : Nat} : ∀ (l : List Nat) (j : Nat), (zFs ad σ k j l).length = l.length := by
  intro l
  induction l with
  | nil => intro j; rfl
  | cons f l ih => intro j; simp [zFs, ih]
-- the layout, read off
def zfl (k : Nat) : List Nat := (zlay k).2.2
theorem zlay_out {k : Nat} (h : 100 ≤ k) : zlay k = (9, 0, []) := by
  unfold zlay
  rw [List.getD_eq_getElem?_getD, List.getElem?_eq_none (by show 100 ≤ k; exact h)]
  rfl
theorem zlay_dec (P : Nat → Nat × Nat × List Nat → Prop) (h1 : ∀ k, k < 100 → P k (zlay k)) (h2 : ∀ k, P k (9, 0, [])) : ∀ k, P k (zlay k) := by
  intro k
  by_cases h : k < 100
  · exact h1 k h
  · rw [zlay_out (by omega)]
    exact h2 k
theorem zlay_lt : ∀ k, (zlay k).1 < 5 → k < zN := zlay_dec (fun k t => t.1 < 5 → k < zN) (by decide +kernel) (fun k h => absurd h (by simp))
theorem zil_lay {k : Nat} (h : ¬ zil k = 0) : k < zN ∧ ∃ l, zlay k = (0, zil k, l) := by
  unfold zil at h ⊢
  split at h
  · rename_i n l e
    refine ⟨zlay_lt k (by rw [e]; exact Nat.le_of_ble_eq_true rfl), l, ?_⟩
    rw [e]
  · exact absurd rfl h
theorem zbl_lay {k : Nat} (h : ¬ zbl k = 0) : k < zN ∧ ∃ l, zlay k = (1, zbl k, l) := by
  unfold zbl at h ⊢
  split at h
  · rename_i n l e
    refine ⟨zlay_lt k (by rw [e]; exact Nat.le_of_ble_eq_true rfl), l, ?_⟩
    rw [e]
  · exact absurd rfl h
theorem zoc_lay {k : Nat} (h : ¬ zoc k = 99) : k < zN ∧ zlay k = (2, zoc k, zfl k) := by
  unfold zoc zfl at *
  split at h
  · rename_i n l e
    refine ⟨zlay_lt k (by rw [e]; exact Nat.le_of_ble_eq_true rfl), ?_⟩
    rw [e]
  · exact absurd rfl h
theorem zrl_lay {k : Nat} (h : ¬ zrl k = 0) : k < zN ∧ ((∃ n, zlay k = (3, n, zfl k)) ∨ ∃ n, zlay k = (4, n, zfl k)) ∧ zrl k = (zfl k).length ∧ ∀ j, zrt k j = (zfl k).getD j 0 := by
  unfold zrl zrt zfl at *
  split at h
  · rename_i n l e
    refine ⟨zlay_lt k (by rw [e]; exact Nat.le_of_ble_eq_true rfl), Or.inl ⟨n, by rw [e]⟩, by rw [e], fun j => by rw [e]⟩
  · rename_i n l e
    refine ⟨zlay_lt k (by rw [e]; exact Nat.le_of_ble_eq_true rfl), Or.inr ⟨n, by rw [e]⟩, by rw [e], fun j => by rw [e]⟩
  · exact absurd rfl h
theorem zfl_len : ∀ k, (zlay k).1 = 2 → (zlay k).2.2.length = ((zCl[(zlay k).2.1]?).map (fun q => q.2.2)).getD 77 := zlay_dec (fun _ t => t.1 = 2 → t.2.2.length = ((zCl[t.2.1]?).map (fun q => q.2.2)).getD 77) (by decide +kernel) (fun k h => absurd h (by simp))
theorem zWo_i {ad : Nat → Nat} {ids : zIds} {σ : zM} {k : Nat} (h : ¬ zil k = 0) : (zWo ad ids σ)[k]? = some (ad k, .inl (ids.1, zil k, .inl (σ.1 k))) := by
  obtain ⟨h1, l, h2⟩ := zil_lay h
  rw [zWo_get h1]
  simp only [zEnt]
  rw [h2]
  rfl
theorem zWo_z {ad : Nat → Nat} {ids : zIds} {σ : zM} {k : Nat} (h : ¬ zbl k = 0) : (zWo ad ids σ)[k]? = some (ad k, .inl (ids.2.1, zbl k, .inl (σ.1 k))) := by
  obtain ⟨h1, l, h2⟩ := zbl_lay h
  rw [zWo_get h1]
  simp only [zEnt]
  rw [h2]
  rfl
theorem zWo_o {ad : Nat → Nat} {ids : zIds} {σ : zM} {k : Nat} (h : ¬ zoc k = 99) : (zWo ad ids σ)[k]? = some (ad k, .inr (zoc k, zFs ad σ k 0 (zfl k))) := by
  obtain ⟨h1, h2⟩ := zoc_lay h
  rw [zWo_get h1]
  simp only [zEnt]
  rw [h2]
  rfl
theorem zil_in {i : Int32} {k : Nat} (h : vp_in i (zil k)) : ¬ zil k = 0 := fun e => h (Or.inr (by rw [e]; exact Nat.zero_le _))
theorem zbl_in {i : Int32} {k : Nat} (h : vp_in i (zbl k)) : ¬ zbl k = 0 := fun e => h (Or.inr (by rw [e]; exact Nat.zero_le _))
theorem zrl_in {i : Int32} {k : Nat} (h : vp_in i (zrl k)) : ¬ zrl k = 0 := fun e => h (Or.inr (by rw [e]; exact Nat.zero_le _))
theorem zput_ne {σ : zM} {k j a : Nat} {v : Int32} (h : a ≠ k) : (zput σ k j v).1 a = σ.1 a := by
  funext b; simp [zput, h]
theorem zput_eq {σ : zM} {k j : Nat} {v : Int32} : (zput σ k j v).1 k = upd (σ.1 k) j v := by
  funext b; simp [zput, upd]
theorem zcpy_ne {σ : zM} {o d sp dp n a : Nat} (h : a ≠ d) : (zcpy σ o d sp dp n).1 a = σ.1 a := by
  simp [zcpy, h]
theorem zput_i {ad : Nat → Nat} {ids : zIds} {σ : zM} {k j : Nat} {v : Int32} (h : ¬ zil k = 0) : (zWo ad ids σ).set k (ad k, .inl (ids.1, zil k, .inl (upd (σ.1 k) j v))) = zWo ad ids (zput σ k j v) := by
  refine zWo_set ?_ (fun a ha => zEnt_congr (zput_ne ha) rfl)
  obtain ⟨h1, l, h2⟩ := zil_lay h
  simp only [zEnt]
  rw [h2, zput_eq]
  rfl
theorem zput_z {ad : Nat → Nat} {ids : zIds} {σ : zM} {k j : Nat} {v : Int32} (h : ¬ zbl k = 0) : (zWo ad ids σ).set k (ad k, .inl (ids.2.1, zbl k, .inl (upd (σ.1 k) j v))) = zWo ad ids (zput σ k j v) := by
  refine zWo_set ?_ (fun a ha => zEnt_congr (zput_ne ha) rfl)
  obtain ⟨h1, l, h2⟩ := zbl_lay h
  simp only [zEnt]
  rw [h2, zput_eq]
  rfl
theorem zcpy_i {ad : Nat → Nat} {ids : zIds} {σ : zM} {o k sp dp n : Nat} (h : ¬ zil k = 0) : (zWo ad ids σ).set k (ad k, .inl (ids.1, zil k, .inl (va_cpy (σ.1 o) (σ.1 k) sp dp n))) = zWo ad ids (zcpy σ o k sp dp n) := by
  refine zWo_set ?_ (fun a ha => zEnt_congr (zcpy_ne ha) rfl)
  obtain ⟨h1, l, h2⟩ := zil_lay h
  simp only [zEnt]
  rw [h2]
  show Sum.inl _ = Sum.inl _
  simp [zcpy]
theorem zFs_set {ad : Nat → Nat} {σ τ : zM} {k j : Nat} {l : List Nat} {v : Value} (hj : ∀ f, l[j]? = some f → zreal ad (zfld τ k j f) = v) (ho : ∀ i f, i ≠ j → l[i]? = some f → zfld τ k i f = zfld σ k i f) : (zFs ad σ k 0 l).set j v = zFs ad τ k 0 l := by
  apply List.ext_getElem?
  intro i
  by_cases hi : i < l.length
  · rw [zFs_get, List.getElem?_eq_getElem hi]
    by_cases hk : j = i
    · subst hk
      rw [List.getElem?_set_self (by rw [zFs_len]; exact hi), Option.map_some, Nat.zero_add, hj _ (List.getElem?_eq_getElem hi)]
    · rw [List.getElem?_set_ne hk, zFs_get, List.getElem?_eq_getElem hi, Option.map_some, Option.map_some, Nat.zero_add, ho i _ (fun q => hk q.symm) (List.getElem?_eq_getElem hi)]
  · rw [List.getElem?_eq_none (by rw [List.length_set, zFs_len]; omega), List.getElem?_eq_none (by rw [zFs_len]; omega)]
theorem zput_o {ad : Nat → Nat} {ids : zIds} {σ : zM} {k j : Nat} {v : Int32} (h : ¬ zoc k = 99) (hf : (zfl k).getD j 0 = 0) : (zWo ad ids σ).set k (ad k, .inr (zoc k, (zFs ad σ k 0 (zfl k)).set j (.int v))) = zWo ad ids (zput σ k j v) := by
  refine zWo_set ?_ (fun a ha => zEnt_congr (zput_ne ha) rfl)
  obtain ⟨h1, h2⟩ := zoc_lay h
  simp only [zEnt]
  rw [h2]
  show Sum.inr (zoc k, zFs ad (zput σ k j v) k 0 (zfl k)) = _
  rw [zFs_set (τ := zput σ k j v)]
  · intro f hf2
    rw [List.getD_eq_getElem?_getD, hf2] at hf
    have : f = 0 := hf
    subst this
    simp [zfld, zput, zreal]
  · intro i f hi _
    match f with
    | 0 => simp [zfld, zput, hi]
    | 1 => rfl
    | f + 2 => rfl
theorem zputl_o {ad : Nat → Nat} {ids : zIds} {σ : zM} {k j : Nat} {v : Int64} (h : ¬ zoc k = 99) (hf : (zfl k).getD j 0 = 1) : (zWo ad ids σ).set k (ad k, .inr (zoc k, (zFs ad σ k 0 (zfl k)).set j (.long v))) = zWo ad ids (zputl σ k j v) := by
  refine zWo_set ?_ (fun a ha => zEnt_congr rfl ?_)
  · obtain ⟨h1, h2⟩ := zoc_lay h
    simp only [zEnt]
    rw [h2]
    show Sum.inr (zoc k, zFs ad (zputl σ k j v) k 0 (zfl k)) = _
    rw [zFs_set (τ := zputl σ k j v)]
    · intro f hf2
      rw [List.getD_eq_getElem?_getD, hf2] at hf
      have : f = 1 := hf
      subst this
      simp [zfld, zputl, zreal]
    · intro i f hi _
      match f with
      | 0 => rfl
      | 1 => simp [zfld, zputl, hi]
      | f + 2 => rfl
  · funext b; simp [zputl, ha]
theorem zft_fl {k j : Nat} (h : ¬ zoc k = 99) : zft k j = (zfl k).getD j 0 := by
  obtain ⟨h1, h2⟩ := zoc_lay h
  unfold zft
  rw [h2]
  rfl
-- locals
def zLs (ad : Nat → Nat) (nL : Nat) (ls : List Value) (lsr : Array Slot) : Prop := lsr.size = nL ∧ lv_wf lsr ∧ ∀ (i : Nat) (v : Value), ls[i]? = some v → v ≠ .null → lsr[i]? = some (.val (zreal ad v))
theorem zget_at : ∀ {ls : List Value} {i : Nat} {v : Value}, zget ls i = v → v ≠ .null → ls[i]? = some v := by
  intro ls
  induction ls with
  | nil => intro i v h hn; simp [zget] at h; exact absurd h.symm hn
  | cons x l ih =>
    intro i v h hn
    cases i with
    | zero => simp [zget] at h; simp [h]
    | succ i => simp only [zget] at h; simpa using ih h hn
theorem zLs.at {ad : Nat → Nat} {nL : Nat} {ls : List Value} {lsr : Array Slot} (h : zLs ad nL ls lsr) {i : Nat} {v : Value} (hv : zget ls i = v) (hn : v ≠ .null) : lsr[i]? = some (.val (zreal ad v)) := h.2.2 i v (zget_at hv hn) hn
def zprs (ad : Nat → Nat) : Nat → List Value → List (Nat × Value)
  | _, [] => []
  | k, .null :: l => zprs ad (k + 1) l
  | k, v :: l => (k, zreal ad v) :: zprs ad (k + 1) l
theorem zprs_mem {ad : Nat → Nat} {q : Nat × Value} : ∀ {l : List Value} {k : Nat}, q ∈ zprs ad k l ↔ ∃ (i : Nat) (v : Value), l[i]? = some v ∧ v ≠ .null ∧ q = (k + i, zreal ad v) := by
  intro l
  induction l with
  | nil => intro k; simp [zprs]
  | cons x l ih =>
    intro k
    have tail : (∃ (i : Nat) (v : Value), l[i]? = some v ∧ v ≠ .null ∧ q = (k + 1 + i, zreal ad v)) ↔ ∃ (i : Nat) (v : Value), 0 < i ∧ (x :: l)[i]? = some v ∧ v ≠ .null ∧ q = (k + i, zreal ad v) := by
      constructor
      · rintro ⟨i, v, h1, h2, h3⟩
        exact ⟨i + 1, v, Nat.succ_pos i, by simpa using h1, h2, by rw [h3, Nat.add_assoc, Nat.add_comm 1 i]⟩
      · rintro ⟨i, v, h0, h1, h2, h3⟩
        obtain ⟨j, rfl⟩ : ∃ j, i = j + 1 := ⟨i - 1, by omega⟩
        exact ⟨j, v, by simpa using h1, h2, by rw [h3, Nat.add_assoc, Nat.add_comm 1 j]⟩
    by_cases hx : x = .null
    · subst hx
      show q ∈ zprs ad (k + 1) l ↔ _
      rw [ih, tail]
      constructor
      · rintro ⟨i, v, -, h⟩; exact ⟨i, v, h⟩
      · rintro ⟨i, v, h1, h2, h3⟩
        cases i with
        | zero => simp at h1; exact absurd h1.symm h2
        | succ i => exact ⟨i + 1, v, Nat.succ_pos i, h1, h2, h3⟩
    · have e : zprs ad k (x :: l) = (k, zreal ad x) :: zprs ad (k + 1) l := by
        cases x <;> first | rfl | exact absurd rfl hx
      rw [e, List.mem_cons, ih, tail]
      constructor
      · rintro (h | ⟨i, v, -, h⟩)
        · exact ⟨0, x, rfl, hx, by simpa using h⟩
        · exact ⟨i, v, h⟩
      · rintro ⟨i, v, h1, h2, h3⟩
        cases i with
        | zero => simp at h1; subst h1; exact Or.inl (by simpa using h3)
        | succ i => exact Or.inr ⟨i + 1, v, Nat.succ_pos i, h1, h2, h3⟩
theorem zLs.has {ad : Nat → Nat} {nL : Nat} {ls : List Value} {lsr : Array Slot} (h : zLs ad nL ls lsr) : lv_has lsr nL (zprs ad 0 ls) := by
  refine ⟨h.1, h.2.1, fun q hq => ?_⟩
  obtain ⟨i, v, h1, h2, h3⟩ := zprs_mem.mp hq
  rw [h3, Nat.zero_add]
  exact h.2.2 i v h1 h2
theorem zcat (ad : Nat → Nat) (v : Value) : (zreal ad v).category = v.category := by cases v <;> rfl
theorem zst_get : ∀ {ls : List Value} {i j : Nat} {v u : Value}, (zst ls i v)[j]? = some u → u ≠ .null → (j = i ∧ u = v) ∨ (j ≠ i ∧ ls[j]? = some u ∧ (j + 1 = i → u.category ≠ 2)) := by
  intro ls
  induction ls with
  | nil =>
    intro i
    induction i with
    | zero =>
      intro j v u h hn
      cases j with
      | zero => simp [zst] at h; exact Or.inl ⟨rfl, h.symm⟩
      | succ j => simp [zst] at h
    | succ i ih =>
      intro j v u h hn
      cases j with
      | zero => simp [zst] at h; exact absurd h.symm hn
      | succ j =>
        simp only [zst, List.getElem?_cons_succ] at h
        rcases ih h hn with ⟨h1, h2⟩ | ⟨h1, h2, h3⟩
        · exact Or.inl ⟨by omega, h2⟩
        · simp at h2
  | cons x l ih =>
    intro i j v u h hn
    cases i with
    | zero =>
      cases j with
      | zero => simp [zst] at h; exact Or.inl ⟨rfl, h.symm⟩
      | succ j => simp only [zst, List.getElem?_cons_succ] at h; exact Or.inr ⟨by omega, by simpa using h, fun q => by omega⟩
    | succ i =>
      cases j with
      | zero =>
        simp only [zst, List.getElem?_cons_zero, Option.some.injEq] at h
        refine Or.inr ⟨by omega, ?_, fun q => ?_⟩
        · cases i with
          | zero => cases x <;> simp_all [zcl]
          | succ i => cases x <;> simp_all [zcl]
        · have : i = 0 := by omega
          subst this
          cases x <;> simp_all [zcl] <;> (subst h; simp [Value.category])
      | succ j =>
        simp only [zst, List.getElem?_cons_succ] at h
        rcases ih h hn with ⟨h1, h2⟩ | ⟨h1, h2, h3⟩
        · exact Or.inl ⟨by omega, h2⟩
        · exact Or.inr ⟨by omega, by simpa using h2, fun q => h3 (by omega)⟩
theorem zstl_get : ∀ {ls : List Value} {i j : Nat} {v u : Value}, (zstl ls i v)[j]? = some u → u ≠ .null → (j = i ∧ u = v) ∨ (j ≠ i ∧ j ≠ i + 1 ∧ ls[j]? = some u ∧ (j + 1 = i → u.category ≠ 2)) := by
  intro ls
  induction ls with
  | nil =>
    intro i
    induction i with
    | zero =>
      intro j v u h hn
      match j with
      | 0 => simp [zstl] at h; exact Or.inl ⟨rfl, h.symm⟩
      | 1 => simp [zstl] at h; exact absurd h.symm hn
      | j + 2 => simp [zstl] at h
    | succ i ih =>
      intro j v u h hn
      cases j with
      | zero => simp [zstl] at h; exact absurd h.symm hn
      | succ j =>
        simp only [zstl, List.getElem?_cons_succ] at h
        rcases ih h hn with ⟨h1, h2⟩ | ⟨h1, h2, h3, h4⟩
        · exact Or.inl ⟨by omega, h2⟩
        · simp at h3
  | cons x l ih =>
    intro i j v u h hn
    cases i with
    | zero =>
      cases l with
      | nil =>
        match j with
        | 0 => simp [zstl] at h; exact Or.inl ⟨rfl, h.symm⟩
        | 1 => simp [zstl] at h; exact absurd h.symm hn
        | j + 2 => simp [zstl] at h
      | cons y l =>
        match j with
        | 0 => simp [zstl] at h; exact Or.inl ⟨rfl, h.symm⟩
        | 1 => simp [zstl] at h; exact absurd h.symm hn
        | j + 2 => simp only [zstl, List.getElem?_cons_succ] at h; exact Or.inr ⟨by omega, by omega, by simpa using h, fun q => by omega⟩
    | succ i =>
      have e : zstl (x :: l) (i + 1) v = zcl i x :: zstl l i v := by cases l <;> rfl
      rw [e] at h
      cases j with
      | zero =>
        simp only [List.getElem?_cons_zero, Option.some.injEq] at h
        refine Or.inr ⟨by omega, by omega, ?_, fun q => ?_⟩
        · cases i with
          | zero => cases x <;> simp_all [zcl]
          | succ i => cases x <;> simp_all [zcl]
        · have : i = 0 := by omega
          subst this
          cases x <;> simp_all [zcl] <;> (subst h; simp [Value.category])
      | succ j =>
        simp only [List.getElem?_cons_succ] at h
        rcases ih h hn with ⟨h1, h2⟩ | ⟨h1, h2, h3, h4⟩
        · exact Or.inl ⟨by omega, h2⟩
        · exact Or.inr ⟨by omega, by omega, by simpa using h3, fun q => h4 (by omega)⟩
theorem zkp_get : ∀ {mk : List Bool} {ls : List Value} {j : Nat} {u : Value}, (zkp mk ls)[j]? = some u → u ≠ .null → ls[j]? = some u := by
  intro mk
  induction mk with
  | nil => intro ls j u h hn; simp [zkp] at h
  | cons b mk ih =>
    intro ls j u h hn
    cases ls with
    | nil =>
      cases j with
      | zero => simp [zkp] at h; exact absurd h.symm hn
      | succ j => simp only [zkp, List.getElem?_cons_succ] at h; have := ih h hn; simp at this
    | cons x l =>
      cases b with
      | false =>
        cases j with
        | zero => simp [zkp] at h; exact absurd h.symm hn
        | succ j => simp only [zkp, List.getElem?_cons_succ] at h; simpa using ih h hn
      | true =>
        cases j with
        | zero => simp [zkp] at h; simp [h]
        | succ j => simp only [zkp, List.getElem?_cons_succ] at h; simpa using ih h hn
theorem zLs.kp {ad : Nat → Nat} {nL : Nat} {ls : List Value} {lsr : Array Slot} (h : zLs ad nL ls lsr) (mk : List Bool) : zLs ad nL (zkp mk ls) lsr := ⟨h.1, h.2.1, fun i v h1 h2 => h.2.2 i v (zkp_get h1 h2) h2⟩
theorem zLs.st {ad : Nat → Nat} {nL : Nat} {ls : List Value} {lsr' : Array Slot} {i : Nat} {v : Value} (h : lv_has lsr' nL ((i, zreal ad v) :: (zprs ad 0 ls).filter (fun q => !(q.1 == i) && !(q.1 + 1 == i && q.2.category == 2)))) : zLs ad nL (zst ls i v) lsr' := by
  refine ⟨h.1, h.2.1, fun j u hj hu => ?_⟩
  rcases zst_get hj hu with ⟨h1, h2⟩ | ⟨h1, h2, h3⟩
  · subst h1; subst h2
    exact h.2.2 _ List.mem_cons_self
  · refine h.2.2 (j, zreal ad u) (List.mem_cons_of_mem _ (List.mem_filter.mpr ⟨zprs_mem.mpr ⟨j, u, h2, hu, by rw [Nat.zero_add]⟩, ?_⟩))
    simp only [Bool.and_eq_true, Bool.not_eq_true', beq_eq_false_iff_ne, ne_eq, Bool.and_eq_false_iff]
    refine ⟨h1, ?_⟩
    by_cases q : j + 1 = i
    · exact Or.inr (by rw [zcat]; exact h3 q)
    · exact Or.inl q
theorem zLs.stl {ad : Nat → Nat} {nL : Nat} {ls : List Value} {lsr' : Array Slot} {i : Nat} {v : Value} (h : lv_has lsr' nL ((i, zreal ad v) :: (zprs ad 0 ls).filter (fun q => !(q.1 == i) && (!(q.1 == i + 1) && !(q.1 + 1 == i && q.2.category == 2))))) : zLs ad nL (zstl ls i v) lsr' := by
  refine ⟨h.1, h.2.1, fun j u hj hu => ?_⟩
  rcases zstl_get hj hu with ⟨h1, h2⟩ | ⟨h1, h1', h2, h3⟩
  · subst h1; subst h2
    exact h.2.2 _ List.mem_cons_self
  · refine h.2.2 (j, zreal ad u) (List.mem_cons_of_mem _ (List.mem_filter.mpr ⟨zprs_mem.mpr ⟨j, u, h2, hu, by rw [Nat.zero_add]⟩, ?_⟩))
    simp only [Bool.and_eq_true, Bool.not_eq_true', beq_eq_false_iff_ne, ne_eq, Bool.and_eq_false_iff]
    refine ⟨h1, h1', ?_⟩
    by_cases q : j + 1 = i
    · exact Or.inr (by rw [zcat]; exact h3 q)
    · exact Or.inl q
theorem zlc_get {ad : Nat → Nat} : ∀ {vs : List Value} {k j : Nat} {u : Value}, (zlc vs)[j]? = some u → u ≠ .null → (k + j, zreal ad u) ∈ lv_args k (vs.map (zreal ad)) := by
  intro vs
  induction vs with
  | nil => intro k j u h hn; simp [zlc] at h
  | cons x l ih =>
    intro k j u h hn
    by_cases hc : x.category = 2
    · have e : zlc (x :: l) = x :: .null :: zlc l := by cases x <;> first | rfl | (simp [Value.category] at hc)
      rw [e] at h
      simp only [List.map_cons, lv_args, zcat, hc, if_true]
      match j with
      | 0 => simp at h; subst h; exact List.mem_cons_self
      | 1 => simp at h; exact absurd h.symm hn
      | j + 2 =>
        simp only [List.getElem?_cons_succ] at h
        have := ih (k := k + 2) h hn
        rw [show k + (j + 2) = k + 2 + j by omega]
        exact List.mem_cons_of_mem _ this
    · have e : zlc (x :: l) = x :: zlc l := by cases x <;> first | rfl | (exact absurd rfl hc)
      rw [e] at h
      simp only [List.map_cons, lv_args, zcat, hc, if_false]
      match j with
      | 0 => simp at h; subst h; exact List.mem_cons_self
      | j + 1 =>
        simp only [List.getElem?_cons_succ] at h
        have := ih (k := k + 1) h hn
        rw [show k + (j + 1) = k + 1 + j by omega]
        exact List.mem_cons_of_mem _ this
theorem zLs.entry {ad : Nat → Nat} {nL : Nat} {vs : List Value} {lsr : Array Slot} (h : lv_has lsr nL (lv_args 0 (vs.map (zreal ad)))) : zLs ad nL (zlc vs) lsr := by
  refine ⟨h.1, h.2.1, fun j u hj hu => ?_⟩
  have := h.2.2 _ (zlc_get (ad := ad) (k := 0) hj hu)
  rwa [Nat.zero_add] at this
theorem zsp_spec : ∀ {n : Nat} {acc st vs r : List Value}, zsp n acc st = some (vs, r) → ∃ ws, vs = ws ++ acc ∧ st = ws.reverse ++ r ∧ ws.length = n := by
  intro n
  induction n with
  | zero => intro acc st vs r h; simp [zsp] at h; exact ⟨[], by simp [h.1], by simp [h.2], rfl⟩
  | succ n ih =>
    intro acc st vs r h
    cases st with
    | nil => simp [zsp] at h
    | cons v st =>
      simp only [zsp] at h
      obtain ⟨ws, h1, h2, h3⟩ := ih h
      exact ⟨ws ++ [v], by simp [h1], by simp [h2], by simp [h3]⟩
theorem zsp_st {n : Nat} {st vs r : List Value} (h : zsp n [] st = some (vs, r)) : st = vs.reverse ++ r ∧ vs.length = n := by
  obtain ⟨ws, h1, h2, h3⟩ := zsp_spec h
  rw [List.append_nil] at h1
  subst h1
  exact ⟨h2, h3⟩
theorem zsm_le {ad : Nat → Nat} : ∀ {r : List Value}, zsm r = true → ((r.map (zreal ad)).map fun v => v.category).sum ≤ 8 := by
  intro r h
  have c2 : ∀ v : Value, (zreal ad v).category ≤ 2 := fun v => by rcases lv_cat (zreal ad v) with h | h <;> omega
  match r, h with
  | [], _ => simp
  | [a], _ => simp; have := c2 a; omega
  | [a, b], _ => simp; have := c2 a; have := c2 b; omega
  | [a, b, d], _ => simp; have := c2 a; have := c2 b; have := c2 d; omega
  | [a, b, d, e], _ => simp; have := c2 a; have := c2 b; have := c2 d; have := c2 e; omega
end
section
/-! The small machine's rows over the machine itself: a row an instruction. -/
def zNF : List (String × Nat × String × String × String × String) := [("EveryPew$Service", 63, "EveryPew$Church", "limit", "I", "EveryPew"), ("EveryPew", 272, "EveryPew$Church", "limit", "I", "EveryPew"), ("EveryPew$Service", 73, "EveryPew$Church", "books", "[I", "EveryPew"), ("EveryPew", 87, "EveryPew$Church", "books", "[I", "EveryPew"), ("EveryPew$TextOfChurch", 76, "EveryPew$Church", "books", "[I", "EveryPew"), ("EveryPew$Service", 56, "EveryPew$Church", "families", "I", "EveryPew"), ("EveryPew", 74, "EveryPew$Church", "families", "I", "EveryPew"), ("EveryPew$TextOfChurch", 79, "EveryPew$Church", "families", "I", "EveryPew"), ("EveryPew$Service", 81, "EveryPew$Church", "kind", "[I", "EveryPew"), ("EveryPew", 187, "EveryPew$Church", "kind", "[I", "EveryPew"), ("EveryPew$Service", 84, "EveryPew$Church", "book", "[I", "EveryPew"), ("EveryPew", 118, "EveryPew$Church", "book", "[I", "EveryPew"), ("EveryPew$Service", 93, "EveryPew$Church", "tall", "[I", "EveryPew"), ("EveryPew$Service", 99, "EveryPew$Church", "voices", "[I", "EveryPew"), ("EveryPew$Service", 80, "EveryPew$Church", "pew", "[I", "EveryPew"), ("EveryPew", 121, "EveryPew$Church", "pew", "[I", "EveryPew"), ("EveryPew$TextOfChurch", 93, "EveryPew$Church", "colds", "I", "EveryPew"), ("EveryPew", 127, "EveryPew$Church", "colds", "I", "EveryPew"), ("EveryPew$Service", 121, "EveryPew$Church", "heards", "I", "EveryPew"), ("EveryPew", 200, "EveryPew$Church", "heards", "I", "EveryPew"), ("EveryPew$Service", 124, "EveryPew$Church", "heardWord", "[I", "EveryPew"), ("EveryPew", 263, "EveryPew$Church", "heardWord", "[I", "EveryPew"), ("EveryPew$Service", 127, "EveryPew$Church", "heardBook", "[I", "EveryPew"), ("EveryPew", 266, "EveryPew$Church", "heardBook", "[I", "EveryPew"), ("EveryPew$Service", 133, "EveryPew$Church", "heardLoud", "[I", "EveryPew"), ("EveryPew", 269, "EveryPew$Church", "heardLoud", "[I", "EveryPew"), ("EveryPew", 134, "EveryPew$Church", "steps", "I", "EveryPew"), ("EveryPew", 101, "EveryPew$TextOfChurch", "length", "I", "EveryPew"), ("EveryPew$Seating", 18, "EveryPew$Service", "families", "I", "EveryPew"), ("EveryPew$Seating", 61, "EveryPew$Service", "book", "[I", "EveryPew"), ("EveryPew$Seating", 49, "EveryPew$Service", "height", "[I", "EveryPew"), ("EveryPew$Coughs", 50, "EveryPew$Service", "caseAt", "[I", "EveryPew"), ("EveryPew$Seating", 68, "EveryPew$Service", "wordsOfCase", "[I", "EveryPew"), ("EveryPew", 209, "EveryPew$Coughs", "fitting", "I", "EveryPew"), ("EveryPew", 212, "EveryPew$Coughs", "inAll", "I", "EveryPew"), ("EveryPew", 215, "EveryPew$Coughs", "inSome", "I", "EveryPew")]
def zNM : List (String × Nat × MethodName × String) := [("EveryPew$TextOfChurch", 96, ⟨"EveryPew", "within", "(III)Z"⟩, "EveryPew"), ("EveryPew$TextOfChurch", 82, ⟨"EveryPew", "isPewOf", "(II)Z"⟩, "EveryPew"), ("EveryPew$Church", 83, ⟨"EveryPew", "bit", "(II)I"⟩, "EveryPew"), ("EveryPew$Service", 76, ⟨"EveryPew", "bit", "(II)I"⟩, "EveryPew"), ("EveryPew$Seating", 58, ⟨"EveryPew", "bit", "(II)I"⟩, "EveryPew")]
def zsx : List (Nat × String) := [(25, "church"), (58, "book"), (63, "family"), (68, "cold")]
def zX (ad : Nat → Nat) (A : Nat → Prop) (U : State) : Prop :=
  va_Z "EveryPew$Seating" "FIGURE_OF" "[I" (.ref (ad 91)) A U U.heap ∧ va_T .int (ad 91) 7 (fun j => .int (zfigs.getD j 0)) A U U.heap ∧ va_Z "java/lang/String" "COMPACT_STRINGS" "Z" (.int 1) A U U.heap ∧ va_Zq "jdk/internal/util/Preconditions" "SIOOBE_FORMATTER" "Ljava/util/function/BiFunction;" A U U.heap ∧
  vk_S 4 [6, 4, 6, 4] ztxt (fun i => ad (92 + i)) (fun i => ad (96 + i)) A U U.heap ∧ ∀ i : Nat, i < 4 → vk_R "EveryPew$TextOfChurch" (zsx.getD i (0, "")).1 (zsx.getD i (0, "")).2 (ad (92 + i)) U
def zAd (ad : Nat → Nat) (A : Nat → Prop) : Prop := (∀ i j, i < zN → j < zN → ad i = ad j → i = j) ∧ ∀ k, k < zN → A (ad k)
def zEnv (D : va_G) (ids : zIds) (ad : Nat → Nat) (A : Nat → Prop) (U : State) : Prop :=
  va_K D zCl (zTys ids) U ∧ (∀ q ∈ zNF, va_Nw (.fieldLinkNest q.1 q.2.1 q.2.2.1 q.2.2.2.1 q.2.2.2.2.1 q.2.2.2.2.2) U) ∧ (∀ q ∈ zNM, va_Nw (.methodLinkNest q.1 q.2.1 q.2.2.1 q.2.2.2) U) ∧ zAd ad A ∧ zX ad A U
theorem zEnv.moved {D : va_G} {ids : zIds} {ad : Nat → Nat} {A : Nat → Prop} {s U : State} (h : zEnv D ids ad A s) (hW : s.WarmedH U.vm) (hk : ∀ a : Nat, a < s.heap.size → ¬ A a → U.heap[a]? = s.heap[a]?) : zEnv D ids ad A U := by
  obtain ⟨h1, h2, h3, h4, x1, x2, x3, x4, x5, x6⟩ := h
  exact ⟨h1.moved hW.alike, fun q hq => va_Nw.warmF hW (h2 q hq), fun q hq => va_Nw.warmM hW (h3 q hq), h4, (x1.moved hW.alike).kept hk, (x2.moved hW.alike).kept hk, (x3.moved hW.alike).kept hk, (x4.moved hW.alike).kept hk, (x5.moved hW.alike).kept hk, fun i hi => vk_R.warm hW (x6 i hi)⟩
theorem zEnv.same {D : va_G} {ids : zIds} {ad : Nat → Nat} {A : Nat → Prop} {s U : State} (h : zEnv D ids ad A s) (hv : s.vm = U.vm) (hh : s.heap = U.heap) : zEnv D ids ad A U := by
  obtain ⟨h1, h2, h3, h4, x1, x2, x3, x4, x5, x6⟩ := h
  have al : s.vm.Alike U.vm := by rw [hv]; exact Vm.Alike.refl _
  refine ⟨h1.moved al, fun q hq => va_Nw.same rfl hv (h2 q hq), fun q hq => va_Nw.same rfl hv (h3 q hq), h4, ?_, ?_, ?_, ?_, ?_, fun i hi => vk_R.same hv.symm (x6 i hi)⟩
  · rw [← hh]; exact x1.moved al
  · rw [← hh]; exact x2.moved al
  · rw [← hh]; exact x3.moved al
  · rw [← hh]; exact x4.moved al
  · rw [← hh]; exact x5.moved al
theorem zAd.D {ad : Nat → Nat} {A : Nat → Prop} (h : zAd ad A) (ids : zIds) (σ : zM) : va_D A (zWo ad ids σ) := by
  have key : ∀ (i : Nat) (x : Nat × va_E), (zWo ad ids σ)[i]? = some x → i < zN ∧ x.1 = ad i := by
    intro i x hx
    have hi : i < zN := by rw [← zWo_len (ad := ad) (ids := ids) (σ := σ)]; exact (List.getElem?_eq_some_iff.mp hx).1
    rw [zWo_get hi] at hx
    cases hx
    exact ⟨hi, rfl⟩
  refine ⟨fun i j x y hx hy hxy => ?_, fun k q hk => ?_⟩
  · obtain ⟨a1, a2⟩ := key i x hx
    obtain ⟨b1, b2⟩ := key j y hy
    exact h.1 i j a1 b1 (by rw [← a2, ← b2]; exact hxy)
  · obtain ⟨a1, a2⟩ := key k q hk
    rw [a2]
    exact h.2 k a1
def zPc (D : va_G) (ids : zIds) (ad : Nat → Nat) (A : Nat → Prop) (vs : List Value) (σ : zM) : Array Value → State → Prop := va_Pc (vs.map (zreal ad)) (fun U => va_P D zCl (zWo ad ids σ) U.heap ∧ zEnv D ids ad A U ∧ ∀ q : Nat, U.heap.size ≤ q → A q)
def zQc (D : va_G) (ids : zIds) (ad : Nat → Nat) (A : Nat → Prop) (Q : zQ) : Option FieldType → Array Value → State → Outcome → State → Prop
  | none => va_Qv (fun u : zM => Q none u) (fun u t => va_P D zCl (zWo ad ids u) t.heap) A
  | some .long => va_Ql (fun (r : Int64) (u : zM) => Q (some (.long r)) u) (fun u t => va_P D zCl (zWo ad ids u) t.heap) A
  | some _ => va_Qi (fun (r : Int32) (u : zM) => Q (some (.int r)) u) (fun u t => va_P D zCl (zWo ad ids u) t.heap) A
/-- a method of the small machine is one of the machine -/
def zSd (y : MethodName) (cc : ByteArray) (nL : Nat) (ret : Option FieldType) (rm : Room) (T : zTy) : Prop :=
  ∀ (l : Launch) (D : va_G) (ids : zIds) (ad : Nat → Nat) (A : Nat → Prop) (vs : List Value) (σ : zM) (Q : zQ), T vs σ Q → Met l y (.code y cc nL ret :: zAll) rm (zPc D ids ad A vs σ) (zQc D ids ad A Q ret) 0 0 A
theorem zblind {D : va_G} {ids : zIds} {ad : Nat → Nat} {A : Nat → Prop} {vs : List Value} {σ : zM} : FrameBlind (zPc D ids ad A vs σ) := by
  intro a U g mk q
  obtain ⟨q0, q1, q2, q3⟩ := q
  exact ⟨q0, q1, q2.same rfl rfl, q3⟩
section ZSIM
variable {p : Program} {l : Launch} {e : Env} {R : Room} {s : State} {m : MethodId} {args : Array Value} {below : List Frame} {meth : Method} {c : Code} {cells slots : Nat} {QQ : State → Prop} {D : va_G} {ids : zIds} {ad : Nat → Nat} {A : Nat → Prop} {own : String} {cc : ByteArray} {nL : Nat}
def zW (p : Program) (l : Launch) (e : Env) (R : Room) (s : State) (m : MethodId) (args : Array Value) (below : List Frame) (meth : Method) (c : Code) (cells slots : Nat) (QQ : State → Prop) (D : va_G) (ids : zIds) (ad : Nat → Nat) (A : Nat → Prop) (nL : Nat) (pc : Nat) : zK := fun ls st σ =>
  ∀ (H : Heap) (locs : List Loc) (lsr : Array Slot), va_P D zCl (zWo ad ids σ) H → va_S A s.heap H locs → zLs ad nL ls lsr → W p l e R s m args below meth c H locs cells slots QQ (F0 m pc lsr (st.map (zreal ad)))
def zGo (p : Program) (l : Launch) (e : Env) (R : Room) (s : State) (m : MethodId) (args : Array Value) (below : List Frame) (meth : Method) (c : Code) (cells slots : Nat) (QQ : State → Prop) (D : va_G) (ids : zIds) (ad : Nat → Nat) (A : Nat → Prop) (nL : Nat) (pc : Nat) (K : zK) : Prop :=
  ∀ (ls st : List Value) (σ : zM), K ls st σ → zW p l e R s m args below meth c cells slots QQ D ids ad A nL pc ls st σ
def zCx (p : Program) (R : Room) (s : State) (m : MethodId) (args : Array Value) (c : Code) (cells slots : Nat) (D : va_G) (ids : zIds) (ad : Nat → Nat) (A : Nat → Prop) (own : String) (cc : ByteArray) (nL : Nat) : Prop :=
  p.tables.exec = Jvm.exec ∧ c.code = cc ∧ c.maxLocals = nL ∧ s.vm.findClass own = some m.cls ∧ (∀ w ∈ zAll, w.before args s = true) ∧ zEnv D ids ad A s ∧ (∀ q : Nat, s.heap.size ≤ q → A q) ∧ cells ≤ R.cells ∧ slots ≤ R.slots
variable {pc : Nat} {K K2 : zK}
theorem z_ic (C : zCx p R s m args c cells slots D ids ad A own cc nL) {n : Int} {v : Int32} (hd : decode cc pc = .ok (.iconst n, 1)) (hv : Int32.ofInt n = v) (k : zGo p l e R s m args below meth c cells slots QQ D ids ad A nL (pc + 1) K) : zGo p l e R s m args below meth c cells slots QQ D ids ad A nL (pc) (i_ic v K) :=
  fun ls st σ h H locs lsr hP hS hl => lv_iconst C.1 C.2.1 hd hv (k ls (.int v :: st) σ h H locs lsr hP hS hl)
theorem z_bi (C : zCx p R s m args c cells slots D ids ad A own cc nL) {n : Int} {v : Int32} (hd : decode cc pc = .ok (.bipush n, 2)) (hv : (Int8.ofInt n).toInt32 = v) (k : zGo p l e R s m args below meth c cells slots QQ D ids ad A nL (pc + 2) K) : zGo p l e R s m args below meth c cells slots QQ D ids ad A nL (pc) (i_ic v K) :=
  fun ls st σ h H locs lsr hP hS hl => lv_bipush C.1 C.2.1 hd hv (k ls (.int v :: st) σ h H locs lsr hP hS hl)
theorem z_si (C : zCx p R s m args c cells slots D ids ad A own cc nL) {n : Int} {v : Int32} (hd : decode cc pc = .ok (.sipush n, 3)) (hv : (Int16.ofInt n).toInt32 = v) (k : zGo p l e R s m args below meth c cells slots QQ D ids ad A nL (pc + 3) K) : zGo p l e R s m args below meth c cells slots QQ D ids ad A nL (pc) (i_ic v K) :=
  fun ls st σ h H locs lsr hP hS hl => lv_sipush C.1 C.2.1 hd hv (k ls (.int v :: st) σ h H locs lsr hP hS hl)
theorem z_ldc (C : zCx p R s m args c cells slots D ids ad A own cc nL) {idx : Nat} {v : Int32} (hd : decode cc pc = .ok (.ldc idx, 2)) (hw : Cond.constant own idx v ∈ zAll) (k : zGo p l e R s m args below meth c cells slots QQ D ids ad A nL (pc + 2) K) : zGo p l e R s m args below meth c cells slots QQ D ids ad A nL (pc) (i_ic v K) :=
  fun ls st σ h H locs lsr hP hS hl => lv_ldc C.1 C.2.1 C.2.2.2.1 (C.2.2.2.2.1 _ hw) hd (k ls (.int v :: st) σ h H locs lsr hP hS hl)
theorem z_ldcw (C : zCx p R s m args c cells slots D ids ad A own cc nL) {idx : Nat} {v : Int32} (hd : decode cc pc = .ok (.ldc_w idx, 3)) (hw : Cond.constant own idx v ∈ zAll) (k : zGo p l e R s m args below meth c cells slots QQ D ids ad A nL (pc + 3) K) : zGo p l e R s m args below meth c cells slots QQ D ids ad A nL (pc) (i_ic v K) :=
  fun ls st σ h H locs lsr hP hS hl => lv_ldcw C.1 C.2.1 C.2.2.2.1 (C.2.2.2.2.1 _ hw) hd (k ls (.int v :: st) σ h H locs lsr hP hS hl)
theorem z_ldc2 (C : zCx p R s m args c cells slots D ids ad A own cc nL) {idx : Nat} {v : Int64} (hd : decode cc pc = .ok (.ldc2_w idx, 3)) (hw : Cond.constantLong own idx v ∈ zAll) (k : zGo p l e R s m args below meth c cells slots QQ D ids ad A nL (pc + 3) K) : zGo p l e R s m args below meth c cells slots QQ D ids ad A nL (pc) (i_lc v K) :=
  fun ls st σ h H locs lsr hP hS hl => lv_ldc2 C.1 C.2.1 C.2.2.2.1 (C.2.2.2.2.1 _ hw) hd (k ls (.long v :: st) σ h H locs lsr hP hS hl)
theorem z_lc (C : zCx p R s m args c cells slots D ids ad A own cc nL) {n : Fin 2} {v : Int64} (hd : decode cc pc = .ok (.lconst n, 1)) (hv : Int64.ofNat (n : Nat) = v) (k : zGo p l e R s m args below meth c cells slots QQ D ids ad A nL (pc + 1) K) : zGo p l e R s m args below meth c cells slots QQ D ids ad A nL (pc) (i_lc v K) :=
  fun ls st σ h H locs lsr hP hS hl => lv_lconst C.1 C.2.1 hd hv (k ls (.long v :: st) σ h H locs lsr hP hS hl)
theorem z_il (C : zCx p R s m args c cells slots D ids ad A own cc nL) {i : Nat} (hd : decode cc pc = .ok (.iload i, 2)) (k : zGo p l e R s m args below meth c cells slots QQ D ids ad A nL (pc + 2) K) : zGo p l e R s m args below meth c cells slots QQ D ids ad A nL (pc) (i_il i K) := by
  intro ls st σ h H locs lsr hP hS hl
  unfold i_il at h
  split at h
  · rename_i x hx
    exact lv_iload C.1 C.2.1 hd (hl.at hx (fun q => by cases q)) (k ls (.int x :: st) σ h H locs lsr hP hS hl)
  · exact h.elim
theorem z_iln (C : zCx p R s m args c cells slots D ids ad A own cc nL) {n : Fin 4} {i : Nat} (hd : decode cc pc = .ok (.iload_n n, 1)) (hi : (n : Nat) = i) (k : zGo p l e R s m args below meth c cells slots QQ D ids ad A nL (pc + 1) K) : zGo p l e R s m args below meth c cells slots QQ D ids ad A nL (pc) (i_il i K) := by
  intro ls st σ h H locs lsr hP hS hl
  unfold i_il at h
  split at h
  · rename_i x hx
    exact lv_iload_n C.1 C.2.1 hd hi (hl.at hx (fun q => by cases q)) (k ls (.int x :: st) σ h H locs lsr hP hS hl)
  · exact h.elim
theorem z_ll (C : zCx p R s m args c cells slots D ids ad A own cc nL) {i : Nat} (hd : decode cc pc = .ok (.lload i, 2)) (k : zGo p l e R s m args below meth c cells slots QQ D ids ad A nL (pc + 2) K) : zGo p l e R s m args below meth c cells slots QQ D ids ad A nL (pc) (i_ll i K) := by
  intro ls st σ h H locs lsr hP hS hl
  unfold i_ll at h
  split at h
  · rename_i x hx
    exact lv_lload C.1 C.2.1 hd (hl.at hx (fun q => by cases q)) (k ls (.long x :: st) σ h H locs lsr hP hS hl)
  · exact h.elim
theorem z_lln (C : zCx p R s m args c cells slots D ids ad A own cc nL) {n : Fin 4} {i : Nat} (hd : decode cc pc = .ok (.lload_n n, 1)) (hi : (n : Nat) = i) (k : zGo p l e R s m args below meth c cells slots QQ D ids ad A nL (pc + 1) K) : zGo p l e R s m args below meth c cells slots QQ D ids ad A nL (pc) (i_ll i K) := by
  intro ls st σ h H locs lsr hP hS hl
  unfold i_ll at h
  split at h
  · rename_i x hx
    exact lv_lload_n C.1 C.2.1 hd hi (hl.at hx (fun q => by cases q)) (k ls (.long x :: st) σ h H locs lsr hP hS hl)
  · exact h.elim
theorem z_al (C : zCx p R s m args c cells slots D ids ad A own cc nL) {i : Nat} (hd : decode cc pc = .ok (.aload i, 2)) (k : zGo p l e R s m args below meth c cells slots QQ D ids ad A nL (pc + 2) K) : zGo p l e R s m args below meth c cells slots QQ D ids ad A nL (pc) (i_al i K) := by
  intro ls st σ h H locs lsr hP hS hl
  unfold i_al at h
  split at h
  · rename_i x hx
    exact lv_aload C.1 C.2.1 hd (hl.at hx (fun q => by cases q)) (k ls (.ref x :: st) σ h H locs lsr hP hS hl)
  · exact h.elim
theorem z_aln (C : zCx p R s m args c cells slots D ids ad A own cc nL) {n : Fin 4} {i : Nat} (hd : decode cc pc = .ok (.aload_n n, 1)) (hi : (n : Nat) = i) (k : zGo p l e R s m args below meth c cells slots QQ D ids ad A nL (pc + 1) K) : zGo p l e R s m args below meth c cells slots QQ D ids ad A nL (pc) (i_al i K) := by
  intro ls st σ h H locs lsr hP hS hl
  unfold i_al at h
  split at h
  · rename_i x hx
    exact lv_aload_n C.1 C.2.1 hd hi (hl.at hx (fun q => by cases q)) (k ls (.ref x :: st) σ h H locs lsr hP hS hl)
  · exact h.elim
theorem z_is (C : zCx p R s m args c cells slots D ids ad A own cc nL) {i : Nat} (hd : decode cc pc = .ok (.istore i, 2)) (hn : i < nL) (k : zGo p l e R s m args below meth c cells slots QQ D ids ad A nL (pc + 2) K) : zGo p l e R s m args below meth c cells slots QQ D ids ad A nL (pc) (i_is i K) := by
  intro ls st σ h H locs lsr hP hS hl
  unfold i_is at h
  split at h
  · rename_i x r
    exact lv_istore C.1 C.2.1 hd hl.has hn rfl (fun lsr' hl' => k (zst ls i (.int x)) r σ h H locs lsr' hP hS (zLs.st hl'))
  · exact h.elim
theorem z_isn (C : zCx p R s m args c cells slots D ids ad A own cc nL) {n : Fin 4} {i : Nat} (hd : decode cc pc = .ok (.istore_n n, 1)) (hi : (n : Nat) = i) (hn : i < nL) (k : zGo p l e R s m args below meth c cells slots QQ D ids ad A nL (pc + 1) K) : zGo p l e R s m args below meth c cells slots QQ D ids ad A nL (pc) (i_is i K) := by
  intro ls st σ h H locs lsr hP hS hl
  unfold i_is at h
  split at h
  · rename_i x r
    exact lv_istore_n C.1 C.2.1 hd hi hl.has hn rfl (fun lsr' hl' => k (zst ls i (.int x)) r σ h H locs lsr' hP hS (zLs.st hl'))
  · exact h.elim
theorem z_lst (C : zCx p R s m args c cells slots D ids ad A own cc nL) {i : Nat} (hd : decode cc pc = .ok (.lstore i, 2)) (hn : i + 1 < nL) (k : zGo p l e R s m args below meth c cells slots QQ D ids ad A nL (pc + 2) K) : zGo p l e R s m args below meth c cells slots QQ D ids ad A nL (pc) (i_lst i K) := by
  intro ls st σ h H locs lsr hP hS hl
  unfold i_lst at h
  split at h
  · rename_i x r
    exact lv_lstore C.1 C.2.1 hd hl.has hn rfl (fun lsr' hl' => k (zstl ls i (.long x)) r σ h H locs lsr' hP hS (zLs.stl hl'))
  · exact h.elim
theorem z_lstn (C : zCx p R s m args c cells slots D ids ad A own cc nL) {n : Fin 4} {i : Nat} (hd : decode cc pc = .ok (.lstore_n n, 1)) (hi : (n : Nat) = i) (hn : i + 1 < nL) (k : zGo p l e R s m args below meth c cells slots QQ D ids ad A nL (pc + 1) K) : zGo p l e R s m args below meth c cells slots QQ D ids ad A nL (pc) (i_lst i K) := by
  intro ls st σ h H locs lsr hP hS hl
  unfold i_lst at h
  split at h
  · rename_i x r
    exact lv_lstore_n C.1 C.2.1 hd hi hl.has hn rfl (fun lsr' hl' => k (zstl ls i (.long x)) r σ h H locs lsr' hP hS (zLs.stl hl'))
  · exact h.elim
theorem z_as (C : zCx p R s m args c cells slots D ids ad A own cc nL) {i : Nat} (hd : decode cc pc = .ok (.astore i, 2)) (hn : i < nL) (k : zGo p l e R s m args below meth c cells slots QQ D ids ad A nL (pc + 2) K) : zGo p l e R s m args below meth c cells slots QQ D ids ad A nL (pc) (i_as i K) := by
  intro ls st σ h H locs lsr hP hS hl
  unfold i_as at h
  split at h
  · rename_i x r
    exact lv_astore C.1 C.2.1 hd hl.has hn rfl (fun lsr' hl' => k (zst ls i (.ref x)) r σ h H locs lsr' hP hS (zLs.st hl'))
  · exact h.elim
theorem z_asn (C : zCx p R s m args c cells slots D ids ad A own cc nL) {n : Fin 4} {i : Nat} (hd : decode cc pc = .ok (.astore_n n, 1)) (hi : (n : Nat) = i) (hn : i < nL) (k : zGo p l e R s m args below meth c cells slots QQ D ids ad A nL (pc + 1) K) : zGo p l e R s m args below meth c cells slots QQ D ids ad A nL (pc) (i_as i K) := by
  intro ls st σ h H locs lsr hP hS hl
  unfold i_as at h
  split at h
  · rename_i x r
    exact lv_astore_n C.1 C.2.1 hd hi hl.has hn rfl (fun lsr' hl' => k (zst ls i (.ref x)) r σ h H locs lsr' hP hS (zLs.st hl'))
  · exact h.elim
theorem z_inc (C : zCx p R s m args c cells slots D ids ad A own cc nL) {i : Nat} {n : Int} {d : Int32} (hd : decode cc pc = .ok (.iinc i n, 3)) (hv : Int32.ofInt n = d) (hn : i < nL) (k : zGo p l e R s m args below meth c cells slots QQ D ids ad A nL (pc + 3) K) : zGo p l e R s m args below meth c cells slots QQ D ids ad A nL (pc) (i_inc i d K) := by
  intro ls st σ h H locs lsr hP hS hl
  unfold i_inc at h
  split at h
  · rename_i x hx
    obtain ⟨j, hj⟩ := List.getElem?_of_mem (zprs_mem.mpr ⟨i, .int x, zget_at hx (fun q => by cases q), (fun q => by cases q), rfl⟩ : (0 + i, zreal ad (.int x)) ∈ zprs ad 0 ls)
    rw [Nat.zero_add] at hj
    exact lv_iinc (k := j) C.1 C.2.1 hd hl.has hj (by rw [hv]) hn rfl (fun lsr' hl' => k (zst ls i (.int (x + d))) st σ h H locs lsr' hP hS (zLs.st hl'))
  · exact h.elim
theorem z_iadd (C : zCx p R s m args c cells slots D ids ad A own cc nL) (hd : decode cc pc = .ok (.iadd, 1)) (k : zGo p l e R s m args below meth c cells slots QQ D ids ad A nL (pc + 1) K) : zGo p l e R s m args below meth c cells slots QQ D ids ad A nL (pc) (i_ib (fun x y => x + y) K) := by
  intro ls st σ h H locs lsr hP hS hl
  unfold i_ib at h
  split at h
  · exact lv_iadd C.1 C.2.1 hd (k ls _ σ h H locs lsr hP hS hl)
  · exact h.elim
theorem z_isub (C : zCx p R s m args c cells slots D ids ad A own cc nL) (hd : decode cc pc = .ok (.isub, 1)) (k : zGo p l e R s m args below meth c cells slots QQ D ids ad A nL (pc + 1) K) : zGo p l e R s m args below meth c cells slots QQ D ids ad A nL (pc) (i_ib (fun x y => x - y) K) := by
  intro ls st σ h H locs lsr hP hS hl
  unfold i_ib at h
  split at h
  · exact lv_isub C.1 C.2.1 hd (k ls _ σ h H locs lsr hP hS hl)
  · exact h.elim
theorem z_imul (C : zCx p R s m args c cells slots D ids ad A own cc nL) (hd : decode cc pc = .ok (.imul, 1)) (k : zGo p l e R s m args below meth c cells slots QQ D ids ad A nL (pc + 1) K) : zGo p l e R s m args below meth c cells slots QQ D ids ad A nL (pc) (i_ib (fun x y => x * y) K) := by
  intro ls st σ h H locs lsr hP hS hl
  unfold i_ib at h
  split at h
  · exact lv_imul C.1 C.2.1 hd (k ls _ σ h H locs lsr hP hS hl)
  · exact h.elim
theorem z_iand (C : zCx p R s m args c cells slots D ids ad A own cc nL) (hd : decode cc pc = .ok (.iand, 1)) (k : zGo p l e R s m args below meth c cells slots QQ D ids ad A nL (pc + 1) K) : zGo p l e R s m args below meth c cells slots QQ D ids ad A nL (pc) (i_ib (fun x y => x &&& y) K) := by
  intro ls st σ h H locs lsr hP hS hl
  unfold i_ib at h
  split at h
  · exact lv_iand C.1 C.2.1 hd (k ls _ σ h H locs lsr hP hS hl)
  · exact h.elim
theorem z_ior (C : zCx p R s m args c cells slots D ids ad A own cc nL) (hd : decode cc pc = .ok (.ior, 1)) (k : zGo p l e R s m args below meth c cells slots QQ D ids ad A nL (pc + 1) K) : zGo p l e R s m args below meth c cells slots QQ D ids ad A nL (pc) (i_ib (fun x y => x ||| y) K) := by
  intro ls st σ h H locs lsr hP hS hl
  unfold i_ib at h
  split at h
  · exact lv_ior C.1 C.2.1 hd (k ls _ σ h H locs lsr hP hS hl)
  · exact h.elim
theorem z_ixor (C : zCx p R s m args c cells slots D ids ad A own cc nL) (hd : decode cc pc = .ok (.ixor, 1)) (k : zGo p l e R s m args below meth c cells slots QQ D ids ad A nL (pc + 1) K) : zGo p l e R s m args below meth c cells slots QQ D ids ad A nL (pc) (i_ib (fun x y => x ^^^ y) K) := by
  intro ls st σ h H locs lsr hP hS hl
  unfold i_ib at h
  split at h
  · exact lv_ixor C.1 C.2.1 hd (k ls _ σ h H locs lsr hP hS hl)
  · exact h.elim
theorem z_ishl (C : zCx p R s m args c cells slots D ids ad A own cc nL) (hd : decode cc pc = .ok (.ishl, 1)) (k : zGo p l e R s m args below meth c cells slots QQ D ids ad A nL (pc + 1) K) : zGo p l e R s m args below meth c cells slots QQ D ids ad A nL (pc) (i_ib (fun x y => x <<< (y &&& 31)) K) := by
  intro ls st σ h H locs lsr hP hS hl
  unfold i_ib at h
  split at h
  · exact lv_ishl C.1 C.2.1 hd (k ls _ σ h H locs lsr hP hS hl)
  · exact h.elim
theorem z_ishr (C : zCx p R s m args c cells slots D ids ad A own cc nL) (hd : decode cc pc = .ok (.ishr, 1)) (k : zGo p l e R s m args below meth c cells slots QQ D ids ad A nL (pc + 1) K) : zGo p l e R s m args below meth c cells slots QQ D ids ad A nL (pc) (i_ib (fun x y => x >>> (y &&& 31)) K) := by
  intro ls st σ h H locs lsr hP hS hl
  unfold i_ib at h
  split at h
  · exact lv_ishr C.1 C.2.1 hd (k ls _ σ h H locs lsr hP hS hl)
  · exact h.elim
theorem z_ladd (C : zCx p R s m args c cells slots D ids ad A own cc nL) (hd : decode cc pc = .ok (.ladd, 1)) (k : zGo p l e R s m args below meth c cells slots QQ D ids ad A nL (pc + 1) K) : zGo p l e R s m args below meth c cells slots QQ D ids ad A nL (pc) (i_lb (fun x y => x + y) K) := by
  intro ls st σ h H locs lsr hP hS hl
  unfold i_lb at h
  split at h
  · exact lv_ladd C.1 C.2.1 hd (k ls _ σ h H locs lsr hP hS hl)
  · exact h.elim
theorem z_lsub (C : zCx p R s m args c cells slots D ids ad A own cc nL) (hd : decode cc pc = .ok (.lsub, 1)) (k : zGo p l e R s m args below meth c cells slots QQ D ids ad A nL (pc + 1) K) : zGo p l e R s m args below meth c cells slots QQ D ids ad A nL (pc) (i_lb (fun x y => x - y) K) := by
  intro ls st σ h H locs lsr hP hS hl
  unfold i_lb at h
  split at h
  · exact lv_lsub C.1 C.2.1 hd (k ls _ σ h H locs lsr hP hS hl)
  · exact h.elim
theorem z_lmul (C : zCx p R s m args c cells slots D ids ad A own cc nL) (hd : decode cc pc = .ok (.lmul, 1)) (k : zGo p l e R s m args below meth c cells slots QQ D ids ad A nL (pc + 1) K) : zGo p l e R s m args below meth c cells slots QQ D ids ad A nL (pc) (i_lb (fun x y => x * y) K) := by
  intro ls st σ h H locs lsr hP hS hl
  unfold i_lb at h
  split at h
  · exact lv_lmul C.1 C.2.1 hd (k ls _ σ h H locs lsr hP hS hl)
  · exact h.elim
theorem z_idiv (C : zCx p R s m args c cells slots D ids ad A own cc nL) (hd : decode cc pc = .ok (.idiv, 1)) (k : zGo p l e R s m args below meth c cells slots QQ D ids ad A nL (pc + 1) K) : zGo p l e R s m args below meth c cells slots QQ D ids ad A nL (pc) (i_idiv K) := by
  intro ls st σ h H locs lsr hP hS hl
  unfold i_idiv at h
  split at h
  · exact lv_idiv C.1 C.2.1 hd h.1 (k ls _ σ h.2 H locs lsr hP hS hl)
  · exact h.elim
theorem z_irem (C : zCx p R s m args c cells slots D ids ad A own cc nL) (hd : decode cc pc = .ok (.irem, 1)) (k : zGo p l e R s m args below meth c cells slots QQ D ids ad A nL (pc + 1) K) : zGo p l e R s m args below meth c cells slots QQ D ids ad A nL (pc) (i_irem K) := by
  intro ls st σ h H locs lsr hP hS hl
  unfold i_irem at h
  split at h
  · exact lv_irem C.1 C.2.1 hd h.1 (k ls _ σ h.2 H locs lsr hP hS hl)
  · exact h.elim
theorem z_ldiv (C : zCx p R s m args c cells slots D ids ad A own cc nL) (hd : decode cc pc = .ok (.ldiv, 1)) (k : zGo p l e R s m args below meth c cells slots QQ D ids ad A nL (pc + 1) K) : zGo p l e R s m args below meth c cells slots QQ D ids ad A nL (pc) (i_ldiv K) := by
  intro ls st σ h H locs lsr hP hS hl
  unfold i_ldiv at h
  split at h
  · exact lv_ldiv C.1 C.2.1 hd h.1 (k ls _ σ h.2 H locs lsr hP hS hl)
  · exact h.elim
theorem z_lrem (C : zCx p R s m args c cells slots D ids ad A own cc nL) (hd : decode cc pc = .ok (.lrem, 1)) (k : zGo p l e R s m args below meth c cells slots QQ D ids ad A nL (pc + 1) K) : zGo p l e R s m args below meth c cells slots QQ D ids ad A nL (pc) (i_lrem K) := by
  intro ls st σ h H locs lsr hP hS hl
  unfold i_lrem at h
  split at h
  · exact lv_lrem C.1 C.2.1 hd h.1 (k ls _ σ h.2 H locs lsr hP hS hl)
  · exact h.elim
theorem z_ineg (C : zCx p R s m args c cells slots D ids ad A own cc nL) (hd : decode cc pc = .ok (.ineg, 1)) (k : zGo p l e R s m args below meth c cells slots QQ D ids ad A nL (pc + 1) K) : zGo p l e R s m args below meth c cells slots QQ D ids ad A nL (pc) (i_iu (fun x => -x) K) := by
  intro ls st σ h H locs lsr hP hS hl
  unfold i_iu at h
  split at h
  · exact lv_ineg C.1 C.2.1 hd (k ls _ σ h H locs lsr hP hS hl)
  · exact h.elim
theorem z_i2c (C : zCx p R s m args c cells slots D ids ad A own cc nL) (hd : decode cc pc = .ok (.i2c, 1)) (k : zGo p l e R s m args below meth c cells slots QQ D ids ad A nL (pc + 1) K) : zGo p l e R s m args below meth c cells slots QQ D ids ad A nL (pc) (i_iu (fun x => (x.toUInt32 % 65536).toInt32) K) := by
  intro ls st σ h H locs lsr hP hS hl
  unfold i_iu at h
  split at h
  · exact lv_i2c C.1 C.2.1 hd rfl (k ls _ σ h H locs lsr hP hS hl)
  · exact h.elim
theorem z_iushr (C : zCx p R s m args c cells slots D ids ad A own cc nL) (hd : decode cc pc = .ok (.iushr, 1)) (k : zGo p l e R s m args below meth c cells slots QQ D ids ad A nL (pc + 1) K) : zGo p l e R s m args below meth c cells slots QQ D ids ad A nL (pc) (i_ib (fun x y => (x.toUInt32 >>> (y.toUInt32 &&& Int32.toUInt32 31)).toInt32) K) := by
  intro ls st σ h H locs lsr hP hS hl
  unfold i_ib at h
  split at h
  · exact lv_iushr C.1 C.2.1 hd rfl (k ls _ σ h H locs lsr hP hS hl)
  · exact h.elim
theorem z_lcmp (C : zCx p R s m args c cells slots D ids ad A own cc nL) (hd : decode cc pc = .ok (.lcmp, 1)) (k : zGo p l e R s m args below meth c cells slots QQ D ids ad A nL (pc + 1) K) : zGo p l e R s m args below meth c cells slots QQ D ids ad A nL (pc) (i_lcmp K) := by
  intro ls st σ h H locs lsr hP hS hl
  unfold i_lcmp at h
  split at h
  · exact W.lcmp C.1 C.2.1 hd (k ls _ σ h H locs lsr hP hS hl)
  · exact h.elim
theorem z_i2l (C : zCx p R s m args c cells slots D ids ad A own cc nL) (hd : decode cc pc = .ok (.i2l, 1)) (k : zGo p l e R s m args below meth c cells slots QQ D ids ad A nL (pc + 1) K) : zGo p l e R s m args below meth c cells slots QQ D ids ad A nL (pc) (i_i2l K) := by
  intro ls st σ h H locs lsr hP hS hl
  unfold i_i2l at h
  split at h
  · exact lv_i2l C.1 C.2.1 hd rfl (k ls _ σ h H locs lsr hP hS hl)
  · exact h.elim
theorem z_dup (C : zCx p R s m args c cells slots D ids ad A own cc nL) (hd : decode cc pc = .ok (.dup, 1)) (k : zGo p l e R s m args below meth c cells slots QQ D ids ad A nL (pc + 1) K) : zGo p l e R s m args below meth c cells slots QQ D ids ad A nL (pc) (i_dup K) := by
  intro ls st σ h H locs lsr hP hS hl
  unfold i_dup at h
  split at h
  · exact lv_dup C.1 C.2.1 hd rfl (k ls _ σ h H locs lsr hP hS hl)
  · exact lv_dup C.1 C.2.1 hd rfl (k ls _ σ h H locs lsr hP hS hl)
  · exact h.elim
theorem z_dup2 (C : zCx p R s m args c cells slots D ids ad A own cc nL) (hd : decode cc pc = .ok (.dup2, 1)) (k : zGo p l e R s m args below meth c cells slots QQ D ids ad A nL (pc + 1) K) : zGo p l e R s m args below meth c cells slots QQ D ids ad A nL (pc) (i_dup2 K) := by
  intro ls st σ h H locs lsr hP hS hl
  unfold i_dup2 at h
  split at h
  · exact lv_dup2_11 C.1 C.2.1 hd rfl rfl (k ls _ σ h H locs lsr hP hS hl)
  · exact h.elim
theorem z_pop (C : zCx p R s m args c cells slots D ids ad A own cc nL) (hd : decode cc pc = .ok (.pop, 1)) (k : zGo p l e R s m args below meth c cells slots QQ D ids ad A nL (pc + 1) K) : zGo p l e R s m args below meth c cells slots QQ D ids ad A nL (pc) (i_pop K) := by
  intro ls st σ h H locs lsr hP hS hl
  unfold i_pop at h
  split at h
  · exact lv_pop C.1 C.2.1 hd rfl (k ls _ σ h H locs lsr hP hS hl)
  · exact h.elim
theorem z_ifeq (C : zCx p R s m args c cells slots D ids ad A own cc nL) {off : Int} {tgt : Nat} (hd : decode cc pc = .ok (.ifCond .eq off, 3)) (ht : (pc : Int) + off = (tgt : Int)) (kt : zGo p l e R s m args below meth c cells slots QQ D ids ad A nL (tgt) K) (kf : zGo p l e R s m args below meth c cells slots QQ D ids ad A nL (pc + 3) K2) : zGo p l e R s m args below meth c cells slots QQ D ids ad A nL (pc) (i_if (fun x => x = 0) (fun x => ¬ x = 0) K K2) := by
  intro ls st σ h H locs lsr hP hS hl
  unfold i_if at h
  split at h
  · exact lv_if_eq C.1 C.2.1 hd ht (fun q => kt ls _ σ (h.1 q) H locs lsr hP hS hl) (fun q => kf ls _ σ (h.2 q) H locs lsr hP hS hl)
  · exact h.elim
theorem z_cmpeq (C : zCx p R s m args c cells slots D ids ad A own cc nL) {off : Int} {tgt : Nat} (hd : decode cc pc = .ok (.if_icmp .eq off, 3)) (ht : (pc : Int) + off = (tgt : Int)) (kt : zGo p l e R s m args below meth c cells slots QQ D ids ad A nL (tgt) K) (kf : zGo p l e R s m args below meth c cells slots QQ D ids ad A nL (pc + 3) K2) : zGo p l e R s m args below meth c cells slots QQ D ids ad A nL (pc) (i_cmp (fun x y => x = y) (fun x y => ¬ x = y) K K2) := by
  intro ls st σ h H locs lsr hP hS hl
  unfold i_cmp at h
  split at h
  · exact lv_icmp_eq C.1 C.2.1 hd ht (fun q => kt ls _ σ (h.1 q) H locs lsr hP hS hl) (fun q => kf ls _ σ (h.2 q) H locs lsr hP hS hl)
  · exact h.elim
theorem z_ifne (C : zCx p R s m args c cells slots D ids ad A own cc nL) {off : Int} {tgt : Nat} (hd : decode cc pc = .ok (.ifCond .ne off, 3)) (ht : (pc : Int) + off = (tgt : Int)) (kt : zGo p l e R s m args below meth c cells slots QQ D ids ad A nL (tgt) K) (kf : zGo p l e R s m args below meth c cells slots QQ D ids ad A nL (pc + 3) K2) : zGo p l e R s m args below meth c cells slots QQ D ids ad A nL (pc) (i_if (fun x => ¬ x = 0) (fun x => x = 0) K K2) := by
  intro ls st σ h H locs lsr hP hS hl
  unfold i_if at h
  split at h
  · exact lv_if_ne C.1 C.2.1 hd ht (fun q => kt ls _ σ (h.1 q) H locs lsr hP hS hl) (fun q => kf ls _ σ (h.2 q) H locs lsr hP hS hl)
  · exact h.elim
theorem z_cmpne (C : zCx p R s m args c cells slots D ids ad A own cc nL) {off : Int} {tgt : Nat} (hd : decode cc pc = .ok (.if_icmp .ne off, 3)) (ht : (pc : Int) + off = (tgt : Int)) (kt : zGo p l e R s m args below meth c cells slots QQ D ids ad A nL (tgt) K) (kf : zGo p l e R s m args below meth c cells slots QQ D ids ad A nL (pc + 3) K2) : zGo p l e R s m args below meth c cells slots QQ D ids ad A nL (pc) (i_cmp (fun x y => ¬ x = y) (fun x y => x = y) K K2) := by
  intro ls st σ h H locs lsr hP hS hl
  unfold i_cmp at h
  split at h
  · exact lv_icmp_ne C.1 C.2.1 hd ht (fun q => kt ls _ σ (h.1 q) H locs lsr hP hS hl) (fun q => kf ls _ σ (h.2 q) H locs lsr hP hS hl)
  · exact h.elim
theorem z_iflt (C : zCx p R s m args c cells slots D ids ad A own cc nL) {off : Int} {tgt : Nat} (hd : decode cc pc = .ok (.ifCond .lt off, 3)) (ht : (pc : Int) + off = (tgt : Int)) (kt : zGo p l e R s m args below meth c cells slots QQ D ids ad A nL (tgt) K) (kf : zGo p l e R s m args below meth c cells slots QQ D ids ad A nL (pc + 3) K2) : zGo p l e R s m args below meth c cells slots QQ D ids ad A nL (pc) (i_if (fun x => x < 0) (fun x => ¬ x < 0) K K2) := by
  intro ls st σ h H locs lsr hP hS hl
  unfold i_if at h
  split at h
  · exact lv_if_lt C.1 C.2.1 hd ht (fun q => kt ls _ σ (h.1 q) H locs lsr hP hS hl) (fun q => kf ls _ σ (h.2 q) H locs lsr hP hS hl)
  · exact h.elim
theorem z_cmplt (C : zCx p R s m args c cells slots D ids ad A own cc nL) {off : Int} {tgt : Nat} (hd : decode cc pc = .ok (.if_icmp .lt off, 3)) (ht : (pc : Int) + off = (tgt : Int)) (kt : zGo p l e R s m args below meth c cells slots QQ D ids ad A nL (tgt) K) (kf : zGo p l e R s m args below meth c cells slots QQ D ids ad A nL (pc + 3) K2) : zGo p l e R s m args below meth c cells slots QQ D ids ad A nL (pc) (i_cmp (fun x y => x < y) (fun x y => ¬ x < y) K K2) := by
  intro ls st σ h H locs lsr hP hS hl
  unfold i_cmp at h
  split at h
  · exact lv_icmp_lt C.1 C.2.1 hd ht (fun q => kt ls _ σ (h.1 q) H locs lsr hP hS hl) (fun q => kf ls _ σ (h.2 q) H locs lsr hP hS hl)
  · exact h.elim
theorem z_ifge (C : zCx p R s m args c cells slots D ids ad A own cc nL) {off : Int} {tgt : Nat} (hd : decode cc pc = .ok (.ifCond .ge off, 3)) (ht : (pc : Int) + off = (tgt : Int)) (kt : zGo p l e R s m args below meth c cells slots QQ D ids ad A nL (tgt) K) (kf : zGo p l e R s m args below meth c cells slots QQ D ids ad A nL (pc + 3) K2) : zGo p l e R s m args below meth c cells slots QQ D ids ad A nL (pc) (i_if (fun x => 0 ≤ x) (fun x => ¬ 0 ≤ x) K K2) := by
  intro ls st σ h H locs lsr hP hS hl
  unfold i_if at h
  split at h
  · exact lv_if_ge C.1 C.2.1 hd ht (fun q => kt ls _ σ (h.1 q) H locs lsr hP hS hl) (fun q => kf ls _ σ (h.2 q) H locs lsr hP hS hl)
  · exact h.elim
theorem z_cmpge (C : zCx p R s m args c cells slots D ids ad A own cc nL) {off : Int} {tgt : Nat} (hd : decode cc pc = .ok (.if_icmp .ge off, 3)) (ht : (pc : Int) + off = (tgt : Int)) (kt : zGo p l e R s m args below meth c cells slots QQ D ids ad A nL (tgt) K) (kf : zGo p l e R s m args below meth c cells slots QQ D ids ad A nL (pc + 3) K2) : zGo p l e R s m args below meth c cells slots QQ D ids ad A nL (pc) (i_cmp (fun x y => y ≤ x) (fun x y => ¬ y ≤ x) K K2) := by
  intro ls st σ h H locs lsr hP hS hl
  unfold i_cmp at h
  split at h
  · exact lv_icmp_ge C.1 C.2.1 hd ht (fun q => kt ls _ σ (h.1 q) H locs lsr hP hS hl) (fun q => kf ls _ σ (h.2 q) H locs lsr hP hS hl)
  · exact h.elim
theorem z_ifgt (C : zCx p R s m args c cells slots D ids ad A own cc nL) {off : Int} {tgt : Nat} (hd : decode cc pc = .ok (.ifCond .gt off, 3)) (ht : (pc : Int) + off = (tgt : Int)) (kt : zGo p l e R s m args below meth c cells slots QQ D ids ad A nL (tgt) K) (kf : zGo p l e R s m args below meth c cells slots QQ D ids ad A nL (pc + 3) K2) : zGo p l e R s m args below meth c cells slots QQ D ids ad A nL (pc) (i_if (fun x => 0 < x) (fun x => ¬ 0 < x) K K2) := by
  intro ls st σ h H locs lsr hP hS hl
  unfold i_if at h
  split at h
  · exact lv_if_gt C.1 C.2.1 hd ht (fun q => kt ls _ σ (h.1 q) H locs lsr hP hS hl) (fun q => kf ls _ σ (h.2 q) H locs lsr hP hS hl)
  · exact h.elim
theorem z_cmpgt (C : zCx p R s m args c cells slots D ids ad A own cc nL) {off : Int} {tgt : Nat} (hd : decode cc pc = .ok (.if_icmp .gt off, 3)) (ht : (pc : Int) + off = (tgt : Int)) (kt : zGo p l e R s m args below meth c cells slots QQ D ids ad A nL (tgt) K) (kf : zGo p l e R s m args below meth c cells slots QQ D ids ad A nL (pc + 3) K2) : zGo p l e R s m args below meth c cells slots QQ D ids ad A nL (pc) (i_cmp (fun x y => y < x) (fun x y => ¬ y < x) K K2) := by
  intro ls st σ h H locs lsr hP hS hl
  unfold i_cmp at h
  split at h
  · exact lv_icmp_gt C.1 C.2.1 hd ht (fun q => kt ls _ σ (h.1 q) H locs lsr hP hS hl) (fun q => kf ls _ σ (h.2 q) H locs lsr hP hS hl)
  · exact h.elim
theorem z_ifle (C : zCx p R s m args c cells slots D ids ad A own cc nL) {off : Int} {tgt : Nat} (hd : decode cc pc = .ok (.ifCond .le off, 3)) (ht : (pc : Int) + off = (tgt : Int)) (kt : zGo p l e R s m args below meth c cells slots QQ D ids ad A nL (tgt) K) (kf : zGo p l e R s m args below meth c cells slots QQ D ids ad A nL (pc + 3) K2) : zGo p l e R s m args below meth c cells slots QQ D ids ad A nL (pc) (i_if (fun x => x ≤ 0) (fun x => ¬ x ≤ 0) K K2) := by
  intro ls st σ h H locs lsr hP hS hl
  unfold i_if at h
  split at h
  · exact lv_if_le C.1 C.2.1 hd ht (fun q => kt ls _ σ (h.1 q) H locs lsr hP hS hl) (fun q => kf ls _ σ (h.2 q) H locs lsr hP hS hl)
  · exact h.elim
theorem z_cmple (C : zCx p R s m args c cells slots D ids ad A own cc nL) {off : Int} {tgt : Nat} (hd : decode cc pc = .ok (.if_icmp .le off, 3)) (ht : (pc : Int) + off = (tgt : Int)) (kt : zGo p l e R s m args below meth c cells slots QQ D ids ad A nL (tgt) K) (kf : zGo p l e R s m args below meth c cells slots QQ D ids ad A nL (pc + 3) K2) : zGo p l e R s m args below meth c cells slots QQ D ids ad A nL (pc) (i_cmp (fun x y => x ≤ y) (fun x y => ¬ x ≤ y) K K2) := by
  intro ls st σ h H locs lsr hP hS hl
  unfold i_cmp at h
  split at h
  · exact lv_icmp_le C.1 C.2.1 hd ht (fun q => kt ls _ σ (h.1 q) H locs lsr hP hS hl) (fun q => kf ls _ σ (h.2 q) H locs lsr hP hS hl)
  · exact h.elim
theorem z_goto (C : zCx p R s m args c cells slots D ids ad A own cc nL) {off : Int} {tgt : Nat} (hd : decode cc pc = .ok (.goto off, 3)) (ht : (pc : Int) + off = (tgt : Int)) (k : zGo p l e R s m args below meth c cells slots QQ D ids ad A nL (tgt) K) : zGo p l e R s m args below meth c cells slots QQ D ids ad A nL (pc) K :=
  fun ls st σ h H locs lsr hP hS hl => lv_goto C.1 C.2.1 hd ht (k ls st σ h H locs lsr hP hS hl)
theorem z_jmp {Y : Nat → zK} {b tgt : Nat} {mk : List Bool} (hY : ∀ ls st σ, Y b ls st σ → zW p l e R s m args below meth c cells slots QQ D ids ad A nL tgt ls st σ) : zGo p l e R s m args below meth c cells slots QQ D ids ad A nL (tgt) (i_jmp Y b mk) :=
  fun ls st σ h H locs lsr hP hS hl => hY (zkp mk ls) st σ h H locs lsr hP hS (hl.kp mk)
theorem z_table (C : zCx p R s m args c cells slots D ids ad A own cc nL) {dflt lo hi : Int} {offs : Array Int} {len : Nat} {ps : List (Int32 × zK)} {df : zK} {tgts : List Nat} {td : Nat} (hd : decode cc pc = .ok (.tableswitch dflt lo hi offs, len)) {keys : List Int32} (hks : ps.map (fun q => q.1) = keys) (hk0 : ∀ (j : Nat), j < offs.size → (keys[j]?).map (fun q => q.toInt) = some (lo + j)) (hl0 : ps.length = offs.size) (hhi : hi = lo + offs.size - 1) (ht : ∀ (j : Nat), j < offs.size → (offs[j]?).map (fun o => (pc : Int) + o) = (tgts[j]?).map (fun t => (t : Int))) (htd : (pc : Int) + dflt = (td : Int))
    (kt : ∀ (j : Nat) (q : Int32 × zK) (t : Nat), ps[j]? = some q → tgts[j]? = some t → zGo p l e R s m args below meth c cells slots QQ D ids ad A nL (t) q.2) (kd : zGo p l e R s m args below meth c cells slots QQ D ids ad A nL (td) df) : zGo p l e R s m args below meth c cells slots QQ D ids ad A nL (pc) (i_sw ps df) := by
  have hk : ∀ (j : Nat), j < offs.size → (ps[j]?).map (fun q => q.1.toInt) = some (lo + j) := by
    intro j hj
    have := hk0 j hj
    rw [← hks, List.getElem?_map, Option.map_map] at this
    exact this
  intro ls st σ h H locs lsr hP hS hl
  unfold i_sw at h
  split at h
  · rename_i x r
    obtain ⟨h1, h2⟩ := h
    by_cases hx : x.toInt < lo ∨ hi < x.toInt
    · refine lv_tableOut C.1 C.2.1 hd hx htd (kd ls r σ (h2 ?_) H locs lsr hP hS hl)
      have gen : ∀ (qs : List (Int32 × zK)), (∀ q ∈ qs, ∃ j : Nat, j < offs.size ∧ q.1.toInt = lo + j) → zne x qs := by
        intro qs
        induction qs with
        | nil => intro _; exact True.intro
        | cons q qs ih =>
          intro hq
          obtain ⟨qk, qt⟩ := q
          refine ⟨fun e => ?_, ih (fun q h => hq q (List.mem_cons_of_mem _ h))⟩
          obtain ⟨j, h3, h4⟩ := hq _ List.mem_cons_self
          have h5 : x.toInt = lo + (j : Int) := by rw [e]; exact h4
          omega
      refine gen ps (fun q hq => ?_)
      obtain ⟨j, hj⟩ := List.getElem?_of_mem hq
      have hjl : j < offs.size := by rw [← hl0]; exact (List.getElem?_eq_some_iff.mp hj).1
      have := hk j hjl
      rw [hj] at this
      exact ⟨j, hjl, Option.some.inj this⟩
    · have a1 : ¬ x.toInt < lo := fun q => hx (Or.inl q)
      have a2 : ¬ hi < x.toInt := fun q => hx (Or.inr q)
      obtain ⟨j, hj⟩ : ∃ j : Nat, x.toInt = lo + j := ⟨(x.toInt - lo).toNat, by omega⟩
      have hjl : j < offs.size := by omega
      have e1 := hk j hjl
      have e2 := ht j hjl
      obtain ⟨o, ho⟩ : ∃ o, offs[j]? = some o := ⟨offs[j], Array.getElem?_eq_getElem hjl⟩
      cases hp : ps[j]? with
      | none => rw [hp] at e1; cases e1
      | some q =>
        cases hg : tgts[j]? with
        | none => rw [ho, hg] at e2; cases e2
        | some t =>
          rw [hp] at e1
          rw [ho, hg] at e2
          have sel : ∀ (qs : List (Int32 × zK)) (i : Nat), zsw x ls r σ qs → qs[i]? = some q → q.2 ls r σ := by
            intro qs
            induction qs with
            | nil => intro i _ h; simp at h
            | cons q' qs ih =>
              intro i h5 h6
              obtain ⟨qk, qt⟩ := q'
              cases i with
              | zero =>
                simp only [List.getElem?_cons_zero, Option.some.injEq] at h6
                subst h6
                exact h5.1 (Int32.toInt_inj.mp (by rw [hj]; exact (Option.some.inj e1).symm))
              | succ i => exact ih i h5.2 (by simpa using h6)
          exact lv_tableIn C.1 C.2.1 hd a1 a2 (by rw [hj, show (lo + (j : Int) - lo).toNat = j by omega]; exact ho) (Option.some.inj e2) (kt j q t hp hg ls r σ (sel ps j h1 hp) H locs lsr hP hS hl)
  · exact h.elim
theorem z_look2 (C : zCx p R s m args c cells slots D ids ad A own cc nL) {dflt o1 o2 : Int} {k1 k2 : Int32} {i1 i2 : Int} {len : Nat} {t1 t2 df : zK} {g1 g2 td : Nat} (hd : decode cc pc = .ok (.lookupswitch dflt #[(i1, o1), (i2, o2)], len)) (e1 : k1.toInt = i1) (e2 : k2.toInt = i2) (hlt : i1 < i2) (ht1 : (pc : Int) + o1 = (g1 : Int)) (ht2 : (pc : Int) + o2 = (g2 : Int)) (htd : (pc : Int) + dflt = (td : Int))
    (h1 : zGo p l e R s m args below meth c cells slots QQ D ids ad A nL (g1) t1) (h2 : zGo p l e R s m args below meth c cells slots QQ D ids ad A nL (g2) t2) (kd : zGo p l e R s m args below meth c cells slots QQ D ids ad A nL (td) df) : zGo p l e R s m args below meth c cells slots QQ D ids ad A nL (pc) (i_sw [(k1, t1), (k2, t2)] df) := by
  intro ls st σ h H locs lsr hP hS hl
  unfold i_sw at h
  split at h
  · rename_i x r
    obtain ⟨⟨a1, a2, -⟩, a3⟩ := h
    have hp : ((#[(i1, o1), (i2, o2)] : Array (Int × Int)).toList.zip ((#[(i1, o1), (i2, o2)] : Array (Int × Int)).toList.drop 1)).all (fun (a, next) => a.1 < next.1) = true := by simp [hlt]
    by_cases c1 : x = k1
    · exact lv_lookup C.1 C.2.1 hd hp (off := o1) (by show Op.lookupswitch.offset [(i1, o1), (i2, o2)] dflt x.toInt = o1; rw [Op.lookupswitch.offset_cons, if_pos (by rw [c1]; exact e1.symm)]) ht1 (h1 ls r σ (a1 c1) H locs lsr hP hS hl)
    · by_cases c2 : x = k2
      · exact lv_lookup C.1 C.2.1 hd hp (off := o2) (by show Op.lookupswitch.offset [(i1, o1), (i2, o2)] dflt x.toInt = o2; rw [lv_osw c1 e1, Op.lookupswitch.offset_cons, if_pos (by rw [c2]; exact e2.symm)]) ht2 (h2 ls r σ (a2 c2) H locs lsr hP hS hl)
      · exact lv_lookup C.1 C.2.1 hd hp (off := dflt) (by show Op.lookupswitch.offset [(i1, o1), (i2, o2)] dflt x.toInt = dflt; rw [lv_osw c1 e1, lv_osw c2 e2]; rfl) htd (kd ls r σ (a3 ⟨c1, c2, True.intro⟩) H locs lsr hP hS hl)
  · exact h.elim
end ZSIM
end
section
/-! Fields, arrays, copies, calls, returns; a method out of its blocks. -/
-- every class's own words are shared
theorem zu0 : ∀ w ∈ u_ws RX0 TX0 0, w ∈ zAll := by simp [u_ws]
theorem zu1 : ∀ w ∈ u_ws RX1 TX1 16, w ∈ zAll := by
  intro w hw
  obtain ⟨k, hk, rfl⟩ := List.mem_map.mp hw
  have hk := List.mem_range.mp hk
  match k, hk with
  | 0, _ => exact zti 79 (by decide +kernel) (by decide +kernel)
  | 1, _ => exact zti 81 (by decide +kernel) (by decide +kernel)
  | 2, _ => exact zti 83 (by decide +kernel) (by decide +kernel)
  | 3, _ => exact zti 85 (by decide +kernel) (by decide +kernel)
  | 4, _ => exact zti 87 (by decide +kernel) (by decide +kernel)
  | 5, _ => exact zti 89 (by decide +kernel) (by decide +kernel)
  | 6, _ => exact zti 91 (by decide +kernel) (by decide +kernel)
  | 7, _ => exact zti 93 (by decide +kernel) (by decide +kernel)
  | 8, _ => exact zti 95 (by decide +kernel) (by decide +kernel)
  | 9, _ => exact zti 97 (by decide +kernel) (by decide +kernel)
  | 10, _ => exact zti 99 (by decide +kernel) (by decide +kernel)
  | 11, _ => exact zti 101 (by decide +kernel) (by decide +kernel)
  | 12, _ => exact zti 103 (by decide +kernel) (by decide +kernel)
  | 13, _ => exact zti 105 (by decide +kernel) (by decide +kernel)
  | 14, _ => exact zti 107 (by decide +kernel) (by decide +kernel)
  | 15, _ => exact zti 109 (by decide +kernel) (by decide +kernel)
  | k + 16, h => exact absurd h (by omega)
theorem zu2 : ∀ w ∈ u_ws RX2 TX2 0, w ∈ zAll := by simp [u_ws]
theorem zu3 : ∀ w ∈ u_ws RX3 TX3 6, w ∈ zAll := by
  intro w hw
  obtain ⟨k, hk, rfl⟩ := List.mem_map.mp hw
  have hk := List.mem_range.mp hk
  match k, hk with
  | 0, _ => exact zti 257 (by decide +kernel) (by decide +kernel)
  | 1, _ => exact zti 259 (by decide +kernel) (by decide +kernel)
  | 2, _ => exact zti 261 (by decide +kernel) (by decide +kernel)
  | 3, _ => exact zti 263 (by decide +kernel) (by decide +kernel)
  | 4, _ => exact zti 265 (by decide +kernel) (by decide +kernel)
  | 5, _ => exact zti 267 (by decide +kernel) (by decide +kernel)
  | k + 6, h => exact absurd h (by omega)
theorem zu4 : ∀ w ∈ u_ws RX4 TX4 0, w ∈ zAll := by simp [u_ws]
theorem zu5 : ∀ w ∈ u_ws RX5 TX5 0, w ∈ zAll := by simp [u_ws]
theorem zu6 : ∀ w ∈ u_ws RX6 TX6 0, w ∈ zAll := by simp [u_ws]
theorem zu7 : ∀ w ∈ u_ws RX7 TX7 3, w ∈ zAll := by
  intro w hw
  obtain ⟨k, hk, rfl⟩ := List.mem_map.mp hw
  have hk := List.mem_range.mp hk
  match k, hk with
  | 0, _ => exact zti 235 (by decide +kernel) (by decide +kernel)
  | 1, _ => exact zti 237 (by decide +kernel) (by decide +kernel)
  | 2, _ => exact zti 239 (by decide +kernel) (by decide +kernel)
  | k + 3, h => exact absurd h (by omega)
theorem zu8 : ∀ w ∈ u_ws RX8 TX8 10, w ∈ zAll := by
  intro w hw
  obtain ⟨k, hk, rfl⟩ := List.mem_map.mp hw
  have hk := List.mem_range.mp hk
  match k, hk with
  | 0, _ => exact zti 205 (by decide +kernel) (by decide +kernel)
  | 1, _ => exact zti 207 (by decide +kernel) (by decide +kernel)
  | 2, _ => exact zti 209 (by decide +kernel) (by decide +kernel)
  | 3, _ => exact zti 211 (by decide +kernel) (by decide +kernel)
  | 4, _ => exact zti 213 (by decide +kernel) (by decide +kernel)
  | 5, _ => exact zti 215 (by decide +kernel) (by decide +kernel)
  | 6, _ => exact zti 217 (by decide +kernel) (by decide +kernel)
  | 7, _ => exact zti 219 (by decide +kernel) (by decide +kernel)
  | 8, _ => exact zti 221 (by decide +kernel) (by decide +kernel)
  | 9, _ => exact zti 223 (by decide +kernel) (by decide +kernel)
  | k + 10, h => exact absurd h (by omega)
theorem zu9 : ∀ w ∈ u_ws RX9 TX9 6, w ∈ zAll := by
  intro w hw
  obtain ⟨k, hk, rfl⟩ := List.mem_map.mp hw
  have hk := List.mem_range.mp hk
  match k, hk with
  | 0, _ => exact zti 127 (by decide +kernel) (by decide +kernel)
  | 1, _ => exact zti 129 (by decide +kernel) (by decide +kernel)
  | 2, _ => exact zti 131 (by decide +kernel) (by decide +kernel)
  | 3, _ => exact zti 133 (by decide +kernel) (by decide +kernel)
  | 4, _ => exact zti 135 (by decide +kernel) (by decide +kernel)
  | 5, _ => exact zti 137 (by decide +kernel) (by decide +kernel)
  | k + 6, h => exact absurd h (by omega)
theorem zu10 : ∀ w ∈ u_ws RX10 TX10 0, w ∈ zAll := by simp [u_ws]
theorem zu11 : ∀ w ∈ u_ws RX11 TX11 11, w ∈ zAll := by
  intro w hw
  obtain ⟨k, hk, rfl⟩ := List.mem_map.mp hw
  have hk := List.mem_range.mp hk
  match k, hk with
  | 0, _ => exact zti 281 (by decide +kernel) (by decide +kernel)
  | 1, _ => exact zti 283 (by decide +kernel) (by decide +kernel)
  | 2, _ => exact zti 285 (by decide +kernel) (by decide +kernel)
  | 3, _ => exact zti 287 (by decide +kernel) (by decide +kernel)
  | 4, _ => exact zti 289 (by decide +kernel) (by decide +kernel)
  | 5, _ => exact zti 291 (by decide +kernel) (by decide +kernel)
  | 6, _ => exact zti 293 (by decide +kernel) (by decide +kernel)
  | 7, _ => exact zti 295 (by decide +kernel) (by decide +kernel)
  | 8, _ => exact zti 297 (by decide +kernel) (by decide +kernel)
  | 9, _ => exact zti 299 (by decide +kernel) (by decide +kernel)
  | 10, _ => exact zti 301 (by decide +kernel) (by decide +kernel)
  | k + 11, h => exact absurd h (by omega)
theorem zu12 : ∀ w ∈ u_ws RX12 TX12 25, w ∈ zAll := by
  intro w hw
  obtain ⟨k, hk, rfl⟩ := List.mem_map.mp hw
  have hk := List.mem_range.mp hk
  match k, hk with
  | 0, _ => exact zti 866 (by decide +kernel) (by decide +kernel)
  | 1, _ => exact zti 868 (by decide +kernel) (by decide +kernel)
  | 2, _ => exact zti 870 (by decide +kernel) (by decide +kernel)
  | 3, _ => exact zti 872 (by decide +kernel) (by decide +kernel)
  | 4, _ => exact zti 874 (by decide +kernel) (by decide +kernel)
  | 5, _ => exact zti 876 (by decide +kernel) (by decide +kernel)
  | 6, _ => exact zti 878 (by decide +kernel) (by decide +kernel)
  | 7, _ => exact zti 880 (by decide +kernel) (by decide +kernel)
  | 8, _ => exact zti 882 (by decide +kernel) (by decide +kernel)
  | 9, _ => exact zti 884 (by decide +kernel) (by decide +kernel)
  | 10, _ => exact zti 886 (by decide +kernel) (by decide +kernel)
  | 11, _ => exact zti 888 (by decide +kernel) (by decide +kernel)
  | 12, _ => exact zti 890 (by decide +kernel) (by decide +kernel)
  | 13, _ => exact zti 892 (by decide +kernel) (by decide +kernel)
  | 14, _ => exact zti 894 (by decide +kernel) (by decide +kernel)
  | 15, _ => exact zti 896 (by decide +kernel) (by decide +kernel)
  | 16, _ => exact zti 898 (by decide +kernel) (by decide +kernel)
  | 17, _ => exact zti 900 (by decide +kernel) (by decide +kernel)
  | 18, _ => exact zti 902 (by decide +kernel) (by decide +kernel)
  | 19, _ => exact zti 904 (by decide +kernel) (by decide +kernel)
  | 20, _ => exact zti 906 (by decide +kernel) (by decide +kernel)
  | 21, _ => exact zti 908 (by decide +kernel) (by decide +kernel)
  | 22, _ => exact zti 910 (by decide +kernel) (by decide +kernel)
  | 23, _ => exact zti 912 (by decide +kernel) (by decide +kernel)
  | 24, _ => exact zti 914 (by decide +kernel) (by decide +kernel)
  | k + 25, h => exact absurd h (by omega)
theorem zu (ci : Nat) (q : vw_C) (h : zCl[ci]? = some q) : ∀ w ∈ u_ws q.1 q.2.1 q.2.2, w ∈ zAll := by
  match ci, h with
  | 0, h => cases h; exact zu0
  | 1, h => cases h; exact zu1
  | 2, h => cases h; exact zu2
  | 3, h => cases h; exact zu3
  | 4, h => cases h; exact zu4
  | 5, h => cases h; exact zu5
  | 6, h => cases h; exact zu6
  | 7, h => cases h; exact zu7
  | 8, h => cases h; exact zu8
  | 9, h => cases h; exact zu9
  | 10, h => cases h; exact zu10
  | 11, h => cases h; exact zu11
  | 12, h => cases h; exact zu12
  | ci + 13, h => simp [zCl] at h
section ZSIM2
variable {p : Program} {l : Launch} {e : Env} {R : Room} {s : State} {m : MethodId} {args : Array Value} {below : List Frame} {meth : Method} {c : Code} {cells slots : Nat} {QQ : State → Prop} {D : va_G} {ids : zIds} {ad : Nat → Nat} {A : Nat → Prop} {own : String} {cc : ByteArray} {nL : Nat}
variable {pc : Nat} {K K2 : zK}
/-- a field's link: own class's or a nest mate's -/
def zFL (own : String) (idx ci j : Nat) : Prop := ∃ (C : String) (T : u_T) (N : Nat), zCl[ci]? = some (C, T, N) ∧ j < N ∧ (Cond.fieldLink own idx (T j).1 (T j).2.1 (T j).2.2.1 ∈ zAll ∨ ∃ host, (own, idx, (T j).1, (T j).2.1, (T j).2.2.1, host) ∈ zNF)
theorem z_gf (C : zCx p R s m args c cells slots D ids ad A own cc nL) {idx ci j : Nat} (hd : decode cc pc = .ok (.getfield idx, 3)) (hF : zFL own idx ci j) (k : zGo p l e R s m args below meth c cells slots QQ D ids ad A nL (pc + 3) K) : zGo p l e R s m args below meth c cells slots QQ D ids ad A nL (pc) (i_gf ci j K) := by
  intro ls st σ h H locs lsr hP hS hl
  unfold i_gf at h
  split at h
  · rename_i o r
    obtain ⟨ho, h⟩ := zcd h
    have ho := zbe ho
    obtain ⟨Cn, T, N, hc, hj, hlk⟩ := hF
    have hci : ¬ ci = 99 := fun q => by rw [q] at hc; simp [zCl] at hc
    have hoc : ¬ zoc o = 99 := by rw [ho]; exact hci
    have hlen : (zfl o).length = N := by
      have h1 := zfl_len o
      obtain ⟨-, h2⟩ := zoc_lay hoc
      have h3 := h1 (by rw [h2])
      rw [h2] at h3
      rw [ho] at h3
      dsimp only at h3
      rw [hc] at h3
      exact h3
    have hv : (zFs ad σ o 0 (zfl o))[j]? = some (zreal ad (zfld σ o j (zft o j))) := by
      rw [zFs_get, List.getElem?_eq_getElem (by rw [hlen]; exact hj), Option.map_some, Nat.zero_add, zft_fl hoc, List.getD_eq_getElem?_getD, List.getElem?_eq_getElem (by rw [hlen]; exact hj)]
      rfl
    have hw := zWo_o (ad := ad) (ids := ids) (σ := σ) hoc
    rw [ho] at hw
    rcases hlk with hlk | ⟨host, hlk⟩
    · exact va_get (D := D) C.1 C.2.1 C.2.2.2.2.1 (zu ci _ hc) C.2.2.2.1 C.2.2.2.2.2.1.1 hP o hw hc j hj (C.2.2.2.2.1 _ hlk) (fun _ h9 => h9) hv hd (k ls _ σ h H locs lsr hP hS hl)
    · exact va_getN (D := D) C.1 C.2.1 C.2.2.2.2.1 (zu ci _ hc) C.2.2.2.1 C.2.2.2.2.2.1.1 hP o hw hc j hj (va_Nw.use rfl (C.2.2.2.2.2.1.2.1 _ hlk)) (fun _ h9 => h9) hv hd (k ls _ σ h H locs lsr hP hS hl)
  · exact h.elim
/-- a field that is written: not final, of type int or long -/
def zFP (own : String) (idx ci j : Nat) (ty : FieldType) : Prop := ∃ (C : String) (T : u_T) (N : Nat) (ty0 : Nat → FieldType), zCl[ci]? = some (C, T, N) ∧ j < N ∧ (∀ k, k < N → parseFieldDescriptor (T k).2.2.1 = some (ty0 k)) ∧ (∀ a, a < N → ∀ b, b < N → a ≠ b → (T a).2.1 ≠ (T b).2.1) ∧ (T j).2.2.2 = false ∧ parseFieldDescriptor (T j).2.2.1 = some ty ∧ (Cond.fieldLink own idx (T j).1 (T j).2.1 (T j).2.2.1 ∈ zAll ∨ ∃ host, (own, idx, (T j).1, (T j).2.1, (T j).2.2.1, host) ∈ zNF)
theorem z_pf (C : zCx p R s m args c cells slots D ids ad A own cc nL) {idx ci j : Nat} (hd : decode cc pc = .ok (.putfield idx, 3)) (hF : zFP own idx ci j .int) (k : zGo p l e R s m args below meth c cells slots QQ D ids ad A nL (pc + 3) K) : zGo p l e R s m args below meth c cells slots QQ D ids ad A nL (pc) (i_pf ci j K) := by
  intro ls st σ h H locs lsr hP hS hl
  unfold i_pf at h
  split at h
  · rename_i x o r
    obtain ⟨ho, hz, h⟩ := zcd2 h
    have ho := zbe ho
    have hz := zbe hz
    obtain ⟨Cn, T, N, ty0, hc, hj, hty, hnm, hfin, hdd, hlk⟩ := hF
    have hci : ¬ ci = 99 := fun q => by rw [q] at hc; simp [zCl] at hc
    have hoc : ¬ zoc o = 99 := by rw [ho]; exact hci
    have hlen : (zfl o).length = N := by
      have h1 := zfl_len o
      obtain ⟨-, h2⟩ := zoc_lay hoc
      have h3 := h1 (by rw [h2])
      rw [h2] at h3
      rw [ho] at h3
      dsimp only at h3
      rw [hc] at h3
      exact h3
    rw [zft_fl hoc] at hz
    have hset := zput_o (ad := ad) (ids := ids) (σ := σ) (v := x) hoc hz
    have hw := zWo_o (ad := ad) (ids := ids) (σ := σ) hoc
    rw [ho] at hw hset
    have hD := (C.2.2.2.2.2.1.2.2.2.1).D ids σ
    rcases hlk with hlk | ⟨host, hlk⟩
    · exact va_put (D := D) C.1 C.2.1 C.2.2.2.2.1 (zu ci _ hc) ty0 hty hnm C.2.2.2.1 C.2.2.2.2.2.1.1 hP hD hS o hw hc j hj (C.2.2.2.2.1 _ hlk) (fun _ h9 => h9) hfin hdd rfl rfl (by rw [zFs_len, hlen]; exact hj) hd (fun H1 locs1 hP1 _ hS1 => k ls r (zput σ o j x) h H1 locs1 lsr (by rw [← hset]; exact hP1) hS1 hl)
    · exact va_putN (D := D) C.1 C.2.1 C.2.2.2.2.1 (zu ci _ hc) ty0 hty hnm C.2.2.2.1 C.2.2.2.2.2.1.1 hP hD hS o hw hc j hj (va_Nw.use rfl (C.2.2.2.2.2.1.2.1 _ hlk)) (fun _ h9 => h9) hfin hdd rfl rfl (by rw [zFs_len, hlen]; exact hj) hd (fun H1 locs1 hP1 _ hS1 => k ls r (zput σ o j x) h H1 locs1 lsr (by rw [← hset]; exact hP1) hS1 hl)
  · exact h.elim
theorem z_pfl (C : zCx p R s m args c cells slots D ids ad A own cc nL) {idx ci j : Nat} (hd : decode cc pc = .ok (.putfield idx, 3)) (hF : zFP own idx ci j .long) (k : zGo p l e R s m args below meth c cells slots QQ D ids ad A nL (pc + 3) K) : zGo p l e R s m args below meth c cells slots QQ D ids ad A nL (pc) (i_pfl ci j K) := by
  intro ls st σ h H locs lsr hP hS hl
  unfold i_pfl at h
  split at h
  · rename_i x o r
    obtain ⟨ho, hz, h⟩ := zcd2 h
    have ho := zbe ho
    have hz := zbe hz
    obtain ⟨Cn, T, N, ty0, hc, hj, hty, hnm, hfin, hdd, hlk⟩ := hF
    have hci : ¬ ci = 99 := fun q => by rw [q] at hc; simp [zCl] at hc
    have hoc : ¬ zoc o = 99 := by rw [ho]; exact hci
    have hlen : (zfl o).length = N := by
      have h1 := zfl_len o
      obtain ⟨-, h2⟩ := zoc_lay hoc
      have h3 := h1 (by rw [h2])
      rw [h2] at h3
      rw [ho] at h3
      dsimp only at h3
      rw [hc] at h3
      exact h3
    rw [zft_fl hoc] at hz
    have hset := zputl_o (ad := ad) (ids := ids) (σ := σ) (v := x) hoc hz
    have hw := zWo_o (ad := ad) (ids := ids) (σ := σ) hoc
    rw [ho] at hw hset
    have hD := (C.2.2.2.2.2.1.2.2.2.1).D ids σ
    rcases hlk with hlk | ⟨host, hlk⟩
    · exact va_put (D := D) C.1 C.2.1 C.2.2.2.2.1 (zu ci _ hc) ty0 hty hnm C.2.2.2.1 C.2.2.2.2.2.1.1 hP hD hS o hw hc j hj (C.2.2.2.2.1 _ hlk) (fun _ h9 => h9) hfin hdd rfl rfl (by rw [zFs_len, hlen]; exact hj) hd (fun H1 locs1 hP1 _ hS1 => k ls r (zputl σ o j x) h H1 locs1 lsr (by rw [← hset]; exact hP1) hS1 hl)
    · exact va_putN (D := D) C.1 C.2.1 C.2.2.2.2.1 (zu ci _ hc) ty0 hty hnm C.2.2.2.1 C.2.2.2.2.2.1.1 hP hD hS o hw hc j hj (va_Nw.use rfl (C.2.2.2.2.2.1.2.1 _ hlk)) (fun _ h9 => h9) hfin hdd rfl rfl (by rw [zFs_len, hlen]; exact hj) hd (fun H1 locs1 hP1 _ hS1 => k ls r (zputl σ o j x) h H1 locs1 lsr (by rw [← hset]; exact hP1) hS1 hl)
  · exact h.elim
theorem z_ia (C : zCx p R s m args c cells slots D ids ad A own cc nL) (hd : decode cc pc = .ok (.iaload, 1)) (k : zGo p l e R s m args below meth c cells slots QQ D ids ad A nL (pc + 1) K) : zGo p l e R s m args below meth c cells slots QQ D ids ad A nL (pc) (i_ia K) := by
  intro ls st σ h H locs lsr hP hS hl
  unfold i_ia at h
  split at h
  · rename_i i o r
    exact va_iald C.1 C.2.1 C.2.2.2.2.2.1.1 hP o 0 (zWo_i (zil_in h.1)) rfl h.1 hd (k ls _ σ h.2 H locs lsr hP hS hl)
  · exact h.elim
theorem z_ba (C : zCx p R s m args c cells slots D ids ad A own cc nL) (hd : decode cc pc = .ok (.baload, 1)) (k : zGo p l e R s m args below meth c cells slots QQ D ids ad A nL (pc + 1) K) : zGo p l e R s m args below meth c cells slots QQ D ids ad A nL (pc) (i_ba K) := by
  intro ls st σ h H locs lsr hP hS hl
  unfold i_ba at h
  split at h
  · rename_i i o r
    exact va_zald C.1 C.2.1 C.2.2.2.2.2.1.1 hP o 1 (zWo_z (zbl_in h.1)) rfl h.1 hd (k ls _ σ h.2 H locs lsr hP hS hl)
  · exact h.elim
theorem z_aa (C : zCx p R s m args c cells slots D ids ad A own cc nL) (hd : decode cc pc = .ok (.aaload, 1)) (k : zGo p l e R s m args below meth c cells slots QQ D ids ad A nL (pc + 1) K) : zGo p l e R s m args below meth c cells slots QQ D ids ad A nL (pc) (i_aa K) := by
  intro ls st σ h H locs lsr hP hS hl
  unfold i_aa at h
  split at h
  · rename_i i o r
    obtain ⟨hin, h⟩ := h
    obtain ⟨h1, h2, h3, h4⟩ := zrl_lay (zrl_in hin)
    have hlt : i.toNatClampNeg < (zfl o).length := by rw [← h3]; exact Nat.not_le.mp fun q => hin (Or.inr q)
    have ev : va_rf (((zfl o)[i.toNatClampNeg]?).map ad) = .ref (ad (zrt o i.toNatClampNeg)) := by
      rw [h4, List.getD_eq_getElem?_getD, List.getElem?_eq_getElem hlt]
      rfl
    have hk := k ls (.ref (zrt o i.toNatClampNeg) :: r) σ h H locs lsr hP hS hl
    rw [List.map_cons, show zreal ad (.ref (zrt o i.toNatClampNeg)) = .ref (ad (zrt o i.toNatClampNeg)) from rfl, ← ev] at hk
    rw [h3] at hin
    rcases h2 with ⟨n, h2⟩ | ⟨n, h2⟩
    · have hw := zWo_get (ad := ad) (ids := ids) (σ := σ) h1
      simp only [zEnt] at hw
      rw [h2] at hw
      exact va_aldq C.1 C.2.1 C.2.2.2.2.2.1.1 hP o 2 hw rfl hin hd hk
    · have hw := zWo_get (ad := ad) (ids := ids) (σ := σ) h1
      simp only [zEnt] at hw
      rw [h2] at hw
      exact va_aldq C.1 C.2.1 C.2.2.2.2.2.1.1 hP o 3 hw rfl hin hd hk
  · exact h.elim
theorem z_iast (C : zCx p R s m args c cells slots D ids ad A own cc nL) (hd : decode cc pc = .ok (.iastore, 1)) (k : zGo p l e R s m args below meth c cells slots QQ D ids ad A nL (pc + 1) K) : zGo p l e R s m args below meth c cells slots QQ D ids ad A nL (pc) (i_iast K) := by
  intro ls st σ h H locs lsr hP hS hl
  unfold i_iast at h
  split at h
  · rename_i x i o r
    exact va_iast C.1 C.2.1 C.2.2.2.2.2.1.1 hP ((C.2.2.2.2.2.1.2.2.2.1).D ids σ) hS o 0 (zWo_i (zil_in h.1)) rfl h.1 hd (fun H1 locs1 hP1 _ hS1 => k ls r _ h.2 H1 locs1 lsr (by rw [← zput_i (zil_in h.1)]; exact hP1) hS1 hl)
  · exact h.elim
theorem z_bast (C : zCx p R s m args c cells slots D ids ad A own cc nL) (hd : decode cc pc = .ok (.bastore, 1)) (k : zGo p l e R s m args below meth c cells slots QQ D ids ad A nL (pc + 1) K) : zGo p l e R s m args below meth c cells slots QQ D ids ad A nL (pc) (i_bast K) := by
  intro ls st σ h H locs lsr hP hS hl
  unfold i_bast at h
  split at h
  · rename_i x i o r
    obtain ⟨h1, h2, h3⟩ := h
    have en : vp_nar .boolean x = x := by rcases h2 with h2 | h2 <;> (rw [h2]; decide +kernel)
    exact va_zast C.1 C.2.1 C.2.2.2.2.2.1.1 hP ((C.2.2.2.2.2.1.2.2.2.1).D ids σ) hS o 1 (zWo_z (zbl_in h1)) rfl h1 hd (fun H1 locs1 hP1 _ hS1 => k ls r _ h3 H1 locs1 lsr (by rw [en] at hP1; rw [← zput_z (zbl_in h1)]; exact hP1) hS1 hl)
  · exact h.elim
theorem z_len (C : zCx p R s m args c cells slots D ids ad A own cc nL) (hd : decode cc pc = .ok (.arraylength, 1)) (k : zGo p l e R s m args below meth c cells slots QQ D ids ad A nL (pc + 1) K) : zGo p l e R s m args below meth c cells slots QQ D ids ad A nL (pc) (i_len K) := by
  intro ls st σ h H locs lsr hP hS hl
  unfold i_len at h
  split at h
  · rename_i o r
    have h := zcd h
    exact va_alen C.1 C.2.1 C.2.2.2.2.2.1.1 hP o 0 (zWo_i (znb h.1)) rfl rfl hd (k ls _ σ h.2 H locs lsr hP hS hl)
  · exact h.elim
def zCP (own : String) (idx : Nat) : Prop := Cond.methodLink own idx arraycopyName ∈ zAll ∧ Cond.native arraycopyName ∈ zAll ∧ Cond.static arraycopyName ∈ zAll ∧ Cond.initialized "java/lang/System" ∈ zAll
theorem z_cp (C : zCx p R s m args c cells slots D ids ad A own cc nL) {idx : Nat} (hd : decode cc pc = .ok (.invokestatic idx, 3)) (hF : zCP own idx) (hR : 1 ≤ R.frames ∧ 8 + (nativeFrameWords "java/lang/System" "arraycopy" 5 + 11) ≤ R.locals) (k : zGo p l e R s m args below meth c cells slots QQ D ids ad A nL (pc + 3) K) : zGo p l e R s m args below meth c cells slots QQ D ids ad A nL (pc) (i_cp K) := by
  intro ls st σ h H locs lsr hP hS hl
  unfold i_cp at h
  split at h
  · rename_i n dp d sp o r
    obtain ⟨h0, h12, ⟨h3, h4, h5⟩, ⟨h6, h7⟩, h8⟩ := zcd2 h
    have h12 := Bool.and_eq_true_iff.mp h12
    have h1 := znb h12.1
    have h2 := znb h12.2
    have hz := zsm_le (ad := ad) h0
    exact va_copyi C.1 C.2.1 (by rw [C.2.2.1]; exact hl.1.symm) C.2.2.2.1 (C.2.2.2.2.1 _ hF.1) (C.2.2.2.2.1 _ hF.2.1) (C.2.2.2.2.1 _ hF.2.2.1) (C.2.2.2.2.1 _ hF.2.2.2) C.2.2.2.2.2.1.1 hP ((C.2.2.2.2.2.1.2.2.2.1).D ids σ) hS o d 0 0 (zWo_i h1) (zWo_i h2) rfl rfl rfl h3 h4 h5 h6 h7 (fun _ _ => rfl) hR.1 (by omega) hd (fun H1 locs1 hP1 _ hS1 => k ls r _ h8 H1 locs1 lsr (by rw [← zcpy_i h2]; exact hP1) hS1 hl)
  · exact h.elim
-- the table, the constants
theorem z_gfig (C : zCx p R s m args c cells slots D ids ad A own cc nL) {idx : Nat} (hd : decode cc pc = .ok (.getstatic idx, 3)) (hw : Cond.fieldLink own idx "EveryPew$Seating" "FIGURE_OF" "[I" ∈ zAll) (k : zGo p l e R s m args below meth c cells slots QQ D ids ad A nL (pc + 3) K) : zGo p l e R s m args below meth c cells slots QQ D ids ad A nL (pc) (i_gfig K) :=
  fun ls st σ h H locs lsr hP hS hl => va_gets C.1 C.2.1 C.2.2.2.2.2.1.2.2.2.2.1 hS C.2.2.2.1 (C.2.2.2.2.1 _ hw) (fun _ h9 => h9) hd (k ls (.ref 91 :: st) σ h H locs lsr hP hS hl)
theorem z_fig (C : zCx p R s m args c cells slots D ids ad A own cc nL) (hd : decode cc pc = .ok (.iaload, 1)) (k : zGo p l e R s m args below meth c cells slots QQ D ids ad A nL (pc + 1) K) : zGo p l e R s m args below meth c cells slots QQ D ids ad A nL (pc) (i_fig K) := by
  intro ls st σ h H locs lsr hP hS hl
  unfold i_fig at h
  split at h
  · rename_i i o r
    obtain ⟨h1, h2, h3⟩ := zcd h
    have h1 := zbe h1
    subst h1
    exact va_ti C.1 C.2.1 C.2.2.2.2.2.1.2.2.2.2.2.1 hS h2 rfl hd (k ls _ σ h3 H locs lsr hP hS hl)
  · exact h.elim
theorem z_str (C : zCx p R s m args c cells slots D ids ad A own cc nL) {idx i : Nat} (hd : decode cc pc = .ok (.ldc idx, 2)) (hi : i < 4) (ho : own = "EveryPew$TextOfChurch") (hx : (zsx.getD i (0, "")).1 = idx) (k : zGo p l e R s m args below meth c cells slots QQ D ids ad A nL (pc + 2) K) : zGo p l e R s m args below meth c cells slots QQ D ids ad A nL (pc) (i_str i K) := by
  intro ls st σ h H locs lsr hP hS hl
  subst ho
  subst hx
  exact va_ldcS C.1 C.2.1 C.2.2.2.1 (C.2.2.2.2.2.1.2.2.2.2.2.2.2.2.2 i hi) hd (k ls (.ref (92 + i) :: st) σ h H locs lsr hP hS hl)
theorem z_gcs (C : zCx p R s m args c cells slots D ids ad A own cc nL) {idx : Nat} (hd : decode cc pc = .ok (.getstatic idx, 3)) (hw : Cond.fieldLink own idx "java/lang/String" "COMPACT_STRINGS" "Z" ∈ zAll) (k : zGo p l e R s m args below meth c cells slots QQ D ids ad A nL (pc + 3) K) : zGo p l e R s m args below meth c cells slots QQ D ids ad A nL (pc) (i_ic 1 K) :=
  fun ls st σ h H locs lsr hP hS hl => va_gets C.1 C.2.1 C.2.2.2.2.2.1.2.2.2.2.2.2.1 hS C.2.2.2.1 (C.2.2.2.2.1 _ hw) (fun _ h9 => h9) hd (k ls (.int 1 :: st) σ h H locs lsr hP hS hl)
theorem zsi_lay : ∀ k, ¬ zsi k = 0 → k = 91 + zsi k ∧ zsi k ≤ 4 := by
  intro k h
  unfold zsi at *
  split at h
  · rename_i i l e
    have := zlay_dec (fun k t => t.1 = 5 → k = 92 + t.2.1 ∧ t.2.1 < 4) (by decide +kernel) (fun k h => absurd h (by simp)) k (by rw [e])
    rw [e] at this
    dsimp only at this
    omega
  · exact absurd rfl h
theorem zvi_lay : ∀ k, ¬ zvi k = 0 → k = 95 + zvi k ∧ zvi k ≤ 4 := by
  intro k h
  unfold zvi at *
  split at h
  · rename_i i l e
    have := zlay_dec (fun k t => t.1 = 6 → k = 96 + t.2.1 ∧ t.2.1 < 4) (by decide +kernel) (fun k h => absurd h (by simp)) k (by rw [e])
    rw [e] at this
    dsimp only at this
    omega
  · exact absurd rfl h
theorem z_gval (C : zCx p R s m args c cells slots D ids ad A own cc nL) {idx : Nat} (hd : decode cc pc = .ok (.getfield idx, 3)) (hw : Cond.fieldLink own idx "java/lang/String" "value" "[B" ∈ zAll) (k : zGo p l e R s m args below meth c cells slots QQ D ids ad A nL (pc + 3) K) : zGo p l e R s m args below meth c cells slots QQ D ids ad A nL (pc) (i_gval K) := by
  intro ls st σ h H locs lsr hP hS hl
  unfold i_gval at h
  split at h
  · rename_i o r
    obtain ⟨h9, h⟩ := zcd h
    have h := And.intro (znb h9) h
    obtain ⟨h1, h2⟩ := zsi_lay _ h.1
    have hE := C.2.2.2.2.2.1.2.2.2.2.2.2.2.2.1
    have hv := (hE.1 (zsi o - 1) (by have := h.1; omega)).2.2.1
    dsimp only at hv
    rw [show 92 + (zsi o - 1) = o by have := h.1; omega, show 96 + (zsi o - 1) = 95 + zsi o by have := h.1; omega] at hv
    exact vk_getf C.1 C.2.1 hv hS C.2.2.2.1 (C.2.2.2.2.1 _ hw) (fun _ h9 => h9) hd (k ls _ σ h.2 H locs lsr hP hS hl)
  · exact h.elim
theorem z_gcod (C : zCx p R s m args c cells slots D ids ad A own cc nL) {idx : Nat} (hd : decode cc pc = .ok (.getfield idx, 3)) (hw : Cond.fieldLink own idx "java/lang/String" "coder" "B" ∈ zAll) (k : zGo p l e R s m args below meth c cells slots QQ D ids ad A nL (pc + 3) K) : zGo p l e R s m args below meth c cells slots QQ D ids ad A nL (pc) (i_gcod K) := by
  intro ls st σ h H locs lsr hP hS hl
  unfold i_gcod at h
  split at h
  · rename_i o r
    obtain ⟨h9, h⟩ := zcd h
    have h := And.intro (znb h9) h
    obtain ⟨h1, h2⟩ := zsi_lay _ h.1
    have hE := C.2.2.2.2.2.1.2.2.2.2.2.2.2.2.1
    have hv := (hE.1 (zsi o - 1) (by have := h.1; omega)).2.1
    dsimp only at hv
    rw [show 92 + (zsi o - 1) = o by have := h.1; omega] at hv
    exact vk_getf C.1 C.2.1 hv hS C.2.2.2.1 (C.2.2.2.2.1 _ hw) (fun _ h9 => h9) hd (k ls _ σ h.2 H locs lsr hP hS hl)
  · exact h.elim
theorem ztx_len : ∀ i, i < 4 → ([6, 4, 6, 4] : List Nat).getD i 0 = (ztxt.getD i []).length := by decide +kernel
theorem z_by (C : zCx p R s m args c cells slots D ids ad A own cc nL) (hd : decode cc pc = .ok (.baload, 1)) (k : zGo p l e R s m args below meth c cells slots QQ D ids ad A nL (pc + 1) K) : zGo p l e R s m args below meth c cells slots QQ D ids ad A nL (pc) (i_by K) := by
  intro ls st σ h H locs lsr hP hS hl
  unfold i_by at h
  split at h
  · rename_i i o r
    obtain ⟨h9, h⟩ := zcd h
    have h := And.intro (znb h9) h
    obtain ⟨h1, h2⟩ := zvi_lay _ h.1
    have hE := C.2.2.2.2.2.1.2.2.2.2.2.2.2.2.1
    have hv := (hE.1 (zvi o - 1) (by have := h.1; omega)).2.2.2
    dsimp only at hv
    rw [show 96 + (zvi o - 1) = o by have := h.1; omega, ztx_len _ (by have := h.1; omega)] at hv
    exact va_tb C.1 C.2.1 hv hS h.2.1 rfl hd (k ls _ σ h.2.2 H locs lsr hP hS hl)
  · exact h.elim
theorem z_blen (C : zCx p R s m args c cells slots D ids ad A own cc nL) (hd : decode cc pc = .ok (.arraylength, 1)) (k : zGo p l e R s m args below meth c cells slots QQ D ids ad A nL (pc + 1) K) : zGo p l e R s m args below meth c cells slots QQ D ids ad A nL (pc) (i_blen K) := by
  intro ls st σ h H locs lsr hP hS hl
  unfold i_blen at h
  split at h
  · rename_i o r
    obtain ⟨h9, h⟩ := zcd h
    have h := And.intro (znb h9) h
    obtain ⟨h1, h2⟩ := zvi_lay _ h.1
    have hE := C.2.2.2.2.2.1.2.2.2.2.2.2.2.2.1
    have hv := (hE.1 (zvi o - 1) (by have := h.1; omega)).2.2.2
    dsimp only at hv
    rw [show 96 + (zvi o - 1) = o by have := h.1; omega, ztx_len _ (by have := h.1; omega)] at hv
    exact va_tlen C.1 C.2.1 hv hS rfl hd (k ls _ σ h.2 H locs lsr hP hS hl)
  · exact h.elim
end ZSIM2
end
section
/-! Calls and returns; a method's contract out of its blocks. -/
theorem zgl {pre : List Cond} {x : Cond} (h : ∀ w ∈ pre, w ∈ zAll) (hx : x ∈ zAll) : GoodIn zAll (pre ++ (x :: zAll)) := zgood (fun w hw => by
  rcases List.mem_append.mp hw with q | q
  · exact h w q
  · rcases List.mem_cons.mp q with q | q
    · rw [q]; exact hx
    · exact q)
section ZCALL
variable {p : Program} {l : Launch} {e : Env} {R : Room} {s : State} {m : MethodId} {args : Array Value} {below : List Frame} {meth : Method} {c : Code} {cells slots : Nat} {QQ : State → Prop} {D : va_G} {ids : zIds} {ad : Nat → Nat} {A : Nat → Prop} {own : String} {cc : ByteArray} {nL : Nat}
variable {pc : Nat} {K K2 : zK}
/-- behind a call -/
theorem z_cont {ls r st0 : List Value} {lsr : Array Slot} {H : Heap} {locs : List Loc} {ret : Option FieldType} {a : Array Value} (hr : va_Run p l e R s m args below meth c H locs cells slots 0 0 (F0 m pc lsr st0) (r.map (zreal ad)) (zQc D ids ad A (fun v τ => K ls (zvl v r) τ) ret a) A) (hS : va_S A s.heap H locs) (hl : zLs ad nL ls lsr) (k : zGo p l e R s m args below meth c cells slots QQ D ids ad A nL (pc + 3) K) : W p l e R s m args below meth c H locs cells slots QQ (F0 m pc lsr st0) := by
  cases ret with
  | none => exact va_callv (a := a) hr hS (fun _ _ h => h) (fun _ h => h) (fun u t H1 locs1 ht _ hp hB _ _ hS1 => k ls r u hp H1 locs1 lsr (by rw [← ht]; exact hB) hS1 hl)
  | some ty =>
    cases ty with
    | long => exact va_calll (a := a) hr hS (fun _ _ h => h) (fun _ h => h) (fun v u t H1 locs1 ht _ hp hB _ _ hS1 => k ls (.long v :: r) u hp H1 locs1 lsr (by rw [← ht]; exact hB) hS1 hl)
    | _ => exact va_calli (a := a) hr hS (fun _ _ h => h) (fun _ h => h) (fun v u t H1 locs1 ht _ hp hB _ _ hS1 => k ls (.int v :: r) u hp H1 locs1 lsr (by rw [← ht]; exact hB) hS1 hl)
theorem z_pre (C : zCx p R s m args c cells slots D ids ad A own cc nL) {H : Heap} {locs : List Loc} {σ : zM} {vs : List Value} (hP : va_P D zCl (zWo ad ids σ) H) (hS : va_S A s.heap H locs) : ∀ U : State, U.heap = H → s.WarmedH U.vm → zPc D ids ad A vs σ (vs.map (zreal ad)).toArray U := by
  intro U hU hW
  refine ⟨rfl, by rw [hU]; exact hP, C.2.2.2.2.2.1.moved hW (fun a h1 h2 => by rw [hU]; exact hS.2.1 a h1 h2), fun q hq => C.2.2.2.2.2.2.1 q (Nat.le_trans hS.1 (by rw [← hU]; exact hq))⟩
/-- a callee's room -/
def zRm (rm R : Room) (nL' : Nat) : Prop := rm.cells = 0 ∧ rm.slots = 0 ∧ rm.frames + 1 ≤ R.frames ∧ 8 + (nL' + 11) + rm.locals ≤ R.locals
def zDs (y : MethodName) (n : Nat) : Prop := y.cls ≠ "java/lang/invoke/MethodHandle" ∧ y.cls ≠ "java/lang/invoke/VarHandle" ∧ (parseMethodDescriptor y.desc).map (fun d => d.parameters.length) = some n
theorem z_cS (C : zCx p R s m args c cells slots D ids ad A own cc nL) {idx n nL' : Nat} {y : MethodName} {cc' : ByteArray} {ret : Option FieldType} {rm : Room} {T : zTy} (hd : decode cc pc = .ok (.invokestatic idx, 3)) (hM : zSd y cc' nL' ret rm T) (hw : ∀ w ∈ ([.methodLink own idx y, .static y, .initialized y.cls] : List Cond), w ∈ zAll) (hcd : Cond.code y cc' nL' ret ∈ zAll) (hy : zDs y n) (hR : zRm rm R nL') (k : zGo p l e R s m args below meth c cells slots QQ D ids ad A nL (pc + 3) K) : zGo p l e R s m args below meth c cells slots QQ D ids ad A nL (pc) (i_call n T K) := by
  intro ls st σ h H locs lsr hP hS hl
  unfold i_call at h
  split at h
  · rename_i vs r hsp
    have h := zcd h
    obtain ⟨h1, h2⟩ := zsp_st hsp
    have hG : GoodIn zAll (va_wsS own idx y (.code y cc' nL' ret :: zAll)) := zgl hw hcd
    have hrun := va_runS (p := p) (e := e) (below := below) (meth := meth) (cells := cells) (slots := slots) (locs := locs) (H := H) (g := F0 m pc lsr (st.map (zreal ad))) (As := vs.map (zreal ad)) (rest := r.map (zreal ad)) ⟨C.1, C.2.1, C.2.2.1, C.2.2.2.1, C.2.2.2.2.1⟩ (hM l D ids ad A vs σ _ h.2) (va_cwS n C.2.2.2.2.1 hG rfl hR.1 hR.2.1 hy hR.2.2) ⟨zblind, z_pre C hP hS⟩ rfl (by rw [List.length_map]; exact h2) hl.1 (by show st.map _ = _; rw [h1]; simp) (lv_room (zsm_le h.1)) hd ⟨C.2.2.2.2.2.2.2.1, C.2.2.2.2.2.2.2.2⟩
    exact z_cont hrun hS hl k
  · exact h.elim
theorem z_cSN (C : zCx p R s m args c cells slots D ids ad A own cc nL) {idx n nL' : Nat} {y : MethodName} {cc' : ByteArray} {ret : Option FieldType} {rm : Room} {T : zTy} {host : String} (hd : decode cc pc = .ok (.invokestatic idx, 3)) (hM : zSd y cc' nL' ret rm T) (hn : (own, idx, y, host) ∈ zNM) (hw : ∀ w ∈ ([.static y, .initialized y.cls] : List Cond), w ∈ zAll) (hcd : Cond.code y cc' nL' ret ∈ zAll) (hy : zDs y n) (hR : zRm rm R nL') (k : zGo p l e R s m args below meth c cells slots QQ D ids ad A nL (pc + 3) K) : zGo p l e R s m args below meth c cells slots QQ D ids ad A nL (pc) (i_call n T K) := by
  intro ls st σ h H locs lsr hP hS hl
  unfold i_call at h
  split at h
  · rename_i vs r hsp
    have h := zcd h
    obtain ⟨h1, h2⟩ := zsp_st hsp
    have hG : GoodIn zAll (.code y cc' nL' ret :: zAll) := zgl (pre := []) (fun _ h => absurd h List.not_mem_nil) hcd
    have hrun := va_runSN (p := p) (e := e) (below := below) (meth := meth) (cells := cells) (slots := slots) (locs := locs) (H := H) (g := F0 m pc lsr (st.map (zreal ad))) (As := vs.map (zreal ad)) (rest := r.map (zreal ad)) ⟨C.1, C.2.1, C.2.2.1, C.2.2.2.1, C.2.2.2.2.1⟩ (hM l D ids ad A vs σ _ h.2) ⟨va_cnB n C.2.2.2.2.1 hG rfl hR.1 hR.2.1 (C.2.2.2.2.2.1.2.2.1 _ hn) (C.2.2.2.2.1 _ (hw _ (by simp))) hy hR.2.2, C.2.2.2.2.1 _ (hw _ (by simp)), True.intro⟩ ⟨zblind, z_pre C hP hS⟩ rfl (by rw [List.length_map]; exact h2) hl.1 (by show st.map _ = _; rw [h1]; simp) (lv_room (zsm_le h.1)) hd ⟨C.2.2.2.2.2.2.2.1, C.2.2.2.2.2.2.2.2⟩
    exact z_cont hrun hS hl k
  · exact h.elim
theorem z_recv (C : zCx p R s m args c cells slots D ids ad A own cc nL) {H : Heap} {σ : zM} {o : Nat} {q : vw_C} (hP : va_P D zCl (zWo ad ids σ) H) (hc : zCl[zoc o]? = some q) : ∃ cell : Cell, H[ad o]? = some cell ∧ cell.vm.isStatics = false ∧ s.vm.findClass q.1 = some cell.cls :=
  va_recv C.2.2.2.2.2.1.1 hP hc (zWo_o (fun h9 => by rw [h9] at hc; simp [zCl] at hc))
theorem z_cV (C : zCx p R s m args c cells slots D ids ad A own cc nL) {idx ci n nL' N : Nat} {y : MethodName} {cc' : ByteArray} {ret : Option FieldType} {rm : Room} {T : zTy} {TT : u_T} (hd : decode cc pc = .ok (.invokevirtual idx, 3)) (hM : zSd y cc' nL' ret rm T) (hc : zCl[ci]? = some (y.cls, TT, N)) (hw : ∀ w ∈ ([.methodLink own idx y, .instanceMethod y, .selects y.cls y y, .initialized y.cls] : List Cond), w ∈ zAll) (hcd : Cond.code y cc' nL' ret ∈ zAll) (hy : zDs y n) (hR : zRm rm R nL') (k : zGo p l e R s m args below meth c cells slots QQ D ids ad A nL (pc + 3) K) : zGo p l e R s m args below meth c cells slots QQ D ids ad A nL (pc) (i_cv ci (n + 1) T K) := by
  intro ls st σ h H locs lsr hP hS hl
  unfold i_cv at h
  split at h
  · rename_i o vs r hsp
    obtain ⟨h0, h1', h2'⟩ := zcd2 h
    have h0 := zbe h0
    obtain ⟨h1, h2⟩ := zsp_st hsp
    have hG : GoodIn zAll (wsV own idx y.cls y (.code y cc' nL' ret :: zAll)) := zgl hw hcd
    have hrun := va_runV (p := p) (e := e) (below := below) (meth := meth) (cells := cells) (slots := slots) (locs := locs) (H := H) (g := F0 m pc lsr (st.map (zreal ad))) (b := ad o) (As := vs.map (zreal ad)) (rest := r.map (zreal ad)) ⟨C.1, C.2.1, C.2.2.1, C.2.2.2.1, C.2.2.2.2.1⟩ (hM l D ids ad A (.ref o :: vs) σ _ h2') (cwV n C.2.2.2.2.1 hG rfl hR.1 hR.2.1 ⟨rfl, hy⟩ hR.2.2) ⟨zblind, z_recv C hP (by rw [h0]; exact hc), z_pre C hP hS⟩ rfl (by rw [List.length_map]; simpa using h2) hl.1 (by show st.map _ = _; rw [h1]; simp [zreal]) (lv_room (zsm_le h1')) hd ⟨C.2.2.2.2.2.2.2.1, C.2.2.2.2.2.2.2.2⟩
    exact z_cont hrun hS hl k
  · exact h.elim
/-- a call that the receiver's class selects -/
theorem z_cD (C : zCx p R s m args c cells slots D ids ad A own cc nL) {idx n : Nat} {x : MethodName} {owner : String} {T : Nat → zTy} {b0 : ByteArray} {m0 : Nat} {r0 : Option FieldType} (hd : decode cc pc = .ok (.invokevirtual idx, 3))
    (hT : ∀ ci : Nat, (∃ (C' : String) (TT : u_T) (N : Nat) (y : MethodName) (cc' : ByteArray) (nL' : Nat) (ret : Option FieldType) (rm : Room), zCl[ci]? = some (C', TT, N) ∧ zSd y cc' nL' ret rm (T ci) ∧ (∀ w ∈ ([.methodLink own idx x, .sameMethod x.cls owner x.name x.desc, .instanceMethod ⟨owner, x.name, x.desc⟩, .selects C' x y, .instanceMethod y, .initialized y.cls] : List Cond), w ∈ zAll) ∧ Cond.code y cc' nL' ret ∈ zAll ∧ zRm rm R nL') ∨ ∀ vs σ Q, ¬ T ci vs σ Q)
    (h0 : Cond.code ⟨owner, x.name, x.desc⟩ b0 m0 r0 ∈ zAll) (hy : owner ≠ "java/lang/invoke/MethodHandle" ∧ owner ≠ "java/lang/invoke/VarHandle" ∧ (parseMethodDescriptor x.desc).map (fun d => d.parameters.length) = some n) (k : zGo p l e R s m args below meth c cells slots QQ D ids ad A nL (pc + 3) K) : zGo p l e R s m args below meth c cells slots QQ D ids ad A nL (pc) (i_cd (n + 1) T K) := by
  intro ls st σ h H locs lsr hP hS hl
  unfold i_cd at h
  split at h
  · rename_i o vs r hsp
    obtain ⟨h1', h2'⟩ := zcd h
    obtain ⟨h1, h2⟩ := zsp_st hsp
    rcases hT (zoc o) with ⟨C', TT, N, y, cc', nL', ret, rm, hc, hM, hw, hcd, hR⟩ | hno
    · have hG : GoodIn zAll (va_wsO own idx C' owner x y (.code y cc' nL' ret :: zAll)) := zgl hw hcd
      have hrun := va_runU (p := p) (e := e) (below := below) (meth := meth) (cells := cells) (slots := slots) (locs := locs) (H := H) (g := F0 m pc lsr (st.map (zreal ad))) (b := ad o) (As := vs.map (zreal ad)) (rest := r.map (zreal ad)) ⟨C.1, C.2.1, C.2.2.1, C.2.2.2.1, C.2.2.2.2.1⟩ (hM l D ids ad A (.ref o :: vs) σ _ h2') (va_cwO n C.2.2.2.2.1 hG rfl hR.1 hR.2.1 h0 hy hR.2.2) ⟨zblind, z_recv C hP hc, z_pre C hP hS⟩ rfl (by rw [List.length_map]; simpa using h2) hl.1 (by show st.map _ = _; rw [h1]; simp [zreal]) (lv_room (zsm_le h1')) hd ⟨C.2.2.2.2.2.2.2.1, C.2.2.2.2.2.2.2.2⟩
      exact z_cont hrun hS hl k
    · exact absurd h2' (hno _ _ _)
  · exact h.elim
/-- super -/
theorem z_cU (C : zCx p R s m args c cells slots D ids ad A own cc nL) {idx n nL' : Nat} {y : MethodName} {cc' : ByteArray} {ret : Option FieldType} {rm : Room} {T : zTy} (hd : decode cc pc = .ok (.invokespecial idx, 3)) (hM : zSd y cc' nL' ret rm T) (hw : ∀ w ∈ ([.methodLink own idx y, .sameMethod y.cls y.cls y.name y.desc, .superclass own y.cls, .instanceMethod y, .initialized y.cls] : List Cond), w ∈ zAll) (hcd : Cond.code y cc' nL' ret ∈ zAll) (hy : y.name ≠ "<init>" ∧ (parseMethodDescriptor y.desc).map (fun d => d.parameters.length) = some n) (hR : zRm rm R nL') (k : zGo p l e R s m args below meth c cells slots QQ D ids ad A nL (pc + 3) K) : zGo p l e R s m args below meth c cells slots QQ D ids ad A nL (pc) (i_cu (n + 1) T K) := by
  intro ls st σ h H locs lsr hP hS hl
  unfold i_cu at h
  split at h
  · rename_i o vs r hsp
    obtain ⟨h0, h1', h2'⟩ := zcd2 h
    have h0 := znb h0
    obtain ⟨h1, h2⟩ := zsp_st hsp
    have hG : GoodIn zAll (va_wsSU own idx y (.code y cc' nL' ret :: zAll)) := zgl hw hcd
    have hw2 := hP o _ (zWo_o (ad := ad) (ids := ids) (σ := σ) h0)
    obtain ⟨q, hq, -⟩ := hw2
    have hat := (C.2.2.2.2.2.1.1.1 _ q hq).2
    have hrun := va_runSU (p := p) (e := e) (below := below) (meth := meth) (cells := cells) (slots := slots) (locs := locs) (H := H) (g := F0 m pc lsr (st.map (zreal ad))) (b := ad o) (As := vs.map (zreal ad)) (rest := r.map (zreal ad)) hat ⟨C.1, C.2.1, C.2.2.1, C.2.2.2.1, C.2.2.2.2.1⟩ (hM l D ids ad A (.ref o :: vs) σ _ h2') (va_cwSU n C.2.2.2.2.1 hG rfl hR.1 hR.2.1 hy hR.2.2) ⟨zblind, z_recv C hP hq, z_pre C hP hS⟩ rfl (by rw [List.length_map]; simpa using h2) hl.1 (by show st.map _ = _; rw [h1]; simp [zreal]) (lv_room (zsm_le h1')) hd ⟨C.2.2.2.2.2.2.2.1, C.2.2.2.2.2.2.2.2⟩
    exact z_cont hrun hS hl k
  · exact h.elim
/-- a call on a String constant -/
theorem z_cT (C : zCx p R s m args c cells slots D ids ad A own cc nL) {idx n nL' : Nat} {y : MethodName} {cc' : ByteArray} {ret : Option FieldType} {rm : Room} {T : zTy} (hd : decode cc pc = .ok (.invokevirtual idx, 3)) (hM : zSd y cc' nL' ret rm T) (hc : y.cls = "java/lang/String") (hw : ∀ w ∈ ([.methodLink own idx y, .instanceMethod y, .selects y.cls y y, .initialized y.cls] : List Cond), w ∈ zAll) (hcd : Cond.code y cc' nL' ret ∈ zAll) (hy : zDs y n) (hR : zRm rm R nL') (k : zGo p l e R s m args below meth c cells slots QQ D ids ad A nL (pc + 3) K) : zGo p l e R s m args below meth c cells slots QQ D ids ad A nL (pc) (i_cs (n + 1) T K) := by
  intro ls st σ h H locs lsr hP hS hl
  unfold i_cs at h
  split at h
  · rename_i o vs r hsp
    obtain ⟨h0, h1', h2'⟩ := zcd2 h
    have h0 := znb h0
    obtain ⟨h1, h2⟩ := zsp_st hsp
    have hG : GoodIn zAll (wsV own idx y.cls y (.code y cc' nL' ret :: zAll)) := zgl hw hcd
    obtain ⟨g1, g2⟩ := zsi_lay o h0
    have hE := C.2.2.2.2.2.1.2.2.2.2.2.2.2.2.1
    have hrec := vk_recv hE (i := zsi o - 1) (by omega) hS
    rw [show 92 + (zsi o - 1) = o by omega, ← hc] at hrec
    have hrun := va_runV (p := p) (e := e) (below := below) (meth := meth) (cells := cells) (slots := slots) (locs := locs) (H := H) (g := F0 m pc lsr (st.map (zreal ad))) (b := ad o) (As := vs.map (zreal ad)) (rest := r.map (zreal ad)) ⟨C.1, C.2.1, C.2.2.1, C.2.2.2.1, C.2.2.2.2.1⟩ (hM l D ids ad A (.ref o :: vs) σ _ h2') (cwV n C.2.2.2.2.1 hG rfl hR.1 hR.2.1 ⟨rfl, hy⟩ hR.2.2) ⟨zblind, hrec, z_pre C hP hS⟩ rfl (by rw [List.length_map]; simpa using h2) hl.1 (by show st.map _ = _; rw [h1]; simp [zreal]) (lv_room (zsm_le h1')) hd ⟨C.2.2.2.2.2.2.2.1, C.2.2.2.2.2.2.2.2⟩
    exact z_cont hrun hS hl k
  · exact h.elim
end ZCALL
def zok (n : Nat) (vs : List Value) : Bool := Nat.ble (zlc vs).length n
theorem zsl_len (ad : Nat → Nat) : ∀ vs : List Value, (lg_sl (vs.map (zreal ad))).length = (zlc vs).length := by
  intro vs
  induction vs with
  | nil => rfl
  | cons v vs ih =>
    have e1 : lg_sl ((v :: vs).map (zreal ad)) = (if (zreal ad v).category = 2 then [Slot.val (zreal ad v), Slot.second] else [Slot.val (zreal ad v)]) ++ lg_sl (vs.map (zreal ad)) := by simp [lg_sl]
    rw [e1, List.length_append, ih, zcat]
    cases v <;> simp [Value.category, zlc] <;> omega
section ZMET
/-- the blocks' rows: for every block, from Y's rows -/
def zBl (own : String) (cc : ByteArray) (nL : Nat) (ret : Option FieldType) (rm : Room) (pcs : Nat → Nat) (F : zQ → (Nat → zK) → Nat → zK) : Prop :=
  ∀ {p : Program} {l : Launch} {e : Env} {s : State} {m : MethodId} {args : Array Value} {below : List Frame} {meth : Method} {c : Code} {D : va_G} {ids : zIds} {ad : Nat → Nat} {A : Nat → Prop} (Q : zQ) (Y : Nat → zK),
    zCx p rm s m args c 0 0 D ids ad A own cc nL → meth.sig.returnType = ret → meth.locks = false → (∀ b ls st σ, Y b ls st σ → zW p l e rm s m args below meth c 0 0 (MQ below (zQc D ids ad A Q ret) args s 0 0 A) D ids ad A nL (pcs b) ls st σ) →
    ∀ b, zGo p l e rm s m args below meth c 0 0 (MQ below (zQc D ids ad A Q ret) args s 0 0 A) D ids ad A nL (pcs b) (F Q Y b)
theorem zMet {y : MethodName} {cc : ByteArray} {nL : Nat} {ret : Option FieldType} {rm : Room} {pcs : Nat → Nat} {F : zQ → (Nat → zK) → Nat → zK} (hy : plainName y.cls = true) (h0 : pcs 0 = 0) (hB : zBl y.cls cc nL ret rm pcs F) : zSd y cc nL ret rm (fun vs σ Q => zok nL vs = true ∧ zFix (F Q) 0 (zlc vs) [] σ) := by
  intro l D ids ad A vs σ Q hT
  refine Met.ofW (cc := cc) (maxL := nL) (ret := ret) hy rfl ?_
  intro p e s m args below meth c s₁ B hml hv
  obtain ⟨ha, hP, hE, hA⟩ := hv
  obtain ⟨hok, hT⟩ := hT
  have hts := atoms_spec (ws := .code y cc nL ret :: zAll) B.pre
  have C : zCx p rm s m args c 0 0 D ids ad A y.cls cc nL := ⟨B.exec, B.bytes, hml, findClass_of_methodNamed B.named, fun w hw => hts w (List.mem_cons_of_mem _ hw), hE, hA, Nat.zero_le _, Nat.zero_le _⟩
  have key := hT (fun b => zW p l e rm s m args below meth c 0 0 (MQ below (zQc D ids ad A Q ret) args s 0 0 A) D ids ad A nL (pcs b)) (fun Y hY b ls st σ h => hB Q Y C B.returns B.notSynchronized hY b ls st σ h)
  have hl := lv_entry (vs.map (zreal ad)) (n := nL) (by rw [zsl_len]; exact Nat.le_of_ble_eq_true hok)
  subst ha
  rw [lg_entry_eq]
  generalize (lg_sl (vs.map (zreal ad)) ++ List.replicate (nL - (lg_sl (vs.map (zreal ad))).length) Slot.unset).toArray = lsr at hl ⊢
  have := key s.heap [] lsr hP va_S.rf (zLs.entry hl)
  rw [h0] at this
  exact this
variable {p : Program} {l : Launch} {e : Env} {R : Room} {s : State} {m : MethodId} {args : Array Value} {below : List Frame} {meth : Method} {c : Code} {cells slots : Nat} {D : va_G} {ids : zIds} {ad : Nat → Nat} {A : Nat → Prop} {own : String} {cc : ByteArray} {nL pc : Nat} {Q : zQ}
theorem z_ir (C : zCx p R s m args c cells slots D ids ad A own cc nL) (hr : meth.sig.returnType = some .int) (hk : meth.locks = false) (hd : decode cc pc = .ok (.ireturn, 1)) : zGo p l e R s m args below meth c cells slots (MQ below (zQc D ids ad A Q (some .int)) args s cells slots A) D ids ad A nL pc (i_ir Q) := by
  intro ls st σ h H locs lsr hP hS hl
  unfold i_ir at h
  split at h
  · rename_i v
    exact W.iret C.1 C.2.1 hr (fun t ht hW => ⟨⟨v, σ, rfl, h, by dsimp only; rw [ht]; exact hP⟩, hS.F ht⟩) hS.2.2 hd hk
  · exact h.elim
theorem z_zr (C : zCx p R s m args c cells slots D ids ad A own cc nL) (hr : meth.sig.returnType = some .boolean) (hk : meth.locks = false) (hd : decode cc pc = .ok (.ireturn, 1)) : zGo p l e R s m args below meth c cells slots (MQ below (zQc D ids ad A Q (some .boolean)) args s cells slots A) D ids ad A nL pc (i_zr Q) := by
  intro ls st σ h H locs lsr hP hS hl
  unfold i_zr at h
  split at h
  · rename_i v
    exact W.zret C.1 C.2.1 hr (by rcases h.1 with q | q <;> (rw [q]; decide +kernel)) (fun t ht hW => ⟨⟨v, σ, rfl, h.2, by dsimp only; rw [ht]; exact hP⟩, hS.F ht⟩) hS.2.2 hd hk
  · exact h.elim
theorem z_nr (C : zCx p R s m args c cells slots D ids ad A own cc nL) {ty : FieldType} (hty : ty = .char ∨ ty = .byte) (hr : meth.sig.returnType = some ty) (hk : meth.locks = false) (hd : decode cc pc = .ok (.ireturn, 1)) : zGo p l e R s m args below meth c cells slots (MQ below (zQc D ids ad A Q (some ty)) args s cells slots A) D ids ad A nL pc (i_nr ty Q) := by
  intro ls st σ h H locs lsr hP hS hl
  unfold i_nr at h
  split at h
  · rename_i v
    rcases hty with rfl | rfl
    · exact W.zret C.1 C.2.1 hr h.1 (fun t ht hW => ⟨⟨v, σ, rfl, h.2, by dsimp only; rw [ht]; exact hP⟩, hS.F ht⟩) hS.2.2 hd hk
    · exact W.zret C.1 C.2.1 hr h.1 (fun t ht hW => ⟨⟨v, σ, rfl, h.2, by dsimp only; rw [ht]; exact hP⟩, hS.F ht⟩) hS.2.2 hd hk
  · exact h.elim
theorem z_lr (C : zCx p R s m args c cells slots D ids ad A own cc nL) (hr : meth.sig.returnType = some .long) (hk : meth.locks = false) (hd : decode cc pc = .ok (.lreturn, 1)) : zGo p l e R s m args below meth c cells slots (MQ below (zQc D ids ad A Q (some .long)) args s cells slots A) D ids ad A nL pc (i_lr Q) := by
  intro ls st σ h H locs lsr hP hS hl
  unfold i_lr at h
  split at h
  · rename_i v
    exact W.lret C.1 C.2.1 hr (fun t ht hW => ⟨⟨v, σ, rfl, h, by dsimp only; rw [ht]; exact hP⟩, hS.F ht⟩) hS.2.2 hd hk
  · exact h.elim
theorem z_vr (C : zCx p R s m args c cells slots D ids ad A own cc nL) (hr : meth.sig.returnType = none) (hk : meth.locks = false) (hd : decode cc pc = .ok (.return_, 1)) : zGo p l e R s m args below meth c cells slots (MQ below (zQc D ids ad A Q none) args s cells slots A) D ids ad A nL pc (i_vr Q) := by
  intro ls st σ h H locs lsr hP hS hl
  unfold i_vr at h
  split at h
  · exact W.vret C.1 C.2.1 hr (fun t ht hW => ⟨⟨σ, rfl, h, by dsimp only; rw [ht]; exact hP⟩, hS.F ht⟩) hS.2.2 hd hk
  · exact h.elim
end ZMET
end
section
/-! The claim's methods as terms of the small machine: by program (wip/whole/gen.py) out of the decode rows. -/
def i_no : zK := fun _ _ _ => False
def T_J0_checkIndex_df160 : zTy := fun vs σ Q => match vs with | [.int i, .int n] => ¬ i < 0 ∧ i < n ∧ Q none σ | _ => False
def k_X6_height_0 (X : Nat → zK) (Q : zQ) : zK := i_il 2 <| i_if (fun x => x = 0) (fun x => ¬ x = 0) (i_il 1 <| i_ir Q) <| i_il 1 <| i_ic 2 <| i_idiv <| i_ir Q
def F_X6_height (Q : zQ) (X : Nat → zK) : Nat → zK
  | 0 => k_X6_height_0 X Q
  | _ => fun _ _ _ => False
def T_X6_height : zTy := fun vs σ Q => zok 3 vs = true ∧ zFix (F_X6_height Q) 0 (zlc vs) [] σ
def k_X0_height_0 (X : Nat → zK) (Q : zQ) : zK := i_ic 0 <| i_al 0 <| i_il 1 <| i_il 2 <| i_cu 3 T_X6_height <| i_ic 2 <| i_ib (fun x y => x - y) <| i_mmax <| i_ir Q
def F_X0_height (Q : zQ) (X : Nat → zK) : Nat → zK
  | 0 => k_X0_height_0 X Q
  | _ => fun _ _ _ => False
def T_X0_height : zTy := fun vs σ Q => zok 3 vs = true ∧ zFix (F_X0_height Q) 0 (zlc vs) [] σ
def k_J7_fill_53178_0 (X : Nat → zK) (Q : zQ) : zK := i_ic 0 <| i_is 2 <| i_al 0 <| i_len <| i_is 3 <| i_jmp X 1 [true, true, true, true]
def k_J7_fill_53178_1 (X : Nat → zK) (Q : zQ) : zK := i_il 2 <| i_il 3 <| i_cmp (fun x y => y ≤ x) (fun x y => ¬ y ≤ x) (i_vr Q) <| i_al 0 <| i_il 2 <| i_il 1 <| i_iast <| i_inc 2 1 <| i_jmp X 1 [true, true, true, true]
def F_J7_fill_53178 (Q : zQ) (X : Nat → zK) : Nat → zK
  | 0 => k_J7_fill_53178_0 X Q
  | 1 => k_J7_fill_53178_1 X Q
  | _ => fun _ _ _ => False
def T_J7_fill_53178 : zTy := fun vs σ Q => zok 4 vs = true ∧ zFix (F_J7_fill_53178 Q) 0 (zlc vs) [] σ
def k_X1_begin_0 (X : Nat → zK) (Q : zQ) : zK := i_al 0 <| i_il 1 <| i_pf 1 0 <| i_al 0 <| i_gf 1 1 <| i_ic 0 <| i_call 2 T_J7_fill_53178 <| i_al 0 <| i_ic 0 <| i_pf 1 2 <| i_al 0 <| i_ic 0 <| i_pf 1 8 <| i_al 0 <| i_ic 0 <| i_pf 1 9 <| i_al 0 <| i_ic 0 <| i_pf 1 13 <| i_vr Q
def F_X1_begin (Q : zQ) (X : Nat → zK) : Nat → zK
  | 0 => k_X1_begin_0 X Q
  | _ => fun _ _ _ => False
def T_X1_begin : zTy := fun vs σ Q => zok 2 vs = true ∧ zFix (F_X1_begin Q) 0 (zlc vs) [] σ
def k_X1_copy_0 (X : Nat → zK) (Q : zQ) : zK := i_al 0 <| i_ic 0 <| i_al 1 <| i_ic 0 <| i_al 0 <| i_len <| i_al 1 <| i_len <| i_mmin <| i_cp <| i_vr Q
def F_X1_copy (Q : zQ) (X : Nat → zK) : Nat → zK
  | 0 => k_X1_copy_0 X Q
  | _ => fun _ _ _ => False
def T_X1_copy : zTy := fun vs σ Q => zok 2 vs = true ∧ zFix (F_X1_copy Q) 0 (zlc vs) [] σ
def k_X1_becomeLike_0 (X : Nat → zK) (Q : zQ) : zK := i_al 0 <| i_al 1 <| i_gf 1 0 <| i_pf 1 0 <| i_al 0 <| i_al 1 <| i_gf 1 2 <| i_pf 1 2 <| i_al 0 <| i_al 1 <| i_gf 1 8 <| i_pf 1 8 <| i_al 0 <| i_al 1 <| i_gf 1 9 <| i_pf 1 9 <| i_al 0 <| i_al 1 <| i_gf 1 13 <| i_pf 1 13 <| i_al 1 <| i_gf 1 1 <| i_al 0 <| i_gf 1 1 <| i_call 2 T_X1_copy <| i_al 1 <| i_gf 1 3 <| i_al 0 <| i_gf 1 3 <| i_call 2 T_X1_copy <| i_al 1 <| i_gf 1 4 <| i_al 0 <| i_gf 1 4 <| i_call 2 T_X1_copy <| i_al 1 <| i_gf 1 5 <| i_al 0 <| i_gf 1 5 <| i_call 2 T_X1_copy <| i_al 1 <| i_gf 1 6 <| i_al 0 <| i_gf 1 6 <| i_call 2 T_X1_copy <| i_al 1 <| i_gf 1 7 <| i_al 0 <| i_gf 1 7 <| i_call 2 T_X1_copy <| i_al 1 <| i_gf 1 10 <| i_al 0 <| i_gf 1 10 <| i_call 2 T_X1_copy <| i_al 1 <| i_gf 1 11 <| i_al 0 <| i_gf 1 11 <| i_call 2 T_X1_copy <| i_al 1 <| i_gf 1 12 <| i_al 0 <| i_gf 1 12 <| i_call 2 T_X1_copy <| i_al 1 <| i_gf 1 14 <| i_al 0 <| i_gf 1 14 <| i_call 2 T_X1_copy <| i_al 1 <| i_gf 1 15 <| i_al 0 <| i_gf 1 15 <| i_call 2 T_X1_copy <| i_vr Q
def F_X1_becomeLike (Q : zQ) (X : Nat → zK) : Nat → zK
  | 0 => k_X1_becomeLike_0 X Q
  | _ => fun _ _ _ => False
def T_X1_becomeLike : zTy := fun vs σ Q => zok 2 vs = true ∧ zFix (F_X1_becomeLike Q) 0 (zlc vs) [] σ
def k_X1_hasFamily_0 (X : Nat → zK) (Q : zQ) : zK := i_il 1 <| i_if (fun x => x < 0) (fun x => ¬ x < 0) (i_ic 0 <| i_zr Q) <| i_il 1 <| i_al 0 <| i_gf 1 2 <| i_cmp (fun x y => y ≤ x) (fun x y => ¬ y ≤ x) (i_ic 0 <| i_zr Q) <| i_ic 1 <| i_zr Q
def F_X1_hasFamily (Q : zQ) (X : Nat → zK) : Nat → zK
  | 0 => k_X1_hasFamily_0 X Q
  | _ => fun _ _ _ => False
def T_X1_hasFamily : zTy := fun vs σ Q => zok 2 vs = true ∧ zFix (F_X1_hasFamily Q) 0 (zlc vs) [] σ
def k_X1_sets_0 (X : Nat → zK) (Q : zQ) : zK := i_ic 1 <| i_al 0 <| i_gf 1 2 <| i_ib (fun x y => x <<< (y &&& 31)) <| i_ir Q
def F_X1_sets (Q : zQ) (X : Nat → zK) : Nat → zK
  | 0 => k_X1_sets_0 X Q
  | _ => fun _ _ _ => False
def T_X1_sets : zTy := fun vs σ Q => zok 1 vs = true ∧ zFix (F_X1_sets Q) 0 (zlc vs) [] σ
def k_X1_isTaken_0 (X : Nat → zK) (Q : zQ) : zK := i_ic 0 <| i_is 2 <| i_jmp X 1 [true, true, true]
def k_X1_isTaken_1 (X : Nat → zK) (Q : zQ) : zK := i_il 2 <| i_al 0 <| i_gf 1 2 <| i_cmp (fun x y => y ≤ x) (fun x y => ¬ y ≤ x) (i_ic 0 <| i_zr Q) <| i_al 0 <| i_gf 1 7 <| i_il 2 <| i_ia <| i_il 1 <| i_cmp (fun x y => ¬ x = y) (fun x y => x = y) (i_inc 2 1 <| i_jmp X 1 [true, true, true]) <| i_ic 1 <| i_zr Q
def F_X1_isTaken (Q : zQ) (X : Nat → zK) : Nat → zK
  | 0 => k_X1_isTaken_0 X Q
  | 1 => k_X1_isTaken_1 X Q
  | _ => fun _ _ _ => False
def T_X1_isTaken : zTy := fun vs σ Q => zok 3 vs = true ∧ zFix (F_X1_isTaken Q) 0 (zlc vs) [] σ
def k_X1_admit_0 (X : Nat → zK) (Q : zQ) : zK := i_al 0 <| i_gf 1 2 <| i_is 6 <| i_al 0 <| i_gf 1 3 <| i_il 6 <| i_il 1 <| i_iast <| i_al 0 <| i_gf 1 4 <| i_il 6 <| i_il 2 <| i_iast <| i_al 0 <| i_gf 1 5 <| i_il 6 <| i_il 3 <| i_iast <| i_al 0 <| i_gf 1 6 <| i_il 6 <| i_il 4 <| i_iast <| i_al 0 <| i_gf 1 7 <| i_il 6 <| i_il 5 <| i_iast <| i_al 0 <| i_dup <| i_gf 1 2 <| i_ic 1 <| i_ib (fun x y => x + y) <| i_pf 1 2 <| i_al 0 <| i_ic 0 <| i_pf 1 13 <| i_il 6 <| i_ir Q
def F_X1_admit (Q : zQ) (X : Nat → zK) : Nat → zK
  | 0 => k_X1_admit_0 X Q
  | _ => fun _ _ _ => False
def T_X1_admit : zTy := fun vs σ Q => zok 7 vs = true ∧ zFix (F_X1_admit Q) 0 (zlc vs) [] σ
def k_X11_bit_0 (X : Nat → zK) (Q : zQ) : zK := i_il 0 <| i_il 1 <| i_ib (fun x y => x >>> (y &&& 31)) <| i_ic 1 <| i_ib (fun x y => x &&& y) <| i_ir Q
def F_X11_bit (Q : zQ) (X : Nat → zK) : Nat → zK
  | 0 => k_X11_bit_0 X Q
  | _ => fun _ _ _ => False
def T_X11_bit : zTy := fun vs σ Q => zok 2 vs = true ∧ zFix (F_X11_bit Q) 0 (zlc vs) [] σ
def k_X1_trait_0 (X : Nat → zK) (Q : zQ) : zK := i_il 2 <| i_sw [(0, i_al 0 <| i_gf 1 3 <| i_il 1 <| i_ia <| i_ir Q), (1, i_al 0 <| i_gf 1 4 <| i_il 1 <| i_ia <| i_ir Q), (2, i_al 0 <| i_gf 1 5 <| i_il 1 <| i_ia <| i_ir Q), (3, i_al 0 <| i_gf 1 6 <| i_il 1 <| i_ia <| i_ir Q), (4, i_al 0 <| i_gf 1 7 <| i_il 1 <| i_ia <| i_ir Q)] (i_al 0 <| i_gf 1 8 <| i_il 1 <| i_call 2 T_X11_bit <| i_ir Q)
def F_X1_trait (Q : zQ) (X : Nat → zK) : Nat → zK
  | 0 => k_X1_trait_0 X Q
  | _ => fun _ _ _ => False
def T_X1_trait : zTy := fun vs σ Q => zok 3 vs = true ∧ zFix (F_X1_trait Q) 0 (zlc vs) [] σ
def k_X1_hear_0 (X : Nat → zK) (Q : zQ) : zK := i_al 0 <| i_gf 1 10 <| i_al 0 <| i_gf 1 9 <| i_il 1 <| i_iast <| i_al 0 <| i_gf 1 11 <| i_al 0 <| i_gf 1 9 <| i_il 2 <| i_iast <| i_al 0 <| i_gf 1 12 <| i_al 0 <| i_gf 1 9 <| i_il 3 <| i_iast <| i_al 0 <| i_dup <| i_gf 1 9 <| i_ic 1 <| i_ib (fun x y => x + y) <| i_pf 1 9 <| i_al 0 <| i_gf 1 9 <| i_ir Q
def F_X1_hear (Q : zQ) (X : Nat → zK) : Nat → zK
  | 0 => k_X1_hear_0 X Q
  | _ => fun _ _ _ => False
def T_X1_hear : zTy := fun vs σ Q => zok 4 vs = true ∧ zFix (F_X1_hear Q) 0 (zlc vs) [] σ
def k_X1_remember_0 (X : Nat → zK) (Q : zQ) : zK := i_al 0 <| i_gf 1 13 <| i_ic 8 <| i_cmp (fun x y => x < y) (fun x y => ¬ x < y) (i_jmp X 1 [true]) <| i_al 0 <| i_gf 1 14 <| i_ic 7 <| i_al 0 <| i_gf 1 14 <| i_ic 0 <| i_ic 49 <| i_cp <| i_al 0 <| i_gf 1 15 <| i_ic 1 <| i_al 0 <| i_gf 1 15 <| i_ic 0 <| i_ic 7 <| i_cp <| i_al 0 <| i_ic 7 <| i_pf 1 13 <| i_jmp X 1 [true]
def k_X1_remember_1 (X : Nat → zK) (Q : zQ) : zK := i_al 0 <| i_gf 1 7 <| i_ic 0 <| i_al 0 <| i_gf 1 14 <| i_al 0 <| i_gf 1 13 <| i_ic 7 <| i_ib (fun x y => x * y) <| i_ic 7 <| i_cp <| i_al 0 <| i_gf 1 15 <| i_al 0 <| i_gf 1 13 <| i_al 0 <| i_gf 1 8 <| i_iast <| i_al 0 <| i_dup <| i_gf 1 13 <| i_ic 1 <| i_ib (fun x y => x + y) <| i_pf 1 13 <| i_vr Q
def F_X1_remember (Q : zQ) (X : Nat → zK) : Nat → zK
  | 0 => k_X1_remember_0 X Q
  | 1 => k_X1_remember_1 X Q
  | _ => fun _ _ _ => False
def T_X1_remember : zTy := fun vs σ Q => zok 1 vs = true ∧ zFix (F_X1_remember Q) 0 (zlc vs) [] σ
def k_X1_goBack_0 (X : Nat → zK) (Q : zQ) : zK := i_al 0 <| i_dup <| i_gf 1 13 <| i_ic 1 <| i_ib (fun x y => x - y) <| i_pf 1 13 <| i_al 0 <| i_gf 1 14 <| i_al 0 <| i_gf 1 13 <| i_ic 7 <| i_ib (fun x y => x * y) <| i_al 0 <| i_gf 1 7 <| i_ic 0 <| i_ic 7 <| i_cp <| i_al 0 <| i_al 0 <| i_gf 1 15 <| i_al 0 <| i_gf 1 13 <| i_ia <| i_pf 1 8 <| i_vr Q
def F_X1_goBack (Q : zQ) (X : Nat → zK) : Nat → zK
  | 0 => k_X1_goBack_0 X Q
  | _ => fun _ _ _ => False
def T_X1_goBack : zTy := fun vs σ Q => zok 1 vs = true ∧ zFix (F_X1_goBack Q) 0 (zlc vs) [] σ
def k_X1_mostVoiced_0 (X : Nat → zK) (Q : zQ) : zK := i_ic (-1) <| i_is 2 <| i_ic 0 <| i_is 3 <| i_jmp X 1 [true, true, true, true]
def k_X1_mostVoiced_1 (X : Nat → zK) (Q : zQ) : zK := i_il 3 <| i_al 0 <| i_gf 1 2 <| i_cmp (fun x y => y ≤ x) (fun x y => ¬ y ≤ x) (i_il 2 <| i_ir Q) <| i_al 0 <| i_gf 1 4 <| i_il 3 <| i_ia <| i_il 1 <| i_cmp (fun x y => ¬ x = y) (fun x y => x = y) (i_jmp X 3 [true, true, true, true]) <| i_il 2 <| i_ic (-1) <| i_cmp (fun x y => x = y) (fun x y => ¬ x = y) (i_jmp X 2 [true, true, false, true]) <| i_al 0 <| i_gf 1 6 <| i_il 3 <| i_ia <| i_al 0 <| i_gf 1 6 <| i_il 2 <| i_ia <| i_cmp (fun x y => x ≤ y) (fun x y => ¬ x ≤ y) (i_jmp X 3 [true, true, true, true]) <| i_jmp X 2 [true, true, false, true]
def k_X1_mostVoiced_2 (X : Nat → zK) (Q : zQ) : zK := i_il 3 <| i_is 2 <| i_jmp X 3 [true, true, true, true]
def k_X1_mostVoiced_3 (X : Nat → zK) (Q : zQ) : zK := i_inc 3 1 <| i_jmp X 1 [true, true, true, true]
def F_X1_mostVoiced (Q : zQ) (X : Nat → zK) : Nat → zK
  | 0 => k_X1_mostVoiced_0 X Q
  | 1 => k_X1_mostVoiced_1 X Q
  | 2 => k_X1_mostVoiced_2 X Q
  | 3 => k_X1_mostVoiced_3 X Q
  | _ => fun _ _ _ => False
def T_X1_mostVoiced : zTy := fun vs σ Q => zok 4 vs = true ∧ zFix (F_X1_mostVoiced Q) 0 (zlc vs) [] σ
def k_X2_kneelsAt_0 (X : Nat → zK) (Q : zQ) : zK := i_il 1 <| i_if (fun x => ¬ x = 0) (fun x => x = 0) (i_jmp X 1 []) <| i_il 2 <| i_if (fun x => x = 0) (fun x => ¬ x = 0) (i_ic 0 <| i_zr Q) <| i_jmp X 1 []
def k_X2_kneelsAt_1 (X : Nat → zK) (Q : zQ) : zK := i_ic 1 <| i_zr Q
def F_X2_kneelsAt (Q : zQ) (X : Nat → zK) : Nat → zK
  | 0 => k_X2_kneelsAt_0 X Q
  | 1 => k_X2_kneelsAt_1 X Q
  | _ => fun _ _ _ => False
def T_X2_kneelsAt : zTy := fun vs σ Q => zok 3 vs = true ∧ zFix (F_X2_kneelsAt Q) 0 (zlc vs) [] σ
def k_X8_loudnessInCase_0 (X : Nat → zK) (Q : zQ) : zK := i_ic 0 <| i_is 4 <| i_ic 0 <| i_is 5 <| i_jmp X 1 [true, true, true, true, true, true]
def k_X8_loudnessInCase_1 (X : Nat → zK) (Q : zQ) : zK := i_il 5 <| i_al 0 <| i_gf 8 1 <| i_cmp (fun x y => y ≤ x) (fun x y => ¬ y ≤ x) (i_il 4 <| i_ir Q) <| i_al 0 <| i_gf 8 3 <| i_il 5 <| i_ia <| i_il 2 <| i_cmp (fun x y => ¬ x = y) (fun x y => x = y) (i_jmp X 2 [true, true, true, true, true, true]) <| i_il 3 <| i_il 5 <| i_call 2 T_X11_bit <| i_if (fun x => ¬ x = 0) (fun x => x = 0) (i_jmp X 2 [true, true, true, true, true, true]) <| i_il 4 <| i_al 0 <| i_gf 8 7 <| i_il 5 <| i_ic 4 <| i_ib (fun x y => x * y) <| i_il 1 <| i_ib (fun x y => x + y) <| i_ia <| i_ib (fun x y => x + y) <| i_is 4 <| i_jmp X 2 [true, true, true, true, true, true]
def k_X8_loudnessInCase_2 (X : Nat → zK) (Q : zQ) : zK := i_inc 5 1 <| i_jmp X 1 [true, true, true, true, true, true]
def F_X8_loudnessInCase (Q : zQ) (X : Nat → zK) : Nat → zK
  | 0 => k_X8_loudnessInCase_0 X Q
  | 1 => k_X8_loudnessInCase_1 X Q
  | 2 => k_X8_loudnessInCase_2 X Q
  | _ => fun _ _ _ => False
def T_X8_loudnessInCase : zTy := fun vs σ Q => zok 6 vs = true ∧ zFix (F_X8_loudnessInCase Q) 0 (zlc vs) [] σ
def k_X8_loudness_0 (X : Nat → zK) (Q : zQ) : zK := i_al 0 <| i_al 0 <| i_gf 8 8 <| i_il 1 <| i_ia <| i_il 2 <| i_il 3 <| i_cv 8 4 T_X8_loudnessInCase <| i_ir Q
def F_X8_loudness (Q : zQ) (X : Nat → zK) : Nat → zK
  | 0 => k_X8_loudness_0 X Q
  | _ => fun _ _ _ => False
def T_X8_loudness : zTy := fun vs σ Q => zok 4 vs = true ∧ zFix (F_X8_loudness Q) 0 (zlc vs) [] σ
def k_X8_agreesWith_0 (X : Nat → zK) (Q : zQ) : zK := i_ic 0 <| i_is 3 <| i_jmp X 1 [true, true, true, true]
def k_X8_agreesWith_1 (X : Nat → zK) (Q : zQ) : zK := i_il 3 <| i_al 1 <| i_gf 1 9 <| i_cmp (fun x y => y ≤ x) (fun x y => ¬ y ≤ x) (i_ic 1 <| i_zr Q) <| i_al 0 <| i_al 1 <| i_gf 1 10 <| i_il 3 <| i_ia <| i_al 1 <| i_gf 1 11 <| i_il 3 <| i_ia <| i_il 2 <| i_cv 8 4 T_X8_loudness <| i_al 1 <| i_gf 1 12 <| i_il 3 <| i_ia <| i_cmp (fun x y => x = y) (fun x y => ¬ x = y) (i_inc 3 1 <| i_jmp X 1 [true, true, true, true]) <| i_ic 0 <| i_zr Q
def F_X8_agreesWith (Q : zQ) (X : Nat → zK) : Nat → zK
  | 0 => k_X8_agreesWith_0 X Q
  | 1 => k_X8_agreesWith_1 X Q
  | _ => fun _ _ _ => False
def T_X8_agreesWith : zTy := fun vs σ Q => zok 4 vs = true ∧ zFix (F_X8_agreesWith Q) 0 (zlc vs) [] σ
def k_X3_find_0 (X : Nat → zK) (Q : zQ) : zK := i_al 0 <| i_al 1 <| i_cv 1 1 T_X1_sets <| i_pf 3 2 <| i_al 0 <| i_ic 0 <| i_pf 3 3 <| i_al 0 <| i_al 0 <| i_gf 3 2 <| i_ic 1 <| i_ib (fun x y => x - y) <| i_pf 3 4 <| i_al 0 <| i_ic 0 <| i_pf 3 5 <| i_ic 0 <| i_is 3 <| i_jmp X 1 [true, true, true, true]
def k_X3_find_1 (X : Nat → zK) (Q : zQ) : zK := i_il 3 <| i_al 0 <| i_gf 3 2 <| i_cmp (fun x y => y ≤ x) (fun x y => ¬ y ≤ x) (i_vr Q) <| i_al 0 <| i_gf 3 0 <| i_il 3 <| i_al 2 <| i_al 1 <| i_il 3 <| i_cv 8 3 T_X8_agreesWith <| i_bast <| i_al 0 <| i_gf 3 0 <| i_il 3 <| i_ba <| i_if (fun x => x = 0) (fun x => ¬ x = 0) (i_jmp X 2 [true, true, true, true]) <| i_al 0 <| i_dup <| i_gf 3 3 <| i_ic 1 <| i_ib (fun x y => x + y) <| i_pf 3 3 <| i_al 0 <| i_dup <| i_gf 3 4 <| i_il 3 <| i_ib (fun x y => x &&& y) <| i_pf 3 4 <| i_al 0 <| i_dup <| i_gf 3 5 <| i_il 3 <| i_ib (fun x y => x ||| y) <| i_pf 3 5 <| i_jmp X 2 [true, true, true, true]
def k_X3_find_2 (X : Nat → zK) (Q : zQ) : zK := i_inc 3 1 <| i_jmp X 1 [true, true, true, true]
def F_X3_find (Q : zQ) (X : Nat → zK) : Nat → zK
  | 0 => k_X3_find_0 X Q
  | 1 => k_X3_find_1 X Q
  | 2 => k_X3_find_2 X Q
  | _ => fun _ _ _ => False
def T_X3_find : zTy := fun vs σ Q => zok 4 vs = true ∧ zFix (F_X3_find Q) 0 (zlc vs) [] σ
def k_X3_firstWordOf_0 (X : Nat → zK) (Q : zQ) : zK := i_ic 0 <| i_is 2 <| i_jmp X 1 [true, true, true]
def k_X3_firstWordOf_1 (X : Nat → zK) (Q : zQ) : zK := i_il 2 <| i_ic 16 <| i_cmp (fun x y => y ≤ x) (fun x y => ¬ y ≤ x) (i_ic (-1) <| i_ir Q) <| i_al 0 <| i_gf 8 8 <| i_il 2 <| i_ia <| i_il 1 <| i_cmp (fun x y => ¬ x = y) (fun x y => x = y) (i_inc 2 1 <| i_jmp X 1 [true, true, true]) <| i_il 2 <| i_ir Q
def F_X3_firstWordOf (Q : zQ) (X : Nat → zK) : Nat → zK
  | 0 => k_X3_firstWordOf_0 X Q
  | 1 => k_X3_firstWordOf_1 X Q
  | _ => fun _ _ _ => False
def T_X3_firstWordOf : zTy := fun vs σ Q => zok 3 vs = true ∧ zFix (F_X3_firstWordOf Q) 0 (zlc vs) [] σ
def k_X3_mostAlike_0 (X : Nat → zK) (Q : zQ) : zK := i_al 0 <| i_gf 3 1 <| i_ic 0 <| i_call 2 T_J7_fill_53178 <| i_ic 0 <| i_is 3 <| i_ic 0 <| i_is 4 <| i_jmp X 1 [true, true, true, true, true]
def k_X3_mostAlike_1 (X : Nat → zK) (Q : zQ) : zK := i_il 4 <| i_al 0 <| i_gf 3 2 <| i_cmp (fun x y => y ≤ x) (fun x y => ¬ y ≤ x) (i_il 3 <| i_ir Q) <| i_al 0 <| i_gf 3 0 <| i_il 4 <| i_ba <| i_if (fun x => x = 0) (fun x => ¬ x = 0) (i_jmp X 2 [true, true, true, true, true]) <| i_al 1 <| i_il 2 <| i_ic 0 <| i_il 4 <| i_cv 8 4 T_X8_loudnessInCase <| i_is 5 <| i_al 0 <| i_gf 3 1 <| i_il 5 <| i_dup2 <| i_ia <| i_ic 1 <| i_ib (fun x y => x + y) <| i_iast <| i_il 3 <| i_al 0 <| i_gf 3 1 <| i_il 5 <| i_ia <| i_mmax <| i_is 3 <| i_jmp X 2 [true, true, true, true, true]
def k_X3_mostAlike_2 (X : Nat → zK) (Q : zQ) : zK := i_inc 4 1 <| i_jmp X 1 [true, true, true, true, true]
def F_X3_mostAlike (Q : zQ) (X : Nat → zK) : Nat → zK
  | 0 => k_X3_mostAlike_0 X Q
  | 1 => k_X3_mostAlike_1 X Q
  | 2 => k_X3_mostAlike_2 X Q
  | _ => fun _ _ _ => False
def T_X3_mostAlike : zTy := fun vs σ Q => zok 6 vs = true ∧ zFix (F_X3_mostAlike Q) 0 (zlc vs) [] σ
def k_X3_bestWord_0 (X : Nat → zK) (Q : zQ) : zK := i_al 0 <| i_gf 3 3 <| i_if (fun x => ¬ x = 0) (fun x => x = 0) (i_ic (-1) <| i_is 2 <| i_ic 0 <| i_is 3 <| i_ic 0 <| i_is 4 <| i_jmp X 1 [true, true, true, true, true]) <| i_ic (-1) <| i_ir Q
def k_X3_bestWord_1 (X : Nat → zK) (Q : zQ) : zK := i_il 4 <| i_ic 4 <| i_cmp (fun x y => y ≤ x) (fun x y => ¬ y ≤ x) (i_il 2 <| i_ir Q) <| i_al 1 <| i_il 4 <| i_call 2 T_X3_firstWordOf <| i_is 5 <| i_il 5 <| i_ic (-1) <| i_cmp (fun x y => ¬ x = y) (fun x y => x = y) (i_al 0 <| i_al 1 <| i_il 4 <| i_cv 3 3 T_X3_mostAlike <| i_jmp X 2 [true, true, true, true, true, true]) <| i_ic 0 <| i_jmp X 2 [true, true, true, true, true, true]
def k_X3_bestWord_2 (X : Nat → zK) (Q : zQ) : zK := i_is 6 <| i_il 2 <| i_ic (-1) <| i_cmp (fun x y => x = y) (fun x y => ¬ x = y) (i_jmp X 3 [true, true, true, true, true, true, true]) <| i_il 6 <| i_il 3 <| i_cmp (fun x y => x < y) (fun x y => ¬ x < y) (i_jmp X 3 [true, true, true, true, true, true, true]) <| i_il 6 <| i_il 3 <| i_cmp (fun x y => ¬ x = y) (fun x y => x = y) (i_jmp X 4 [true, true, true, true, true, true, true]) <| i_il 5 <| i_il 2 <| i_cmp (fun x y => y ≤ x) (fun x y => ¬ y ≤ x) (i_jmp X 4 [true, true, true, true, true, true, true]) <| i_jmp X 3 [true, true, true, true, true, true, true]
def k_X3_bestWord_3 (X : Nat → zK) (Q : zQ) : zK := i_ic 1 <| i_jmp X 5 [true, true, true, true, true, true, true]
def k_X3_bestWord_4 (X : Nat → zK) (Q : zQ) : zK := i_ic 0 <| i_jmp X 5 [true, true, true, true, true, true, true]
def k_X3_bestWord_5 (X : Nat → zK) (Q : zQ) : zK := i_is 7 <| i_il 5 <| i_ic (-1) <| i_cmp (fun x y => x = y) (fun x y => ¬ x = y) (i_jmp X 6 [true, true, true, true, true]) <| i_il 7 <| i_if (fun x => x = 0) (fun x => ¬ x = 0) (i_jmp X 6 [true, true, true, true, true]) <| i_il 5 <| i_is 2 <| i_il 6 <| i_is 3 <| i_jmp X 6 [true, true, true, true, true]
def k_X3_bestWord_6 (X : Nat → zK) (Q : zQ) : zK := i_inc 4 1 <| i_jmp X 1 [true, true, true, true, true]
def F_X3_bestWord (Q : zQ) (X : Nat → zK) : Nat → zK
  | 0 => k_X3_bestWord_0 X Q
  | 1 => k_X3_bestWord_1 X Q
  | 2 => k_X3_bestWord_2 X Q
  | 3 => k_X3_bestWord_3 X Q
  | 4 => k_X3_bestWord_4 X Q
  | 5 => k_X3_bestWord_5 X Q
  | 6 => k_X3_bestWord_6 X Q
  | _ => fun _ _ _ => False
def T_X3_bestWord : zTy := fun vs σ Q => zok 8 vs = true ∧ zFix (F_X3_bestWord Q) 0 (zlc vs) [] σ
def k_X4_kneelsAt_0 (X : Nat → zK) (Q : zQ) : zK := i_ic 0 <| i_zr Q
def F_X4_kneelsAt (Q : zQ) (X : Nat → zK) : Nat → zK
  | 0 => k_X4_kneelsAt_0 X Q
  | _ => fun _ _ _ => False
def T_X4_kneelsAt : zTy := fun vs σ Q => zok 3 vs = true ∧ zFix (F_X4_kneelsAt Q) 0 (zlc vs) [] σ
def k_X4_height_0 (X : Nat → zK) (Q : zQ) : zK := i_al 0 <| i_il 1 <| i_il 2 <| i_cu 3 T_X6_height <| i_ic 1 <| i_ib (fun x y => x + y) <| i_ir Q
def F_X4_height (Q : zQ) (X : Nat → zK) : Nat → zK
  | 0 => k_X4_height_0 X Q
  | _ => fun _ _ _ => False
def T_X4_height : zTy := fun vs σ Q => zok 3 vs = true ∧ zFix (F_X4_height Q) 0 (zlc vs) [] σ
def k_X6_sound_0 (X : Nat → zK) (Q : zQ) : zK := i_il 2 <| i_if (fun x => x = 0) (fun x => ¬ x = 0) (i_il 1 <| i_ir Q) <| i_ic 0 <| i_ir Q
def F_X6_sound (Q : zQ) (X : Nat → zK) : Nat → zK
  | 0 => k_X6_sound_0 X Q
  | _ => fun _ _ _ => False
def T_X6_sound : zTy := fun vs σ Q => zok 3 vs = true ∧ zFix (F_X6_sound Q) 0 (zlc vs) [] σ
def k_X5_sound_0 (X : Nat → zK) (Q : zQ) : zK := i_al 0 <| i_il 1 <| i_il 2 <| i_cu 3 T_X6_sound <| i_ic 2 <| i_idiv <| i_ir Q
def F_X5_sound (Q : zQ) (X : Nat → zK) : Nat → zK
  | 0 => k_X5_sound_0 X Q
  | _ => fun _ _ _ => False
def T_X5_sound : zTy := fun vs σ Q => zok 3 vs = true ∧ zFix (F_X5_sound Q) 0 (zlc vs) [] σ
def k_X6_kneelsAt_0 (X : Nat → zK) (Q : zQ) : zK := i_il 1 <| i_zr Q
def F_X6_kneelsAt (Q : zQ) (X : Nat → zK) : Nat → zK
  | 0 => k_X6_kneelsAt_0 X Q
  | _ => fun _ _ _ => False
def T_X6_kneelsAt : zTy := fun vs σ Q => zok 3 vs = true ∧ zFix (F_X6_kneelsAt Q) 0 (zlc vs) [] σ
def k_X7_worth_0 (X : Nat → zK) (Q : zQ) : zK := i_ic 0 <| i_is 5 <| i_ic 0 <| i_is 6 <| i_jmp X 1 [true, true, true, true, true, true, true]
def k_X7_worth_1 (X : Nat → zK) (Q : zQ) : zK := i_il 6 <| i_ic 4 <| i_cmp (fun x y => y ≤ x) (fun x y => ¬ y ≤ x) (i_il 5 <| i_ic 10000000 <| i_ib (fun x y => x * y) <| i_ic 9 <| i_il 4 <| i_ib (fun x y => x - y) <| i_gfig <| i_il 2 <| i_fig <| i_ib (fun x y => x * y) <| i_ib (fun x y => x + y) <| i_ir Q) <| i_al 1 <| i_gf 8 6 <| i_il 2 <| i_ic 4 <| i_ib (fun x y => x * y) <| i_il 6 <| i_ib (fun x y => x + y) <| i_ia <| i_al 0 <| i_gf 7 1 <| i_il 3 <| i_ic 4 <| i_ib (fun x y => x * y) <| i_il 6 <| i_ib (fun x y => x + y) <| i_ia <| i_cmp (fun x y => x ≤ y) (fun x y => ¬ x ≤ y) (i_jmp X 2 [true, true, true, true, true, true, true]) <| i_il 5 <| i_al 1 <| i_gf 8 9 <| i_il 6 <| i_ia <| i_ib (fun x y => x + y) <| i_is 5 <| i_jmp X 2 [true, true, true, true, true, true, true]
def k_X7_worth_2 (X : Nat → zK) (Q : zQ) : zK := i_inc 6 1 <| i_jmp X 1 [true, true, true, true, true, true, true]
def F_X7_worth (Q : zQ) (X : Nat → zK) : Nat → zK
  | 0 => k_X7_worth_0 X Q
  | 1 => k_X7_worth_1 X Q
  | 2 => k_X7_worth_2 X Q
  | _ => fun _ _ _ => False
def T_X7_worth : zTy := fun vs σ Q => zok 7 vs = true ∧ zFix (F_X7_worth Q) 0 (zlc vs) [] σ
def k_X7_fillPew_0 (X : Nat → zK) (Q : zQ) : zK := i_il 2 <| i_ic 1 <| i_ib (fun x y => x - y) <| i_is 4 <| i_jmp X 1 [true, true, false, true, true]
def k_X7_fillPew_1 (X : Nat → zK) (Q : zQ) : zK := i_il 4 <| i_if (fun x => x ≤ 0) (fun x => ¬ x ≤ 0) (i_vr Q) <| i_ic 0 <| i_is 5 <| i_jmp X 2 [true, true, false, true, true, true]
def k_X7_fillPew_2 (X : Nat → zK) (Q : zQ) : zK := i_il 5 <| i_al 1 <| i_gf 8 1 <| i_cmp (fun x y => y ≤ x) (fun x y => ¬ y ≤ x) (i_inc 4 (-1) <| i_jmp X 1 [true, true, false, true, true]) <| i_il 4 <| i_ic 1 <| i_il 5 <| i_ib (fun x y => x <<< (y &&& 31)) <| i_ic (-1) <| i_ib (fun x y => x ^^^ y) <| i_ib (fun x y => x &&& y) <| i_is 6 <| i_il 6 <| i_il 4 <| i_cmp (fun x y => x = y) (fun x y => ¬ x = y) (i_jmp X 3 [true, true, false, true, true, true]) <| i_al 1 <| i_gf 8 3 <| i_il 5 <| i_ia <| i_il 3 <| i_ic 2 <| i_irem <| i_cmp (fun x y => ¬ x = y) (fun x y => x = y) (i_jmp X 3 [true, true, false, true, true, true]) <| i_al 0 <| i_gf 7 0 <| i_il 6 <| i_ia <| i_ic (-1) <| i_cmp (fun x y => x = y) (fun x y => ¬ x = y) (i_jmp X 3 [true, true, false, true, true, true]) <| i_al 0 <| i_gf 7 0 <| i_il 4 <| i_al 0 <| i_gf 7 0 <| i_il 4 <| i_ia <| i_al 0 <| i_gf 7 0 <| i_il 6 <| i_ia <| i_al 0 <| i_al 1 <| i_il 5 <| i_il 6 <| i_il 3 <| i_cv 7 5 T_X7_worth <| i_ib (fun x y => x + y) <| i_mmax <| i_iast <| i_jmp X 3 [true, true, false, true, true, true]
def k_X7_fillPew_3 (X : Nat → zK) (Q : zQ) : zK := i_inc 5 1 <| i_jmp X 2 [true, true, false, true, true, true]
def F_X7_fillPew (Q : zQ) (X : Nat → zK) : Nat → zK
  | 0 => k_X7_fillPew_0 X Q
  | 1 => k_X7_fillPew_1 X Q
  | 2 => k_X7_fillPew_2 X Q
  | 3 => k_X7_fillPew_3 X Q
  | _ => fun _ _ _ => False
def T_X7_fillPew : zTy := fun vs σ Q => zok 7 vs = true ∧ zFix (F_X7_fillPew Q) 0 (zlc vs) [] σ
def k_X7_firstOf_0 (X : Nat → zK) (Q : zQ) : zK := i_ic 0 <| i_is 1 <| i_jmp X 1 [true, true]
def k_X7_firstOf_1 (X : Nat → zK) (Q : zQ) : zK := i_il 1 <| i_ic 6 <| i_cmp (fun x y => y ≤ x) (fun x y => ¬ y ≤ x) (i_il 1 <| i_ir Q) <| i_il 0 <| i_il 1 <| i_call 2 T_X11_bit <| i_if (fun x => ¬ x = 0) (fun x => x = 0) (i_il 1 <| i_ir Q) <| i_inc 1 1 <| i_jmp X 1 [true, true]
def F_X7_firstOf (Q : zQ) (X : Nat → zK) : Nat → zK
  | 0 => k_X7_firstOf_0 X Q
  | 1 => k_X7_firstOf_1 X Q
  | _ => fun _ _ _ => False
def T_X7_firstOf : zTy := fun vs σ Q => zok 2 vs = true ∧ zFix (F_X7_firstOf Q) 0 (zlc vs) [] σ
def k_X7_findTallest_0 (X : Nat → zK) (Q : zQ) : zK := i_ic 0 <| i_is 3 <| i_jmp X 1 [true, true, true, true]
def k_X7_findTallest_1 (X : Nat → zK) (Q : zQ) : zK := i_il 3 <| i_ic 4 <| i_cmp (fun x y => y ≤ x) (fun x y => ¬ y ≤ x) (i_ic 1 <| i_is 3 <| i_jmp X 2 [true, true, true, true]) <| i_al 0 <| i_gf 7 1 <| i_il 3 <| i_ic (-1) <| i_iast <| i_inc 3 1 <| i_jmp X 1 [true, true, true, true]
def k_X7_findTallest_2 (X : Nat → zK) (Q : zQ) : zK := i_il 3 <| i_il 2 <| i_cmp (fun x y => y ≤ x) (fun x y => ¬ y ≤ x) (i_vr Q) <| i_il 3 <| i_call 1 T_X7_firstOf <| i_is 4 <| i_il 3 <| i_ic 1 <| i_il 4 <| i_ib (fun x y => x <<< (y &&& 31)) <| i_ic (-1) <| i_ib (fun x y => x ^^^ y) <| i_ib (fun x y => x &&& y) <| i_is 5 <| i_ic 0 <| i_is 6 <| i_jmp X 3 [true, true, true, true, true, true, true]
def k_X7_findTallest_3 (X : Nat → zK) (Q : zQ) : zK := i_il 6 <| i_ic 4 <| i_cmp (fun x y => y ≤ x) (fun x y => ¬ y ≤ x) (i_inc 3 1 <| i_jmp X 2 [true, true, true, true]) <| i_al 0 <| i_gf 7 1 <| i_il 3 <| i_ic 4 <| i_ib (fun x y => x * y) <| i_il 6 <| i_ib (fun x y => x + y) <| i_al 0 <| i_gf 7 1 <| i_il 5 <| i_ic 4 <| i_ib (fun x y => x * y) <| i_il 6 <| i_ib (fun x y => x + y) <| i_ia <| i_al 1 <| i_gf 8 6 <| i_il 4 <| i_ic 4 <| i_ib (fun x y => x * y) <| i_il 6 <| i_ib (fun x y => x + y) <| i_ia <| i_mmax <| i_iast <| i_inc 6 1 <| i_jmp X 3 [true, true, true, true, true, true, true]
def F_X7_findTallest (Q : zQ) (X : Nat → zK) : Nat → zK
  | 0 => k_X7_findTallest_0 X Q
  | 1 => k_X7_findTallest_1 X Q
  | 2 => k_X7_findTallest_2 X Q
  | 3 => k_X7_findTallest_3 X Q
  | _ => fun _ _ _ => False
def T_X7_findTallest : zTy := fun vs σ Q => zok 7 vs = true ∧ zFix (F_X7_findTallest Q) 0 (zlc vs) [] σ
def k_X7_find_0 (X : Nat → zK) (Q : zQ) : zK := i_ic 1 <| i_al 1 <| i_gf 8 1 <| i_ib (fun x y => x <<< (y &&& 31)) <| i_is 2 <| i_al 0 <| i_al 1 <| i_il 2 <| i_cv 7 3 T_X7_findTallest <| i_al 0 <| i_gf 7 0 <| i_ic (-1) <| i_call 2 T_J7_fill_53178 <| i_al 0 <| i_gf 7 0 <| i_ic 0 <| i_ic 0 <| i_iast <| i_ic 0 <| i_is 3 <| i_jmp X 1 [true, true, true, true]
def k_X7_find_1 (X : Nat → zK) (Q : zQ) : zK := i_il 3 <| i_ic 10 <| i_cmp (fun x y => y ≤ x) (fun x y => ¬ y ≤ x) (i_al 0 <| i_al 0 <| i_gf 7 0 <| i_il 2 <| i_ic 1 <| i_ib (fun x y => x - y) <| i_ia <| i_pf 7 2 <| i_vr Q) <| i_al 0 <| i_al 1 <| i_il 2 <| i_il 3 <| i_cv 7 4 T_X7_fillPew <| i_inc 3 1 <| i_jmp X 1 [true, true, true, true]
def F_X7_find (Q : zQ) (X : Nat → zK) : Nat → zK
  | 0 => k_X7_find_0 X Q
  | 1 => k_X7_find_1 X Q
  | _ => fun _ _ _ => False
def T_X7_find : zTy := fun vs σ Q => zok 4 vs = true ∧ zFix (F_X7_find Q) 0 (zlc vs) [] σ
def k_X7_seen_0 (X : Nat → zK) (Q : zQ) : zK := i_al 0 <| i_gf 7 2 <| i_ic 10000000 <| i_idiv <| i_ir Q
def F_X7_seen (Q : zQ) (X : Nat → zK) : Nat → zK
  | 0 => k_X7_seen_0 X Q
  | _ => fun _ _ _ => False
def T_X7_seen : zTy := fun vs σ Q => zok 1 vs = true ∧ zFix (F_X7_seen Q) 0 (zlc vs) [] σ
def k_X7_pewOf_0 (X : Nat → zK) (Q : zQ) : zK := i_ic 9 <| i_al 0 <| i_gf 7 2 <| i_gfig <| i_il 1 <| i_fig <| i_idiv <| i_ic 10 <| i_irem <| i_ib (fun x y => x - y) <| i_ir Q
def F_X7_pewOf (Q : zQ) (X : Nat → zK) : Nat → zK
  | 0 => k_X7_pewOf_0 X Q
  | _ => fun _ _ _ => False
def T_X7_pewOf : zTy := fun vs σ Q => zok 2 vs = true ∧ zFix (F_X7_pewOf Q) 0 (zlc vs) [] σ
def k_X10_kneelsAt_0 (X : Nat → zK) (Q : zQ) : zK := i_il 1 <| i_if (fun x => x = 0) (fun x => ¬ x = 0) (i_ic 0 <| i_zr Q) <| i_il 2 <| i_if (fun x => x = 0) (fun x => ¬ x = 0) (i_ic 0 <| i_zr Q) <| i_ic 1 <| i_zr Q
def F_X10_kneelsAt (Q : zQ) (X : Nat → zK) : Nat → zK
  | 0 => k_X10_kneelsAt_0 X Q
  | _ => fun _ _ _ => False
def T_X10_kneelsAt : zTy := fun vs σ Q => zok 3 vs = true ∧ zFix (F_X10_kneelsAt Q) 0 (zlc vs) [] σ
def k_X10_sound_0 (X : Nat → zK) (Q : zQ) : zK := i_ic 0 <| i_al 0 <| i_il 1 <| i_il 2 <| i_cu 3 T_X6_sound <| i_ic 1 <| i_ib (fun x y => x - y) <| i_mmax <| i_ir Q
def F_X10_sound (Q : zQ) (X : Nat → zK) : Nat → zK
  | 0 => k_X10_sound_0 X Q
  | _ => fun _ _ _ => False
def T_X10_sound : zTy := fun vs σ Q => zok 3 vs = true ∧ zFix (F_X10_sound Q) 0 (zlc vs) [] σ
def D_height : Nat → zTy
  | 0 => T_X0_height
  | 2 => T_X6_height
  | 4 => T_X4_height
  | 5 => T_X6_height
  | 6 => T_X6_height
  | 10 => T_X6_height
  | _ => fun _ _ _ => False
def D_kneelsAt : Nat → zTy
  | 0 => T_X6_kneelsAt
  | 2 => T_X2_kneelsAt
  | 4 => T_X4_kneelsAt
  | 5 => T_X6_kneelsAt
  | 6 => T_X6_kneelsAt
  | 10 => T_X10_kneelsAt
  | _ => fun _ _ _ => False
def D_sound : Nat → zTy
  | 0 => T_X5_sound
  | 2 => T_X6_sound
  | 4 => T_X6_sound
  | 5 => T_X5_sound
  | 6 => T_X6_sound
  | 10 => T_X10_sound
  | _ => fun _ _ _ => False
def k_X8_suppose_0 (X : Nat → zK) (Q : zQ) : zK := i_al 0 <| i_gf 8 0 <| i_il 3 <| i_aa <| i_as 5 <| i_al 0 <| i_gf 8 3 <| i_il 2 <| i_il 4 <| i_iast <| i_ic 0 <| i_is 6 <| i_jmp X 1 [true, true, true, false, true, true, true]
def k_X8_suppose_1 (X : Nat → zK) (Q : zQ) : zK := i_il 6 <| i_ic 4 <| i_cmp (fun x y => y ≤ x) (fun x y => ¬ y ≤ x) (i_vr Q) <| i_il 2 <| i_ic 4 <| i_ib (fun x y => x * y) <| i_il 6 <| i_ib (fun x y => x + y) <| i_is 7 <| i_al 0 <| i_gf 8 5 <| i_il 7 <| i_al 5 <| i_il 6 <| i_il 4 <| i_call 2 T_X11_bit <| i_ic 1 <| i_cmp (fun x y => ¬ x = y) (fun x y => x = y) (i_ic 0 <| i_jmp X 2 [true, true, true, false, true, true, true, true]) <| i_ic 1 <| i_jmp X 2 [true, true, true, false, true, true, true, true]
def k_X8_suppose_2 (X : Nat → zK) (Q : zQ) : zK := i_il 6 <| i_ic 1 <| i_il 4 <| i_ib (fun x y => x - y) <| i_call 2 T_X11_bit <| i_ic 1 <| i_cmp (fun x y => ¬ x = y) (fun x y => x = y) (i_ic 0 <| i_jmp X 3 [true, true, true, false, true, true, true, true]) <| i_ic 1 <| i_jmp X 3 [true, true, true, false, true, true, true, true]
def k_X8_suppose_3 (X : Nat → zK) (Q : zQ) : zK := i_cd 3 D_kneelsAt <| i_bast <| i_al 0 <| i_gf 8 6 <| i_il 7 <| i_al 5 <| i_al 1 <| i_gf 1 5 <| i_il 2 <| i_ia <| i_al 0 <| i_gf 8 5 <| i_il 7 <| i_ba <| i_cd 3 D_height <| i_iast <| i_al 0 <| i_gf 8 7 <| i_il 7 <| i_al 5 <| i_al 1 <| i_gf 1 6 <| i_il 2 <| i_ia <| i_al 0 <| i_gf 8 5 <| i_il 7 <| i_ba <| i_cd 3 D_sound <| i_iast <| i_inc 6 1 <| i_jmp X 1 [true, true, true, false, true, true, true]
def F_X8_suppose (Q : zQ) (X : Nat → zK) : Nat → zK
  | 0 => k_X8_suppose_0 X Q
  | 1 => k_X8_suppose_1 X Q
  | 2 => k_X8_suppose_2 X Q
  | 3 => k_X8_suppose_3 X Q
  | _ => fun _ _ _ => False
def T_X8_suppose : zTy := fun vs σ Q => zok 8 vs = true ∧ zFix (F_X8_suppose Q) 0 (zlc vs) [] σ
def k_X8_hold_0 (X : Nat → zK) (Q : zQ) : zK := i_al 0 <| i_al 1 <| i_gf 1 2 <| i_pf 8 1 <| i_al 0 <| i_al 1 <| i_gf 1 0 <| i_pf 8 2 <| i_al 0 <| i_gf 8 9 <| i_ic 0 <| i_call 2 T_J7_fill_53178 <| i_ic 0 <| i_is 2 <| i_jmp X 1 [true, true, true]
def k_X8_hold_1 (X : Nat → zK) (Q : zQ) : zK := i_il 2 <| i_ic 16 <| i_cmp (fun x y => y ≤ x) (fun x y => ¬ y ≤ x) (i_ic 0 <| i_is 2 <| i_jmp X 2 [true, true, true]) <| i_al 0 <| i_gf 8 8 <| i_il 2 <| i_al 1 <| i_gf 1 1 <| i_ic 0 <| i_ia <| i_il 2 <| i_call 2 T_X11_bit <| i_al 1 <| i_gf 1 1 <| i_ic 1 <| i_ia <| i_il 2 <| i_call 2 T_X11_bit <| i_ic 1 <| i_ib (fun x y => x <<< (y &&& 31)) <| i_ib (fun x y => x ||| y) <| i_iast <| i_al 0 <| i_gf 8 9 <| i_al 0 <| i_gf 8 8 <| i_il 2 <| i_ia <| i_dup2 <| i_ia <| i_ic 1 <| i_ib (fun x y => x + y) <| i_iast <| i_inc 2 1 <| i_jmp X 1 [true, true, true]
def k_X8_hold_2 (X : Nat → zK) (Q : zQ) : zK := i_il 2 <| i_al 0 <| i_gf 8 1 <| i_cmp (fun x y => y ≤ x) (fun x y => ¬ y ≤ x) (i_vr Q) <| i_al 0 <| i_gf 8 4 <| i_il 2 <| i_al 1 <| i_gf 1 7 <| i_il 2 <| i_ia <| i_iast <| i_al 0 <| i_al 1 <| i_il 2 <| i_al 1 <| i_gf 1 3 <| i_il 2 <| i_ia <| i_al 1 <| i_gf 1 4 <| i_il 2 <| i_ia <| i_cv 8 5 T_X8_suppose <| i_inc 2 1 <| i_jmp X 2 [true, true, true]
def F_X8_hold (Q : zQ) (X : Nat → zK) : Nat → zK
  | 0 => k_X8_hold_0 X Q
  | 1 => k_X8_hold_1 X Q
  | 2 => k_X8_hold_2 X Q
  | _ => fun _ _ _ => False
def T_X8_hold : zTy := fun vs σ Q => zok 3 vs = true ∧ zFix (F_X8_hold Q) 0 (zlc vs) [] σ
def k_X8_kneels_0 (X : Nat → zK) (Q : zQ) : zK := i_al 0 <| i_gf 8 5 <| i_il 1 <| i_ic 4 <| i_ib (fun x y => x * y) <| i_al 0 <| i_gf 8 8 <| i_il 2 <| i_ia <| i_ib (fun x y => x + y) <| i_ba <| i_zr Q
def F_X8_kneels (Q : zQ) (X : Nat → zK) : Nat → zK
  | 0 => k_X8_kneels_0 X Q
  | _ => fun _ _ _ => False
def T_X8_kneels : zTy := fun vs σ Q => zok 3 vs = true ∧ zFix (F_X8_kneels Q) 0 (zlc vs) [] σ
def k_X8_high_0 (X : Nat → zK) (Q : zQ) : zK := i_al 0 <| i_gf 8 6 <| i_il 1 <| i_ic 4 <| i_ib (fun x y => x * y) <| i_al 0 <| i_gf 8 8 <| i_il 2 <| i_ia <| i_ib (fun x y => x + y) <| i_ia <| i_ir Q
def F_X8_high (Q : zQ) (X : Nat → zK) : Nat → zK
  | 0 => k_X8_high_0 X Q
  | _ => fun _ _ _ => False
def T_X8_high : zTy := fun vs σ Q => zok 3 vs = true ∧ zFix (F_X8_high Q) 0 (zlc vs) [] σ
def k_X8_voices_0 (X : Nat → zK) (Q : zQ) : zK := i_il 3 <| i_il 1 <| i_call 2 T_X11_bit <| i_ic 1 <| i_cmp (fun x y => ¬ x = y) (fun x y => x = y) (i_al 0 <| i_gf 8 7 <| i_il 1 <| i_ic 4 <| i_ib (fun x y => x * y) <| i_al 0 <| i_gf 8 8 <| i_il 2 <| i_ia <| i_ib (fun x y => x + y) <| i_ia <| i_ir Q) <| i_ic 0 <| i_ir Q
def F_X8_voices (Q : zQ) (X : Nat → zK) : Nat → zK
  | 0 => k_X8_voices_0 X Q
  | _ => fun _ _ _ => False
def T_X8_voices : zTy := fun vs σ Q => zok 4 vs = true ∧ zFix (F_X8_voices Q) 0 (zlc vs) [] σ
def k_X8_sees_0 (X : Nat → zK) (Q : zQ) : zK := i_ic 0 <| i_is 3 <| i_jmp X 1 [true, true, true, true]
def k_X8_sees_1 (X : Nat → zK) (Q : zQ) : zK := i_il 3 <| i_al 0 <| i_gf 8 1 <| i_cmp (fun x y => y ≤ x) (fun x y => ¬ y ≤ x) (i_ic 1 <| i_zr Q) <| i_al 0 <| i_gf 8 4 <| i_il 3 <| i_ia <| i_al 0 <| i_gf 8 4 <| i_il 1 <| i_ia <| i_cmp (fun x y => y ≤ x) (fun x y => ¬ y ≤ x) (i_jmp X 2 [true, true, true, true]) <| i_al 0 <| i_il 3 <| i_il 2 <| i_cv 8 3 T_X8_high <| i_al 0 <| i_il 1 <| i_il 2 <| i_cv 8 3 T_X8_high <| i_cmp (fun x y => x < y) (fun x y => ¬ x < y) (i_jmp X 2 [true, true, true, true]) <| i_ic 0 <| i_zr Q
def k_X8_sees_2 (X : Nat → zK) (Q : zQ) : zK := i_inc 3 1 <| i_jmp X 1 [true, true, true, true]
def F_X8_sees (Q : zQ) (X : Nat → zK) : Nat → zK
  | 0 => k_X8_sees_0 X Q
  | 1 => k_X8_sees_1 X Q
  | 2 => k_X8_sees_2 X Q
  | _ => fun _ _ _ => False
def T_X8_sees : zTy := fun vs σ Q => zok 4 vs = true ∧ zFix (F_X8_sees Q) 0 (zlc vs) [] σ
def k_X8_isPeacefulInCase_0 (X : Nat → zK) (Q : zQ) : zK := i_al 0 <| i_il 1 <| i_ic 0 <| i_il 2 <| i_cv 8 4 T_X8_loudnessInCase <| i_al 0 <| i_il 1 <| i_ic 1 <| i_il 2 <| i_cv 8 4 T_X8_loudnessInCase <| i_ib (fun x y => x - y) <| i_mabs <| i_al 0 <| i_gf 8 2 <| i_cmp (fun x y => y < x) (fun x y => ¬ y < x) (i_ic 0 <| i_zr Q) <| i_ic 1 <| i_zr Q
def F_X8_isPeacefulInCase (Q : zQ) (X : Nat → zK) : Nat → zK
  | 0 => k_X8_isPeacefulInCase_0 X Q
  | _ => fun _ _ _ => False
def T_X8_isPeacefulInCase : zTy := fun vs σ Q => zok 3 vs = true ∧ zFix (F_X8_isPeacefulInCase Q) 0 (zlc vs) [] σ
def k_X8_isPeaceful_0 (X : Nat → zK) (Q : zQ) : zK := i_al 0 <| i_al 0 <| i_gf 8 8 <| i_il 1 <| i_ia <| i_il 2 <| i_cv 8 3 T_X8_isPeacefulInCase <| i_zr Q
def F_X8_isPeaceful (Q : zQ) (X : Nat → zK) : Nat → zK
  | 0 => k_X8_isPeaceful_0 X Q
  | _ => fun _ _ _ => False
def T_X8_isPeaceful : zTy := fun vs σ Q => zok 3 vs = true ∧ zFix (F_X8_isPeaceful Q) 0 (zlc vs) [] σ
def k_X8_peacefulWords_0 (X : Nat → zK) (Q : zQ) : zK := i_ic 0 <| i_is 2 <| i_ic 0 <| i_is 3 <| i_jmp X 1 [true, true, true, true]
def k_X8_peacefulWords_1 (X : Nat → zK) (Q : zQ) : zK := i_il 3 <| i_ic 4 <| i_cmp (fun x y => y ≤ x) (fun x y => ¬ y ≤ x) (i_il 2 <| i_ir Q) <| i_al 0 <| i_gf 8 9 <| i_il 3 <| i_ia <| i_if (fun x => x ≤ 0) (fun x => ¬ x ≤ 0) (i_jmp X 2 [true, true, true, true]) <| i_al 0 <| i_il 3 <| i_il 1 <| i_cv 8 3 T_X8_isPeacefulInCase <| i_if (fun x => x = 0) (fun x => ¬ x = 0) (i_jmp X 2 [true, true, true, true]) <| i_il 2 <| i_al 0 <| i_gf 8 9 <| i_il 3 <| i_ia <| i_ib (fun x y => x + y) <| i_is 2 <| i_jmp X 2 [true, true, true, true]
def k_X8_peacefulWords_2 (X : Nat → zK) (Q : zQ) : zK := i_inc 3 1 <| i_jmp X 1 [true, true, true, true]
def F_X8_peacefulWords (Q : zQ) (X : Nat → zK) : Nat → zK
  | 0 => k_X8_peacefulWords_0 X Q
  | 1 => k_X8_peacefulWords_1 X Q
  | 2 => k_X8_peacefulWords_2 X Q
  | _ => fun _ _ _ => False
def T_X8_peacefulWords : zTy := fun vs σ Q => zok 4 vs = true ∧ zFix (F_X8_peacefulWords Q) 0 (zlc vs) [] σ
def k_X8_isPeacefulThroughout_0 (X : Nat → zK) (Q : zQ) : zK := i_ic 0 <| i_is 2 <| i_jmp X 1 [true, true, true]
def k_X8_isPeacefulThroughout_1 (X : Nat → zK) (Q : zQ) : zK := i_il 2 <| i_ic 4 <| i_cmp (fun x y => y ≤ x) (fun x y => ¬ y ≤ x) (i_ic 1 <| i_zr Q) <| i_al 0 <| i_gf 8 9 <| i_il 2 <| i_ia <| i_if (fun x => x ≤ 0) (fun x => ¬ x ≤ 0) (i_jmp X 2 [true, true, true]) <| i_al 0 <| i_il 2 <| i_il 1 <| i_cv 8 3 T_X8_isPeacefulInCase <| i_if (fun x => ¬ x = 0) (fun x => x = 0) (i_jmp X 2 [true, true, true]) <| i_ic 0 <| i_zr Q
def k_X8_isPeacefulThroughout_2 (X : Nat → zK) (Q : zQ) : zK := i_inc 2 1 <| i_jmp X 1 [true, true, true]
def F_X8_isPeacefulThroughout (Q : zQ) (X : Nat → zK) : Nat → zK
  | 0 => k_X8_isPeacefulThroughout_0 X Q
  | 1 => k_X8_isPeacefulThroughout_1 X Q
  | 2 => k_X8_isPeacefulThroughout_2 X Q
  | _ => fun _ _ _ => False
def T_X8_isPeacefulThroughout : zTy := fun vs σ Q => zok 3 vs = true ∧ zFix (F_X8_isPeacefulThroughout Q) 0 (zlc vs) [] σ
def k_X9_append_0 (X : Nat → zK) (Q : zQ) : zK := i_al 0 <| i_gf 9 0 <| i_al 0 <| i_gf 9 1 <| i_il 1 <| i_iast <| i_al 0 <| i_dup <| i_gf 9 1 <| i_ic 1 <| i_ib (fun x y => x + y) <| i_pf 9 1 <| i_al 0 <| i_gf 9 1 <| i_ir Q
def F_X9_append (Q : zQ) (X : Nat → zK) : Nat → zK
  | 0 => k_X9_append_0 X Q
  | _ => fun _ _ _ => False
def T_X9_append : zTy := fun vs σ Q => zok 2 vs = true ∧ zFix (F_X9_append Q) 0 (zlc vs) [] σ
def k_X9_figures_0 (X : Nat → zK) (Q : zQ) : zK := i_al 0 <| i_gf 9 4 <| i_al 0 <| i_gf 9 3 <| i_ib (fun x y => x - y) <| i_ic 2 <| i_cmp (fun x y => x ≤ y) (fun x y => ¬ x ≤ y) (i_ic 0 <| i_is 1 <| i_al 0 <| i_gf 9 3 <| i_is 2 <| i_jmp X 1 [true, true, true]) <| i_ic (-1) <| i_ir Q
def k_X9_figures_1 (X : Nat → zK) (Q : zQ) : zK := i_il 2 <| i_al 0 <| i_gf 9 4 <| i_cmp (fun x y => y ≤ x) (fun x y => ¬ y ≤ x) (i_il 1 <| i_ir Q) <| i_il 1 <| i_ic 10 <| i_ib (fun x y => x * y) <| i_al 0 <| i_gf 9 0 <| i_il 2 <| i_ia <| i_ib (fun x y => x + y) <| i_ic 48 <| i_ib (fun x y => x - y) <| i_is 1 <| i_inc 2 1 <| i_jmp X 1 [true, true, true]
def F_X9_figures (Q : zQ) (X : Nat → zK) : Nat → zK
  | 0 => k_X9_figures_0 X Q
  | 1 => k_X9_figures_1 X Q
  | _ => fun _ _ _ => False
def T_X9_figures : zTy := fun vs σ Q => zok 3 vs = true ∧ zFix (F_X9_figures Q) 0 (zlc vs) [] σ
def k_X9_sortOf_0 (X : Nat → zK) (Q : zQ) : zK := i_il 0 <| i_ic 97 <| i_cmp (fun x y => x < y) (fun x y => ¬ x < y) (i_jmp X 1 [true]) <| i_il 0 <| i_ic 122 <| i_cmp (fun x y => y < x) (fun x y => ¬ y < x) (i_jmp X 1 [true]) <| i_ic 1 <| i_ir Q
def k_X9_sortOf_1 (X : Nat → zK) (Q : zQ) : zK := i_il 0 <| i_ic 48 <| i_cmp (fun x y => x < y) (fun x y => ¬ x < y) (i_jmp X 2 [true]) <| i_il 0 <| i_ic 57 <| i_cmp (fun x y => y < x) (fun x y => ¬ y < x) (i_jmp X 2 [true]) <| i_ic 2 <| i_ir Q
def k_X9_sortOf_2 (X : Nat → zK) (Q : zQ) : zK := i_il 0 <| i_ic 59 <| i_cmp (fun x y => ¬ x = y) (fun x y => x = y) (i_ic 4 <| i_ir Q) <| i_ic 3 <| i_ir Q
def F_X9_sortOf (Q : zQ) (X : Nat → zK) : Nat → zK
  | 0 => k_X9_sortOf_0 X Q
  | 1 => k_X9_sortOf_1 X Q
  | 2 => k_X9_sortOf_2 X Q
  | _ => fun _ _ _ => False
def T_X9_sortOf : zTy := fun vs σ Q => zok 1 vs = true ∧ zFix (F_X9_sortOf Q) 0 (zlc vs) [] σ
def k_X9_advance_0 (X : Nat → zK) (Q : zQ) : zK := i_al 0 <| i_al 0 <| i_gf 9 4 <| i_pf 9 3 <| i_jmp X 1 [true]
def k_X9_advance_1 (X : Nat → zK) (Q : zQ) : zK := i_al 0 <| i_gf 9 3 <| i_al 0 <| i_gf 9 1 <| i_cmp (fun x y => y ≤ x) (fun x y => ¬ y ≤ x) (i_jmp X 2 [true]) <| i_al 0 <| i_gf 9 0 <| i_al 0 <| i_gf 9 3 <| i_ia <| i_ic 32 <| i_cmp (fun x y => ¬ x = y) (fun x y => x = y) (i_jmp X 2 [true]) <| i_al 0 <| i_dup <| i_gf 9 3 <| i_ic 1 <| i_ib (fun x y => x + y) <| i_pf 9 3 <| i_jmp X 1 [true]
def k_X9_advance_2 (X : Nat → zK) (Q : zQ) : zK := i_al 0 <| i_al 0 <| i_gf 9 3 <| i_pf 9 4 <| i_al 0 <| i_gf 9 3 <| i_al 0 <| i_gf 9 1 <| i_cmp (fun x y => x < y) (fun x y => ¬ x < y) (i_al 0 <| i_al 0 <| i_gf 9 0 <| i_al 0 <| i_gf 9 3 <| i_ia <| i_call 1 T_X9_sortOf <| i_pf 9 2 <| i_al 0 <| i_dup <| i_gf 9 4 <| i_ic 1 <| i_ib (fun x y => x + y) <| i_pf 9 4 <| i_al 0 <| i_gf 9 2 <| i_ic 1 <| i_cmp (fun x y => x = y) (fun x y => ¬ x = y) (i_jmp X 3 [true]) <| i_al 0 <| i_gf 9 2 <| i_ic 2 <| i_cmp (fun x y => ¬ x = y) (fun x y => x = y) (i_ic 0 <| i_jmp X 4 [true]) <| i_jmp X 3 [true]) <| i_al 0 <| i_ic 0 <| i_pf 9 2 <| i_vr Q
def k_X9_advance_3 (X : Nat → zK) (Q : zQ) : zK := i_ic 1 <| i_jmp X 4 [true]
def k_X9_advance_4 (X : Nat → zK) (Q : zQ) : zK := i_is 1 <| i_jmp X 5 [true, true]
def k_X9_advance_5 (X : Nat → zK) (Q : zQ) : zK := i_il 1 <| i_if (fun x => x = 0) (fun x => ¬ x = 0) (i_jmp X 6 [true]) <| i_al 0 <| i_gf 9 4 <| i_al 0 <| i_gf 9 1 <| i_cmp (fun x y => y ≤ x) (fun x y => ¬ y ≤ x) (i_jmp X 6 [true]) <| i_al 0 <| i_gf 9 0 <| i_al 0 <| i_gf 9 4 <| i_ia <| i_call 1 T_X9_sortOf <| i_al 0 <| i_gf 9 2 <| i_cmp (fun x y => ¬ x = y) (fun x y => x = y) (i_jmp X 6 [true]) <| i_al 0 <| i_dup <| i_gf 9 4 <| i_ic 1 <| i_ib (fun x y => x + y) <| i_pf 9 4 <| i_jmp X 5 [true, true]
def k_X9_advance_6 (X : Nat → zK) (Q : zQ) : zK := i_al 0 <| i_al 0 <| i_gf 9 2 <| i_ic 2 <| i_cmp (fun x y => ¬ x = y) (fun x y => x = y) (i_ic (-1) <| i_pf 9 5 <| i_vr Q) <| i_al 0 <| i_cv 9 1 T_X9_figures <| i_pf 9 5 <| i_vr Q
def F_X9_advance (Q : zQ) (X : Nat → zK) : Nat → zK
  | 0 => k_X9_advance_0 X Q
  | 1 => k_X9_advance_1 X Q
  | 2 => k_X9_advance_2 X Q
  | 3 => k_X9_advance_3 X Q
  | 4 => k_X9_advance_4 X Q
  | 5 => k_X9_advance_5 X Q
  | 6 => k_X9_advance_6 X Q
  | _ => fun _ _ _ => False
def T_X9_advance : zTy := fun vs σ Q => zok 2 vs = true ∧ zFix (F_X9_advance Q) 0 (zlc vs) [] σ
def k_J0_isLatin1_aae02_0 (X : Nat → zK) (Q : zQ) : zK := i_ic 1 <| i_if (fun x => x = 0) (fun x => ¬ x = 0) (i_ic 0 <| i_zr Q) <| i_al 0 <| i_gcod <| i_if (fun x => ¬ x = 0) (fun x => x = 0) (i_ic 0 <| i_zr Q) <| i_ic 1 <| i_zr Q
def F_J0_isLatin1_aae02 (Q : zQ) (X : Nat → zK) : Nat → zK
  | 0 => k_J0_isLatin1_aae02_0 X Q
  | _ => fun _ _ _ => False
def T_J0_isLatin1_aae02 : zTy := fun vs σ Q => zok 1 vs = true ∧ zFix (F_J0_isLatin1_aae02 Q) 0 (zlc vs) [] σ
def k_J1_charAt_3b067_0 (X : Nat → zK) (Q : zQ) : zK := i_il 1 <| i_al 0 <| i_blen <| i_call 2 T_J0_checkIndex_df160 <| i_al 0 <| i_il 1 <| i_by <| i_ic 255 <| i_ib (fun x y => x &&& y) <| i_iu (fun x => (x.toUInt32 % 65536).toInt32) <| i_nr .char Q
def F_J1_charAt_3b067 (Q : zQ) (X : Nat → zK) : Nat → zK
  | 0 => k_J1_charAt_3b067_0 X Q
  | _ => fun _ _ _ => False
def T_J1_charAt_3b067 : zTy := fun vs σ Q => zok 2 vs = true ∧ zFix (F_J1_charAt_3b067 Q) 0 (zlc vs) [] σ
def k_J0_charAt_5068e_0 (X : Nat → zK) (Q : zQ) : zK := i_al 0 <| i_cs 1 T_J0_isLatin1_aae02 <| i_if (fun x => x = 0) (fun x => ¬ x = 0) (i_no) <| i_al 0 <| i_gval <| i_il 1 <| i_call 2 T_J1_charAt_3b067 <| i_nr .char Q
def F_J0_charAt_5068e (Q : zQ) (X : Nat → zK) : Nat → zK
  | 0 => k_J0_charAt_5068e_0 X Q
  | _ => fun _ _ _ => False
def T_J0_charAt_5068e : zTy := fun vs σ Q => zok 2 vs = true ∧ zFix (F_J0_charAt_5068e Q) 0 (zlc vs) [] σ
def k_J0_coder_7d493_0 (X : Nat → zK) (Q : zQ) : zK := i_ic 1 <| i_if (fun x => x = 0) (fun x => ¬ x = 0) (i_ic 1 <| i_nr .byte Q) <| i_al 0 <| i_gcod <| i_nr .byte Q
def F_J0_coder_7d493 (Q : zQ) (X : Nat → zK) : Nat → zK
  | 0 => k_J0_coder_7d493_0 X Q
  | _ => fun _ _ _ => False
def T_J0_coder_7d493 : zTy := fun vs σ Q => zok 1 vs = true ∧ zFix (F_J0_coder_7d493 Q) 0 (zlc vs) [] σ
def k_J0_length_8abf5_0 (X : Nat → zK) (Q : zQ) : zK := i_al 0 <| i_gval <| i_blen <| i_al 0 <| i_cs 1 T_J0_coder_7d493 <| i_ib (fun x y => x >>> (y &&& 31)) <| i_ir Q
def F_J0_length_8abf5 (Q : zQ) (X : Nat → zK) : Nat → zK
  | 0 => k_J0_length_8abf5_0 X Q
  | _ => fun _ _ _ => False
def T_J0_length_8abf5 : zTy := fun vs σ Q => zok 1 vs = true ∧ zFix (F_J0_length_8abf5 Q) 0 (zlc vs) [] σ
def k_X9_says_0 (X : Nat → zK) (Q : zQ) : zK := i_al 0 <| i_gf 9 2 <| i_ic 1 <| i_cmp (fun x y => ¬ x = y) (fun x y => x = y) (i_ic 0 <| i_zr Q) <| i_al 0 <| i_gf 9 4 <| i_al 0 <| i_gf 9 3 <| i_ib (fun x y => x - y) <| i_al 1 <| i_cs 1 T_J0_length_8abf5 <| i_cmp (fun x y => x = y) (fun x y => ¬ x = y) (i_ic 0 <| i_is 2 <| i_jmp X 1 [true, true, true]) <| i_ic 0 <| i_zr Q
def k_X9_says_1 (X : Nat → zK) (Q : zQ) : zK := i_il 2 <| i_al 1 <| i_cs 1 T_J0_length_8abf5 <| i_cmp (fun x y => y ≤ x) (fun x y => ¬ y ≤ x) (i_ic 1 <| i_zr Q) <| i_al 0 <| i_gf 9 0 <| i_al 0 <| i_gf 9 3 <| i_il 2 <| i_ib (fun x y => x + y) <| i_ia <| i_al 1 <| i_il 2 <| i_cs 2 T_J0_charAt_5068e <| i_cmp (fun x y => x = y) (fun x y => ¬ x = y) (i_inc 2 1 <| i_jmp X 1 [true, true, true]) <| i_ic 0 <| i_zr Q
def F_X9_says (Q : zQ) (X : Nat → zK) : Nat → zK
  | 0 => k_X9_says_0 X Q
  | 1 => k_X9_says_1 X Q
  | _ => fun _ _ _ => False
def T_X9_says : zTy := fun vs σ Q => zok 3 vs = true ∧ zFix (F_X9_says Q) 0 (zlc vs) [] σ
def k_X11_within_0 (X : Nat → zK) (Q : zQ) : zK := i_il 0 <| i_il 1 <| i_cmp (fun x y => x < y) (fun x y => ¬ x < y) (i_ic 0 <| i_zr Q) <| i_il 0 <| i_il 2 <| i_cmp (fun x y => y < x) (fun x y => ¬ y < x) (i_ic 0 <| i_zr Q) <| i_ic 1 <| i_zr Q
def F_X11_within (Q : zQ) (X : Nat → zK) : Nat → zK
  | 0 => k_X11_within_0 X Q
  | _ => fun _ _ _ => False
def T_X11_within : zTy := fun vs σ Q => zok 3 vs = true ∧ zFix (F_X11_within Q) 0 (zlc vs) [] σ
def k_X9_isNumber_0 (X : Nat → zK) (Q : zQ) : zK := i_al 0 <| i_gf 9 2 <| i_ic 2 <| i_cmp (fun x y => ¬ x = y) (fun x y => x = y) (i_ic 0 <| i_zr Q) <| i_al 0 <| i_gf 9 5 <| i_il 1 <| i_il 2 <| i_call 3 T_X11_within <| i_if (fun x => x = 0) (fun x => ¬ x = 0) (i_ic 0 <| i_zr Q) <| i_ic 1 <| i_zr Q
def F_X9_isNumber (Q : zQ) (X : Nat → zK) : Nat → zK
  | 0 => k_X9_isNumber_0 X Q
  | _ => fun _ _ _ => False
def T_X9_isNumber : zTy := fun vs σ Q => zok 3 vs = true ∧ zFix (F_X9_isNumber Q) 0 (zlc vs) [] σ
def k_X9_takesNumber_0 (X : Nat → zK) (Q : zQ) : zK := i_al 0 <| i_cv 9 1 T_X9_advance <| i_al 0 <| i_il 1 <| i_il 2 <| i_cv 9 3 T_X9_isNumber <| i_zr Q
def F_X9_takesNumber (Q : zQ) (X : Nat → zK) : Nat → zK
  | 0 => k_X9_takesNumber_0 X Q
  | _ => fun _ _ _ => False
def T_X9_takesNumber : zTy := fun vs σ Q => zok 3 vs = true ∧ zFix (F_X9_takesNumber Q) 0 (zlc vs) [] σ
def k_X9_takesBook_0 (X : Nat → zK) (Q : zQ) : zK := i_al 0 <| i_ic 0 <| i_ic 1 <| i_cv 9 3 T_X9_takesNumber <| i_if (fun x => ¬ x = 0) (fun x => x = 0) (i_al 0 <| i_gf 9 5 <| i_is 2 <| i_ic 0 <| i_is 3 <| i_al 0 <| i_cv 9 1 T_X9_advance <| i_ic 0 <| i_is 4 <| i_jmp X 1 [true, true, true, true, true]) <| i_ic 0 <| i_zr Q
def k_X9_takesBook_1 (X : Nat → zK) (Q : zQ) : zK := i_il 4 <| i_ic 150 <| i_cmp (fun x y => y ≤ x) (fun x y => ¬ y ≤ x) (i_jmp X 2 [true, true, true, true]) <| i_al 0 <| i_gf 9 2 <| i_ic 2 <| i_cmp (fun x y => ¬ x = y) (fun x y => x = y) (i_jmp X 2 [true, true, true, true]) <| i_al 0 <| i_ic 0 <| i_ic 15 <| i_cv 9 3 T_X9_isNumber <| i_if (fun x => ¬ x = 0) (fun x => x = 0) (i_il 3 <| i_ic 1 <| i_al 0 <| i_gf 9 5 <| i_ib (fun x y => x <<< (y &&& 31)) <| i_ib (fun x y => x ||| y) <| i_is 3 <| i_al 0 <| i_cv 9 1 T_X9_advance <| i_inc 4 1 <| i_jmp X 1 [true, true, true, true, true]) <| i_ic 0 <| i_zr Q
def k_X9_takesBook_2 (X : Nat → zK) (Q : zQ) : zK := i_al 1 <| i_gf 1 1 <| i_il 2 <| i_il 3 <| i_iast <| i_al 0 <| i_gf 9 2 <| i_ic 3 <| i_cmp (fun x y => ¬ x = y) (fun x y => x = y) (i_ic 0 <| i_zr Q) <| i_ic 1 <| i_zr Q
def F_X9_takesBook (Q : zQ) (X : Nat → zK) : Nat → zK
  | 0 => k_X9_takesBook_0 X Q
  | 1 => k_X9_takesBook_1 X Q
  | 2 => k_X9_takesBook_2 X Q
  | _ => fun _ _ _ => False
def T_X9_takesBook : zTy := fun vs σ Q => zok 5 vs = true ∧ zFix (F_X9_takesBook Q) 0 (zlc vs) [] σ
def k_X9_takesStop_0 (X : Nat → zK) (Q : zQ) : zK := i_al 0 <| i_cv 9 1 T_X9_advance <| i_al 0 <| i_gf 9 2 <| i_ic 3 <| i_cmp (fun x y => ¬ x = y) (fun x y => x = y) (i_ic 0 <| i_zr Q) <| i_ic 1 <| i_zr Q
def F_X9_takesStop (Q : zQ) (X : Nat → zK) : Nat → zK
  | 0 => k_X9_takesStop_0 X Q
  | _ => fun _ _ _ => False
def T_X9_takesStop : zTy := fun vs σ Q => zok 1 vs = true ∧ zFix (F_X9_takesStop Q) 0 (zlc vs) [] σ
def k_X9_takesCold_0 (X : Nat → zK) (Q : zQ) : zK := i_al 0 <| i_ic 0 <| i_al 1 <| i_gf 1 2 <| i_ic 1 <| i_ib (fun x y => x - y) <| i_cv 9 3 T_X9_takesNumber <| i_if (fun x => ¬ x = 0) (fun x => x = 0) (i_al 1 <| i_dup <| i_gf 1 8 <| i_ic 1 <| i_al 0 <| i_gf 9 5 <| i_ib (fun x y => x <<< (y &&& 31)) <| i_ib (fun x y => x ||| y) <| i_pf 1 8 <| i_al 0 <| i_cv 9 1 T_X9_takesStop <| i_zr Q) <| i_ic 0 <| i_zr Q
def F_X9_takesCold (Q : zQ) (X : Nat → zK) : Nat → zK
  | 0 => k_X9_takesCold_0 X Q
  | _ => fun _ _ _ => False
def T_X9_takesCold : zTy := fun vs σ Q => zok 2 vs = true ∧ zFix (F_X9_takesCold Q) 0 (zlc vs) [] σ
def k_X11_isPewOf_0 (X : Nat → zK) (Q : zQ) : zK := i_il 0 <| i_ic 0 <| i_ic 9 <| i_call 3 T_X11_within <| i_if (fun x => x = 0) (fun x => ¬ x = 0) (i_ic 0 <| i_zr Q) <| i_il 0 <| i_ic 2 <| i_irem <| i_il 1 <| i_cmp (fun x y => ¬ x = y) (fun x y => x = y) (i_ic 0 <| i_zr Q) <| i_ic 1 <| i_zr Q
def F_X11_isPewOf (Q : zQ) (X : Nat → zK) : Nat → zK
  | 0 => k_X11_isPewOf_0 X Q
  | _ => fun _ _ _ => False
def T_X11_isPewOf : zTy := fun vs σ Q => zok 2 vs = true ∧ zFix (F_X11_isPewOf Q) 0 (zlc vs) [] σ
def k_X9_takesFamily_0 (X : Nat → zK) (Q : zQ) : zK := i_al 1 <| i_gf 1 2 <| i_ic 7 <| i_cmp (fun x y => y ≤ x) (fun x y => ¬ y ≤ x) (i_ic 0 <| i_zr Q) <| i_al 0 <| i_ic 0 <| i_ic 5 <| i_cv 9 3 T_X9_takesNumber <| i_if (fun x => ¬ x = 0) (fun x => x = 0) (i_al 0 <| i_gf 9 5 <| i_is 2 <| i_al 0 <| i_ic 0 <| i_ic 1 <| i_cv 9 3 T_X9_takesNumber <| i_if (fun x => ¬ x = 0) (fun x => x = 0) (i_al 0 <| i_gf 9 5 <| i_is 3 <| i_al 0 <| i_ic 1 <| i_ic 9 <| i_cv 9 3 T_X9_takesNumber <| i_if (fun x => ¬ x = 0) (fun x => x = 0) (i_al 0 <| i_gf 9 5 <| i_is 4 <| i_al 0 <| i_ic 1 <| i_ic 20 <| i_cv 9 3 T_X9_takesNumber <| i_if (fun x => ¬ x = 0) (fun x => x = 0) (i_al 0 <| i_gf 9 5 <| i_is 5 <| i_al 0 <| i_ic 0 <| i_ic 9 <| i_cv 9 3 T_X9_takesNumber <| i_if (fun x => x = 0) (fun x => ¬ x = 0) (i_ic 0 <| i_zr Q) <| i_al 0 <| i_gf 9 5 <| i_il 3 <| i_call 2 T_X11_isPewOf <| i_if (fun x => x = 0) (fun x => ¬ x = 0) (i_ic 0 <| i_zr Q) <| i_al 1 <| i_al 0 <| i_gf 9 5 <| i_cv 1 2 T_X1_isTaken <| i_if (fun x => x = 0) (fun x => ¬ x = 0) (i_al 1 <| i_il 2 <| i_il 3 <| i_il 4 <| i_il 5 <| i_al 0 <| i_gf 9 5 <| i_cv 1 6 T_X1_admit <| i_pop <| i_al 0 <| i_cv 9 1 T_X9_takesStop <| i_zr Q) <| i_ic 0 <| i_zr Q) <| i_ic 0 <| i_zr Q) <| i_ic 0 <| i_zr Q) <| i_ic 0 <| i_zr Q) <| i_ic 0 <| i_zr Q
def F_X9_takesFamily (Q : zQ) (X : Nat → zK) : Nat → zK
  | 0 => k_X9_takesFamily_0 X Q
  | _ => fun _ _ _ => False
def T_X9_takesFamily : zTy := fun vs σ Q => zok 6 vs = true ∧ zFix (F_X9_takesFamily Q) 0 (zlc vs) [] σ
def k_X9_takesItem_0 (X : Nat → zK) (Q : zQ) : zK := i_al 0 <| i_str 1 <| i_cv 9 2 T_X9_says <| i_if (fun x => x = 0) (fun x => ¬ x = 0) (i_al 0 <| i_str 2 <| i_cv 9 2 T_X9_says <| i_if (fun x => x = 0) (fun x => ¬ x = 0) (i_al 0 <| i_str 3 <| i_cv 9 2 T_X9_says <| i_if (fun x => x = 0) (fun x => ¬ x = 0) (i_ic 0 <| i_zr Q) <| i_al 0 <| i_al 1 <| i_cv 9 2 T_X9_takesCold <| i_if (fun x => x = 0) (fun x => ¬ x = 0) (i_ic 0 <| i_zr Q) <| i_ic 1 <| i_zr Q) <| i_al 0 <| i_al 1 <| i_cv 9 2 T_X9_takesFamily <| i_zr Q) <| i_al 0 <| i_al 1 <| i_cv 9 2 T_X9_takesBook <| i_zr Q
def F_X9_takesItem (Q : zQ) (X : Nat → zK) : Nat → zK
  | 0 => k_X9_takesItem_0 X Q
  | _ => fun _ _ _ => False
def T_X9_takesItem : zTy := fun vs σ Q => zok 2 vs = true ∧ zFix (F_X9_takesItem Q) 0 (zlc vs) [] σ
def k_X9_tell_0 (X : Nat → zK) (Q : zQ) : zK := i_al 0 <| i_ic 0 <| i_pf 9 4 <| i_al 0 <| i_cv 9 1 T_X9_advance <| i_al 0 <| i_str 0 <| i_cv 9 2 T_X9_says <| i_if (fun x => x = 0) (fun x => ¬ x = 0) (i_jmp X 1 [true]) <| i_al 0 <| i_ic 0 <| i_ic 30 <| i_cv 9 3 T_X9_takesNumber <| i_if (fun x => ¬ x = 0) (fun x => x = 0) (i_al 1 <| i_al 0 <| i_gf 9 5 <| i_cv 1 2 T_X1_begin <| i_al 0 <| i_cv 9 1 T_X9_takesStop <| i_if (fun x => ¬ x = 0) (fun x => x = 0) (i_ic 1 <| i_is 2 <| i_al 0 <| i_cv 9 1 T_X9_advance <| i_jmp X 2 [true, true, true]) <| i_ic (-10) <| i_al 0 <| i_gf 9 3 <| i_ib (fun x y => x - y) <| i_ir Q) <| i_jmp X 1 [true]
def k_X9_tell_1 (X : Nat → zK) (Q : zQ) : zK := i_ic (-10) <| i_al 0 <| i_gf 9 3 <| i_ib (fun x y => x - y) <| i_ir Q
def k_X9_tell_2 (X : Nat → zK) (Q : zQ) : zK := i_al 0 <| i_gf 9 2 <| i_if (fun x => x = 0) (fun x => ¬ x = 0) (i_il 2 <| i_ir Q) <| i_il 2 <| i_ic 150 <| i_cmp (fun x y => y < x) (fun x y => ¬ y < x) (i_il 2 <| i_ir Q) <| i_al 0 <| i_al 1 <| i_cv 9 2 T_X9_takesItem <| i_if (fun x => ¬ x = 0) (fun x => x = 0) (i_inc 2 1 <| i_al 0 <| i_cv 9 1 T_X9_advance <| i_jmp X 2 [true, true, true]) <| i_ic (-10) <| i_al 0 <| i_gf 9 3 <| i_ib (fun x y => x - y) <| i_ir Q
def F_X9_tell (Q : zQ) (X : Nat → zK) : Nat → zK
  | 0 => k_X9_tell_0 X Q
  | 1 => k_X9_tell_1 X Q
  | 2 => k_X9_tell_2 X Q
  | _ => fun _ _ _ => False
def T_X9_tell : zTy := fun vs σ Q => zok 3 vs = true ∧ zFix (F_X9_tell Q) 0 (zlc vs) [] σ
def k_X11_refuse_0 (X : Nat → zK) (Q : zQ) : zK := i_al 0 <| i_gf 11 8 <| i_ic (-2) <| i_il 1 <| i_ib (fun x y => x - y) <| i_dup2 <| i_ia <| i_ic 1 <| i_ib (fun x y => x + y) <| i_iast <| i_il 1 <| i_ir Q
def F_X11_refuse (Q : zQ) (X : Nat → zK) : Nat → zK
  | 0 => k_X11_refuse_0 X Q
  | _ => fun _ _ _ => False
def T_X11_refuse : zTy := fun vs σ Q => zok 2 vs = true ∧ zFix (F_X11_refuse Q) 0 (zlc vs) [] σ
def k_X11_church_0 (X : Nat → zK) (Q : zQ) : zK := i_il 1 <| i_ic 0 <| i_ic 30 <| i_call 3 T_X11_within <| i_if (fun x => ¬ x = 0) (fun x => x = 0) (i_al 0 <| i_gf 11 0 <| i_gf 1 2 <| i_is 2 <| i_al 0 <| i_gf 11 0 <| i_il 1 <| i_cv 1 2 T_X1_begin <| i_il 2 <| i_ir Q) <| i_al 0 <| i_ic (-2) <| i_cv 11 2 T_X11_refuse <| i_ir Q
def F_X11_church (Q : zQ) (X : Nat → zK) : Nat → zK
  | 0 => k_X11_church_0 X Q
  | _ => fun _ _ _ => False
def T_X11_church : zTy := fun vs σ Q => zok 3 vs = true ∧ zFix (F_X11_church Q) 0 (zlc vs) [] σ
def k_X11_isBook_0 (X : Nat → zK) (Q : zQ) : zK := i_il 0 <| i_ic 0 <| i_ic 1 <| i_call 3 T_X11_within <| i_zr Q
def F_X11_isBook (Q : zQ) (X : Nat → zK) : Nat → zK
  | 0 => k_X11_isBook_0 X Q
  | _ => fun _ _ _ => False
def T_X11_isBook : zTy := fun vs σ Q => zok 1 vs = true ∧ zFix (F_X11_isBook Q) 0 (zlc vs) [] σ
def k_X11_book_0 (X : Nat → zK) (Q : zQ) : zK := i_il 1 <| i_call 1 T_X11_isBook <| i_if (fun x => x = 0) (fun x => ¬ x = 0) (i_jmp X 1 [true]) <| i_il 2 <| i_ic 0 <| i_ic 65535 <| i_call 3 T_X11_within <| i_if (fun x => ¬ x = 0) (fun x => x = 0) (i_al 0 <| i_gf 11 0 <| i_gf 1 1 <| i_il 1 <| i_ia <| i_is 3 <| i_al 0 <| i_gf 11 0 <| i_gf 1 1 <| i_il 1 <| i_il 2 <| i_iast <| i_il 3 <| i_ir Q) <| i_jmp X 1 [true]
def k_X11_book_1 (X : Nat → zK) (Q : zQ) : zK := i_al 0 <| i_ic (-2) <| i_cv 11 2 T_X11_refuse <| i_ir Q
def F_X11_book (Q : zQ) (X : Nat → zK) : Nat → zK
  | 0 => k_X11_book_0 X Q
  | 1 => k_X11_book_1 X Q
  | _ => fun _ _ _ => False
def T_X11_book : zTy := fun vs σ Q => zok 4 vs = true ∧ zFix (F_X11_book Q) 0 (zlc vs) [] σ
def k_X11_family_0 (X : Nat → zK) (Q : zQ) : zK := i_il 1 <| i_ic 0 <| i_ic 5 <| i_call 3 T_X11_within <| i_if (fun x => x = 0) (fun x => ¬ x = 0) (i_jmp X 1 [true]) <| i_il 2 <| i_call 1 T_X11_isBook <| i_if (fun x => x = 0) (fun x => ¬ x = 0) (i_jmp X 1 [true]) <| i_il 3 <| i_ic 1 <| i_ic 9 <| i_call 3 T_X11_within <| i_if (fun x => x = 0) (fun x => ¬ x = 0) (i_jmp X 1 [true]) <| i_il 4 <| i_ic 1 <| i_ic 20 <| i_call 3 T_X11_within <| i_if (fun x => x = 0) (fun x => ¬ x = 0) (i_jmp X 1 [true]) <| i_il 5 <| i_il 2 <| i_call 2 T_X11_isPewOf <| i_if (fun x => ¬ x = 0) (fun x => x = 0) (i_al 0 <| i_gf 11 0 <| i_il 5 <| i_cv 1 2 T_X1_isTaken <| i_if (fun x => x = 0) (fun x => ¬ x = 0) (i_al 0 <| i_gf 11 0 <| i_gf 1 2 <| i_ic 7 <| i_cmp (fun x y => x < y) (fun x y => ¬ x < y) (i_al 0 <| i_gf 11 0 <| i_il 1 <| i_il 2 <| i_il 3 <| i_il 4 <| i_il 5 <| i_cv 1 6 T_X1_admit <| i_ir Q) <| i_al 0 <| i_ic (-4) <| i_cv 11 2 T_X11_refuse <| i_ir Q) <| i_al 0 <| i_ic (-3) <| i_cv 11 2 T_X11_refuse <| i_ir Q) <| i_jmp X 1 [true]
def k_X11_family_1 (X : Nat → zK) (Q : zQ) : zK := i_al 0 <| i_ic (-2) <| i_cv 11 2 T_X11_refuse <| i_ir Q
def F_X11_family (Q : zQ) (X : Nat → zK) : Nat → zK
  | 0 => k_X11_family_0 X Q
  | 1 => k_X11_family_1 X Q
  | _ => fun _ _ _ => False
def T_X11_family : zTy := fun vs σ Q => zok 6 vs = true ∧ zFix (F_X11_family Q) 0 (zlc vs) [] σ
def k_X11_type_0 (X : Nat → zK) (Q : zQ) : zK := i_il 1 <| i_ic 0 <| i_ic 127 <| i_call 3 T_X11_within <| i_if (fun x => ¬ x = 0) (fun x => x = 0) (i_al 0 <| i_gf 11 4 <| i_gf 9 1 <| i_ic 150 <| i_cmp (fun x y => x < y) (fun x y => ¬ x < y) (i_al 0 <| i_gf 11 4 <| i_il 1 <| i_cv 9 2 T_X9_append <| i_ir Q) <| i_al 0 <| i_ic (-4) <| i_cv 11 2 T_X11_refuse <| i_ir Q) <| i_al 0 <| i_ic (-2) <| i_cv 11 2 T_X11_refuse <| i_ir Q
def F_X11_type (Q : zQ) (X : Nat → zK) : Nat → zK
  | 0 => k_X11_type_0 X Q
  | _ => fun _ _ _ => False
def T_X11_type : zTy := fun vs σ Q => zok 2 vs = true ∧ zFix (F_X11_type Q) 0 (zlc vs) [] σ
def k_X11_clear_0 (X : Nat → zK) (Q : zQ) : zK := i_al 0 <| i_gf 11 4 <| i_gf 9 1 <| i_is 1 <| i_al 0 <| i_gf 11 4 <| i_ic 0 <| i_pf 9 1 <| i_il 1 <| i_ir Q
def F_X11_clear (Q : zQ) (X : Nat → zK) : Nat → zK
  | 0 => k_X11_clear_0 X Q
  | _ => fun _ _ _ => False
def T_X11_clear : zTy := fun vs σ Q => zok 2 vs = true ∧ zFix (F_X11_clear Q) 0 (zlc vs) [] σ
def k_X11_read_0 (X : Nat → zK) (Q : zQ) : zK := i_al 0 <| i_gf 11 4 <| i_al 0 <| i_gf 11 1 <| i_cv 9 2 T_X9_tell <| i_is 1 <| i_il 1 <| i_if (fun x => x ≤ 0) (fun x => ¬ x ≤ 0) (i_il 1 <| i_ir Q) <| i_al 0 <| i_gf 11 0 <| i_al 0 <| i_gf 11 1 <| i_cv 1 2 T_X1_becomeLike <| i_il 1 <| i_ir Q
def F_X11_read (Q : zQ) (X : Nat → zK) : Nat → zK
  | 0 => k_X11_read_0 X Q
  | _ => fun _ _ _ => False
def T_X11_read : zTy := fun vs σ Q => zok 2 vs = true ∧ zFix (F_X11_read Q) 0 (zlc vs) [] σ
def k_X11_move_0 (X : Nat → zK) (Q : zQ) : zK := i_al 0 <| i_gf 11 0 <| i_il 1 <| i_cv 1 2 T_X1_hasFamily <| i_if (fun x => x = 0) (fun x => ¬ x = 0) (i_jmp X 1 [true]) <| i_il 2 <| i_al 0 <| i_gf 11 0 <| i_gf 1 4 <| i_il 1 <| i_ia <| i_call 2 T_X11_isPewOf <| i_if (fun x => ¬ x = 0) (fun x => x = 0) (i_al 0 <| i_gf 11 0 <| i_il 2 <| i_cv 1 2 T_X1_isTaken <| i_if (fun x => x = 0) (fun x => ¬ x = 0) (i_al 0 <| i_gf 11 0 <| i_gf 1 7 <| i_il 1 <| i_ia <| i_is 3 <| i_al 0 <| i_gf 11 0 <| i_cv 1 1 T_X1_remember <| i_al 0 <| i_gf 11 0 <| i_gf 1 7 <| i_il 1 <| i_il 2 <| i_iast <| i_il 3 <| i_ir Q) <| i_al 0 <| i_ic (-3) <| i_cv 11 2 T_X11_refuse <| i_ir Q) <| i_jmp X 1 [true]
def k_X11_move_1 (X : Nat → zK) (Q : zQ) : zK := i_al 0 <| i_ic (-2) <| i_cv 11 2 T_X11_refuse <| i_ir Q
def F_X11_move (Q : zQ) (X : Nat → zK) : Nat → zK
  | 0 => k_X11_move_0 X Q
  | 1 => k_X11_move_1 X Q
  | _ => fun _ _ _ => False
def T_X11_move : zTy := fun vs σ Q => zok 4 vs = true ∧ zFix (F_X11_move Q) 0 (zlc vs) [] σ
def k_X11_cold_0 (X : Nat → zK) (Q : zQ) : zK := i_al 0 <| i_gf 11 0 <| i_il 1 <| i_cv 1 2 T_X1_hasFamily <| i_if (fun x => x = 0) (fun x => ¬ x = 0) (i_jmp X 1 [true]) <| i_il 2 <| i_ic 0 <| i_ic 1 <| i_call 3 T_X11_within <| i_if (fun x => ¬ x = 0) (fun x => x = 0) (i_al 0 <| i_gf 11 0 <| i_gf 1 8 <| i_il 1 <| i_call 2 T_X11_bit <| i_is 3 <| i_al 0 <| i_gf 11 0 <| i_cv 1 1 T_X1_remember <| i_al 0 <| i_gf 11 0 <| i_al 0 <| i_gf 11 0 <| i_gf 1 8 <| i_ic 1 <| i_il 1 <| i_ib (fun x y => x <<< (y &&& 31)) <| i_ic (-1) <| i_ib (fun x y => x ^^^ y) <| i_ib (fun x y => x &&& y) <| i_il 2 <| i_il 1 <| i_ib (fun x y => x <<< (y &&& 31)) <| i_ib (fun x y => x ||| y) <| i_pf 1 8 <| i_il 3 <| i_ir Q) <| i_jmp X 1 [true]
def k_X11_cold_1 (X : Nat → zK) (Q : zQ) : zK := i_al 0 <| i_ic (-2) <| i_cv 11 2 T_X11_refuse <| i_ir Q
def F_X11_cold (Q : zQ) (X : Nat → zK) : Nat → zK
  | 0 => k_X11_cold_0 X Q
  | 1 => k_X11_cold_1 X Q
  | _ => fun _ _ _ => False
def T_X11_cold : zTy := fun vs σ Q => zok 4 vs = true ∧ zFix (F_X11_cold Q) 0 (zlc vs) [] σ
def k_J6_bitCount_0f7a4_0 (X : Nat → zK) (Q : zQ) : zK := i_il 0 <| i_il 0 <| i_ic 1 <| i_ib (fun x y => (x.toUInt32 >>> (y.toUInt32 &&& Int32.toUInt32 31)).toInt32) <| i_ic 1431655765 <| i_ib (fun x y => x &&& y) <| i_ib (fun x y => x - y) <| i_is 0 <| i_il 0 <| i_ic 858993459 <| i_ib (fun x y => x &&& y) <| i_il 0 <| i_ic 2 <| i_ib (fun x y => (x.toUInt32 >>> (y.toUInt32 &&& Int32.toUInt32 31)).toInt32) <| i_ic 858993459 <| i_ib (fun x y => x &&& y) <| i_ib (fun x y => x + y) <| i_is 0 <| i_il 0 <| i_il 0 <| i_ic 4 <| i_ib (fun x y => (x.toUInt32 >>> (y.toUInt32 &&& Int32.toUInt32 31)).toInt32) <| i_ib (fun x y => x + y) <| i_ic 252645135 <| i_ib (fun x y => x &&& y) <| i_is 0 <| i_il 0 <| i_il 0 <| i_ic 8 <| i_ib (fun x y => (x.toUInt32 >>> (y.toUInt32 &&& Int32.toUInt32 31)).toInt32) <| i_ib (fun x y => x + y) <| i_is 0 <| i_il 0 <| i_il 0 <| i_ic 16 <| i_ib (fun x y => (x.toUInt32 >>> (y.toUInt32 &&& Int32.toUInt32 31)).toInt32) <| i_ib (fun x y => x + y) <| i_is 0 <| i_il 0 <| i_ic 63 <| i_ib (fun x y => x &&& y) <| i_ir Q
def F_J6_bitCount_0f7a4 (Q : zQ) (X : Nat → zK) : Nat → zK
  | 0 => k_J6_bitCount_0f7a4_0 X Q
  | _ => fun _ _ _ => False
def T_J6_bitCount_0f7a4 : zTy := fun vs σ Q => zok 1 vs = true ∧ zFix (F_J6_bitCount_0f7a4 Q) 0 (zlc vs) [] σ
def k_X11_undo_0 (X : Nat → zK) (Q : zQ) : zK := i_al 0 <| i_gf 11 0 <| i_gf 1 13 <| i_if (fun x => 0 < x) (fun x => ¬ 0 < x) (i_al 0 <| i_gf 11 0 <| i_cv 1 1 T_X1_goBack <| i_al 0 <| i_gf 11 0 <| i_gf 1 8 <| i_call 1 T_J6_bitCount_0f7a4 <| i_ir Q) <| i_al 0 <| i_ic (-3) <| i_cv 11 2 T_X11_refuse <| i_ir Q
def F_X11_undo (Q : zQ) (X : Nat → zK) : Nat → zK
  | 0 => k_X11_undo_0 X Q
  | _ => fun _ _ _ => False
def T_X11_undo : zTy := fun vs σ Q => zok 1 vs = true ∧ zFix (F_X11_undo Q) 0 (zlc vs) [] σ
def k_X11_of_0 (X : Nat → zK) (Q : zQ) : zK := i_al 0 <| i_gf 11 0 <| i_il 1 <| i_cv 1 2 T_X1_hasFamily <| i_if (fun x => x = 0) (fun x => ¬ x = 0) (i_jmp X 1 [true]) <| i_il 2 <| i_ic 0 <| i_ic 5 <| i_call 3 T_X11_within <| i_if (fun x => ¬ x = 0) (fun x => x = 0) (i_al 0 <| i_gf 11 0 <| i_il 1 <| i_il 2 <| i_cv 1 3 T_X1_trait <| i_ir Q) <| i_jmp X 1 [true]
def k_X11_of_1 (X : Nat → zK) (Q : zQ) : zK := i_al 0 <| i_ic (-2) <| i_cv 11 2 T_X11_refuse <| i_ir Q
def F_X11_of (Q : zQ) (X : Nat → zK) : Nat → zK
  | 0 => k_X11_of_0 X Q
  | 1 => k_X11_of_1 X Q
  | _ => fun _ _ _ => False
def T_X11_of : zTy := fun vs σ Q => zok 3 vs = true ∧ zFix (F_X11_of Q) 0 (zlc vs) [] σ
def k_X11_isWord_0 (X : Nat → zK) (Q : zQ) : zK := i_il 0 <| i_ic 0 <| i_ic 15 <| i_call 3 T_X11_within <| i_zr Q
def F_X11_isWord (Q : zQ) (X : Nat → zK) : Nat → zK
  | 0 => k_X11_isWord_0 X Q
  | _ => fun _ _ _ => False
def T_X11_isWord : zTy := fun vs σ Q => zok 1 vs = true ∧ zFix (F_X11_isWord Q) 0 (zlc vs) [] σ
def k_X11_at_0 (X : Nat → zK) (Q : zQ) : zK := i_al 0 <| i_gf 11 0 <| i_il 1 <| i_cv 1 2 T_X1_hasFamily <| i_if (fun x => x = 0) (fun x => ¬ x = 0) (i_jmp X 1 [true]) <| i_il 2 <| i_call 1 T_X11_isWord <| i_if (fun x => x = 0) (fun x => ¬ x = 0) (i_jmp X 1 [true]) <| i_il 3 <| i_ic 0 <| i_ic 3 <| i_call 3 T_X11_within <| i_if (fun x => ¬ x = 0) (fun x => x = 0) (i_al 0 <| i_gf 11 5 <| i_al 0 <| i_gf 11 0 <| i_cv 8 2 T_X8_hold <| i_il 3 <| i_sw [(0, i_al 0 <| i_gf 11 5 <| i_il 1 <| i_il 2 <| i_cv 8 3 T_X8_kneels <| i_if (fun x => x = 0) (fun x => ¬ x = 0) (i_ic 0 <| i_ir Q) <| i_ic 1 <| i_ir Q), (1, i_al 0 <| i_gf 11 5 <| i_il 1 <| i_il 2 <| i_cv 8 3 T_X8_high <| i_ir Q), (2, i_al 0 <| i_gf 11 5 <| i_il 1 <| i_il 2 <| i_al 0 <| i_gf 11 0 <| i_gf 1 8 <| i_cv 8 4 T_X8_voices <| i_ir Q)] (i_al 0 <| i_gf 11 5 <| i_il 1 <| i_il 2 <| i_cv 8 3 T_X8_sees <| i_if (fun x => x = 0) (fun x => ¬ x = 0) (i_ic 0 <| i_ir Q) <| i_ic 1 <| i_ir Q)) <| i_jmp X 1 [true]
def k_X11_at_1 (X : Nat → zK) (Q : zQ) : zK := i_al 0 <| i_ic (-2) <| i_cv 11 2 T_X11_refuse <| i_ir Q
def F_X11_at (Q : zQ) (X : Nat → zK) : Nat → zK
  | 0 => k_X11_at_0 X Q
  | 1 => k_X11_at_1 X Q
  | _ => fun _ _ _ => False
def T_X11_at : zTy := fun vs σ Q => zok 4 vs = true ∧ zFix (F_X11_at Q) 0 (zlc vs) [] σ
def k_X11_up_0 (X : Nat → zK) (Q : zQ) : zK := i_il 1 <| i_call 1 T_X11_isWord <| i_if (fun x => ¬ x = 0) (fun x => x = 0) (i_al 0 <| i_gf 11 5 <| i_al 0 <| i_gf 11 0 <| i_cv 8 2 T_X8_hold <| i_ic 0 <| i_is 2 <| i_ic 0 <| i_is 3 <| i_jmp X 1 [true, true, true, true]) <| i_al 0 <| i_ic (-2) <| i_cv 11 2 T_X11_refuse <| i_ir Q
def k_X11_up_1 (X : Nat → zK) (Q : zQ) : zK := i_il 3 <| i_al 0 <| i_gf 11 0 <| i_gf 1 2 <| i_cmp (fun x y => y ≤ x) (fun x y => ¬ y ≤ x) (i_il 2 <| i_ir Q) <| i_al 0 <| i_gf 11 5 <| i_il 3 <| i_il 1 <| i_cv 8 3 T_X8_kneels <| i_if (fun x => ¬ x = 0) (fun x => x = 0) (i_jmp X 2 [true, true, true, true]) <| i_il 2 <| i_ic 1 <| i_il 3 <| i_ib (fun x y => x <<< (y &&& 31)) <| i_ib (fun x y => x ||| y) <| i_is 2 <| i_jmp X 2 [true, true, true, true]
def k_X11_up_2 (X : Nat → zK) (Q : zQ) : zK := i_inc 3 1 <| i_jmp X 1 [true, true, true, true]
def F_X11_up (Q : zQ) (X : Nat → zK) : Nat → zK
  | 0 => k_X11_up_0 X Q
  | 1 => k_X11_up_1 X Q
  | 2 => k_X11_up_2 X Q
  | _ => fun _ _ _ => False
def T_X11_up : zTy := fun vs σ Q => zok 4 vs = true ∧ zFix (F_X11_up Q) 0 (zlc vs) [] σ
def k_X11_seers_0 (X : Nat → zK) (Q : zQ) : zK := i_il 1 <| i_call 1 T_X11_isWord <| i_if (fun x => ¬ x = 0) (fun x => x = 0) (i_al 0 <| i_gf 11 5 <| i_al 0 <| i_gf 11 0 <| i_cv 8 2 T_X8_hold <| i_ic 0 <| i_is 2 <| i_ic 0 <| i_is 3 <| i_jmp X 1 [true, true, true, true]) <| i_al 0 <| i_ic (-2) <| i_cv 11 2 T_X11_refuse <| i_ir Q
def k_X11_seers_1 (X : Nat → zK) (Q : zQ) : zK := i_il 3 <| i_al 0 <| i_gf 11 0 <| i_gf 1 2 <| i_cmp (fun x y => y ≤ x) (fun x y => ¬ y ≤ x) (i_il 2 <| i_ir Q) <| i_al 0 <| i_gf 11 5 <| i_il 3 <| i_il 1 <| i_cv 8 3 T_X8_sees <| i_if (fun x => x = 0) (fun x => ¬ x = 0) (i_jmp X 2 [true, true, true, true]) <| i_il 2 <| i_ic 1 <| i_il 3 <| i_ib (fun x y => x <<< (y &&& 31)) <| i_ib (fun x y => x ||| y) <| i_is 2 <| i_jmp X 2 [true, true, true, true]
def k_X11_seers_2 (X : Nat → zK) (Q : zQ) : zK := i_inc 3 1 <| i_jmp X 1 [true, true, true, true]
def F_X11_seers (Q : zQ) (X : Nat → zK) : Nat → zK
  | 0 => k_X11_seers_0 X Q
  | 1 => k_X11_seers_1 X Q
  | 2 => k_X11_seers_2 X Q
  | _ => fun _ _ _ => False
def T_X11_seers : zTy := fun vs σ Q => zok 4 vs = true ∧ zFix (F_X11_seers Q) 0 (zlc vs) [] σ
def k_X11_loud_0 (X : Nat → zK) (Q : zQ) : zK := i_il 1 <| i_call 1 T_X11_isWord <| i_if (fun x => x = 0) (fun x => ¬ x = 0) (i_jmp X 1 [true]) <| i_il 2 <| i_call 1 T_X11_isBook <| i_if (fun x => ¬ x = 0) (fun x => x = 0) (i_al 0 <| i_gf 11 5 <| i_al 0 <| i_gf 11 0 <| i_cv 8 2 T_X8_hold <| i_al 0 <| i_gf 11 5 <| i_il 1 <| i_il 2 <| i_al 0 <| i_gf 11 0 <| i_gf 1 8 <| i_cv 8 4 T_X8_loudness <| i_ir Q) <| i_jmp X 1 [true]
def k_X11_loud_1 (X : Nat → zK) (Q : zQ) : zK := i_al 0 <| i_ic (-2) <| i_cv 11 2 T_X11_refuse <| i_ir Q
def F_X11_loud (Q : zQ) (X : Nat → zK) : Nat → zK
  | 0 => k_X11_loud_0 X Q
  | 1 => k_X11_loud_1 X Q
  | _ => fun _ _ _ => False
def T_X11_loud : zTy := fun vs σ Q => zok 3 vs = true ∧ zFix (F_X11_loud Q) 0 (zlc vs) [] σ
def k_X11_breach_0 (X : Nat → zK) (Q : zQ) : zK := i_il 1 <| i_call 1 T_X11_isWord <| i_if (fun x => ¬ x = 0) (fun x => x = 0) (i_al 0 <| i_gf 11 5 <| i_al 0 <| i_gf 11 0 <| i_cv 8 2 T_X8_hold <| i_il 1 <| i_is 2 <| i_jmp X 1 [true, false, true]) <| i_al 0 <| i_ic (-2) <| i_cv 11 2 T_X11_refuse <| i_ir Q
def k_X11_breach_1 (X : Nat → zK) (Q : zQ) : zK := i_il 2 <| i_ic 16 <| i_cmp (fun x y => y ≤ x) (fun x y => ¬ y ≤ x) (i_ic (-1) <| i_ir Q) <| i_al 0 <| i_gf 11 5 <| i_il 2 <| i_al 0 <| i_gf 11 0 <| i_gf 1 8 <| i_cv 8 3 T_X8_isPeaceful <| i_if (fun x => ¬ x = 0) (fun x => x = 0) (i_inc 2 1 <| i_jmp X 1 [true, false, true]) <| i_il 2 <| i_ir Q
def F_X11_breach (Q : zQ) (X : Nat → zK) : Nat → zK
  | 0 => k_X11_breach_0 X Q
  | 1 => k_X11_breach_1 X Q
  | _ => fun _ _ _ => False
def T_X11_breach : zTy := fun vs σ Q => zok 3 vs = true ∧ zFix (F_X11_breach Q) 0 (zlc vs) [] σ
def k_X11_canNot_0 (X : Nat → zK) (Q : zQ) : zK := i_al 0 <| i_gf 11 0 <| i_gf 1 1 <| i_ic 0 <| i_ia <| i_al 0 <| i_gf 11 0 <| i_gf 1 1 <| i_ic 1 <| i_ia <| i_ib (fun x y => x ^^^ y) <| i_ir Q
def F_X11_canNot (Q : zQ) (X : Nat → zK) : Nat → zK
  | 0 => k_X11_canNot_0 X Q
  | _ => fun _ _ _ => False
def T_X11_canNot : zTy := fun vs σ Q => zok 1 vs = true ∧ zFix (F_X11_canNot Q) 0 (zlc vs) [] σ
def k_X11_seats_0 (X : Nat → zK) (Q : zQ) : zK := i_il 1 <| i_ic (-1) <| i_cmp (fun x y => x = y) (fun x y => ¬ x = y) (i_jmp X 1 [true, true]) <| i_al 0 <| i_gf 11 0 <| i_il 1 <| i_cv 1 2 T_X1_hasFamily <| i_if (fun x => ¬ x = 0) (fun x => x = 0) (i_jmp X 1 [true, true]) <| i_al 0 <| i_ic (-2) <| i_cv 11 2 T_X11_refuse <| i_pop <| i_ic (-10) <| i_ir Q
def k_X11_seats_1 (X : Nat → zK) (Q : zQ) : zK := i_al 0 <| i_gf 11 5 <| i_al 0 <| i_gf 11 0 <| i_cv 8 2 T_X8_hold <| i_al 0 <| i_gf 11 6 <| i_al 0 <| i_gf 11 5 <| i_cv 7 2 T_X7_find <| i_il 1 <| i_ic (-1) <| i_cmp (fun x y => ¬ x = y) (fun x y => x = y) (i_al 0 <| i_gf 11 6 <| i_il 1 <| i_cv 7 2 T_X7_pewOf <| i_ir Q) <| i_al 0 <| i_gf 11 6 <| i_cv 7 1 T_X7_seen <| i_ir Q
def F_X11_seats (Q : zQ) (X : Nat → zK) : Nat → zK
  | 0 => k_X11_seats_0 X Q
  | 1 => k_X11_seats_1 X Q
  | _ => fun _ _ _ => False
def T_X11_seats : zTy := fun vs σ Q => zok 2 vs = true ∧ zFix (F_X11_seats Q) 0 (zlc vs) [] σ
def k_X11_change_0 (X : Nat → zK) (Q : zQ) : zK := i_il 1 <| i_ic 0 <| i_ic 1 <| i_call 3 T_X11_within <| i_if (fun x => ¬ x = 0) (fun x => x = 0) (i_al 0 <| i_gf 11 5 <| i_al 0 <| i_gf 11 0 <| i_cv 8 2 T_X8_hold <| i_ic 7 <| i_is 2 <| i_al 0 <| i_gf 11 5 <| i_al 0 <| i_gf 11 0 <| i_gf 1 8 <| i_cv 8 2 T_X8_peacefulWords <| i_is 3 <| i_ic 0 <| i_is 4 <| i_jmp X 1 [true, true, true, true, true]) <| i_al 0 <| i_ic (-2) <| i_cv 11 2 T_X11_refuse <| i_ir Q
def k_X11_change_1 (X : Nat → zK) (Q : zQ) : zK := i_il 4 <| i_al 0 <| i_gf 11 0 <| i_gf 1 2 <| i_cmp (fun x y => y ≤ x) (fun x y => ¬ y ≤ x) (i_il 1 <| i_if (fun x => ¬ x = 0) (fun x => x = 0) (i_il 3 <| i_ir Q) <| i_il 2 <| i_ir Q) <| i_al 0 <| i_gf 11 5 <| i_al 0 <| i_gf 11 0 <| i_il 4 <| i_al 0 <| i_gf 11 0 <| i_gf 1 3 <| i_il 4 <| i_ia <| i_ic 1 <| i_al 0 <| i_gf 11 0 <| i_gf 1 4 <| i_il 4 <| i_ia <| i_ib (fun x y => x - y) <| i_cv 8 5 T_X8_suppose <| i_al 0 <| i_gf 11 5 <| i_al 0 <| i_gf 11 0 <| i_gf 1 8 <| i_cv 8 2 T_X8_peacefulWords <| i_is 5 <| i_al 0 <| i_gf 11 5 <| i_al 0 <| i_gf 11 0 <| i_il 4 <| i_al 0 <| i_gf 11 0 <| i_gf 1 3 <| i_il 4 <| i_ia <| i_al 0 <| i_gf 11 0 <| i_gf 1 4 <| i_il 4 <| i_ia <| i_cv 8 5 T_X8_suppose <| i_il 5 <| i_il 3 <| i_cmp (fun x y => x ≤ y) (fun x y => ¬ x ≤ y) (i_jmp X 2 [true, true, true, true, true]) <| i_il 5 <| i_is 3 <| i_il 4 <| i_is 2 <| i_jmp X 2 [true, true, true, true, true]
def k_X11_change_2 (X : Nat → zK) (Q : zQ) : zK := i_inc 4 1 <| i_jmp X 1 [true, true, true, true, true]
def F_X11_change (Q : zQ) (X : Nat → zK) : Nat → zK
  | 0 => k_X11_change_0 X Q
  | 1 => k_X11_change_1 X Q
  | 2 => k_X11_change_2 X Q
  | _ => fun _ _ _ => False
def T_X11_change : zTy := fun vs σ Q => zok 6 vs = true ∧ zFix (F_X11_change Q) 0 (zlc vs) [] σ
def k_X11_still_0 (X : Nat → zK) (Q : zQ) : zK := i_al 0 <| i_gf 11 5 <| i_al 0 <| i_gf 11 0 <| i_cv 8 2 T_X8_hold <| i_ic (-1) <| i_is 1 <| i_ic 0 <| i_is 2 <| i_jmp X 1 [true, true, true]
def k_X11_still_1 (X : Nat → zK) (Q : zQ) : zK := i_il 2 <| i_al 0 <| i_gf 11 0 <| i_cv 1 1 T_X1_sets <| i_cmp (fun x y => y ≤ x) (fun x y => ¬ y ≤ x) (i_il 1 <| i_ir Q) <| i_il 1 <| i_ic (-1) <| i_cmp (fun x y => x = y) (fun x y => ¬ x = y) (i_jmp X 2 [true, true, true]) <| i_il 2 <| i_call 1 T_J6_bitCount_0f7a4 <| i_il 1 <| i_call 1 T_J6_bitCount_0f7a4 <| i_cmp (fun x y => y ≤ x) (fun x y => ¬ y ≤ x) (i_ic 0 <| i_jmp X 3 [true, true, true]) <| i_jmp X 2 [true, true, true]
def k_X11_still_2 (X : Nat → zK) (Q : zQ) : zK := i_ic 1 <| i_jmp X 3 [true, true, true]
def k_X11_still_3 (X : Nat → zK) (Q : zQ) : zK := i_is 3 <| i_il 3 <| i_if (fun x => x = 0) (fun x => ¬ x = 0) (i_jmp X 4 [true, true, true]) <| i_il 2 <| i_al 0 <| i_gf 11 0 <| i_gf 1 8 <| i_ib (fun x y => x &&& y) <| i_if (fun x => ¬ x = 0) (fun x => x = 0) (i_jmp X 4 [true, true, true]) <| i_al 0 <| i_gf 11 5 <| i_il 2 <| i_al 0 <| i_gf 11 0 <| i_gf 1 8 <| i_ib (fun x y => x ||| y) <| i_cv 8 2 T_X8_isPeacefulThroughout <| i_if (fun x => x = 0) (fun x => ¬ x = 0) (i_jmp X 4 [true, true, true]) <| i_il 2 <| i_is 1 <| i_jmp X 4 [true, true, true]
def k_X11_still_4 (X : Nat → zK) (Q : zQ) : zK := i_inc 2 1 <| i_jmp X 1 [true, true, true]
def F_X11_still (Q : zQ) (X : Nat → zK) : Nat → zK
  | 0 => k_X11_still_0 X Q
  | 1 => k_X11_still_1 X Q
  | 2 => k_X11_still_2 X Q
  | 3 => k_X11_still_3 X Q
  | 4 => k_X11_still_4 X Q
  | _ => fun _ _ _ => False
def T_X11_still : zTy := fun vs σ Q => zok 4 vs = true ∧ zFix (F_X11_still Q) 0 (zlc vs) [] σ
def k_X11_heard_0 (X : Nat → zK) (Q : zQ) : zK := i_il 1 <| i_call 1 T_X11_isWord <| i_if (fun x => x = 0) (fun x => ¬ x = 0) (i_jmp X 1 [true]) <| i_il 2 <| i_call 1 T_X11_isBook <| i_if (fun x => x = 0) (fun x => ¬ x = 0) (i_jmp X 1 [true]) <| i_il 3 <| i_ic 0 <| i_ic 140 <| i_call 3 T_X11_within <| i_if (fun x => ¬ x = 0) (fun x => x = 0) (i_al 0 <| i_gf 11 0 <| i_gf 1 9 <| i_ic 6 <| i_cmp (fun x y => x < y) (fun x y => ¬ x < y) (i_al 0 <| i_gf 11 0 <| i_il 1 <| i_il 2 <| i_il 3 <| i_cv 1 4 T_X1_hear <| i_ir Q) <| i_al 0 <| i_ic (-4) <| i_cv 11 2 T_X11_refuse <| i_ir Q) <| i_jmp X 1 [true]
def k_X11_heard_1 (X : Nat → zK) (Q : zQ) : zK := i_al 0 <| i_ic (-2) <| i_cv 11 2 T_X11_refuse <| i_ir Q
def F_X11_heard (Q : zQ) (X : Nat → zK) : Nat → zK
  | 0 => k_X11_heard_0 X Q
  | 1 => k_X11_heard_1 X Q
  | _ => fun _ _ _ => False
def T_X11_heard : zTy := fun vs σ Q => zok 4 vs = true ∧ zFix (F_X11_heard Q) 0 (zlc vs) [] σ
def k_X11_forget_0 (X : Nat → zK) (Q : zQ) : zK := i_al 0 <| i_gf 11 0 <| i_gf 1 9 <| i_is 1 <| i_al 0 <| i_gf 11 0 <| i_ic 0 <| i_pf 1 9 <| i_il 1 <| i_ir Q
def F_X11_forget (Q : zQ) (X : Nat → zK) : Nat → zK
  | 0 => k_X11_forget_0 X Q
  | _ => fun _ _ _ => False
def T_X11_forget : zTy := fun vs σ Q => zok 2 vs = true ∧ zFix (F_X11_forget Q) 0 (zlc vs) [] σ
def k_X11_coughed_0 (X : Nat → zK) (Q : zQ) : zK := i_il 1 <| i_ic 0 <| i_ic 2 <| i_call 3 T_X11_within <| i_if (fun x => ¬ x = 0) (fun x => x = 0) (i_al 0 <| i_gf 11 5 <| i_al 0 <| i_gf 11 0 <| i_cv 8 2 T_X8_hold <| i_al 0 <| i_gf 11 7 <| i_al 0 <| i_gf 11 0 <| i_al 0 <| i_gf 11 5 <| i_cv 3 3 T_X3_find <| i_il 1 <| i_sw [(0, i_al 0 <| i_gf 11 7 <| i_gf 3 3 <| i_ir Q), (1, i_al 0 <| i_gf 11 7 <| i_gf 3 3 <| i_if (fun x => x ≤ 0) (fun x => ¬ x ≤ 0) (i_ic (-1) <| i_ir Q) <| i_al 0 <| i_gf 11 7 <| i_gf 3 4 <| i_ir Q)] (i_al 0 <| i_gf 11 7 <| i_gf 3 5 <| i_ir Q)) <| i_al 0 <| i_ic (-2) <| i_cv 11 2 T_X11_refuse <| i_ir Q
def F_X11_coughed (Q : zQ) (X : Nat → zK) : Nat → zK
  | 0 => k_X11_coughed_0 X Q
  | _ => fun _ _ _ => False
def T_X11_coughed : zTy := fun vs σ Q => zok 2 vs = true ∧ zFix (F_X11_coughed Q) 0 (zlc vs) [] σ
def k_X11_next_0 (X : Nat → zK) (Q : zQ) : zK := i_al 0 <| i_gf 11 5 <| i_al 0 <| i_gf 11 0 <| i_cv 8 2 T_X8_hold <| i_al 0 <| i_gf 11 7 <| i_al 0 <| i_gf 11 0 <| i_al 0 <| i_gf 11 5 <| i_cv 3 3 T_X3_find <| i_al 0 <| i_gf 11 7 <| i_al 0 <| i_gf 11 5 <| i_cv 3 2 T_X3_bestWord <| i_ir Q
def F_X11_next (Q : zQ) (X : Nat → zK) : Nat → zK
  | 0 => k_X11_next_0 X Q
  | _ => fun _ _ _ => False
def T_X11_next : zTy := fun vs σ Q => zok 1 vs = true ∧ zFix (F_X11_next Q) 0 (zlc vs) [] σ
def k_X11_is_0 (X : Nat → zK) (Q : zQ) : zK := i_al 0 <| i_gf 11 0 <| i_il 1 <| i_cv 1 2 T_X1_hasFamily <| i_if (fun x => ¬ x = 0) (fun x => x = 0) (i_al 0 <| i_gf 11 5 <| i_al 0 <| i_gf 11 0 <| i_cv 8 2 T_X8_hold <| i_ic 0 <| i_is 2 <| i_ic 0 <| i_is 3 <| i_jmp X 1 [true, true, true, true]) <| i_al 0 <| i_ic (-2) <| i_cv 11 2 T_X11_refuse <| i_ir Q
def k_X11_is_1 (X : Nat → zK) (Q : zQ) : zK := i_il 3 <| i_ic 6 <| i_cmp (fun x y => y ≤ x) (fun x y => ¬ y ≤ x) (i_il 2 <| i_ir Q) <| i_al 0 <| i_gf 11 5 <| i_al 0 <| i_gf 11 0 <| i_il 1 <| i_il 3 <| i_al 0 <| i_gf 11 0 <| i_gf 1 4 <| i_il 1 <| i_ia <| i_cv 8 5 T_X8_suppose <| i_al 0 <| i_gf 11 5 <| i_al 0 <| i_gf 11 0 <| i_al 0 <| i_gf 11 0 <| i_gf 1 8 <| i_cv 8 3 T_X8_agreesWith <| i_if (fun x => x = 0) (fun x => ¬ x = 0) (i_jmp X 2 [true, true, true, true]) <| i_il 2 <| i_ic 1 <| i_il 3 <| i_ib (fun x y => x <<< (y &&& 31)) <| i_ib (fun x y => x ||| y) <| i_is 2 <| i_jmp X 2 [true, true, true, true]
def k_X11_is_2 (X : Nat → zK) (Q : zQ) : zK := i_inc 3 1 <| i_jmp X 1 [true, true, true, true]
def F_X11_is (Q : zQ) (X : Nat → zK) : Nat → zK
  | 0 => k_X11_is_0 X Q
  | 1 => k_X11_is_1 X Q
  | 2 => k_X11_is_2 X Q
  | _ => fun _ _ _ => False
def T_X11_is : zTy := fun vs σ Q => zok 4 vs = true ∧ zFix (F_X11_is Q) 0 (zlc vs) [] σ
def k_X11_leadOfBook0_0 (X : Nat → zK) (Q : zQ) : zK := i_al 0 <| i_gf 11 0 <| i_gf 1 8 <| i_is 3 <| i_ic 0 <| i_is 4 <| i_jmp X 1 [true, true, true, true, true]
def k_X11_leadOfBook0_1 (X : Nat → zK) (Q : zQ) : zK := i_il 4 <| i_ic 2 <| i_cmp (fun x y => y ≤ x) (fun x y => ¬ y ≤ x) (i_al 0 <| i_gf 11 5 <| i_il 1 <| i_ic 0 <| i_il 3 <| i_cv 8 4 T_X8_loudness <| i_al 0 <| i_gf 11 5 <| i_il 1 <| i_ic 1 <| i_il 3 <| i_cv 8 4 T_X8_loudness <| i_ib (fun x y => x - y) <| i_ir Q) <| i_al 0 <| i_gf 11 0 <| i_il 4 <| i_cv 1 2 T_X1_mostVoiced <| i_is 5 <| i_il 2 <| i_il 4 <| i_call 2 T_X11_bit <| i_ic 1 <| i_cmp (fun x y => ¬ x = y) (fun x y => x = y) (i_jmp X 2 [true, true, true, true, true]) <| i_il 5 <| i_ic (-1) <| i_cmp (fun x y => x = y) (fun x y => ¬ x = y) (i_jmp X 2 [true, true, true, true, true]) <| i_il 3 <| i_ic 1 <| i_il 5 <| i_ib (fun x y => x <<< (y &&& 31)) <| i_ib (fun x y => x ||| y) <| i_is 3 <| i_jmp X 2 [true, true, true, true, true]
def k_X11_leadOfBook0_2 (X : Nat → zK) (Q : zQ) : zK := i_inc 4 1 <| i_jmp X 1 [true, true, true, true, true]
def F_X11_leadOfBook0 (Q : zQ) (X : Nat → zK) : Nat → zK
  | 0 => k_X11_leadOfBook0_0 X Q
  | 1 => k_X11_leadOfBook0_1 X Q
  | 2 => k_X11_leadOfBook0_2 X Q
  | _ => fun _ _ _ => False
def T_X11_leadOfBook0 : zTy := fun vs σ Q => zok 6 vs = true ∧ zFix (F_X11_leadOfBook0 Q) 0 (zlc vs) [] σ
def k_X11_deacons_0 (X : Nat → zK) (Q : zQ) : zK := i_il 1 <| i_call 1 T_X11_isWord <| i_if (fun x => ¬ x = 0) (fun x => x = 0) (i_al 0 <| i_gf 11 5 <| i_al 0 <| i_gf 11 0 <| i_cv 8 2 T_X8_hold <| i_ic 0 <| i_is 2 <| i_ic 0 <| i_is 3 <| i_jmp X 1 [true, true, true, true]) <| i_al 0 <| i_ic (-2) <| i_cv 11 2 T_X11_refuse <| i_ir Q
def k_X11_deacons_1 (X : Nat → zK) (Q : zQ) : zK := i_il 3 <| i_ic 4 <| i_cmp (fun x y => y ≤ x) (fun x y => ¬ y ≤ x) (i_il 2 <| i_ir Q) <| i_al 0 <| i_il 1 <| i_il 3 <| i_cv 11 3 T_X11_leadOfBook0 <| i_is 4 <| i_il 4 <| i_al 0 <| i_il 1 <| i_il 3 <| i_ic 1 <| i_ib (fun x y => x ^^^ y) <| i_cv 11 3 T_X11_leadOfBook0 <| i_cmp (fun x y => x < y) (fun x y => ¬ x < y) (i_jmp X 2 [true, true, true, true]) <| i_il 4 <| i_al 0 <| i_il 1 <| i_il 3 <| i_ic 2 <| i_ib (fun x y => x ^^^ y) <| i_cv 11 3 T_X11_leadOfBook0 <| i_cmp (fun x y => y < x) (fun x y => ¬ y < x) (i_jmp X 2 [true, true, true, true]) <| i_il 2 <| i_ic 1 <| i_il 3 <| i_ib (fun x y => x <<< (y &&& 31)) <| i_ib (fun x y => x ||| y) <| i_is 2 <| i_jmp X 2 [true, true, true, true]
def k_X11_deacons_2 (X : Nat → zK) (Q : zQ) : zK := i_inc 3 1 <| i_jmp X 1 [true, true, true, true]
def F_X11_deacons (Q : zQ) (X : Nat → zK) : Nat → zK
  | 0 => k_X11_deacons_0 X Q
  | 1 => k_X11_deacons_1 X Q
  | 2 => k_X11_deacons_2 X Q
  | _ => fun _ _ _ => False
def T_X11_deacons : zTy := fun vs σ Q => zok 5 vs = true ∧ zFix (F_X11_deacons Q) 0 (zlc vs) [] σ
def k_X11_feasts_0 (X : Nat → zK) (Q : zQ) : zK := i_il 1 <| i_ic 1 <| i_ic 40 <| i_call 3 T_X11_within <| i_if (fun x => x = 0) (fun x => ¬ x = 0) (i_jmp X 1 [true]) <| i_il 3 <| i_ic 1 <| i_ic 40 <| i_call 3 T_X11_within <| i_if (fun x => x = 0) (fun x => ¬ x = 0) (i_jmp X 1 [true]) <| i_il 2 <| i_ic 0 <| i_ic 99 <| i_call 3 T_X11_within <| i_if (fun x => x = 0) (fun x => ¬ x = 0) (i_jmp X 1 [true]) <| i_il 4 <| i_ic 0 <| i_ic 99 <| i_call 3 T_X11_within <| i_if (fun x => ¬ x = 0) (fun x => x = 0) (i_il 2 <| i_il 4 <| i_mmax <| i_il 1 <| i_il 3 <| i_ib (fun x y => x * y) <| i_ib (fun x y => x + y) <| i_is 5 <| i_il 2 <| i_is 6 <| i_jmp X 2 [false, true, false, true, true, true, true]) <| i_jmp X 1 [true]
def k_X11_feasts_1 (X : Nat → zK) (Q : zQ) : zK := i_al 0 <| i_ic (-2) <| i_cv 11 2 T_X11_refuse <| i_ir Q
def k_X11_feasts_2 (X : Nat → zK) (Q : zQ) : zK := i_il 6 <| i_il 5 <| i_cmp (fun x y => y < x) (fun x y => ¬ y < x) (i_ic (-1) <| i_ir Q) <| i_il 6 <| i_il 4 <| i_cmp (fun x y => x < y) (fun x y => ¬ x < y) (i_jmp X 3 [false, true, false, true, true, true, true]) <| i_il 6 <| i_il 4 <| i_ib (fun x y => x - y) <| i_il 3 <| i_irem <| i_if (fun x => ¬ x = 0) (fun x => x = 0) (i_jmp X 3 [false, true, false, true, true, true, true]) <| i_il 6 <| i_ir Q
def k_X11_feasts_3 (X : Nat → zK) (Q : zQ) : zK := i_il 6 <| i_il 1 <| i_ib (fun x y => x + y) <| i_is 6 <| i_jmp X 2 [false, true, false, true, true, true, true]
def F_X11_feasts (Q : zQ) (X : Nat → zK) : Nat → zK
  | 0 => k_X11_feasts_0 X Q
  | 1 => k_X11_feasts_1 X Q
  | 2 => k_X11_feasts_2 X Q
  | 3 => k_X11_feasts_3 X Q
  | _ => fun _ _ _ => False
def T_X11_feasts : zTy := fun vs σ Q => zok 7 vs = true ∧ zFix (F_X11_feasts Q) 0 (zlc vs) [] σ
def k_X11_power_0 (X : Nat → zK) (Q : zQ) : zK := i_lc 1 <| i_lst 2 <| i_ic 0 <| i_is 4 <| i_jmp X 1 [true, true, true, false, true]
def k_X11_power_1 (X : Nat → zK) (Q : zQ) : zK := i_il 4 <| i_il 1 <| i_cmp (fun x y => y ≤ x) (fun x y => ¬ y ≤ x) (i_ll 2 <| i_lr Q) <| i_ll 2 <| i_il 0 <| i_i2l <| i_lb (fun x y => x * y) <| i_lst 2 <| i_inc 4 1 <| i_jmp X 1 [true, true, true, false, true]
def F_X11_power (Q : zQ) (X : Nat → zK) : Nat → zK
  | 0 => k_X11_power_0 X Q
  | 1 => k_X11_power_1 X Q
  | _ => fun _ _ _ => False
def T_X11_power : zTy := fun vs σ Q => zok 5 vs = true ∧ zFix (F_X11_power Q) 0 (zlc vs) [] σ
def k_X11_chancesOf_0 (X : Nat → zK) (Q : zQ) : zK := i_il 1 <| i_al 0 <| i_gf 11 0 <| i_gf 1 8 <| i_ic (-1) <| i_ib (fun x y => x ^^^ y) <| i_ib (fun x y => x &&& y) <| i_call 1 T_J6_bitCount_0f7a4 <| i_is 3 <| i_al 0 <| i_gf 11 0 <| i_gf 1 2 <| i_il 1 <| i_call 1 T_J6_bitCount_0f7a4 <| i_ib (fun x y => x - y) <| i_is 4 <| i_il 2 <| i_il 3 <| i_call 2 T_X11_power <| i_ic 10 <| i_il 2 <| i_ib (fun x y => x - y) <| i_il 4 <| i_call 2 T_X11_power <| i_lb (fun x y => x * y) <| i_lr Q
def F_X11_chancesOf (Q : zQ) (X : Nat → zK) : Nat → zK
  | 0 => k_X11_chancesOf_0 X Q
  | _ => fun _ _ _ => False
def T_X11_chancesOf : zTy := fun vs σ Q => zok 5 vs = true ∧ zFix (F_X11_chancesOf Q) 0 (zlc vs) [] σ
def k_X11_commonDivisor_0 (X : Nat → zK) (Q : zQ) : zK := i_ll 2 <| i_lst 4 <| i_ll 0 <| i_lst 6 <| i_ic 0 <| i_is 8 <| i_jmp X 1 [false, false, false, false, true, false, true, false, true]
def k_X11_commonDivisor_1 (X : Nat → zK) (Q : zQ) : zK := i_il 8 <| i_ic 128 <| i_cmp (fun x y => y ≤ x) (fun x y => ¬ y ≤ x) (i_ll 4 <| i_lr Q) <| i_ll 6 <| i_lc 0 <| i_lcmp <| i_if (fun x => x = 0) (fun x => ¬ x = 0) (i_ll 4 <| i_lr Q) <| i_ll 4 <| i_ll 6 <| i_lrem <| i_lst 9 <| i_ll 6 <| i_lst 4 <| i_ll 9 <| i_lst 6 <| i_inc 8 1 <| i_jmp X 1 [false, false, false, false, true, false, true, false, true]
def F_X11_commonDivisor (Q : zQ) (X : Nat → zK) : Nat → zK
  | 0 => k_X11_commonDivisor_0 X Q
  | 1 => k_X11_commonDivisor_1 X Q
  | _ => fun _ _ _ => False
def T_X11_commonDivisor : zTy := fun vs σ Q => zok 11 vs = true ∧ zFix (F_X11_commonDivisor Q) 0 (zlc vs) [] σ
def k_X11_keepFraction_0 (X : Nat → zK) (Q : zQ) : zK := i_ll 1 <| i_ll 3 <| i_call 2 T_X11_commonDivisor <| i_lst 5 <| i_ll 5 <| i_lc 0 <| i_lcmp <| i_if (fun x => x ≤ 0) (fun x => ¬ x ≤ 0) (i_vr Q) <| i_al 0 <| i_ll 1 <| i_ll 5 <| i_ldiv <| i_pfl 11 9 <| i_al 0 <| i_ll 3 <| i_ll 5 <| i_ldiv <| i_pfl 11 10 <| i_vr Q
def F_X11_keepFraction (Q : zQ) (X : Nat → zK) : Nat → zK
  | 0 => k_X11_keepFraction_0 X Q
  | _ => fun _ _ _ => False
def T_X11_keepFraction : zTy := fun vs σ Q => zok 7 vs = true ∧ zFix (F_X11_keepFraction Q) 0 (zlc vs) [] σ
def k_X11_colds_0 (X : Nat → zK) (Q : zQ) : zK := i_il 1 <| i_call 1 T_X11_isWord <| i_if (fun x => x = 0) (fun x => ¬ x = 0) (i_jmp X 1 [true]) <| i_il 2 <| i_ic 0 <| i_ic 10 <| i_call 3 T_X11_within <| i_if (fun x => ¬ x = 0) (fun x => x = 0) (i_al 0 <| i_gf 11 5 <| i_al 0 <| i_gf 11 0 <| i_cv 8 2 T_X8_hold <| i_lc 0 <| i_lst 3 <| i_ic 0 <| i_is 5 <| i_jmp X 2 [true, true, true, true, false, true]) <| i_jmp X 1 [true]
def k_X11_colds_1 (X : Nat → zK) (Q : zQ) : zK := i_al 0 <| i_ic (-2) <| i_cv 11 2 T_X11_refuse <| i_ir Q
def k_X11_colds_2 (X : Nat → zK) (Q : zQ) : zK := i_il 5 <| i_al 0 <| i_gf 11 0 <| i_cv 1 1 T_X1_sets <| i_cmp (fun x y => y ≤ x) (fun x y => ¬ y ≤ x) (i_al 0 <| i_ll 3 <| i_ic 10 <| i_al 0 <| i_gf 11 0 <| i_gf 1 2 <| i_al 0 <| i_gf 11 0 <| i_gf 1 8 <| i_call 1 T_J6_bitCount_0f7a4 <| i_ib (fun x y => x - y) <| i_call 2 T_X11_power <| i_cv 11 3 T_X11_keepFraction <| i_ic 1 <| i_ir Q) <| i_il 5 <| i_al 0 <| i_gf 11 0 <| i_gf 1 8 <| i_ib (fun x y => x &&& y) <| i_al 0 <| i_gf 11 0 <| i_gf 1 8 <| i_cmp (fun x y => ¬ x = y) (fun x y => x = y) (i_jmp X 3 [true, true, true, true, false, true]) <| i_al 0 <| i_gf 11 5 <| i_il 1 <| i_il 5 <| i_cv 8 3 T_X8_isPeaceful <| i_if (fun x => x = 0) (fun x => ¬ x = 0) (i_jmp X 3 [true, true, true, true, false, true]) <| i_ll 3 <| i_al 0 <| i_il 5 <| i_il 2 <| i_cv 11 3 T_X11_chancesOf <| i_lb (fun x y => x + y) <| i_lst 3 <| i_jmp X 3 [true, true, true, true, false, true]
def k_X11_colds_3 (X : Nat → zK) (Q : zQ) : zK := i_inc 5 1 <| i_jmp X 2 [true, true, true, true, false, true]
def F_X11_colds (Q : zQ) (X : Nat → zK) : Nat → zK
  | 0 => k_X11_colds_0 X Q
  | 1 => k_X11_colds_1 X Q
  | 2 => k_X11_colds_2 X Q
  | 3 => k_X11_colds_3 X Q
  | _ => fun _ _ _ => False
def T_X11_colds : zTy := fun vs σ Q => zok 6 vs = true ∧ zFix (F_X11_colds Q) 0 (zlc vs) [] σ
def k_X11_sundays_0 (X : Nat → zK) (Q : zQ) : zK := i_il 1 <| i_ic 0 <| i_ic 999999 <| i_call 3 T_X11_within <| i_if (fun x => x = 0) (fun x => ¬ x = 0) (i_jmp X 1 [true]) <| i_il 2 <| i_ic 0 <| i_ic 60 <| i_call 3 T_X11_within <| i_if (fun x => ¬ x = 0) (fun x => x = 0) (i_al 0 <| i_gf 11 5 <| i_al 0 <| i_gf 11 0 <| i_cv 8 2 T_X8_hold <| i_il 1 <| i_i2l <| i_lst 3 <| i_ic 0 <| i_is 5 <| i_ic 0 <| i_is 6 <| i_jmp X 2 [true, false, true, true, false, true, true]) <| i_jmp X 1 [true]
def k_X11_sundays_1 (X : Nat → zK) (Q : zQ) : zK := i_al 0 <| i_ic (-2) <| i_cv 11 2 T_X11_refuse <| i_ir Q
def k_X11_sundays_2 (X : Nat → zK) (Q : zQ) : zK := i_il 6 <| i_il 2 <| i_cmp (fun x y => y ≤ x) (fun x y => ¬ y ≤ x) (i_il 5 <| i_ir Q) <| i_ic 0 <| i_is 7 <| i_ic 0 <| i_is 8 <| i_jmp X 3 [true, false, true, true, false, true, true, true, true]
def k_X11_sundays_3 (X : Nat → zK) (Q : zQ) : zK := i_il 8 <| i_al 0 <| i_gf 11 0 <| i_gf 1 2 <| i_cmp (fun x y => y ≤ x) (fun x y => ¬ y ≤ x) (i_al 0 <| i_gf 11 5 <| i_il 7 <| i_cv 8 2 T_X8_isPeacefulThroughout <| i_if (fun x => x = 0) (fun x => ¬ x = 0) (i_jmp X 5 [true, false, true, true, false, true, true]) <| i_inc 5 1 <| i_jmp X 5 [true, false, true, true, false, true, true]) <| i_ll 3 <| i_lc 1103515245 <| i_lb (fun x y => x * y) <| i_lc 12345 <| i_lb (fun x y => x + y) <| i_lc 2147483648 <| i_lrem <| i_lst 3 <| i_ll 3 <| i_lc 65536 <| i_ldiv <| i_lc 4 <| i_lrem <| i_lc 0 <| i_lcmp <| i_if (fun x => ¬ x = 0) (fun x => x = 0) (i_jmp X 4 [true, false, true, true, false, true, true, true, true]) <| i_il 7 <| i_ic 1 <| i_il 8 <| i_ib (fun x y => x <<< (y &&& 31)) <| i_ib (fun x y => x ||| y) <| i_is 7 <| i_jmp X 4 [true, false, true, true, false, true, true, true, true]
def k_X11_sundays_4 (X : Nat → zK) (Q : zQ) : zK := i_inc 8 1 <| i_jmp X 3 [true, false, true, true, false, true, true, true, true]
def k_X11_sundays_5 (X : Nat → zK) (Q : zQ) : zK := i_inc 6 1 <| i_jmp X 2 [true, false, true, true, false, true, true]
def F_X11_sundays (Q : zQ) (X : Nat → zK) : Nat → zK
  | 0 => k_X11_sundays_0 X Q
  | 1 => k_X11_sundays_1 X Q
  | 2 => k_X11_sundays_2 X Q
  | 3 => k_X11_sundays_3 X Q
  | 4 => k_X11_sundays_4 X Q
  | 5 => k_X11_sundays_5 X Q
  | _ => fun _ _ _ => False
def T_X11_sundays : zTy := fun vs σ Q => zok 9 vs = true ∧ zFix (F_X11_sundays Q) 0 (zlc vs) [] σ
def k_X11_part_0 (X : Nat → zK) (Q : zQ) : zK := i_il 1 <| i_ic 0 <| i_ic 1 <| i_call 3 T_X11_within <| i_if (fun x => ¬ x = 0) (fun x => x = 0) (i_il 1 <| i_if (fun x => ¬ x = 0) (fun x => x = 0) (i_al 0 <| i_gf 11 10 <| i_lr Q) <| i_al 0 <| i_gf 11 9 <| i_lr Q) <| i_al 0 <| i_ic (-2) <| i_cv 11 2 T_X11_refuse <| i_i2l <| i_lr Q
def F_X11_part (Q : zQ) (X : Nat → zK) : Nat → zK
  | 0 => k_X11_part_0 X Q
  | _ => fun _ _ _ => False
def T_X11_part : zTy := fun vs σ Q => zok 2 vs = true ∧ zFix (F_X11_part Q) 0 (zlc vs) [] σ
def k_X11_image_0 (X : Nat → zK) (Q : zQ) : zK := i_il 1 <| i_ic 0 <| i_ic 1 <| i_call 3 T_X11_within <| i_if (fun x => ¬ x = 0) (fun x => x = 0) (i_al 0 <| i_gf 11 2 <| i_il 1 <| i_aa <| i_al 0 <| i_gf 11 0 <| i_cv 1 2 T_X1_becomeLike <| i_al 0 <| i_gf 11 3 <| i_il 1 <| i_ic 1 <| i_bast <| i_ic 1 <| i_ir Q) <| i_al 0 <| i_ic (-2) <| i_cv 11 2 T_X11_refuse <| i_ir Q
def F_X11_image (Q : zQ) (X : Nat → zK) : Nat → zK
  | 0 => k_X11_image_0 X Q
  | _ => fun _ _ _ => False
def T_X11_image : zTy := fun vs σ Q => zok 2 vs = true ∧ zFix (F_X11_image Q) 0 (zlc vs) [] σ
def k_X11_from_0 (X : Nat → zK) (Q : zQ) : zK := i_il 1 <| i_ic 0 <| i_ic 1 <| i_call 3 T_X11_within <| i_if (fun x => ¬ x = 0) (fun x => x = 0) (i_al 0 <| i_gf 11 3 <| i_il 1 <| i_ba <| i_if (fun x => ¬ x = 0) (fun x => x = 0) (i_al 0 <| i_gf 11 0 <| i_al 0 <| i_gf 11 2 <| i_il 1 <| i_aa <| i_cv 1 2 T_X1_becomeLike <| i_ic 1 <| i_ir Q) <| i_al 0 <| i_ic (-3) <| i_cv 11 2 T_X11_refuse <| i_ir Q) <| i_al 0 <| i_ic (-2) <| i_cv 11 2 T_X11_refuse <| i_ir Q
def F_X11_from (Q : zQ) (X : Nat → zK) : Nat → zK
  | 0 => k_X11_from_0 X Q
  | _ => fun _ _ _ => False
def T_X11_from : zTy := fun vs σ Q => zok 2 vs = true ∧ zFix (F_X11_from Q) 0 (zlc vs) [] σ
def k_X11_status_0 (X : Nat → zK) (Q : zQ) : zK := i_il 1 <| i_ic 0 <| i_ic 2 <| i_call 3 T_X11_within <| i_if (fun x => ¬ x = 0) (fun x => x = 0) (i_al 0 <| i_gf 11 8 <| i_il 1 <| i_ia <| i_ir Q) <| i_al 0 <| i_ic (-2) <| i_cv 11 2 T_X11_refuse <| i_pop <| i_ic (-1) <| i_ir Q
def F_X11_status (Q : zQ) (X : Nat → zK) : Nat → zK
  | 0 => k_X11_status_0 X Q
  | _ => fun _ _ _ => False
def T_X11_status : zTy := fun vs σ Q => zok 2 vs = true ∧ zFix (F_X11_status Q) 0 (zlc vs) [] σ
def k_X11_howMany_0 (X : Nat → zK) (Q : zQ) : zK := i_il 1 <| i_sw [(0, i_al 0 <| i_gf 11 0 <| i_gf 1 2 <| i_ir Q), (1, i_al 0 <| i_gf 11 0 <| i_gf 1 0 <| i_ir Q), (2, i_al 0 <| i_gf 11 0 <| i_gf 1 8 <| i_call 1 T_J6_bitCount_0f7a4 <| i_ir Q), (3, i_al 0 <| i_gf 11 5 <| i_al 0 <| i_gf 11 0 <| i_cv 8 2 T_X8_hold <| i_al 0 <| i_gf 11 5 <| i_al 0 <| i_gf 11 0 <| i_gf 1 8 <| i_cv 8 2 T_X8_peacefulWords <| i_ir Q), (4, i_al 0 <| i_gf 11 0 <| i_gf 1 9 <| i_ir Q), (5, i_al 0 <| i_gf 11 0 <| i_gf 1 13 <| i_ir Q)] (i_al 0 <| i_gf 11 4 <| i_gf 9 1 <| i_ir Q)
def F_X11_howMany (Q : zQ) (X : Nat → zK) : Nat → zK
  | 0 => k_X11_howMany_0 X Q
  | _ => fun _ _ _ => False
def T_X11_howMany : zTy := fun vs σ Q => zok 2 vs = true ∧ zFix (F_X11_howMany Q) 0 (zlc vs) [] σ
def k_X11_count_0 (X : Nat → zK) (Q : zQ) : zK := i_il 1 <| i_ic 0 <| i_ic 6 <| i_call 3 T_X11_within <| i_if (fun x => ¬ x = 0) (fun x => x = 0) (i_al 0 <| i_il 1 <| i_cv 11 2 T_X11_howMany <| i_ir Q) <| i_al 0 <| i_ic (-2) <| i_cv 11 2 T_X11_refuse <| i_ir Q
def F_X11_count (Q : zQ) (X : Nat → zK) : Nat → zK
  | 0 => k_X11_count_0 X Q
  | _ => fun _ _ _ => False
def T_X11_count : zTy := fun vs σ Q => zok 2 vs = true ∧ zFix (F_X11_count Q) 0 (zlc vs) [] σ
def k_X11_digest_0 (X : Nat → zK) (Q : zQ) : zK := i_lc 1171 <| i_lst 1 <| i_ic 0 <| i_is 3 <| i_jmp X 1 [true, true, false, true]
def k_X11_digest_1 (X : Nat → zK) (Q : zQ) : zK := i_il 3 <| i_ic 6 <| i_cmp (fun x y => y < x) (fun x y => ¬ y < x) (i_ic 0 <| i_is 3 <| i_jmp X 2 [true, true, false, true]) <| i_lc 31 <| i_ll 1 <| i_lb (fun x y => x * y) <| i_al 0 <| i_il 3 <| i_cv 11 2 T_X11_howMany <| i_i2l <| i_lb (fun x y => x + y) <| i_lst 1 <| i_inc 3 1 <| i_jmp X 1 [true, true, false, true]
def k_X11_digest_2 (X : Nat → zK) (Q : zQ) : zK := i_il 3 <| i_ic 2 <| i_cmp (fun x y => y ≤ x) (fun x y => ¬ y ≤ x) (i_ic 0 <| i_is 3 <| i_jmp X 3 [true, true, false, true]) <| i_lc 31 <| i_ll 1 <| i_lb (fun x y => x * y) <| i_al 0 <| i_gf 11 0 <| i_gf 1 1 <| i_il 3 <| i_ia <| i_i2l <| i_lb (fun x y => x + y) <| i_lst 1 <| i_inc 3 1 <| i_jmp X 2 [true, true, false, true]
def k_X11_digest_3 (X : Nat → zK) (Q : zQ) : zK := i_il 3 <| i_al 0 <| i_gf 11 0 <| i_gf 1 2 <| i_cmp (fun x y => y ≤ x) (fun x y => ¬ y ≤ x) (i_ic 0 <| i_is 3 <| i_jmp X 5 [true, true, false, true]) <| i_ic 0 <| i_is 4 <| i_jmp X 4 [true, true, false, true, true]
def k_X11_digest_4 (X : Nat → zK) (Q : zQ) : zK := i_il 4 <| i_ic 5 <| i_cmp (fun x y => y < x) (fun x y => ¬ y < x) (i_inc 3 1 <| i_jmp X 3 [true, true, false, true]) <| i_lc 31 <| i_ll 1 <| i_lb (fun x y => x * y) <| i_al 0 <| i_gf 11 0 <| i_il 3 <| i_il 4 <| i_cv 1 3 T_X1_trait <| i_i2l <| i_lb (fun x y => x + y) <| i_lst 1 <| i_inc 4 1 <| i_jmp X 4 [true, true, false, true, true]
def k_X11_digest_5 (X : Nat → zK) (Q : zQ) : zK := i_il 3 <| i_al 0 <| i_gf 11 0 <| i_gf 1 9 <| i_cmp (fun x y => y ≤ x) (fun x y => ¬ y ≤ x) (i_lc 31 <| i_ll 1 <| i_lb (fun x y => x * y) <| i_al 0 <| i_gf 11 9 <| i_lb (fun x y => x + y) <| i_lst 1 <| i_lc 31 <| i_ll 1 <| i_lb (fun x y => x * y) <| i_al 0 <| i_gf 11 10 <| i_lb (fun x y => x + y) <| i_lr Q) <| i_lc 31 <| i_ll 1 <| i_lb (fun x y => x * y) <| i_al 0 <| i_gf 11 0 <| i_gf 1 10 <| i_il 3 <| i_ia <| i_i2l <| i_lb (fun x y => x + y) <| i_lst 1 <| i_lc 31 <| i_ll 1 <| i_lb (fun x y => x * y) <| i_al 0 <| i_gf 11 0 <| i_gf 1 11 <| i_il 3 <| i_ia <| i_i2l <| i_lb (fun x y => x + y) <| i_lst 1 <| i_lc 31 <| i_ll 1 <| i_lb (fun x y => x * y) <| i_al 0 <| i_gf 11 0 <| i_gf 1 12 <| i_il 3 <| i_ia <| i_i2l <| i_lb (fun x y => x + y) <| i_lst 1 <| i_inc 3 1 <| i_jmp X 5 [true, true, false, true]
def F_X11_digest (Q : zQ) (X : Nat → zK) : Nat → zK
  | 0 => k_X11_digest_0 X Q
  | 1 => k_X11_digest_1 X Q
  | 2 => k_X11_digest_2 X Q
  | 3 => k_X11_digest_3 X Q
  | 4 => k_X11_digest_4 X Q
  | 5 => k_X11_digest_5 X Q
  | _ => fun _ _ _ => False
def T_X11_digest : zTy := fun vs σ Q => zok 5 vs = true ∧ zFix (F_X11_digest Q) 0 (zlc vs) [] σ
def k_X12_in_0 (X : Nat → zK) (Q : zQ) : zK := i_ll 0 <| i_ll 2 <| i_lcmp <| i_if (fun x => x < 0) (fun x => ¬ x < 0) (i_ic 0 <| i_zr Q) <| i_ll 0 <| i_ll 4 <| i_lcmp <| i_if (fun x => 0 < x) (fun x => ¬ 0 < x) (i_ic 0 <| i_zr Q) <| i_ic 1 <| i_zr Q
def F_X12_in (Q : zQ) (X : Nat → zK) : Nat → zK
  | 0 => k_X12_in_0 X Q
  | _ => fun _ _ _ => False
def T_X12_in : zTy := fun vs σ Q => zok 6 vs = true ∧ zFix (F_X12_in Q) 0 (zlc vs) [] σ
def k_X12_bad_0 (X : Nat → zK) (Q : zQ) : zK := i_al 0 <| i_gf 12 3 <| i_ic 0 <| i_dup2 <| i_ia <| i_ic 1 <| i_ib (fun x y => x + y) <| i_iast <| i_il 1 <| i_ir Q
def F_X12_bad (Q : zQ) (X : Nat → zK) : Nat → zK
  | 0 => k_X12_bad_0 X Q
  | _ => fun _ _ _ => False
def T_X12_bad : zTy := fun vs σ Q => zok 2 vs = true ∧ zFix (F_X12_bad Q) 0 (zlc vs) [] σ
def k_X12_no_0 (X : Nat → zK) (Q : zQ) : zK := i_al 0 <| i_gf 12 3 <| i_ic 1 <| i_dup2 <| i_ia <| i_ic 1 <| i_ib (fun x y => x + y) <| i_iast <| i_ic (-3) <| i_ir Q
def F_X12_no (Q : zQ) (X : Nat → zK) : Nat → zK
  | 0 => k_X12_no_0 X Q
  | _ => fun _ _ _ => False
def T_X12_no : zTy := fun vs σ Q => zok 1 vs = true ∧ zFix (F_X12_no Q) 0 (zlc vs) [] σ
def k_X12_full_0 (X : Nat → zK) (Q : zQ) : zK := i_al 0 <| i_gf 12 3 <| i_ic 2 <| i_dup2 <| i_ia <| i_ic 1 <| i_ib (fun x y => x + y) <| i_iast <| i_ic (-4) <| i_ir Q
def F_X12_full (Q : zQ) (X : Nat → zK) : Nat → zK
  | 0 => k_X12_full_0 X Q
  | _ => fun _ _ _ => False
def T_X12_full : zTy := fun vs σ Q => zok 1 vs = true ∧ zFix (F_X12_full Q) 0 (zlc vs) [] σ
def k_X12_bits_0 (X : Nat → zK) (Q : zQ) : zK := i_ic 0 <| i_is 1 <| i_il 0 <| i_is 2 <| i_jmp X 1 [false, true, true]
def k_X12_bits_1 (X : Nat → zK) (Q : zQ) : zK := i_il 2 <| i_if (fun x => x ≤ 0) (fun x => ¬ x ≤ 0) (i_il 1 <| i_ir Q) <| i_il 1 <| i_il 2 <| i_ic 1 <| i_ib (fun x y => x &&& y) <| i_ib (fun x y => x + y) <| i_is 1 <| i_il 2 <| i_ic 1 <| i_ib (fun x y => x >>> (y &&& 31)) <| i_is 2 <| i_jmp X 1 [false, true, true]
def F_X12_bits (Q : zQ) (X : Nat → zK) : Nat → zK
  | 0 => k_X12_bits_0 X Q
  | 1 => k_X12_bits_1 X Q
  | _ => fun _ _ _ => False
def T_X12_bits : zTy := fun vs σ Q => zok 3 vs = true ∧ zFix (F_X12_bits Q) 0 (zlc vs) [] σ
def k_X12_has_0 (X : Nat → zK) (Q : zQ) : zK := i_il 0 <| i_il 1 <| i_ib (fun x y => x >>> (y &&& 31)) <| i_ic 1 <| i_ib (fun x y => x &&& y) <| i_ic 1 <| i_cmp (fun x y => ¬ x = y) (fun x y => x = y) (i_ic 0 <| i_zr Q) <| i_ic 1 <| i_zr Q
def F_X12_has (Q : zQ) (X : Nat → zK) : Nat → zK
  | 0 => k_X12_has_0 X Q
  | _ => fun _ _ _ => False
def T_X12_has : zTy := fun vs σ Q => zok 2 vs = true ∧ zFix (F_X12_has Q) 0 (zlc vs) [] σ
def k_X12_begin_0 (X : Nat → zK) (Q : zQ) : zK := i_ic 0 <| i_is 2 <| i_jmp X 1 [true, true, true]
def k_X12_begin_1 (X : Nat → zK) (Q : zQ) : zK := i_il 2 <| i_ic 66 <| i_cmp (fun x y => y ≤ x) (fun x y => ¬ y ≤ x) (i_al 0 <| i_ic 1 <| i_il 1 <| i_iast <| i_vr Q) <| i_al 0 <| i_il 2 <| i_ic 0 <| i_iast <| i_inc 2 1 <| i_jmp X 1 [true, true, true]
def F_X12_begin (Q : zQ) (X : Nat → zK) : Nat → zK
  | 0 => k_X12_begin_0 X Q
  | 1 => k_X12_begin_1 X Q
  | _ => fun _ _ _ => False
def T_X12_begin : zTy := fun vs σ Q => zok 3 vs = true ∧ zFix (F_X12_begin Q) 0 (zlc vs) [] σ
def k_X12_many_0 (X : Nat → zK) (Q : zQ) : zK := i_al 0 <| i_gf 12 0 <| i_ic 0 <| i_ia <| i_ir Q
def F_X12_many (Q : zQ) (X : Nat → zK) : Nat → zK
  | 0 => k_X12_many_0 X Q
  | _ => fun _ _ _ => False
def T_X12_many : zTy := fun vs σ Q => zok 1 vs = true ∧ zFix (F_X12_many Q) 0 (zlc vs) [] σ
def k_X12_isFamily_0 (X : Nat → zK) (Q : zQ) : zK := i_il 1 <| i_i2l <| i_lc 0 <| i_al 0 <| i_cv 12 1 T_X12_many <| i_ic 1 <| i_ib (fun x y => x - y) <| i_i2l <| i_call 3 T_X12_in <| i_zr Q
def F_X12_isFamily (Q : zQ) (X : Nat → zK) : Nat → zK
  | 0 => k_X12_isFamily_0 X Q
  | _ => fun _ _ _ => False
def T_X12_isFamily : zTy := fun vs σ Q => zok 2 vs = true ∧ zFix (F_X12_isFamily Q) 0 (zlc vs) [] σ
def k_X12_isWord_0 (X : Nat → zK) (Q : zQ) : zK := i_il 0 <| i_i2l <| i_lc 0 <| i_lc 15 <| i_call 3 T_X12_in <| i_zr Q
def F_X12_isWord (Q : zQ) (X : Nat → zK) : Nat → zK
  | 0 => k_X12_isWord_0 X Q
  | _ => fun _ _ _ => False
def T_X12_isWord : zTy := fun vs σ Q => zok 1 vs = true ∧ zFix (F_X12_isWord Q) 0 (zlc vs) [] σ
def k_X12_isBook_0 (X : Nat → zK) (Q : zQ) : zK := i_il 0 <| i_i2l <| i_lc 0 <| i_lc 1 <| i_call 3 T_X12_in <| i_zr Q
def F_X12_isBook (Q : zQ) (X : Nat → zK) : Nat → zK
  | 0 => k_X12_isBook_0 X Q
  | _ => fun _ _ _ => False
def T_X12_isBook : zTy := fun vs σ Q => zok 1 vs = true ∧ zFix (F_X12_isBook Q) 0 (zlc vs) [] σ
def k_X12_isPewOf_0 (X : Nat → zK) (Q : zQ) : zK := i_il 0 <| i_i2l <| i_lc 0 <| i_lc 9 <| i_call 3 T_X12_in <| i_if (fun x => x = 0) (fun x => ¬ x = 0) (i_ic 0 <| i_zr Q) <| i_il 0 <| i_ic 2 <| i_irem <| i_il 1 <| i_cmp (fun x y => ¬ x = y) (fun x y => x = y) (i_ic 0 <| i_zr Q) <| i_ic 1 <| i_zr Q
def F_X12_isPewOf (Q : zQ) (X : Nat → zK) : Nat → zK
  | 0 => k_X12_isPewOf_0 X Q
  | _ => fun _ _ _ => False
def T_X12_isPewOf : zTy := fun vs σ Q => zok 2 vs = true ∧ zFix (F_X12_isPewOf Q) 0 (zlc vs) [] σ
def k_X12_get_0 (X : Nat → zK) (Q : zQ) : zK := i_al 0 <| i_gf 12 0 <| i_ic 6 <| i_ic 6 <| i_il 1 <| i_ib (fun x y => x * y) <| i_ib (fun x y => x + y) <| i_il 2 <| i_ib (fun x y => x + y) <| i_ia <| i_ir Q
def F_X12_get (Q : zQ) (X : Nat → zK) : Nat → zK
  | 0 => k_X12_get_0 X Q
  | _ => fun _ _ _ => False
def T_X12_get : zTy := fun vs σ Q => zok 3 vs = true ∧ zFix (F_X12_get Q) 0 (zlc vs) [] σ
def k_X12_isTaken_0 (X : Nat → zK) (Q : zQ) : zK := i_ic 0 <| i_is 2 <| i_ic 0 <| i_is 3 <| i_jmp X 1 [true, true, true, true]
def k_X12_isTaken_1 (X : Nat → zK) (Q : zQ) : zK := i_il 3 <| i_al 0 <| i_ic 0 <| i_ia <| i_cmp (fun x y => y ≤ x) (fun x y => ¬ y ≤ x) (i_il 2 <| i_zr Q) <| i_il 2 <| i_if (fun x => ¬ x = 0) (fun x => x = 0) (i_jmp X 2 [true, true, false, true]) <| i_al 0 <| i_ic 6 <| i_ic 6 <| i_il 3 <| i_ib (fun x y => x * y) <| i_ib (fun x y => x + y) <| i_ic 4 <| i_ib (fun x y => x + y) <| i_ia <| i_il 1 <| i_cmp (fun x y => ¬ x = y) (fun x y => x = y) (i_ic 0 <| i_jmp X 3 [true, true, false, true]) <| i_jmp X 2 [true, true, false, true]
def k_X12_isTaken_2 (X : Nat → zK) (Q : zQ) : zK := i_ic 1 <| i_jmp X 3 [true, true, false, true]
def k_X12_isTaken_3 (X : Nat → zK) (Q : zQ) : zK := i_is 2 <| i_inc 3 1 <| i_jmp X 1 [true, true, true, true]
def F_X12_isTaken (Q : zQ) (X : Nat → zK) : Nat → zK
  | 0 => k_X12_isTaken_0 X Q
  | 1 => k_X12_isTaken_1 X Q
  | 2 => k_X12_isTaken_2 X Q
  | 3 => k_X12_isTaken_3 X Q
  | _ => fun _ _ _ => False
def T_X12_isTaken : zTy := fun vs σ Q => zok 4 vs = true ∧ zFix (F_X12_isTaken Q) 0 (zlc vs) [] σ
def k_X12_church_0 (X : Nat → zK) (Q : zQ) : zK := i_il 1 <| i_i2l <| i_lc 0 <| i_lc 30 <| i_call 3 T_X12_in <| i_if (fun x => ¬ x = 0) (fun x => x = 0) (i_al 0 <| i_cv 12 1 T_X12_many <| i_is 2 <| i_al 0 <| i_gf 12 0 <| i_il 1 <| i_call 2 T_X12_begin <| i_il 2 <| i_ir Q) <| i_al 0 <| i_ic (-2) <| i_cv 12 2 T_X12_bad <| i_ir Q
def F_X12_church (Q : zQ) (X : Nat → zK) : Nat → zK
  | 0 => k_X12_church_0 X Q
  | _ => fun _ _ _ => False
def T_X12_church : zTy := fun vs σ Q => zok 3 vs = true ∧ zFix (F_X12_church Q) 0 (zlc vs) [] σ
def k_X12_book_0 (X : Nat → zK) (Q : zQ) : zK := i_il 1 <| i_call 1 T_X12_isBook <| i_if (fun x => x = 0) (fun x => ¬ x = 0) (i_jmp X 1 [true]) <| i_il 2 <| i_i2l <| i_lc 0 <| i_lc 65535 <| i_call 3 T_X12_in <| i_if (fun x => ¬ x = 0) (fun x => x = 0) (i_al 0 <| i_gf 12 0 <| i_ic 2 <| i_il 1 <| i_ib (fun x y => x + y) <| i_ia <| i_is 3 <| i_al 0 <| i_gf 12 0 <| i_ic 2 <| i_il 1 <| i_ib (fun x y => x + y) <| i_il 2 <| i_iast <| i_il 3 <| i_ir Q) <| i_jmp X 1 [true]
def k_X12_book_1 (X : Nat → zK) (Q : zQ) : zK := i_al 0 <| i_ic (-2) <| i_cv 12 2 T_X12_bad <| i_ir Q
def F_X12_book (Q : zQ) (X : Nat → zK) : Nat → zK
  | 0 => k_X12_book_0 X Q
  | 1 => k_X12_book_1 X Q
  | _ => fun _ _ _ => False
def T_X12_book : zTy := fun vs σ Q => zok 4 vs = true ∧ zFix (F_X12_book Q) 0 (zlc vs) [] σ
def k_X12_layFamily_0 (X : Nat → zK) (Q : zQ) : zK := i_ic 6 <| i_ic 6 <| i_al 0 <| i_ic 0 <| i_ia <| i_ib (fun x y => x * y) <| i_ib (fun x y => x + y) <| i_is 6 <| i_al 0 <| i_il 6 <| i_ic 0 <| i_ib (fun x y => x + y) <| i_il 1 <| i_iast <| i_al 0 <| i_il 6 <| i_ic 1 <| i_ib (fun x y => x + y) <| i_il 2 <| i_iast <| i_al 0 <| i_il 6 <| i_ic 2 <| i_ib (fun x y => x + y) <| i_il 3 <| i_iast <| i_al 0 <| i_il 6 <| i_ic 3 <| i_ib (fun x y => x + y) <| i_il 4 <| i_iast <| i_al 0 <| i_il 6 <| i_ic 4 <| i_ib (fun x y => x + y) <| i_il 5 <| i_iast <| i_al 0 <| i_il 6 <| i_ic 5 <| i_ib (fun x y => x + y) <| i_ic 0 <| i_iast <| i_al 0 <| i_ic 0 <| i_dup2 <| i_ia <| i_ic 1 <| i_ib (fun x y => x + y) <| i_iast <| i_vr Q
def F_X12_layFamily (Q : zQ) (X : Nat → zK) : Nat → zK
  | 0 => k_X12_layFamily_0 X Q
  | _ => fun _ _ _ => False
def T_X12_layFamily : zTy := fun vs σ Q => zok 7 vs = true ∧ zFix (F_X12_layFamily Q) 0 (zlc vs) [] σ
def k_X12_family_0 (X : Nat → zK) (Q : zQ) : zK := i_il 1 <| i_i2l <| i_lc 0 <| i_lc 5 <| i_call 3 T_X12_in <| i_if (fun x => x = 0) (fun x => ¬ x = 0) (i_jmp X 1 [true]) <| i_il 2 <| i_call 1 T_X12_isBook <| i_if (fun x => x = 0) (fun x => ¬ x = 0) (i_jmp X 1 [true]) <| i_il 3 <| i_i2l <| i_lc 1 <| i_lc 9 <| i_call 3 T_X12_in <| i_if (fun x => x = 0) (fun x => ¬ x = 0) (i_jmp X 1 [true]) <| i_il 4 <| i_i2l <| i_lc 1 <| i_lc 20 <| i_call 3 T_X12_in <| i_if (fun x => x = 0) (fun x => ¬ x = 0) (i_jmp X 1 [true]) <| i_il 5 <| i_il 2 <| i_call 2 T_X12_isPewOf <| i_if (fun x => ¬ x = 0) (fun x => x = 0) (i_al 0 <| i_gf 12 0 <| i_il 5 <| i_call 2 T_X12_isTaken <| i_if (fun x => x = 0) (fun x => ¬ x = 0) (i_al 0 <| i_cv 12 1 T_X12_many <| i_ic 7 <| i_cmp (fun x y => ¬ x = y) (fun x y => x = y) (i_al 0 <| i_gf 12 0 <| i_il 1 <| i_il 2 <| i_il 3 <| i_il 4 <| i_il 5 <| i_call 6 T_X12_layFamily <| i_al 0 <| i_gf 12 0 <| i_ic 5 <| i_ic 0 <| i_iast <| i_al 0 <| i_cv 12 1 T_X12_many <| i_ic 1 <| i_ib (fun x y => x - y) <| i_ir Q) <| i_al 0 <| i_cv 12 1 T_X12_full <| i_ir Q) <| i_al 0 <| i_cv 12 1 T_X12_no <| i_ir Q) <| i_jmp X 1 [true]
def k_X12_family_1 (X : Nat → zK) (Q : zQ) : zK := i_al 0 <| i_ic (-2) <| i_cv 12 2 T_X12_bad <| i_ir Q
def F_X12_family (Q : zQ) (X : Nat → zK) : Nat → zK
  | 0 => k_X12_family_0 X Q
  | 1 => k_X12_family_1 X Q
  | _ => fun _ _ _ => False
def T_X12_family : zTy := fun vs σ Q => zok 6 vs = true ∧ zFix (F_X12_family Q) 0 (zlc vs) [] σ
def k_X12_layHand_0 (X : Nat → zK) (Q : zQ) : zK := i_al 0 <| i_ic 0 <| i_pf 12 9 <| i_ic 0 <| i_is 1 <| i_jmp X 1 [true, true]
def k_X12_layHand_1 (X : Nat → zK) (Q : zQ) : zK := i_il 1 <| i_al 0 <| i_cv 12 1 T_X12_many <| i_cmp (fun x y => y ≤ x) (fun x y => ¬ y ≤ x) (i_vr Q) <| i_al 0 <| i_gf 12 6 <| i_il 1 <| i_al 0 <| i_il 1 <| i_ic 0 <| i_cv 12 3 T_X12_get <| i_iast <| i_al 0 <| i_gf 12 7 <| i_il 1 <| i_al 0 <| i_il 1 <| i_ic 1 <| i_cv 12 3 T_X12_get <| i_iast <| i_al 0 <| i_gf 12 8 <| i_il 1 <| i_al 0 <| i_il 1 <| i_ic 4 <| i_cv 12 3 T_X12_get <| i_iast <| i_al 0 <| i_dup <| i_gf 12 9 <| i_al 0 <| i_il 1 <| i_ic 5 <| i_cv 12 3 T_X12_get <| i_il 1 <| i_ib (fun x y => x <<< (y &&& 31)) <| i_ib (fun x y => x ||| y) <| i_pf 12 9 <| i_inc 1 1 <| i_jmp X 1 [true, true]
def F_X12_layHand (Q : zQ) (X : Nat → zK) : Nat → zK
  | 0 => k_X12_layHand_0 X Q
  | 1 => k_X12_layHand_1 X Q
  | _ => fun _ _ _ => False
def T_X12_layHand : zTy := fun vs σ Q => zok 2 vs = true ∧ zFix (F_X12_layHand Q) 0 (zlc vs) [] σ
def k_X12_kneels_0 (X : Nat → zK) (Q : zQ) : zK := i_al 0 <| i_gf 12 0 <| i_ic 2 <| i_al 0 <| i_gf 12 7 <| i_il 1 <| i_ia <| i_ib (fun x y => x + y) <| i_ia <| i_il 2 <| i_call 2 T_X12_has <| i_is 3 <| i_al 0 <| i_gf 12 0 <| i_ic 3 <| i_al 0 <| i_gf 12 7 <| i_il 1 <| i_ia <| i_ib (fun x y => x - y) <| i_ia <| i_il 2 <| i_call 2 T_X12_has <| i_is 4 <| i_al 0 <| i_gf 12 6 <| i_il 1 <| i_ia <| i_ic 2 <| i_cmp (fun x y => ¬ x = y) (fun x y => x = y) (i_al 0 <| i_gf 12 6 <| i_il 1 <| i_ia <| i_ic 5 <| i_cmp (fun x y => ¬ x = y) (fun x y => x = y) (i_al 0 <| i_gf 12 6 <| i_il 1 <| i_ia <| i_ic 3 <| i_cmp (fun x y => x = y) (fun x y => ¬ x = y) (i_ic 0 <| i_zr Q) <| i_il 3 <| i_if (fun x => x = 0) (fun x => ¬ x = 0) (i_ic 0 <| i_zr Q) <| i_ic 1 <| i_zr Q) <| i_il 3 <| i_if (fun x => x = 0) (fun x => ¬ x = 0) (i_jmp X 2 []) <| i_il 4 <| i_if (fun x => x = 0) (fun x => ¬ x = 0) (i_jmp X 2 []) <| i_ic 1 <| i_zr Q) <| i_il 3 <| i_if (fun x => ¬ x = 0) (fun x => x = 0) (i_jmp X 1 []) <| i_il 4 <| i_if (fun x => x = 0) (fun x => ¬ x = 0) (i_ic 0 <| i_zr Q) <| i_jmp X 1 []
def k_X12_kneels_1 (X : Nat → zK) (Q : zQ) : zK := i_ic 1 <| i_zr Q
def k_X12_kneels_2 (X : Nat → zK) (Q : zQ) : zK := i_ic 0 <| i_zr Q
def F_X12_kneels (Q : zQ) (X : Nat → zK) : Nat → zK
  | 0 => k_X12_kneels_0 X Q
  | 1 => k_X12_kneels_1 X Q
  | 2 => k_X12_kneels_2 X Q
  | _ => fun _ _ _ => False
def T_X12_kneels : zTy := fun vs σ Q => zok 5 vs = true ∧ zFix (F_X12_kneels Q) 0 (zlc vs) [] σ
def k_X12_high_0 (X : Nat → zK) (Q : zQ) : zK := i_al 0 <| i_il 1 <| i_il 2 <| i_cv 12 3 T_X12_kneels <| i_if (fun x => x = 0) (fun x => ¬ x = 0) (i_al 0 <| i_il 1 <| i_ic 2 <| i_cv 12 3 T_X12_get <| i_jmp X 1 [true, true]) <| i_al 0 <| i_il 1 <| i_ic 2 <| i_cv 12 3 T_X12_get <| i_ic 2 <| i_idiv <| i_jmp X 1 [true, true]
def k_X12_high_1 (X : Nat → zK) (Q : zQ) : zK := i_is 3 <| i_il 3 <| i_ic 2 <| i_cmp (fun x y => x ≤ y) (fun x y => ¬ x ≤ y) (i_ic 0 <| i_jmp X 2 [true, true, false, true]) <| i_il 3 <| i_ic 2 <| i_ib (fun x y => x - y) <| i_jmp X 2 [true, true, false, true]
def k_X12_high_2 (X : Nat → zK) (Q : zQ) : zK := i_is 4 <| i_al 0 <| i_gf 12 6 <| i_il 1 <| i_ia <| i_ic 3 <| i_cmp (fun x y => ¬ x = y) (fun x y => x = y) (i_al 0 <| i_gf 12 6 <| i_il 1 <| i_ia <| i_ic 4 <| i_cmp (fun x y => ¬ x = y) (fun x y => x = y) (i_il 3 <| i_ir Q) <| i_il 4 <| i_ir Q) <| i_il 3 <| i_ic 1 <| i_ib (fun x y => x + y) <| i_ir Q
def F_X12_high (Q : zQ) (X : Nat → zK) : Nat → zK
  | 0 => k_X12_high_0 X Q
  | 1 => k_X12_high_1 X Q
  | 2 => k_X12_high_2 X Q
  | _ => fun _ _ _ => False
def T_X12_high : zTy := fun vs σ Q => zok 5 vs = true ∧ zFix (F_X12_high Q) 0 (zlc vs) [] σ
def k_X12_voices_0 (X : Nat → zK) (Q : zQ) : zK := i_al 0 <| i_gf 12 9 <| i_il 1 <| i_call 2 T_X12_has <| i_if (fun x => ¬ x = 0) (fun x => x = 0) (i_jmp X 1 [true, true]) <| i_al 0 <| i_il 1 <| i_il 2 <| i_cv 12 3 T_X12_kneels <| i_if (fun x => x = 0) (fun x => ¬ x = 0) (i_al 0 <| i_il 1 <| i_ic 3 <| i_cv 12 3 T_X12_get <| i_jmp X 2 [true, true]) <| i_jmp X 1 [true, true]
def k_X12_voices_1 (X : Nat → zK) (Q : zQ) : zK := i_ic 0 <| i_jmp X 2 [true, true]
def k_X12_voices_2 (X : Nat → zK) (Q : zQ) : zK := i_is 3 <| i_il 3 <| i_if (fun x => x ≤ 0) (fun x => ¬ x ≤ 0) (i_ic 0 <| i_jmp X 3 [true, true, false, true]) <| i_il 3 <| i_ic 1 <| i_ib (fun x y => x - y) <| i_jmp X 3 [true, true, false, true]
def k_X12_voices_3 (X : Nat → zK) (Q : zQ) : zK := i_is 4 <| i_al 0 <| i_gf 12 6 <| i_il 1 <| i_ia <| i_ic 1 <| i_cmp (fun x y => x = y) (fun x y => ¬ x = y) (i_jmp X 4 [false, false, false, true]) <| i_al 0 <| i_gf 12 6 <| i_il 1 <| i_ia <| i_ic 4 <| i_cmp (fun x y => ¬ x = y) (fun x y => x = y) (i_al 0 <| i_gf 12 6 <| i_il 1 <| i_ia <| i_ic 5 <| i_cmp (fun x y => ¬ x = y) (fun x y => x = y) (i_il 3 <| i_ir Q) <| i_il 4 <| i_ir Q) <| i_jmp X 4 [false, false, false, true]
def k_X12_voices_4 (X : Nat → zK) (Q : zQ) : zK := i_il 3 <| i_ic 2 <| i_idiv <| i_ir Q
def F_X12_voices (Q : zQ) (X : Nat → zK) : Nat → zK
  | 0 => k_X12_voices_0 X Q
  | 1 => k_X12_voices_1 X Q
  | 2 => k_X12_voices_2 X Q
  | 3 => k_X12_voices_3 X Q
  | 4 => k_X12_voices_4 X Q
  | _ => fun _ _ _ => False
def T_X12_voices : zTy := fun vs σ Q => zok 5 vs = true ∧ zFix (F_X12_voices Q) 0 (zlc vs) [] σ
def k_X12_sees_0 (X : Nat → zK) (Q : zQ) : zK := i_ic 1 <| i_is 3 <| i_ic 0 <| i_is 4 <| i_jmp X 1 [true, true, true, true, true]
def k_X12_sees_1 (X : Nat → zK) (Q : zQ) : zK := i_il 4 <| i_al 0 <| i_cv 12 1 T_X12_many <| i_cmp (fun x y => y ≤ x) (fun x y => ¬ y ≤ x) (i_il 3 <| i_zr Q) <| i_il 3 <| i_if (fun x => x = 0) (fun x => ¬ x = 0) (i_jmp X 3 [true, true, true, false, true]) <| i_al 0 <| i_gf 12 8 <| i_il 4 <| i_ia <| i_al 0 <| i_gf 12 8 <| i_il 1 <| i_ia <| i_cmp (fun x y => y ≤ x) (fun x y => ¬ y ≤ x) (i_jmp X 2 [true, true, true, false, true]) <| i_al 0 <| i_il 4 <| i_il 2 <| i_cv 12 3 T_X12_high <| i_al 0 <| i_il 1 <| i_il 2 <| i_cv 12 3 T_X12_high <| i_cmp (fun x y => y ≤ x) (fun x y => ¬ y ≤ x) (i_jmp X 3 [true, true, true, false, true]) <| i_jmp X 2 [true, true, true, false, true]
def k_X12_sees_2 (X : Nat → zK) (Q : zQ) : zK := i_ic 1 <| i_jmp X 4 [true, true, true, false, true]
def k_X12_sees_3 (X : Nat → zK) (Q : zQ) : zK := i_ic 0 <| i_jmp X 4 [true, true, true, false, true]
def k_X12_sees_4 (X : Nat → zK) (Q : zQ) : zK := i_is 3 <| i_inc 4 1 <| i_jmp X 1 [true, true, true, true, true]
def F_X12_sees (Q : zQ) (X : Nat → zK) : Nat → zK
  | 0 => k_X12_sees_0 X Q
  | 1 => k_X12_sees_1 X Q
  | 2 => k_X12_sees_2 X Q
  | 3 => k_X12_sees_3 X Q
  | 4 => k_X12_sees_4 X Q
  | _ => fun _ _ _ => False
def T_X12_sees : zTy := fun vs σ Q => zok 5 vs = true ∧ zFix (F_X12_sees Q) 0 (zlc vs) [] σ
def k_X12_loudOf_0 (X : Nat → zK) (Q : zQ) : zK := i_ic 0 <| i_is 3 <| i_ic 0 <| i_is 4 <| i_jmp X 1 [true, true, true, true, true]
def k_X12_loudOf_1 (X : Nat → zK) (Q : zQ) : zK := i_il 4 <| i_al 0 <| i_cv 12 1 T_X12_many <| i_cmp (fun x y => y ≤ x) (fun x y => ¬ y ≤ x) (i_il 3 <| i_ir Q) <| i_il 3 <| i_al 0 <| i_gf 12 7 <| i_il 4 <| i_ia <| i_il 2 <| i_cmp (fun x y => ¬ x = y) (fun x y => x = y) (i_ic 0 <| i_jmp X 2 [true, true, true, false, true]) <| i_al 0 <| i_il 4 <| i_il 1 <| i_cv 12 3 T_X12_voices <| i_jmp X 2 [true, true, true, false, true]
def k_X12_loudOf_2 (X : Nat → zK) (Q : zQ) : zK := i_ib (fun x y => x + y) <| i_is 3 <| i_inc 4 1 <| i_jmp X 1 [true, true, true, true, true]
def F_X12_loudOf (Q : zQ) (X : Nat → zK) : Nat → zK
  | 0 => k_X12_loudOf_0 X Q
  | 1 => k_X12_loudOf_1 X Q
  | 2 => k_X12_loudOf_2 X Q
  | _ => fun _ _ _ => False
def T_X12_loudOf : zTy := fun vs σ Q => zok 5 vs = true ∧ zFix (F_X12_loudOf Q) 0 (zlc vs) [] σ
def k_X12_isPeace_0 (X : Nat → zK) (Q : zQ) : zK := i_al 0 <| i_il 1 <| i_ic 0 <| i_cv 12 3 T_X12_loudOf <| i_al 0 <| i_il 1 <| i_ic 1 <| i_cv 12 3 T_X12_loudOf <| i_ib (fun x y => x - y) <| i_is 2 <| i_il 2 <| i_i2l <| i_al 0 <| i_gf 12 0 <| i_ic 1 <| i_ia <| i_iu (fun x => -x) <| i_i2l <| i_al 0 <| i_gf 12 0 <| i_ic 1 <| i_ia <| i_i2l <| i_call 3 T_X12_in <| i_zr Q
def F_X12_isPeace (Q : zQ) (X : Nat → zK) : Nat → zK
  | 0 => k_X12_isPeace_0 X Q
  | _ => fun _ _ _ => False
def T_X12_isPeace : zTy := fun vs σ Q => zok 3 vs = true ∧ zFix (F_X12_isPeace Q) 0 (zlc vs) [] σ
def k_X12_peaces_0 (X : Nat → zK) (Q : zQ) : zK := i_ic 0 <| i_is 1 <| i_ic 0 <| i_is 2 <| i_jmp X 1 [true, true, true]
def k_X12_peaces_1 (X : Nat → zK) (Q : zQ) : zK := i_il 2 <| i_ic 16 <| i_cmp (fun x y => y ≤ x) (fun x y => ¬ y ≤ x) (i_il 1 <| i_ir Q) <| i_il 1 <| i_al 0 <| i_il 2 <| i_cv 12 2 T_X12_isPeace <| i_if (fun x => x = 0) (fun x => ¬ x = 0) (i_ic 0 <| i_jmp X 2 [true, false, true]) <| i_ic 1 <| i_jmp X 2 [true, false, true]
def k_X12_peaces_2 (X : Nat → zK) (Q : zQ) : zK := i_ib (fun x y => x + y) <| i_is 1 <| i_inc 2 1 <| i_jmp X 1 [true, true, true]
def F_X12_peaces (Q : zQ) (X : Nat → zK) : Nat → zK
  | 0 => k_X12_peaces_0 X Q
  | 1 => k_X12_peaces_1 X Q
  | 2 => k_X12_peaces_2 X Q
  | _ => fun _ _ _ => False
def T_X12_peaces : zTy := fun vs σ Q => zok 3 vs = true ∧ zFix (F_X12_peaces Q) 0 (zlc vs) [] σ
def k_X12_keep_0 (X : Nat → zK) (Q : zQ) : zK := i_al 0 <| i_gf 12 0 <| i_ic 5 <| i_ia <| i_ic 8 <| i_cmp (fun x y => ¬ x = y) (fun x y => x = y) (i_jmp X 2 [true]) <| i_ic 0 <| i_is 1 <| i_jmp X 1 [true, true]
def k_X12_keep_1 (X : Nat → zK) (Q : zQ) : zK := i_il 1 <| i_ic 98 <| i_cmp (fun x y => y ≤ x) (fun x y => ¬ y ≤ x) (i_al 0 <| i_gf 12 0 <| i_ic 5 <| i_ic 7 <| i_iast <| i_jmp X 2 [true]) <| i_al 0 <| i_gf 12 0 <| i_ic 66 <| i_il 1 <| i_ib (fun x y => x + y) <| i_al 0 <| i_gf 12 0 <| i_ic 80 <| i_il 1 <| i_ib (fun x y => x + y) <| i_ia <| i_iast <| i_inc 1 1 <| i_jmp X 1 [true, true]
def k_X12_keep_2 (X : Nat → zK) (Q : zQ) : zK := i_ic 66 <| i_ic 14 <| i_al 0 <| i_gf 12 0 <| i_ic 5 <| i_ia <| i_ib (fun x y => x * y) <| i_ib (fun x y => x + y) <| i_is 1 <| i_ic 0 <| i_is 2 <| i_jmp X 3 [true, true, true]
def k_X12_keep_3 (X : Nat → zK) (Q : zQ) : zK := i_il 2 <| i_ic 7 <| i_cmp (fun x y => y ≤ x) (fun x y => ¬ y ≤ x) (i_al 0 <| i_gf 12 0 <| i_ic 5 <| i_dup2 <| i_ia <| i_ic 1 <| i_ib (fun x y => x + y) <| i_iast <| i_vr Q) <| i_al 0 <| i_gf 12 0 <| i_il 1 <| i_il 2 <| i_ib (fun x y => x + y) <| i_al 0 <| i_il 2 <| i_ic 4 <| i_cv 12 3 T_X12_get <| i_iast <| i_al 0 <| i_gf 12 0 <| i_il 1 <| i_ic 7 <| i_ib (fun x y => x + y) <| i_il 2 <| i_ib (fun x y => x + y) <| i_al 0 <| i_il 2 <| i_ic 5 <| i_cv 12 3 T_X12_get <| i_iast <| i_inc 2 1 <| i_jmp X 3 [true, true, true]
def F_X12_keep (Q : zQ) (X : Nat → zK) : Nat → zK
  | 0 => k_X12_keep_0 X Q
  | 1 => k_X12_keep_1 X Q
  | 2 => k_X12_keep_2 X Q
  | 3 => k_X12_keep_3 X Q
  | _ => fun _ _ _ => False
def T_X12_keep : zTy := fun vs σ Q => zok 3 vs = true ∧ zFix (F_X12_keep Q) 0 (zlc vs) [] σ
def k_X12_move_0 (X : Nat → zK) (Q : zQ) : zK := i_al 0 <| i_il 1 <| i_cv 12 2 T_X12_isFamily <| i_if (fun x => x = 0) (fun x => ¬ x = 0) (i_jmp X 1 [true]) <| i_il 2 <| i_al 0 <| i_il 1 <| i_ic 1 <| i_cv 12 3 T_X12_get <| i_call 2 T_X12_isPewOf <| i_if (fun x => ¬ x = 0) (fun x => x = 0) (i_al 0 <| i_gf 12 0 <| i_il 2 <| i_call 2 T_X12_isTaken <| i_if (fun x => x = 0) (fun x => ¬ x = 0) (i_al 0 <| i_il 1 <| i_ic 4 <| i_cv 12 3 T_X12_get <| i_is 3 <| i_al 0 <| i_cv 12 1 T_X12_keep <| i_al 0 <| i_gf 12 0 <| i_ic 6 <| i_ic 6 <| i_il 1 <| i_ib (fun x y => x * y) <| i_ib (fun x y => x + y) <| i_ic 4 <| i_ib (fun x y => x + y) <| i_il 2 <| i_iast <| i_il 3 <| i_ir Q) <| i_al 0 <| i_cv 12 1 T_X12_no <| i_ir Q) <| i_jmp X 1 [true]
def k_X12_move_1 (X : Nat → zK) (Q : zQ) : zK := i_al 0 <| i_ic (-2) <| i_cv 12 2 T_X12_bad <| i_ir Q
def F_X12_move (Q : zQ) (X : Nat → zK) : Nat → zK
  | 0 => k_X12_move_0 X Q
  | 1 => k_X12_move_1 X Q
  | _ => fun _ _ _ => False
def T_X12_move : zTy := fun vs σ Q => zok 4 vs = true ∧ zFix (F_X12_move Q) 0 (zlc vs) [] σ
def k_X12_cold_0 (X : Nat → zK) (Q : zQ) : zK := i_al 0 <| i_il 1 <| i_cv 12 2 T_X12_isFamily <| i_if (fun x => x = 0) (fun x => ¬ x = 0) (i_jmp X 1 [true]) <| i_il 2 <| i_i2l <| i_lc 0 <| i_lc 1 <| i_call 3 T_X12_in <| i_if (fun x => ¬ x = 0) (fun x => x = 0) (i_al 0 <| i_il 1 <| i_ic 5 <| i_cv 12 3 T_X12_get <| i_is 3 <| i_al 0 <| i_cv 12 1 T_X12_keep <| i_al 0 <| i_gf 12 0 <| i_ic 6 <| i_ic 6 <| i_il 1 <| i_ib (fun x y => x * y) <| i_ib (fun x y => x + y) <| i_ic 5 <| i_ib (fun x y => x + y) <| i_il 2 <| i_iast <| i_il 3 <| i_ir Q) <| i_jmp X 1 [true]
def k_X12_cold_1 (X : Nat → zK) (Q : zQ) : zK := i_al 0 <| i_ic (-2) <| i_cv 12 2 T_X12_bad <| i_ir Q
def F_X12_cold (Q : zQ) (X : Nat → zK) : Nat → zK
  | 0 => k_X12_cold_0 X Q
  | 1 => k_X12_cold_1 X Q
  | _ => fun _ _ _ => False
def T_X12_cold : zTy := fun vs σ Q => zok 4 vs = true ∧ zFix (F_X12_cold Q) 0 (zlc vs) [] σ
def k_X12_manyColds_0 (X : Nat → zK) (Q : zQ) : zK := i_ic 0 <| i_is 1 <| i_ic 0 <| i_is 2 <| i_jmp X 1 [true, true, true]
def k_X12_manyColds_1 (X : Nat → zK) (Q : zQ) : zK := i_il 2 <| i_al 0 <| i_cv 12 1 T_X12_many <| i_cmp (fun x y => y ≤ x) (fun x y => ¬ y ≤ x) (i_il 1 <| i_ir Q) <| i_il 1 <| i_al 0 <| i_il 2 <| i_ic 5 <| i_cv 12 3 T_X12_get <| i_ib (fun x y => x + y) <| i_is 1 <| i_inc 2 1 <| i_jmp X 1 [true, true, true]
def F_X12_manyColds (Q : zQ) (X : Nat → zK) : Nat → zK
  | 0 => k_X12_manyColds_0 X Q
  | 1 => k_X12_manyColds_1 X Q
  | _ => fun _ _ _ => False
def T_X12_manyColds : zTy := fun vs σ Q => zok 3 vs = true ∧ zFix (F_X12_manyColds Q) 0 (zlc vs) [] σ
def k_X12_undo_0 (X : Nat → zK) (Q : zQ) : zK := i_al 0 <| i_gf 12 0 <| i_ic 5 <| i_ia <| i_if (fun x => ¬ x = 0) (fun x => x = 0) (i_al 0 <| i_gf 12 0 <| i_ic 5 <| i_dup2 <| i_ia <| i_ic 1 <| i_ib (fun x y => x - y) <| i_iast <| i_ic 66 <| i_ic 14 <| i_al 0 <| i_gf 12 0 <| i_ic 5 <| i_ia <| i_ib (fun x y => x * y) <| i_ib (fun x y => x + y) <| i_is 1 <| i_ic 0 <| i_is 2 <| i_jmp X 1 [true, true, true]) <| i_al 0 <| i_cv 12 1 T_X12_no <| i_ir Q
def k_X12_undo_1 (X : Nat → zK) (Q : zQ) : zK := i_il 2 <| i_ic 7 <| i_cmp (fun x y => y ≤ x) (fun x y => ¬ y ≤ x) (i_al 0 <| i_cv 12 1 T_X12_manyColds <| i_ir Q) <| i_al 0 <| i_gf 12 0 <| i_ic 6 <| i_ic 6 <| i_il 2 <| i_ib (fun x y => x * y) <| i_ib (fun x y => x + y) <| i_ic 4 <| i_ib (fun x y => x + y) <| i_al 0 <| i_gf 12 0 <| i_il 1 <| i_il 2 <| i_ib (fun x y => x + y) <| i_ia <| i_iast <| i_al 0 <| i_gf 12 0 <| i_ic 6 <| i_ic 6 <| i_il 2 <| i_ib (fun x y => x * y) <| i_ib (fun x y => x + y) <| i_ic 5 <| i_ib (fun x y => x + y) <| i_al 0 <| i_gf 12 0 <| i_il 1 <| i_ic 7 <| i_ib (fun x y => x + y) <| i_il 2 <| i_ib (fun x y => x + y) <| i_ia <| i_iast <| i_inc 2 1 <| i_jmp X 1 [true, true, true]
def F_X12_undo (Q : zQ) (X : Nat → zK) : Nat → zK
  | 0 => k_X12_undo_0 X Q
  | 1 => k_X12_undo_1 X Q
  | _ => fun _ _ _ => False
def T_X12_undo : zTy := fun vs σ Q => zok 3 vs = true ∧ zFix (F_X12_undo Q) 0 (zlc vs) [] σ
def k_X12_of_0 (X : Nat → zK) (Q : zQ) : zK := i_al 0 <| i_il 1 <| i_cv 12 2 T_X12_isFamily <| i_if (fun x => x = 0) (fun x => ¬ x = 0) (i_jmp X 1 [true]) <| i_il 2 <| i_i2l <| i_lc 0 <| i_lc 5 <| i_call 3 T_X12_in <| i_if (fun x => x = 0) (fun x => ¬ x = 0) (i_jmp X 1 [true]) <| i_al 0 <| i_il 1 <| i_il 2 <| i_cv 12 3 T_X12_get <| i_ir Q
def k_X12_of_1 (X : Nat → zK) (Q : zQ) : zK := i_al 0 <| i_ic (-2) <| i_cv 12 2 T_X12_bad <| i_ir Q
def F_X12_of (Q : zQ) (X : Nat → zK) : Nat → zK
  | 0 => k_X12_of_0 X Q
  | 1 => k_X12_of_1 X Q
  | _ => fun _ _ _ => False
def T_X12_of : zTy := fun vs σ Q => zok 3 vs = true ∧ zFix (F_X12_of Q) 0 (zlc vs) [] σ
def k_X12_at_0 (X : Nat → zK) (Q : zQ) : zK := i_al 0 <| i_il 1 <| i_cv 12 2 T_X12_isFamily <| i_if (fun x => x = 0) (fun x => ¬ x = 0) (i_jmp X 1 [true]) <| i_il 2 <| i_call 1 T_X12_isWord <| i_if (fun x => x = 0) (fun x => ¬ x = 0) (i_jmp X 1 [true]) <| i_il 3 <| i_i2l <| i_lc 0 <| i_lc 3 <| i_call 3 T_X12_in <| i_if (fun x => ¬ x = 0) (fun x => x = 0) (i_al 0 <| i_cv 12 1 T_X12_layHand <| i_il 3 <| i_sw [(0, i_al 0 <| i_il 1 <| i_il 2 <| i_cv 12 3 T_X12_kneels <| i_if (fun x => x = 0) (fun x => ¬ x = 0) (i_ic 0 <| i_ir Q) <| i_ic 1 <| i_ir Q), (1, i_al 0 <| i_il 1 <| i_il 2 <| i_cv 12 3 T_X12_high <| i_ir Q), (2, i_al 0 <| i_il 1 <| i_il 2 <| i_cv 12 3 T_X12_voices <| i_ir Q)] (i_al 0 <| i_il 1 <| i_il 2 <| i_cv 12 3 T_X12_sees <| i_if (fun x => x = 0) (fun x => ¬ x = 0) (i_ic 0 <| i_ir Q) <| i_ic 1 <| i_ir Q)) <| i_jmp X 1 [true]
def k_X12_at_1 (X : Nat → zK) (Q : zQ) : zK := i_al 0 <| i_ic (-2) <| i_cv 12 2 T_X12_bad <| i_ir Q
def F_X12_at (Q : zQ) (X : Nat → zK) : Nat → zK
  | 0 => k_X12_at_0 X Q
  | 1 => k_X12_at_1 X Q
  | _ => fun _ _ _ => False
def T_X12_at : zTy := fun vs σ Q => zok 4 vs = true ∧ zFix (F_X12_at Q) 0 (zlc vs) [] σ
def k_X12_up_0 (X : Nat → zK) (Q : zQ) : zK := i_il 1 <| i_call 1 T_X12_isWord <| i_if (fun x => ¬ x = 0) (fun x => x = 0) (i_ic 0 <| i_is 2 <| i_al 0 <| i_cv 12 1 T_X12_layHand <| i_ic 0 <| i_is 3 <| i_jmp X 1 [true, true, true, true]) <| i_al 0 <| i_ic (-2) <| i_cv 12 2 T_X12_bad <| i_ir Q
def k_X12_up_1 (X : Nat → zK) (Q : zQ) : zK := i_il 3 <| i_al 0 <| i_cv 12 1 T_X12_many <| i_cmp (fun x y => y ≤ x) (fun x y => ¬ y ≤ x) (i_il 2 <| i_ir Q) <| i_il 2 <| i_al 0 <| i_il 3 <| i_il 1 <| i_cv 12 3 T_X12_kneels <| i_if (fun x => x = 0) (fun x => ¬ x = 0) (i_ic 1 <| i_il 3 <| i_ib (fun x y => x <<< (y &&& 31)) <| i_jmp X 2 [true, true, false, true]) <| i_ic 0 <| i_jmp X 2 [true, true, false, true]
def k_X12_up_2 (X : Nat → zK) (Q : zQ) : zK := i_ib (fun x y => x ||| y) <| i_is 2 <| i_inc 3 1 <| i_jmp X 1 [true, true, true, true]
def F_X12_up (Q : zQ) (X : Nat → zK) : Nat → zK
  | 0 => k_X12_up_0 X Q
  | 1 => k_X12_up_1 X Q
  | 2 => k_X12_up_2 X Q
  | _ => fun _ _ _ => False
def T_X12_up : zTy := fun vs σ Q => zok 4 vs = true ∧ zFix (F_X12_up Q) 0 (zlc vs) [] σ
def k_X12_seers_0 (X : Nat → zK) (Q : zQ) : zK := i_il 1 <| i_call 1 T_X12_isWord <| i_if (fun x => ¬ x = 0) (fun x => x = 0) (i_ic 0 <| i_is 2 <| i_al 0 <| i_cv 12 1 T_X12_layHand <| i_ic 0 <| i_is 3 <| i_jmp X 1 [true, true, true, true]) <| i_al 0 <| i_ic (-2) <| i_cv 12 2 T_X12_bad <| i_ir Q
def k_X12_seers_1 (X : Nat → zK) (Q : zQ) : zK := i_il 3 <| i_al 0 <| i_cv 12 1 T_X12_many <| i_cmp (fun x y => y ≤ x) (fun x y => ¬ y ≤ x) (i_il 2 <| i_ir Q) <| i_il 2 <| i_al 0 <| i_il 3 <| i_il 1 <| i_cv 12 3 T_X12_sees <| i_if (fun x => x = 0) (fun x => ¬ x = 0) (i_ic 0 <| i_jmp X 2 [true, true, false, true]) <| i_ic 1 <| i_il 3 <| i_ib (fun x y => x <<< (y &&& 31)) <| i_jmp X 2 [true, true, false, true]
def k_X12_seers_2 (X : Nat → zK) (Q : zQ) : zK := i_ib (fun x y => x ||| y) <| i_is 2 <| i_inc 3 1 <| i_jmp X 1 [true, true, true, true]
def F_X12_seers (Q : zQ) (X : Nat → zK) : Nat → zK
  | 0 => k_X12_seers_0 X Q
  | 1 => k_X12_seers_1 X Q
  | 2 => k_X12_seers_2 X Q
  | _ => fun _ _ _ => False
def T_X12_seers : zTy := fun vs σ Q => zok 4 vs = true ∧ zFix (F_X12_seers Q) 0 (zlc vs) [] σ
def k_X12_loud_0 (X : Nat → zK) (Q : zQ) : zK := i_il 1 <| i_call 1 T_X12_isWord <| i_if (fun x => x = 0) (fun x => ¬ x = 0) (i_jmp X 1 [true]) <| i_il 2 <| i_call 1 T_X12_isBook <| i_if (fun x => ¬ x = 0) (fun x => x = 0) (i_al 0 <| i_cv 12 1 T_X12_layHand <| i_al 0 <| i_il 1 <| i_il 2 <| i_cv 12 3 T_X12_loudOf <| i_ir Q) <| i_jmp X 1 [true]
def k_X12_loud_1 (X : Nat → zK) (Q : zQ) : zK := i_al 0 <| i_ic (-2) <| i_cv 12 2 T_X12_bad <| i_ir Q
def F_X12_loud (Q : zQ) (X : Nat → zK) : Nat → zK
  | 0 => k_X12_loud_0 X Q
  | 1 => k_X12_loud_1 X Q
  | _ => fun _ _ _ => False
def T_X12_loud : zTy := fun vs σ Q => zok 3 vs = true ∧ zFix (F_X12_loud Q) 0 (zlc vs) [] σ
def k_X12_breach_0 (X : Nat → zK) (Q : zQ) : zK := i_il 1 <| i_call 1 T_X12_isWord <| i_if (fun x => ¬ x = 0) (fun x => x = 0) (i_al 0 <| i_cv 12 1 T_X12_layHand <| i_il 1 <| i_is 2 <| i_jmp X 1 [true, false, true]) <| i_al 0 <| i_ic (-2) <| i_cv 12 2 T_X12_bad <| i_ir Q
def k_X12_breach_1 (X : Nat → zK) (Q : zQ) : zK := i_il 2 <| i_ic 16 <| i_cmp (fun x y => y ≤ x) (fun x y => ¬ y ≤ x) (i_ic (-1) <| i_ir Q) <| i_al 0 <| i_il 2 <| i_cv 12 2 T_X12_isPeace <| i_if (fun x => ¬ x = 0) (fun x => x = 0) (i_inc 2 1 <| i_jmp X 1 [true, false, true]) <| i_il 2 <| i_ir Q
def F_X12_breach (Q : zQ) (X : Nat → zK) : Nat → zK
  | 0 => k_X12_breach_0 X Q
  | 1 => k_X12_breach_1 X Q
  | _ => fun _ _ _ => False
def T_X12_breach : zTy := fun vs σ Q => zok 3 vs = true ∧ zFix (F_X12_breach Q) 0 (zlc vs) [] σ
def k_X12_canNot_0 (X : Nat → zK) (Q : zQ) : zK := i_al 0 <| i_gf 12 0 <| i_ic 2 <| i_ia <| i_al 0 <| i_gf 12 0 <| i_ic 3 <| i_ia <| i_ib (fun x y => x ^^^ y) <| i_ir Q
def F_X12_canNot (Q : zQ) (X : Nat → zK) : Nat → zK
  | 0 => k_X12_canNot_0 X Q
  | _ => fun _ _ _ => False
def T_X12_canNot : zTy := fun vs σ Q => zok 1 vs = true ∧ zFix (F_X12_canNot Q) 0 (zlc vs) [] σ
def k_X12_laySeats_0 (X : Nat → zK) (Q : zQ) : zK := i_il 1 <| i_is 2 <| i_ic 0 <| i_is 3 <| i_ic 1 <| i_is 4 <| i_al 0 <| i_cv 12 1 T_X12_many <| i_ic 1 <| i_ib (fun x y => x - y) <| i_is 5 <| i_jmp X 1 [true, false, true, true, true, true]
def k_X12_laySeats_1 (X : Nat → zK) (Q : zQ) : zK := i_il 5 <| i_if (fun x => x < 0) (fun x => ¬ x < 0) (i_il 4 <| i_zr Q) <| i_al 0 <| i_gf 12 8 <| i_il 5 <| i_ic 2 <| i_il 2 <| i_ic 5 <| i_irem <| i_ib (fun x y => x * y) <| i_al 0 <| i_gf 12 7 <| i_il 5 <| i_ia <| i_ib (fun x y => x + y) <| i_iast <| i_il 2 <| i_ic 5 <| i_idiv <| i_is 2 <| i_il 4 <| i_if (fun x => x = 0) (fun x => ¬ x = 0) (i_jmp X 2 [true, false, true, true, false, true]) <| i_il 3 <| i_al 0 <| i_gf 12 8 <| i_il 5 <| i_ia <| i_call 2 T_X12_has <| i_if (fun x => ¬ x = 0) (fun x => x = 0) (i_jmp X 2 [true, false, true, true, false, true]) <| i_ic 1 <| i_jmp X 3 [true, false, true, true, false, true]
def k_X12_laySeats_2 (X : Nat → zK) (Q : zQ) : zK := i_ic 0 <| i_jmp X 3 [true, false, true, true, false, true]
def k_X12_laySeats_3 (X : Nat → zK) (Q : zQ) : zK := i_is 4 <| i_il 3 <| i_ic 1 <| i_al 0 <| i_gf 12 8 <| i_il 5 <| i_ia <| i_ib (fun x y => x <<< (y &&& 31)) <| i_ib (fun x y => x ||| y) <| i_is 3 <| i_inc 5 (-1) <| i_jmp X 1 [true, false, true, true, true, true]
def F_X12_laySeats (Q : zQ) (X : Nat → zK) : Nat → zK
  | 0 => k_X12_laySeats_0 X Q
  | 1 => k_X12_laySeats_1 X Q
  | 2 => k_X12_laySeats_2 X Q
  | 3 => k_X12_laySeats_3 X Q
  | _ => fun _ _ _ => False
def T_X12_laySeats : zTy := fun vs σ Q => zok 6 vs = true ∧ zFix (F_X12_laySeats Q) 0 (zlc vs) [] σ
def k_X12_seeing_0 (X : Nat → zK) (Q : zQ) : zK := i_ic 0 <| i_is 1 <| i_ic 0 <| i_is 2 <| i_jmp X 1 [true, true, true]
def k_X12_seeing_1 (X : Nat → zK) (Q : zQ) : zK := i_il 2 <| i_al 0 <| i_cv 12 1 T_X12_many <| i_cmp (fun x y => y ≤ x) (fun x y => ¬ y ≤ x) (i_il 1 <| i_ir Q) <| i_ic 0 <| i_is 3 <| i_jmp X 2 [true, true, true, true]
def k_X12_seeing_2 (X : Nat → zK) (Q : zQ) : zK := i_il 3 <| i_ic 16 <| i_cmp (fun x y => y ≤ x) (fun x y => ¬ y ≤ x) (i_inc 2 1 <| i_jmp X 1 [true, true, true]) <| i_ic 1 <| i_is 4 <| i_ic 0 <| i_is 5 <| i_jmp X 3 [true, true, true, true, true, true]
def k_X12_seeing_3 (X : Nat → zK) (Q : zQ) : zK := i_il 5 <| i_al 0 <| i_cv 12 1 T_X12_many <| i_cmp (fun x y => y ≤ x) (fun x y => ¬ y ≤ x) (i_jmp X 6 [true, true, true, true, true]) <| i_il 4 <| i_if (fun x => x = 0) (fun x => ¬ x = 0) (i_jmp X 6 [true, true, true, true, true]) <| i_al 0 <| i_gf 12 8 <| i_il 5 <| i_ia <| i_al 0 <| i_gf 12 8 <| i_il 2 <| i_ia <| i_cmp (fun x y => y ≤ x) (fun x y => ¬ y ≤ x) (i_jmp X 4 [true, true, true, true, false, true]) <| i_al 0 <| i_gf 12 10 <| i_ic 16 <| i_il 5 <| i_ib (fun x y => x * y) <| i_il 3 <| i_ib (fun x y => x + y) <| i_ia <| i_al 0 <| i_gf 12 10 <| i_ic 16 <| i_il 2 <| i_ib (fun x y => x * y) <| i_il 3 <| i_ib (fun x y => x + y) <| i_ia <| i_cmp (fun x y => y ≤ x) (fun x y => ¬ y ≤ x) (i_ic 0 <| i_jmp X 5 [true, true, true, true, false, true]) <| i_jmp X 4 [true, true, true, true, false, true]
def k_X12_seeing_4 (X : Nat → zK) (Q : zQ) : zK := i_ic 1 <| i_jmp X 5 [true, true, true, true, false, true]
def k_X12_seeing_5 (X : Nat → zK) (Q : zQ) : zK := i_is 4 <| i_inc 5 1 <| i_jmp X 3 [true, true, true, true, true, true]
def k_X12_seeing_6 (X : Nat → zK) (Q : zQ) : zK := i_il 1 <| i_il 4 <| i_if (fun x => x = 0) (fun x => ¬ x = 0) (i_ic 0 <| i_jmp X 7 [true, false, true, true]) <| i_ic 1 <| i_jmp X 7 [true, false, true, true]
def k_X12_seeing_7 (X : Nat → zK) (Q : zQ) : zK := i_ib (fun x y => x + y) <| i_is 1 <| i_inc 3 1 <| i_jmp X 2 [true, true, true, true]
def F_X12_seeing (Q : zQ) (X : Nat → zK) : Nat → zK
  | 0 => k_X12_seeing_0 X Q
  | 1 => k_X12_seeing_1 X Q
  | 2 => k_X12_seeing_2 X Q
  | 3 => k_X12_seeing_3 X Q
  | 4 => k_X12_seeing_4 X Q
  | 5 => k_X12_seeing_5 X Q
  | 6 => k_X12_seeing_6 X Q
  | 7 => k_X12_seeing_7 X Q
  | _ => fun _ _ _ => False
def T_X12_seeing : zTy := fun vs σ Q => zok 6 vs = true ∧ zFix (F_X12_seeing Q) 0 (zlc vs) [] σ
def k_X12_laySeating_0 (X : Nat → zK) (Q : zQ) : zK := i_ic 1 <| i_is 1 <| i_al 0 <| i_ic (-1) <| i_pf 12 12 <| i_al 0 <| i_cv 12 1 T_X12_layHand <| i_ic 0 <| i_is 2 <| i_jmp X 1 [true, true, true]
def k_X12_laySeating_1 (X : Nat → zK) (Q : zQ) : zK := i_il 2 <| i_al 0 <| i_cv 12 1 T_X12_many <| i_cmp (fun x y => y ≤ x) (fun x y => ¬ y ≤ x) (i_ic 0 <| i_is 2 <| i_jmp X 3 [true, true, true]) <| i_il 1 <| i_ic 5 <| i_ib (fun x y => x * y) <| i_is 1 <| i_ic 0 <| i_is 3 <| i_jmp X 2 [true, true, true, true]
def k_X12_laySeating_2 (X : Nat → zK) (Q : zQ) : zK := i_il 3 <| i_ic 16 <| i_cmp (fun x y => y ≤ x) (fun x y => ¬ y ≤ x) (i_inc 2 1 <| i_jmp X 1 [true, true, true]) <| i_al 0 <| i_gf 12 10 <| i_ic 16 <| i_il 2 <| i_ib (fun x y => x * y) <| i_il 3 <| i_ib (fun x y => x + y) <| i_al 0 <| i_il 2 <| i_il 3 <| i_cv 12 3 T_X12_high <| i_iast <| i_inc 3 1 <| i_jmp X 2 [true, true, true, true]
def k_X12_laySeating_3 (X : Nat → zK) (Q : zQ) : zK := i_il 2 <| i_il 1 <| i_cmp (fun x y => y ≤ x) (fun x y => ¬ y ≤ x) (i_vr Q) <| i_al 0 <| i_il 2 <| i_cv 12 2 T_X12_laySeats <| i_if (fun x => x = 0) (fun x => ¬ x = 0) (i_ic (-1) <| i_jmp X 4 [true, true, true]) <| i_al 0 <| i_cv 12 1 T_X12_seeing <| i_jmp X 4 [true, true, true]
def k_X12_laySeating_4 (X : Nat → zK) (Q : zQ) : zK := i_is 3 <| i_ic 0 <| i_is 4 <| i_jmp X 5 [true, true, true, true, true]
def k_X12_laySeating_5 (X : Nat → zK) (Q : zQ) : zK := i_il 4 <| i_al 0 <| i_cv 12 1 T_X12_many <| i_cmp (fun x y => y ≤ x) (fun x y => ¬ y ≤ x) (i_jmp X 6 [true, true, true, true]) <| i_il 3 <| i_al 0 <| i_gf 12 12 <| i_cmp (fun x y => x ≤ y) (fun x y => ¬ x ≤ y) (i_jmp X 6 [true, true, true, true]) <| i_al 0 <| i_gf 12 11 <| i_il 4 <| i_al 0 <| i_gf 12 8 <| i_il 4 <| i_ia <| i_iast <| i_inc 4 1 <| i_jmp X 5 [true, true, true, true, true]
def k_X12_laySeating_6 (X : Nat → zK) (Q : zQ) : zK := i_al 0 <| i_il 3 <| i_al 0 <| i_gf 12 12 <| i_cmp (fun x y => x ≤ y) (fun x y => ¬ x ≤ y) (i_al 0 <| i_gf 12 12 <| i_jmp X 7 [true, true, true]) <| i_il 3 <| i_jmp X 7 [true, true, true]
def k_X12_laySeating_7 (X : Nat → zK) (Q : zQ) : zK := i_pf 12 12 <| i_inc 2 1 <| i_jmp X 3 [true, true, true]
def F_X12_laySeating (Q : zQ) (X : Nat → zK) : Nat → zK
  | 0 => k_X12_laySeating_0 X Q
  | 1 => k_X12_laySeating_1 X Q
  | 2 => k_X12_laySeating_2 X Q
  | 3 => k_X12_laySeating_3 X Q
  | 4 => k_X12_laySeating_4 X Q
  | 5 => k_X12_laySeating_5 X Q
  | 6 => k_X12_laySeating_6 X Q
  | 7 => k_X12_laySeating_7 X Q
  | _ => fun _ _ _ => False
def T_X12_laySeating : zTy := fun vs σ Q => zok 5 vs = true ∧ zFix (F_X12_laySeating Q) 0 (zlc vs) [] σ
def k_X12_seats_0 (X : Nat → zK) (Q : zQ) : zK := i_il 1 <| i_i2l <| i_lc (-1) <| i_al 0 <| i_cv 12 1 T_X12_many <| i_ic 1 <| i_ib (fun x y => x - y) <| i_i2l <| i_call 3 T_X12_in <| i_if (fun x => ¬ x = 0) (fun x => x = 0) (i_al 0 <| i_cv 12 1 T_X12_laySeating <| i_il 1 <| i_ic (-1) <| i_cmp (fun x y => ¬ x = y) (fun x y => x = y) (i_al 0 <| i_gf 12 11 <| i_il 1 <| i_ia <| i_ir Q) <| i_al 0 <| i_gf 12 12 <| i_ir Q) <| i_al 0 <| i_ic (-10) <| i_cv 12 2 T_X12_bad <| i_ir Q
def F_X12_seats (Q : zQ) (X : Nat → zK) : Nat → zK
  | 0 => k_X12_seats_0 X Q
  | _ => fun _ _ _ => False
def T_X12_seats : zTy := fun vs σ Q => zok 2 vs = true ∧ zFix (F_X12_seats Q) 0 (zlc vs) [] σ
def k_X12_change_0 (X : Nat → zK) (Q : zQ) : zK := i_il 1 <| i_i2l <| i_lc 0 <| i_lc 1 <| i_call 3 T_X12_in <| i_if (fun x => ¬ x = 0) (fun x => x = 0) (i_al 0 <| i_cv 12 1 T_X12_layHand <| i_ic 7 <| i_is 2 <| i_al 0 <| i_cv 12 1 T_X12_peaces <| i_is 3 <| i_ic 0 <| i_is 4 <| i_jmp X 1 [true, true, true, true, true]) <| i_al 0 <| i_ic (-2) <| i_cv 12 2 T_X12_bad <| i_ir Q
def k_X12_change_1 (X : Nat → zK) (Q : zQ) : zK := i_il 4 <| i_al 0 <| i_cv 12 1 T_X12_many <| i_cmp (fun x y => y ≤ x) (fun x y => ¬ y ≤ x) (i_il 1 <| i_if (fun x => ¬ x = 0) (fun x => x = 0) (i_il 3 <| i_ir Q) <| i_il 2 <| i_ir Q) <| i_al 0 <| i_gf 12 7 <| i_il 4 <| i_ic 1 <| i_al 0 <| i_gf 12 7 <| i_il 4 <| i_ia <| i_ib (fun x y => x - y) <| i_iast <| i_al 0 <| i_cv 12 1 T_X12_peaces <| i_is 5 <| i_al 0 <| i_gf 12 7 <| i_il 4 <| i_ic 1 <| i_al 0 <| i_gf 12 7 <| i_il 4 <| i_ia <| i_ib (fun x y => x - y) <| i_iast <| i_il 5 <| i_il 3 <| i_cmp (fun x y => x ≤ y) (fun x y => ¬ x ≤ y) (i_il 2 <| i_jmp X 2 [true, true, false, true, true, true]) <| i_il 4 <| i_jmp X 2 [true, true, false, true, true, true]
def k_X12_change_2 (X : Nat → zK) (Q : zQ) : zK := i_is 2 <| i_il 5 <| i_il 3 <| i_cmp (fun x y => x ≤ y) (fun x y => ¬ x ≤ y) (i_il 3 <| i_jmp X 3 [true, true, true, false, true]) <| i_il 5 <| i_jmp X 3 [true, true, true, false, true]
def k_X12_change_3 (X : Nat → zK) (Q : zQ) : zK := i_is 3 <| i_inc 4 1 <| i_jmp X 1 [true, true, true, true, true]
def F_X12_change (Q : zQ) (X : Nat → zK) : Nat → zK
  | 0 => k_X12_change_0 X Q
  | 1 => k_X12_change_1 X Q
  | 2 => k_X12_change_2 X Q
  | 3 => k_X12_change_3 X Q
  | _ => fun _ _ _ => False
def T_X12_change : zTy := fun vs σ Q => zok 6 vs = true ∧ zFix (F_X12_change Q) 0 (zlc vs) [] σ
def k_X12_still_0 (X : Nat → zK) (Q : zQ) : zK := i_ic (-1) <| i_is 1 <| i_al 0 <| i_cv 12 1 T_X12_layHand <| i_al 0 <| i_gf 12 9 <| i_is 2 <| i_ic 0 <| i_is 3 <| i_jmp X 1 [true, true, true, true]
def k_X12_still_1 (X : Nat → zK) (Q : zQ) : zK := i_il 3 <| i_ic 1 <| i_al 0 <| i_cv 12 1 T_X12_many <| i_ib (fun x y => x <<< (y &&& 31)) <| i_cmp (fun x y => y ≤ x) (fun x y => ¬ y ≤ x) (i_il 1 <| i_ir Q) <| i_al 0 <| i_il 2 <| i_il 3 <| i_ib (fun x y => x ||| y) <| i_pf 12 9 <| i_il 3 <| i_il 2 <| i_ib (fun x y => x &&& y) <| i_if (fun x => ¬ x = 0) (fun x => x = 0) (i_jmp X 3 [true, true, true, true]) <| i_il 1 <| i_ic (-1) <| i_cmp (fun x y => x = y) (fun x y => ¬ x = y) (i_jmp X 2 [true, true, true, true]) <| i_il 3 <| i_call 1 T_X12_bits <| i_il 1 <| i_call 1 T_X12_bits <| i_cmp (fun x y => y ≤ x) (fun x y => ¬ y ≤ x) (i_jmp X 3 [true, true, true, true]) <| i_jmp X 2 [true, true, true, true]
def k_X12_still_2 (X : Nat → zK) (Q : zQ) : zK := i_ic 1 <| i_jmp X 4 [true, true, true, true]
def k_X12_still_3 (X : Nat → zK) (Q : zQ) : zK := i_ic 0 <| i_jmp X 4 [true, true, true, true]
def k_X12_still_4 (X : Nat → zK) (Q : zQ) : zK := i_is 4 <| i_il 4 <| i_if (fun x => x = 0) (fun x => ¬ x = 0) (i_jmp X 5 [true, true, true, true]) <| i_al 0 <| i_cv 12 1 T_X12_peaces <| i_ic 16 <| i_cmp (fun x y => ¬ x = y) (fun x y => x = y) (i_jmp X 5 [true, true, true, true]) <| i_il 3 <| i_jmp X 6 [true, false, true, true]
def k_X12_still_5 (X : Nat → zK) (Q : zQ) : zK := i_il 1 <| i_jmp X 6 [true, false, true, true]
def k_X12_still_6 (X : Nat → zK) (Q : zQ) : zK := i_is 1 <| i_inc 3 1 <| i_jmp X 1 [true, true, true, true]
def F_X12_still (Q : zQ) (X : Nat → zK) : Nat → zK
  | 0 => k_X12_still_0 X Q
  | 1 => k_X12_still_1 X Q
  | 2 => k_X12_still_2 X Q
  | 3 => k_X12_still_3 X Q
  | 4 => k_X12_still_4 X Q
  | 5 => k_X12_still_5 X Q
  | 6 => k_X12_still_6 X Q
  | _ => fun _ _ _ => False
def T_X12_still : zTy := fun vs σ Q => zok 5 vs = true ∧ zFix (F_X12_still Q) 0 (zlc vs) [] σ
def k_X12_heard_0 (X : Nat → zK) (Q : zQ) : zK := i_il 1 <| i_call 1 T_X12_isWord <| i_if (fun x => x = 0) (fun x => ¬ x = 0) (i_jmp X 1 [true]) <| i_il 2 <| i_call 1 T_X12_isBook <| i_if (fun x => x = 0) (fun x => ¬ x = 0) (i_jmp X 1 [true]) <| i_il 3 <| i_i2l <| i_lc 0 <| i_lc 140 <| i_call 3 T_X12_in <| i_if (fun x => ¬ x = 0) (fun x => x = 0) (i_al 0 <| i_gf 12 0 <| i_ic 4 <| i_ia <| i_ic 6 <| i_cmp (fun x y => ¬ x = y) (fun x y => x = y) (i_ic 48 <| i_ic 3 <| i_al 0 <| i_gf 12 0 <| i_ic 4 <| i_ia <| i_ib (fun x y => x * y) <| i_ib (fun x y => x + y) <| i_is 4 <| i_al 0 <| i_gf 12 0 <| i_il 4 <| i_il 1 <| i_iast <| i_al 0 <| i_gf 12 0 <| i_il 4 <| i_ic 1 <| i_ib (fun x y => x + y) <| i_il 2 <| i_iast <| i_al 0 <| i_gf 12 0 <| i_il 4 <| i_ic 2 <| i_ib (fun x y => x + y) <| i_il 3 <| i_iast <| i_al 0 <| i_gf 12 0 <| i_ic 4 <| i_dup2 <| i_ia <| i_ic 1 <| i_ib (fun x y => x + y) <| i_iast <| i_al 0 <| i_gf 12 0 <| i_ic 4 <| i_ia <| i_ir Q) <| i_al 0 <| i_cv 12 1 T_X12_full <| i_ir Q) <| i_jmp X 1 [true]
def k_X12_heard_1 (X : Nat → zK) (Q : zQ) : zK := i_al 0 <| i_ic (-2) <| i_cv 12 2 T_X12_bad <| i_ir Q
def F_X12_heard (Q : zQ) (X : Nat → zK) : Nat → zK
  | 0 => k_X12_heard_0 X Q
  | 1 => k_X12_heard_1 X Q
  | _ => fun _ _ _ => False
def T_X12_heard : zTy := fun vs σ Q => zok 5 vs = true ∧ zFix (F_X12_heard Q) 0 (zlc vs) [] σ
def k_X12_forget_0 (X : Nat → zK) (Q : zQ) : zK := i_al 0 <| i_gf 12 0 <| i_ic 4 <| i_ia <| i_is 1 <| i_al 0 <| i_gf 12 0 <| i_ic 4 <| i_ic 0 <| i_iast <| i_il 1 <| i_ir Q
def F_X12_forget (Q : zQ) (X : Nat → zK) : Nat → zK
  | 0 => k_X12_forget_0 X Q
  | _ => fun _ _ _ => False
def T_X12_forget : zTy := fun vs σ Q => zok 2 vs = true ∧ zFix (F_X12_forget Q) 0 (zlc vs) [] σ
def k_X12_isHeardSo_0 (X : Nat → zK) (Q : zQ) : zK := i_ic 1 <| i_is 1 <| i_ic 0 <| i_is 2 <| i_jmp X 1 [true, true, true]
def k_X12_isHeardSo_1 (X : Nat → zK) (Q : zQ) : zK := i_il 2 <| i_al 0 <| i_gf 12 0 <| i_ic 4 <| i_ia <| i_cmp (fun x y => y ≤ x) (fun x y => ¬ y ≤ x) (i_il 1 <| i_zr Q) <| i_il 1 <| i_if (fun x => x = 0) (fun x => ¬ x = 0) (i_il 1 <| i_zr Q) <| i_ic 48 <| i_ic 3 <| i_il 2 <| i_ib (fun x y => x * y) <| i_ib (fun x y => x + y) <| i_is 3 <| i_al 0 <| i_al 0 <| i_gf 12 0 <| i_il 3 <| i_ia <| i_al 0 <| i_gf 12 0 <| i_il 3 <| i_ic 1 <| i_ib (fun x y => x + y) <| i_ia <| i_cv 12 3 T_X12_loudOf <| i_al 0 <| i_gf 12 0 <| i_il 3 <| i_ic 2 <| i_ib (fun x y => x + y) <| i_ia <| i_cmp (fun x y => ¬ x = y) (fun x y => x = y) (i_ic 0 <| i_jmp X 2 [true, false, true]) <| i_ic 1 <| i_jmp X 2 [true, false, true]
def k_X12_isHeardSo_2 (X : Nat → zK) (Q : zQ) : zK := i_is 1 <| i_inc 2 1 <| i_jmp X 1 [true, true, true]
def F_X12_isHeardSo (Q : zQ) (X : Nat → zK) : Nat → zK
  | 0 => k_X12_isHeardSo_0 X Q
  | 1 => k_X12_isHeardSo_1 X Q
  | 2 => k_X12_isHeardSo_2 X Q
  | _ => fun _ _ _ => False
def T_X12_isHeardSo : zTy := fun vs σ Q => zok 4 vs = true ∧ zFix (F_X12_isHeardSo Q) 0 (zlc vs) [] σ
def k_X12_layMay_0 (X : Nat → zK) (Q : zQ) : zK := i_al 0 <| i_ic 0 <| i_pf 12 14 <| i_al 0 <| i_cv 12 1 T_X12_layHand <| i_ic 0 <| i_is 1 <| i_jmp X 1 [true, true]
def k_X12_layMay_1 (X : Nat → zK) (Q : zQ) : zK := i_il 1 <| i_ic 128 <| i_cmp (fun x y => y ≤ x) (fun x y => ¬ y ≤ x) (i_vr Q) <| i_al 0 <| i_il 1 <| i_pf 12 9 <| i_al 0 <| i_gf 12 13 <| i_il 1 <| i_il 1 <| i_ic 1 <| i_al 0 <| i_cv 12 1 T_X12_many <| i_ib (fun x y => x <<< (y &&& 31)) <| i_cmp (fun x y => y ≤ x) (fun x y => ¬ y ≤ x) (i_jmp X 2 [true, true]) <| i_al 0 <| i_cv 12 1 T_X12_isHeardSo <| i_if (fun x => x = 0) (fun x => ¬ x = 0) (i_jmp X 2 [true, true]) <| i_ic 1 <| i_jmp X 3 [true, true]
def k_X12_layMay_2 (X : Nat → zK) (Q : zQ) : zK := i_ic 0 <| i_jmp X 3 [true, true]
def k_X12_layMay_3 (X : Nat → zK) (Q : zQ) : zK := i_bast <| i_al 0 <| i_dup <| i_gf 12 14 <| i_al 0 <| i_gf 12 13 <| i_il 1 <| i_ba <| i_if (fun x => x = 0) (fun x => ¬ x = 0) (i_ic 0 <| i_jmp X 4 [true, true]) <| i_ic 1 <| i_jmp X 4 [true, true]
def k_X12_layMay_4 (X : Nat → zK) (Q : zQ) : zK := i_ib (fun x y => x + y) <| i_pf 12 14 <| i_inc 1 1 <| i_jmp X 1 [true, true]
def F_X12_layMay (Q : zQ) (X : Nat → zK) : Nat → zK
  | 0 => k_X12_layMay_0 X Q
  | 1 => k_X12_layMay_1 X Q
  | 2 => k_X12_layMay_2 X Q
  | 3 => k_X12_layMay_3 X Q
  | 4 => k_X12_layMay_4 X Q
  | _ => fun _ _ _ => False
def T_X12_layMay : zTy := fun vs σ Q => zok 2 vs = true ∧ zFix (F_X12_layMay Q) 0 (zlc vs) [] σ
def k_X12_coughed_0 (X : Nat → zK) (Q : zQ) : zK := i_il 1 <| i_i2l <| i_lc 0 <| i_lc 2 <| i_call 3 T_X12_in <| i_if (fun x => ¬ x = 0) (fun x => x = 0) (i_al 0 <| i_cv 12 1 T_X12_layMay <| i_ic (-1) <| i_is 2 <| i_ic 0 <| i_is 3 <| i_ic 0 <| i_is 4 <| i_jmp X 1 [true, true, true, true, true]) <| i_al 0 <| i_ic (-2) <| i_cv 12 2 T_X12_bad <| i_ir Q
def k_X12_coughed_1 (X : Nat → zK) (Q : zQ) : zK := i_il 4 <| i_ic 128 <| i_cmp (fun x y => y ≤ x) (fun x y => ¬ y ≤ x) (i_il 1 <| i_if (fun x => ¬ x = 0) (fun x => x = 0) (i_il 1 <| i_ic 2 <| i_cmp (fun x y => ¬ x = y) (fun x y => x = y) (i_al 0 <| i_gf 12 14 <| i_if (fun x => ¬ x = 0) (fun x => x = 0) (i_il 2 <| i_ir Q) <| i_ic (-1) <| i_ir Q) <| i_il 3 <| i_ir Q) <| i_al 0 <| i_gf 12 14 <| i_ir Q) <| i_il 2 <| i_al 0 <| i_gf 12 13 <| i_il 4 <| i_ba <| i_if (fun x => x = 0) (fun x => ¬ x = 0) (i_ic (-1) <| i_jmp X 2 [true, true, false, true, true]) <| i_il 4 <| i_jmp X 2 [true, true, false, true, true]
def k_X12_coughed_2 (X : Nat → zK) (Q : zQ) : zK := i_ib (fun x y => x &&& y) <| i_is 2 <| i_il 3 <| i_al 0 <| i_gf 12 13 <| i_il 4 <| i_ba <| i_if (fun x => x = 0) (fun x => ¬ x = 0) (i_ic 0 <| i_jmp X 3 [true, true, true, false, true]) <| i_il 4 <| i_jmp X 3 [true, true, true, false, true]
def k_X12_coughed_3 (X : Nat → zK) (Q : zQ) : zK := i_ib (fun x y => x ||| y) <| i_is 3 <| i_inc 4 1 <| i_jmp X 1 [true, true, true, true, true]
def F_X12_coughed (Q : zQ) (X : Nat → zK) : Nat → zK
  | 0 => k_X12_coughed_0 X Q
  | 1 => k_X12_coughed_1 X Q
  | 2 => k_X12_coughed_2 X Q
  | 3 => k_X12_coughed_3 X Q
  | _ => fun _ _ _ => False
def T_X12_coughed : zTy := fun vs σ Q => zok 5 vs = true ∧ zFix (F_X12_coughed Q) 0 (zlc vs) [] σ
def k_X12_next_0 (X : Nat → zK) (Q : zQ) : zK := i_al 0 <| i_cv 12 1 T_X12_layMay <| i_ic (-1) <| i_is 1 <| i_ic 1000000 <| i_is 2 <| i_ic 0 <| i_is 3 <| i_jmp X 1 [true, true, true, true]
def k_X12_next_1 (X : Nat → zK) (Q : zQ) : zK := i_il 3 <| i_ic 16 <| i_cmp (fun x y => y ≤ x) (fun x y => ¬ y ≤ x) (i_il 1 <| i_ir Q) <| i_al 0 <| i_gf 12 14 <| i_if (fun x => x ≤ 0) (fun x => ¬ x ≤ 0) (i_il 1 <| i_ir Q) <| i_ic 0 <| i_is 4 <| i_ic 0 <| i_is 5 <| i_jmp X 2 [true, true, true, true, true, true]
def k_X12_next_2 (X : Nat → zK) (Q : zQ) : zK := i_il 5 <| i_ic 140 <| i_cmp (fun x y => y < x) (fun x y => ¬ y < x) (i_ic 0 <| i_is 5 <| i_jmp X 3 [true, true, true, true, true, true]) <| i_al 0 <| i_gf 12 15 <| i_il 5 <| i_ic 0 <| i_iast <| i_inc 5 1 <| i_jmp X 2 [true, true, true, true, true, true]
def k_X12_next_3 (X : Nat → zK) (Q : zQ) : zK := i_il 5 <| i_ic 128 <| i_cmp (fun x y => y ≤ x) (fun x y => ¬ y ≤ x) (i_il 4 <| i_il 2 <| i_cmp (fun x y => y ≤ x) (fun x y => ¬ y ≤ x) (i_il 1 <| i_jmp X 6 [true, false, true, true, true]) <| i_il 3 <| i_jmp X 6 [true, false, true, true, true]) <| i_al 0 <| i_gf 12 13 <| i_il 5 <| i_ba <| i_if (fun x => x = 0) (fun x => ¬ x = 0) (i_jmp X 5 [true, true, true, true, true, true]) <| i_al 0 <| i_il 5 <| i_pf 12 9 <| i_al 0 <| i_il 3 <| i_ic 0 <| i_cv 12 3 T_X12_loudOf <| i_is 6 <| i_al 0 <| i_gf 12 15 <| i_il 6 <| i_dup2 <| i_ia <| i_ic 1 <| i_ib (fun x y => x + y) <| i_iast <| i_al 0 <| i_gf 12 15 <| i_il 6 <| i_ia <| i_il 4 <| i_cmp (fun x y => x ≤ y) (fun x y => ¬ x ≤ y) (i_il 4 <| i_jmp X 4 [true, true, true, true, false, true]) <| i_al 0 <| i_gf 12 15 <| i_il 6 <| i_ia <| i_jmp X 4 [true, true, true, true, false, true]
def k_X12_next_4 (X : Nat → zK) (Q : zQ) : zK := i_is 4 <| i_jmp X 5 [true, true, true, true, true, true]
def k_X12_next_5 (X : Nat → zK) (Q : zQ) : zK := i_inc 5 1 <| i_jmp X 3 [true, true, true, true, true, true]
def k_X12_next_6 (X : Nat → zK) (Q : zQ) : zK := i_is 1 <| i_il 4 <| i_il 2 <| i_cmp (fun x y => y ≤ x) (fun x y => ¬ y ≤ x) (i_il 2 <| i_jmp X 7 [true, true, false, true]) <| i_il 4 <| i_jmp X 7 [true, true, false, true]
def k_X12_next_7 (X : Nat → zK) (Q : zQ) : zK := i_is 2 <| i_inc 3 1 <| i_jmp X 1 [true, true, true, true]
def F_X12_next (Q : zQ) (X : Nat → zK) : Nat → zK
  | 0 => k_X12_next_0 X Q
  | 1 => k_X12_next_1 X Q
  | 2 => k_X12_next_2 X Q
  | 3 => k_X12_next_3 X Q
  | 4 => k_X12_next_4 X Q
  | 5 => k_X12_next_5 X Q
  | 6 => k_X12_next_6 X Q
  | 7 => k_X12_next_7 X Q
  | _ => fun _ _ _ => False
def T_X12_next : zTy := fun vs σ Q => zok 7 vs = true ∧ zFix (F_X12_next Q) 0 (zlc vs) [] σ
def k_X12_is_0 (X : Nat → zK) (Q : zQ) : zK := i_al 0 <| i_il 1 <| i_cv 12 2 T_X12_isFamily <| i_if (fun x => ¬ x = 0) (fun x => x = 0) (i_ic 0 <| i_is 2 <| i_al 0 <| i_cv 12 1 T_X12_layHand <| i_ic 0 <| i_is 3 <| i_jmp X 1 [true, true, true, true]) <| i_al 0 <| i_ic (-2) <| i_cv 12 2 T_X12_bad <| i_ir Q
def k_X12_is_1 (X : Nat → zK) (Q : zQ) : zK := i_il 3 <| i_ic 6 <| i_cmp (fun x y => y ≤ x) (fun x y => ¬ y ≤ x) (i_il 2 <| i_ir Q) <| i_al 0 <| i_gf 12 6 <| i_il 1 <| i_il 3 <| i_iast <| i_il 2 <| i_al 0 <| i_cv 12 1 T_X12_isHeardSo <| i_if (fun x => x = 0) (fun x => ¬ x = 0) (i_ic 0 <| i_jmp X 2 [true, true, false, true]) <| i_ic 1 <| i_il 3 <| i_ib (fun x y => x <<< (y &&& 31)) <| i_jmp X 2 [true, true, false, true]
def k_X12_is_2 (X : Nat → zK) (Q : zQ) : zK := i_ib (fun x y => x ||| y) <| i_is 2 <| i_inc 3 1 <| i_jmp X 1 [true, true, true, true]
def F_X12_is (Q : zQ) (X : Nat → zK) : Nat → zK
  | 0 => k_X12_is_0 X Q
  | 1 => k_X12_is_1 X Q
  | 2 => k_X12_is_2 X Q
  | _ => fun _ _ _ => False
def T_X12_is : zTy := fun vs σ Q => zok 4 vs = true ∧ zFix (F_X12_is Q) 0 (zlc vs) [] σ
def k_X12_deaconOf_0 (X : Nat → zK) (Q : zQ) : zK := i_ic (-1) <| i_is 2 <| i_ic 0 <| i_is 3 <| i_jmp X 1 [true, true, true, true]
def k_X12_deaconOf_1 (X : Nat → zK) (Q : zQ) : zK := i_il 3 <| i_al 0 <| i_cv 12 1 T_X12_many <| i_cmp (fun x y => y ≤ x) (fun x y => ¬ y ≤ x) (i_il 2 <| i_ic (-1) <| i_cmp (fun x y => ¬ x = y) (fun x y => x = y) (i_ic 1 <| i_il 2 <| i_ib (fun x y => x <<< (y &&& 31)) <| i_ir Q) <| i_ic 0 <| i_ir Q) <| i_il 2 <| i_ic (-1) <| i_cmp (fun x y => x = y) (fun x y => ¬ x = y) (i_jmp X 2 [true, true, true, true]) <| i_al 0 <| i_il 3 <| i_ic 3 <| i_cv 12 3 T_X12_get <| i_al 0 <| i_il 2 <| i_ic 3 <| i_cv 12 3 T_X12_get <| i_cmp (fun x y => x ≤ y) (fun x y => ¬ x ≤ y) (i_ic 0 <| i_jmp X 3 [true, true, true, true]) <| i_jmp X 2 [true, true, true, true]
def k_X12_deaconOf_2 (X : Nat → zK) (Q : zQ) : zK := i_ic 1 <| i_jmp X 3 [true, true, true, true]
def k_X12_deaconOf_3 (X : Nat → zK) (Q : zQ) : zK := i_is 4 <| i_al 0 <| i_il 3 <| i_ic 1 <| i_cv 12 3 T_X12_get <| i_il 1 <| i_cmp (fun x y => ¬ x = y) (fun x y => x = y) (i_jmp X 4 [true, true, true, true]) <| i_il 4 <| i_if (fun x => x = 0) (fun x => ¬ x = 0) (i_jmp X 4 [true, true, true, true]) <| i_il 3 <| i_jmp X 5 [true, true, false, true]
def k_X12_deaconOf_4 (X : Nat → zK) (Q : zQ) : zK := i_il 2 <| i_jmp X 5 [true, true, false, true]
def k_X12_deaconOf_5 (X : Nat → zK) (Q : zQ) : zK := i_is 2 <| i_inc 3 1 <| i_jmp X 1 [true, true, true, true]
def F_X12_deaconOf (Q : zQ) (X : Nat → zK) : Nat → zK
  | 0 => k_X12_deaconOf_0 X Q
  | 1 => k_X12_deaconOf_1 X Q
  | 2 => k_X12_deaconOf_2 X Q
  | 3 => k_X12_deaconOf_3 X Q
  | 4 => k_X12_deaconOf_4 X Q
  | 5 => k_X12_deaconOf_5 X Q
  | _ => fun _ _ _ => False
def T_X12_deaconOf : zTy := fun vs σ Q => zok 5 vs = true ∧ zFix (F_X12_deaconOf Q) 0 (zlc vs) [] σ
def k_X12_deacons_0 (X : Nat → zK) (Q : zQ) : zK := i_il 1 <| i_call 1 T_X12_isWord <| i_if (fun x => ¬ x = 0) (fun x => x = 0) (i_al 0 <| i_cv 12 1 T_X12_layHand <| i_al 0 <| i_gf 12 9 <| i_is 2 <| i_ic 0 <| i_is 3 <| i_jmp X 1 [true, true, true, true]) <| i_al 0 <| i_ic (-2) <| i_cv 12 2 T_X12_bad <| i_ir Q
def k_X12_deacons_1 (X : Nat → zK) (Q : zQ) : zK := i_il 3 <| i_ic 4 <| i_cmp (fun x y => y ≤ x) (fun x y => ¬ y ≤ x) (i_ic 0 <| i_is 3 <| i_ic 0 <| i_is 4 <| i_jmp X 4 [true, false, false, true, true]) <| i_al 0 <| i_il 2 <| i_il 3 <| i_ic 1 <| i_ib (fun x y => x &&& y) <| i_ic 1 <| i_cmp (fun x y => ¬ x = y) (fun x y => x = y) (i_ic 0 <| i_jmp X 2 [true, true, true, true]) <| i_al 0 <| i_ic 0 <| i_cv 12 2 T_X12_deaconOf <| i_jmp X 2 [true, true, true, true]
def k_X12_deacons_2 (X : Nat → zK) (Q : zQ) : zK := i_ib (fun x y => x ||| y) <| i_il 3 <| i_ic 1 <| i_cmp (fun x y => x ≤ y) (fun x y => ¬ x ≤ y) (i_ic 0 <| i_jmp X 3 [true, true, true, true]) <| i_al 0 <| i_ic 1 <| i_cv 12 2 T_X12_deaconOf <| i_jmp X 3 [true, true, true, true]
def k_X12_deacons_3 (X : Nat → zK) (Q : zQ) : zK := i_ib (fun x y => x ||| y) <| i_pf 12 9 <| i_al 0 <| i_gf 12 16 <| i_il 3 <| i_al 0 <| i_il 1 <| i_ic 0 <| i_cv 12 3 T_X12_loudOf <| i_al 0 <| i_il 1 <| i_ic 1 <| i_cv 12 3 T_X12_loudOf <| i_ib (fun x y => x - y) <| i_iast <| i_inc 3 1 <| i_jmp X 1 [true, true, true, true]
def k_X12_deacons_4 (X : Nat → zK) (Q : zQ) : zK := i_il 4 <| i_ic 4 <| i_cmp (fun x y => y ≤ x) (fun x y => ¬ y ≤ x) (i_il 3 <| i_ir Q) <| i_al 0 <| i_gf 12 16 <| i_il 4 <| i_ia <| i_al 0 <| i_gf 12 16 <| i_il 4 <| i_ic 1 <| i_ib (fun x y => x ^^^ y) <| i_ia <| i_cmp (fun x y => x < y) (fun x y => ¬ x < y) (i_jmp X 5 [true, false, false, true, true]) <| i_al 0 <| i_gf 12 16 <| i_il 4 <| i_ia <| i_al 0 <| i_gf 12 16 <| i_il 4 <| i_ic 2 <| i_ib (fun x y => x ^^^ y) <| i_ia <| i_cmp (fun x y => y < x) (fun x y => ¬ y < x) (i_jmp X 5 [true, false, false, true, true]) <| i_ic 1 <| i_jmp X 6 [true, false, false, true, true]
def k_X12_deacons_5 (X : Nat → zK) (Q : zQ) : zK := i_ic 0 <| i_jmp X 6 [true, false, false, true, true]
def k_X12_deacons_6 (X : Nat → zK) (Q : zQ) : zK := i_is 5 <| i_il 3 <| i_il 5 <| i_if (fun x => x = 0) (fun x => ¬ x = 0) (i_ic 0 <| i_jmp X 7 [true, false, false, false, true]) <| i_ic 1 <| i_il 4 <| i_ib (fun x y => x <<< (y &&& 31)) <| i_jmp X 7 [true, false, false, false, true]
def k_X12_deacons_7 (X : Nat → zK) (Q : zQ) : zK := i_ib (fun x y => x ||| y) <| i_is 3 <| i_inc 4 1 <| i_jmp X 4 [true, false, false, true, true]
def F_X12_deacons (Q : zQ) (X : Nat → zK) : Nat → zK
  | 0 => k_X12_deacons_0 X Q
  | 1 => k_X12_deacons_1 X Q
  | 2 => k_X12_deacons_2 X Q
  | 3 => k_X12_deacons_3 X Q
  | 4 => k_X12_deacons_4 X Q
  | 5 => k_X12_deacons_5 X Q
  | 6 => k_X12_deacons_6 X Q
  | 7 => k_X12_deacons_7 X Q
  | _ => fun _ _ _ => False
def T_X12_deacons : zTy := fun vs σ Q => zok 6 vs = true ∧ zFix (F_X12_deacons Q) 0 (zlc vs) [] σ
def k_X12_feasts_0 (X : Nat → zK) (Q : zQ) : zK := i_il 1 <| i_i2l <| i_lc 1 <| i_lc 40 <| i_call 3 T_X12_in <| i_if (fun x => x = 0) (fun x => ¬ x = 0) (i_jmp X 1 [true]) <| i_il 2 <| i_i2l <| i_lc 0 <| i_lc 99 <| i_call 3 T_X12_in <| i_if (fun x => x = 0) (fun x => ¬ x = 0) (i_jmp X 1 [true]) <| i_il 3 <| i_i2l <| i_lc 1 <| i_lc 40 <| i_call 3 T_X12_in <| i_if (fun x => x = 0) (fun x => ¬ x = 0) (i_jmp X 1 [true]) <| i_il 4 <| i_i2l <| i_lc 0 <| i_lc 99 <| i_call 3 T_X12_in <| i_if (fun x => ¬ x = 0) (fun x => x = 0) (i_il 2 <| i_il 4 <| i_cmp (fun x y => x ≤ y) (fun x y => ¬ x ≤ y) (i_il 4 <| i_jmp X 2 [false, true, true, true, true]) <| i_il 2 <| i_jmp X 2 [false, true, true, true, true]) <| i_jmp X 1 [true]
def k_X12_feasts_1 (X : Nat → zK) (Q : zQ) : zK := i_al 0 <| i_ic (-2) <| i_cv 12 2 T_X12_bad <| i_ir Q
def k_X12_feasts_2 (X : Nat → zK) (Q : zQ) : zK := i_is 5 <| i_il 5 <| i_is 6 <| i_jmp X 3 [false, true, true, true, true, true, true]
def k_X12_feasts_3 (X : Nat → zK) (Q : zQ) : zK := i_il 6 <| i_il 5 <| i_ic 1600 <| i_ib (fun x y => x + y) <| i_cmp (fun x y => y ≤ x) (fun x y => ¬ y ≤ x) (i_ic (-1) <| i_ir Q) <| i_il 6 <| i_il 2 <| i_ib (fun x y => x - y) <| i_il 1 <| i_irem <| i_if (fun x => ¬ x = 0) (fun x => x = 0) (i_jmp X 4 [false, true, true, true, true, true, true]) <| i_il 6 <| i_il 4 <| i_ib (fun x y => x - y) <| i_il 3 <| i_irem <| i_if (fun x => ¬ x = 0) (fun x => x = 0) (i_jmp X 4 [false, true, true, true, true, true, true]) <| i_il 6 <| i_ir Q
def k_X12_feasts_4 (X : Nat → zK) (Q : zQ) : zK := i_inc 6 1 <| i_jmp X 3 [false, true, true, true, true, true, true]
def F_X12_feasts (Q : zQ) (X : Nat → zK) : Nat → zK
  | 0 => k_X12_feasts_0 X Q
  | 1 => k_X12_feasts_1 X Q
  | 2 => k_X12_feasts_2 X Q
  | 3 => k_X12_feasts_3 X Q
  | 4 => k_X12_feasts_4 X Q
  | _ => fun _ _ _ => False
def T_X12_feasts : zTy := fun vs σ Q => zok 7 vs = true ∧ zFix (F_X12_feasts Q) 0 (zlc vs) [] σ
def k_X12_fraction_0 (X : Nat → zK) (Q : zQ) : zK := i_ll 1 <| i_lst 5 <| i_ll 3 <| i_lst 7 <| i_jmp X 1 [true, true, false, true, false, true, false, true]
def k_X12_fraction_1 (X : Nat → zK) (Q : zQ) : zK := i_ll 7 <| i_lc 0 <| i_lcmp <| i_if (fun x => x = 0) (fun x => ¬ x = 0) (i_al 0 <| i_ll 1 <| i_ll 5 <| i_ldiv <| i_pfl 12 4 <| i_al 0 <| i_ll 3 <| i_ll 5 <| i_ldiv <| i_pfl 12 5 <| i_vr Q) <| i_ll 5 <| i_ll 7 <| i_lrem <| i_lst 9 <| i_ll 7 <| i_lst 5 <| i_ll 9 <| i_lst 7 <| i_jmp X 1 [true, true, false, true, false, true, false, true]
def F_X12_fraction (Q : zQ) (X : Nat → zK) : Nat → zK
  | 0 => k_X12_fraction_0 X Q
  | 1 => k_X12_fraction_1 X Q
  | _ => fun _ _ _ => False
def T_X12_fraction : zTy := fun vs σ Q => zok 11 vs = true ∧ zFix (F_X12_fraction Q) 0 (zlc vs) [] σ
def k_X12_colds_0 (X : Nat → zK) (Q : zQ) : zK := i_il 1 <| i_call 1 T_X12_isWord <| i_if (fun x => x = 0) (fun x => ¬ x = 0) (i_jmp X 1 [true]) <| i_il 2 <| i_i2l <| i_lc 0 <| i_lc 10 <| i_call 3 T_X12_in <| i_if (fun x => ¬ x = 0) (fun x => x = 0) (i_lc 0 <| i_lst 3 <| i_lc 1 <| i_lst 5 <| i_al 0 <| i_cv 12 1 T_X12_layHand <| i_al 0 <| i_gf 12 9 <| i_is 7 <| i_ic 0 <| i_is 8 <| i_jmp X 2 [true, true, true, true, false, true, false, true, true]) <| i_jmp X 1 [true]
def k_X12_colds_1 (X : Nat → zK) (Q : zQ) : zK := i_al 0 <| i_ic (-2) <| i_cv 12 2 T_X12_bad <| i_ir Q
def k_X12_colds_2 (X : Nat → zK) (Q : zQ) : zK := i_il 8 <| i_al 0 <| i_cv 12 1 T_X12_many <| i_il 7 <| i_call 1 T_X12_bits <| i_ib (fun x y => x - y) <| i_cmp (fun x y => y ≤ x) (fun x y => ¬ y ≤ x) (i_ic 0 <| i_is 8 <| i_jmp X 3 [true, true, true, true, false, true, false, true, true]) <| i_ll 5 <| i_lc 10 <| i_lb (fun x y => x * y) <| i_lst 5 <| i_inc 8 1 <| i_jmp X 2 [true, true, true, true, false, true, false, true, true]
def k_X12_colds_3 (X : Nat → zK) (Q : zQ) : zK := i_il 8 <| i_ic 1 <| i_al 0 <| i_cv 12 1 T_X12_many <| i_ib (fun x y => x <<< (y &&& 31)) <| i_cmp (fun x y => y ≤ x) (fun x y => ¬ y ≤ x) (i_al 0 <| i_ll 3 <| i_ll 5 <| i_cv 12 3 T_X12_fraction <| i_ic 1 <| i_ir Q) <| i_il 8 <| i_il 7 <| i_ib (fun x y => x &&& y) <| i_if (fun x => ¬ x = 0) (fun x => x = 0) (i_lc 0 <| i_jmp X 4 [true, true, true, true, false, true, false, true, true]) <| i_lc 1 <| i_jmp X 4 [true, true, true, true, false, true, false, true, true]
def k_X12_colds_4 (X : Nat → zK) (Q : zQ) : zK := i_lst 9 <| i_ic 0 <| i_is 11 <| i_jmp X 5 [true, true, true, true, false, true, false, true, true, true, false, true]
def k_X12_colds_5 (X : Nat → zK) (Q : zQ) : zK := i_il 11 <| i_al 0 <| i_cv 12 1 T_X12_many <| i_cmp (fun x y => y ≤ x) (fun x y => ¬ y ≤ x) (i_al 0 <| i_il 7 <| i_il 8 <| i_ib (fun x y => x ||| y) <| i_pf 12 9 <| i_ll 3 <| i_ll 9 <| i_lc 0 <| i_lcmp <| i_if (fun x => x ≤ 0) (fun x => ¬ x ≤ 0) (i_jmp X 7 [true, true, true, false, false, true, false, true, true]) <| i_al 0 <| i_il 1 <| i_cv 12 2 T_X12_isPeace <| i_if (fun x => x = 0) (fun x => ¬ x = 0) (i_jmp X 7 [true, true, true, false, false, true, false, true, true]) <| i_ll 9 <| i_jmp X 8 [true, true, true, false, false, true, false, true, true]) <| i_ll 9 <| i_il 7 <| i_il 11 <| i_call 2 T_X12_has <| i_if (fun x => x = 0) (fun x => ¬ x = 0) (i_il 8 <| i_il 11 <| i_call 2 T_X12_has <| i_if (fun x => x = 0) (fun x => ¬ x = 0) (i_ic 10 <| i_il 2 <| i_ib (fun x y => x - y) <| i_i2l <| i_jmp X 6 [true, true, true, true, false, true, false, true, true, false, false, true]) <| i_il 2 <| i_i2l <| i_jmp X 6 [true, true, true, true, false, true, false, true, true, false, false, true]) <| i_lc 1 <| i_jmp X 6 [true, true, true, true, false, true, false, true, true, false, false, true]
def k_X12_colds_6 (X : Nat → zK) (Q : zQ) : zK := i_lb (fun x y => x * y) <| i_lst 9 <| i_inc 11 1 <| i_jmp X 5 [true, true, true, true, false, true, false, true, true, true, false, true]
def k_X12_colds_7 (X : Nat → zK) (Q : zQ) : zK := i_lc 0 <| i_jmp X 8 [true, true, true, false, false, true, false, true, true]
def k_X12_colds_8 (X : Nat → zK) (Q : zQ) : zK := i_lb (fun x y => x + y) <| i_lst 3 <| i_inc 8 1 <| i_jmp X 3 [true, true, true, true, false, true, false, true, true]
def F_X12_colds (Q : zQ) (X : Nat → zK) : Nat → zK
  | 0 => k_X12_colds_0 X Q
  | 1 => k_X12_colds_1 X Q
  | 2 => k_X12_colds_2 X Q
  | 3 => k_X12_colds_3 X Q
  | 4 => k_X12_colds_4 X Q
  | 5 => k_X12_colds_5 X Q
  | 6 => k_X12_colds_6 X Q
  | 7 => k_X12_colds_7 X Q
  | 8 => k_X12_colds_8 X Q
  | _ => fun _ _ _ => False
def T_X12_colds : zTy := fun vs σ Q => zok 12 vs = true ∧ zFix (F_X12_colds Q) 0 (zlc vs) [] σ
def k_X12_sundays_0 (X : Nat → zK) (Q : zQ) : zK := i_il 1 <| i_i2l <| i_lc 0 <| i_lc 999999 <| i_call 3 T_X12_in <| i_if (fun x => x = 0) (fun x => ¬ x = 0) (i_jmp X 1 [true]) <| i_il 2 <| i_i2l <| i_lc 0 <| i_lc 60 <| i_call 3 T_X12_in <| i_if (fun x => ¬ x = 0) (fun x => x = 0) (i_il 1 <| i_i2l <| i_lst 3 <| i_ic 0 <| i_is 5 <| i_al 0 <| i_cv 12 1 T_X12_layHand <| i_ic 0 <| i_is 6 <| i_jmp X 2 [true, false, true, true, false, true, true]) <| i_jmp X 1 [true]
def k_X12_sundays_1 (X : Nat → zK) (Q : zQ) : zK := i_al 0 <| i_ic (-2) <| i_cv 12 2 T_X12_bad <| i_ir Q
def k_X12_sundays_2 (X : Nat → zK) (Q : zQ) : zK := i_il 6 <| i_il 2 <| i_cmp (fun x y => y ≤ x) (fun x y => ¬ y ≤ x) (i_il 5 <| i_ir Q) <| i_al 0 <| i_ic 0 <| i_pf 12 9 <| i_ic 0 <| i_is 7 <| i_jmp X 3 [true, false, true, true, false, true, true, true]
def k_X12_sundays_3 (X : Nat → zK) (Q : zQ) : zK := i_il 7 <| i_al 0 <| i_cv 12 1 T_X12_many <| i_cmp (fun x y => y ≤ x) (fun x y => ¬ y ≤ x) (i_il 5 <| i_al 0 <| i_cv 12 1 T_X12_peaces <| i_ic 16 <| i_cmp (fun x y => ¬ x = y) (fun x y => x = y) (i_ic 0 <| i_jmp X 5 [true, false, true, true, false, false, true]) <| i_ic 1 <| i_jmp X 5 [true, false, true, true, false, false, true]) <| i_ll 3 <| i_lc 1103515245 <| i_lb (fun x y => x * y) <| i_lc 12345 <| i_lb (fun x y => x + y) <| i_lc 2147483648 <| i_lrem <| i_lst 3 <| i_al 0 <| i_dup <| i_gf 12 9 <| i_ll 3 <| i_lc 65536 <| i_ldiv <| i_lc 4 <| i_lrem <| i_lc 0 <| i_lcmp <| i_if (fun x => ¬ x = 0) (fun x => x = 0) (i_ic 0 <| i_jmp X 4 [true, false, true, true, false, true, true, true]) <| i_ic 1 <| i_il 7 <| i_ib (fun x y => x <<< (y &&& 31)) <| i_jmp X 4 [true, false, true, true, false, true, true, true]
def k_X12_sundays_4 (X : Nat → zK) (Q : zQ) : zK := i_ib (fun x y => x ||| y) <| i_pf 12 9 <| i_inc 7 1 <| i_jmp X 3 [true, false, true, true, false, true, true, true]
def k_X12_sundays_5 (X : Nat → zK) (Q : zQ) : zK := i_ib (fun x y => x + y) <| i_is 5 <| i_inc 6 1 <| i_jmp X 2 [true, false, true, true, false, true, true]
def F_X12_sundays (Q : zQ) (X : Nat → zK) : Nat → zK
  | 0 => k_X12_sundays_0 X Q
  | 1 => k_X12_sundays_1 X Q
  | 2 => k_X12_sundays_2 X Q
  | 3 => k_X12_sundays_3 X Q
  | 4 => k_X12_sundays_4 X Q
  | 5 => k_X12_sundays_5 X Q
  | _ => fun _ _ _ => False
def T_X12_sundays : zTy := fun vs σ Q => zok 8 vs = true ∧ zFix (F_X12_sundays Q) 0 (zlc vs) [] σ
def k_X12_type_0 (X : Nat → zK) (Q : zQ) : zK := i_il 1 <| i_i2l <| i_lc 0 <| i_lc 127 <| i_call 3 T_X12_in <| i_if (fun x => ¬ x = 0) (fun x => x = 0) (i_al 0 <| i_gf 12 18 <| i_ic 150 <| i_cmp (fun x y => ¬ x = y) (fun x y => x = y) (i_al 0 <| i_gf 12 17 <| i_al 0 <| i_gf 12 18 <| i_il 1 <| i_iast <| i_al 0 <| i_dup <| i_gf 12 18 <| i_ic 1 <| i_ib (fun x y => x + y) <| i_pf 12 18 <| i_al 0 <| i_gf 12 18 <| i_ir Q) <| i_al 0 <| i_cv 12 1 T_X12_full <| i_ir Q) <| i_al 0 <| i_ic (-2) <| i_cv 12 2 T_X12_bad <| i_ir Q
def F_X12_type (Q : zQ) (X : Nat → zK) : Nat → zK
  | 0 => k_X12_type_0 X Q
  | _ => fun _ _ _ => False
def T_X12_type : zTy := fun vs σ Q => zok 2 vs = true ∧ zFix (F_X12_type Q) 0 (zlc vs) [] σ
def k_X12_clear_0 (X : Nat → zK) (Q : zQ) : zK := i_al 0 <| i_gf 12 18 <| i_is 1 <| i_al 0 <| i_ic 0 <| i_pf 12 18 <| i_il 1 <| i_ir Q
def F_X12_clear (Q : zQ) (X : Nat → zK) : Nat → zK
  | 0 => k_X12_clear_0 X Q
  | _ => fun _ _ _ => False
def T_X12_clear : zTy := fun vs σ Q => zok 2 vs = true ∧ zFix (F_X12_clear Q) 0 (zlc vs) [] σ
def k_X12_isSmall_0 (X : Nat → zK) (Q : zQ) : zK := i_il 0 <| i_i2l <| i_lc 97 <| i_lc 122 <| i_call 3 T_X12_in <| i_zr Q
def F_X12_isSmall (Q : zQ) (X : Nat → zK) : Nat → zK
  | 0 => k_X12_isSmall_0 X Q
  | _ => fun _ _ _ => False
def T_X12_isSmall : zTy := fun vs σ Q => zok 1 vs = true ∧ zFix (F_X12_isSmall Q) 0 (zlc vs) [] σ
def k_X12_isFigure_0 (X : Nat → zK) (Q : zQ) : zK := i_il 0 <| i_i2l <| i_lc 48 <| i_lc 57 <| i_call 3 T_X12_in <| i_zr Q
def F_X12_isFigure (Q : zQ) (X : Nat → zK) : Nat → zK
  | 0 => k_X12_isFigure_0 X Q
  | _ => fun _ _ _ => False
def T_X12_isFigure : zTy := fun vs σ Q => zok 1 vs = true ∧ zFix (F_X12_isFigure Q) 0 (zlc vs) [] σ
def k_X12_lookAt_0 (X : Nat → zK) (Q : zQ) : zK := i_al 0 <| i_il 1 <| i_pf 12 19 <| i_jmp X 1 [true]
def k_X12_lookAt_1 (X : Nat → zK) (Q : zQ) : zK := i_al 0 <| i_gf 12 19 <| i_al 0 <| i_gf 12 18 <| i_cmp (fun x y => y ≤ x) (fun x y => ¬ y ≤ x) (i_jmp X 2 [true]) <| i_al 0 <| i_gf 12 17 <| i_al 0 <| i_gf 12 19 <| i_ia <| i_ic 32 <| i_cmp (fun x y => ¬ x = y) (fun x y => x = y) (i_jmp X 2 [true]) <| i_al 0 <| i_dup <| i_gf 12 19 <| i_ic 1 <| i_ib (fun x y => x + y) <| i_pf 12 19 <| i_jmp X 1 [true]
def k_X12_lookAt_2 (X : Nat → zK) (Q : zQ) : zK := i_al 0 <| i_ic 0 <| i_pf 12 20 <| i_al 0 <| i_ic 0 <| i_pf 12 21 <| i_al 0 <| i_ic 0 <| i_pf 12 22 <| i_al 0 <| i_gf 12 19 <| i_al 0 <| i_gf 12 18 <| i_cmp (fun x y => ¬ x = y) (fun x y => x = y) (i_al 0 <| i_gf 12 17 <| i_al 0 <| i_gf 12 19 <| i_ia <| i_is 2 <| i_al 0 <| i_il 2 <| i_call 1 T_X12_isSmall <| i_if (fun x => x = 0) (fun x => ¬ x = 0) (i_il 2 <| i_call 1 T_X12_isFigure <| i_if (fun x => x = 0) (fun x => ¬ x = 0) (i_il 2 <| i_ic 59 <| i_cmp (fun x y => ¬ x = y) (fun x y => x = y) (i_ic 4 <| i_jmp X 3 [true]) <| i_ic 3 <| i_jmp X 3 [true]) <| i_ic 2 <| i_jmp X 3 [true]) <| i_ic 1 <| i_jmp X 3 [true]) <| i_vr Q
def k_X12_lookAt_3 (X : Nat → zK) (Q : zQ) : zK := i_pf 12 21 <| i_al 0 <| i_ic 1 <| i_pf 12 20 <| i_al 0 <| i_gf 12 21 <| i_ic 3 <| i_cmp (fun x y => y ≤ x) (fun x y => ¬ y ≤ x) (i_ic 0 <| i_jmp X 4 [true]) <| i_ic 1 <| i_jmp X 4 [true]
def k_X12_lookAt_4 (X : Nat → zK) (Q : zQ) : zK := i_is 3 <| i_jmp X 5 [true, false, false, true]
def k_X12_lookAt_5 (X : Nat → zK) (Q : zQ) : zK := i_il 3 <| i_if (fun x => x = 0) (fun x => ¬ x = 0) (i_jmp X 8 [true]) <| i_al 0 <| i_gf 12 19 <| i_al 0 <| i_gf 12 20 <| i_ib (fun x y => x + y) <| i_al 0 <| i_gf 12 18 <| i_cmp (fun x y => y ≤ x) (fun x y => ¬ y ≤ x) (i_jmp X 8 [true]) <| i_al 0 <| i_gf 12 17 <| i_al 0 <| i_gf 12 19 <| i_al 0 <| i_gf 12 20 <| i_ib (fun x y => x + y) <| i_ia <| i_is 4 <| i_al 0 <| i_gf 12 21 <| i_ic 1 <| i_cmp (fun x y => ¬ x = y) (fun x y => x = y) (i_il 4 <| i_call 1 T_X12_isFigure <| i_jmp X 6 [true]) <| i_il 4 <| i_call 1 T_X12_isSmall <| i_jmp X 6 [true]
def k_X12_lookAt_6 (X : Nat → zK) (Q : zQ) : zK := i_is 3 <| i_al 0 <| i_dup <| i_gf 12 20 <| i_il 3 <| i_if (fun x => x = 0) (fun x => ¬ x = 0) (i_ic 0 <| i_jmp X 7 [true, false, false, true]) <| i_ic 1 <| i_jmp X 7 [true, false, false, true]
def k_X12_lookAt_7 (X : Nat → zK) (Q : zQ) : zK := i_ib (fun x y => x + y) <| i_pf 12 20 <| i_jmp X 5 [true, false, false, true]
def k_X12_lookAt_8 (X : Nat → zK) (Q : zQ) : zK := i_ic 0 <| i_is 4 <| i_jmp X 9 [true, false, false, false, true]
def k_X12_lookAt_9 (X : Nat → zK) (Q : zQ) : zK := i_il 4 <| i_al 0 <| i_gf 12 20 <| i_cmp (fun x y => y ≤ x) (fun x y => ¬ y ≤ x) (i_jmp X 10 [true]) <| i_il 4 <| i_ic 2 <| i_cmp (fun x y => y ≤ x) (fun x y => ¬ y ≤ x) (i_jmp X 10 [true]) <| i_al 0 <| i_gf 12 21 <| i_ic 2 <| i_cmp (fun x y => ¬ x = y) (fun x y => x = y) (i_jmp X 10 [true]) <| i_al 0 <| i_ic 10 <| i_al 0 <| i_gf 12 22 <| i_ib (fun x y => x * y) <| i_al 0 <| i_gf 12 17 <| i_al 0 <| i_gf 12 19 <| i_il 4 <| i_ib (fun x y => x + y) <| i_ia <| i_ib (fun x y => x + y) <| i_ic 48 <| i_ib (fun x y => x - y) <| i_pf 12 22 <| i_inc 4 1 <| i_jmp X 9 [true, false, false, false, true]
def k_X12_lookAt_10 (X : Nat → zK) (Q : zQ) : zK := i_al 0 <| i_al 0 <| i_gf 12 21 <| i_ic 2 <| i_cmp (fun x y => ¬ x = y) (fun x y => x = y) (i_jmp X 11 [true]) <| i_al 0 <| i_gf 12 20 <| i_ic 2 <| i_cmp (fun x y => x ≤ y) (fun x y => ¬ x ≤ y) (i_jmp X 11 [true]) <| i_ic 4 <| i_pf 12 21 <| i_vr Q
def k_X12_lookAt_11 (X : Nat → zK) (Q : zQ) : zK := i_al 0 <| i_gf 12 21 <| i_pf 12 21 <| i_vr Q
def F_X12_lookAt (Q : zQ) (X : Nat → zK) : Nat → zK
  | 0 => k_X12_lookAt_0 X Q
  | 1 => k_X12_lookAt_1 X Q
  | 2 => k_X12_lookAt_2 X Q
  | 3 => k_X12_lookAt_3 X Q
  | 4 => k_X12_lookAt_4 X Q
  | 5 => k_X12_lookAt_5 X Q
  | 6 => k_X12_lookAt_6 X Q
  | 7 => k_X12_lookAt_7 X Q
  | 8 => k_X12_lookAt_8 X Q
  | 9 => k_X12_lookAt_9 X Q
  | 10 => k_X12_lookAt_10 X Q
  | 11 => k_X12_lookAt_11 X Q
  | _ => fun _ _ _ => False
def T_X12_lookAt : zTy := fun vs σ Q => zok 5 vs = true ∧ zFix (F_X12_lookAt Q) 0 (zlc vs) [] σ
def k_X12_goBehind_0 (X : Nat → zK) (Q : zQ) : zK := i_al 0 <| i_al 0 <| i_gf 12 19 <| i_al 0 <| i_gf 12 20 <| i_ib (fun x y => x + y) <| i_cv 12 2 T_X12_lookAt <| i_vr Q
def F_X12_goBehind (Q : zQ) (X : Nat → zK) : Nat → zK
  | 0 => k_X12_goBehind_0 X Q
  | _ => fun _ _ _ => False
def T_X12_goBehind : zTy := fun vs σ Q => zok 1 vs = true ∧ zFix (F_X12_goBehind Q) 0 (zlc vs) [] σ
def k_X12_spells_0 (X : Nat → zK) (Q : zQ) : zK := i_al 0 <| i_gf 12 21 <| i_ic 1 <| i_cmp (fun x y => ¬ x = y) (fun x y => x = y) (i_jmp X 1 [true, true, true, true, true, true, true, true]) <| i_al 0 <| i_gf 12 20 <| i_il 1 <| i_cmp (fun x y => ¬ x = y) (fun x y => x = y) (i_jmp X 1 [true, true, true, true, true, true, true, true]) <| i_ic 1 <| i_jmp X 2 [true, true, true, true, true, true, true, true]
def k_X12_spells_1 (X : Nat → zK) (Q : zQ) : zK := i_ic 0 <| i_jmp X 2 [true, true, true, true, true, true, true, true]
def k_X12_spells_2 (X : Nat → zK) (Q : zQ) : zK := i_is 8 <| i_ic 0 <| i_is 9 <| i_jmp X 3 [true, true, true, true, true, true, true, true, true, true]
def k_X12_spells_3 (X : Nat → zK) (Q : zQ) : zK := i_il 9 <| i_il 1 <| i_cmp (fun x y => y ≤ x) (fun x y => ¬ y ≤ x) (i_il 8 <| i_zr Q) <| i_il 8 <| i_if (fun x => x = 0) (fun x => ¬ x = 0) (i_il 8 <| i_zr Q) <| i_al 0 <| i_gf 12 17 <| i_al 0 <| i_gf 12 19 <| i_il 9 <| i_ib (fun x y => x + y) <| i_ia <| i_il 9 <| i_if (fun x => ¬ x = 0) (fun x => x = 0) (i_il 9 <| i_ic 1 <| i_cmp (fun x y => ¬ x = y) (fun x y => x = y) (i_il 9 <| i_ic 2 <| i_cmp (fun x y => ¬ x = y) (fun x y => x = y) (i_il 9 <| i_ic 3 <| i_cmp (fun x y => ¬ x = y) (fun x y => x = y) (i_il 9 <| i_ic 4 <| i_cmp (fun x y => ¬ x = y) (fun x y => x = y) (i_il 7 <| i_jmp X 4 [true, true, true, true, true, true, true, true, false, true]) <| i_il 6 <| i_jmp X 4 [true, true, true, true, true, true, true, true, false, true]) <| i_il 5 <| i_jmp X 4 [true, true, true, true, true, true, true, true, false, true]) <| i_il 4 <| i_jmp X 4 [true, true, true, true, true, true, true, true, false, true]) <| i_il 3 <| i_jmp X 4 [true, true, true, true, true, true, true, true, false, true]) <| i_il 2 <| i_jmp X 4 [true, true, true, true, true, true, true, true, false, true]
def k_X12_spells_4 (X : Nat → zK) (Q : zQ) : zK := i_cmp (fun x y => ¬ x = y) (fun x y => x = y) (i_ic 0 <| i_jmp X 5 [true, true, true, true, true, true, true, true, false, true]) <| i_ic 1 <| i_jmp X 5 [true, true, true, true, true, true, true, true, false, true]
def k_X12_spells_5 (X : Nat → zK) (Q : zQ) : zK := i_is 8 <| i_inc 9 1 <| i_jmp X 3 [true, true, true, true, true, true, true, true, true, true]
def F_X12_spells (Q : zQ) (X : Nat → zK) : Nat → zK
  | 0 => k_X12_spells_0 X Q
  | 1 => k_X12_spells_1 X Q
  | 2 => k_X12_spells_2 X Q
  | 3 => k_X12_spells_3 X Q
  | 4 => k_X12_spells_4 X Q
  | 5 => k_X12_spells_5 X Q
  | _ => fun _ _ _ => False
def T_X12_spells : zTy := fun vs σ Q => zok 10 vs = true ∧ zFix (F_X12_spells Q) 0 (zlc vs) [] σ
def k_X12_takes_0 (X : Nat → zK) (Q : zQ) : zK := i_al 0 <| i_gf 12 21 <| i_ic 2 <| i_cmp (fun x y => ¬ x = y) (fun x y => x = y) (i_ic 0 <| i_zr Q) <| i_al 0 <| i_gf 12 22 <| i_i2l <| i_il 2 <| i_i2l <| i_il 3 <| i_i2l <| i_call 3 T_X12_in <| i_if (fun x => ¬ x = 0) (fun x => x = 0) (i_al 0 <| i_gf 12 24 <| i_il 1 <| i_al 0 <| i_gf 12 22 <| i_iast <| i_al 0 <| i_cv 12 1 T_X12_goBehind <| i_ic 1 <| i_zr Q) <| i_ic 0 <| i_zr Q
def F_X12_takes (Q : zQ) (X : Nat → zK) : Nat → zK
  | 0 => k_X12_takes_0 X Q
  | _ => fun _ _ _ => False
def T_X12_takes : zTy := fun vs σ Q => zok 4 vs = true ∧ zFix (F_X12_takes Q) 0 (zlc vs) [] σ
def k_X12_takesChurch_0 (X : Nat → zK) (Q : zQ) : zK := i_al 0 <| i_ic 6 <| i_ic 99 <| i_ic 104 <| i_ic 117 <| i_ic 114 <| i_ic 99 <| i_ic 104 <| i_cv 12 8 T_X12_spells <| i_if (fun x => ¬ x = 0) (fun x => x = 0) (i_al 0 <| i_cv 12 1 T_X12_goBehind <| i_al 0 <| i_ic 0 <| i_ic 0 <| i_ic 30 <| i_cv 12 4 T_X12_takes <| i_if (fun x => ¬ x = 0) (fun x => x = 0) (i_al 0 <| i_gf 12 23 <| i_al 0 <| i_gf 12 24 <| i_ic 0 <| i_ia <| i_call 2 T_X12_begin <| i_al 0 <| i_gf 12 21 <| i_ic 3 <| i_cmp (fun x y => ¬ x = y) (fun x y => x = y) (i_ic 0 <| i_zr Q) <| i_ic 1 <| i_zr Q) <| i_ic 0 <| i_zr Q) <| i_ic 0 <| i_zr Q
def F_X12_takesChurch (Q : zQ) (X : Nat → zK) : Nat → zK
  | 0 => k_X12_takesChurch_0 X Q
  | _ => fun _ _ _ => False
def T_X12_takesChurch : zTy := fun vs σ Q => zok 1 vs = true ∧ zFix (F_X12_takesChurch Q) 0 (zlc vs) [] σ
def k_X12_takesBook_0 (X : Nat → zK) (Q : zQ) : zK := i_al 0 <| i_cv 12 1 T_X12_goBehind <| i_al 0 <| i_ic 0 <| i_ic 0 <| i_ic 1 <| i_cv 12 4 T_X12_takes <| i_if (fun x => ¬ x = 0) (fun x => x = 0) (i_ic 0 <| i_is 1 <| i_jmp X 1 [true, true]) <| i_ic 0 <| i_zr Q
def k_X12_takesBook_1 (X : Nat → zK) (Q : zQ) : zK := i_al 0 <| i_gf 12 21 <| i_ic 2 <| i_cmp (fun x y => ¬ x = y) (fun x y => x = y) (i_al 0 <| i_gf 12 23 <| i_ic 2 <| i_al 0 <| i_gf 12 24 <| i_ic 0 <| i_ia <| i_ib (fun x y => x + y) <| i_il 1 <| i_iast <| i_ic 1 <| i_zr Q) <| i_al 0 <| i_ic 1 <| i_ic 0 <| i_ic 15 <| i_cv 12 4 T_X12_takes <| i_if (fun x => ¬ x = 0) (fun x => x = 0) (i_il 1 <| i_ic 1 <| i_al 0 <| i_gf 12 24 <| i_ic 1 <| i_ia <| i_ib (fun x y => x <<< (y &&& 31)) <| i_ib (fun x y => x ||| y) <| i_is 1 <| i_jmp X 1 [true, true]) <| i_ic 0 <| i_zr Q
def F_X12_takesBook (Q : zQ) (X : Nat → zK) : Nat → zK
  | 0 => k_X12_takesBook_0 X Q
  | 1 => k_X12_takesBook_1 X Q
  | _ => fun _ _ _ => False
def T_X12_takesBook : zTy := fun vs σ Q => zok 2 vs = true ∧ zFix (F_X12_takesBook Q) 0 (zlc vs) [] σ
def k_X12_takesFamily_0 (X : Nat → zK) (Q : zQ) : zK := i_al 0 <| i_gf 12 23 <| i_ic 0 <| i_ia <| i_ic 7 <| i_cmp (fun x y => ¬ x = y) (fun x y => x = y) (i_al 0 <| i_cv 12 1 T_X12_goBehind <| i_al 0 <| i_ic 0 <| i_ic 0 <| i_ic 5 <| i_cv 12 4 T_X12_takes <| i_if (fun x => x = 0) (fun x => ¬ x = 0) (i_ic 0 <| i_zr Q) <| i_al 0 <| i_ic 1 <| i_ic 0 <| i_ic 1 <| i_cv 12 4 T_X12_takes <| i_if (fun x => x = 0) (fun x => ¬ x = 0) (i_ic 0 <| i_zr Q) <| i_al 0 <| i_ic 2 <| i_ic 1 <| i_ic 9 <| i_cv 12 4 T_X12_takes <| i_if (fun x => x = 0) (fun x => ¬ x = 0) (i_ic 0 <| i_zr Q) <| i_al 0 <| i_ic 3 <| i_ic 1 <| i_ic 20 <| i_cv 12 4 T_X12_takes <| i_if (fun x => ¬ x = 0) (fun x => x = 0) (i_al 0 <| i_gf 12 21 <| i_ic 2 <| i_cmp (fun x y => ¬ x = y) (fun x y => x = y) (i_ic 0 <| i_zr Q) <| i_al 0 <| i_gf 12 22 <| i_al 0 <| i_gf 12 24 <| i_ic 1 <| i_ia <| i_call 2 T_X12_isPewOf <| i_if (fun x => x = 0) (fun x => ¬ x = 0) (i_ic 0 <| i_zr Q) <| i_al 0 <| i_gf 12 23 <| i_al 0 <| i_gf 12 22 <| i_call 2 T_X12_isTaken <| i_if (fun x => ¬ x = 0) (fun x => x = 0) (i_ic 0 <| i_zr Q) <| i_al 0 <| i_ic 4 <| i_ic 0 <| i_ic 9 <| i_cv 12 4 T_X12_takes <| i_if (fun x => ¬ x = 0) (fun x => x = 0) (i_al 0 <| i_gf 12 23 <| i_al 0 <| i_gf 12 24 <| i_ic 0 <| i_ia <| i_al 0 <| i_gf 12 24 <| i_ic 1 <| i_ia <| i_al 0 <| i_gf 12 24 <| i_ic 2 <| i_ia <| i_al 0 <| i_gf 12 24 <| i_ic 3 <| i_ia <| i_al 0 <| i_gf 12 24 <| i_ic 4 <| i_ia <| i_call 6 T_X12_layFamily <| i_ic 1 <| i_zr Q) <| i_ic 0 <| i_zr Q) <| i_ic 0 <| i_zr Q) <| i_ic 0 <| i_zr Q
def F_X12_takesFamily (Q : zQ) (X : Nat → zK) : Nat → zK
  | 0 => k_X12_takesFamily_0 X Q
  | _ => fun _ _ _ => False
def T_X12_takesFamily : zTy := fun vs σ Q => zok 1 vs = true ∧ zFix (F_X12_takesFamily Q) 0 (zlc vs) [] σ
def k_X12_takesCold_0 (X : Nat → zK) (Q : zQ) : zK := i_al 0 <| i_cv 12 1 T_X12_goBehind <| i_al 0 <| i_ic 0 <| i_ic 0 <| i_al 0 <| i_gf 12 23 <| i_ic 0 <| i_ia <| i_ic 1 <| i_ib (fun x y => x - y) <| i_cv 12 4 T_X12_takes <| i_if (fun x => ¬ x = 0) (fun x => x = 0) (i_al 0 <| i_gf 12 23 <| i_ic 6 <| i_ic 6 <| i_al 0 <| i_gf 12 24 <| i_ic 0 <| i_ia <| i_ib (fun x y => x * y) <| i_ib (fun x y => x + y) <| i_ic 5 <| i_ib (fun x y => x + y) <| i_ic 1 <| i_iast <| i_ic 1 <| i_zr Q) <| i_ic 0 <| i_zr Q
def F_X12_takesCold (Q : zQ) (X : Nat → zK) : Nat → zK
  | 0 => k_X12_takesCold_0 X Q
  | _ => fun _ _ _ => False
def T_X12_takesCold : zTy := fun vs σ Q => zok 1 vs = true ∧ zFix (F_X12_takesCold Q) 0 (zlc vs) [] σ
def k_X12_takesItem_0 (X : Nat → zK) (Q : zQ) : zK := i_al 0 <| i_ic 4 <| i_ic 98 <| i_ic 111 <| i_ic 111 <| i_ic 107 <| i_ic 0 <| i_ic 0 <| i_cv 12 8 T_X12_spells <| i_if (fun x => x = 0) (fun x => ¬ x = 0) (i_al 0 <| i_ic 6 <| i_ic 102 <| i_ic 97 <| i_ic 109 <| i_ic 105 <| i_ic 108 <| i_ic 121 <| i_cv 12 8 T_X12_spells <| i_if (fun x => x = 0) (fun x => ¬ x = 0) (i_al 0 <| i_ic 4 <| i_ic 99 <| i_ic 111 <| i_ic 108 <| i_ic 100 <| i_ic 0 <| i_ic 0 <| i_cv 12 8 T_X12_spells <| i_if (fun x => x = 0) (fun x => ¬ x = 0) (i_ic 0 <| i_zr Q) <| i_al 0 <| i_cv 12 1 T_X12_takesCold <| i_if (fun x => x = 0) (fun x => ¬ x = 0) (i_ic 0 <| i_zr Q) <| i_ic 1 <| i_zr Q) <| i_al 0 <| i_cv 12 1 T_X12_takesFamily <| i_zr Q) <| i_al 0 <| i_cv 12 1 T_X12_takesBook <| i_zr Q
def F_X12_takesItem (Q : zQ) (X : Nat → zK) : Nat → zK
  | 0 => k_X12_takesItem_0 X Q
  | _ => fun _ _ _ => False
def T_X12_takesItem : zTy := fun vs σ Q => zok 1 vs = true ∧ zFix (F_X12_takesItem Q) 0 (zlc vs) [] σ
def k_X12_read_0 (X : Nat → zK) (Q : zQ) : zK := i_al 0 <| i_ic 0 <| i_cv 12 2 T_X12_lookAt <| i_al 0 <| i_cv 12 1 T_X12_takesChurch <| i_if (fun x => ¬ x = 0) (fun x => x = 0) (i_al 0 <| i_cv 12 1 T_X12_goBehind <| i_ic 1 <| i_is 1 <| i_jmp X 1 [true, true]) <| i_ic (-10) <| i_al 0 <| i_gf 12 19 <| i_ib (fun x y => x - y) <| i_ir Q
def k_X12_read_1 (X : Nat → zK) (Q : zQ) : zK := i_al 0 <| i_gf 12 21 <| i_if (fun x => x = 0) (fun x => ¬ x = 0) (i_ic 0 <| i_is 2 <| i_jmp X 3 [true, true, true]) <| i_al 0 <| i_cv 12 1 T_X12_takesItem <| i_if (fun x => x = 0) (fun x => ¬ x = 0) (i_jmp X 2 [true]) <| i_al 0 <| i_gf 12 21 <| i_ic 3 <| i_cmp (fun x y => x = y) (fun x y => ¬ x = y) (i_al 0 <| i_cv 12 1 T_X12_goBehind <| i_inc 1 1 <| i_jmp X 1 [true, true]) <| i_jmp X 2 [true]
def k_X12_read_2 (X : Nat → zK) (Q : zQ) : zK := i_ic (-10) <| i_al 0 <| i_gf 12 19 <| i_ib (fun x y => x - y) <| i_ir Q
def k_X12_read_3 (X : Nat → zK) (Q : zQ) : zK := i_il 2 <| i_ic 66 <| i_cmp (fun x y => y ≤ x) (fun x y => ¬ y ≤ x) (i_il 1 <| i_ir Q) <| i_al 0 <| i_gf 12 0 <| i_il 2 <| i_al 0 <| i_gf 12 23 <| i_il 2 <| i_ia <| i_iast <| i_inc 2 1 <| i_jmp X 3 [true, true, true]
def F_X12_read (Q : zQ) (X : Nat → zK) : Nat → zK
  | 0 => k_X12_read_0 X Q
  | 1 => k_X12_read_1 X Q
  | 2 => k_X12_read_2 X Q
  | 3 => k_X12_read_3 X Q
  | _ => fun _ _ _ => False
def T_X12_read : zTy := fun vs σ Q => zok 3 vs = true ∧ zFix (F_X12_read Q) 0 (zlc vs) [] σ
def k_X12_part_0 (X : Nat → zK) (Q : zQ) : zK := i_il 1 <| i_if (fun x => ¬ x = 0) (fun x => x = 0) (i_il 1 <| i_ic 1 <| i_cmp (fun x y => ¬ x = y) (fun x y => x = y) (i_al 0 <| i_ic (-2) <| i_cv 12 2 T_X12_bad <| i_i2l <| i_lr Q) <| i_al 0 <| i_gf 12 5 <| i_lr Q) <| i_al 0 <| i_gf 12 4 <| i_lr Q
def F_X12_part (Q : zQ) (X : Nat → zK) : Nat → zK
  | 0 => k_X12_part_0 X Q
  | _ => fun _ _ _ => False
def T_X12_part : zTy := fun vs σ Q => zok 2 vs = true ∧ zFix (F_X12_part Q) 0 (zlc vs) [] σ
def k_X12_image_0 (X : Nat → zK) (Q : zQ) : zK := i_il 1 <| i_i2l <| i_lc 0 <| i_lc 1 <| i_call 3 T_X12_in <| i_if (fun x => ¬ x = 0) (fun x => x = 0) (i_ic 0 <| i_is 2 <| i_jmp X 1 [true, true, true]) <| i_al 0 <| i_ic (-2) <| i_cv 12 2 T_X12_bad <| i_ir Q
def k_X12_image_1 (X : Nat → zK) (Q : zQ) : zK := i_il 2 <| i_ic 178 <| i_cmp (fun x y => y ≤ x) (fun x y => ¬ y ≤ x) (i_al 0 <| i_gf 12 2 <| i_il 1 <| i_ic 1 <| i_bast <| i_ic 1 <| i_ir Q) <| i_al 0 <| i_gf 12 1 <| i_ic 178 <| i_il 1 <| i_ib (fun x y => x * y) <| i_il 2 <| i_ib (fun x y => x + y) <| i_al 0 <| i_gf 12 0 <| i_il 2 <| i_ia <| i_iast <| i_inc 2 1 <| i_jmp X 1 [true, true, true]
def F_X12_image (Q : zQ) (X : Nat → zK) : Nat → zK
  | 0 => k_X12_image_0 X Q
  | 1 => k_X12_image_1 X Q
  | _ => fun _ _ _ => False
def T_X12_image : zTy := fun vs σ Q => zok 3 vs = true ∧ zFix (F_X12_image Q) 0 (zlc vs) [] σ
def k_X12_from_0 (X : Nat → zK) (Q : zQ) : zK := i_il 1 <| i_i2l <| i_lc 0 <| i_lc 1 <| i_call 3 T_X12_in <| i_if (fun x => ¬ x = 0) (fun x => x = 0) (i_al 0 <| i_gf 12 2 <| i_il 1 <| i_ba <| i_if (fun x => ¬ x = 0) (fun x => x = 0) (i_ic 0 <| i_is 2 <| i_jmp X 1 [true, true, true]) <| i_al 0 <| i_cv 12 1 T_X12_no <| i_ir Q) <| i_al 0 <| i_ic (-2) <| i_cv 12 2 T_X12_bad <| i_ir Q
def k_X12_from_1 (X : Nat → zK) (Q : zQ) : zK := i_il 2 <| i_ic 178 <| i_cmp (fun x y => y ≤ x) (fun x y => ¬ y ≤ x) (i_ic 1 <| i_ir Q) <| i_al 0 <| i_gf 12 0 <| i_il 2 <| i_al 0 <| i_gf 12 1 <| i_ic 178 <| i_il 1 <| i_ib (fun x y => x * y) <| i_il 2 <| i_ib (fun x y => x + y) <| i_ia <| i_iast <| i_inc 2 1 <| i_jmp X 1 [true, true, true]
def F_X12_from (Q : zQ) (X : Nat → zK) : Nat → zK
  | 0 => k_X12_from_0 X Q
  | 1 => k_X12_from_1 X Q
  | _ => fun _ _ _ => False
def T_X12_from : zTy := fun vs σ Q => zok 3 vs = true ∧ zFix (F_X12_from Q) 0 (zlc vs) [] σ
def k_X12_status_0 (X : Nat → zK) (Q : zQ) : zK := i_il 1 <| i_i2l <| i_lc 0 <| i_lc 2 <| i_call 3 T_X12_in <| i_if (fun x => x = 0) (fun x => ¬ x = 0) (i_al 0 <| i_ic (-1) <| i_cv 12 2 T_X12_bad <| i_ir Q) <| i_al 0 <| i_gf 12 3 <| i_il 1 <| i_ia <| i_ir Q
def F_X12_status (Q : zQ) (X : Nat → zK) : Nat → zK
  | 0 => k_X12_status_0 X Q
  | _ => fun _ _ _ => False
def T_X12_status : zTy := fun vs σ Q => zok 2 vs = true ∧ zFix (F_X12_status Q) 0 (zlc vs) [] σ
def k_X12_counted_0 (X : Nat → zK) (Q : zQ) : zK := i_al 0 <| i_cv 12 1 T_X12_layHand <| i_il 1 <| i_sw [(0, i_al 0 <| i_cv 12 1 T_X12_many <| i_ir Q), (1, i_al 0 <| i_gf 12 0 <| i_ic 1 <| i_ia <| i_ir Q), (2, i_al 0 <| i_gf 12 9 <| i_call 1 T_X12_bits <| i_ir Q), (3, i_al 0 <| i_cv 12 1 T_X12_peaces <| i_ir Q), (4, i_al 0 <| i_gf 12 0 <| i_ic 4 <| i_ia <| i_ir Q), (5, i_al 0 <| i_gf 12 0 <| i_ic 5 <| i_ia <| i_ir Q)] (i_al 0 <| i_gf 12 18 <| i_ir Q)
def F_X12_counted (Q : zQ) (X : Nat → zK) : Nat → zK
  | 0 => k_X12_counted_0 X Q
  | _ => fun _ _ _ => False
def T_X12_counted : zTy := fun vs σ Q => zok 2 vs = true ∧ zFix (F_X12_counted Q) 0 (zlc vs) [] σ
def k_X12_count_0 (X : Nat → zK) (Q : zQ) : zK := i_il 1 <| i_i2l <| i_lc 0 <| i_lc 6 <| i_call 3 T_X12_in <| i_if (fun x => x = 0) (fun x => ¬ x = 0) (i_al 0 <| i_ic (-2) <| i_cv 12 2 T_X12_bad <| i_ir Q) <| i_al 0 <| i_il 1 <| i_cv 12 2 T_X12_counted <| i_ir Q
def F_X12_count (Q : zQ) (X : Nat → zK) : Nat → zK
  | 0 => k_X12_count_0 X Q
  | _ => fun _ _ _ => False
def T_X12_count : zTy := fun vs σ Q => zok 2 vs = true ∧ zFix (F_X12_count Q) 0 (zlc vs) [] σ
def k_X12_sums_0 (X : Nat → zK) (Q : zQ) : zK := i_ll 1 <| i_lst 5 <| i_ic 0 <| i_is 7 <| i_jmp X 1 [true, false, false, true, true, true, false, true]
def k_X12_sums_1 (X : Nat → zK) (Q : zQ) : zK := i_il 7 <| i_il 4 <| i_cmp (fun x y => y ≤ x) (fun x y => ¬ y ≤ x) (i_ll 5 <| i_lr Q) <| i_lc 31 <| i_ll 5 <| i_lb (fun x y => x * y) <| i_al 0 <| i_gf 12 0 <| i_il 3 <| i_il 7 <| i_ib (fun x y => x + y) <| i_ia <| i_i2l <| i_lb (fun x y => x + y) <| i_lst 5 <| i_inc 7 1 <| i_jmp X 1 [true, false, false, true, true, true, false, true]
def F_X12_sums (Q : zQ) (X : Nat → zK) : Nat → zK
  | 0 => k_X12_sums_0 X Q
  | 1 => k_X12_sums_1 X Q
  | _ => fun _ _ _ => False
def T_X12_sums : zTy := fun vs σ Q => zok 8 vs = true ∧ zFix (F_X12_sums Q) 0 (zlc vs) [] σ
def k_X12_digest_0 (X : Nat → zK) (Q : zQ) : zK := i_lc 1171 <| i_lst 1 <| i_ic 0 <| i_is 3 <| i_jmp X 1 [true, true, false, true]
def k_X12_digest_1 (X : Nat → zK) (Q : zQ) : zK := i_il 3 <| i_ic 7 <| i_cmp (fun x y => y ≤ x) (fun x y => ¬ y ≤ x) (i_al 0 <| i_ll 1 <| i_ic 2 <| i_ic 2 <| i_cv 12 4 T_X12_sums <| i_lst 1 <| i_al 0 <| i_ll 1 <| i_ic 6 <| i_ic 6 <| i_al 0 <| i_cv 12 1 T_X12_many <| i_ib (fun x y => x * y) <| i_cv 12 4 T_X12_sums <| i_lst 1 <| i_al 0 <| i_ll 1 <| i_ic 48 <| i_ic 3 <| i_al 0 <| i_gf 12 0 <| i_ic 4 <| i_ia <| i_ib (fun x y => x * y) <| i_cv 12 4 T_X12_sums <| i_lst 1 <| i_lc 31 <| i_lc 31 <| i_ll 1 <| i_lb (fun x y => x * y) <| i_al 0 <| i_gf 12 4 <| i_lb (fun x y => x + y) <| i_lb (fun x y => x * y) <| i_al 0 <| i_gf 12 5 <| i_lb (fun x y => x + y) <| i_lr Q) <| i_lc 31 <| i_ll 1 <| i_lb (fun x y => x * y) <| i_al 0 <| i_il 3 <| i_cv 12 2 T_X12_counted <| i_i2l <| i_lb (fun x y => x + y) <| i_lst 1 <| i_inc 3 1 <| i_jmp X 1 [true, true, false, true]
def F_X12_digest (Q : zQ) (X : Nat → zK) : Nat → zK
  | 0 => k_X12_digest_0 X Q
  | 1 => k_X12_digest_1 X Q
  | _ => fun _ _ _ => False
def T_X12_digest : zTy := fun vs σ Q => zok 4 vs = true ∧ zFix (F_X12_digest Q) 0 (zlc vs) [] σ
end
section
/-! What the methods' rows need beside the instructions: word lists, the inherited super call, String.checkIndex. -/
theorem zl2 {a b : Cond} (h1 : a ∈ zAll) (h2 : b ∈ zAll) : ∀ w ∈ ([a, b] : List Cond), w ∈ zAll := List.forall_mem_cons.mpr ⟨h1, List.forall_mem_cons.mpr ⟨h2, fun _ h => absurd h List.not_mem_nil⟩⟩
theorem zl3 {a b c : Cond} (h1 : a ∈ zAll) (h2 : b ∈ zAll) (h3 : c ∈ zAll) : ∀ w ∈ ([a, b, c] : List Cond), w ∈ zAll := List.forall_mem_cons.mpr ⟨h1, zl2 h2 h3⟩
theorem zl4 {a b c d : Cond} (h1 : a ∈ zAll) (h2 : b ∈ zAll) (h3 : c ∈ zAll) (h4 : d ∈ zAll) : ∀ w ∈ ([a, b, c, d] : List Cond), w ∈ zAll := List.forall_mem_cons.mpr ⟨h1, zl3 h2 h3 h4⟩
theorem zl5 {a b c d e : Cond} (h1 : a ∈ zAll) (h2 : b ∈ zAll) (h3 : c ∈ zAll) (h4 : d ∈ zAll) (h5 : e ∈ zAll) : ∀ w ∈ ([a, b, c, d, e] : List Cond), w ∈ zAll := List.forall_mem_cons.mpr ⟨h1, zl4 h2 h3 h4 h5⟩
theorem zl6 {a b c d e f : Cond} (h1 : a ∈ zAll) (h2 : b ∈ zAll) (h3 : c ∈ zAll) (h4 : d ∈ zAll) (h5 : e ∈ zAll) (h6 : f ∈ zAll) : ∀ w ∈ ([a, b, c, d, e, f] : List Cond), w ∈ zAll := List.forall_mem_cons.mpr ⟨h1, zl5 h2 h3 h4 h5 h6⟩
theorem zpi {w : Cond} (i : Nat) (h : (k2_sels lw_privs)[i]? = some w) (g : goodWord w = true) : w ∈ zAll := zin (List.mem_append_left _ (List.mem_of_getElem? h)) g
theorem zrm {rm R : Room} {n : Nat} (h1 : rm.cells = 0) (h2 : rm.slots = 0) (h3 : rm.frames + 1 ≤ R.frames) (h4 : 8 + (n + 11) + rm.locals ≤ R.locals) : zRm rm R n := ⟨h1, h2, h3, h4⟩
section ZSUP
variable {p : Program} {l : Launch} {e : Env} {R : Room} {s : State} {m : MethodId} {args : Array Value} {below : List Frame} {meth : Method} {c : Code} {cells slots : Nat} {QQ : State → Prop} {D : va_G} {ids : zIds} {ad : Nat → Nat} {A : Nat → Prop} {own : String} {cc : ByteArray} {nL : Nat}
variable {pc : Nat} {K : zK}
theorem z_no : zGo p l e R s m args below meth c cells slots QQ D ids ad A nL (pc) i_no := fun _ _ _ h => h.elim
theorem zsub {vm : Vm} {a b : ClassId} {k : Class} (hk : vm.classes[a]? = some k) (hs : k.super = some b) : vm.isSubclass a b = true := by
  have hlt : a < vm.classes.size := (Array.getElem?_eq_some_iff.mp hk).1
  obtain ⟨n, hn⟩ : ∃ n, vm.classes.size = n + 1 := ⟨vm.classes.size - 1, (Nat.succ_pred_eq_of_pos (Nat.zero_lt_of_lt hlt)).symm⟩
  unfold Vm.isSubclass
  rw [hn]
  simp [Vm.isSubclassAux, hk, hs]
/-- super, of a method that the superclass itself inherits -/
theorem z_cUU (C : zCx p R s m args c cells slots D ids ad A own cc nL) {idx n nL' : Nat} {sup nm ds : String} {y : MethodName} {cc' : ByteArray} {ret : Option FieldType} {rm : Room} {T : zTy} (hd : decode cc pc = .ok (.invokespecial idx, 3)) (hM : zSd y cc' nL' ret rm T) (h1w : Cond.methodLink own idx ⟨sup, nm, ds⟩ ∈ zAll) (h2w : Cond.sameMethod sup y.cls nm ds ∈ zAll) (h3w : Cond.superclass own sup ∈ zAll) (h4w : Cond.superclass sup y.cls ∈ zAll) (h5w : Cond.instanceMethod y ∈ zAll) (h6w : Cond.initialized y.cls ∈ zAll) (hcd : Cond.code y cc' nL' ret ∈ zAll)
    (hy : (nm ≠ "<init>" ∧ y.name = nm ∧ y.desc = ds) ∧ (parseMethodDescriptor y.desc).map (fun d => d.parameters.length) = some n) (hR : zRm rm R nL') (k : zGo p l e R s m args below meth c cells slots QQ D ids ad A nL (pc + 3) K) : zGo p l e R s m args below meth c cells slots QQ D ids ad A nL (pc) (i_cu (n + 1) T K) := by
  intro ls st σ h H locs lsr hP hS hl
  unfold i_cu at h
  split at h
  · rename_i o vs r hsp
    obtain ⟨h0, h1', h2'⟩ := zcd2 h
    have h0 := znb h0
    obtain ⟨h1, h2⟩ := zsp_st hsp
    obtain ⟨⟨hno, hyn, hyd⟩, hlen⟩ := hy
    have hts := C.2.2.2.2.1
    have hw2 := hP o _ (zWo_o (ad := ad) (ids := ids) (σ := σ) h0)
    obtain ⟨q, hq, -⟩ := hw2
    obtain ⟨hfc, kB, hkB, -⟩ := (C.2.2.2.2.2.1.1.1 _ q hq).2
    obtain ⟨cellB, hcB, hoB, hclB⟩ := z_recv C hP hq
    have hkB : s.vm.classes[cellB.cls]? = some kB := by rw [Option.some.inj (hclB.symm.trans hfc)]; exact hkB
    have hG : GoodIn zAll (.code y cc' nL' ret :: zAll) := zgl (pre := []) (fun _ h => absurd h List.not_mem_nil) hcd
    have hK : Back l R p e below s args y 3 8 (PreOf R 0 0 (zPc D ids ad A (.ref o :: vs) σ)) (PostOf (zQc D ids ad A (fun v τ => K ls (zvl v r) τ) ret) 0 0 A) := back_of (bytes := cc') (maxL := nL') (ret := ret) (hM l D ids ad A (.ref o :: vs) σ _ h2') zblind hR.1 hR.2.1 hR.2.2.1 hR.2.2.2 (pay_in hts hG) List.mem_cons_self (fun a' U hW => word_at hW (Or.inl (by first | rfl | simp [Cond.onTables, Cond.keeps, Cond.steady])) (hts _ h6w))
    have hrun : va_Run p l e R s m args below meth c H locs cells slots 0 0 (F0 m pc lsr (st.map (zreal ad))) (r.map (zreal ad)) (zQc D ids ad A (fun v τ => K ls (zvl v r) τ) ret (Value.ref (ad o) :: vs.map (zreal ad)).toArray) A := by
      intro T hT X
      obtain ⟨mk, methM, hnamed, hmethM, hstM, habM⟩ := Cond.instanceMethod_spec (hts _ h5w)
      obtain ⟨methM', cM, hmethM', -, -, -, -, -, -, hsigM⟩ := Cond.code_spec hnamed (hts _ hcd)
      cases hmethM.symm.trans hmethM'
      obtain ⟨ps, dk, kp, hps, hdk, hkp, hsuper, -, -, hnid⟩ := Cond.superclass_spec C.2.2.2.1 (hts _ h3w)
      obtain ⟨ps2, dk2, kp2, hps2, hdk2, hkp2, hsuper2, -, -, -⟩ := Cond.superclass_spec hps (hts _ h4w)
      have hn : s.methodNamed? ⟨y.cls, nm, ds⟩ = some mk := by rw [← hyn, ← hyd]; exact hnamed
      have hpm : ps2 = mk.cls := Option.some.inj (hps2.symm.trans (findClass_of_methodNamed hnamed))
      have hsub : s.vm.isSubclass ps mk.cls = true := by rw [← hpm]; exact zsub hdk2 hsuper2
      obtain ⟨vm₁, X₁, hstep₁⟩ := X.invokespecialUp C.1 C.2.2.2.1 (x := ⟨sup, nm, ds⟩) (owner := y.cls) (hts _ h1w) (hts _ h2w) hn hmethM hstM habM hno hdk hnid hps hsuper hsub (a := ad o) (cell := cellB) (by rw [hT]; exact hcB)
        (fun z h => by rw [h] at hoB; cases hoB) hkB (g := F0 m pc lsr (st.map (zreal ad))) rfl (argsL := vs.map (zreal ad)) (rest := r.map (zreal ad)) (by rw [hsigM] at hlen; rw [List.length_map]; have := Option.some.inj hlen; dsimp only at this; simp only [List.length_cons] at h2; omega) (by show st.map _ = _; rw [h1]; simp [zreal]) (by rw [C.2.1]; exact hd)
      obtain ⟨v, ⟨U', l2, c2, s2⟩, X', ⟨g', mk', t, L, e1, e2, hq', h1, hL, h2, h3⟩, hsteps⟩ := hK m meth c ⟨T.setVm vm₁, locs, cells, slots⟩ { (F0 m pc lsr (st.map (zreal ad))) with stack := r.map (zreal ad) } (.invokespecial idx) mk (Value.ref (ad o) :: vs.map (zreal ad)).toArray X₁ rfl (hl.1.trans C.2.2.1.symm) (by rw [C.2.1]; exact hd) (lv_room (zsm_le h1')) (X₁.named hnamed) ⟨C.2.2.2.2.2.2.2.1, C.2.2.2.2.2.2.2.2, z_pre C hP hS (T.setVm vm₁) hT X₁.warmed⟩
      dsimp only [Pt.U, Pt.locs, Pt.cells, Pt.slots] at X' e1 e2 h1 h2 h3 hsteps
      subst h1; subst h2; subst h3
      exact ⟨v, (T.setVm vm₁).calling g' mk' (Value.ref (ad o) :: vs.map (zreal ad)).toArray, t, U', L, hT, X', hL, e1, e2, hq', fun target h => hstep₁ _ (by rw [doInvoke_state]; exact hsteps.trans h)⟩
    exact z_cont hrun hS hl k
  · exact h.elim
theorem z_mmax (C : zCx p R s m args c cells slots D ids ad A own cc nL) {idx : Nat} (hd : decode cc pc = .ok (.invokestatic idx, 3)) (h1w : Cond.methodLink own idx Lib.Math.max.name ∈ zAll) (h2w : Cond.static Lib.Math.max.name ∈ zAll) (h3w : Cond.initialized "java/lang/Math" ∈ zAll) (h4w : Cond.code Lib.Math.max.name Lib.Math.max.code 2 (some .int) ∈ zAll) (hR : 1 ≤ R.frames ∧ 21 ≤ R.locals) (k : zGo p l e R s m args below meth c cells slots QQ D ids ad A nL (pc + 3) K) : zGo p l e R s m args below meth c cells slots QQ D ids ad A nL (pc) (i_mmax K) := by
  intro ls st σ h H locs lsr hP hS hl
  unfold i_mmax at h
  split at h
  · have h := zcd h
    have hz := zsm_le (ad := ad) h.1
    have hts := C.2.2.2.2.1
    exact va_mmax C.1 C.2.1 (by rw [C.2.2.1]; exact hl.1.symm) C.2.2.2.1 (hts _ h1w) (hts _ h2w) (hts _ h3w) (hts _ h4w) hR.1 (by omega) C.2.2.2.2.2.2.2.1 C.2.2.2.2.2.2.2.2 hd (k ls _ σ h.2 H locs lsr hP hS hl)
  · exact h.elim
theorem z_mmin (C : zCx p R s m args c cells slots D ids ad A own cc nL) {idx : Nat} (hd : decode cc pc = .ok (.invokestatic idx, 3)) (h1w : Cond.methodLink own idx Lib.Math.min.name ∈ zAll) (h2w : Cond.static Lib.Math.min.name ∈ zAll) (h3w : Cond.initialized "java/lang/Math" ∈ zAll) (h4w : Cond.code Lib.Math.min.name Lib.Math.min.code 2 (some .int) ∈ zAll) (hR : 1 ≤ R.frames ∧ 21 ≤ R.locals) (k : zGo p l e R s m args below meth c cells slots QQ D ids ad A nL (pc + 3) K) : zGo p l e R s m args below meth c cells slots QQ D ids ad A nL (pc) (i_mmin K) := by
  intro ls st σ h H locs lsr hP hS hl
  unfold i_mmin at h
  split at h
  · have h := zcd h
    have hz := zsm_le (ad := ad) h.1
    have hts := C.2.2.2.2.1
    exact va_mmin C.1 C.2.1 (by rw [C.2.2.1]; exact hl.1.symm) C.2.2.2.1 (hts _ h1w) (hts _ h2w) (hts _ h3w) (hts _ h4w) hR.1 (by omega) C.2.2.2.2.2.2.2.1 C.2.2.2.2.2.2.2.2 hd (k ls _ σ h.2 H locs lsr hP hS hl)
  · exact h.elim
theorem z_mabs (C : zCx p R s m args c cells slots D ids ad A own cc nL) {idx : Nat} (hd : decode cc pc = .ok (.invokestatic idx, 3)) (h1w : Cond.methodLink own idx Lib.Math.abs.name ∈ zAll) (h2w : Cond.static Lib.Math.abs.name ∈ zAll) (h3w : Cond.initialized "java/lang/Math" ∈ zAll) (h4w : Cond.code Lib.Math.abs.name Lib.Math.abs.code 1 (some .int) ∈ zAll) (hR : 1 ≤ R.frames ∧ 21 ≤ R.locals) (k : zGo p l e R s m args below meth c cells slots QQ D ids ad A nL (pc + 3) K) : zGo p l e R s m args below meth c cells slots QQ D ids ad A nL (pc) (i_mabs K) := by
  intro ls st σ h H locs lsr hP hS hl
  unfold i_mabs at h
  split at h
  · have h := zcd h
    have hz := zsm_le (ad := ad) h.1
    have hts := C.2.2.2.2.1
    exact va_mabs C.1 C.2.1 (by rw [C.2.2.1]; exact hl.1.symm) C.2.2.2.1 (hts _ h1w) (hts _ h2w) (hts _ h3w) (hts _ h4w) hR.1 (by omega) C.2.2.2.2.2.2.2.1 C.2.2.2.2.2.2.2.2 hd (k ls _ σ h.2 H locs lsr hP hS hl)
  · exact h.elim
end ZSUP
theorem w_ci1 : Cond.methodLink RJ0 1059 yJ3_checkIndex_8e157 ∈ zAll := zti 407 (by decide +kernel) (by decide +kernel)
theorem w_ci2 : Cond.static yJ3_checkIndex_8e157 ∈ zAll := zti 408 (by decide +kernel) (by decide +kernel)
theorem w_ci3 : Cond.initialized RJ3 ∈ zAll := zti 17 (by decide +kernel) (by decide +kernel)
theorem w_ci4 : Cond.code yJ3_checkIndex_8e157 cJ3_checkIndex_8e157 3 (some .int) ∈ zAll := zti 409 (by decide +kernel) (by decide +kernel)
theorem w_ci5 : Cond.fieldLink RJ0 1053 "jdk/internal/util/Preconditions" "SIOOBE_FORMATTER" "Ljava/util/function/BiFunction;" ∈ zAll := zti 405 (by decide +kernel) (by decide +kernel)
theorem dJ3_checkIndex_8e157_0 : decode cJ3_checkIndex_8e157 0 = .ok (.iload_n 0, 1) := by decide +kernel
theorem dJ3_checkIndex_8e157_1 : decode cJ3_checkIndex_8e157 1 = .ok (.ifCond .lt 8, 3) := by decide +kernel
theorem dJ3_checkIndex_8e157_4 : decode cJ3_checkIndex_8e157 4 = .ok (.iload_n 0, 1) := by decide +kernel
theorem dJ3_checkIndex_8e157_5 : decode cJ3_checkIndex_8e157 5 = .ok (.iload_n 1, 1) := by decide +kernel
theorem dJ3_checkIndex_8e157_6 : decode cJ3_checkIndex_8e157 6 = .ok (.if_icmp .lt 10, 3) := by decide +kernel
theorem dJ3_checkIndex_8e157_9 : decode cJ3_checkIndex_8e157 9 = .ok (.aload_n 2, 1) := by decide +kernel
theorem dJ3_checkIndex_8e157_10 : decode cJ3_checkIndex_8e157 10 = .ok (.iload_n 0, 1) := by decide +kernel
theorem dJ3_checkIndex_8e157_11 : decode cJ3_checkIndex_8e157 11 = .ok (.iload_n 1, 1) := by decide +kernel
theorem dJ3_checkIndex_8e157_12 : decode cJ3_checkIndex_8e157 12 = .ok (.invokestatic 95, 3) := by decide +kernel
theorem dJ3_checkIndex_8e157_15 : decode cJ3_checkIndex_8e157 15 = .ok (.athrow, 1) := by decide +kernel
theorem dJ3_checkIndex_8e157_16 : decode cJ3_checkIndex_8e157 16 = .ok (.iload_n 0, 1) := by decide +kernel
theorem dJ3_checkIndex_8e157_17 : decode cJ3_checkIndex_8e157 17 = .ok (.ireturn, 1) := by decide +kernel
theorem dJ0_checkIndex_df160_0 : decode cJ0_checkIndex_df160 0 = .ok (.iload_n 0, 1) := by decide +kernel
theorem dJ0_checkIndex_df160_1 : decode cJ0_checkIndex_df160 1 = .ok (.iload_n 1, 1) := by decide +kernel
theorem dJ0_checkIndex_df160_2 : decode cJ0_checkIndex_df160 2 = .ok (.getstatic 1053, 3) := by decide +kernel
theorem dJ0_checkIndex_df160_5 : decode cJ0_checkIndex_df160 5 = .ok (.invokestatic 1059, 3) := by decide +kernel
theorem dJ0_checkIndex_df160_8 : decode cJ0_checkIndex_df160 8 = .ok (.pop, 1) := by decide +kernel
theorem dJ0_checkIndex_df160_9 : decode cJ0_checkIndex_df160 9 = .ok (.return_, 1) := by decide +kernel
/-- Preconditions.checkIndex(i, n, any): i -/
theorem M_J3 (l : Launch) (D : va_G) (ids : zIds) (ad : Nat → Nat) (A : Nat → Prop) (i n : Int32) (v : Value) (hvc : v.category = 1) (σ : zM) (h0 : ¬ i < 0) (h1 : i < n) : Met l yJ3_checkIndex_8e157 (.code yJ3_checkIndex_8e157 cJ3_checkIndex_8e157 3 (some .int) :: zAll) { frames := 0, cells := 0, slots := 0, locals := 0 } (va_Pc [.int i, .int n, v] (fun U => va_P D zCl (zWo ad ids σ) U.heap)) (va_Qi (fun (r : Int32) (u : zM) => u = σ) (fun u t => va_P D zCl (zWo ad ids u) t.heap) A) 0 0 A := by
  refine Met.ofW (cc := cJ3_checkIndex_8e157) (maxL := 3) (ret := some .int) (by decide) rfl ?_
  intro p e s m args below meth c s₁ B hml hv
  obtain ⟨ha, hP⟩ := hv
  subst ha
  have hx := B.exec
  have hb := B.bytes
  have hr := B.returns
  have hlocks := B.notSynchronized
  have hS : va_S A s.heap s.heap [] := va_S.rf
  have hl := lv_entry ([.int i, .int n, v]) (n := 3) (by cases v <;> simp_all [lg_sl, Value.category])
  rw [lg_entry_eq]
  generalize (lg_sl ([.int i, .int n, v]) ++ List.replicate (3 - (lg_sl ([.int i, .int n, v])).length) Slot.unset).toArray = ls at hl ⊢
  have hl : lv_has ls 3 [(0, .int i), (1, .int n), (2, v)] := hl
  refine lv_iload_n hx hb dJ3_checkIndex_8e157_0 rfl (lv_at hl 0 rfl) ?_
  refine lv_if_lt (tgt := 9) hx hb dJ3_checkIndex_8e157_1 (by decide) (fun q => absurd q h0) (fun _ => ?_)
  refine lv_iload_n hx hb dJ3_checkIndex_8e157_4 rfl (lv_at hl 0 rfl) ?_
  refine lv_iload_n hx hb dJ3_checkIndex_8e157_5 rfl (lv_at hl 1 rfl) ?_
  refine lv_icmp_lt (tgt := 16) hx hb dJ3_checkIndex_8e157_6 (by decide) (fun _ => ?_) (fun q => absurd h1 q)
  refine lv_iload_n hx hb dJ3_checkIndex_8e157_16 rfl (lv_at hl 0 rfl) ?_
  exact W.iret (v := i) hx hb hr (fun t ht hW => ⟨⟨i, σ, rfl, rfl, by dsimp only; rw [ht]; exact hP⟩, hS.F ht⟩) hS.2.2 dJ3_checkIndex_8e157_17
/-- String.checkIndex(i, n) -/
theorem S_J0_checkIndex_df160 : zSd yJ0_checkIndex_df160 cJ0_checkIndex_df160 2 none { frames := 1, cells := 0, slots := 0, locals := 22 } T_J0_checkIndex_df160 := by
  intro l D ids ad A vs σ Q hT
  unfold T_J0_checkIndex_df160 at hT
  split at hT
  · rename_i i n
    obtain ⟨h0, h1, hQ⟩ := hT
    refine Met.ofW (cc := cJ0_checkIndex_df160) (maxL := 2) (ret := none) (by decide) rfl ?_
    intro p e s m args below meth c s₁ B hml hv
    obtain ⟨ha, hP, hE, hA⟩ := hv
    have ha : args = ([.int i, .int n] : List Value).toArray := ha
    subst ha
    have hx := B.exec
    have hb := B.bytes
    have hr := B.returns
    have hlocks := B.notSynchronized
    have hts0 := atoms_spec (ws := .code yJ0_checkIndex_df160 cJ0_checkIndex_df160 2 none :: zAll) B.pre
    have hts : ∀ w ∈ zAll, w.before ([.int i, .int n] : List Value).toArray s = true := fun w hw => hts0 w (List.mem_cons_of_mem _ hw)
    have hown : s.vm.findClass RJ0 = some m.cls := findClass_of_methodNamed B.named
    have hS : va_S A s.heap s.heap [] := va_S.rf
    have hl := lv_entry ([.int i, .int n]) (n := 2) (Nat.le_of_ble_eq_true rfl)
    rw [lg_entry_eq]
    generalize (lg_sl ([.int i, .int n]) ++ List.replicate (2 - (lg_sl ([.int i, .int n])).length) Slot.unset).toArray = ls at hl ⊢
    have hl : lv_has ls 2 [(0, .int i), (1, .int n)] := hl
    refine lv_iload_n hx hb dJ0_checkIndex_df160_0 rfl (lv_at hl 0 rfl) ?_
    refine lv_iload_n hx hb dJ0_checkIndex_df160_1 rfl (lv_at hl 1 rfl) ?_
    obtain ⟨v, hvc, hZ⟩ : ∃ v : Value, v.category = 1 ∧ va_Z "jdk/internal/util/Preconditions" "SIOOBE_FORMATTER" "Ljava/util/function/BiFunction;" v A s s.heap := by
      rcases hE.2.2.2.2.2.2.2.1 with h | ⟨t, h⟩
      · exact ⟨.null, rfl, h⟩
      · exact ⟨.ref t, rfl, h⟩
    refine va_gets hx hb hZ hS hown (hts _ w_ci5) (fun _ h9 => h9) dJ0_checkIndex_df160_2 ?_
    refine va_calli (A1 := A) (a := ([.int i, .int n, v] : List Value).toArray) (va_runS (As := [.int i, .int n, v]) (rest := []) ⟨hx, hb, hml, hown, hts⟩ (M_J3 l D ids ad A i n v hvc σ h0 h1) (va_cwS 3 hts (zgl (zl3 w_ci1 w_ci2 w_ci3) w_ci4) rfl rfl rfl (by decide +kernel) ⟨Nat.le_of_ble_eq_true rfl, Nat.le_of_ble_eq_true rfl⟩) ⟨fun a U g mk q => q, fun U hU hW => ⟨rfl, by dsimp only; rw [hU]; exact hP⟩⟩ rfl rfl hl.1 rfl (lv_room (Nat.le_of_ble_eq_true rfl)) dJ0_checkIndex_df160_5 ⟨Nat.zero_le _, Nat.zero_le _⟩) hS (fun _ _ h => h) (fun _ h => h) (fun r u t H1 locs1 ht hvm hw hB hz1 hk1 hS1 => ?_)
    subst hw
    refine lv_pop hx hb dJ0_checkIndex_df160_8 rfl ?_
    have hB : va_P D zCl (zWo ad ids u) t.heap := hB
    rw [ht] at hB
    exact W.vret hx hb hr (fun t ht hW => ⟨⟨u, rfl, hQ, by dsimp only; rw [ht]; exact hB⟩, hS1.F ht⟩) hS1.2.2 dJ0_checkIndex_df160_9
  · exact hT.elim
end
section
/-! Words, fields, descriptors: by program. -/
theorem w_1 : Cond.initialized "EveryPew" ∈ zAll := zti 1 (by decide +kernel) (by decide +kernel)
theorem w_2 : Cond.initialized "EveryPew$Church" ∈ zAll := zti 2 (by decide +kernel) (by decide +kernel)
theorem w_3 : Cond.initialized "EveryPew$TextOfChurch" ∈ zAll := zti 3 (by decide +kernel) (by decide +kernel)
theorem w_4 : Cond.initialized "EveryPew$Service" ∈ zAll := zti 4 (by decide +kernel) (by decide +kernel)
theorem w_5 : Cond.initialized "EveryPew$Plain" ∈ zAll := zti 5 (by decide +kernel) (by decide +kernel)
theorem w_6 : Cond.initialized "EveryPew$Hoarse" ∈ zAll := zti 6 (by decide +kernel) (by decide +kernel)
theorem w_7 : Cond.initialized "EveryPew$Convert" ∈ zAll := zti 7 (by decide +kernel) (by decide +kernel)
theorem w_8 : Cond.initialized "EveryPew$Deacon" ∈ zAll := zti 8 (by decide +kernel) (by decide +kernel)
theorem w_9 : Cond.initialized "EveryPew$Children" ∈ zAll := zti 9 (by decide +kernel) (by decide +kernel)
theorem w_10 : Cond.initialized "EveryPew$Waverers" ∈ zAll := zti 10 (by decide +kernel) (by decide +kernel)
theorem w_11 : Cond.initialized "EveryPew$Seating" ∈ zAll := zti 11 (by decide +kernel) (by decide +kernel)
theorem w_12 : Cond.initialized "EveryPew$Coughs" ∈ zAll := zti 12 (by decide +kernel) (by decide +kernel)
theorem w_13 : Cond.initialized "EveryPewModel" ∈ zAll := zti 13 (by decide +kernel) (by decide +kernel)
theorem w_14 : Cond.initialized "java/util/Arrays" ∈ zAll := zti 14 (by decide +kernel) (by decide +kernel)
theorem w_15 : Cond.initialized "java/lang/String" ∈ zAll := zti 15 (by decide +kernel) (by decide +kernel)
theorem w_16 : Cond.initialized "java/lang/StringLatin1" ∈ zAll := zti 16 (by decide +kernel) (by decide +kernel)
theorem w_19 : Cond.initialized "java/lang/Math" ∈ zAll := zti 19 (by decide +kernel) (by decide +kernel)
theorem w_20 : Cond.initialized "java/lang/System" ∈ zAll := zti 20 (by decide +kernel) (by decide +kernel)
theorem w_21 : Cond.initialized "java/lang/Integer" ∈ zAll := zti 21 (by decide +kernel) (by decide +kernel)
theorem w_36 : Cond.fieldLink "EveryPew$Church" 9 "EveryPew$Church" "limit" "I" ∈ zAll := zti 36 (by decide +kernel) (by decide +kernel)
theorem w_39 : Cond.fieldLink "EveryPew$Church" 15 "EveryPew$Church" "books" "[I" ∈ zAll := zti 39 (by decide +kernel) (by decide +kernel)
theorem w_44 : Cond.fieldLink "EveryPew$Church" 55 "EveryPew$Church" "families" "I" ∈ zAll := zti 44 (by decide +kernel) (by decide +kernel)
theorem w_47 : Cond.fieldLink "EveryPew$Church" 19 "EveryPew$Church" "kind" "[I" ∈ zAll := zti 47 (by decide +kernel) (by decide +kernel)
theorem w_50 : Cond.fieldLink "EveryPew$Church" 22 "EveryPew$Church" "book" "[I" ∈ zAll := zti 50 (by decide +kernel) (by decide +kernel)
theorem w_53 : Cond.fieldLink "EveryPew$Church" 25 "EveryPew$Church" "tall" "[I" ∈ zAll := zti 53 (by decide +kernel) (by decide +kernel)
theorem w_55 : Cond.fieldLink "EveryPew$Church" 28 "EveryPew$Church" "voices" "[I" ∈ zAll := zti 55 (by decide +kernel) (by decide +kernel)
theorem w_57 : Cond.fieldLink "EveryPew$Church" 31 "EveryPew$Church" "pew" "[I" ∈ zAll := zti 57 (by decide +kernel) (by decide +kernel)
theorem w_60 : Cond.fieldLink "EveryPew$Church" 58 "EveryPew$Church" "colds" "I" ∈ zAll := zti 60 (by decide +kernel) (by decide +kernel)
theorem w_63 : Cond.fieldLink "EveryPew$Church" 61 "EveryPew$Church" "heards" "I" ∈ zAll := zti 63 (by decide +kernel) (by decide +kernel)
theorem w_66 : Cond.fieldLink "EveryPew$Church" 34 "EveryPew$Church" "heardWord" "[I" ∈ zAll := zti 66 (by decide +kernel) (by decide +kernel)
theorem w_69 : Cond.fieldLink "EveryPew$Church" 37 "EveryPew$Church" "heardBook" "[I" ∈ zAll := zti 69 (by decide +kernel) (by decide +kernel)
theorem w_72 : Cond.fieldLink "EveryPew$Church" 40 "EveryPew$Church" "heardLoud" "[I" ∈ zAll := zti 72 (by decide +kernel) (by decide +kernel)
theorem w_75 : Cond.fieldLink "EveryPew$Church" 64 "EveryPew$Church" "steps" "I" ∈ zAll := zti 75 (by decide +kernel) (by decide +kernel)
theorem w_77 : Cond.fieldLink "EveryPew$Church" 43 "EveryPew$Church" "oldPews" "[I" ∈ zAll := zti 77 (by decide +kernel) (by decide +kernel)
theorem w_78 : Cond.fieldLink "EveryPew$Church" 46 "EveryPew$Church" "oldColds" "[I" ∈ zAll := zti 78 (by decide +kernel) (by decide +kernel)
theorem w_120 : Cond.fieldLink "EveryPew$TextOfChurch" 9 "EveryPew$TextOfChurch" "bytes" "[I" ∈ zAll := zti 120 (by decide +kernel) (by decide +kernel)
theorem w_121 : Cond.fieldLink "EveryPew$TextOfChurch" 15 "EveryPew$TextOfChurch" "length" "I" ∈ zAll := zti 121 (by decide +kernel) (by decide +kernel)
theorem w_123 : Cond.fieldLink "EveryPew$TextOfChurch" 51 "EveryPew$TextOfChurch" "token" "I" ∈ zAll := zti 123 (by decide +kernel) (by decide +kernel)
theorem w_124 : Cond.fieldLink "EveryPew$TextOfChurch" 35 "EveryPew$TextOfChurch" "start" "I" ∈ zAll := zti 124 (by decide +kernel) (by decide +kernel)
theorem w_125 : Cond.fieldLink "EveryPew$TextOfChurch" 19 "EveryPew$TextOfChurch" "behind" "I" ∈ zAll := zti 125 (by decide +kernel) (by decide +kernel)
theorem w_126 : Cond.fieldLink "EveryPew$TextOfChurch" 38 "EveryPew$TextOfChurch" "value" "I" ∈ zAll := zti 126 (by decide +kernel) (by decide +kernel)
theorem w_161 : Cond.superclass "EveryPew$Hoarse" "EveryPew$Plain" ∈ zAll := zti 161 (by decide +kernel) (by decide +kernel)
theorem w_168 : Cond.superclass "EveryPew$Convert" "EveryPew$Plain" ∈ zAll := zti 168 (by decide +kernel) (by decide +kernel)
theorem w_175 : Cond.superclass "EveryPew$Deacon" "EveryPew$Plain" ∈ zAll := zti 175 (by decide +kernel) (by decide +kernel)
theorem w_182 : Cond.superclass "EveryPew$Children" "EveryPew$Hoarse" ∈ zAll := zti 182 (by decide +kernel) (by decide +kernel)
theorem w_189 : Cond.superclass "EveryPew$Waverers" "EveryPew$Convert" ∈ zAll := zti 189 (by decide +kernel) (by decide +kernel)
theorem w_190 : Cond.fieldLink "EveryPew$Service" 27 "EveryPew$Service" "kinds" "[LEveryPew$Plain;" ∈ zAll := zti 190 (by decide +kernel) (by decide +kernel)
theorem w_192 : Cond.fieldLink "EveryPew$Service" 62 "EveryPew$Service" "families" "I" ∈ zAll := zti 192 (by decide +kernel) (by decide +kernel)
theorem w_193 : Cond.fieldLink "EveryPew$Service" 66 "EveryPew$Service" "limit" "I" ∈ zAll := zti 193 (by decide +kernel) (by decide +kernel)
theorem w_194 : Cond.fieldLink "EveryPew$Service" 33 "EveryPew$Service" "book" "[I" ∈ zAll := zti 194 (by decide +kernel) (by decide +kernel)
theorem w_196 : Cond.fieldLink "EveryPew$Service" 37 "EveryPew$Service" "pew" "[I" ∈ zAll := zti 196 (by decide +kernel) (by decide +kernel)
theorem w_197 : Cond.fieldLink "EveryPew$Service" 40 "EveryPew$Service" "kneeling" "[Z" ∈ zAll := zti 197 (by decide +kernel) (by decide +kernel)
theorem w_198 : Cond.fieldLink "EveryPew$Service" 44 "EveryPew$Service" "height" "[I" ∈ zAll := zti 198 (by decide +kernel) (by decide +kernel)
theorem w_200 : Cond.fieldLink "EveryPew$Service" 47 "EveryPew$Service" "sound" "[I" ∈ zAll := zti 200 (by decide +kernel) (by decide +kernel)
theorem w_201 : Cond.fieldLink "EveryPew$Service" 50 "EveryPew$Service" "caseAt" "[I" ∈ zAll := zti 201 (by decide +kernel) (by decide +kernel)
theorem w_203 : Cond.fieldLink "EveryPew$Service" 53 "EveryPew$Service" "wordsOfCase" "[I" ∈ zAll := zti 203 (by decide +kernel) (by decide +kernel)
theorem w_232 : Cond.fieldLink "EveryPew$Seating" 9 "EveryPew$Seating" "best" "[I" ∈ zAll := zti 232 (by decide +kernel) (by decide +kernel)
theorem w_233 : Cond.fieldLink "EveryPew$Seating" 15 "EveryPew$Seating" "tallest" "[I" ∈ zAll := zti 233 (by decide +kernel) (by decide +kernel)
theorem w_234 : Cond.fieldLink "EveryPew$Seating" 38 "EveryPew$Seating" "score" "I" ∈ zAll := zti 234 (by decide +kernel) (by decide +kernel)
theorem w_248 : Cond.fieldLink "EveryPew$Coughs" 9 "EveryPew$Coughs" "fits" "[Z" ∈ zAll := zti 248 (by decide +kernel) (by decide +kernel)
theorem w_249 : Cond.fieldLink "EveryPew$Coughs" 15 "EveryPew$Coughs" "alike" "[I" ∈ zAll := zti 249 (by decide +kernel) (by decide +kernel)
theorem w_250 : Cond.fieldLink "EveryPew$Coughs" 25 "EveryPew$Coughs" "sets" "I" ∈ zAll := zti 250 (by decide +kernel) (by decide +kernel)
theorem w_251 : Cond.fieldLink "EveryPew$Coughs" 28 "EveryPew$Coughs" "fitting" "I" ∈ zAll := zti 251 (by decide +kernel) (by decide +kernel)
theorem w_253 : Cond.fieldLink "EveryPew$Coughs" 31 "EveryPew$Coughs" "inAll" "I" ∈ zAll := zti 253 (by decide +kernel) (by decide +kernel)
theorem w_255 : Cond.fieldLink "EveryPew$Coughs" 34 "EveryPew$Coughs" "inSome" "I" ∈ zAll := zti 255 (by decide +kernel) (by decide +kernel)
theorem w_270 : Cond.fieldLink "EveryPew" 12 "EveryPew" "now" "LEveryPew$Church;" ∈ zAll := zti 270 (by decide +kernel) (by decide +kernel)
theorem w_271 : Cond.fieldLink "EveryPew" 16 "EveryPew" "draft" "LEveryPew$Church;" ∈ zAll := zti 271 (by decide +kernel) (by decide +kernel)
theorem w_272 : Cond.fieldLink "EveryPew" 19 "EveryPew" "images" "[LEveryPew$Church;" ∈ zAll := zti 272 (by decide +kernel) (by decide +kernel)
theorem w_273 : Cond.fieldLink "EveryPew" 23 "EveryPew" "kept" "[Z" ∈ zAll := zti 273 (by decide +kernel) (by decide +kernel)
theorem w_274 : Cond.fieldLink "EveryPew" 30 "EveryPew" "text" "LEveryPew$TextOfChurch;" ∈ zAll := zti 274 (by decide +kernel) (by decide +kernel)
theorem w_275 : Cond.fieldLink "EveryPew" 37 "EveryPew" "service" "LEveryPew$Service;" ∈ zAll := zti 275 (by decide +kernel) (by decide +kernel)
theorem w_276 : Cond.fieldLink "EveryPew" 44 "EveryPew" "seating" "LEveryPew$Seating;" ∈ zAll := zti 276 (by decide +kernel) (by decide +kernel)
theorem w_277 : Cond.fieldLink "EveryPew" 51 "EveryPew" "coughs" "LEveryPew$Coughs;" ∈ zAll := zti 277 (by decide +kernel) (by decide +kernel)
theorem w_278 : Cond.fieldLink "EveryPew" 55 "EveryPew" "refused" "[I" ∈ zAll := zti 278 (by decide +kernel) (by decide +kernel)
theorem w_279 : Cond.fieldLink "EveryPew" 59 "EveryPew" "above" "J" ∈ zAll := zti 279 (by decide +kernel) (by decide +kernel)
theorem w_280 : Cond.fieldLink "EveryPew" 63 "EveryPew" "below" "J" ∈ zAll := zti 280 (by decide +kernel) (by decide +kernel)
theorem w_308 : Cond.methodLink "EveryPew" 66 yX11_within ∈ zAll := zti 308 (by decide +kernel) (by decide +kernel)
theorem w_309 : Cond.static yX11_within ∈ zAll := zti 309 (by decide +kernel) (by decide +kernel)
theorem w_310 : Cond.code yX11_within prog_1_method_36_code 3 (Option.some Jvm.ClassFile.FieldType.boolean) ∈ zAll := zti 310 (by decide +kernel) (by decide +kernel)
theorem w_311 : Cond.methodLink "EveryPew" 70 yX11_refuse ∈ zAll := zti 311 (by decide +kernel) (by decide +kernel)
theorem w_313 : Cond.instanceMethod yX11_refuse ∈ zAll := zti 313 (by decide +kernel) (by decide +kernel)
theorem w_314 : Cond.code yX11_refuse prog_1_method_41_code 2 (Option.some Jvm.ClassFile.FieldType.int) ∈ zAll := zti 314 (by decide +kernel) (by decide +kernel)
theorem w_315 : Cond.methodLink "EveryPew" 78 yX1_begin ∈ zAll := zti 315 (by decide +kernel) (by decide +kernel)
theorem w_316 : Cond.instanceMethod yX1_begin ∈ zAll := zti 316 (by decide +kernel) (by decide +kernel)
theorem w_317 : Cond.selects "EveryPew$Church" yX1_begin yX1_begin ∈ zAll := zti 317 (by decide +kernel) (by decide +kernel)
theorem w_318 : Cond.code yX1_begin prog_3_method_2_code 2 (Option.none : Option Jvm.ClassFile.FieldType) ∈ zAll := zti 318 (by decide +kernel) (by decide +kernel)
theorem w_319 : Cond.methodLink "EveryPew$Church" 49 yJ7_fill_53178 ∈ zAll := zti 319 (by decide +kernel) (by decide +kernel)
theorem w_320 : Cond.static yJ7_fill_53178 ∈ zAll := zti 320 (by decide +kernel) (by decide +kernel)
theorem w_321 : Cond.code yJ7_fill_53178 prog_21_method_103_code 4 (Option.none : Option Jvm.ClassFile.FieldType) ∈ zAll := zti 321 (by decide +kernel) (by decide +kernel)
theorem w_326 : Cond.methodLink "EveryPew" 82 yX11_isBook ∈ zAll := zti 326 (by decide +kernel) (by decide +kernel)
theorem w_327 : Cond.static yX11_isBook ∈ zAll := zti 327 (by decide +kernel) (by decide +kernel)
theorem w_328 : Cond.code yX11_isBook prog_1_method_38_code 1 (Option.some Jvm.ClassFile.FieldType.boolean) ∈ zAll := zti 328 (by decide +kernel) (by decide +kernel)
theorem w_329 : Cond.constant "EveryPew" 86 65535 ∈ zAll := zti 329 (by decide +kernel) (by decide +kernel)
theorem w_334 : Cond.methodLink "EveryPew" 90 yX11_isPewOf ∈ zAll := zti 334 (by decide +kernel) (by decide +kernel)
theorem w_335 : Cond.static yX11_isPewOf ∈ zAll := zti 335 (by decide +kernel) (by decide +kernel)
theorem w_336 : Cond.code yX11_isPewOf prog_1_method_39_code 2 (Option.some Jvm.ClassFile.FieldType.boolean) ∈ zAll := zti 336 (by decide +kernel) (by decide +kernel)
theorem w_337 : Cond.methodLink "EveryPew" 94 yX1_isTaken ∈ zAll := zti 337 (by decide +kernel) (by decide +kernel)
theorem w_338 : Cond.instanceMethod yX1_isTaken ∈ zAll := zti 338 (by decide +kernel) (by decide +kernel)
theorem w_339 : Cond.selects "EveryPew$Church" yX1_isTaken yX1_isTaken ∈ zAll := zti 339 (by decide +kernel) (by decide +kernel)
theorem w_340 : Cond.code yX1_isTaken prog_3_method_7_code 3 (Option.some Jvm.ClassFile.FieldType.boolean) ∈ zAll := zti 340 (by decide +kernel) (by decide +kernel)
theorem w_341 : Cond.methodLink "EveryPew" 97 yX1_admit ∈ zAll := zti 341 (by decide +kernel) (by decide +kernel)
theorem w_342 : Cond.instanceMethod yX1_admit ∈ zAll := zti 342 (by decide +kernel) (by decide +kernel)
theorem w_343 : Cond.selects "EveryPew$Church" yX1_admit yX1_admit ∈ zAll := zti 343 (by decide +kernel) (by decide +kernel)
theorem w_344 : Cond.code yX1_admit prog_3_method_8_code 7 (Option.some Jvm.ClassFile.FieldType.int) ∈ zAll := zti 344 (by decide +kernel) (by decide +kernel)
theorem w_349 : Cond.methodLink "EveryPew" 104 yX9_append ∈ zAll := zti 349 (by decide +kernel) (by decide +kernel)
theorem w_350 : Cond.instanceMethod yX9_append ∈ zAll := zti 350 (by decide +kernel) (by decide +kernel)
theorem w_351 : Cond.selects "EveryPew$TextOfChurch" yX9_append yX9_append ∈ zAll := zti 351 (by decide +kernel) (by decide +kernel)
theorem w_352 : Cond.code yX9_append prog_11_method_2_code 2 (Option.some Jvm.ClassFile.FieldType.int) ∈ zAll := zti 352 (by decide +kernel) (by decide +kernel)
theorem w_361 : Cond.methodLink "EveryPew" 107 yX9_tell ∈ zAll := zti 361 (by decide +kernel) (by decide +kernel)
theorem w_362 : Cond.instanceMethod yX9_tell ∈ zAll := zti 362 (by decide +kernel) (by decide +kernel)
theorem w_363 : Cond.selects "EveryPew$TextOfChurch" yX9_tell yX9_tell ∈ zAll := zti 363 (by decide +kernel) (by decide +kernel)
theorem w_364 : Cond.code yX9_tell prog_11_method_3_code 3 (Option.some Jvm.ClassFile.FieldType.int) ∈ zAll := zti 364 (by decide +kernel) (by decide +kernel)
theorem w_365 : Cond.methodLink "EveryPew$TextOfChurch" 22 yX9_advance ∈ zAll := zti 365 (by decide +kernel) (by decide +kernel)
theorem w_367 : Cond.instanceMethod yX9_advance ∈ zAll := zti 367 (by decide +kernel) (by decide +kernel)
theorem w_368 : Cond.code yX9_advance prog_11_method_12_code 2 (Option.none : Option Jvm.ClassFile.FieldType) ∈ zAll := zti 368 (by decide +kernel) (by decide +kernel)
theorem w_369 : Cond.methodLink "EveryPew$TextOfChurch" 109 yX9_sortOf ∈ zAll := zti 369 (by decide +kernel) (by decide +kernel)
theorem w_370 : Cond.static yX9_sortOf ∈ zAll := zti 370 (by decide +kernel) (by decide +kernel)
theorem w_371 : Cond.code yX9_sortOf prog_11_method_14_code 1 (Option.some Jvm.ClassFile.FieldType.int) ∈ zAll := zti 371 (by decide +kernel) (by decide +kernel)
theorem w_372 : Cond.methodLink "EveryPew$TextOfChurch" 113 yX9_figures ∈ zAll := zti 372 (by decide +kernel) (by decide +kernel)
theorem w_374 : Cond.instanceMethod yX9_figures ∈ zAll := zti 374 (by decide +kernel) (by decide +kernel)
theorem w_375 : Cond.code yX9_figures prog_11_method_13_code 3 (Option.some Jvm.ClassFile.FieldType.int) ∈ zAll := zti 375 (by decide +kernel) (by decide +kernel)
theorem w_377 : Cond.methodLink "EveryPew$TextOfChurch" 27 yX9_says ∈ zAll := zti 377 (by decide +kernel) (by decide +kernel)
theorem w_379 : Cond.instanceMethod yX9_says ∈ zAll := zti 379 (by decide +kernel) (by decide +kernel)
theorem w_380 : Cond.code yX9_says prog_11_method_11_code 3 (Option.some Jvm.ClassFile.FieldType.boolean) ∈ zAll := zti 380 (by decide +kernel) (by decide +kernel)
theorem w_381 : Cond.methodLink "EveryPew$TextOfChurch" 100 yJ0_length_8abf5 ∈ zAll := zti 381 (by decide +kernel) (by decide +kernel)
theorem w_382 : Cond.instanceMethod yJ0_length_8abf5 ∈ zAll := zti 382 (by decide +kernel) (by decide +kernel)
theorem w_383 : Cond.selects "java/lang/String" yJ0_length_8abf5 yJ0_length_8abf5 ∈ zAll := zti 383 (by decide +kernel) (by decide +kernel)
theorem w_384 : Cond.code yJ0_length_8abf5 prog_17_method_54_code 1 (Option.some Jvm.ClassFile.FieldType.int) ∈ zAll := zti 384 (by decide +kernel) (by decide +kernel)
theorem w_385 : Cond.methodLink "java/lang/String" 335 yJ0_coder_7d493 ∈ zAll := zti 385 (by decide +kernel) (by decide +kernel)
theorem w_386 : Cond.instanceMethod yJ0_coder_7d493 ∈ zAll := zti 386 (by decide +kernel) (by decide +kernel)
theorem w_387 : Cond.selects "java/lang/String" yJ0_coder_7d493 yJ0_coder_7d493 ∈ zAll := zti 387 (by decide +kernel) (by decide +kernel)
theorem w_388 : Cond.code yJ0_coder_7d493 prog_17_method_152_code 1 (Option.some Jvm.ClassFile.FieldType.byte) ∈ zAll := zti 388 (by decide +kernel) (by decide +kernel)
theorem w_389 : Cond.fieldLink "java/lang/String" 38 "java/lang/String" "COMPACT_STRINGS" "Z" ∈ zAll := zti 389 (by decide +kernel) (by decide +kernel)
theorem w_391 : Cond.methodLink "EveryPew$TextOfChurch" 105 yJ0_charAt_5068e ∈ zAll := zti 391 (by decide +kernel) (by decide +kernel)
theorem w_392 : Cond.instanceMethod yJ0_charAt_5068e ∈ zAll := zti 392 (by decide +kernel) (by decide +kernel)
theorem w_393 : Cond.selects "java/lang/String" yJ0_charAt_5068e yJ0_charAt_5068e ∈ zAll := zti 393 (by decide +kernel) (by decide +kernel)
theorem w_394 : Cond.code yJ0_charAt_5068e prog_17_method_56_code 2 (Option.some Jvm.ClassFile.FieldType.char) ∈ zAll := zti 394 (by decide +kernel) (by decide +kernel)
theorem w_395 : Cond.methodLink "java/lang/String" 492 yJ0_isLatin1_aae02 ∈ zAll := zti 395 (by decide +kernel) (by decide +kernel)
theorem w_396 : Cond.instanceMethod yJ0_isLatin1_aae02 ∈ zAll := zti 396 (by decide +kernel) (by decide +kernel)
theorem w_397 : Cond.selects "java/lang/String" yJ0_isLatin1_aae02 yJ0_isLatin1_aae02 ∈ zAll := zti 397 (by decide +kernel) (by decide +kernel)
theorem w_398 : Cond.code yJ0_isLatin1_aae02 prog_17_method_154_code 1 (Option.some Jvm.ClassFile.FieldType.boolean) ∈ zAll := zti 398 (by decide +kernel) (by decide +kernel)
theorem w_399 : Cond.methodLink "java/lang/String" 495 yJ1_charAt_3b067 ∈ zAll := zti 399 (by decide +kernel) (by decide +kernel)
theorem w_400 : Cond.static yJ1_charAt_3b067 ∈ zAll := zti 400 (by decide +kernel) (by decide +kernel)
theorem w_401 : Cond.code yJ1_charAt_3b067 prog_18_method_2_code 2 (Option.some Jvm.ClassFile.FieldType.char) ∈ zAll := zti 401 (by decide +kernel) (by decide +kernel)
theorem w_402 : Cond.methodLink "java/lang/StringLatin1" 9 yJ0_checkIndex_df160 ∈ zAll := zti 402 (by decide +kernel) (by decide +kernel)
theorem w_403 : Cond.static yJ0_checkIndex_df160 ∈ zAll := zti 403 (by decide +kernel) (by decide +kernel)
theorem w_404 : Cond.code yJ0_checkIndex_df160 prog_17_method_155_code 2 (Option.none : Option Jvm.ClassFile.FieldType) ∈ zAll := zti 404 (by decide +kernel) (by decide +kernel)
theorem w_429 : Cond.methodLink "EveryPew$TextOfChurch" 31 yX9_takesNumber ∈ zAll := zti 429 (by decide +kernel) (by decide +kernel)
theorem w_431 : Cond.instanceMethod yX9_takesNumber ∈ zAll := zti 431 (by decide +kernel) (by decide +kernel)
theorem w_432 : Cond.code yX9_takesNumber prog_11_method_8_code 3 (Option.some Jvm.ClassFile.FieldType.boolean) ∈ zAll := zti 432 (by decide +kernel) (by decide +kernel)
theorem w_433 : Cond.methodLink "EveryPew$TextOfChurch" 73 yX9_isNumber ∈ zAll := zti 433 (by decide +kernel) (by decide +kernel)
theorem w_435 : Cond.instanceMethod yX9_isNumber ∈ zAll := zti 435 (by decide +kernel) (by decide +kernel)
theorem w_436 : Cond.code yX9_isNumber prog_11_method_10_code 3 (Option.some Jvm.ClassFile.FieldType.boolean) ∈ zAll := zti 436 (by decide +kernel) (by decide +kernel)
theorem w_438 : Cond.methodLink "EveryPew$TextOfChurch" 41 yX1_begin ∈ zAll := zti 438 (by decide +kernel) (by decide +kernel)
theorem w_439 : Cond.methodLink "EveryPew$TextOfChurch" 47 yX9_takesStop ∈ zAll := zti 439 (by decide +kernel) (by decide +kernel)
theorem w_441 : Cond.instanceMethod yX9_takesStop ∈ zAll := zti 441 (by decide +kernel) (by decide +kernel)
theorem w_442 : Cond.code yX9_takesStop prog_11_method_9_code 1 (Option.some Jvm.ClassFile.FieldType.boolean) ∈ zAll := zti 442 (by decide +kernel) (by decide +kernel)
theorem w_443 : Cond.methodLink "EveryPew$TextOfChurch" 54 yX9_takesItem ∈ zAll := zti 443 (by decide +kernel) (by decide +kernel)
theorem w_445 : Cond.instanceMethod yX9_takesItem ∈ zAll := zti 445 (by decide +kernel) (by decide +kernel)
theorem w_446 : Cond.code yX9_takesItem prog_11_method_4_code 2 (Option.some Jvm.ClassFile.FieldType.boolean) ∈ zAll := zti 446 (by decide +kernel) (by decide +kernel)
theorem w_448 : Cond.methodLink "EveryPew$TextOfChurch" 60 yX9_takesBook ∈ zAll := zti 448 (by decide +kernel) (by decide +kernel)
theorem w_450 : Cond.instanceMethod yX9_takesBook ∈ zAll := zti 450 (by decide +kernel) (by decide +kernel)
theorem w_451 : Cond.code yX9_takesBook prog_11_method_5_code 5 (Option.some Jvm.ClassFile.FieldType.boolean) ∈ zAll := zti 451 (by decide +kernel) (by decide +kernel)
theorem w_453 : Cond.methodLink "EveryPew$TextOfChurch" 65 yX9_takesFamily ∈ zAll := zti 453 (by decide +kernel) (by decide +kernel)
theorem w_455 : Cond.instanceMethod yX9_takesFamily ∈ zAll := zti 455 (by decide +kernel) (by decide +kernel)
theorem w_456 : Cond.code yX9_takesFamily prog_11_method_6_code 6 (Option.some Jvm.ClassFile.FieldType.boolean) ∈ zAll := zti 456 (by decide +kernel) (by decide +kernel)
theorem w_458 : Cond.methodLink "EveryPew$TextOfChurch" 85 yX1_isTaken ∈ zAll := zti 458 (by decide +kernel) (by decide +kernel)
theorem w_459 : Cond.methodLink "EveryPew$TextOfChurch" 89 yX1_admit ∈ zAll := zti 459 (by decide +kernel) (by decide +kernel)
theorem w_461 : Cond.methodLink "EveryPew$TextOfChurch" 70 yX9_takesCold ∈ zAll := zti 461 (by decide +kernel) (by decide +kernel)
theorem w_463 : Cond.instanceMethod yX9_takesCold ∈ zAll := zti 463 (by decide +kernel) (by decide +kernel)
theorem w_464 : Cond.code yX9_takesCold prog_11_method_7_code 2 (Option.some Jvm.ClassFile.FieldType.boolean) ∈ zAll := zti 464 (by decide +kernel) (by decide +kernel)
theorem w_465 : Cond.methodLink "EveryPew" 111 yX1_becomeLike ∈ zAll := zti 465 (by decide +kernel) (by decide +kernel)
theorem w_466 : Cond.instanceMethod yX1_becomeLike ∈ zAll := zti 466 (by decide +kernel) (by decide +kernel)
theorem w_467 : Cond.selects "EveryPew$Church" yX1_becomeLike yX1_becomeLike ∈ zAll := zti 467 (by decide +kernel) (by decide +kernel)
theorem w_468 : Cond.code yX1_becomeLike prog_3_method_3_code 2 (Option.none : Option Jvm.ClassFile.FieldType) ∈ zAll := zti 468 (by decide +kernel) (by decide +kernel)
theorem w_469 : Cond.methodLink "EveryPew$Church" 67 yX1_copy ∈ zAll := zti 469 (by decide +kernel) (by decide +kernel)
theorem w_470 : Cond.static yX1_copy ∈ zAll := zti 470 (by decide +kernel) (by decide +kernel)
theorem w_471 : Cond.code yX1_copy prog_3_method_4_code 2 (Option.none : Option Jvm.ClassFile.FieldType) ∈ zAll := zti 471 (by decide +kernel) (by decide +kernel)
theorem w_472 : Cond.methodLink "EveryPew$Church" 71 Lib.Math.min.name ∈ zAll := zti 472 (by decide +kernel) (by decide +kernel)
theorem w_473 : Cond.static Lib.Math.min.name ∈ zAll := zti 473 (by decide +kernel) (by decide +kernel)
theorem w_474 : Cond.code Lib.Math.min.name Lib.Math.min.code 2 (Option.some Jvm.ClassFile.FieldType.int) ∈ zAll := zti 474 (by decide +kernel) (by decide +kernel)
theorem w_475 : Cond.methodLink "EveryPew$Church" 77 arraycopyName ∈ zAll := zti 475 (by decide +kernel) (by decide +kernel)
theorem w_476 : Cond.static arraycopyName ∈ zAll := zti 476 (by decide +kernel) (by decide +kernel)
theorem w_477 : Cond.native arraycopyName ∈ zAll := zti 477 (by decide +kernel) (by decide +kernel)
theorem w_483 : Cond.methodLink "EveryPew" 115 yX1_hasFamily ∈ zAll := zti 483 (by decide +kernel) (by decide +kernel)
theorem w_484 : Cond.instanceMethod yX1_hasFamily ∈ zAll := zti 484 (by decide +kernel) (by decide +kernel)
theorem w_485 : Cond.selects "EveryPew$Church" yX1_hasFamily yX1_hasFamily ∈ zAll := zti 485 (by decide +kernel) (by decide +kernel)
theorem w_486 : Cond.code yX1_hasFamily prog_3_method_5_code 2 (Option.some Jvm.ClassFile.FieldType.boolean) ∈ zAll := zti 486 (by decide +kernel) (by decide +kernel)
theorem w_487 : Cond.methodLink "EveryPew" 124 yX1_remember ∈ zAll := zti 487 (by decide +kernel) (by decide +kernel)
theorem w_488 : Cond.instanceMethod yX1_remember ∈ zAll := zti 488 (by decide +kernel) (by decide +kernel)
theorem w_489 : Cond.selects "EveryPew$Church" yX1_remember yX1_remember ∈ zAll := zti 489 (by decide +kernel) (by decide +kernel)
theorem w_490 : Cond.code yX1_remember prog_3_method_11_code 1 (Option.none : Option Jvm.ClassFile.FieldType) ∈ zAll := zti 490 (by decide +kernel) (by decide +kernel)
theorem w_495 : Cond.methodLink "EveryPew" 130 yX11_bit ∈ zAll := zti 495 (by decide +kernel) (by decide +kernel)
theorem w_496 : Cond.static yX11_bit ∈ zAll := zti 496 (by decide +kernel) (by decide +kernel)
theorem w_497 : Cond.code yX11_bit prog_1_method_40_code 2 (Option.some Jvm.ClassFile.FieldType.int) ∈ zAll := zti 497 (by decide +kernel) (by decide +kernel)
theorem w_502 : Cond.methodLink "EveryPew" 137 yX1_goBack ∈ zAll := zti 502 (by decide +kernel) (by decide +kernel)
theorem w_503 : Cond.instanceMethod yX1_goBack ∈ zAll := zti 503 (by decide +kernel) (by decide +kernel)
theorem w_504 : Cond.selects "EveryPew$Church" yX1_goBack yX1_goBack ∈ zAll := zti 504 (by decide +kernel) (by decide +kernel)
theorem w_505 : Cond.code yX1_goBack prog_3_method_12_code 1 (Option.none : Option Jvm.ClassFile.FieldType) ∈ zAll := zti 505 (by decide +kernel) (by decide +kernel)
theorem w_506 : Cond.methodLink "EveryPew" 140 yJ6_bitCount_0f7a4 ∈ zAll := zti 506 (by decide +kernel) (by decide +kernel)
theorem w_507 : Cond.static yJ6_bitCount_0f7a4 ∈ zAll := zti 507 (by decide +kernel) (by decide +kernel)
theorem w_508 : Cond.code yJ6_bitCount_0f7a4 prog_15_method_49_code 1 (Option.some Jvm.ClassFile.FieldType.int) ∈ zAll := zti 508 (by decide +kernel) (by decide +kernel)
theorem w_509 : Cond.constant "java/lang/Integer" 265 1431655765 ∈ zAll := zti 509 (by decide +kernel) (by decide +kernel)
theorem w_510 : Cond.constant "java/lang/Integer" 266 858993459 ∈ zAll := zti 510 (by decide +kernel) (by decide +kernel)
theorem w_511 : Cond.constant "java/lang/Integer" 267 252645135 ∈ zAll := zti 511 (by decide +kernel) (by decide +kernel)
theorem w_516 : Cond.methodLink "EveryPew" 145 yX1_trait ∈ zAll := zti 516 (by decide +kernel) (by decide +kernel)
theorem w_517 : Cond.instanceMethod yX1_trait ∈ zAll := zti 517 (by decide +kernel) (by decide +kernel)
theorem w_518 : Cond.selects "EveryPew$Church" yX1_trait yX1_trait ∈ zAll := zti 518 (by decide +kernel) (by decide +kernel)
theorem w_519 : Cond.code yX1_trait prog_3_method_9_code 3 (Option.some Jvm.ClassFile.FieldType.int) ∈ zAll := zti 519 (by decide +kernel) (by decide +kernel)
theorem w_525 : Cond.methodLink "EveryPew" 148 yX11_isWord ∈ zAll := zti 525 (by decide +kernel) (by decide +kernel)
theorem w_526 : Cond.static yX11_isWord ∈ zAll := zti 526 (by decide +kernel) (by decide +kernel)
theorem w_527 : Cond.code yX11_isWord prog_1_method_37_code 1 (Option.some Jvm.ClassFile.FieldType.boolean) ∈ zAll := zti 527 (by decide +kernel) (by decide +kernel)
theorem w_528 : Cond.methodLink "EveryPew" 151 yX8_hold ∈ zAll := zti 528 (by decide +kernel) (by decide +kernel)
theorem w_529 : Cond.instanceMethod yX8_hold ∈ zAll := zti 529 (by decide +kernel) (by decide +kernel)
theorem w_530 : Cond.selects "EveryPew$Service" yX8_hold yX8_hold ∈ zAll := zti 530 (by decide +kernel) (by decide +kernel)
theorem w_531 : Cond.code yX8_hold prog_10_method_2_code 3 (Option.none : Option Jvm.ClassFile.FieldType) ∈ zAll := zti 531 (by decide +kernel) (by decide +kernel)
theorem w_532 : Cond.methodLink "EveryPew$Service" 67 yJ7_fill_53178 ∈ zAll := zti 532 (by decide +kernel) (by decide +kernel)
theorem w_534 : Cond.methodLink "EveryPew$Service" 85 yX8_suppose ∈ zAll := zti 534 (by decide +kernel) (by decide +kernel)
theorem w_535 : Cond.instanceMethod yX8_suppose ∈ zAll := zti 535 (by decide +kernel) (by decide +kernel)
theorem w_536 : Cond.selects "EveryPew$Service" yX8_suppose yX8_suppose ∈ zAll := zti 536 (by decide +kernel) (by decide +kernel)
theorem w_537 : Cond.code yX8_suppose prog_10_method_3_code 8 (Option.none : Option Jvm.ClassFile.FieldType) ∈ zAll := zti 537 (by decide +kernel) (by decide +kernel)
theorem w_538 : Cond.methodLink "EveryPew$Service" 89 yX6_kneelsAt ∈ zAll := zti 538 (by decide +kernel) (by decide +kernel)
theorem w_539 : Cond.instanceMethod yX6_kneelsAt ∈ zAll := zti 539 (by decide +kernel) (by decide +kernel)
theorem w_540 : Cond.selects "EveryPew$Plain" yX6_kneelsAt yX6_kneelsAt ∈ zAll := zti 540 (by decide +kernel) (by decide +kernel)
theorem w_541 : Cond.sameMethod "EveryPew$Plain" "EveryPew$Plain" "kneelsAt" "(ZZ)Z" ∈ zAll := zti 541 (by decide +kernel) (by decide +kernel)
theorem w_542 : Cond.selects "EveryPew$Children" yX6_kneelsAt yX6_kneelsAt ∈ zAll := zti 542 (by decide +kernel) (by decide +kernel)
theorem w_543 : Cond.selects "EveryPew$Convert" yX6_kneelsAt yX2_kneelsAt ∈ zAll := zti 543 (by decide +kernel) (by decide +kernel)
theorem w_544 : Cond.instanceMethod yX2_kneelsAt ∈ zAll := zti 544 (by decide +kernel) (by decide +kernel)
theorem w_545 : Cond.code yX2_kneelsAt prog_4_method_2_code 3 (Option.some Jvm.ClassFile.FieldType.boolean) ∈ zAll := zti 545 (by decide +kernel) (by decide +kernel)
theorem w_546 : Cond.selects "EveryPew$Deacon" yX6_kneelsAt yX4_kneelsAt ∈ zAll := zti 546 (by decide +kernel) (by decide +kernel)
theorem w_547 : Cond.instanceMethod yX4_kneelsAt ∈ zAll := zti 547 (by decide +kernel) (by decide +kernel)
theorem w_548 : Cond.code yX4_kneelsAt prog_6_method_2_code 3 (Option.some Jvm.ClassFile.FieldType.boolean) ∈ zAll := zti 548 (by decide +kernel) (by decide +kernel)
theorem w_549 : Cond.selects "EveryPew$Hoarse" yX6_kneelsAt yX6_kneelsAt ∈ zAll := zti 549 (by decide +kernel) (by decide +kernel)
theorem w_550 : Cond.selects "EveryPew$Waverers" yX6_kneelsAt yX10_kneelsAt ∈ zAll := zti 550 (by decide +kernel) (by decide +kernel)
theorem w_551 : Cond.instanceMethod yX10_kneelsAt ∈ zAll := zti 551 (by decide +kernel) (by decide +kernel)
theorem w_552 : Cond.code yX10_kneelsAt prog_12_method_2_code 3 (Option.some Jvm.ClassFile.FieldType.boolean) ∈ zAll := zti 552 (by decide +kernel) (by decide +kernel)
theorem w_553 : Cond.code yX6_kneelsAt prog_8_method_2_code 3 (Option.some Jvm.ClassFile.FieldType.boolean) ∈ zAll := zti 553 (by decide +kernel) (by decide +kernel)
theorem w_554 : Cond.methodLink "EveryPew$Service" 96 yX6_height ∈ zAll := zti 554 (by decide +kernel) (by decide +kernel)
theorem w_555 : Cond.instanceMethod yX6_height ∈ zAll := zti 555 (by decide +kernel) (by decide +kernel)
theorem w_556 : Cond.selects "EveryPew$Plain" yX6_height yX6_height ∈ zAll := zti 556 (by decide +kernel) (by decide +kernel)
theorem w_557 : Cond.sameMethod "EveryPew$Plain" "EveryPew$Plain" "height" "(IZ)I" ∈ zAll := zti 557 (by decide +kernel) (by decide +kernel)
theorem w_558 : Cond.selects "EveryPew$Children" yX6_height yX0_height ∈ zAll := zti 558 (by decide +kernel) (by decide +kernel)
theorem w_559 : Cond.instanceMethod yX0_height ∈ zAll := zti 559 (by decide +kernel) (by decide +kernel)
theorem w_560 : Cond.code yX0_height prog_2_method_2_code 3 (Option.some Jvm.ClassFile.FieldType.int) ∈ zAll := zti 560 (by decide +kernel) (by decide +kernel)
theorem w_561 : Cond.methodLink "EveryPew$Children" 7 ⟨"EveryPew$Hoarse", "height", "(IZ)I"⟩ ∈ zAll := zti 561 (by decide +kernel) (by decide +kernel)
theorem w_562 : Cond.sameMethod "EveryPew$Hoarse" "EveryPew$Plain" "height" "(IZ)I" ∈ zAll := zti 562 (by decide +kernel) (by decide +kernel)
theorem w_564 : Cond.methodLink "EveryPew$Children" 11 Lib.Math.max.name ∈ zAll := zti 564 (by decide +kernel) (by decide +kernel)
theorem w_565 : Cond.static Lib.Math.max.name ∈ zAll := zti 565 (by decide +kernel) (by decide +kernel)
theorem w_566 : Cond.code Lib.Math.max.name Lib.Math.max.code 2 (Option.some Jvm.ClassFile.FieldType.int) ∈ zAll := zti 566 (by decide +kernel) (by decide +kernel)
theorem w_567 : Cond.selects "EveryPew$Convert" yX6_height yX6_height ∈ zAll := zti 567 (by decide +kernel) (by decide +kernel)
theorem w_568 : Cond.selects "EveryPew$Deacon" yX6_height yX4_height ∈ zAll := zti 568 (by decide +kernel) (by decide +kernel)
theorem w_569 : Cond.instanceMethod yX4_height ∈ zAll := zti 569 (by decide +kernel) (by decide +kernel)
theorem w_570 : Cond.code yX4_height prog_6_method_3_code 3 (Option.some Jvm.ClassFile.FieldType.int) ∈ zAll := zti 570 (by decide +kernel) (by decide +kernel)
theorem w_571 : Cond.methodLink "EveryPew$Deacon" 7 yX6_height ∈ zAll := zti 571 (by decide +kernel) (by decide +kernel)
theorem w_572 : Cond.selects "EveryPew$Hoarse" yX6_height yX6_height ∈ zAll := zti 572 (by decide +kernel) (by decide +kernel)
theorem w_573 : Cond.selects "EveryPew$Waverers" yX6_height yX6_height ∈ zAll := zti 573 (by decide +kernel) (by decide +kernel)
theorem w_574 : Cond.code yX6_height prog_8_method_3_code 3 (Option.some Jvm.ClassFile.FieldType.int) ∈ zAll := zti 574 (by decide +kernel) (by decide +kernel)
theorem w_575 : Cond.methodLink "EveryPew$Service" 102 yX6_sound ∈ zAll := zti 575 (by decide +kernel) (by decide +kernel)
theorem w_576 : Cond.instanceMethod yX6_sound ∈ zAll := zti 576 (by decide +kernel) (by decide +kernel)
theorem w_577 : Cond.selects "EveryPew$Plain" yX6_sound yX6_sound ∈ zAll := zti 577 (by decide +kernel) (by decide +kernel)
theorem w_578 : Cond.sameMethod "EveryPew$Plain" "EveryPew$Plain" "sound" "(IZ)I" ∈ zAll := zti 578 (by decide +kernel) (by decide +kernel)
theorem w_579 : Cond.selects "EveryPew$Children" yX6_sound yX5_sound ∈ zAll := zti 579 (by decide +kernel) (by decide +kernel)
theorem w_580 : Cond.instanceMethod yX5_sound ∈ zAll := zti 580 (by decide +kernel) (by decide +kernel)
theorem w_581 : Cond.code yX5_sound prog_7_method_2_code 3 (Option.some Jvm.ClassFile.FieldType.int) ∈ zAll := zti 581 (by decide +kernel) (by decide +kernel)
theorem w_582 : Cond.methodLink "EveryPew$Hoarse" 7 yX6_sound ∈ zAll := zti 582 (by decide +kernel) (by decide +kernel)
theorem w_583 : Cond.selects "EveryPew$Convert" yX6_sound yX6_sound ∈ zAll := zti 583 (by decide +kernel) (by decide +kernel)
theorem w_584 : Cond.selects "EveryPew$Deacon" yX6_sound yX6_sound ∈ zAll := zti 584 (by decide +kernel) (by decide +kernel)
theorem w_585 : Cond.selects "EveryPew$Hoarse" yX6_sound yX5_sound ∈ zAll := zti 585 (by decide +kernel) (by decide +kernel)
theorem w_586 : Cond.selects "EveryPew$Waverers" yX6_sound yX10_sound ∈ zAll := zti 586 (by decide +kernel) (by decide +kernel)
theorem w_587 : Cond.instanceMethod yX10_sound ∈ zAll := zti 587 (by decide +kernel) (by decide +kernel)
theorem w_588 : Cond.code yX10_sound prog_12_method_3_code 3 (Option.some Jvm.ClassFile.FieldType.int) ∈ zAll := zti 588 (by decide +kernel) (by decide +kernel)
theorem w_589 : Cond.methodLink "EveryPew$Waverers" 7 ⟨"EveryPew$Convert", "sound", "(IZ)I"⟩ ∈ zAll := zti 589 (by decide +kernel) (by decide +kernel)
theorem w_590 : Cond.sameMethod "EveryPew$Convert" "EveryPew$Plain" "sound" "(IZ)I" ∈ zAll := zti 590 (by decide +kernel) (by decide +kernel)
theorem w_592 : Cond.methodLink "EveryPew$Waverers" 11 Lib.Math.max.name ∈ zAll := zti 592 (by decide +kernel) (by decide +kernel)
theorem w_593 : Cond.code yX6_sound prog_8_method_4_code 3 (Option.some Jvm.ClassFile.FieldType.int) ∈ zAll := zti 593 (by decide +kernel) (by decide +kernel)
theorem w_594 : Cond.methodLink "EveryPew" 154 yX8_kneels ∈ zAll := zti 594 (by decide +kernel) (by decide +kernel)
theorem w_595 : Cond.instanceMethod yX8_kneels ∈ zAll := zti 595 (by decide +kernel) (by decide +kernel)
theorem w_596 : Cond.selects "EveryPew$Service" yX8_kneels yX8_kneels ∈ zAll := zti 596 (by decide +kernel) (by decide +kernel)
theorem w_597 : Cond.code yX8_kneels prog_10_method_4_code 3 (Option.some Jvm.ClassFile.FieldType.boolean) ∈ zAll := zti 597 (by decide +kernel) (by decide +kernel)
theorem w_598 : Cond.methodLink "EveryPew" 157 yX8_high ∈ zAll := zti 598 (by decide +kernel) (by decide +kernel)
theorem w_599 : Cond.instanceMethod yX8_high ∈ zAll := zti 599 (by decide +kernel) (by decide +kernel)
theorem w_600 : Cond.selects "EveryPew$Service" yX8_high yX8_high ∈ zAll := zti 600 (by decide +kernel) (by decide +kernel)
theorem w_601 : Cond.code yX8_high prog_10_method_5_code 3 (Option.some Jvm.ClassFile.FieldType.int) ∈ zAll := zti 601 (by decide +kernel) (by decide +kernel)
theorem w_602 : Cond.methodLink "EveryPew" 160 yX8_voices ∈ zAll := zti 602 (by decide +kernel) (by decide +kernel)
theorem w_603 : Cond.instanceMethod yX8_voices ∈ zAll := zti 603 (by decide +kernel) (by decide +kernel)
theorem w_604 : Cond.selects "EveryPew$Service" yX8_voices yX8_voices ∈ zAll := zti 604 (by decide +kernel) (by decide +kernel)
theorem w_605 : Cond.code yX8_voices prog_10_method_6_code 4 (Option.some Jvm.ClassFile.FieldType.int) ∈ zAll := zti 605 (by decide +kernel) (by decide +kernel)
theorem w_606 : Cond.methodLink "EveryPew" 164 yX8_sees ∈ zAll := zti 606 (by decide +kernel) (by decide +kernel)
theorem w_607 : Cond.instanceMethod yX8_sees ∈ zAll := zti 607 (by decide +kernel) (by decide +kernel)
theorem w_608 : Cond.selects "EveryPew$Service" yX8_sees yX8_sees ∈ zAll := zti 608 (by decide +kernel) (by decide +kernel)
theorem w_609 : Cond.code yX8_sees prog_10_method_7_code 4 (Option.some Jvm.ClassFile.FieldType.boolean) ∈ zAll := zti 609 (by decide +kernel) (by decide +kernel)
theorem w_610 : Cond.methodLink "EveryPew$Service" 104 yX8_high ∈ zAll := zti 610 (by decide +kernel) (by decide +kernel)
theorem w_623 : Cond.methodLink "EveryPew" 167 yX8_loudness ∈ zAll := zti 623 (by decide +kernel) (by decide +kernel)
theorem w_624 : Cond.instanceMethod yX8_loudness ∈ zAll := zti 624 (by decide +kernel) (by decide +kernel)
theorem w_625 : Cond.selects "EveryPew$Service" yX8_loudness yX8_loudness ∈ zAll := zti 625 (by decide +kernel) (by decide +kernel)
theorem w_626 : Cond.code yX8_loudness prog_10_method_8_code 4 (Option.some Jvm.ClassFile.FieldType.int) ∈ zAll := zti 626 (by decide +kernel) (by decide +kernel)
theorem w_627 : Cond.methodLink "EveryPew$Service" 107 yX8_loudnessInCase ∈ zAll := zti 627 (by decide +kernel) (by decide +kernel)
theorem w_628 : Cond.instanceMethod yX8_loudnessInCase ∈ zAll := zti 628 (by decide +kernel) (by decide +kernel)
theorem w_629 : Cond.selects "EveryPew$Service" yX8_loudnessInCase yX8_loudnessInCase ∈ zAll := zti 629 (by decide +kernel) (by decide +kernel)
theorem w_630 : Cond.code yX8_loudnessInCase prog_10_method_9_code 6 (Option.some Jvm.ClassFile.FieldType.int) ∈ zAll := zti 630 (by decide +kernel) (by decide +kernel)
theorem w_635 : Cond.methodLink "EveryPew" 170 yX8_isPeaceful ∈ zAll := zti 635 (by decide +kernel) (by decide +kernel)
theorem w_636 : Cond.instanceMethod yX8_isPeaceful ∈ zAll := zti 636 (by decide +kernel) (by decide +kernel)
theorem w_637 : Cond.selects "EveryPew$Service" yX8_isPeaceful yX8_isPeaceful ∈ zAll := zti 637 (by decide +kernel) (by decide +kernel)
theorem w_638 : Cond.code yX8_isPeaceful prog_10_method_10_code 3 (Option.some Jvm.ClassFile.FieldType.boolean) ∈ zAll := zti 638 (by decide +kernel) (by decide +kernel)
theorem w_639 : Cond.methodLink "EveryPew$Service" 111 yX8_isPeacefulInCase ∈ zAll := zti 639 (by decide +kernel) (by decide +kernel)
theorem w_641 : Cond.instanceMethod yX8_isPeacefulInCase ∈ zAll := zti 641 (by decide +kernel) (by decide +kernel)
theorem w_642 : Cond.code yX8_isPeacefulInCase prog_10_method_11_code 3 (Option.some Jvm.ClassFile.FieldType.boolean) ∈ zAll := zti 642 (by decide +kernel) (by decide +kernel)
theorem w_643 : Cond.methodLink "EveryPew$Service" 115 Lib.Math.abs.name ∈ zAll := zti 643 (by decide +kernel) (by decide +kernel)
theorem w_644 : Cond.static Lib.Math.abs.name ∈ zAll := zti 644 (by decide +kernel) (by decide +kernel)
theorem w_645 : Cond.code Lib.Math.abs.name Lib.Math.abs.code 1 (Option.some Jvm.ClassFile.FieldType.int) ∈ zAll := zti 645 (by decide +kernel) (by decide +kernel)
theorem w_654 : Cond.methodLink "EveryPew" 173 yX7_find ∈ zAll := zti 654 (by decide +kernel) (by decide +kernel)
theorem w_655 : Cond.instanceMethod yX7_find ∈ zAll := zti 655 (by decide +kernel) (by decide +kernel)
theorem w_656 : Cond.selects "EveryPew$Seating" yX7_find yX7_find ∈ zAll := zti 656 (by decide +kernel) (by decide +kernel)
theorem w_657 : Cond.code yX7_find prog_9_method_2_code 4 (Option.none : Option Jvm.ClassFile.FieldType) ∈ zAll := zti 657 (by decide +kernel) (by decide +kernel)
theorem w_658 : Cond.methodLink "EveryPew$Seating" 24 yX7_findTallest ∈ zAll := zti 658 (by decide +kernel) (by decide +kernel)
theorem w_660 : Cond.instanceMethod yX7_findTallest ∈ zAll := zti 660 (by decide +kernel) (by decide +kernel)
theorem w_661 : Cond.code yX7_findTallest prog_9_method_5_code 7 (Option.none : Option Jvm.ClassFile.FieldType) ∈ zAll := zti 661 (by decide +kernel) (by decide +kernel)
theorem w_662 : Cond.methodLink "EveryPew$Seating" 45 yX7_firstOf ∈ zAll := zti 662 (by decide +kernel) (by decide +kernel)
theorem w_663 : Cond.static yX7_firstOf ∈ zAll := zti 663 (by decide +kernel) (by decide +kernel)
theorem w_664 : Cond.code yX7_firstOf prog_9_method_6_code 2 (Option.some Jvm.ClassFile.FieldType.int) ∈ zAll := zti 664 (by decide +kernel) (by decide +kernel)
theorem w_666 : Cond.methodLink "EveryPew$Seating" 52 Lib.Math.max.name ∈ zAll := zti 666 (by decide +kernel) (by decide +kernel)
theorem w_667 : Cond.methodLink "EveryPew$Seating" 28 yJ7_fill_53178 ∈ zAll := zti 667 (by decide +kernel) (by decide +kernel)
theorem w_668 : Cond.methodLink "EveryPew$Seating" 34 yX7_fillPew ∈ zAll := zti 668 (by decide +kernel) (by decide +kernel)
theorem w_670 : Cond.instanceMethod yX7_fillPew ∈ zAll := zti 670 (by decide +kernel) (by decide +kernel)
theorem w_671 : Cond.code yX7_fillPew prog_9_method_7_code 7 (Option.none : Option Jvm.ClassFile.FieldType) ∈ zAll := zti 671 (by decide +kernel) (by decide +kernel)
theorem w_672 : Cond.methodLink "EveryPew$Seating" 64 yX7_worth ∈ zAll := zti 672 (by decide +kernel) (by decide +kernel)
theorem w_674 : Cond.instanceMethod yX7_worth ∈ zAll := zti 674 (by decide +kernel) (by decide +kernel)
theorem w_675 : Cond.code yX7_worth prog_9_method_8_code 7 (Option.some Jvm.ClassFile.FieldType.int) ∈ zAll := zti 675 (by decide +kernel) (by decide +kernel)
theorem w_676 : Cond.constant "EveryPew$Seating" 41 10000000 ∈ zAll := zti 676 (by decide +kernel) (by decide +kernel)
theorem w_677 : Cond.fieldLink "EveryPew$Seating" 42 "EveryPew$Seating" "FIGURE_OF" "[I" ∈ zAll := zti 677 (by decide +kernel) (by decide +kernel)
theorem w_679 : Cond.methodLink "EveryPew" 177 yX7_seen ∈ zAll := zti 679 (by decide +kernel) (by decide +kernel)
theorem w_680 : Cond.instanceMethod yX7_seen ∈ zAll := zti 680 (by decide +kernel) (by decide +kernel)
theorem w_681 : Cond.selects "EveryPew$Seating" yX7_seen yX7_seen ∈ zAll := zti 681 (by decide +kernel) (by decide +kernel)
theorem w_682 : Cond.code yX7_seen prog_9_method_3_code 1 (Option.some Jvm.ClassFile.FieldType.int) ∈ zAll := zti 682 (by decide +kernel) (by decide +kernel)
theorem w_683 : Cond.methodLink "EveryPew" 181 yX7_pewOf ∈ zAll := zti 683 (by decide +kernel) (by decide +kernel)
theorem w_684 : Cond.instanceMethod yX7_pewOf ∈ zAll := zti 684 (by decide +kernel) (by decide +kernel)
theorem w_685 : Cond.selects "EveryPew$Seating" yX7_pewOf yX7_pewOf ∈ zAll := zti 685 (by decide +kernel) (by decide +kernel)
theorem w_686 : Cond.code yX7_pewOf prog_9_method_4_code 2 (Option.some Jvm.ClassFile.FieldType.int) ∈ zAll := zti 686 (by decide +kernel) (by decide +kernel)
theorem w_691 : Cond.methodLink "EveryPew" 184 yX8_peacefulWords ∈ zAll := zti 691 (by decide +kernel) (by decide +kernel)
theorem w_692 : Cond.instanceMethod yX8_peacefulWords ∈ zAll := zti 692 (by decide +kernel) (by decide +kernel)
theorem w_693 : Cond.selects "EveryPew$Service" yX8_peacefulWords yX8_peacefulWords ∈ zAll := zti 693 (by decide +kernel) (by decide +kernel)
theorem w_694 : Cond.code yX8_peacefulWords prog_10_method_12_code 4 (Option.some Jvm.ClassFile.FieldType.int) ∈ zAll := zti 694 (by decide +kernel) (by decide +kernel)
theorem w_695 : Cond.methodLink "EveryPew" 190 yX8_suppose ∈ zAll := zti 695 (by decide +kernel) (by decide +kernel)
theorem w_700 : Cond.methodLink "EveryPew" 194 yX1_sets ∈ zAll := zti 700 (by decide +kernel) (by decide +kernel)
theorem w_701 : Cond.instanceMethod yX1_sets ∈ zAll := zti 701 (by decide +kernel) (by decide +kernel)
theorem w_702 : Cond.selects "EveryPew$Church" yX1_sets yX1_sets ∈ zAll := zti 702 (by decide +kernel) (by decide +kernel)
theorem w_703 : Cond.code yX1_sets prog_3_method_6_code 1 (Option.some Jvm.ClassFile.FieldType.int) ∈ zAll := zti 703 (by decide +kernel) (by decide +kernel)
theorem w_704 : Cond.methodLink "EveryPew" 197 yX8_isPeacefulThroughout ∈ zAll := zti 704 (by decide +kernel) (by decide +kernel)
theorem w_705 : Cond.instanceMethod yX8_isPeacefulThroughout ∈ zAll := zti 705 (by decide +kernel) (by decide +kernel)
theorem w_706 : Cond.selects "EveryPew$Service" yX8_isPeacefulThroughout yX8_isPeacefulThroughout ∈ zAll := zti 706 (by decide +kernel) (by decide +kernel)
theorem w_707 : Cond.code yX8_isPeacefulThroughout prog_10_method_13_code 3 (Option.some Jvm.ClassFile.FieldType.boolean) ∈ zAll := zti 707 (by decide +kernel) (by decide +kernel)
theorem w_712 : Cond.methodLink "EveryPew" 203 yX1_hear ∈ zAll := zti 712 (by decide +kernel) (by decide +kernel)
theorem w_713 : Cond.instanceMethod yX1_hear ∈ zAll := zti 713 (by decide +kernel) (by decide +kernel)
theorem w_714 : Cond.selects "EveryPew$Church" yX1_hear yX1_hear ∈ zAll := zti 714 (by decide +kernel) (by decide +kernel)
theorem w_715 : Cond.code yX1_hear prog_3_method_10_code 4 (Option.some Jvm.ClassFile.FieldType.int) ∈ zAll := zti 715 (by decide +kernel) (by decide +kernel)
theorem w_724 : Cond.methodLink "EveryPew" 206 yX3_find ∈ zAll := zti 724 (by decide +kernel) (by decide +kernel)
theorem w_725 : Cond.instanceMethod yX3_find ∈ zAll := zti 725 (by decide +kernel) (by decide +kernel)
theorem w_726 : Cond.selects "EveryPew$Coughs" yX3_find yX3_find ∈ zAll := zti 726 (by decide +kernel) (by decide +kernel)
theorem w_727 : Cond.code yX3_find prog_5_method_2_code 4 (Option.none : Option Jvm.ClassFile.FieldType) ∈ zAll := zti 727 (by decide +kernel) (by decide +kernel)
theorem w_728 : Cond.methodLink "EveryPew$Coughs" 19 yX1_sets ∈ zAll := zti 728 (by decide +kernel) (by decide +kernel)
theorem w_729 : Cond.methodLink "EveryPew$Coughs" 37 yX8_agreesWith ∈ zAll := zti 729 (by decide +kernel) (by decide +kernel)
theorem w_730 : Cond.instanceMethod yX8_agreesWith ∈ zAll := zti 730 (by decide +kernel) (by decide +kernel)
theorem w_731 : Cond.selects "EveryPew$Service" yX8_agreesWith yX8_agreesWith ∈ zAll := zti 731 (by decide +kernel) (by decide +kernel)
theorem w_732 : Cond.code yX8_agreesWith prog_10_method_14_code 4 (Option.some Jvm.ClassFile.FieldType.boolean) ∈ zAll := zti 732 (by decide +kernel) (by decide +kernel)
theorem w_733 : Cond.methodLink "EveryPew$Service" 130 yX8_loudness ∈ zAll := zti 733 (by decide +kernel) (by decide +kernel)
theorem w_738 : Cond.methodLink "EveryPew" 218 yX3_bestWord ∈ zAll := zti 738 (by decide +kernel) (by decide +kernel)
theorem w_739 : Cond.instanceMethod yX3_bestWord ∈ zAll := zti 739 (by decide +kernel) (by decide +kernel)
theorem w_740 : Cond.selects "EveryPew$Coughs" yX3_bestWord yX3_bestWord ∈ zAll := zti 740 (by decide +kernel) (by decide +kernel)
theorem w_741 : Cond.code yX3_bestWord prog_5_method_3_code 8 (Option.some Jvm.ClassFile.FieldType.int) ∈ zAll := zti 741 (by decide +kernel) (by decide +kernel)
theorem w_742 : Cond.methodLink "EveryPew$Coughs" 43 yX3_firstWordOf ∈ zAll := zti 742 (by decide +kernel) (by decide +kernel)
theorem w_743 : Cond.static yX3_firstWordOf ∈ zAll := zti 743 (by decide +kernel) (by decide +kernel)
theorem w_744 : Cond.code yX3_firstWordOf prog_5_method_4_code 3 (Option.some Jvm.ClassFile.FieldType.int) ∈ zAll := zti 744 (by decide +kernel) (by decide +kernel)
theorem w_745 : Cond.methodLink "EveryPew$Coughs" 47 yX3_mostAlike ∈ zAll := zti 745 (by decide +kernel) (by decide +kernel)
theorem w_747 : Cond.instanceMethod yX3_mostAlike ∈ zAll := zti 747 (by decide +kernel) (by decide +kernel)
theorem w_748 : Cond.code yX3_mostAlike prog_5_method_5_code 6 (Option.some Jvm.ClassFile.FieldType.int) ∈ zAll := zti 748 (by decide +kernel) (by decide +kernel)
theorem w_749 : Cond.methodLink "EveryPew$Coughs" 53 yJ7_fill_53178 ∈ zAll := zti 749 (by decide +kernel) (by decide +kernel)
theorem w_750 : Cond.methodLink "EveryPew$Coughs" 59 yX8_loudnessInCase ∈ zAll := zti 750 (by decide +kernel) (by decide +kernel)
theorem w_751 : Cond.methodLink "EveryPew$Coughs" 63 Lib.Math.max.name ∈ zAll := zti 751 (by decide +kernel) (by decide +kernel)
theorem w_756 : Cond.methodLink "EveryPew" 222 yX8_agreesWith ∈ zAll := zti 756 (by decide +kernel) (by decide +kernel)
theorem w_761 : Cond.methodLink "EveryPew" 226 yX11_leadOfBook0 ∈ zAll := zti 761 (by decide +kernel) (by decide +kernel)
theorem w_763 : Cond.instanceMethod yX11_leadOfBook0 ∈ zAll := zti 763 (by decide +kernel) (by decide +kernel)
theorem w_764 : Cond.code yX11_leadOfBook0 prog_1_method_43_code 6 (Option.some Jvm.ClassFile.FieldType.int) ∈ zAll := zti 764 (by decide +kernel) (by decide +kernel)
theorem w_765 : Cond.methodLink "EveryPew" 275 yX1_mostVoiced ∈ zAll := zti 765 (by decide +kernel) (by decide +kernel)
theorem w_766 : Cond.instanceMethod yX1_mostVoiced ∈ zAll := zti 766 (by decide +kernel) (by decide +kernel)
theorem w_767 : Cond.selects "EveryPew$Church" yX1_mostVoiced yX1_mostVoiced ∈ zAll := zti 767 (by decide +kernel) (by decide +kernel)
theorem w_768 : Cond.code yX1_mostVoiced prog_3_method_13_code 4 (Option.some Jvm.ClassFile.FieldType.int) ∈ zAll := zti 768 (by decide +kernel) (by decide +kernel)
theorem w_773 : Cond.methodLink "EveryPew" 229 Lib.Math.max.name ∈ zAll := zti 773 (by decide +kernel) (by decide +kernel)
theorem w_778 : Cond.methodLink "EveryPew" 234 yX11_chancesOf ∈ zAll := zti 778 (by decide +kernel) (by decide +kernel)
theorem w_780 : Cond.instanceMethod yX11_chancesOf ∈ zAll := zti 780 (by decide +kernel) (by decide +kernel)
theorem w_781 : Cond.code yX11_chancesOf prog_1_method_44_code 5 (Option.some Jvm.ClassFile.FieldType.long) ∈ zAll := zti 781 (by decide +kernel) (by decide +kernel)
theorem w_782 : Cond.methodLink "EveryPew" 238 yX11_power ∈ zAll := zti 782 (by decide +kernel) (by decide +kernel)
theorem w_783 : Cond.static yX11_power ∈ zAll := zti 783 (by decide +kernel) (by decide +kernel)
theorem w_784 : Cond.code yX11_power prog_1_method_45_code 5 (Option.some Jvm.ClassFile.FieldType.long) ∈ zAll := zti 784 (by decide +kernel) (by decide +kernel)
theorem w_785 : Cond.methodLink "EveryPew" 241 yX11_keepFraction ∈ zAll := zti 785 (by decide +kernel) (by decide +kernel)
theorem w_787 : Cond.instanceMethod yX11_keepFraction ∈ zAll := zti 787 (by decide +kernel) (by decide +kernel)
theorem w_788 : Cond.code yX11_keepFraction prog_1_method_46_code 7 (Option.none : Option Jvm.ClassFile.FieldType) ∈ zAll := zti 788 (by decide +kernel) (by decide +kernel)
theorem w_789 : Cond.methodLink "EveryPew" 278 yX11_commonDivisor ∈ zAll := zti 789 (by decide +kernel) (by decide +kernel)
theorem w_790 : Cond.static yX11_commonDivisor ∈ zAll := zti 790 (by decide +kernel) (by decide +kernel)
theorem w_791 : Cond.code yX11_commonDivisor prog_1_method_47_code 11 (Option.some Jvm.ClassFile.FieldType.long) ∈ zAll := zti 791 (by decide +kernel) (by decide +kernel)
theorem w_796 : Cond.constant "EveryPew" 245 999999 ∈ zAll := zti 796 (by decide +kernel) (by decide +kernel)
theorem w_797 : Cond.constantLong "EveryPew" 246 1103515245 ∈ zAll := zti 797 (by decide +kernel) (by decide +kernel)
theorem w_798 : Cond.constantLong "EveryPew" 248 12345 ∈ zAll := zti 798 (by decide +kernel) (by decide +kernel)
theorem w_799 : Cond.constantLong "EveryPew" 250 2147483648 ∈ zAll := zti 799 (by decide +kernel) (by decide +kernel)
theorem w_800 : Cond.constantLong "EveryPew" 252 65536 ∈ zAll := zti 800 (by decide +kernel) (by decide +kernel)
theorem w_801 : Cond.constantLong "EveryPew" 254 4 ∈ zAll := zti 801 (by decide +kernel) (by decide +kernel)
theorem w_822 : Cond.methodLink "EveryPew" 256 yX11_howMany ∈ zAll := zti 822 (by decide +kernel) (by decide +kernel)
theorem w_824 : Cond.instanceMethod yX11_howMany ∈ zAll := zti 824 (by decide +kernel) (by decide +kernel)
theorem w_825 : Cond.code yX11_howMany prog_1_method_42_code 2 (Option.some Jvm.ClassFile.FieldType.int) ∈ zAll := zti 825 (by decide +kernel) (by decide +kernel)
theorem w_830 : Cond.constantLong "EveryPew" 259 1171 ∈ zAll := zti 830 (by decide +kernel) (by decide +kernel)
theorem w_831 : Cond.constantLong "EveryPew" 261 31 ∈ zAll := zti 831 (by decide +kernel) (by decide +kernel)
theorem w_838 : Cond.methodLink "EveryPewModel" 60 yX12_begin ∈ zAll := zti 838 (by decide +kernel) (by decide +kernel)
theorem w_839 : Cond.static yX12_begin ∈ zAll := zti 839 (by decide +kernel) (by decide +kernel)
theorem w_840 : Cond.code yX12_begin prog_14_method_9_code 3 (Option.none : Option Jvm.ClassFile.FieldType) ∈ zAll := zti 840 (by decide +kernel) (by decide +kernel)
theorem w_841 : Cond.fieldLink "EveryPewModel" 7 "EveryPewModel" "now" "[I" ∈ zAll := zti 841 (by decide +kernel) (by decide +kernel)
theorem w_842 : Cond.fieldLink "EveryPewModel" 13 "EveryPewModel" "kept" "[I" ∈ zAll := zti 842 (by decide +kernel) (by decide +kernel)
theorem w_843 : Cond.fieldLink "EveryPewModel" 16 "EveryPewModel" "isKept" "[Z" ∈ zAll := zti 843 (by decide +kernel) (by decide +kernel)
theorem w_844 : Cond.fieldLink "EveryPewModel" 20 "EveryPewModel" "refused" "[I" ∈ zAll := zti 844 (by decide +kernel) (by decide +kernel)
theorem w_845 : Cond.fieldLink "EveryPewModel" 198 "EveryPewModel" "above" "J" ∈ zAll := zti 845 (by decide +kernel) (by decide +kernel)
theorem w_846 : Cond.fieldLink "EveryPewModel" 23 "EveryPewModel" "below" "J" ∈ zAll := zti 846 (by decide +kernel) (by decide +kernel)
theorem w_847 : Cond.fieldLink "EveryPewModel" 27 "EveryPewModel" "kinds" "[I" ∈ zAll := zti 847 (by decide +kernel) (by decide +kernel)
theorem w_848 : Cond.fieldLink "EveryPewModel" 30 "EveryPewModel" "theirs" "[I" ∈ zAll := zti 848 (by decide +kernel) (by decide +kernel)
theorem w_849 : Cond.fieldLink "EveryPewModel" 33 "EveryPewModel" "sits" "[I" ∈ zAll := zti 849 (by decide +kernel) (by decide +kernel)
theorem w_850 : Cond.fieldLink "EveryPewModel" 110 "EveryPewModel" "coughing" "I" ∈ zAll := zti 850 (by decide +kernel) (by decide +kernel)
theorem w_851 : Cond.fieldLink "EveryPewModel" 36 "EveryPewModel" "highs" "[I" ∈ zAll := zti 851 (by decide +kernel) (by decide +kernel)
theorem w_852 : Cond.fieldLink "EveryPewModel" 39 "EveryPewModel" "bestSits" "[I" ∈ zAll := zti 852 (by decide +kernel) (by decide +kernel)
theorem w_853 : Cond.fieldLink "EveryPewModel" 156 "EveryPewModel" "mostSee" "I" ∈ zAll := zti 853 (by decide +kernel) (by decide +kernel)
theorem w_854 : Cond.fieldLink "EveryPewModel" 42 "EveryPewModel" "may" "[Z" ∈ zAll := zti 854 (by decide +kernel) (by decide +kernel)
theorem w_855 : Cond.fieldLink "EveryPewModel" 178 "EveryPewModel" "manyMay" "I" ∈ zAll := zti 855 (by decide +kernel) (by decide +kernel)
theorem w_856 : Cond.fieldLink "EveryPewModel" 45 "EveryPewModel" "manyBy" "[I" ∈ zAll := zti 856 (by decide +kernel) (by decide +kernel)
theorem w_857 : Cond.fieldLink "EveryPewModel" 48 "EveryPewModel" "louder" "[I" ∈ zAll := zti 857 (by decide +kernel) (by decide +kernel)
theorem w_858 : Cond.fieldLink "EveryPewModel" 51 "EveryPewModel" "bytes" "[I" ∈ zAll := zti 858 (by decide +kernel) (by decide +kernel)
theorem w_859 : Cond.fieldLink "EveryPewModel" 223 "EveryPewModel" "bytesLong" "I" ∈ zAll := zti 859 (by decide +kernel) (by decide +kernel)
theorem w_860 : Cond.fieldLink "EveryPewModel" 234 "EveryPewModel" "tokenAt" "I" ∈ zAll := zti 860 (by decide +kernel) (by decide +kernel)
theorem w_861 : Cond.fieldLink "EveryPewModel" 237 "EveryPewModel" "tokenLong" "I" ∈ zAll := zti 861 (by decide +kernel) (by decide +kernel)
theorem w_862 : Cond.fieldLink "EveryPewModel" 240 "EveryPewModel" "token" "I" ∈ zAll := zti 862 (by decide +kernel) (by decide +kernel)
theorem w_863 : Cond.fieldLink "EveryPewModel" 243 "EveryPewModel" "value" "I" ∈ zAll := zti 863 (by decide +kernel) (by decide +kernel)
theorem w_864 : Cond.fieldLink "EveryPewModel" 54 "EveryPewModel" "anew" "[I" ∈ zAll := zti 864 (by decide +kernel) (by decide +kernel)
theorem w_865 : Cond.fieldLink "EveryPewModel" 57 "EveryPewModel" "values" "[I" ∈ zAll := zti 865 (by decide +kernel) (by decide +kernel)
theorem w_921 : Cond.constantLong "EveryPewModel" 76 30 ∈ zAll := zti 921 (by decide +kernel) (by decide +kernel)
theorem w_922 : Cond.methodLink "EveryPewModel" 68 yX12_in ∈ zAll := zti 922 (by decide +kernel) (by decide +kernel)
theorem w_923 : Cond.static yX12_in ∈ zAll := zti 923 (by decide +kernel) (by decide +kernel)
theorem w_924 : Cond.code yX12_in prog_14_method_3_code 6 (Option.some Jvm.ClassFile.FieldType.boolean) ∈ zAll := zti 924 (by decide +kernel) (by decide +kernel)
theorem w_925 : Cond.methodLink "EveryPewModel" 78 yX12_bad ∈ zAll := zti 925 (by decide +kernel) (by decide +kernel)
theorem w_927 : Cond.instanceMethod yX12_bad ∈ zAll := zti 927 (by decide +kernel) (by decide +kernel)
theorem w_928 : Cond.code yX12_bad prog_14_method_4_code 2 (Option.some Jvm.ClassFile.FieldType.int) ∈ zAll := zti 928 (by decide +kernel) (by decide +kernel)
theorem w_929 : Cond.methodLink "EveryPewModel" 64 yX12_many ∈ zAll := zti 929 (by decide +kernel) (by decide +kernel)
theorem w_931 : Cond.instanceMethod yX12_many ∈ zAll := zti 931 (by decide +kernel) (by decide +kernel)
theorem w_932 : Cond.code yX12_many prog_14_method_10_code 1 (Option.some Jvm.ClassFile.FieldType.int) ∈ zAll := zti 932 (by decide +kernel) (by decide +kernel)
theorem w_937 : Cond.methodLink "EveryPewModel" 82 yX12_isBook ∈ zAll := zti 937 (by decide +kernel) (by decide +kernel)
theorem w_938 : Cond.static yX12_isBook ∈ zAll := zti 938 (by decide +kernel) (by decide +kernel)
theorem w_939 : Cond.code yX12_isBook prog_14_method_13_code 1 (Option.some Jvm.ClassFile.FieldType.boolean) ∈ zAll := zti 939 (by decide +kernel) (by decide +kernel)
theorem w_940 : Cond.constantLong "EveryPewModel" 86 65535 ∈ zAll := zti 940 (by decide +kernel) (by decide +kernel)
theorem w_945 : Cond.constantLong "EveryPewModel" 88 5 ∈ zAll := zti 945 (by decide +kernel) (by decide +kernel)
theorem w_946 : Cond.constantLong "EveryPewModel" 74 9 ∈ zAll := zti 946 (by decide +kernel) (by decide +kernel)
theorem w_947 : Cond.constantLong "EveryPewModel" 90 20 ∈ zAll := zti 947 (by decide +kernel) (by decide +kernel)
theorem w_948 : Cond.methodLink "EveryPewModel" 92 yX12_isPewOf ∈ zAll := zti 948 (by decide +kernel) (by decide +kernel)
theorem w_949 : Cond.static yX12_isPewOf ∈ zAll := zti 949 (by decide +kernel) (by decide +kernel)
theorem w_950 : Cond.code yX12_isPewOf prog_14_method_14_code 2 (Option.some Jvm.ClassFile.FieldType.boolean) ∈ zAll := zti 950 (by decide +kernel) (by decide +kernel)
theorem w_951 : Cond.methodLink "EveryPewModel" 96 yX12_isTaken ∈ zAll := zti 951 (by decide +kernel) (by decide +kernel)
theorem w_952 : Cond.static yX12_isTaken ∈ zAll := zti 952 (by decide +kernel) (by decide +kernel)
theorem w_953 : Cond.code yX12_isTaken prog_14_method_16_code 4 (Option.some Jvm.ClassFile.FieldType.boolean) ∈ zAll := zti 953 (by decide +kernel) (by decide +kernel)
theorem w_954 : Cond.methodLink "EveryPewModel" 100 yX12_no ∈ zAll := zti 954 (by decide +kernel) (by decide +kernel)
theorem w_956 : Cond.instanceMethod yX12_no ∈ zAll := zti 956 (by decide +kernel) (by decide +kernel)
theorem w_957 : Cond.code yX12_no prog_14_method_5_code 1 (Option.some Jvm.ClassFile.FieldType.int) ∈ zAll := zti 957 (by decide +kernel) (by decide +kernel)
theorem w_958 : Cond.methodLink "EveryPewModel" 103 yX12_full ∈ zAll := zti 958 (by decide +kernel) (by decide +kernel)
theorem w_960 : Cond.instanceMethod yX12_full ∈ zAll := zti 960 (by decide +kernel) (by decide +kernel)
theorem w_961 : Cond.code yX12_full prog_14_method_6_code 1 (Option.some Jvm.ClassFile.FieldType.int) ∈ zAll := zti 961 (by decide +kernel) (by decide +kernel)
theorem w_962 : Cond.methodLink "EveryPewModel" 106 yX12_layFamily ∈ zAll := zti 962 (by decide +kernel) (by decide +kernel)
theorem w_963 : Cond.static yX12_layFamily ∈ zAll := zti 963 (by decide +kernel) (by decide +kernel)
theorem w_964 : Cond.code yX12_layFamily prog_14_method_19_code 7 (Option.none : Option Jvm.ClassFile.FieldType) ∈ zAll := zti 964 (by decide +kernel) (by decide +kernel)
theorem w_969 : Cond.methodLink "EveryPewModel" 136 yX12_isFamily ∈ zAll := zti 969 (by decide +kernel) (by decide +kernel)
theorem w_971 : Cond.instanceMethod yX12_isFamily ∈ zAll := zti 971 (by decide +kernel) (by decide +kernel)
theorem w_972 : Cond.code yX12_isFamily prog_14_method_11_code 2 (Option.some Jvm.ClassFile.FieldType.boolean) ∈ zAll := zti 972 (by decide +kernel) (by decide +kernel)
theorem w_973 : Cond.methodLink "EveryPewModel" 114 yX12_get ∈ zAll := zti 973 (by decide +kernel) (by decide +kernel)
theorem w_975 : Cond.instanceMethod yX12_get ∈ zAll := zti 975 (by decide +kernel) (by decide +kernel)
theorem w_976 : Cond.code yX12_get prog_14_method_15_code 3 (Option.some Jvm.ClassFile.FieldType.int) ∈ zAll := zti 976 (by decide +kernel) (by decide +kernel)
theorem w_977 : Cond.methodLink "EveryPewModel" 139 yX12_keep ∈ zAll := zti 977 (by decide +kernel) (by decide +kernel)
theorem w_979 : Cond.instanceMethod yX12_keep ∈ zAll := zti 979 (by decide +kernel) (by decide +kernel)
theorem w_980 : Cond.code yX12_keep prog_14_method_29_code 3 (Option.none : Option Jvm.ClassFile.FieldType) ∈ zAll := zti 980 (by decide +kernel) (by decide +kernel)
theorem w_989 : Cond.methodLink "EveryPewModel" 142 yX12_manyColds ∈ zAll := zti 989 (by decide +kernel) (by decide +kernel)
theorem w_991 : Cond.instanceMethod yX12_manyColds ∈ zAll := zti 991 (by decide +kernel) (by decide +kernel)
theorem w_992 : Cond.code yX12_manyColds prog_14_method_32_code 3 (Option.some Jvm.ClassFile.FieldType.int) ∈ zAll := zti 992 (by decide +kernel) (by decide +kernel)
theorem w_1001 : Cond.methodLink "EveryPewModel" 145 yX12_isWord ∈ zAll := zti 1001 (by decide +kernel) (by decide +kernel)
theorem w_1002 : Cond.static yX12_isWord ∈ zAll := zti 1002 (by decide +kernel) (by decide +kernel)
theorem w_1003 : Cond.code yX12_isWord prog_14_method_12_code 1 (Option.some Jvm.ClassFile.FieldType.boolean) ∈ zAll := zti 1003 (by decide +kernel) (by decide +kernel)
theorem w_1004 : Cond.constantLong "EveryPewModel" 72 15 ∈ zAll := zti 1004 (by decide +kernel) (by decide +kernel)
theorem w_1005 : Cond.constantLong "EveryPewModel" 148 3 ∈ zAll := zti 1005 (by decide +kernel) (by decide +kernel)
theorem w_1006 : Cond.methodLink "EveryPewModel" 150 yX12_layHand ∈ zAll := zti 1006 (by decide +kernel) (by decide +kernel)
theorem w_1008 : Cond.instanceMethod yX12_layHand ∈ zAll := zti 1008 (by decide +kernel) (by decide +kernel)
theorem w_1009 : Cond.code yX12_layHand prog_14_method_21_code 2 (Option.none : Option Jvm.ClassFile.FieldType) ∈ zAll := zti 1009 (by decide +kernel) (by decide +kernel)
theorem w_1010 : Cond.methodLink "EveryPewModel" 121 yX12_kneels ∈ zAll := zti 1010 (by decide +kernel) (by decide +kernel)
theorem w_1012 : Cond.instanceMethod yX12_kneels ∈ zAll := zti 1012 (by decide +kernel) (by decide +kernel)
theorem w_1013 : Cond.code yX12_kneels prog_14_method_22_code 5 (Option.some Jvm.ClassFile.FieldType.boolean) ∈ zAll := zti 1013 (by decide +kernel) (by decide +kernel)
theorem w_1014 : Cond.methodLink "EveryPewModel" 118 yX12_has ∈ zAll := zti 1014 (by decide +kernel) (by decide +kernel)
theorem w_1015 : Cond.static yX12_has ∈ zAll := zti 1015 (by decide +kernel) (by decide +kernel)
theorem w_1016 : Cond.code yX12_has prog_14_method_8_code 2 (Option.some Jvm.ClassFile.FieldType.boolean) ∈ zAll := zti 1016 (by decide +kernel) (by decide +kernel)
theorem w_1017 : Cond.methodLink "EveryPewModel" 124 yX12_high ∈ zAll := zti 1017 (by decide +kernel) (by decide +kernel)
theorem w_1019 : Cond.instanceMethod yX12_high ∈ zAll := zti 1019 (by decide +kernel) (by decide +kernel)
theorem w_1020 : Cond.code yX12_high prog_14_method_23_code 5 (Option.some Jvm.ClassFile.FieldType.int) ∈ zAll := zti 1020 (by decide +kernel) (by decide +kernel)
theorem w_1021 : Cond.methodLink "EveryPewModel" 127 yX12_voices ∈ zAll := zti 1021 (by decide +kernel) (by decide +kernel)
theorem w_1023 : Cond.instanceMethod yX12_voices ∈ zAll := zti 1023 (by decide +kernel) (by decide +kernel)
theorem w_1024 : Cond.code yX12_voices prog_14_method_24_code 5 (Option.some Jvm.ClassFile.FieldType.int) ∈ zAll := zti 1024 (by decide +kernel) (by decide +kernel)
theorem w_1025 : Cond.methodLink "EveryPewModel" 153 yX12_sees ∈ zAll := zti 1025 (by decide +kernel) (by decide +kernel)
theorem w_1027 : Cond.instanceMethod yX12_sees ∈ zAll := zti 1027 (by decide +kernel) (by decide +kernel)
theorem w_1028 : Cond.code yX12_sees prog_14_method_25_code 5 (Option.some Jvm.ClassFile.FieldType.boolean) ∈ zAll := zti 1028 (by decide +kernel) (by decide +kernel)
theorem w_1041 : Cond.methodLink "EveryPewModel" 130 yX12_loudOf ∈ zAll := zti 1041 (by decide +kernel) (by decide +kernel)
theorem w_1043 : Cond.instanceMethod yX12_loudOf ∈ zAll := zti 1043 (by decide +kernel) (by decide +kernel)
theorem w_1044 : Cond.code yX12_loudOf prog_14_method_26_code 5 (Option.some Jvm.ClassFile.FieldType.int) ∈ zAll := zti 1044 (by decide +kernel) (by decide +kernel)
theorem w_1049 : Cond.methodLink "EveryPewModel" 133 yX12_isPeace ∈ zAll := zti 1049 (by decide +kernel) (by decide +kernel)
theorem w_1051 : Cond.instanceMethod yX12_isPeace ∈ zAll := zti 1051 (by decide +kernel) (by decide +kernel)
theorem w_1052 : Cond.code yX12_isPeace prog_14_method_27_code 3 (Option.some Jvm.ClassFile.FieldType.boolean) ∈ zAll := zti 1052 (by decide +kernel) (by decide +kernel)
theorem w_1061 : Cond.constantLong "EveryPewModel" 165 (-1) ∈ zAll := zti 1061 (by decide +kernel) (by decide +kernel)
theorem w_1062 : Cond.methodLink "EveryPewModel" 167 yX12_laySeating ∈ zAll := zti 1062 (by decide +kernel) (by decide +kernel)
theorem w_1064 : Cond.instanceMethod yX12_laySeating ∈ zAll := zti 1064 (by decide +kernel) (by decide +kernel)
theorem w_1065 : Cond.code yX12_laySeating prog_14_method_43_code 5 (Option.none : Option Jvm.ClassFile.FieldType) ∈ zAll := zti 1065 (by decide +kernel) (by decide +kernel)
theorem w_1066 : Cond.methodLink "EveryPewModel" 159 yX12_laySeats ∈ zAll := zti 1066 (by decide +kernel) (by decide +kernel)
theorem w_1068 : Cond.instanceMethod yX12_laySeats ∈ zAll := zti 1068 (by decide +kernel) (by decide +kernel)
theorem w_1069 : Cond.code yX12_laySeats prog_14_method_41_code 6 (Option.some Jvm.ClassFile.FieldType.boolean) ∈ zAll := zti 1069 (by decide +kernel) (by decide +kernel)
theorem w_1070 : Cond.methodLink "EveryPewModel" 162 yX12_seeing ∈ zAll := zti 1070 (by decide +kernel) (by decide +kernel)
theorem w_1072 : Cond.instanceMethod yX12_seeing ∈ zAll := zti 1072 (by decide +kernel) (by decide +kernel)
theorem w_1073 : Cond.code yX12_seeing prog_14_method_42_code 6 (Option.some Jvm.ClassFile.FieldType.int) ∈ zAll := zti 1073 (by decide +kernel) (by decide +kernel)
theorem w_1078 : Cond.methodLink "EveryPewModel" 170 yX12_peaces ∈ zAll := zti 1078 (by decide +kernel) (by decide +kernel)
theorem w_1080 : Cond.instanceMethod yX12_peaces ∈ zAll := zti 1080 (by decide +kernel) (by decide +kernel)
theorem w_1081 : Cond.code yX12_peaces prog_14_method_28_code 3 (Option.some Jvm.ClassFile.FieldType.int) ∈ zAll := zti 1081 (by decide +kernel) (by decide +kernel)
theorem w_1086 : Cond.methodLink "EveryPewModel" 173 yX12_bits ∈ zAll := zti 1086 (by decide +kernel) (by decide +kernel)
theorem w_1087 : Cond.static yX12_bits ∈ zAll := zti 1087 (by decide +kernel) (by decide +kernel)
theorem w_1088 : Cond.code yX12_bits prog_14_method_7_code 3 (Option.some Jvm.ClassFile.FieldType.int) ∈ zAll := zti 1088 (by decide +kernel) (by decide +kernel)
theorem w_1093 : Cond.constantLong "EveryPewModel" 176 140 ∈ zAll := zti 1093 (by decide +kernel) (by decide +kernel)
theorem w_1102 : Cond.constantLong "EveryPewModel" 185 2 ∈ zAll := zti 1102 (by decide +kernel) (by decide +kernel)
theorem w_1103 : Cond.methodLink "EveryPewModel" 187 yX12_layMay ∈ zAll := zti 1103 (by decide +kernel) (by decide +kernel)
theorem w_1105 : Cond.instanceMethod yX12_layMay ∈ zAll := zti 1105 (by decide +kernel) (by decide +kernel)
theorem w_1106 : Cond.code yX12_layMay prog_14_method_50_code 2 (Option.none : Option Jvm.ClassFile.FieldType) ∈ zAll := zti 1106 (by decide +kernel) (by decide +kernel)
theorem w_1107 : Cond.methodLink "EveryPewModel" 181 yX12_isHeardSo ∈ zAll := zti 1107 (by decide +kernel) (by decide +kernel)
theorem w_1109 : Cond.instanceMethod yX12_isHeardSo ∈ zAll := zti 1109 (by decide +kernel) (by decide +kernel)
theorem w_1110 : Cond.code yX12_isHeardSo prog_14_method_49_code 4 (Option.some Jvm.ClassFile.FieldType.boolean) ∈ zAll := zti 1110 (by decide +kernel) (by decide +kernel)
theorem w_1115 : Cond.constant "EveryPewModel" 190 1000000 ∈ zAll := zti 1115 (by decide +kernel) (by decide +kernel)
theorem w_1124 : Cond.methodLink "EveryPewModel" 191 yX12_deaconOf ∈ zAll := zti 1124 (by decide +kernel) (by decide +kernel)
theorem w_1126 : Cond.instanceMethod yX12_deaconOf ∈ zAll := zti 1126 (by decide +kernel) (by decide +kernel)
theorem w_1127 : Cond.code yX12_deaconOf prog_14_method_54_code 5 (Option.some Jvm.ClassFile.FieldType.int) ∈ zAll := zti 1127 (by decide +kernel) (by decide +kernel)
theorem w_1132 : Cond.constantLong "EveryPewModel" 194 40 ∈ zAll := zti 1132 (by decide +kernel) (by decide +kernel)
theorem w_1133 : Cond.constantLong "EveryPewModel" 196 99 ∈ zAll := zti 1133 (by decide +kernel) (by decide +kernel)
theorem w_1138 : Cond.constantLong "EveryPewModel" 201 10 ∈ zAll := zti 1138 (by decide +kernel) (by decide +kernel)
theorem w_1139 : Cond.methodLink "EveryPewModel" 203 yX12_fraction ∈ zAll := zti 1139 (by decide +kernel) (by decide +kernel)
theorem w_1141 : Cond.instanceMethod yX12_fraction ∈ zAll := zti 1141 (by decide +kernel) (by decide +kernel)
theorem w_1142 : Cond.code yX12_fraction prog_14_method_57_code 11 (Option.none : Option Jvm.ClassFile.FieldType) ∈ zAll := zti 1142 (by decide +kernel) (by decide +kernel)
theorem w_1147 : Cond.constantLong "EveryPewModel" 207 999999 ∈ zAll := zti 1147 (by decide +kernel) (by decide +kernel)
theorem w_1148 : Cond.constantLong "EveryPewModel" 209 60 ∈ zAll := zti 1148 (by decide +kernel) (by decide +kernel)
theorem w_1149 : Cond.constantLong "EveryPewModel" 211 1103515245 ∈ zAll := zti 1149 (by decide +kernel) (by decide +kernel)
theorem w_1150 : Cond.constantLong "EveryPewModel" 213 12345 ∈ zAll := zti 1150 (by decide +kernel) (by decide +kernel)
theorem w_1151 : Cond.constantLong "EveryPewModel" 215 2147483648 ∈ zAll := zti 1151 (by decide +kernel) (by decide +kernel)
theorem w_1152 : Cond.constantLong "EveryPewModel" 217 65536 ∈ zAll := zti 1152 (by decide +kernel) (by decide +kernel)
theorem w_1153 : Cond.constantLong "EveryPewModel" 219 4 ∈ zAll := zti 1153 (by decide +kernel) (by decide +kernel)
theorem w_1158 : Cond.constantLong "EveryPewModel" 221 127 ∈ zAll := zti 1158 (by decide +kernel) (by decide +kernel)
theorem w_1167 : Cond.methodLink "EveryPewModel" 252 yX12_lookAt ∈ zAll := zti 1167 (by decide +kernel) (by decide +kernel)
theorem w_1169 : Cond.instanceMethod yX12_lookAt ∈ zAll := zti 1169 (by decide +kernel) (by decide +kernel)
theorem w_1170 : Cond.code yX12_lookAt prog_14_method_64_code 5 (Option.none : Option Jvm.ClassFile.FieldType) ∈ zAll := zti 1170 (by decide +kernel) (by decide +kernel)
theorem w_1171 : Cond.methodLink "EveryPewModel" 246 yX12_isSmall ∈ zAll := zti 1171 (by decide +kernel) (by decide +kernel)
theorem w_1172 : Cond.static yX12_isSmall ∈ zAll := zti 1172 (by decide +kernel) (by decide +kernel)
theorem w_1173 : Cond.code yX12_isSmall prog_14_method_62_code 1 (Option.some Jvm.ClassFile.FieldType.boolean) ∈ zAll := zti 1173 (by decide +kernel) (by decide +kernel)
theorem w_1174 : Cond.constantLong "EveryPewModel" 226 97 ∈ zAll := zti 1174 (by decide +kernel) (by decide +kernel)
theorem w_1175 : Cond.constantLong "EveryPewModel" 228 122 ∈ zAll := zti 1175 (by decide +kernel) (by decide +kernel)
theorem w_1176 : Cond.methodLink "EveryPewModel" 249 yX12_isFigure ∈ zAll := zti 1176 (by decide +kernel) (by decide +kernel)
theorem w_1177 : Cond.static yX12_isFigure ∈ zAll := zti 1177 (by decide +kernel) (by decide +kernel)
theorem w_1178 : Cond.code yX12_isFigure prog_14_method_63_code 1 (Option.some Jvm.ClassFile.FieldType.boolean) ∈ zAll := zti 1178 (by decide +kernel) (by decide +kernel)
theorem w_1179 : Cond.constantLong "EveryPewModel" 230 48 ∈ zAll := zti 1179 (by decide +kernel) (by decide +kernel)
theorem w_1180 : Cond.constantLong "EveryPewModel" 232 57 ∈ zAll := zti 1180 (by decide +kernel) (by decide +kernel)
theorem w_1181 : Cond.methodLink "EveryPewModel" 276 yX12_takesChurch ∈ zAll := zti 1181 (by decide +kernel) (by decide +kernel)
theorem w_1183 : Cond.instanceMethod yX12_takesChurch ∈ zAll := zti 1183 (by decide +kernel) (by decide +kernel)
theorem w_1184 : Cond.code yX12_takesChurch prog_14_method_68_code 1 (Option.some Jvm.ClassFile.FieldType.boolean) ∈ zAll := zti 1184 (by decide +kernel) (by decide +kernel)
theorem w_1185 : Cond.methodLink "EveryPewModel" 259 yX12_spells ∈ zAll := zti 1185 (by decide +kernel) (by decide +kernel)
theorem w_1187 : Cond.instanceMethod yX12_spells ∈ zAll := zti 1187 (by decide +kernel) (by decide +kernel)
theorem w_1188 : Cond.code yX12_spells prog_14_method_66_code 10 (Option.some Jvm.ClassFile.FieldType.boolean) ∈ zAll := zti 1188 (by decide +kernel) (by decide +kernel)
theorem w_1189 : Cond.methodLink "EveryPewModel" 256 yX12_goBehind ∈ zAll := zti 1189 (by decide +kernel) (by decide +kernel)
theorem w_1191 : Cond.instanceMethod yX12_goBehind ∈ zAll := zti 1191 (by decide +kernel) (by decide +kernel)
theorem w_1192 : Cond.code yX12_goBehind prog_14_method_65_code 1 (Option.none : Option Jvm.ClassFile.FieldType) ∈ zAll := zti 1192 (by decide +kernel) (by decide +kernel)
theorem w_1193 : Cond.methodLink "EveryPewModel" 263 yX12_takes ∈ zAll := zti 1193 (by decide +kernel) (by decide +kernel)
theorem w_1195 : Cond.instanceMethod yX12_takes ∈ zAll := zti 1195 (by decide +kernel) (by decide +kernel)
theorem w_1196 : Cond.code yX12_takes prog_14_method_67_code 4 (Option.some Jvm.ClassFile.FieldType.boolean) ∈ zAll := zti 1196 (by decide +kernel) (by decide +kernel)
theorem w_1197 : Cond.methodLink "EveryPewModel" 279 yX12_takesItem ∈ zAll := zti 1197 (by decide +kernel) (by decide +kernel)
theorem w_1199 : Cond.instanceMethod yX12_takesItem ∈ zAll := zti 1199 (by decide +kernel) (by decide +kernel)
theorem w_1200 : Cond.code yX12_takesItem prog_14_method_72_code 1 (Option.some Jvm.ClassFile.FieldType.boolean) ∈ zAll := zti 1200 (by decide +kernel) (by decide +kernel)
theorem w_1201 : Cond.methodLink "EveryPewModel" 267 yX12_takesBook ∈ zAll := zti 1201 (by decide +kernel) (by decide +kernel)
theorem w_1203 : Cond.instanceMethod yX12_takesBook ∈ zAll := zti 1203 (by decide +kernel) (by decide +kernel)
theorem w_1204 : Cond.code yX12_takesBook prog_14_method_69_code 2 (Option.some Jvm.ClassFile.FieldType.boolean) ∈ zAll := zti 1204 (by decide +kernel) (by decide +kernel)
theorem w_1205 : Cond.methodLink "EveryPewModel" 270 yX12_takesFamily ∈ zAll := zti 1205 (by decide +kernel) (by decide +kernel)
theorem w_1207 : Cond.instanceMethod yX12_takesFamily ∈ zAll := zti 1207 (by decide +kernel) (by decide +kernel)
theorem w_1208 : Cond.code yX12_takesFamily prog_14_method_70_code 1 (Option.some Jvm.ClassFile.FieldType.boolean) ∈ zAll := zti 1208 (by decide +kernel) (by decide +kernel)
theorem w_1209 : Cond.methodLink "EveryPewModel" 273 yX12_takesCold ∈ zAll := zti 1209 (by decide +kernel) (by decide +kernel)
theorem w_1211 : Cond.instanceMethod yX12_takesCold ∈ zAll := zti 1211 (by decide +kernel) (by decide +kernel)
theorem w_1212 : Cond.code yX12_takesCold prog_14_method_71_code 1 (Option.some Jvm.ClassFile.FieldType.boolean) ∈ zAll := zti 1212 (by decide +kernel) (by decide +kernel)
theorem w_1233 : Cond.constantLong "EveryPewModel" 282 6 ∈ zAll := zti 1233 (by decide +kernel) (by decide +kernel)
theorem w_1234 : Cond.methodLink "EveryPewModel" 284 yX12_counted ∈ zAll := zti 1234 (by decide +kernel) (by decide +kernel)
theorem w_1236 : Cond.instanceMethod yX12_counted ∈ zAll := zti 1236 (by decide +kernel) (by decide +kernel)
theorem w_1237 : Cond.code yX12_counted prog_14_method_78_code 2 (Option.some Jvm.ClassFile.FieldType.int) ∈ zAll := zti 1237 (by decide +kernel) (by decide +kernel)
theorem w_1242 : Cond.constantLong "EveryPewModel" 289 1171 ∈ zAll := zti 1242 (by decide +kernel) (by decide +kernel)
theorem w_1243 : Cond.constantLong "EveryPewModel" 287 31 ∈ zAll := zti 1243 (by decide +kernel) (by decide +kernel)
theorem w_1244 : Cond.methodLink "EveryPewModel" 291 yX12_sums ∈ zAll := zti 1244 (by decide +kernel) (by decide +kernel)
theorem w_1246 : Cond.instanceMethod yX12_sums ∈ zAll := zti 1246 (by decide +kernel) (by decide +kernel)
theorem w_1247 : Cond.code yX12_sums prog_14_method_80_code 8 (Option.some Jvm.ClassFile.FieldType.long) ∈ zAll := zti 1247 (by decide +kernel) (by decide +kernel)
theorem w_1253 : Cond.fieldLink "java/lang/String" 9 "java/lang/String" "value" "[B" ∈ zAll := zti 1253 (by decide +kernel) (by decide +kernel)
theorem w_1254 : Cond.fieldLink "java/lang/String" 15 "java/lang/String" "coder" "B" ∈ zAll := zti 1254 (by decide +kernel) (by decide +kernel)
theorem wp_0 : Cond.selects "EveryPew" yX11_refuse yX11_refuse ∈ zAll := zpi 0 (by decide +kernel) (by decide +kernel)
theorem wp_1 : Cond.selects "EveryPew$TextOfChurch" yX9_advance yX9_advance ∈ zAll := zpi 1 (by decide +kernel) (by decide +kernel)
theorem wp_2 : Cond.selects "EveryPew$TextOfChurch" yX9_figures yX9_figures ∈ zAll := zpi 2 (by decide +kernel) (by decide +kernel)
theorem wp_3 : Cond.selects "EveryPew$TextOfChurch" yX9_says yX9_says ∈ zAll := zpi 3 (by decide +kernel) (by decide +kernel)
theorem wp_4 : Cond.selects "EveryPew$TextOfChurch" yX9_takesNumber yX9_takesNumber ∈ zAll := zpi 4 (by decide +kernel) (by decide +kernel)
theorem wp_5 : Cond.selects "EveryPew$TextOfChurch" yX9_isNumber yX9_isNumber ∈ zAll := zpi 5 (by decide +kernel) (by decide +kernel)
theorem wp_6 : Cond.selects "EveryPew$TextOfChurch" yX9_takesStop yX9_takesStop ∈ zAll := zpi 6 (by decide +kernel) (by decide +kernel)
theorem wp_7 : Cond.selects "EveryPew$TextOfChurch" yX9_takesItem yX9_takesItem ∈ zAll := zpi 7 (by decide +kernel) (by decide +kernel)
theorem wp_8 : Cond.selects "EveryPew$TextOfChurch" yX9_takesBook yX9_takesBook ∈ zAll := zpi 8 (by decide +kernel) (by decide +kernel)
theorem wp_9 : Cond.selects "EveryPew$TextOfChurch" yX9_takesFamily yX9_takesFamily ∈ zAll := zpi 9 (by decide +kernel) (by decide +kernel)
theorem wp_10 : Cond.selects "EveryPew$TextOfChurch" yX9_takesCold yX9_takesCold ∈ zAll := zpi 10 (by decide +kernel) (by decide +kernel)
theorem wp_11 : Cond.selects "EveryPew$Service" yX8_isPeacefulInCase yX8_isPeacefulInCase ∈ zAll := zpi 11 (by decide +kernel) (by decide +kernel)
theorem wp_12 : Cond.selects "EveryPew$Seating" yX7_findTallest yX7_findTallest ∈ zAll := zpi 12 (by decide +kernel) (by decide +kernel)
theorem wp_13 : Cond.selects "EveryPew$Seating" yX7_fillPew yX7_fillPew ∈ zAll := zpi 13 (by decide +kernel) (by decide +kernel)
theorem wp_14 : Cond.selects "EveryPew$Seating" yX7_worth yX7_worth ∈ zAll := zpi 14 (by decide +kernel) (by decide +kernel)
theorem wp_15 : Cond.selects "EveryPew$Coughs" yX3_mostAlike yX3_mostAlike ∈ zAll := zpi 15 (by decide +kernel) (by decide +kernel)
theorem wp_16 : Cond.selects "EveryPew" yX11_leadOfBook0 yX11_leadOfBook0 ∈ zAll := zpi 16 (by decide +kernel) (by decide +kernel)
theorem wp_17 : Cond.selects "EveryPew" yX11_chancesOf yX11_chancesOf ∈ zAll := zpi 17 (by decide +kernel) (by decide +kernel)
theorem wp_18 : Cond.selects "EveryPew" yX11_keepFraction yX11_keepFraction ∈ zAll := zpi 18 (by decide +kernel) (by decide +kernel)
theorem wp_19 : Cond.selects "EveryPew" yX11_howMany yX11_howMany ∈ zAll := zpi 19 (by decide +kernel) (by decide +kernel)
theorem wp_20 : Cond.selects "EveryPewModel" yX12_bad yX12_bad ∈ zAll := zpi 20 (by decide +kernel) (by decide +kernel)
theorem wp_21 : Cond.selects "EveryPewModel" yX12_many yX12_many ∈ zAll := zpi 21 (by decide +kernel) (by decide +kernel)
theorem wp_22 : Cond.selects "EveryPewModel" yX12_no yX12_no ∈ zAll := zpi 22 (by decide +kernel) (by decide +kernel)
theorem wp_23 : Cond.selects "EveryPewModel" yX12_full yX12_full ∈ zAll := zpi 23 (by decide +kernel) (by decide +kernel)
theorem wp_24 : Cond.selects "EveryPewModel" yX12_isFamily yX12_isFamily ∈ zAll := zpi 24 (by decide +kernel) (by decide +kernel)
theorem wp_25 : Cond.selects "EveryPewModel" yX12_get yX12_get ∈ zAll := zpi 25 (by decide +kernel) (by decide +kernel)
theorem wp_26 : Cond.selects "EveryPewModel" yX12_keep yX12_keep ∈ zAll := zpi 26 (by decide +kernel) (by decide +kernel)
theorem wp_27 : Cond.selects "EveryPewModel" yX12_manyColds yX12_manyColds ∈ zAll := zpi 27 (by decide +kernel) (by decide +kernel)
theorem wp_28 : Cond.selects "EveryPewModel" yX12_layHand yX12_layHand ∈ zAll := zpi 28 (by decide +kernel) (by decide +kernel)
theorem wp_29 : Cond.selects "EveryPewModel" yX12_kneels yX12_kneels ∈ zAll := zpi 29 (by decide +kernel) (by decide +kernel)
theorem wp_30 : Cond.selects "EveryPewModel" yX12_high yX12_high ∈ zAll := zpi 30 (by decide +kernel) (by decide +kernel)
theorem wp_31 : Cond.selects "EveryPewModel" yX12_voices yX12_voices ∈ zAll := zpi 31 (by decide +kernel) (by decide +kernel)
theorem wp_32 : Cond.selects "EveryPewModel" yX12_sees yX12_sees ∈ zAll := zpi 32 (by decide +kernel) (by decide +kernel)
theorem wp_33 : Cond.selects "EveryPewModel" yX12_loudOf yX12_loudOf ∈ zAll := zpi 33 (by decide +kernel) (by decide +kernel)
theorem wp_34 : Cond.selects "EveryPewModel" yX12_isPeace yX12_isPeace ∈ zAll := zpi 34 (by decide +kernel) (by decide +kernel)
theorem wp_35 : Cond.selects "EveryPewModel" yX12_laySeating yX12_laySeating ∈ zAll := zpi 35 (by decide +kernel) (by decide +kernel)
theorem wp_36 : Cond.selects "EveryPewModel" yX12_laySeats yX12_laySeats ∈ zAll := zpi 36 (by decide +kernel) (by decide +kernel)
theorem wp_37 : Cond.selects "EveryPewModel" yX12_seeing yX12_seeing ∈ zAll := zpi 37 (by decide +kernel) (by decide +kernel)
theorem wp_38 : Cond.selects "EveryPewModel" yX12_peaces yX12_peaces ∈ zAll := zpi 38 (by decide +kernel) (by decide +kernel)
theorem wp_39 : Cond.selects "EveryPewModel" yX12_layMay yX12_layMay ∈ zAll := zpi 39 (by decide +kernel) (by decide +kernel)
theorem wp_40 : Cond.selects "EveryPewModel" yX12_isHeardSo yX12_isHeardSo ∈ zAll := zpi 40 (by decide +kernel) (by decide +kernel)
theorem wp_41 : Cond.selects "EveryPewModel" yX12_deaconOf yX12_deaconOf ∈ zAll := zpi 41 (by decide +kernel) (by decide +kernel)
theorem wp_42 : Cond.selects "EveryPewModel" yX12_fraction yX12_fraction ∈ zAll := zpi 42 (by decide +kernel) (by decide +kernel)
theorem wp_43 : Cond.selects "EveryPewModel" yX12_lookAt yX12_lookAt ∈ zAll := zpi 43 (by decide +kernel) (by decide +kernel)
theorem wp_44 : Cond.selects "EveryPewModel" yX12_takesChurch yX12_takesChurch ∈ zAll := zpi 44 (by decide +kernel) (by decide +kernel)
theorem wp_45 : Cond.selects "EveryPewModel" yX12_spells yX12_spells ∈ zAll := zpi 45 (by decide +kernel) (by decide +kernel)
theorem wp_46 : Cond.selects "EveryPewModel" yX12_goBehind yX12_goBehind ∈ zAll := zpi 46 (by decide +kernel) (by decide +kernel)
theorem wp_47 : Cond.selects "EveryPewModel" yX12_takes yX12_takes ∈ zAll := zpi 47 (by decide +kernel) (by decide +kernel)
theorem wp_48 : Cond.selects "EveryPewModel" yX12_takesItem yX12_takesItem ∈ zAll := zpi 48 (by decide +kernel) (by decide +kernel)
theorem wp_49 : Cond.selects "EveryPewModel" yX12_takesBook yX12_takesBook ∈ zAll := zpi 49 (by decide +kernel) (by decide +kernel)
theorem wp_50 : Cond.selects "EveryPewModel" yX12_takesFamily yX12_takesFamily ∈ zAll := zpi 50 (by decide +kernel) (by decide +kernel)
theorem wp_51 : Cond.selects "EveryPewModel" yX12_takesCold yX12_takesCold ∈ zAll := zpi 51 (by decide +kernel) (by decide +kernel)
theorem wp_52 : Cond.selects "EveryPewModel" yX12_counted yX12_counted ∈ zAll := zpi 52 (by decide +kernel) (by decide +kernel)
theorem wp_53 : Cond.selects "EveryPewModel" yX12_sums yX12_sums ∈ zAll := zpi 53 (by decide +kernel) (by decide +kernel)
theorem fl_11_101 : zFL "EveryPew" 101 9 1 := ⟨RX9, TX9, 6, rfl, by decide, Or.inr ⟨"EveryPew", by decide +kernel⟩⟩
theorem fl_11_118 : zFL "EveryPew" 118 1 4 := ⟨RX1, TX1, 16, rfl, by decide, Or.inr ⟨"EveryPew", by decide +kernel⟩⟩
theorem fl_11_12 : zFL "EveryPew" 12 11 0 := ⟨RX11, TX11, 11, rfl, by decide, Or.inl w_270⟩
theorem fl_11_121 : zFL "EveryPew" 121 1 7 := ⟨RX1, TX1, 16, rfl, by decide, Or.inr ⟨"EveryPew", by decide +kernel⟩⟩
theorem fl_11_127 : zFL "EveryPew" 127 1 8 := ⟨RX1, TX1, 16, rfl, by decide, Or.inr ⟨"EveryPew", by decide +kernel⟩⟩
theorem fl_11_134 : zFL "EveryPew" 134 1 13 := ⟨RX1, TX1, 16, rfl, by decide, Or.inr ⟨"EveryPew", by decide +kernel⟩⟩
theorem fl_11_16 : zFL "EveryPew" 16 11 1 := ⟨RX11, TX11, 11, rfl, by decide, Or.inl w_271⟩
theorem fl_11_187 : zFL "EveryPew" 187 1 3 := ⟨RX1, TX1, 16, rfl, by decide, Or.inr ⟨"EveryPew", by decide +kernel⟩⟩
theorem fl_11_19 : zFL "EveryPew" 19 11 2 := ⟨RX11, TX11, 11, rfl, by decide, Or.inl w_272⟩
theorem fl_11_200 : zFL "EveryPew" 200 1 9 := ⟨RX1, TX1, 16, rfl, by decide, Or.inr ⟨"EveryPew", by decide +kernel⟩⟩
theorem fl_11_209 : zFL "EveryPew" 209 3 3 := ⟨RX3, TX3, 6, rfl, by decide, Or.inr ⟨"EveryPew", by decide +kernel⟩⟩
theorem fl_11_212 : zFL "EveryPew" 212 3 4 := ⟨RX3, TX3, 6, rfl, by decide, Or.inr ⟨"EveryPew", by decide +kernel⟩⟩
theorem fl_11_215 : zFL "EveryPew" 215 3 5 := ⟨RX3, TX3, 6, rfl, by decide, Or.inr ⟨"EveryPew", by decide +kernel⟩⟩
theorem fl_11_23 : zFL "EveryPew" 23 11 3 := ⟨RX11, TX11, 11, rfl, by decide, Or.inl w_273⟩
theorem fl_11_263 : zFL "EveryPew" 263 1 10 := ⟨RX1, TX1, 16, rfl, by decide, Or.inr ⟨"EveryPew", by decide +kernel⟩⟩
theorem fl_11_266 : zFL "EveryPew" 266 1 11 := ⟨RX1, TX1, 16, rfl, by decide, Or.inr ⟨"EveryPew", by decide +kernel⟩⟩
theorem fl_11_269 : zFL "EveryPew" 269 1 12 := ⟨RX1, TX1, 16, rfl, by decide, Or.inr ⟨"EveryPew", by decide +kernel⟩⟩
theorem fl_11_272 : zFL "EveryPew" 272 1 0 := ⟨RX1, TX1, 16, rfl, by decide, Or.inr ⟨"EveryPew", by decide +kernel⟩⟩
theorem fl_11_30 : zFL "EveryPew" 30 11 4 := ⟨RX11, TX11, 11, rfl, by decide, Or.inl w_274⟩
theorem fl_11_37 : zFL "EveryPew" 37 11 5 := ⟨RX11, TX11, 11, rfl, by decide, Or.inl w_275⟩
theorem fl_11_44 : zFL "EveryPew" 44 11 6 := ⟨RX11, TX11, 11, rfl, by decide, Or.inl w_276⟩
theorem fl_11_51 : zFL "EveryPew" 51 11 7 := ⟨RX11, TX11, 11, rfl, by decide, Or.inl w_277⟩
theorem fl_11_55 : zFL "EveryPew" 55 11 8 := ⟨RX11, TX11, 11, rfl, by decide, Or.inl w_278⟩
theorem fl_11_59 : zFL "EveryPew" 59 11 9 := ⟨RX11, TX11, 11, rfl, by decide, Or.inl w_279⟩
theorem fl_11_63 : zFL "EveryPew" 63 11 10 := ⟨RX11, TX11, 11, rfl, by decide, Or.inl w_280⟩
theorem fl_11_74 : zFL "EveryPew" 74 1 2 := ⟨RX1, TX1, 16, rfl, by decide, Or.inr ⟨"EveryPew", by decide +kernel⟩⟩
theorem fl_11_87 : zFL "EveryPew" 87 1 1 := ⟨RX1, TX1, 16, rfl, by decide, Or.inr ⟨"EveryPew", by decide +kernel⟩⟩
theorem fl_12_110 : zFL "EveryPewModel" 110 12 9 := ⟨RX12, TX12, 25, rfl, by decide, Or.inl w_850⟩
theorem fl_12_13 : zFL "EveryPewModel" 13 12 1 := ⟨RX12, TX12, 25, rfl, by decide, Or.inl w_842⟩
theorem fl_12_156 : zFL "EveryPewModel" 156 12 12 := ⟨RX12, TX12, 25, rfl, by decide, Or.inl w_853⟩
theorem fl_12_16 : zFL "EveryPewModel" 16 12 2 := ⟨RX12, TX12, 25, rfl, by decide, Or.inl w_843⟩
theorem fl_12_178 : zFL "EveryPewModel" 178 12 14 := ⟨RX12, TX12, 25, rfl, by decide, Or.inl w_855⟩
theorem fl_12_198 : zFL "EveryPewModel" 198 12 4 := ⟨RX12, TX12, 25, rfl, by decide, Or.inl w_845⟩
theorem fl_12_20 : zFL "EveryPewModel" 20 12 3 := ⟨RX12, TX12, 25, rfl, by decide, Or.inl w_844⟩
theorem fl_12_223 : zFL "EveryPewModel" 223 12 18 := ⟨RX12, TX12, 25, rfl, by decide, Or.inl w_859⟩
theorem fl_12_23 : zFL "EveryPewModel" 23 12 5 := ⟨RX12, TX12, 25, rfl, by decide, Or.inl w_846⟩
theorem fl_12_234 : zFL "EveryPewModel" 234 12 19 := ⟨RX12, TX12, 25, rfl, by decide, Or.inl w_860⟩
theorem fl_12_237 : zFL "EveryPewModel" 237 12 20 := ⟨RX12, TX12, 25, rfl, by decide, Or.inl w_861⟩
theorem fl_12_240 : zFL "EveryPewModel" 240 12 21 := ⟨RX12, TX12, 25, rfl, by decide, Or.inl w_862⟩
theorem fl_12_243 : zFL "EveryPewModel" 243 12 22 := ⟨RX12, TX12, 25, rfl, by decide, Or.inl w_863⟩
theorem fl_12_27 : zFL "EveryPewModel" 27 12 6 := ⟨RX12, TX12, 25, rfl, by decide, Or.inl w_847⟩
theorem fl_12_30 : zFL "EveryPewModel" 30 12 7 := ⟨RX12, TX12, 25, rfl, by decide, Or.inl w_848⟩
theorem fl_12_33 : zFL "EveryPewModel" 33 12 8 := ⟨RX12, TX12, 25, rfl, by decide, Or.inl w_849⟩
theorem fl_12_36 : zFL "EveryPewModel" 36 12 10 := ⟨RX12, TX12, 25, rfl, by decide, Or.inl w_851⟩
theorem fl_12_39 : zFL "EveryPewModel" 39 12 11 := ⟨RX12, TX12, 25, rfl, by decide, Or.inl w_852⟩
theorem fl_12_42 : zFL "EveryPewModel" 42 12 13 := ⟨RX12, TX12, 25, rfl, by decide, Or.inl w_854⟩
theorem fl_12_45 : zFL "EveryPewModel" 45 12 15 := ⟨RX12, TX12, 25, rfl, by decide, Or.inl w_856⟩
theorem fl_12_48 : zFL "EveryPewModel" 48 12 16 := ⟨RX12, TX12, 25, rfl, by decide, Or.inl w_857⟩
theorem fl_12_51 : zFL "EveryPewModel" 51 12 17 := ⟨RX12, TX12, 25, rfl, by decide, Or.inl w_858⟩
theorem fl_12_54 : zFL "EveryPewModel" 54 12 23 := ⟨RX12, TX12, 25, rfl, by decide, Or.inl w_864⟩
theorem fl_12_57 : zFL "EveryPewModel" 57 12 24 := ⟨RX12, TX12, 25, rfl, by decide, Or.inl w_865⟩
theorem fl_12_7 : zFL "EveryPewModel" 7 12 0 := ⟨RX12, TX12, 25, rfl, by decide, Or.inl w_841⟩
theorem fl_1_15 : zFL "EveryPew$Church" 15 1 1 := ⟨RX1, TX1, 16, rfl, by decide, Or.inl w_39⟩
theorem fl_1_19 : zFL "EveryPew$Church" 19 1 3 := ⟨RX1, TX1, 16, rfl, by decide, Or.inl w_47⟩
theorem fl_1_22 : zFL "EveryPew$Church" 22 1 4 := ⟨RX1, TX1, 16, rfl, by decide, Or.inl w_50⟩
theorem fl_1_25 : zFL "EveryPew$Church" 25 1 5 := ⟨RX1, TX1, 16, rfl, by decide, Or.inl w_53⟩
theorem fl_1_28 : zFL "EveryPew$Church" 28 1 6 := ⟨RX1, TX1, 16, rfl, by decide, Or.inl w_55⟩
theorem fl_1_31 : zFL "EveryPew$Church" 31 1 7 := ⟨RX1, TX1, 16, rfl, by decide, Or.inl w_57⟩
theorem fl_1_34 : zFL "EveryPew$Church" 34 1 10 := ⟨RX1, TX1, 16, rfl, by decide, Or.inl w_66⟩
theorem fl_1_37 : zFL "EveryPew$Church" 37 1 11 := ⟨RX1, TX1, 16, rfl, by decide, Or.inl w_69⟩
theorem fl_1_40 : zFL "EveryPew$Church" 40 1 12 := ⟨RX1, TX1, 16, rfl, by decide, Or.inl w_72⟩
theorem fl_1_43 : zFL "EveryPew$Church" 43 1 14 := ⟨RX1, TX1, 16, rfl, by decide, Or.inl w_77⟩
theorem fl_1_46 : zFL "EveryPew$Church" 46 1 15 := ⟨RX1, TX1, 16, rfl, by decide, Or.inl w_78⟩
theorem fl_1_55 : zFL "EveryPew$Church" 55 1 2 := ⟨RX1, TX1, 16, rfl, by decide, Or.inl w_44⟩
theorem fl_1_58 : zFL "EveryPew$Church" 58 1 8 := ⟨RX1, TX1, 16, rfl, by decide, Or.inl w_60⟩
theorem fl_1_61 : zFL "EveryPew$Church" 61 1 9 := ⟨RX1, TX1, 16, rfl, by decide, Or.inl w_63⟩
theorem fl_1_64 : zFL "EveryPew$Church" 64 1 13 := ⟨RX1, TX1, 16, rfl, by decide, Or.inl w_75⟩
theorem fl_1_9 : zFL "EveryPew$Church" 9 1 0 := ⟨RX1, TX1, 16, rfl, by decide, Or.inl w_36⟩
theorem fl_3_15 : zFL "EveryPew$Coughs" 15 3 1 := ⟨RX3, TX3, 6, rfl, by decide, Or.inl w_249⟩
theorem fl_3_25 : zFL "EveryPew$Coughs" 25 3 2 := ⟨RX3, TX3, 6, rfl, by decide, Or.inl w_250⟩
theorem fl_3_28 : zFL "EveryPew$Coughs" 28 3 3 := ⟨RX3, TX3, 6, rfl, by decide, Or.inl w_251⟩
theorem fl_3_31 : zFL "EveryPew$Coughs" 31 3 4 := ⟨RX3, TX3, 6, rfl, by decide, Or.inl w_253⟩
theorem fl_3_34 : zFL "EveryPew$Coughs" 34 3 5 := ⟨RX3, TX3, 6, rfl, by decide, Or.inl w_255⟩
theorem fl_3_50 : zFL "EveryPew$Coughs" 50 8 8 := ⟨RX8, TX8, 10, rfl, by decide, Or.inr ⟨"EveryPew", by decide +kernel⟩⟩
theorem fl_3_9 : zFL "EveryPew$Coughs" 9 3 0 := ⟨RX3, TX3, 6, rfl, by decide, Or.inl w_248⟩
theorem fl_7_15 : zFL "EveryPew$Seating" 15 7 1 := ⟨RX7, TX7, 3, rfl, by decide, Or.inl w_233⟩
theorem fl_7_18 : zFL "EveryPew$Seating" 18 8 1 := ⟨RX8, TX8, 10, rfl, by decide, Or.inr ⟨"EveryPew", by decide +kernel⟩⟩
theorem fl_7_38 : zFL "EveryPew$Seating" 38 7 2 := ⟨RX7, TX7, 3, rfl, by decide, Or.inl w_234⟩
theorem fl_7_49 : zFL "EveryPew$Seating" 49 8 6 := ⟨RX8, TX8, 10, rfl, by decide, Or.inr ⟨"EveryPew", by decide +kernel⟩⟩
theorem fl_7_61 : zFL "EveryPew$Seating" 61 8 3 := ⟨RX8, TX8, 10, rfl, by decide, Or.inr ⟨"EveryPew", by decide +kernel⟩⟩
theorem fl_7_68 : zFL "EveryPew$Seating" 68 8 9 := ⟨RX8, TX8, 10, rfl, by decide, Or.inr ⟨"EveryPew", by decide +kernel⟩⟩
theorem fl_7_9 : zFL "EveryPew$Seating" 9 7 0 := ⟨RX7, TX7, 3, rfl, by decide, Or.inl w_232⟩
theorem fl_8_121 : zFL "EveryPew$Service" 121 1 9 := ⟨RX1, TX1, 16, rfl, by decide, Or.inr ⟨"EveryPew", by decide +kernel⟩⟩
theorem fl_8_124 : zFL "EveryPew$Service" 124 1 10 := ⟨RX1, TX1, 16, rfl, by decide, Or.inr ⟨"EveryPew", by decide +kernel⟩⟩
theorem fl_8_127 : zFL "EveryPew$Service" 127 1 11 := ⟨RX1, TX1, 16, rfl, by decide, Or.inr ⟨"EveryPew", by decide +kernel⟩⟩
theorem fl_8_133 : zFL "EveryPew$Service" 133 1 12 := ⟨RX1, TX1, 16, rfl, by decide, Or.inr ⟨"EveryPew", by decide +kernel⟩⟩
theorem fl_8_27 : zFL "EveryPew$Service" 27 8 0 := ⟨RX8, TX8, 10, rfl, by decide, Or.inl w_190⟩
theorem fl_8_33 : zFL "EveryPew$Service" 33 8 3 := ⟨RX8, TX8, 10, rfl, by decide, Or.inl w_194⟩
theorem fl_8_37 : zFL "EveryPew$Service" 37 8 4 := ⟨RX8, TX8, 10, rfl, by decide, Or.inl w_196⟩
theorem fl_8_40 : zFL "EveryPew$Service" 40 8 5 := ⟨RX8, TX8, 10, rfl, by decide, Or.inl w_197⟩
theorem fl_8_44 : zFL "EveryPew$Service" 44 8 6 := ⟨RX8, TX8, 10, rfl, by decide, Or.inl w_198⟩
theorem fl_8_47 : zFL "EveryPew$Service" 47 8 7 := ⟨RX8, TX8, 10, rfl, by decide, Or.inl w_200⟩
theorem fl_8_50 : zFL "EveryPew$Service" 50 8 8 := ⟨RX8, TX8, 10, rfl, by decide, Or.inl w_201⟩
theorem fl_8_53 : zFL "EveryPew$Service" 53 8 9 := ⟨RX8, TX8, 10, rfl, by decide, Or.inl w_203⟩
theorem fl_8_56 : zFL "EveryPew$Service" 56 1 2 := ⟨RX1, TX1, 16, rfl, by decide, Or.inr ⟨"EveryPew", by decide +kernel⟩⟩
theorem fl_8_62 : zFL "EveryPew$Service" 62 8 1 := ⟨RX8, TX8, 10, rfl, by decide, Or.inl w_192⟩
theorem fl_8_63 : zFL "EveryPew$Service" 63 1 0 := ⟨RX1, TX1, 16, rfl, by decide, Or.inr ⟨"EveryPew", by decide +kernel⟩⟩
theorem fl_8_66 : zFL "EveryPew$Service" 66 8 2 := ⟨RX8, TX8, 10, rfl, by decide, Or.inl w_193⟩
theorem fl_8_73 : zFL "EveryPew$Service" 73 1 1 := ⟨RX1, TX1, 16, rfl, by decide, Or.inr ⟨"EveryPew", by decide +kernel⟩⟩
theorem fl_8_80 : zFL "EveryPew$Service" 80 1 7 := ⟨RX1, TX1, 16, rfl, by decide, Or.inr ⟨"EveryPew", by decide +kernel⟩⟩
theorem fl_8_81 : zFL "EveryPew$Service" 81 1 3 := ⟨RX1, TX1, 16, rfl, by decide, Or.inr ⟨"EveryPew", by decide +kernel⟩⟩
theorem fl_8_84 : zFL "EveryPew$Service" 84 1 4 := ⟨RX1, TX1, 16, rfl, by decide, Or.inr ⟨"EveryPew", by decide +kernel⟩⟩
theorem fl_8_93 : zFL "EveryPew$Service" 93 1 5 := ⟨RX1, TX1, 16, rfl, by decide, Or.inr ⟨"EveryPew", by decide +kernel⟩⟩
theorem fl_8_99 : zFL "EveryPew$Service" 99 1 6 := ⟨RX1, TX1, 16, rfl, by decide, Or.inr ⟨"EveryPew", by decide +kernel⟩⟩
theorem fl_9_15 : zFL "EveryPew$TextOfChurch" 15 9 1 := ⟨RX9, TX9, 6, rfl, by decide, Or.inl w_121⟩
theorem fl_9_19 : zFL "EveryPew$TextOfChurch" 19 9 4 := ⟨RX9, TX9, 6, rfl, by decide, Or.inl w_125⟩
theorem fl_9_35 : zFL "EveryPew$TextOfChurch" 35 9 3 := ⟨RX9, TX9, 6, rfl, by decide, Or.inl w_124⟩
theorem fl_9_38 : zFL "EveryPew$TextOfChurch" 38 9 5 := ⟨RX9, TX9, 6, rfl, by decide, Or.inl w_126⟩
theorem fl_9_51 : zFL "EveryPew$TextOfChurch" 51 9 2 := ⟨RX9, TX9, 6, rfl, by decide, Or.inl w_123⟩
theorem fl_9_76 : zFL "EveryPew$TextOfChurch" 76 1 1 := ⟨RX1, TX1, 16, rfl, by decide, Or.inr ⟨"EveryPew", by decide +kernel⟩⟩
theorem fl_9_79 : zFL "EveryPew$TextOfChurch" 79 1 2 := ⟨RX1, TX1, 16, rfl, by decide, Or.inr ⟨"EveryPew", by decide +kernel⟩⟩
theorem fl_9_9 : zFL "EveryPew$TextOfChurch" 9 9 0 := ⟨RX9, TX9, 6, rfl, by decide, Or.inl w_120⟩
theorem fl_9_93 : zFL "EveryPew$TextOfChurch" 93 1 8 := ⟨RX1, TX1, 16, rfl, by decide, Or.inr ⟨"EveryPew", by decide +kernel⟩⟩
theorem fp_11_101 : zFP "EveryPew" 101 9 1 .int := ⟨RX9, TX9, 6, tyX9, rfl, by decide, tyX9_ok, nmX9, rfl, by decide +kernel, Or.inr ⟨"EveryPew", by decide +kernel⟩⟩
theorem fp_11_127 : zFP "EveryPew" 127 1 8 .int := ⟨RX1, TX1, 16, tyX1, rfl, by decide, tyX1_ok, nmX1, rfl, by decide +kernel, Or.inr ⟨"EveryPew", by decide +kernel⟩⟩
theorem fp_11_200 : zFP "EveryPew" 200 1 9 .int := ⟨RX1, TX1, 16, tyX1, rfl, by decide, tyX1_ok, nmX1, rfl, by decide +kernel, Or.inr ⟨"EveryPew", by decide +kernel⟩⟩
theorem fp_11_59 : zFP "EveryPew" 59 11 9 .long := ⟨RX11, TX11, 11, tyX11, rfl, by decide, tyX11_ok, nmX11, rfl, by decide +kernel, Or.inl w_279⟩
theorem fp_11_63 : zFP "EveryPew" 63 11 10 .long := ⟨RX11, TX11, 11, tyX11, rfl, by decide, tyX11_ok, nmX11, rfl, by decide +kernel, Or.inl w_280⟩
theorem fp_12_110 : zFP "EveryPewModel" 110 12 9 .int := ⟨RX12, TX12, 25, tyX12, rfl, by decide, tyX12_ok, nmX12, rfl, by decide +kernel, Or.inl w_850⟩
theorem fp_12_156 : zFP "EveryPewModel" 156 12 12 .int := ⟨RX12, TX12, 25, tyX12, rfl, by decide, tyX12_ok, nmX12, rfl, by decide +kernel, Or.inl w_853⟩
theorem fp_12_178 : zFP "EveryPewModel" 178 12 14 .int := ⟨RX12, TX12, 25, tyX12, rfl, by decide, tyX12_ok, nmX12, rfl, by decide +kernel, Or.inl w_855⟩
theorem fp_12_198 : zFP "EveryPewModel" 198 12 4 .long := ⟨RX12, TX12, 25, tyX12, rfl, by decide, tyX12_ok, nmX12, rfl, by decide +kernel, Or.inl w_845⟩
theorem fp_12_223 : zFP "EveryPewModel" 223 12 18 .int := ⟨RX12, TX12, 25, tyX12, rfl, by decide, tyX12_ok, nmX12, rfl, by decide +kernel, Or.inl w_859⟩
theorem fp_12_23 : zFP "EveryPewModel" 23 12 5 .long := ⟨RX12, TX12, 25, tyX12, rfl, by decide, tyX12_ok, nmX12, rfl, by decide +kernel, Or.inl w_846⟩
theorem fp_12_234 : zFP "EveryPewModel" 234 12 19 .int := ⟨RX12, TX12, 25, tyX12, rfl, by decide, tyX12_ok, nmX12, rfl, by decide +kernel, Or.inl w_860⟩
theorem fp_12_237 : zFP "EveryPewModel" 237 12 20 .int := ⟨RX12, TX12, 25, tyX12, rfl, by decide, tyX12_ok, nmX12, rfl, by decide +kernel, Or.inl w_861⟩
theorem fp_12_240 : zFP "EveryPewModel" 240 12 21 .int := ⟨RX12, TX12, 25, tyX12, rfl, by decide, tyX12_ok, nmX12, rfl, by decide +kernel, Or.inl w_862⟩
theorem fp_12_243 : zFP "EveryPewModel" 243 12 22 .int := ⟨RX12, TX12, 25, tyX12, rfl, by decide, tyX12_ok, nmX12, rfl, by decide +kernel, Or.inl w_863⟩
theorem fp_1_55 : zFP "EveryPew$Church" 55 1 2 .int := ⟨RX1, TX1, 16, tyX1, rfl, by decide, tyX1_ok, nmX1, rfl, by decide +kernel, Or.inl w_44⟩
theorem fp_1_58 : zFP "EveryPew$Church" 58 1 8 .int := ⟨RX1, TX1, 16, tyX1, rfl, by decide, tyX1_ok, nmX1, rfl, by decide +kernel, Or.inl w_60⟩
theorem fp_1_61 : zFP "EveryPew$Church" 61 1 9 .int := ⟨RX1, TX1, 16, tyX1, rfl, by decide, tyX1_ok, nmX1, rfl, by decide +kernel, Or.inl w_63⟩
theorem fp_1_64 : zFP "EveryPew$Church" 64 1 13 .int := ⟨RX1, TX1, 16, tyX1, rfl, by decide, tyX1_ok, nmX1, rfl, by decide +kernel, Or.inl w_75⟩
theorem fp_1_9 : zFP "EveryPew$Church" 9 1 0 .int := ⟨RX1, TX1, 16, tyX1, rfl, by decide, tyX1_ok, nmX1, rfl, by decide +kernel, Or.inl w_36⟩
theorem fp_3_25 : zFP "EveryPew$Coughs" 25 3 2 .int := ⟨RX3, TX3, 6, tyX3, rfl, by decide, tyX3_ok, nmX3, rfl, by decide +kernel, Or.inl w_250⟩
theorem fp_3_28 : zFP "EveryPew$Coughs" 28 3 3 .int := ⟨RX3, TX3, 6, tyX3, rfl, by decide, tyX3_ok, nmX3, rfl, by decide +kernel, Or.inl w_251⟩
theorem fp_3_31 : zFP "EveryPew$Coughs" 31 3 4 .int := ⟨RX3, TX3, 6, tyX3, rfl, by decide, tyX3_ok, nmX3, rfl, by decide +kernel, Or.inl w_253⟩
theorem fp_3_34 : zFP "EveryPew$Coughs" 34 3 5 .int := ⟨RX3, TX3, 6, tyX3, rfl, by decide, tyX3_ok, nmX3, rfl, by decide +kernel, Or.inl w_255⟩
theorem fp_7_38 : zFP "EveryPew$Seating" 38 7 2 .int := ⟨RX7, TX7, 3, tyX7, rfl, by decide, tyX7_ok, nmX7, rfl, by decide +kernel, Or.inl w_234⟩
theorem fp_8_62 : zFP "EveryPew$Service" 62 8 1 .int := ⟨RX8, TX8, 10, tyX8, rfl, by decide, tyX8_ok, nmX8, rfl, by decide +kernel, Or.inl w_192⟩
theorem fp_8_66 : zFP "EveryPew$Service" 66 8 2 .int := ⟨RX8, TX8, 10, tyX8, rfl, by decide, tyX8_ok, nmX8, rfl, by decide +kernel, Or.inl w_193⟩
theorem fp_9_15 : zFP "EveryPew$TextOfChurch" 15 9 1 .int := ⟨RX9, TX9, 6, tyX9, rfl, by decide, tyX9_ok, nmX9, rfl, by decide +kernel, Or.inl w_121⟩
theorem fp_9_19 : zFP "EveryPew$TextOfChurch" 19 9 4 .int := ⟨RX9, TX9, 6, tyX9, rfl, by decide, tyX9_ok, nmX9, rfl, by decide +kernel, Or.inl w_125⟩
theorem fp_9_35 : zFP "EveryPew$TextOfChurch" 35 9 3 .int := ⟨RX9, TX9, 6, tyX9, rfl, by decide, tyX9_ok, nmX9, rfl, by decide +kernel, Or.inl w_124⟩
theorem fp_9_38 : zFP "EveryPew$TextOfChurch" 38 9 5 .int := ⟨RX9, TX9, 6, tyX9, rfl, by decide, tyX9_ok, nmX9, rfl, by decide +kernel, Or.inl w_126⟩
theorem fp_9_51 : zFP "EveryPew$TextOfChurch" 51 9 2 .int := ⟨RX9, TX9, 6, tyX9, rfl, by decide, tyX9_ok, nmX9, rfl, by decide +kernel, Or.inl w_123⟩
theorem fp_9_93 : zFP "EveryPew$TextOfChurch" 93 1 8 .int := ⟨RX1, TX1, 16, tyX1, rfl, by decide, tyX1_ok, nmX1, rfl, by decide +kernel, Or.inr ⟨"EveryPew", by decide +kernel⟩⟩
theorem ds_X6_height : zDs yX6_height 2 := ⟨by decide, by decide, by decide +kernel⟩
theorem ds_X0_height : zDs yX0_height 2 := ⟨by decide, by decide, by decide +kernel⟩
theorem ds_J7_fill_53178 : zDs yJ7_fill_53178 2 := ⟨by decide, by decide, by decide +kernel⟩
theorem ds_X1_begin : zDs yX1_begin 1 := ⟨by decide, by decide, by decide +kernel⟩
theorem ds_X1_copy : zDs yX1_copy 2 := ⟨by decide, by decide, by decide +kernel⟩
theorem ds_X1_becomeLike : zDs yX1_becomeLike 1 := ⟨by decide, by decide, by decide +kernel⟩
theorem ds_X1_hasFamily : zDs yX1_hasFamily 1 := ⟨by decide, by decide, by decide +kernel⟩
theorem ds_X1_sets : zDs yX1_sets 0 := ⟨by decide, by decide, by decide +kernel⟩
theorem ds_X1_isTaken : zDs yX1_isTaken 1 := ⟨by decide, by decide, by decide +kernel⟩
theorem ds_X1_admit : zDs yX1_admit 5 := ⟨by decide, by decide, by decide +kernel⟩
theorem ds_X11_bit : zDs yX11_bit 2 := ⟨by decide, by decide, by decide +kernel⟩
theorem ds_X1_trait : zDs yX1_trait 2 := ⟨by decide, by decide, by decide +kernel⟩
theorem ds_X1_hear : zDs yX1_hear 3 := ⟨by decide, by decide, by decide +kernel⟩
theorem ds_X1_remember : zDs yX1_remember 0 := ⟨by decide, by decide, by decide +kernel⟩
theorem ds_X1_goBack : zDs yX1_goBack 0 := ⟨by decide, by decide, by decide +kernel⟩
theorem ds_X1_mostVoiced : zDs yX1_mostVoiced 1 := ⟨by decide, by decide, by decide +kernel⟩
theorem ds_X2_kneelsAt : zDs yX2_kneelsAt 2 := ⟨by decide, by decide, by decide +kernel⟩
theorem ds_X8_loudnessInCase : zDs yX8_loudnessInCase 3 := ⟨by decide, by decide, by decide +kernel⟩
theorem ds_X8_loudness : zDs yX8_loudness 3 := ⟨by decide, by decide, by decide +kernel⟩
theorem ds_X8_agreesWith : zDs yX8_agreesWith 2 := ⟨by decide, by decide, by decide +kernel⟩
theorem ds_X3_find : zDs yX3_find 2 := ⟨by decide, by decide, by decide +kernel⟩
theorem ds_X3_firstWordOf : zDs yX3_firstWordOf 2 := ⟨by decide, by decide, by decide +kernel⟩
theorem ds_X3_mostAlike : zDs yX3_mostAlike 2 := ⟨by decide, by decide, by decide +kernel⟩
theorem ds_X3_bestWord : zDs yX3_bestWord 1 := ⟨by decide, by decide, by decide +kernel⟩
theorem ds_X4_kneelsAt : zDs yX4_kneelsAt 2 := ⟨by decide, by decide, by decide +kernel⟩
theorem ds_X4_height : zDs yX4_height 2 := ⟨by decide, by decide, by decide +kernel⟩
theorem ds_X6_sound : zDs yX6_sound 2 := ⟨by decide, by decide, by decide +kernel⟩
theorem ds_X5_sound : zDs yX5_sound 2 := ⟨by decide, by decide, by decide +kernel⟩
theorem ds_X6_kneelsAt : zDs yX6_kneelsAt 2 := ⟨by decide, by decide, by decide +kernel⟩
theorem ds_X7_worth : zDs yX7_worth 4 := ⟨by decide, by decide, by decide +kernel⟩
theorem ds_X7_fillPew : zDs yX7_fillPew 3 := ⟨by decide, by decide, by decide +kernel⟩
theorem ds_X7_firstOf : zDs yX7_firstOf 1 := ⟨by decide, by decide, by decide +kernel⟩
theorem ds_X7_findTallest : zDs yX7_findTallest 2 := ⟨by decide, by decide, by decide +kernel⟩
theorem ds_X7_find : zDs yX7_find 1 := ⟨by decide, by decide, by decide +kernel⟩
theorem ds_X7_seen : zDs yX7_seen 0 := ⟨by decide, by decide, by decide +kernel⟩
theorem ds_X7_pewOf : zDs yX7_pewOf 1 := ⟨by decide, by decide, by decide +kernel⟩
theorem ds_X10_kneelsAt : zDs yX10_kneelsAt 2 := ⟨by decide, by decide, by decide +kernel⟩
theorem ds_X10_sound : zDs yX10_sound 2 := ⟨by decide, by decide, by decide +kernel⟩
theorem ds_X8_suppose : zDs yX8_suppose 4 := ⟨by decide, by decide, by decide +kernel⟩
theorem ds_X8_hold : zDs yX8_hold 1 := ⟨by decide, by decide, by decide +kernel⟩
theorem ds_X8_kneels : zDs yX8_kneels 2 := ⟨by decide, by decide, by decide +kernel⟩
theorem ds_X8_high : zDs yX8_high 2 := ⟨by decide, by decide, by decide +kernel⟩
theorem ds_X8_voices : zDs yX8_voices 3 := ⟨by decide, by decide, by decide +kernel⟩
theorem ds_X8_sees : zDs yX8_sees 2 := ⟨by decide, by decide, by decide +kernel⟩
theorem ds_X8_isPeacefulInCase : zDs yX8_isPeacefulInCase 2 := ⟨by decide, by decide, by decide +kernel⟩
theorem ds_X8_isPeaceful : zDs yX8_isPeaceful 2 := ⟨by decide, by decide, by decide +kernel⟩
theorem ds_X8_peacefulWords : zDs yX8_peacefulWords 1 := ⟨by decide, by decide, by decide +kernel⟩
theorem ds_X8_isPeacefulThroughout : zDs yX8_isPeacefulThroughout 1 := ⟨by decide, by decide, by decide +kernel⟩
theorem ds_X9_append : zDs yX9_append 1 := ⟨by decide, by decide, by decide +kernel⟩
theorem ds_X9_figures : zDs yX9_figures 0 := ⟨by decide, by decide, by decide +kernel⟩
theorem ds_X9_sortOf : zDs yX9_sortOf 1 := ⟨by decide, by decide, by decide +kernel⟩
theorem ds_X9_advance : zDs yX9_advance 0 := ⟨by decide, by decide, by decide +kernel⟩
theorem ds_J0_isLatin1_aae02 : zDs yJ0_isLatin1_aae02 0 := ⟨by decide, by decide, by decide +kernel⟩
theorem ds_J1_charAt_3b067 : zDs yJ1_charAt_3b067 2 := ⟨by decide, by decide, by decide +kernel⟩
theorem ds_J0_charAt_5068e : zDs yJ0_charAt_5068e 1 := ⟨by decide, by decide, by decide +kernel⟩
theorem ds_J0_coder_7d493 : zDs yJ0_coder_7d493 0 := ⟨by decide, by decide, by decide +kernel⟩
theorem ds_J0_length_8abf5 : zDs yJ0_length_8abf5 0 := ⟨by decide, by decide, by decide +kernel⟩
theorem ds_X9_says : zDs yX9_says 1 := ⟨by decide, by decide, by decide +kernel⟩
theorem ds_X11_within : zDs yX11_within 3 := ⟨by decide, by decide, by decide +kernel⟩
theorem ds_X9_isNumber : zDs yX9_isNumber 2 := ⟨by decide, by decide, by decide +kernel⟩
theorem ds_X9_takesNumber : zDs yX9_takesNumber 2 := ⟨by decide, by decide, by decide +kernel⟩
theorem ds_X9_takesBook : zDs yX9_takesBook 1 := ⟨by decide, by decide, by decide +kernel⟩
theorem ds_X9_takesStop : zDs yX9_takesStop 0 := ⟨by decide, by decide, by decide +kernel⟩
theorem ds_X9_takesCold : zDs yX9_takesCold 1 := ⟨by decide, by decide, by decide +kernel⟩
theorem ds_X11_isPewOf : zDs yX11_isPewOf 2 := ⟨by decide, by decide, by decide +kernel⟩
theorem ds_X9_takesFamily : zDs yX9_takesFamily 1 := ⟨by decide, by decide, by decide +kernel⟩
theorem ds_X9_takesItem : zDs yX9_takesItem 1 := ⟨by decide, by decide, by decide +kernel⟩
theorem ds_X9_tell : zDs yX9_tell 1 := ⟨by decide, by decide, by decide +kernel⟩
theorem ds_X11_refuse : zDs yX11_refuse 1 := ⟨by decide, by decide, by decide +kernel⟩
theorem ds_X11_church : zDs yX11_church 1 := ⟨by decide, by decide, by decide +kernel⟩
theorem ds_X11_isBook : zDs yX11_isBook 1 := ⟨by decide, by decide, by decide +kernel⟩
theorem ds_X11_book : zDs yX11_book 2 := ⟨by decide, by decide, by decide +kernel⟩
theorem ds_X11_family : zDs yX11_family 5 := ⟨by decide, by decide, by decide +kernel⟩
theorem ds_X11_type : zDs yX11_type 1 := ⟨by decide, by decide, by decide +kernel⟩
theorem ds_X11_clear : zDs yX11_clear 0 := ⟨by decide, by decide, by decide +kernel⟩
theorem ds_X11_read : zDs yX11_read 0 := ⟨by decide, by decide, by decide +kernel⟩
theorem ds_X11_move : zDs yX11_move 2 := ⟨by decide, by decide, by decide +kernel⟩
theorem ds_X11_cold : zDs yX11_cold 2 := ⟨by decide, by decide, by decide +kernel⟩
theorem ds_J6_bitCount_0f7a4 : zDs yJ6_bitCount_0f7a4 1 := ⟨by decide, by decide, by decide +kernel⟩
theorem ds_X11_undo : zDs yX11_undo 0 := ⟨by decide, by decide, by decide +kernel⟩
theorem ds_X11_of : zDs yX11_of 2 := ⟨by decide, by decide, by decide +kernel⟩
theorem ds_X11_isWord : zDs yX11_isWord 1 := ⟨by decide, by decide, by decide +kernel⟩
theorem ds_X11_at : zDs yX11_at 3 := ⟨by decide, by decide, by decide +kernel⟩
theorem ds_X11_up : zDs yX11_up 1 := ⟨by decide, by decide, by decide +kernel⟩
theorem ds_X11_seers : zDs yX11_seers 1 := ⟨by decide, by decide, by decide +kernel⟩
theorem ds_X11_loud : zDs yX11_loud 2 := ⟨by decide, by decide, by decide +kernel⟩
theorem ds_X11_breach : zDs yX11_breach 1 := ⟨by decide, by decide, by decide +kernel⟩
theorem ds_X11_canNot : zDs yX11_canNot 0 := ⟨by decide, by decide, by decide +kernel⟩
theorem ds_X11_seats : zDs yX11_seats 1 := ⟨by decide, by decide, by decide +kernel⟩
theorem ds_X11_change : zDs yX11_change 1 := ⟨by decide, by decide, by decide +kernel⟩
theorem ds_X11_still : zDs yX11_still 0 := ⟨by decide, by decide, by decide +kernel⟩
theorem ds_X11_heard : zDs yX11_heard 3 := ⟨by decide, by decide, by decide +kernel⟩
theorem ds_X11_forget : zDs yX11_forget 0 := ⟨by decide, by decide, by decide +kernel⟩
theorem ds_X11_coughed : zDs yX11_coughed 1 := ⟨by decide, by decide, by decide +kernel⟩
theorem ds_X11_next : zDs yX11_next 0 := ⟨by decide, by decide, by decide +kernel⟩
theorem ds_X11_is : zDs yX11_is 1 := ⟨by decide, by decide, by decide +kernel⟩
theorem ds_X11_leadOfBook0 : zDs yX11_leadOfBook0 2 := ⟨by decide, by decide, by decide +kernel⟩
theorem ds_X11_deacons : zDs yX11_deacons 1 := ⟨by decide, by decide, by decide +kernel⟩
theorem ds_X11_feasts : zDs yX11_feasts 4 := ⟨by decide, by decide, by decide +kernel⟩
theorem ds_X11_power : zDs yX11_power 2 := ⟨by decide, by decide, by decide +kernel⟩
theorem ds_X11_chancesOf : zDs yX11_chancesOf 2 := ⟨by decide, by decide, by decide +kernel⟩
theorem ds_X11_commonDivisor : zDs yX11_commonDivisor 2 := ⟨by decide, by decide, by decide +kernel⟩
theorem ds_X11_keepFraction : zDs yX11_keepFraction 2 := ⟨by decide, by decide, by decide +kernel⟩
theorem ds_X11_colds : zDs yX11_colds 2 := ⟨by decide, by decide, by decide +kernel⟩
theorem ds_X11_sundays : zDs yX11_sundays 2 := ⟨by decide, by decide, by decide +kernel⟩
theorem ds_X11_part : zDs yX11_part 1 := ⟨by decide, by decide, by decide +kernel⟩
theorem ds_X11_image : zDs yX11_image 1 := ⟨by decide, by decide, by decide +kernel⟩
theorem ds_X11_from : zDs yX11_from 1 := ⟨by decide, by decide, by decide +kernel⟩
theorem ds_X11_status : zDs yX11_status 1 := ⟨by decide, by decide, by decide +kernel⟩
theorem ds_X11_howMany : zDs yX11_howMany 1 := ⟨by decide, by decide, by decide +kernel⟩
theorem ds_X11_count : zDs yX11_count 1 := ⟨by decide, by decide, by decide +kernel⟩
theorem ds_X11_digest : zDs yX11_digest 0 := ⟨by decide, by decide, by decide +kernel⟩
theorem ds_X12_in : zDs yX12_in 3 := ⟨by decide, by decide, by decide +kernel⟩
theorem ds_X12_bad : zDs yX12_bad 1 := ⟨by decide, by decide, by decide +kernel⟩
theorem ds_X12_no : zDs yX12_no 0 := ⟨by decide, by decide, by decide +kernel⟩
theorem ds_X12_full : zDs yX12_full 0 := ⟨by decide, by decide, by decide +kernel⟩
theorem ds_X12_bits : zDs yX12_bits 1 := ⟨by decide, by decide, by decide +kernel⟩
theorem ds_X12_has : zDs yX12_has 2 := ⟨by decide, by decide, by decide +kernel⟩
theorem ds_X12_begin : zDs yX12_begin 2 := ⟨by decide, by decide, by decide +kernel⟩
theorem ds_X12_many : zDs yX12_many 0 := ⟨by decide, by decide, by decide +kernel⟩
theorem ds_X12_isFamily : zDs yX12_isFamily 1 := ⟨by decide, by decide, by decide +kernel⟩
theorem ds_X12_isWord : zDs yX12_isWord 1 := ⟨by decide, by decide, by decide +kernel⟩
theorem ds_X12_isBook : zDs yX12_isBook 1 := ⟨by decide, by decide, by decide +kernel⟩
theorem ds_X12_isPewOf : zDs yX12_isPewOf 2 := ⟨by decide, by decide, by decide +kernel⟩
theorem ds_X12_get : zDs yX12_get 2 := ⟨by decide, by decide, by decide +kernel⟩
theorem ds_X12_isTaken : zDs yX12_isTaken 2 := ⟨by decide, by decide, by decide +kernel⟩
theorem ds_X12_church : zDs yX12_church 1 := ⟨by decide, by decide, by decide +kernel⟩
theorem ds_X12_book : zDs yX12_book 2 := ⟨by decide, by decide, by decide +kernel⟩
theorem ds_X12_layFamily : zDs yX12_layFamily 6 := ⟨by decide, by decide, by decide +kernel⟩
theorem ds_X12_family : zDs yX12_family 5 := ⟨by decide, by decide, by decide +kernel⟩
theorem ds_X12_layHand : zDs yX12_layHand 0 := ⟨by decide, by decide, by decide +kernel⟩
theorem ds_X12_kneels : zDs yX12_kneels 2 := ⟨by decide, by decide, by decide +kernel⟩
theorem ds_X12_high : zDs yX12_high 2 := ⟨by decide, by decide, by decide +kernel⟩
theorem ds_X12_voices : zDs yX12_voices 2 := ⟨by decide, by decide, by decide +kernel⟩
theorem ds_X12_sees : zDs yX12_sees 2 := ⟨by decide, by decide, by decide +kernel⟩
theorem ds_X12_loudOf : zDs yX12_loudOf 2 := ⟨by decide, by decide, by decide +kernel⟩
theorem ds_X12_isPeace : zDs yX12_isPeace 1 := ⟨by decide, by decide, by decide +kernel⟩
theorem ds_X12_peaces : zDs yX12_peaces 0 := ⟨by decide, by decide, by decide +kernel⟩
theorem ds_X12_keep : zDs yX12_keep 0 := ⟨by decide, by decide, by decide +kernel⟩
theorem ds_X12_move : zDs yX12_move 2 := ⟨by decide, by decide, by decide +kernel⟩
theorem ds_X12_cold : zDs yX12_cold 2 := ⟨by decide, by decide, by decide +kernel⟩
theorem ds_X12_manyColds : zDs yX12_manyColds 0 := ⟨by decide, by decide, by decide +kernel⟩
theorem ds_X12_undo : zDs yX12_undo 0 := ⟨by decide, by decide, by decide +kernel⟩
theorem ds_X12_of : zDs yX12_of 2 := ⟨by decide, by decide, by decide +kernel⟩
theorem ds_X12_at : zDs yX12_at 3 := ⟨by decide, by decide, by decide +kernel⟩
theorem ds_X12_up : zDs yX12_up 1 := ⟨by decide, by decide, by decide +kernel⟩
theorem ds_X12_seers : zDs yX12_seers 1 := ⟨by decide, by decide, by decide +kernel⟩
theorem ds_X12_loud : zDs yX12_loud 2 := ⟨by decide, by decide, by decide +kernel⟩
theorem ds_X12_breach : zDs yX12_breach 1 := ⟨by decide, by decide, by decide +kernel⟩
theorem ds_X12_canNot : zDs yX12_canNot 0 := ⟨by decide, by decide, by decide +kernel⟩
theorem ds_X12_laySeats : zDs yX12_laySeats 1 := ⟨by decide, by decide, by decide +kernel⟩
theorem ds_X12_seeing : zDs yX12_seeing 0 := ⟨by decide, by decide, by decide +kernel⟩
theorem ds_X12_laySeating : zDs yX12_laySeating 0 := ⟨by decide, by decide, by decide +kernel⟩
theorem ds_X12_seats : zDs yX12_seats 1 := ⟨by decide, by decide, by decide +kernel⟩
theorem ds_X12_change : zDs yX12_change 1 := ⟨by decide, by decide, by decide +kernel⟩
theorem ds_X12_still : zDs yX12_still 0 := ⟨by decide, by decide, by decide +kernel⟩
theorem ds_X12_heard : zDs yX12_heard 3 := ⟨by decide, by decide, by decide +kernel⟩
theorem ds_X12_forget : zDs yX12_forget 0 := ⟨by decide, by decide, by decide +kernel⟩
theorem ds_X12_isHeardSo : zDs yX12_isHeardSo 0 := ⟨by decide, by decide, by decide +kernel⟩
theorem ds_X12_layMay : zDs yX12_layMay 0 := ⟨by decide, by decide, by decide +kernel⟩
theorem ds_X12_coughed : zDs yX12_coughed 1 := ⟨by decide, by decide, by decide +kernel⟩
theorem ds_X12_next : zDs yX12_next 0 := ⟨by decide, by decide, by decide +kernel⟩
theorem ds_X12_is : zDs yX12_is 1 := ⟨by decide, by decide, by decide +kernel⟩
theorem ds_X12_deaconOf : zDs yX12_deaconOf 1 := ⟨by decide, by decide, by decide +kernel⟩
theorem ds_X12_deacons : zDs yX12_deacons 1 := ⟨by decide, by decide, by decide +kernel⟩
theorem ds_X12_feasts : zDs yX12_feasts 4 := ⟨by decide, by decide, by decide +kernel⟩
theorem ds_X12_fraction : zDs yX12_fraction 2 := ⟨by decide, by decide, by decide +kernel⟩
theorem ds_X12_colds : zDs yX12_colds 2 := ⟨by decide, by decide, by decide +kernel⟩
theorem ds_X12_sundays : zDs yX12_sundays 2 := ⟨by decide, by decide, by decide +kernel⟩
theorem ds_X12_type : zDs yX12_type 1 := ⟨by decide, by decide, by decide +kernel⟩
theorem ds_X12_clear : zDs yX12_clear 0 := ⟨by decide, by decide, by decide +kernel⟩
theorem ds_X12_isSmall : zDs yX12_isSmall 1 := ⟨by decide, by decide, by decide +kernel⟩
theorem ds_X12_isFigure : zDs yX12_isFigure 1 := ⟨by decide, by decide, by decide +kernel⟩
theorem ds_X12_lookAt : zDs yX12_lookAt 1 := ⟨by decide, by decide, by decide +kernel⟩
theorem ds_X12_goBehind : zDs yX12_goBehind 0 := ⟨by decide, by decide, by decide +kernel⟩
theorem ds_X12_spells : zDs yX12_spells 7 := ⟨by decide, by decide, by decide +kernel⟩
theorem ds_X12_takes : zDs yX12_takes 3 := ⟨by decide, by decide, by decide +kernel⟩
theorem ds_X12_takesChurch : zDs yX12_takesChurch 0 := ⟨by decide, by decide, by decide +kernel⟩
theorem ds_X12_takesBook : zDs yX12_takesBook 0 := ⟨by decide, by decide, by decide +kernel⟩
theorem ds_X12_takesFamily : zDs yX12_takesFamily 0 := ⟨by decide, by decide, by decide +kernel⟩
theorem ds_X12_takesCold : zDs yX12_takesCold 0 := ⟨by decide, by decide, by decide +kernel⟩
theorem ds_X12_takesItem : zDs yX12_takesItem 0 := ⟨by decide, by decide, by decide +kernel⟩
theorem ds_X12_read : zDs yX12_read 0 := ⟨by decide, by decide, by decide +kernel⟩
theorem ds_X12_part : zDs yX12_part 1 := ⟨by decide, by decide, by decide +kernel⟩
theorem ds_X12_image : zDs yX12_image 1 := ⟨by decide, by decide, by decide +kernel⟩
theorem ds_X12_from : zDs yX12_from 1 := ⟨by decide, by decide, by decide +kernel⟩
theorem ds_X12_status : zDs yX12_status 1 := ⟨by decide, by decide, by decide +kernel⟩
theorem ds_X12_counted : zDs yX12_counted 1 := ⟨by decide, by decide, by decide +kernel⟩
theorem ds_X12_count : zDs yX12_count 1 := ⟨by decide, by decide, by decide +kernel⟩
theorem ds_X12_sums : zDs yX12_sums 3 := ⟨by decide, by decide, by decide +kernel⟩
theorem ds_X12_digest : zDs yX12_digest 0 := ⟨by decide, by decide, by decide +kernel⟩
theorem ds_J0_checkIndex_df160 : zDs yJ0_checkIndex_df160 2 := ⟨by decide, by decide, by decide +kernel⟩
end
